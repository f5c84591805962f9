/-! NO STEP TAKES A CELL AWAY -/
set_option maxHeartbeats 2000000 in
theorem am_grow {Tk nL rt : Nat} {Xs : Nat × (Nat → Int32)} {E : am_E} {lv : am_L} {st : List Value} {S S' : am_S} {F' : am_F} (h : am_step Tk Xs nL rt E lv st S = some (.inl (F', S'))) : S.1.length ≤ S'.1.length ∧ am_sz S ≤ am_sz S' := by
  obtain ⟨pc, I, a, b, x, z, ts⟩ := E
  cases I with
  | iconst n => cases h; exact ⟨Nat.le_refl _, Nat.le_refl _⟩
  | bipush n => cases h; exact ⟨Nat.le_refl _, Nat.le_refl _⟩
  | sipush n => cases h; exact ⟨Nat.le_refl _, Nat.le_refl _⟩
  | ldc_w i => cases h; exact ⟨Nat.le_refl _, Nat.le_refl _⟩
  | lconst n => cases h; exact ⟨Nat.le_refl _, Nat.le_refl _⟩
  | ldc2_w i => cases h; exact ⟨Nat.le_refl _, Nat.le_refl _⟩
  | goto off => cases h; exact ⟨Nat.le_refl _, Nat.le_refl _⟩
  | new i =>
    have h2 : am_nx (pc + 3) lv (.ref S.1.length :: st) (am_new Tk S (a + 4, b, List.replicate b none)) = some (.inl (F', S')) := h
    cases h2
    exact ⟨by simp [am_new], by rw [am_sz_new]; exact Nat.le_add_right _ _⟩
  | ldc i =>
    have h2 : (bif Nat.beq a 0 then am_nx (pc + 2) lv (.int x :: st) S else am_nx (pc + 2) lv (.retAddr 0 :: st) S) = some (.inl (F', S')) := h
    cases hb : Nat.beq a 0 with
    | true => rw [hb] at h2; cases h2; exact ⟨Nat.le_refl _, Nat.le_refl _⟩
    | false => rw [hb] at h2; cases h2; exact ⟨Nat.le_refl _, Nat.le_refl _⟩
  | iload i => obtain ⟨_, _, he⟩ := am_ldi_inv h; cases he; exact ⟨Nat.le_refl _, Nat.le_refl _⟩
  | iload_n i => obtain ⟨_, _, he⟩ := am_ldi_inv h; cases he; exact ⟨Nat.le_refl _, Nat.le_refl _⟩
  | lload i => obtain ⟨_, _, he⟩ := am_ldl_inv h; cases he; exact ⟨Nat.le_refl _, Nat.le_refl _⟩
  | lload_n i => obtain ⟨_, _, he⟩ := am_ldl_inv h; cases he; exact ⟨Nat.le_refl _, Nat.le_refl _⟩
  | aload i => obtain ⟨_, _, _, he⟩ := am_lda_inv h; cases he; exact ⟨Nat.le_refl _, Nat.le_refl _⟩
  | aload_n i => obtain ⟨_, _, _, he⟩ := am_lda_inv h; cases he; exact ⟨Nat.le_refl _, Nat.le_refl _⟩
  | istore i => obtain ⟨_, _, _, _, he⟩ := am_sti_inv h; cases he; exact ⟨Nat.le_refl _, Nat.le_refl _⟩
  | istore_n i => obtain ⟨_, _, _, _, he⟩ := am_sti_inv h; cases he; exact ⟨Nat.le_refl _, Nat.le_refl _⟩
  | lstore i => obtain ⟨_, _, _, _, he⟩ := am_stl_inv h; cases he; exact ⟨Nat.le_refl _, Nat.le_refl _⟩
  | lstore_n i => obtain ⟨_, _, _, _, he⟩ := am_stl_inv h; cases he; exact ⟨Nat.le_refl _, Nat.le_refl _⟩
  | astore i => obtain ⟨_, _, _, _, he⟩ := am_sta_inv h; cases he; exact ⟨Nat.le_refl _, Nat.le_refl _⟩
  | astore_n i => obtain ⟨_, _, _, _, he⟩ := am_sta_inv h; cases he; exact ⟨Nat.le_refl _, Nat.le_refl _⟩
  | iinc i n => obtain ⟨_, _, _, he⟩ := am_inc_inv h; cases he; exact ⟨Nat.le_refl _, Nat.le_refl _⟩
  | iadd => obtain ⟨_, _, _, _, he⟩ := am_i2_inv h; cases he; exact ⟨Nat.le_refl _, Nat.le_refl _⟩
  | isub => obtain ⟨_, _, _, _, he⟩ := am_i2_inv h; cases he; exact ⟨Nat.le_refl _, Nat.le_refl _⟩
  | imul => obtain ⟨_, _, _, _, he⟩ := am_i2_inv h; cases he; exact ⟨Nat.le_refl _, Nat.le_refl _⟩
  | iand => obtain ⟨_, _, _, _, he⟩ := am_i2_inv h; cases he; exact ⟨Nat.le_refl _, Nat.le_refl _⟩
  | ior => obtain ⟨_, _, _, _, he⟩ := am_i2_inv h; cases he; exact ⟨Nat.le_refl _, Nat.le_refl _⟩
  | ixor => obtain ⟨_, _, _, _, he⟩ := am_i2_inv h; cases he; exact ⟨Nat.le_refl _, Nat.le_refl _⟩
  | ishl => obtain ⟨_, _, _, _, he⟩ := am_i2_inv h; cases he; exact ⟨Nat.le_refl _, Nat.le_refl _⟩
  | ishr => obtain ⟨_, _, _, _, he⟩ := am_i2_inv h; cases he; exact ⟨Nat.le_refl _, Nat.le_refl _⟩
  | iushr => obtain ⟨_, _, _, _, he⟩ := am_i2_inv h; cases he; exact ⟨Nat.le_refl _, Nat.le_refl _⟩
  | ineg => obtain ⟨_, _, _, he⟩ := am_i1_inv h; cases he; exact ⟨Nat.le_refl _, Nat.le_refl _⟩
  | idiv => obtain ⟨_, _, _, _, _, he⟩ := am_iz_inv h; cases he; exact ⟨Nat.le_refl _, Nat.le_refl _⟩
  | irem => obtain ⟨_, _, _, _, _, he⟩ := am_iz_inv h; cases he; exact ⟨Nat.le_refl _, Nat.le_refl _⟩
  | ladd => obtain ⟨_, _, _, _, he⟩ := am_l2_inv h; cases he; exact ⟨Nat.le_refl _, Nat.le_refl _⟩
  | lsub => obtain ⟨_, _, _, _, he⟩ := am_l2_inv h; cases he; exact ⟨Nat.le_refl _, Nat.le_refl _⟩
  | lmul => obtain ⟨_, _, _, _, he⟩ := am_l2_inv h; cases he; exact ⟨Nat.le_refl _, Nat.le_refl _⟩
  | lor => obtain ⟨_, _, _, _, he⟩ := am_l2_inv h; cases he; exact ⟨Nat.le_refl _, Nat.le_refl _⟩
  | ldiv => obtain ⟨_, _, _, _, _, he⟩ := am_lz_inv h; cases he; exact ⟨Nat.le_refl _, Nat.le_refl _⟩
  | lneg => obtain ⟨_, _, _, he⟩ := am_l1_inv h; cases he; exact ⟨Nat.le_refl _, Nat.le_refl _⟩
  | lshl => obtain ⟨_, _, _, _, he⟩ := am_li_inv h; cases he; exact ⟨Nat.le_refl _, Nat.le_refl _⟩
  | lcmp => obtain ⟨_, _, _, _, he⟩ := am_lc_inv h; cases he; exact ⟨Nat.le_refl _, Nat.le_refl _⟩
  | i2l => obtain ⟨_, _, _, he⟩ := am_wd_inv h; cases he; exact ⟨Nat.le_refl _, Nat.le_refl _⟩
  | l2i => obtain ⟨_, _, _, he⟩ := am_nr_inv h; cases he; exact ⟨Nat.le_refl _, Nat.le_refl _⟩
  | dup => obtain ⟨_, _, _, _, he⟩ := am_dup_inv h; cases he; exact ⟨Nat.le_refl _, Nat.le_refl _⟩
  | dup_x1 => obtain ⟨_, _, _, _, _, _, he⟩ := am_dx1_inv h; cases he; exact ⟨Nat.le_refl _, Nat.le_refl _⟩
  | pop => obtain ⟨_, _, _, _, he⟩ := am_pop_inv h; cases he; exact ⟨Nat.le_refl _, Nat.le_refl _⟩
  | dup2 => rcases am_dp2_inv h with ⟨_, _, _, _, _, _, he⟩ | ⟨_, _, _, _, he⟩ <;> cases he <;> exact ⟨Nat.le_refl _, Nat.le_refl _⟩
  | ifCond k off => obtain ⟨_, _, _, he⟩ := am_if1_inv h; cases he; exact ⟨Nat.le_refl _, Nat.le_refl _⟩
  | if_icmp k off => obtain ⟨_, _, _, _, he⟩ := am_if2_inv h; cases he; exact ⟨Nat.le_refl _, Nat.le_refl _⟩
  | tableswitch d lo hi offs => obtain ⟨_, _, _, he⟩ := am_tsw_inv h; cases he; exact ⟨Nat.le_refl _, Nat.le_refl _⟩
  | getfield i => obtain ⟨_, _, _, _, _, _, _, _, _, he⟩ := am_gf_inv h; cases he; exact ⟨Nat.le_refl _, Nat.le_refl _⟩
  | putfield i =>
    obtain ⟨_, _, _, _, _, _, _, hc, _, hv, he⟩ := am_pf_inv h
    cases he
    rcases hv with ⟨_, _, _, rfl⟩ | ⟨_, _, _, _, rfl⟩ | ⟨_, _, _, rfl⟩ | ⟨_, _, _, _, rfl⟩
    · exact ⟨by rw [am_w_1]; exact Nat.le_refl _, by rw [am_sz_w]; exact Nat.le_refl _⟩
    · exact ⟨by rw [am_w_1]; exact Nat.le_refl _, by rw [am_sz_w]; exact Nat.le_refl _⟩
    · exact ⟨Nat.le_refl _, Nat.le_refl _⟩
    · exact ⟨by simp, by rw [am_sz_set hc]; exact Nat.le_refl _⟩
  | iaload =>
    have h2 : (bif am_isX st then am_xld Xs (pc + 1) lv st S else am_ald 0 (pc + 1) lv st S Tk) = some (.inl (F', S')) := h
    cases hX9 : am_isX st with
    | true => rw [hX9] at h2; obtain ⟨_, _, _, _, he⟩ := am_xld_inv h2; cases he; exact ⟨Nat.le_refl _, Nat.le_refl _⟩
    | false => rw [hX9] at h2; obtain ⟨_, _, _, _, _, _, _, _, he⟩ := am_ald_inv h2; cases he; exact ⟨Nat.le_refl _, Nat.le_refl _⟩
  | baload => obtain ⟨_, _, _, _, _, _, _, _, he⟩ := am_ald_inv h; cases he; exact ⟨Nat.le_refl _, Nat.le_refl _⟩
  | laload => obtain ⟨_, _, _, _, _, _, _, _, he⟩ := am_lld_inv h; cases he; exact ⟨Nat.le_refl _, Nat.le_refl _⟩
  | aaload => obtain ⟨_, _, _, _, _, _, _, _, _, _, he⟩ := am_rld_inv h; cases he; exact ⟨Nat.le_refl _, Nat.le_refl _⟩
  | iastore => obtain ⟨_, _, _, _, _, _, _, _, _, he⟩ := am_ast_inv h; cases he; exact ⟨by rw [am_w_1]; exact Nat.le_refl _, by rw [am_sz_w]; exact Nat.le_refl _⟩
  | bastore => obtain ⟨_, _, _, _, _, _, _, _, _, he⟩ := am_bst_inv h; cases he; exact ⟨by rw [am_w_1]; exact Nat.le_refl _, by rw [am_sz_w]; exact Nat.le_refl _⟩
  | lastore => obtain ⟨_, _, _, _, _, _, _, _, _, he⟩ := am_lst_inv h; cases he; exact ⟨Nat.le_refl _, Nat.le_refl _⟩
  | aastore =>
    obtain ⟨_, _, _, _, _, _, _, _, _, hc, _, _, _, he⟩ := am_rst_inv h
    cases he
    exact ⟨by simp, by rw [am_sz_set hc]; exact Nat.le_refl _⟩
  | arraylength =>
    have h2 : (bif am_isY st then am_xln Xs (pc + 1) lv st S else am_len (pc + 1) lv st S) = some (.inl (F', S')) := h
    cases hX9 : am_isY st with
    | true => rw [hX9] at h2; obtain ⟨_, _, he⟩ := am_xln_inv h2; cases he; exact ⟨Nat.le_refl _, Nat.le_refl _⟩
    | false => rw [hX9] at h2; obtain ⟨_, _, _, _, _, _, _, _, he⟩ := am_len_inv h2; cases he; exact ⟨Nat.le_refl _, Nat.le_refl _⟩
  | newarray t => obtain ⟨_, _, _, _, _, he⟩ := am_mka_inv h; cases he; exact ⟨by simp [am_new], by rw [am_sz_new]; exact Nat.le_add_right _ _⟩
  | anewarray i => obtain ⟨_, _, _, _, _, he⟩ := am_mka_inv h; cases he; exact ⟨by simp [am_new], by rw [am_sz_new]; exact Nat.le_add_right _ _⟩
  | invokevirtual i =>
    have h2 : (bif Nat.beq (ts.headD 0) 99 then am_chr ts.tail (pc + 3) lv st S else am_cv a b (ts.headD 0) (pc + 3) lv st S) = some (.inl (F', S')) := h
    cases h99 : Nat.beq (ts.headD 0) 99 with
    | true =>
      rw [h99] at h2
      obtain ⟨_, _, _, _, _, he⟩ := am_chr_inv h2
      cases he
      exact ⟨Nat.le_refl _, Nat.le_refl _⟩
    | false =>
      rw [h99] at h2
      obtain ⟨_, _, _, _, _, _, _, _, he⟩ := am_cv_inv h2
      cases he
  | invokestatic i =>
    have h2 : (bif Nat.beq (ts.headD 0) 7 then am_cpy (pc + 3) lv st S Tk else am_cs a b (pc + 3) lv st) = some (.inl (F', S')) := h
    cases h99 : Nat.beq (ts.headD 0) 7 with
    | true =>
      rw [h99] at h2
      obtain ⟨_, _, _, _, _, _, _, _, _, _, _, _, _, _, _, _, _, _, _, he⟩ := am_cpy_inv h2
      cases he
      exact ⟨by rw [am_w_1]; exact Nat.le_refl _, by rw [am_sz_w]; exact Nat.le_refl _⟩
    | false =>
      rw [h99] at h2
      obtain ⟨_, _, _, _, he⟩ := am_cs_inv h2
      cases he
  | invokespecial i =>
    have h2 : (bif Nat.beq (ts.headD 0) 6 then am_co (pc + 3) lv st S else am_ci a b (pc + 3) lv st) = some (.inl (F', S')) := h
    cases h99 : Nat.beq (ts.headD 0) 6 with
    | true =>
      rw [h99] at h2
      obtain ⟨_, _, _, _, he⟩ := am_co_inv h2
      cases he
      exact ⟨Nat.le_refl _, Nat.le_refl _⟩
    | false =>
      rw [h99] at h2
      obtain ⟨_, _, _, _, _, he⟩ := am_ci_inv h2
      cases he
  | ireturn => exact absurd h am_ret_nx
  | lreturn => exact absurd h am_rtl_nx
  | areturn => exact absurd h am_rta_nx
  | return_ => exact absurd h am_rtv_nx
  | _ =>
    have h3 : (none : Option am_A) = some (.inl (F', S')) := h
    cases h3
section AMX
variable {l : Launch}
variable {B Tk : Nat} {sa : Nat → Nat} {Kf : Nat → Nat → Nat} {aC : Nat → ClassId} {cl : List vw_C} {D : va_G} {Ts : List Jvm.Cond} {Cx : String} {ty0 : Nat → Nat → FieldType} {fl : List am_Fl} {ml : List am_Ml} {cn : Nat → String} {P : Nat → Option am_M} {Sg : State → Prop} {Xs : Nat × (Nat → Int32)}
/-- all that the words say of the program -/
def am_W (Ts : List Jvm.Cond) (B : Nat) (sa : Nat → Nat) (Kf : Nat → Nat → Nat) (cl : List vw_C) (Cx : String) (ty0 : Nat → Nat → FieldType) (fl : List am_Fl) (ml : List am_Ml) (cn : Nat → String) (P : Nat → Option am_M) (Sg : State → Prop) (Xs : Nat × (Nat → Int32)) : Prop :=
  am_FT Ts cl Kf ty0 ∧ am_FL Ts cl Kf cn fl ∧ am_MT Ts cl fl ml Cx cn P ∧ am_ML Ts cl ml cn P Sg ∧ Ts.all goodWord = true ∧ am_Sgk B Sg ∧ (∀ U : State, Sg U → va_AO Cx U) ∧ (∀ U : State, Sg U → va_X (sa 1) Xs.1 Xs.2 U U.heap ∧ sa 1 < U.heap.size ∧ ¬ B ≤ sa 1)
/-- the rows of the constant text, wherever they stand -/
def am_WX (l : Launch) (Ts : List Jvm.Cond) (B : Nat) (sa : Nat → Nat) (cl : List vw_C) (D : va_G) (aC : Nat → ClassId) (Cx : String) (P : Nat → Option am_M) (Sg : State → Prop) : Prop :=
  ∀ (mi : Nat) (M : am_M), P mi = some M → ∀ E ∈ M.2.2.2.2.2.2, ∀ (p : Program) (e : Env) (d mc ms : Nat) (s : State) (m : MethodId) (args : Array Value) (below : List Frame) (meth : Method) (c : Code) (Q : State → Prop), am_At Ts p s m args meth c B sa cl D aC Cx M → Sg s → am_Sx p l e (am_rm d mc ms) s m args below meth c Q B sa E
set_option maxHeartbeats 4000000 in
theorem am_sound (hW : am_W Ts B sa Kf cl Cx ty0 fl ml cn P Sg Xs) (hWX : am_WX l Ts B sa cl D aC Cx P Sg) : ∀ (n d mi : Nat) (M : am_M) (F : am_F) (S : am_S) (r : Option Value) (S' : am_S), P mi = some M → am_ax Tk Xs P n d mi F S = some (r, S') →
    S.1.length ≤ S'.1.length ∧ am_sz S ≤ am_sz S' ∧ ∀ (p : Program) (e : Env) (s : State) (m : MethodId) (args : Array Value) (below : List Frame) (meth : Method) (c : Code) (mc ms cells slots : Nat), am_At Ts p s m args meth c B sa cl D aC Cx M → Sg s → cells + S'.1.length = mc + S.1.length → slots + am_sz S' = ms + am_sz S →
      am_G p l e (am_rm d mc ms) s m args below meth c (MQ below (am_Qc B sa Tk Kf aC cl D r S') args s mc ms (fun q : Nat => B ≤ q)) B sa Tk M.2.2.1 Kf aC cl D F S cells slots := by
  obtain ⟨hFT, hFL, hMT, hML, hG, hSg, hAO, hXs⟩ := hW
  intro n
  induction n with
  | zero => intro d mi M F S r S' _ h; cases h
  | succ n ih =>
    intro d mi M F S r S' hP h
    obtain ⟨hpl, hnl, hrk, hcn, hokA⟩ := hMT mi M hP
    unfold am_ax at h
    rw [hP] at h
    dsimp only at h
    cases hf : am_find F.1 M.2.2.2.2.2.2 with
    | none => rw [hf] at h; cases h
    | some E =>
      rw [hf] at h
      obtain ⟨hEm, hE1⟩ := am_find_mem hf
      have hok := hokA E hEm
      obtain ⟨Fpc, Flv, Fst⟩ := F
      dsimp only at hE1
      subst hE1
      dsimp only at h
      cases hst : am_step Tk Xs M.2.2.1 M.2.2.2.2.1 E Flv Fst S with
      | none => rw [hst] at h; cases h
      | some A =>
        rw [hst] at h
        rcases A with ⟨F', S1⟩ | ⟨mj, As, F'⟩ | r'
        · have h : am_ax Tk Xs P n d mi F' S1 = some (r, S') := h
          obtain ⟨g1, g2, g3⟩ := ih d mi M F' S1 r S' hP h
          have key : ∀ (p : Program) (e : Env) (s : State) (m : MethodId) (args : Array Value) (below : List Frame) (meth : Method) (c : Code) (mc ms : Nat) (Q : State → Prop), am_At Ts p s m args meth c B sa cl D aC Cx M → Sg s → am_Stp p l e (am_rm d mc ms) s m args below meth c Q B sa Tk M.2.2.1 Kf aC cl D (E.1, Flv, Fst) S F' S1 :=
            fun p e s m args below meth c mc ms Q hA hs => am_step_in hA hFT hFL hcn (hAO s hs) (hXs s hs) (show 1 ≤ d + 8 by omega) (show 64 ≤ 64 * (d + 8) by omega) hok (hWX mi M hP E hEm p e d mc ms s m args below meth c Q hA hs) hst
          have hgrow := am_grow hst
          refine ⟨Nat.le_trans hgrow.1 g1, Nat.le_trans hgrow.2 g2, fun p e s m args below meth c mc ms cells slots hA hs e1 e2 => ?_⟩
          obtain ⟨dc, ds, q1, q2, q3⟩ := key p e s m args below meth c mc ms (MQ below (am_Qc B sa Tk Kf aC cl D r S') args s mc ms (fun q : Nat => B ≤ q)) hA hs
          exact q3 cells slots (show cells + dc ≤ mc by omega) (show slots + ds ≤ ms by omega) (g3 p e s m args below meth c mc ms (cells + dc) (slots + ds) hA hs (by omega) (by omega))
        · cases d with
          | zero =>
            have h : (none : Option (Option Value × am_S)) = some (r, S') := h
            cases h
          | succ d' =>
            have h : (match P mj with
              | none => none
              | some M' => bif Nat.ble (am_cat As) M'.2.2.1 then (match am_ax Tk Xs P n d' mj (0, lv_args 0 As, []) S with
                | none => none
                | some (r, S') => am_ax Tk Xs P n (d' + 1) mi (F'.1, F'.2.1, r.toList ++ F'.2.2) S') else none) = some (r, S') := h
            cases hM' : P mj with
            | none => rw [hM'] at h; cases h
            | some M' =>
              rw [hM'] at h
              dsimp only at h
              rw [cond_eq_ite] at h
              split at h
              · rename_i hcat
                have hcat := Nat.le_of_ble_eq_true hcat
                cases hc : am_ax Tk Xs P n d' mj (0, lv_args 0 As, []) S with
                | none => rw [hc] at h; cases h
                | some rs =>
                  obtain ⟨r1, S1⟩ := rs
                  rw [hc] at h
                  have h : am_ax Tk Xs P n (d' + 1) mi (F'.1, F'.2.1, r1.toList ++ F'.2.2) S1 = some (r, S') := h
                  obtain ⟨c1, c2, c3⟩ := ih d' mj M' _ S r1 S1 hM' hc
                  obtain ⟨g1, g2, g3⟩ := ih (d' + 1) mi M _ S1 r S' hP h
                  refine ⟨Nat.le_trans c1 g1, Nat.le_trans c2 g2, fun p e s m args below meth c mc ms cells slots hA hs e1 e2 => ?_⟩
                  obtain ⟨mc', hmc⟩ : ∃ k, S1.1.length = S.1.length + k := ⟨S1.1.length - S.1.length, by omega⟩
                  obtain ⟨ms', hms⟩ : ∃ k, am_sz S1 = am_sz S + k := ⟨am_sz S1 - am_sz S, by omega⟩
                  have hMet := am_met (l := l) (B := B) (sa := sa) (Tk := Tk) (Kf := Kf) (aC := aC) (D := D) (Sg := Sg) (d := d') (mc := mc') (ms := ms') (r := r1) hMT hM' hcat (S := S) (S1 := S1) (fun U hU => by rw [hU]; exact Nat.le_add_right _ _) hmc hms
                    (fun p e s m args below meth c hA hs => c3 p e s m args below meth c mc' ms' 0 0 hA hs (by omega) (by omega))
                  exact am_call_step hA hSg hs hG hMT hML hcn hok hst hM' hmc hMet (by omega) (by omega) (g3 p e s m args below meth c mc ms (cells + mc') (slots + ms') hA hs (by omega) (by omega))
              · cases h
        · have h : some (r', S) = some (r, S') := h
          cases h
          refine ⟨Nat.le_refl _, Nat.le_refl _, fun p e s m args below meth c mc ms cells slots hA hs e1 e2 => ?_⟩
          have e3 : cells = mc := by omega
          have e4 : slots = ms := by omega
          subst e3; subst e4
          exact am_step_ret hA hrk hok hst cells slots
end AMX
