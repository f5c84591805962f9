/-! WHICH STEPS CALL OR END -/
set_option maxHeartbeats 2000000 in
theorem am_step_inr {Tk nL rt pc a b : Nat} {Xs : Nat × (Nat → Int32)} {I : Instr} {x : Int32} {z : Int64} {ts : List Nat} {lv : am_L} {st : List Value} {S : am_S} {q : (Nat × List Value × am_F) ⊕ Option Value} (h : am_step Tk Xs nL rt (pc, I, a, b, x, z, ts) lv st S = some (.inr q)) :
    (∃ i, I = .invokevirtual i) ∨ (∃ i, I = .invokestatic i) ∨ (∃ i, I = .invokespecial i) ∨ I = .ireturn ∨ I = .lreturn ∨ I = .areturn ∨ I = .return_ := by
  cases I with
  | iconst n => cases h
  | bipush n => cases h
  | sipush n => cases h
  | ldc_w i => cases h
  | lconst n => cases h
  | ldc2_w i => cases h
  | goto off => cases h
  | new i => have h2 : am_nx (pc + 3) lv (.ref S.1.length :: st) (am_new Tk S (a + 4, b, List.replicate b none)) = some (.inr q) := h; cases h2
  | ldc i =>
    have h2 : (bif Nat.beq a 0 then am_nx (pc + 2) lv (.int x :: st) S else am_nx (pc + 2) lv (.retAddr 0 :: st) S) = some (.inr q) := h
    cases hb : Nat.beq a 0 with
    | true => rw [hb] at h2; cases h2
    | false => rw [hb] at h2; cases h2
  | iload i => obtain ⟨_, _, he⟩ := am_ldi_inv h; cases he
  | iload_n i => obtain ⟨_, _, he⟩ := am_ldi_inv h; cases he
  | lload i => obtain ⟨_, _, he⟩ := am_ldl_inv h; cases he
  | lload_n i => obtain ⟨_, _, he⟩ := am_ldl_inv h; cases he
  | aload i => obtain ⟨_, _, _, he⟩ := am_lda_inv h; cases he
  | aload_n i => obtain ⟨_, _, _, he⟩ := am_lda_inv h; cases he
  | istore i => obtain ⟨_, _, _, _, he⟩ := am_sti_inv h; cases he
  | istore_n i => obtain ⟨_, _, _, _, he⟩ := am_sti_inv h; cases he
  | lstore i => obtain ⟨_, _, _, _, he⟩ := am_stl_inv h; cases he
  | lstore_n i => obtain ⟨_, _, _, _, he⟩ := am_stl_inv h; cases he
  | astore i => obtain ⟨_, _, _, _, he⟩ := am_sta_inv h; cases he
  | astore_n i => obtain ⟨_, _, _, _, he⟩ := am_sta_inv h; cases he
  | iinc i n => obtain ⟨_, _, _, he⟩ := am_inc_inv h; cases he
  | iadd => obtain ⟨_, _, _, _, he⟩ := am_i2_inv h; cases he
  | isub => obtain ⟨_, _, _, _, he⟩ := am_i2_inv h; cases he
  | imul => obtain ⟨_, _, _, _, he⟩ := am_i2_inv h; cases he
  | iand => obtain ⟨_, _, _, _, he⟩ := am_i2_inv h; cases he
  | ior => obtain ⟨_, _, _, _, he⟩ := am_i2_inv h; cases he
  | ixor => obtain ⟨_, _, _, _, he⟩ := am_i2_inv h; cases he
  | ishl => obtain ⟨_, _, _, _, he⟩ := am_i2_inv h; cases he
  | ishr => obtain ⟨_, _, _, _, he⟩ := am_i2_inv h; cases he
  | iushr => obtain ⟨_, _, _, _, he⟩ := am_i2_inv h; cases he
  | ineg => obtain ⟨_, _, _, he⟩ := am_i1_inv h; cases he
  | idiv => obtain ⟨_, _, _, _, _, he⟩ := am_iz_inv h; cases he
  | irem => obtain ⟨_, _, _, _, _, he⟩ := am_iz_inv h; cases he
  | ladd => obtain ⟨_, _, _, _, he⟩ := am_l2_inv h; cases he
  | lsub => obtain ⟨_, _, _, _, he⟩ := am_l2_inv h; cases he
  | lmul => obtain ⟨_, _, _, _, he⟩ := am_l2_inv h; cases he
  | lor => obtain ⟨_, _, _, _, he⟩ := am_l2_inv h; cases he
  | ldiv => obtain ⟨_, _, _, _, _, he⟩ := am_lz_inv h; cases he
  | lneg => obtain ⟨_, _, _, he⟩ := am_l1_inv h; cases he
  | lshl => obtain ⟨_, _, _, _, he⟩ := am_li_inv h; cases he
  | lcmp => obtain ⟨_, _, _, _, he⟩ := am_lc_inv h; cases he
  | i2l => obtain ⟨_, _, _, he⟩ := am_wd_inv h; cases he
  | l2i => obtain ⟨_, _, _, he⟩ := am_nr_inv h; cases he
  | dup => obtain ⟨_, _, _, _, he⟩ := am_dup_inv h; cases he
  | dup_x1 => obtain ⟨_, _, _, _, _, _, he⟩ := am_dx1_inv h; cases he
  | pop => obtain ⟨_, _, _, _, he⟩ := am_pop_inv h; cases he
  | dup2 => rcases am_dp2_inv h with ⟨_, _, _, _, _, _, he⟩ | ⟨_, _, _, _, he⟩ <;> cases he
  | ifCond k off => obtain ⟨_, _, _, he⟩ := am_if1_inv h; cases he
  | if_icmp k off => obtain ⟨_, _, _, _, he⟩ := am_if2_inv h; cases he
  | tableswitch d lo hi offs => obtain ⟨_, _, _, he⟩ := am_tsw_inv h; cases he
  | getfield i => obtain ⟨_, _, _, _, _, _, _, _, _, he⟩ := am_gf_inv h; cases he
  | putfield i => obtain ⟨_, _, _, _, _, _, _, _, _, _, he⟩ := am_pf_inv h; cases he
  | iaload =>
    have h2 : (bif am_isX st then am_xld Xs (pc + 1) lv st S else am_ald 0 (pc + 1) lv st S Tk) = some (.inr q) := h
    cases hX9 : am_isX st with
    | true => rw [hX9] at h2; obtain ⟨_, _, _, _, he⟩ := am_xld_inv h2; cases he
    | false => rw [hX9] at h2; obtain ⟨_, _, _, _, _, _, _, _, he⟩ := am_ald_inv h2; cases he
  | baload => obtain ⟨_, _, _, _, _, _, _, _, he⟩ := am_ald_inv h; cases he
  | laload => obtain ⟨_, _, _, _, _, _, _, _, he⟩ := am_lld_inv h; cases he
  | aaload => obtain ⟨_, _, _, _, _, _, _, _, _, _, he⟩ := am_rld_inv h; cases he
  | iastore => obtain ⟨_, _, _, _, _, _, _, _, _, he⟩ := am_ast_inv h; cases he
  | bastore => obtain ⟨_, _, _, _, _, _, _, _, _, he⟩ := am_bst_inv h; cases he
  | lastore => obtain ⟨_, _, _, _, _, _, _, _, _, he⟩ := am_lst_inv h; cases he
  | aastore => obtain ⟨_, _, _, _, _, _, _, _, _, _, _, _, _, he⟩ := am_rst_inv h; cases he
  | arraylength =>
    have h2 : (bif am_isY st then am_xln Xs (pc + 1) lv st S else am_len (pc + 1) lv st S) = some (.inr q) := h
    cases hX9 : am_isY st with
    | true => rw [hX9] at h2; obtain ⟨_, _, he⟩ := am_xln_inv h2; cases he
    | false => rw [hX9] at h2; obtain ⟨_, _, _, _, _, _, _, _, he⟩ := am_len_inv h2; cases he
  | newarray t => obtain ⟨_, _, _, _, _, he⟩ := am_mka_inv h; cases he
  | anewarray i => obtain ⟨_, _, _, _, _, he⟩ := am_mka_inv h; cases he
  | invokevirtual i => exact Or.inl ⟨i, rfl⟩
  | invokestatic i => exact Or.inr (Or.inl ⟨i, rfl⟩)
  | invokespecial i => exact Or.inr (Or.inr (Or.inl ⟨i, rfl⟩))
  | ireturn => exact Or.inr (Or.inr (Or.inr (Or.inl rfl)))
  | lreturn => exact Or.inr (Or.inr (Or.inr (Or.inr (Or.inl rfl))))
  | areturn => exact Or.inr (Or.inr (Or.inr (Or.inr (Or.inr (Or.inl rfl)))))
  | return_ => exact Or.inr (Or.inr (Or.inr (Or.inr (Or.inr (Or.inr rfl)))))
  | _ =>
    have h3 : (none : Option am_A) = some (.inr q) := h
    cases h3
theorem am_ret_inv {rt : Nat} {st : List Value} {A : am_A} (h : am_ret rt st = some A) : ∃ v, st = [.int v] ∧ ((rt = 1 ∧ A = .inr (.inr (some (.int v)))) ∨ (rt = 2 ∧ A = .inr (.inr (some (.int (v &&& 1)))))) := by
  unfold am_ret at h
  split at h
  · exact ⟨_, rfl, Or.inl ⟨rfl, (Option.some.inj h).symm⟩⟩
  · exact ⟨_, rfl, Or.inr ⟨rfl, (Option.some.inj h).symm⟩⟩
  · cases h
theorem am_rtl_inv {rt : Nat} {st : List Value} {A : am_A} (h : am_rtl rt st = some A) : ∃ v, st = [.long v] ∧ rt = 3 ∧ A = .inr (.inr (some (.long v))) := by
  unfold am_rtl at h
  split at h
  · exact ⟨_, rfl, rfl, (Option.some.inj h).symm⟩
  · cases h
theorem am_rta_inv {rt : Nat} {st : List Value} {A : am_A} (h : am_rta rt st = some A) : ∃ v, st = [.ref v] ∧ rt = 4 ∧ A = .inr (.inr (some (.ref v))) := by
  unfold am_rta at h
  split at h
  · exact ⟨_, rfl, rfl, (Option.some.inj h).symm⟩
  · cases h
theorem am_rtv_inv {rt : Nat} {st : List Value} {A : am_A} (h : am_rtv rt st = some A) : st = [] ∧ rt = 0 ∧ A = .inr (.inr none) := by
  unfold am_rtv at h
  split at h
  · exact ⟨rfl, rfl, (Option.some.inj h).symm⟩
  · cases h
section AMR
variable {p : Program} {l : Launch} {e : Env} {R : Room} {s : State} {m : MethodId} {args : Array Value} {below : List Frame} {meth : Method} {c : Code} {Q : State → Prop}
variable {B Tk : Nat} {sa : Nat → Nat} {Kf : Nat → Nat → Nat} {aC : Nat → ClassId} {cl : List vw_C} {D : va_G} {Ts : List Jvm.Cond} {Cx : String} {M : am_M} {ty0 : Nat → Nat → FieldType} {fl : List am_Fl} {ml : List am_Ml} {cn : Nat → String} {P : Nat → Option am_M} {Sg : State → Prop} {Xs : Nat × (Nat → Int32)}
theorem am_step_ret (hA : am_At Ts p s m args meth c B sa cl D aC Cx M) (hrk : am_rk M.2.2.2.2.1 M.2.2.2.1) {E : am_E} (hok : am_okb Ts cl fl ml Cx M E = true) {lv : am_L} {st : List Value} {S : am_S} {r : Option Value} (h : am_step Tk Xs M.2.2.1 M.2.2.2.2.1 E lv st S = some (.inr (.inr r))) (cells slots : Nat) :
    am_G p l e R s m args below meth c (MQ below (am_Qc B sa Tk Kf aC cl D r S) args s cells slots (fun q : Nat => B ≤ q)) B sa Tk M.2.2.1 Kf aC cl D (E.1, lv, st) S cells slots := by
  obtain ⟨hx, hb, hr, hlk, hml, hown, hts, hnm, hK⟩ := hA
  obtain ⟨pc, I, a, b, x, z, ts⟩ := E
  intro H locs ls hI hl
  have fin : ∀ (v : Option Value) (t : State), t.heap = H → am_Qc B sa Tk Kf aC cl D v S args s (.returned (v.map (am_v B sa))) t := fun v t ht => ⟨rfl, by rw [ht]; exact hI.1, by
    refine ⟨by rw [ht]; exact hI.2.1.1, fun q h1 h2 => by rw [ht]; exact hI.2.1.2.1 q h1 h2⟩⟩
  rcases am_step_inr h with ⟨i, rfl⟩ | ⟨i, rfl⟩ | ⟨i, rfl⟩ | rfl | rfl | rfl | rfl
  · have h2 : (bif Nat.beq (ts.headD 0) 99 then am_chr ts.tail (pc + 3) lv st S else am_cv a b (ts.headD 0) (pc + 3) lv st S) = some (.inr (.inr r)) := h
    cases h99 : Nat.beq (ts.headD 0) 99 with
    | true =>
      rw [h99] at h2
      obtain ⟨_, _, _, _, _, he⟩ := am_chr_inv h2
      cases he
    | false =>
      rw [h99] at h2
      obtain ⟨_, _, _, _, _, _, _, _, he⟩ := am_cv_inv h2
      cases he
  · have h2 : (bif Nat.beq (ts.headD 0) 7 then am_cpy (pc + 3) lv st S Tk else am_cs a b (pc + 3) lv st) = some (.inr (.inr r)) := h
    cases h99 : Nat.beq (ts.headD 0) 7 with
    | true =>
      rw [h99] at h2
      obtain ⟨_, _, _, _, _, _, _, _, _, _, _, _, _, _, _, _, _, _, _, he⟩ := am_cpy_inv h2
      cases he
    | false =>
      rw [h99] at h2
      obtain ⟨_, _, _, _, he⟩ := am_cs_inv h2
      cases he
  · have h2 : (bif Nat.beq (ts.headD 0) 6 then am_co (pc + 3) lv st S else am_ci a b (pc + 3) lv st) = some (.inr (.inr r)) := h
    cases h99 : Nat.beq (ts.headD 0) 6 with
    | true =>
      rw [h99] at h2
      obtain ⟨_, _, _, _, he⟩ := am_co_inv h2
      cases he
    | false =>
      rw [h99] at h2
      obtain ⟨_, _, _, _, _, he⟩ := am_ci_inv h2
      cases he
  · obtain ⟨v, rfl, ⟨hrt, he⟩ | ⟨hrt, he⟩⟩ := am_ret_inv h
    · cases he
      rw [hrt] at hrk
      exact W.iret hx hb (hr.trans hrk) (fun t ht _ => fin (some (.int v)) t ht) hI.2.1.2.2 (of_decide_eq_true hok) hlk
    · cases he
      rw [hrt] at hrk
      exact am_zret hx hb (hr.trans hrk) hlk (fun t ht _ => fin (some (.int (v &&& 1))) t ht) hI.2.1.2.2 (of_decide_eq_true hok)
  · obtain ⟨v, rfl, hrt, he⟩ := am_rtl_inv h
    cases he
    rw [hrt] at hrk
    exact W.lret hx hb (hr.trans hrk) (fun t ht _ => fin (some (.long v)) t ht) hI.2.1.2.2 (of_decide_eq_true hok) hlk
  · obtain ⟨v, rfl, hrt, he⟩ := am_rta_inv h
    cases he
    rw [hrt] at hrk
    obtain ⟨C, hC⟩ := hrk
    exact W.aret hx hb (hr.trans hC) (Or.inl ⟨C, rfl⟩) (Or.inr ⟨_, rfl⟩) (fun t ht _ => fin (some (.ref v)) t ht) hI.2.1.2.2 (of_decide_eq_true hok) hlk
  · obtain ⟨rfl, hrt, he⟩ := am_rtv_inv h
    cases he
    rw [hrt] at hrk
    exact W.vret hx hb (hr.trans hrk) (fun t ht _ => fin none t ht) hI.2.1.2.2 (of_decide_eq_true hok) hlk
end AMR
