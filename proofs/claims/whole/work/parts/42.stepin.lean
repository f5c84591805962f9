section AMU
variable {p : Program} {l : Launch} {e : Env} {R : Room} {s : State} {m : MethodId} {args : Array Value} {below : List Frame} {meth : Method} {c : Code} {Q : State → Prop}
variable {B Tk : Nat} {sa : Nat → Nat} {Kf : Nat → Nat → Nat} {aC : Nat → ClassId} {cl : List vw_C} {D : va_G} {Ts : List Jvm.Cond} {Cx : String} {M : am_M} {ty0 : Nat → Nat → FieldType} {fl : List am_Fl} {ml : List am_Ml} {cn : Nat → String}
/-- the rows of the constant text -/
def am_Sx (p : Program) (l : Launch) (e : Env) (R : Room) (s : State) (m : MethodId) (args : Array Value) (below : List Frame) (meth : Method) (c : Code) (Q : State → Prop) (B : Nat) (sa : Nat → Nat) (E : am_E) : Prop :=
  (∀ i, E.2.1 = .ldc i → Nat.beq E.2.2.1 0 = false → ∀ (H : Heap) (locs : List Loc) (cells slots : Nat) (ls : Array Slot) (rest : List Value), va_S (fun q : Nat => B ≤ q) s.heap H locs → W p l e R s m args below meth c H locs cells slots Q (F0 m (E.1 + 2) ls (.ref (sa 0) :: rest)) → W p l e R s m args below meth c H locs cells slots Q (F0 m E.1 ls rest)) ∧
  (∀ i, E.2.1 = .invokevirtual i → Nat.beq (E.2.2.2.2.2.2.headD 0) 99 = true → ∀ (H : Heap) (locs : List Loc) (cells slots : Nat) (ls : Array Slot) (rest : List Value) (j : Int32), va_S (fun q : Nat => B ≤ q) s.heap H locs → cells ≤ R.cells → slots ≤ R.slots → ls.size = c.maxLocals → (rest.map fun v => v.category).sum ≤ 8 → ¬ (j < 0 ∨ E.2.2.2.2.2.2.tail.length ≤ j.toNatClampNeg) → W p l e R s m args below meth c H locs cells slots Q (F0 m (E.1 + 3) ls (.int (Int32.ofNat (E.2.2.2.2.2.2.tail.getD j.toNatClampNeg 0)) :: rest)) → W p l e R s m args below meth c H locs cells slots Q (F0 m E.1 ls (.int j :: .ref (sa 0) :: rest)))
theorem am_sw_in {x lo : Int32} {d : Nat} : ∀ {ts : List Nat}, 0 ≤ lo.toInt → lo.toInt + ts.length < 1000 → (x.toInt < lo.toInt ∨ lo.toInt + ts.length ≤ x.toInt → am_sw x lo d ts = d) ∧ (∀ t, ¬ x.toInt < lo.toInt → x.toInt < lo.toInt + ts.length → ts[(x.toInt - lo.toInt).toNat]? = some t → am_sw x lo d ts = t)
  | [], _, _ => ⟨fun _ => rfl, fun t h1 h2 _ => absurd h2 (by simp; omega)⟩
  | t0 :: ts, h0, h1 => by
    have e1 : (lo + 1).toInt = lo.toInt + 1 := by
      rw [Int32.toInt_add]
      have : (1 : Int32).toInt = 1 := by decide
      rw [this]
      simp only [List.length_cons] at h1
      apply Int.bmod_eq_of_le <;> omega
    have ih := am_sw_in (x := x) (lo := lo + 1) (d := d) (ts := ts) (by omega) (by rw [e1]; simp only [List.length_cons] at h1; omega)
    rw [e1] at ih
    simp only [List.length_cons] at h1 ⊢
    refine ⟨fun h => ?_, fun t ha hb hc => ?_⟩
    · unfold am_sw
      rw [if_neg (fun q => by subst q; omega)]
      exact ih.1 (by omega)
    · unfold am_sw
      by_cases hq : x = lo
      · subst hq
        rw [if_pos rfl]
        simp at hc
        exact hc
      · rw [if_neg hq]
        have hne : x.toInt ≠ lo.toInt := fun q => hq (Int32.toInt_inj.mp q)
        refine ih.2 t (by omega) (by omega) ?_
        have e2 : (x.toInt - lo.toInt).toNat = (x.toInt - (lo.toInt + 1)).toNat + 1 := by omega
        rw [e2] at hc
        simpa using hc
theorem am_cv_inv {mi n ci pc : Nat} {lv : am_L} {st : List Value} {S : am_S} {A : am_A} (h : am_cv mi n ci pc lv st S = some A) : ∃ As i rest n' rs, am_args n [] st = some (As, .ref i :: rest) ∧ S.1[i]? = some (ci + 4, n', rs) ∧ am_cat rest ≤ 8 ∧ A = .inr (.inl (mi, .ref i :: As, (pc, lv, rest))) := by
  unfold am_cv at h
  split at h
  · rename_i As i rest hargs
    split at h
    · rename_i t n' rs hc
      rw [cond_eq_ite] at h
      split at h
      · rename_i hb
        rw [Bool.and_eq_true] at hb
        have ht := am_beq hb.1
        subst ht
        exact ⟨As, i, rest, n', rs, hargs, hc, Nat.le_of_ble_eq_true hb.2, (Option.some.inj h).symm⟩
      · cases h
    · cases h
  · cases h
theorem am_cs_inv {mi n pc : Nat} {lv : am_L} {st : List Value} {A : am_A} (h : am_cs mi n pc lv st = some A) : ∃ As rest, am_args n [] st = some (As, rest) ∧ am_cat rest ≤ 8 ∧ A = .inr (.inl (mi, As, (pc, lv, rest))) := by
  unfold am_cs at h
  split at h
  · rename_i As rest hargs
    rw [cond_eq_ite] at h
    split at h
    · rename_i hb
      exact ⟨As, rest, hargs, Nat.le_of_ble_eq_true hb, (Option.some.inj h).symm⟩
    · cases h
  · cases h
theorem am_ci_inv {mi n pc : Nat} {lv : am_L} {st : List Value} {A : am_A} (h : am_ci mi n pc lv st = some A) : ∃ As i rest, am_args n [] st = some (As, .ref i :: rest) ∧ am_cat rest ≤ 8 ∧ A = .inr (.inl (mi, .ref i :: As, (pc, lv, rest))) := by
  unfold am_ci at h
  split at h
  · rename_i As i rest hargs
    rw [cond_eq_ite] at h
    split at h
    · rename_i hb
      exact ⟨As, i, rest, hargs, Nat.le_of_ble_eq_true hb, (Option.some.inj h).symm⟩
    · cases h
  · cases h
theorem am_co_inv {pc : Nat} {lv : am_L} {st : List Value} {S : am_S} {A : am_A} (h : am_co pc lv st S = some A) : ∃ i rest, st = .ref i :: rest ∧ am_cat rest ≤ 8 ∧ A = .inl ((pc, lv, rest), S) := by
  unfold am_co at h
  split at h
  · rw [cond_eq_ite] at h
    split at h
    · rename_i hb
      exact ⟨_, _, rfl, Nat.le_of_ble_eq_true hb, (Option.some.inj h).symm⟩
    · cases h
  · cases h
theorem am_ret_nx {rt : Nat} {st : List Value} {q : am_F × am_S} : ¬ am_ret rt st = some (.inl q) := by
  intro h; unfold am_ret at h; split at h <;> cases h
theorem am_rtl_nx {rt : Nat} {st : List Value} {q : am_F × am_S} : ¬ am_rtl rt st = some (.inl q) := by
  intro h; unfold am_rtl at h; split at h <;> cases h
theorem am_rta_nx {rt : Nat} {st : List Value} {q : am_F × am_S} : ¬ am_rta rt st = some (.inl q) := by
  intro h; unfold am_rta at h; split at h <;> cases h
theorem am_rtv_nx {rt : Nat} {st : List Value} {q : am_F × am_S} : ¬ am_rtv rt st = some (.inl q) := by
  intro h; unfold am_rtv at h; split at h <;> cases h
theorem am_bit {x : Int32} (h : x &&& 1 = x) : x = 0 ∨ x = 1 := by
  obtain ⟨j, hj, e⟩ := pk_andE x (m := 1) 1 (by decide)
  rw [h] at e
  rcases (show j = 0 ∨ j = 1 by omega) with rfl | rfl
  · exact Or.inl e
  · exact Or.inr e
theorem am_fitz {x : Int32} (h : x &&& 1 = x) : fits .boolean (.int x) = true := by
  rcases am_bit h with rfl | rfl <;> rfl
set_option maxHeartbeats 4000000 in
theorem am_step_in (hA : am_At Ts p s m args meth c B sa cl D aC Cx M) (hFT : am_FT Ts cl Kf ty0) (hFL : am_FL Ts cl Kf cn fl) (hcn : cn M.2.2.2.2.2.1 = M.1.cls) (hAO : va_AO Cx s) {Xs : Nat × (Nat → Int32)} (hXs : va_X (sa 1) Xs.1 Xs.2 s s.heap ∧ sa 1 < s.heap.size ∧ ¬ B ≤ sa 1) (hR1 : 1 ≤ R.frames) (hR2 : 64 ≤ R.locals) {E : am_E} (hok : am_okb Ts cl fl ml Cx M E = true) (hX : am_Sx p l e R s m args below meth c Q B sa E)
    {lv : am_L} {st : List Value} {S : am_S} {F' : am_F} {S' : am_S} (h : am_step Tk Xs M.2.2.1 M.2.2.2.2.1 E lv st S = some (.inl (F', S'))) : am_Stp p l e R s m args below meth c Q B sa Tk M.2.2.1 Kf aC cl D (E.1, lv, st) S F' S' := by
  obtain ⟨hx, hb, hr, hlk, hml, hown, hts, hnm, hK⟩ := hA
  obtain ⟨pc, I, a, b, x, z, ts⟩ := E
  have hA : ∀ q, s.heap.size ≤ q → B ≤ q → B ≤ q := fun _ _ h => h
  cases I with
  | iconst n =>
    have hk := of_decide_eq_true hok
    cases h
    exact am_Stp.row fun H locs cells slots ls hl k => lv_iconst hx hb hk.1 hk.2 k
  | bipush n =>
    have hk := of_decide_eq_true hok
    cases h
    exact am_Stp.row fun H locs cells slots ls hl k => lv_bipush hx hb hk.1 hk.2 k
  | sipush n =>
    have hk := of_decide_eq_true hok
    cases h
    exact am_Stp.row fun H locs cells slots ls hl k => lv_sipush hx hb hk.1 hk.2 k
  | ldc i =>
    have hk := (Bool.and_eq_true _ _).mp hok
    have hd := of_decide_eq_true hk.1
    have hk2 := hk.2
    cases hb0 : Nat.beq a 0 with
    | true =>
      rw [hb0] at hk2
      have hw := hts _ (of_decide_eq_true hk2)
      have h : (bif Nat.beq a 0 then am_nx (pc + 2) lv (.int x :: st) S else am_nx (pc + 2) lv (.retAddr 0 :: st) S) = _ := h
      rw [hb0] at h
      cases h
      exact am_Stp.row fun H locs cells slots ls hl k => lv_ldc hx hb hown hw hd k
    | false =>
      have h : (bif Nat.beq a 0 then am_nx (pc + 2) lv (.int x :: st) S else am_nx (pc + 2) lv (.retAddr 0 :: st) S) = _ := h
      rw [hb0] at h
      cases h
      exact am_Stp.same rfl rfl fun cells slots h H locs ls hI hl => hX.1 i rfl hb0 H locs cells slots ls _ hI.2.1 (h H locs ls hI hl)
  | ldc_w i =>
    have hk := of_decide_eq_true hok
    cases h
    exact am_Stp.row fun H locs cells slots ls hl k => lv_ldcw hx hb hown (hts _ hk.2) hk.1 k
  | lconst n =>
    have hk := of_decide_eq_true hok
    cases h
    exact am_Stp.row fun H locs cells slots ls hl k => lv_lconst hx hb hk.1 hk.2 k
  | ldc2_w i =>
    have hk := of_decide_eq_true hok
    cases h
    exact am_Stp.row fun H locs cells slots ls hl k => lv_ldc2 hx hb hown (hts _ hk.2) hk.1 k
  | iload i =>
    have hk := of_decide_eq_true hok
    obtain ⟨v, hv, he⟩ := am_ldi_inv h
    cases he
    exact am_Stp.row fun H locs cells slots ls hl k => lv_iload hx hb hk (am_loc_at hl hv) k
  | iload_n i =>
    have hk := of_decide_eq_true hok
    obtain ⟨v, hv, he⟩ := am_ldi_inv h
    cases he
    exact am_Stp.row fun H locs cells slots ls hl k => lv_iload_n hx hb hk rfl (am_loc_at hl hv) k
  | lload i =>
    have hk := of_decide_eq_true hok
    obtain ⟨v, hv, he⟩ := am_ldl_inv h
    cases he
    exact am_Stp.row fun H locs cells slots ls hl k => lv_lload hx hb hk (am_loc_at hl hv) k
  | lload_n i =>
    have hk := of_decide_eq_true hok
    obtain ⟨v, hv, he⟩ := am_ldl_inv h
    cases he
    exact am_Stp.row fun H locs cells slots ls hl k => lv_lload_n hx hb hk rfl (am_loc_at hl hv) k
  | aload i =>
    have hk := of_decide_eq_true hok
    obtain ⟨v, hv, hrf, he⟩ := am_lda_inv h
    cases he
    refine am_Stp.row fun H locs cells slots ls hl k => ?_
    obtain ⟨xr, hxr⟩ := hrf B sa
    have hat := am_loc_at hl hv
    rw [List.map_cons, hxr] at k
    rw [hxr] at hat
    exact lv_aload hx hb hk hat k
  | aload_n i =>
    have hk := of_decide_eq_true hok
    obtain ⟨v, hv, hrf, he⟩ := am_lda_inv h
    cases he
    refine am_Stp.row fun H locs cells slots ls hl k => ?_
    obtain ⟨xr, hxr⟩ := hrf B sa
    have hat := am_loc_at hl hv
    rw [List.map_cons, hxr] at k
    rw [hxr] at hat
    exact lv_aload_n hx hb hk rfl hat k
  | istore i =>
    have hk := of_decide_eq_true hok
    obtain ⟨v, st', rfl, hi, he⟩ := am_sti_inv h
    cases he
    exact am_Stp.loc fun H locs cells slots ls hl k => lv_istore hx hb hk hl hi (am_st1_map B sa lv i (.int v)) k
  | istore_n i =>
    have hk := of_decide_eq_true hok
    obtain ⟨v, st', rfl, hi, he⟩ := am_sti_inv h
    cases he
    exact am_Stp.loc fun H locs cells slots ls hl k => lv_istore_n hx hb hk rfl hl hi (am_st1_map B sa lv i (.int v)) k
  | lstore i =>
    have hk := of_decide_eq_true hok
    obtain ⟨v, st', rfl, hi, he⟩ := am_stl_inv h
    cases he
    exact am_Stp.loc fun H locs cells slots ls hl k => lv_lstore hx hb hk hl hi (am_st2_map B sa lv i (.long v)) k
  | lstore_n i =>
    have hk := of_decide_eq_true hok
    obtain ⟨v, st', rfl, hi, he⟩ := am_stl_inv h
    cases he
    exact am_Stp.loc fun H locs cells slots ls hl k => lv_lstore_n hx hb hk rfl hl hi (am_st2_map B sa lv i (.long v)) k
  | astore i =>
    have hk := of_decide_eq_true hok
    obtain ⟨v, st', rfl, hi, he⟩ := am_sta_inv h
    cases he
    exact am_Stp.loc fun H locs cells slots ls hl k => lv_astore hx hb hk hl hi (am_st1_map B sa lv i (.ref v)) k
  | astore_n i =>
    have hk := of_decide_eq_true hok
    obtain ⟨v, st', rfl, hi, he⟩ := am_sta_inv h
    cases he
    exact am_Stp.loc fun H locs cells slots ls hl k => lv_astore_n hx hb hk rfl hl hi (am_st1_map B sa lv i (.ref v)) k
  | iinc i n =>
    have hk := of_decide_eq_true hok
    obtain ⟨v, hv, hi, he⟩ := am_inc_inv h
    cases he
    refine am_Stp.loc fun H locs cells slots ls hl k => ?_
    obtain ⟨kk, hkk⟩ := List.getElem?_of_mem (List.mem_map.mpr ⟨(i, .int v), am_loc_mem hv, rfl⟩ : (i, am_v B sa (.int v)) ∈ am_lm B sa lv)
    exact lv_iinc hx hb hk.1 hl hkk (by rw [hk.2]) hi (am_st1_map B sa lv i (.int (v + x))) k
  | iadd => obtain ⟨u, v, st', rfl, he⟩ := am_i2_inv h; cases he; exact am_Stp.row fun H locs cells slots ls hl k => lv_iadd hx hb (of_decide_eq_true hok) k
  | isub => obtain ⟨u, v, st', rfl, he⟩ := am_i2_inv h; cases he; exact am_Stp.row fun H locs cells slots ls hl k => lv_isub hx hb (of_decide_eq_true hok) k
  | imul => obtain ⟨u, v, st', rfl, he⟩ := am_i2_inv h; cases he; exact am_Stp.row fun H locs cells slots ls hl k => lv_imul hx hb (of_decide_eq_true hok) k
  | iand => obtain ⟨u, v, st', rfl, he⟩ := am_i2_inv h; cases he; exact am_Stp.row fun H locs cells slots ls hl k => lv_iand hx hb (of_decide_eq_true hok) k
  | ior => obtain ⟨u, v, st', rfl, he⟩ := am_i2_inv h; cases he; exact am_Stp.row fun H locs cells slots ls hl k => lv_ior hx hb (of_decide_eq_true hok) k
  | ixor => obtain ⟨u, v, st', rfl, he⟩ := am_i2_inv h; cases he; exact am_Stp.row fun H locs cells slots ls hl k => lv_ixor hx hb (of_decide_eq_true hok) k
  | ishl => obtain ⟨u, v, st', rfl, he⟩ := am_i2_inv h; cases he; exact am_Stp.row fun H locs cells slots ls hl k => lv_ishl hx hb (of_decide_eq_true hok) k
  | ishr => obtain ⟨u, v, st', rfl, he⟩ := am_i2_inv h; cases he; exact am_Stp.row fun H locs cells slots ls hl k => lv_ishr hx hb (of_decide_eq_true hok) k
  | iushr => obtain ⟨u, v, st', rfl, he⟩ := am_i2_inv h; cases he; exact am_Stp.row fun H locs cells slots ls hl k => lv_iushr hx hb (of_decide_eq_true hok) rfl k
  | ineg => obtain ⟨u, st', rfl, he⟩ := am_i1_inv h; cases he; exact am_Stp.row fun H locs cells slots ls hl k => lv_ineg hx hb (of_decide_eq_true hok) k
  | idiv => obtain ⟨u, v, st', rfl, h0, he⟩ := am_iz_inv h; cases he; exact am_Stp.row fun H locs cells slots ls hl k => lv_idiv hx hb (of_decide_eq_true hok) h0 k
  | irem => obtain ⟨u, v, st', rfl, h0, he⟩ := am_iz_inv h; cases he; exact am_Stp.row fun H locs cells slots ls hl k => lv_irem hx hb (of_decide_eq_true hok) h0 k
  | ladd => obtain ⟨u, v, st', rfl, he⟩ := am_l2_inv h; cases he; exact am_Stp.row fun H locs cells slots ls hl k => lv_ladd hx hb (of_decide_eq_true hok) k
  | lsub => obtain ⟨u, v, st', rfl, he⟩ := am_l2_inv h; cases he; exact am_Stp.row fun H locs cells slots ls hl k => lv_lsub hx hb (of_decide_eq_true hok) k
  | lmul => obtain ⟨u, v, st', rfl, he⟩ := am_l2_inv h; cases he; exact am_Stp.row fun H locs cells slots ls hl k => lv_lmul hx hb (of_decide_eq_true hok) k
  | lor => obtain ⟨u, v, st', rfl, he⟩ := am_l2_inv h; cases he; exact am_Stp.row fun H locs cells slots ls hl k => lv_lor hx hb (of_decide_eq_true hok) k
  | ldiv => obtain ⟨u, v, st', rfl, h0, he⟩ := am_lz_inv h; cases he; exact am_Stp.row fun H locs cells slots ls hl k => lv_ldiv hx hb (of_decide_eq_true hok) h0 k
  | lneg => obtain ⟨u, st', rfl, he⟩ := am_l1_inv h; cases he; exact am_Stp.row fun H locs cells slots ls hl k => lv_lneg hx hb (of_decide_eq_true hok) k
  | lshl => obtain ⟨u, v, st', rfl, he⟩ := am_li_inv h; cases he; exact am_Stp.row fun H locs cells slots ls hl k => lv_lshl hx hb (of_decide_eq_true hok) rfl k
  | lcmp => obtain ⟨u, v, st', rfl, he⟩ := am_lc_inv h; cases he; exact am_Stp.row fun H locs cells slots ls hl k => W.lcmp hx hb (of_decide_eq_true hok) k
  | i2l => obtain ⟨u, st', rfl, he⟩ := am_wd_inv h; cases he; exact am_Stp.row fun H locs cells slots ls hl k => lv_i2l hx hb (of_decide_eq_true hok) rfl k
  | l2i => obtain ⟨u, st', rfl, he⟩ := am_nr_inv h; cases he; exact am_Stp.row fun H locs cells slots ls hl k => lv_l2i hx hb (of_decide_eq_true hok) rfl k
  | dup =>
    obtain ⟨v, st', rfl, hv, he⟩ := am_dup_inv h
    cases he
    exact am_Stp.row fun H locs cells slots ls hl k => lv_dup hx hb (of_decide_eq_true hok) (by rw [am_v_cat]; exact hv) k
  | dup_x1 =>
    obtain ⟨v, w, st', rfl, hv, hw, he⟩ := am_dx1_inv h
    cases he
    exact am_Stp.row fun H locs cells slots ls hl k => lv_dup_x1 hx hb (of_decide_eq_true hok) (by rw [am_v_cat]; exact hv) (by rw [am_v_cat]; exact hw) k
  | dup2 =>
    rcases am_dp2_inv h with ⟨v, w, st', rfl, hv, hw, he⟩ | ⟨v, st', rfl, hv, he⟩
    · cases he
      exact am_Stp.row fun H locs cells slots ls hl k => lv_dup2_11 hx hb (of_decide_eq_true hok) (by rw [am_v_cat]; exact hv) (by rw [am_v_cat]; exact hw) k
    · cases he
      exact am_Stp.row fun H locs cells slots ls hl k => lv_dup2_2 hx hb (of_decide_eq_true hok) (by rw [am_v_cat]; exact hv) k
  | pop =>
    obtain ⟨v, st', rfl, hv, he⟩ := am_pop_inv h
    cases he
    exact am_Stp.row fun H locs cells slots ls hl k => lv_pop hx hb (of_decide_eq_true hok) (by rw [am_v_cat]; exact hv) k
  | ifCond kc off =>
    have hk := of_decide_eq_true hok
    obtain ⟨u, st', rfl, he⟩ := am_if1_inv h
    cases he
    exact am_Stp.row fun H locs cells slots ls hl k => am_if_row hx hb hk.1 hk.2 k
  | if_icmp kc off =>
    have hk := of_decide_eq_true hok
    obtain ⟨u, v, st', rfl, he⟩ := am_if2_inv h
    cases he
    exact am_Stp.row fun H locs cells slots ls hl k => am_icmp_row hx hb hk.1 hk.2 k
  | goto off =>
    have hk := of_decide_eq_true hok
    cases h
    exact am_Stp.row fun H locs cells slots ls hl k => lv_goto hx hb hk.1 hk.2 k
  | tableswitch d lo hi offs =>
    obtain ⟨hd, hdf, hlo, hhi, hl0, hl1, hof⟩ := of_decide_eq_true hok
    obtain ⟨u, st', rfl, he⟩ := am_tsw_inv h
    cases he
    refine am_Stp.row fun H locs cells slots ls hl k => ?_
    have hsw := am_sw_in (x := u) (lo := x) (d := a) (ts := ts) (by omega) (by omega)
    by_cases hin : u.toInt < lo ∨ hi < u.toInt
    · rw [hsw.1 (by omega)] at k
      exact lv_tableOut hx hb hd hin hdf k
    · have hlt : (u.toInt - lo).toNat < ts.length := by omega
      obtain ⟨t, ht⟩ : ∃ t, ts[(u.toInt - lo).toNat]? = some t := ⟨_, List.getElem?_eq_getElem hlt⟩
      rw [hsw.2 t (by omega) (by omega) (by rw [hlo]; exact ht)] at k
      have e1 : (offs.toList.map (fun o => (pc : Int) + o))[(u.toInt - lo).toNat]? = some (t : Int) := by rw [hof, List.getElem?_map, ht]; rfl
      rw [List.getElem?_map] at e1
      cases ho : offs.toList[(u.toInt - lo).toNat]? with
      | none => rw [ho] at e1; cases e1
      | some o =>
        rw [ho] at e1
        refine lv_tableIn (off := o) hx hb hd (fun q => hin (Or.inl q)) (fun q => hin (Or.inr q)) ?_ (Option.some.inj e1) k
        rw [← Array.getElem?_toList]; exact ho
  | getfield i =>
    have hk := of_decide_eq_true hok
    have h2 : am_gf a b (ts.headD 0) (pc + 3) lv st S Tk = some (.inl (F', S')) := h
    clear h hok hX
    generalize ts.headD 0 = ci at h2 hk
    obtain ⟨i0, st', n, rs, v, rfl, hc, hkn, hv, he⟩ := am_gf_inv h2
    obtain ⟨C, T, N, hcl, hkN, hKf, hlink⟩ := hFL _ _ _ _ _ hk.2
    obtain ⟨hin, hty, hnam, hdec, hkt⟩ := hFT _ C T N hcl
    rw [hcn] at hlink
    cases he
    refine am_Stp.same rfl rfl fun cells slots h H locs ls hI hl => ?_
    have hat := am_ws_at (B := B) (Tk := Tk) (Kf := Kf) (aC := aC) hc
    refine va_get (v := am_v B sa v) hx hb hts hin hown hK hI.1 i0 hat hcl a hkN (hts _ hlink) (fun _ h9 => h9) ?_ hk.1 (h H locs ls hI hl)
    rw [List.getElem?_map, List.getElem?_range hkn]
    refine congrArg some ?_
    unfold am_fv
    rcases hv with ⟨rfl, rfl⟩ | ⟨rfl, rfl⟩ | ⟨rfl, rfl⟩ | ⟨h0, j, hj, rfl⟩
    · rw [hKf]; rfl
    · rw [hKf]; rfl
    · rw [hKf]; rfl
    · obtain ⟨q, rfl⟩ : ∃ q, b = q + 3 := ⟨b - 3, by omega⟩
      rw [hKf]
      show va_rf ((rs.getD a none).map (fun j => B + j)) = .ref (B + j)
      rw [List.getD_eq_getElem?_getD, hj]; rfl
  | putfield i =>
    have hk := (Bool.and_eq_true _ _).mp hok
    have hk1 := of_decide_eq_true hk.1
    have hk2 := hk.2
    have h2 : am_pf a b (ts.headD 0) (pc + 3) lv st S Tk = some (.inl (F', S')) := h
    clear h hok hX hk
    generalize ts.headD 0 = ci at h2 hk1 hk2
    obtain ⟨i0, st', v, n, rs, S1, rfl, hc, hkn, hv, he⟩ := am_pf_inv h2
    obtain ⟨C, T, N, hcl, hkN, hKf, hlink⟩ := hFL _ _ _ _ _ hk1.2
    obtain ⟨hin, hty, hnam, hdec, hkt⟩ := hFT _ C T N hcl
    rw [hcn] at hlink
    cases he
    have hfin := hk2
    rw [hcl] at hfin
    have hfin := of_decide_eq_true hfin
    have hat := am_ws_at (B := B) (Tk := Tk) (Kf := Kf) (aC := aC) hc
    have hkt := hkt a hkN
    have hty1 := hty a hkN
    have hlen : a < ((List.range n).map (am_fv B (Kf ci) rs (am_h Tk S i0) (S.2.2.2 i0))).length := by simpa using hkn
    have main : ∀ (S1 : am_S), S1.1.length = S.1.length → am_sz S1 = am_sz S → am_ws B Tk Kf aC S1 = (am_ws B Tk Kf aC S).set i0 (B + i0, .inr (ci, ((List.range n).map (am_fv B (Kf ci) rs (am_h Tk S i0) (S.2.2.2 i0))).set a (am_v B sa v))) → narrow (ty0 ci a) (am_v B sa v) = am_v B sa v → fits (ty0 ci a) (am_v B sa v) = true →
        am_Stp p l e R s m args below meth c Q B sa Tk M.2.2.1 Kf aC cl D (pc, lv, v :: .ref i0 :: st') S (pc + 3, lv, st') S1 := by
      intro S1 e1 e2 e3 hn hf
      refine am_Stp.put e1 e2 fun H locs cells slots ls hP hS hl kk => ?_
      rw [e3] at kk
      rcases hfin with hfin | hfin
      · exact va_put (ty := ty0 ci a) (v := am_v B sa v) hx hb hts hin (ty0 ci) hty hnam hown hK hP (am_ws_D S) hS i0 hat hcl a hkN (hts _ hlink) (fun _ h9 => h9) hfin hty1 hn hf hlen hk1.1 (fun H1 locs1 q1 _ q3 => kk H1 locs1 q1 q3)
      · by_cases hfl : (T a).2.2.2 = false
        · exact va_put (ty := ty0 ci a) (v := am_v B sa v) hx hb hts hin (ty0 ci) hty hnam hown hK hP (am_ws_D S) hS i0 hat hcl a hkN (hts _ hlink) (fun _ h9 => h9) hfl hty1 hn hf hlen hk1.1 (fun H1 locs1 q1 _ q3 => kk H1 locs1 q1 q3)
        · exact va_putF (ty := ty0 ci a) (v := am_v B sa v) hx hb hts hin (ty0 ci) hty hnam hown hK hP (am_ws_D S) hS i0 hat hcl a hkN (hts _ hlink) (fun _ h9 => h9) (by cases hz : (T a).2.2.2 with | false => exact absurd hz hfl | true => rfl) (hnm hfin.1) hfin.2 hty1 hn hf hlen hk1.1 (fun H1 locs1 q1 _ q3 => kk H1 locs1 q1 q3)
    rcases hv with ⟨h0, x0, rfl, rfl⟩ | ⟨h0, x0, hx0, rfl, rfl⟩ | ⟨h0, x0, rfl, rfl⟩ | ⟨h0, j, rfl, hrl, rfl⟩
    · rw [hKf, h0] at hkt
      have hkt : ty0 ci a = .int := hkt
      refine main _ (by rw [am_w_1]) (am_sz_w S i0 _) ?_ (by rw [hkt]; rfl) (by rw [hkt]; rfl)
      rw [am_ws_w hc]
      show _ = (am_ws B Tk Kf aC S).set i0 (B + i0, .inr (ci, ((List.range n).map _).set a (.int x0)))
      rw [am_fs_int (Or.inl (by rw [hKf, h0]))]
      rfl
    · rw [hKf, h0] at hkt
      have hkt : ty0 ci a = .boolean := hkt
      have hz : narrow .boolean (.int x0) = .int x0 := by show Value.int (x0 &&& 1) = _; rw [hx0]
      refine main _ (by rw [am_w_1]) (am_sz_w S i0 _) ?_ (by rw [hkt]; exact hz) (by rw [hkt]; exact am_fitz hx0)
      rw [am_ws_w hc]
      show _ = (am_ws B Tk Kf aC S).set i0 (B + i0, .inr (ci, ((List.range n).map _).set a (.int x0)))
      rw [am_fs_int (Or.inr (by rw [hKf, h0]))]
      rfl
    · rw [hKf, h0] at hkt
      have hkt : ty0 ci a = .long := hkt
      refine main _ rfl rfl ?_ (by rw [hkt]; rfl) (by rw [hkt]; rfl)
      rw [am_ws_wl hc]
      show _ = (am_ws B Tk Kf aC S).set i0 (B + i0, .inr (ci, ((List.range n).map _).set a (.long x0)))
      rw [am_fs_long (by rw [hKf, h0])]
      rfl
    · rw [hKf, h0] at hkt
      have hkt : (∃ n, ty0 ci a = .object n) ∨ ∃ t, ty0 ci a = .array t := hkt
      refine main _ (by simp) (am_sz_set hc) ?_ (by rcases hkt with ⟨n, hn⟩ | ⟨n, hn⟩ <;> rw [hn] <;> rfl) (by rcases hkt with ⟨n, hn⟩ | ⟨n, hn⟩ <;> rw [hn] <;> rfl)
      rw [am_ws_s hc]
      show _ = (am_ws B Tk Kf aC S).set i0 (B + i0, .inr (ci, ((List.range n).map _).set a (.ref (B + j))))
      rw [am_fs_ref (by rw [hKf, h0]) hrl]
      rfl
  | iaload =>
    have h2 : (bif am_isX st then am_xld Xs (pc + 1) lv st S else am_ald 0 (pc + 1) lv st S Tk) = some (.inl (F', S')) := h
    cases hX9 : am_isX st with
    | true =>
      rw [hX9] at h2
      obtain ⟨j, st', rfl, hin, he⟩ := am_xld_inv h2
      cases he
      exact am_Stp.same rfl rfl fun cells slots h H locs ls hI hl => va_sld hx hb hXs.1 hXs.2.1 hXs.2.2 hI.2.1 hin (of_decide_eq_true hok) (h H locs ls hI hl)
    | false =>
    rw [hX9] at h2
    obtain ⟨j, i, st', n, rs, rfl, hc, hin, he⟩ := am_ald_inv h2
    cases he
    exact am_Stp.same rfl rfl fun cells slots h H locs ls hI hl => va_iald hx hb hK hI.1 i 0 (am_ws_at hc) rfl hin (of_decide_eq_true hok) (h H locs ls hI hl)
  | baload =>
    obtain ⟨j, i, st', n, rs, rfl, hc, hin, he⟩ := am_ald_inv h
    cases he
    exact am_Stp.same rfl rfl fun cells slots h H locs ls hI hl => va_zald hx hb hK hI.1 i 1 (am_ws_at hc) rfl hin (of_decide_eq_true hok) (h H locs ls hI hl)
  | laload =>
    obtain ⟨j, i, st', n, rs, rfl, hc, hin, he⟩ := am_lld_inv h
    cases he
    exact am_Stp.same rfl rfl fun cells slots h H locs ls hI hl => va_lald hx hb hK hI.1 i 2 (am_ws_at hc) rfl hin (of_decide_eq_true hok) (h H locs ls hI hl)
  | aaload =>
    obtain ⟨j, i, st', n, rs, k, rfl, hc, hin, hk, he⟩ := am_rld_inv h
    cases he
    refine am_Stp.same rfl rfl fun cells slots h H locs ls hI hl => va_aldq hx hb hK hI.1 i 3 (am_ws_at hc) rfl hin (of_decide_eq_true hok) ?_
    have e1 : va_rf ((rs.getD j.toNatClampNeg none).map (fun q => B + q)) = .ref (B + k) := by simp [hk, va_rf]
    show W p l e R s m args below meth c H locs cells slots Q (F0 m (pc + 1) ls (va_rf ((rs.getD j.toNatClampNeg none).map (fun q => B + q)) :: _))
    rw [e1]
    exact h H locs ls hI hl
  | iastore =>
    obtain ⟨x0, j, i, st', n, rs, rfl, hc, hin, he⟩ := am_ast_inv h
    cases he
    refine am_Stp.put (by rw [am_w_1]) (am_sz_w S i _) fun H locs cells slots ls hP hS hl kk => ?_
    rw [am_ws_w hc] at kk
    exact va_iast hx hb hK hP (am_ws_D S) hS i 0 (am_ws_at hc) rfl hin (of_decide_eq_true hok) (fun H1 locs1 q1 _ q3 => kk H1 locs1 q1 q3)
  | bastore =>
    obtain ⟨x0, j, i, st', n, rs, rfl, hc, hin, he⟩ := am_bst_inv h
    cases he
    refine am_Stp.put (by rw [am_w_1]) (am_sz_w S i _) fun H locs cells slots ls hP hS hl kk => ?_
    rw [am_ws_w hc] at kk
    exact va_zast hx hb hK hP (am_ws_D S) hS i 1 (am_ws_at hc) rfl hin (of_decide_eq_true hok) (fun H1 locs1 q1 _ q3 => kk H1 locs1 q1 q3)
  | lastore =>
    obtain ⟨x0, j, i, st', n, rs, rfl, hc, hin, he⟩ := am_lst_inv h
    cases he
    refine am_Stp.put rfl rfl fun H locs cells slots ls hP hS hl kk => ?_
    rw [am_ws_wl hc] at kk
    exact va_last hx hb hK hP (am_ws_D S) hS i 2 (am_ws_at hc) rfl hin (of_decide_eq_true hok) (fun H1 locs1 q1 _ q3 => kk H1 locs1 q1 q3)
  | arraylength =>
    have h2 : (bif am_isY st then am_xln Xs (pc + 1) lv st S else am_len (pc + 1) lv st S) = some (.inl (F', S')) := h
    cases hX9 : am_isY st with
    | true =>
      rw [hX9] at h2
      obtain ⟨st', rfl, he⟩ := am_xln_inv h2
      cases he
      exact am_Stp.same rfl rfl fun cells slots h H locs ls hI hl => va_slen hx hb hXs.1 hXs.2.1 hXs.2.2 hI.2.1 (of_decide_eq_true hok) (h H locs ls hI hl)
    | false =>
    rw [hX9] at h2
    obtain ⟨i, st', t, n, rs, rfl, hc, ht, he⟩ := am_len_inv h2
    cases he
    refine am_Stp.same rfl rfl fun cells slots h H locs ls hI hl => ?_
    have hat := am_ws_at (B := B) (Tk := Tk) (Kf := Kf) (aC := aC) hc
    rcases (show t = 0 ∨ t = 1 ∨ t = 2 ∨ t = 3 by omega) with rfl | rfl | rfl | rfl
    · exact va_alen hx hb hK hI.1 i 0 hat rfl rfl (of_decide_eq_true hok) (h H locs ls hI hl)
    · exact va_alen hx hb hK hI.1 i 1 hat rfl rfl (of_decide_eq_true hok) (h H locs ls hI hl)
    · exact va_alen hx hb hK hI.1 i 2 hat rfl rfl (of_decide_eq_true hok) (h H locs ls hI hl)
    · exact va_alen hx hb hK hI.1 i 3 hat rfl rfl (of_decide_eq_true hok) (h H locs ls hI hl)
  | newarray t =>
    obtain ⟨hd, hta, hw⟩ := of_decide_eq_true hok
    obtain ⟨n, st', rfl, hn0, hn1, he⟩ := am_mka_inv h
    cases he
    refine ⟨1, n.toNatClampNeg, by simp [am_new], by rw [am_sz_new], fun cells slots hc1 hs1 k H locs ls hI hl => ?_⟩
    have hA0 : ∀ q, s.heap.size ≤ q → B ≤ q := fun q hq => Nat.le_trans hI.2.2.2.2 hq
    rcases hta with ⟨rfl, rfl⟩ | ⟨rfl, rfl⟩ | ⟨rfl, rfl⟩
    · refine va_newa (ty := .int) (a0 := (n.toNatClampNeg, .inl (fun _ => 0))) hx hb (hts _ hw) rfl hK hI.1 (am_ws_D S) hI.2.1 hA0 (fun _ => rfl) hn0 rfl (by show n.toNatClampNeg * 4 ≤ _; omega) hc1 hs1 hd fun q cA H1 hK1 hP1 hD1 hS1 => ?_
      have hcA : cA = aC 0 := Option.some.inj (((hK1.2 4 (cA, .int) rfl).2).symm.trans ((hK.2 0 (aC 0, .int) rfl).2))
      exact am_I_new (cnew := (0, n.toNatClampNeg, [])) (g := fun q => F0 m (pc + 2) ls (.ref q :: st'.map (am_v B sa))) hI (by rw [hcA]; rfl) hP1 hD1 hS1 (fun hI1 => k H1 locs ls hI1 hl)
    · refine va_newa (ty := .boolean) (a0 := (n.toNatClampNeg, .inl (fun _ => 0))) hx hb (hts _ hw) rfl hK hI.1 (am_ws_D S) hI.2.1 hA0 (fun _ => rfl) hn0 rfl (by show n.toNatClampNeg * 1 ≤ _; omega) hc1 hs1 hd fun q cA H1 hK1 hP1 hD1 hS1 => ?_
      have hcA : cA = aC 1 := Option.some.inj (((hK1.2 4 (cA, .boolean) rfl).2).symm.trans ((hK.2 1 (aC 1, .boolean) rfl).2))
      exact am_I_new (cnew := (1, n.toNatClampNeg, [])) (g := fun q => F0 m (pc + 2) ls (.ref q :: st'.map (am_v B sa))) hI (by rw [hcA]; rfl) hP1 hD1 hS1 (fun hI1 => k H1 locs ls hI1 hl)
    · refine va_newa (ty := .long) (a0 := (n.toNatClampNeg, .inr (.inl (fun _ => 0)))) hx hb (hts _ hw) rfl hK hI.1 (am_ws_D S) hI.2.1 hA0 (fun _ => rfl) hn0 rfl (by show n.toNatClampNeg * 8 ≤ _; omega) hc1 hs1 hd fun q cA H1 hK1 hP1 hD1 hS1 => ?_
      have hcA : cA = aC 2 := Option.some.inj (((hK1.2 4 (cA, .long) rfl).2).symm.trans ((hK.2 2 (aC 2, .long) rfl).2))
      exact am_I_new (cnew := (2, n.toNatClampNeg, [])) (g := fun q => F0 m (pc + 2) ls (.ref q :: st'.map (am_v B sa))) hI (by rw [hcA]; rfl) hP1 hD1 hS1 (fun hI1 => k H1 locs ls hI1 hl)
  | anewarray i =>
    obtain ⟨hd, hw1⟩ := of_decide_eq_true hok
    obtain ⟨n, st', rfl, hn0, hn1, he⟩ := am_mka_inv h
    cases he
    refine ⟨1, n.toNatClampNeg, by simp [am_new], by rw [am_sz_new], fun cells slots hc1 hs1 k H locs ls hI hl => ?_⟩
    have hA0 : ∀ q, s.heap.size ≤ q → B ≤ q := fun q hq => Nat.le_trans hI.2.2.2.2 hq
    refine va_newq hx hb hown (hts _ hw1) hAO hK hI.1 (am_ws_D S) hI.2.1 hA0 hn0 rfl (by omega) hc1 hs1 hd fun q cA H1 hK1 hP1 hD1 hS1 => ?_
    have hcA : cA = aC 3 := by
      obtain ⟨_, _, _, _, _, h1⟩ := (hK1.2 4 (cA, .object Cx) rfl).2
      obtain ⟨_, _, _, _, _, h2⟩ := (hK.2 3 (aC 3, .object Cx) rfl).2
      exact Option.some.inj (h1.symm.trans h2)
    refine am_I_new (cnew := (3, n.toNatClampNeg, List.replicate n.toNatClampNeg none)) (g := fun q => F0 m (pc + 3) ls (.ref q :: st'.map (am_v B sa))) hI ?_ hP1 hD1 hS1 (fun hI1 => k H1 locs ls hI1 hl)
    rw [hcA]
    refine congrArg (fun f : Nat → Option Nat => (Sum.inl (aC 3, n.toNatClampNeg, Sum.inr (Sum.inr (Sum.inr (Sum.inr f)))) : va_E)) (funext fun j => ?_)
    show none = ((List.replicate n.toNatClampNeg (none : Option Nat)).getD j none).map (fun q => B + q)
    have e1 : (List.replicate n.toNatClampNeg (none : Option Nat)).getD j none = none := by
      rw [List.getD_eq_getElem?_getD, List.getElem?_replicate]
      split <;> rfl
    rw [e1]; rfl
  | aastore =>
    have hk := (Bool.and_eq_true _ _).mp hok
    have hd := of_decide_eq_true hk.1
    have hk2 := hk.2
    obtain ⟨k0, j, i, st', n, rs, n', rs', rfl, hc, hc', hjl, hin, he⟩ := am_rst_inv h
    cases he
    cases hcl : cl[a]? with
    | none => rw [hcl] at hk2; cases hk2
    | some r =>
      rw [hcl] at hk2
      obtain ⟨C, T, N⟩ := r
      have hC : C = Cx := of_decide_eq_true hk2
      subst hC
      refine am_Stp.put (by simp) (am_sz_set hc) fun H locs cells slots ls hP hS hl kk => ?_
      rw [am_ws_s hc] at kk
      refine va_astq hx hb hK hP (am_ws_D S) hS i 3 k0 a (am_ws_at hc) rfl (am_ws_at hc') hcl hin hd (fun H1 locs1 q1 _ q3 => kk H1 locs1 ?_ q3)
      have e1 : am_e B Kf aC (3, n, rs.set j.toNatClampNeg (some k0)) (am_h Tk S i) (S.2.2.2 i) = Sum.inl (aC 3, n, Sum.inr (Sum.inr (Sum.inr (Sum.inr (va_up (fun j => (rs.getD j none).map (fun q => B + q)) j.toNatClampNeg (some (B + k0))))))) := by
        show Sum.inl (aC 3, n, Sum.inr (Sum.inr (Sum.inr (Sum.inr (fun jj => ((rs.set j.toNatClampNeg (some k0)).getD jj none).map (fun q => B + q)))))) = _
        refine congrArg (fun f : Nat → Option Nat => (Sum.inl (aC 3, n, Sum.inr (Sum.inr (Sum.inr (Sum.inr f)))) : va_E)) (funext fun jj => ?_)
        unfold va_up
        by_cases hj : jj = j.toNatClampNeg
        · subst hj
          rw [if_pos rfl, List.getD_eq_getElem?_getD, List.getElem?_set, if_pos rfl, if_pos hjl]; rfl
        · rw [if_neg hj, List.getD_eq_getElem?_getD, List.getElem?_set, if_neg (fun q => hj q.symm), ← List.getD_eq_getElem?_getD]
      rw [e1]
      exact q1
  | new i =>
    have hk := (Bool.and_eq_true _ _).mp hok
    have hd := of_decide_eq_true hk.1
    have hk2 := hk.2
    have h2 : am_nx (pc + 3) lv (.ref S.1.length :: st) (am_new Tk S (a + 4, b, List.replicate b none)) = some (.inl (F', S')) := h
    cases h2
    cases hcl : cl[a]? with
    | none => rw [hcl] at hk2; cases hk2
    | some r =>
      rw [hcl] at hk2
      obtain ⟨C, T, N⟩ := r
      obtain ⟨rfl, hw1, hw2, hw3⟩ := of_decide_eq_true hk2
      obtain ⟨hin, hty, hnam, hdec, hkt⟩ := hFT _ C T b hcl
      refine ⟨1, b, by simp [am_new], by rw [am_sz_new], fun cells slots hc1 hs1 k H locs ls hI hl => ?_⟩
      have hA0 : ∀ q, s.heap.size ≤ q → B ≤ q := fun q hq => Nat.le_trans hI.2.2.2.2 hq
      refine va_new (fs := (List.range b).map (am_fv B (Kf a) (List.replicate b none) (fun _ => 0) (fun _ => 0))) hx hb hts hin (ty0 a) hty hown (hts _ hw1) (hts _ hw2) (hts _ hw3) hK hI.1 (am_ws_D S) hI.2.1 hA0 hcl (fun j hj => ?_) hc1 hs1 hd fun q H1 hP1 hD1 hS1 => ?_
      · have hkj := hkt j hj
        have e0 : (List.replicate b (none : Option Nat)).getD j none = none := by
          rw [List.getD_eq_getElem?_getD, List.getElem?_replicate]
          split <;> rfl
        have e1 : vp_V ((List.range b).map (am_fv B (Kf a) (List.replicate b none) (fun _ => 0) (fun _ => 0))) j = am_fv B (Kf a) (List.replicate b none) (fun _ => 0) (fun _ => 0) j := by
          unfold vp_V
          rw [List.getD_eq_getElem?_getD, List.getElem?_map, List.getElem?_range hj]; rfl
        rw [e1]
        unfold am_fv
        rw [e0]
        generalize Kf a j = kd at hkj
        rcases kd with _ | _ | _ | kd
        · have hkj : ty0 a j = .int := hkj
          rw [hkj]; rfl
        · have hkj : ty0 a j = .boolean := hkj
          rw [hkj]; rfl
        · have hkj : ty0 a j = .long := hkj
          rw [hkj]; rfl
        · have hkj : (∃ n, ty0 a j = .object n) ∨ ∃ t, ty0 a j = .array t := hkj
          rcases hkj with ⟨n, hn⟩ | ⟨n, hn⟩ <;> rw [hn] <;> rfl
      · exact am_I_new (cnew := (a + 4, b, List.replicate b none)) (g := fun q => F0 m (pc + 3) ls (.ref q :: st.map (am_v B sa))) hI rfl hP1 hD1 hS1 (fun hI1 => k H1 locs ls hI1 hl)
  | invokevirtual i =>
    have hk := (Bool.and_eq_true _ _).mp hok
    have hd := of_decide_eq_true hk.1
    have h2 : (bif Nat.beq (ts.headD 0) 99 then am_chr ts.tail (pc + 3) lv st S else am_cv a b (ts.headD 0) (pc + 3) lv st S) = some (.inl (F', S')) := h
    cases h99 : Nat.beq (ts.headD 0) 99 with
    | true =>
      rw [h99] at h2
      obtain ⟨j, st', rfl, hcat, hj, he⟩ := am_chr_inv h2
      cases he
      refine ⟨0, 0, rfl, rfl, fun cells slots hc1 hs1 h H locs ls hI hl => ?_⟩
      exact hX.2 i rfl h99 H locs cells slots ls (st'.map (am_v B sa)) j hI.2.1 hc1 hs1 (hl.1.trans hml.symm) (by rw [am_cat_map]; exact hcat) hj (h H locs ls hI hl)
    | false =>
      rw [h99] at h2
      obtain ⟨_, _, _, _, _, _, _, _, he⟩ := am_cv_inv h2
      cases he
  | invokestatic i =>
    have hk := (Bool.and_eq_true _ _).mp hok
    have hd := of_decide_eq_true hk.1
    have hk2 := hk.2
    have h2 : (bif Nat.beq (ts.headD 0) 7 then am_cpy (pc + 3) lv st S Tk else am_cs a b (pc + 3) lv st) = some (.inl (F', S')) := h
    cases h99 : Nat.beq (ts.headD 0) 7 with
    | true =>
      rw [h99] at h2 hk2
      obtain ⟨hw1, hw2, hw3, hw4⟩ := of_decide_eq_true hk2
      have h2 : am_cpy (pc + 3) lv st S Tk = some (.inl (F', S')) := h2
      obtain ⟨n, dp, i1, sp, i0, st', n0, r0, n1, r1, rfl, hc0, hc1, hcat, g1, g2, g3, g4, g5, he⟩ := am_cpy_inv h2
      cases he
      refine am_Stp.put (by rw [am_w_1]) (am_sz_w S i1 _) fun H locs cells slots ls hP hS hl kk => ?_
      rw [am_ws_w hc1] at kk
      refine va_copyi (ty := .int) hx hb (hml.trans hl.1.symm) hown (hts _ hw1) (hts _ hw2) (hts _ hw3) (hts _ hw4) hK hP (am_ws_D S) hS i0 i1 0 0 (am_ws_at hc0) (am_ws_at hc1) rfl rfl rfl g1 g2 g3 g4 g5 (fun _ _ => rfl) hR1 ?_ hd (fun H1 locs1 q1 _ q3 => kk H1 locs1 q1 q3)
      rw [am_cat_map]
      have : nativeFrameWords "java/lang/System" "arraycopy" 5 = 7 := by decide
      omega
    | false =>
      rw [h99] at h2
      obtain ⟨_, _, _, _, he⟩ := am_cs_inv h2
      cases he
  | invokespecial i =>
    have hk := (Bool.and_eq_true _ _).mp hok
    have hd := of_decide_eq_true hk.1
    have hk2 := hk.2
    have h2 : (bif Nat.beq (ts.headD 0) 6 then am_co (pc + 3) lv st S else am_ci a b (pc + 3) lv st) = some (.inl (F', S')) := h
    cases h99 : Nat.beq (ts.headD 0) 6 with
    | true =>
      rw [h99] at hk2 h2
      obtain ⟨rfl, hw1, hw2, hw3⟩ := of_decide_eq_true hk2
      obtain ⟨r0, rest, rfl, hcat, he⟩ := am_co_inv h2
      cases he
      refine am_Stp.row fun H locs cells slots ls hl kk => ?_
      refine W.objInit hx hb hown (hts _ hw1) (hts _ hw2) (hts _ hw3) rfl (hl.1.trans hml.symm) rfl hd hR1 ?_ kk
      show 2 * 0 + ((rest.map (am_v B sa)).map fun v => v.category).sum + 12 ≤ R.locals
      rw [am_cat_map]
      omega
    | false =>
      rw [h99] at h2
      obtain ⟨_, _, _, _, _, he⟩ := am_ci_inv h2
      cases he
  | ireturn => exact absurd h am_ret_nx
  | lreturn => exact absurd h am_rtl_nx
  | areturn => exact absurd h am_rta_nx
  | return_ => exact absurd h am_rtv_nx
  | _ =>
    have h3 : (none : Option am_A) = some (.inl (F', S')) := h
    cases h3
end AMU
