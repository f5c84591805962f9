/-! WIRING: the rows of the constant text -/
theorem zwx_d {mi : Nat} {M : am_M} (h : am_P mi = some M) {E : am_E} (hE : E ∈ M.2.2.2.2.2.2) : am_okb zTs am_cl zfl zml "SixHands$Text" M E = true := (zMT mi M h).2.2.2.2 E hE
theorem zwx_len : zChr.length = 126 := by decide +kernel
theorem zWX (l : Launch) {B b sa sv : Nat} {Xs : Nat × (Nat → Int32)} {D : va_G} {aC : Nat → ClassId} : am_WX l zTs B (zsa sa b) zcl D aC "SixHands$Text" am_P (zSg B b sa sv Xs) := by
  intro mi M hP E hE p e d mc ms s m args below meth c Q hA hs
  have hz := zwx hP hE
  have hd := zwx_d hP hE
  obtain ⟨pc, I, a, n, x, z, ts⟩ := E
  obtain ⟨hx, hb, hr, hlk, hml, hown, hts, hnm, hK⟩ := hA
  have hst := hs.2.2.2
  refine ⟨fun i hi h0 H locs cells slots ls rest hS k => ?_, fun i hi h9 H locs cells slots ls rest j hS hc1 hs1 hsz hrm hj k => ?_⟩
  · have hi : I = .ldc i := hi
    subst hi
    have hz : (Nat.beq a 0 || (Nat.beq i 50 && decide (M.1.cls = "SixHands$Tape"))) = true := hz
    have hd : (decide (decode M.2.1 pc = .ok (.ldc i, 2)) && (bif Nat.beq a 0 then decide (Jvm.Cond.constant M.1.cls i x ∈ zTs) else true)) = true := hd
    have h0 : Nat.beq a 0 = false := h0
    rw [h0, Bool.false_or, Bool.and_eq_true] at hz
    have hi50 := am_beq hz.1
    have hc := of_decide_eq_true hz.2
    have hdd := of_decide_eq_true (Bool.and_eq_true_iff.mp hd).1
    subst hi50
    rw [hc] at hown
    exact va_ldcS hx hb hown hst.1 hdd k
  · have hi : I = .invokevirtual i := hi
    subst hi
    have h9 : Nat.beq (ts.headD 0) 99 = true := h9
    have hz : (!(Nat.beq (ts.headD 0) 99) || (Nat.beq i 52 && (decide (M.1.cls = "SixHands$Tape") && decide (ts.tail = zChr)))) = true := hz
    have hd : (decide (decode M.2.1 pc = .ok (.invokevirtual i, 3)) && (bif Nat.beq (ts.headD 0) 99 then true else decide ((M.2.2.2.2.2.1, i, 0, a, n, ts.headD 0, 0) ∈ zml ∨ (M.2.2.2.2.2.1, i, 1, a, n, ts.headD 0, 0) ∈ zml))) = true := hd
    rw [h9, Bool.not_true, Bool.false_or, Bool.and_eq_true, Bool.and_eq_true] at hz
    have hi52 := am_beq hz.1
    have hc := of_decide_eq_true hz.2.1
    have htl := of_decide_eq_true hz.2.2
    have hdd := of_decide_eq_true (Bool.and_eq_true_iff.mp hd).1
    subst hi52
    rw [hc] at hown
    have hj : ¬ (j < 0 ∨ ts.tail.length ≤ j.toNatClampNeg) := hj
    have k : W p l e (am_rm d mc ms) s m args below meth c H locs cells slots Q (F0 m (pc + 3) ls (.int (Int32.ofNat (ts.tail.getD j.toNatClampNeg 0)) :: rest)) := k
    rw [htl] at hj k
    rw [zwx_len] at hj
    refine zs_call (v := some (.int (Int32.ofNat (zChr.getD j.toNatClampNeg 0)))) (rest := rest) (va_runV (As := [.int j]) ⟨hx, hb, hml, hown, hts⟩ (zs_c5 l (B := B) (sa := sa) (sv := sv) hj) ⟨callB_of 1 hts (zs_good zs_w5) rfl rfl rfl (hts _ (by decide +kernel)) (hts (.methodLink "SixHands$Tape" 52 yCA) (by decide +kernel)) (by decide +kernel) ⟨show 3 + 1 ≤ d + 8 by omega, show 8 + (2 + 11) + 64 ≤ 64 * (d + 8) by omega⟩, hts (.instanceMethod yCA) (by decide +kernel), hts (.selects "java/lang/String" yCA yCA) (by decide +kernel)⟩ ⟨zs_b, vk_recv hst.2.1 (i := 0) (by decide) hS, fun U hU hW => ⟨rfl, zSt_warm hW (fun q q1 q2 => by rw [hU]; exact hS.2.1 q q1 q2) hst⟩⟩ rfl rfl (by exact hsz.trans hml) rfl (lv_room hrm) hdd ⟨hc1, hs1⟩) k
