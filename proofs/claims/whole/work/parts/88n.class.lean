/-! THE HEART: search: the class has loaded a beat of the play -/
theorem qt_hands : ∀ kd, kd < 3 → ∀ st, st < 8 → ∀ k, k < 6 → qs_ho kd st k = 0 ∨ zH_handsOf (nI kd) (nI k) = nI (qs_ho kd st k) := by decide +kernel
section
variable {L P pn fn tn bn : Nat} {w : zHM} {hmo : Nat → Nat} {h h' : Nat → Nat → Int32}
theorem qx_HH (HA : qi_a L P pn fn tn bn (w.1 84)) (hP : P ≤ 8) (HS : qi_stg 0 P pn fn tn bn h (w.1 84)) (HL : qk_L (w.1 84) (w.1 86) pn fn bn h) {t st sk : Nat} (ht : t < bn) (hs : st < 2 ^ pn) (e65 : h' 65 2 = nI fn) (e67 : ∀ j, j < 2 * pn → h' 67 j = nI (qs_or hmo pn j)) (ef : ∀ g, g < fn → h' 66 g = nI (qs_kd (w.1 84) g) ∧ ∀ t, t < bn → qd_c h h' sk t g (nI (qs_mk (qs_kd (w.1 84) g) st))) :
    qh_H fn t (qx_on (w.1 84) fn sk t) (qx_hm (w.1 84) fn st) (qs_ch (w.1 84) (w.1 86) pn st t) (qs_or hmo pn) (qs_pl (w.1 84) t) (qs_kd (w.1 84)) h' := by
  obtain ⟨a0, a1, a4, a6, lpn, lfn, ltn, lbn⟩ := id HA.1
  have h8 := (qs_set_tb pn (by omega) st hs).1
  refine ⟨⟨e65, lfn, by omega⟩, fun f k => qx_hm64 HA h8 f k, fun f hf => ⟨(ef f hf).1, by obtain ⟨-, k2⟩ := qi_kd HA hf; omega⟩, fun f hf => ?_, fun f hf ho => ?_, fun f k hf ho h6 hc => ?_⟩
  · have c1 := ((ef f hf).2 t ht).1
    have s8 := ((qi_stg0 HS).2.2.2.2.1 t f ht hf).1
    rw [s8] at c1
    refine ⟨fun ho => ?_, fun ho => ?_⟩
    · rw [c1]
      cases hb : sk.testBit f
      · rw [if_neg (by decide)]
        rcases qi_pl HA hP ht hf with ⟨-, hp⟩ | ⟨ho', -⟩
        · exact hp
        · unfold qx_on at ho
          rw [decide_eq_true hf, hb, ho'] at ho
          cases ho
      · rw [if_pos rfl]
    · obtain ⟨q1, q2, q3⟩ := qx_on_t ho
      obtain ⟨p1, p2, p3⟩ := qi_plc HA hP ht hf q3
      rw [c1, q2, if_neg (by decide)]
      exact ⟨p1, p3⟩
  · obtain ⟨q1, q2, q3⟩ := qx_on_t ho
    have c2 := ((ef f hf).2 t ht).2.1
    obtain ⟨xn, xf, xp, -, o2, -, -, l2, -, -, b2, -⟩ := HL t ht f hf
    obtain ⟨-, k2⟩ := qi_kd HA hf
    rw [o2, fa_and] at c2
    refine ⟨_, Nat.lt_of_le_of_lt Nat.and_le_left l2, c2, fun k h6 => ?_⟩
    rw [Nat.testBit_and, b2 k h6, q3, Bool.true_and, qs_mk_tb _ (by omega) st h8 k h6]
    unfold qs_ch
    rw [Bool.and_comm]
  · obtain ⟨-, k2⟩ := qi_kd HA hf
    have h0 : qs_ho (qs_kd (w.1 84) f) st k ≠ 0 := by
      unfold qs_ch at hc
      rw [Bool.and_eq_true, decide_eq_true_eq] at hc
      exact hc.1
    have eh : qx_hm (w.1 84) fn st f k = qs_ho (qs_kd (w.1 84) f) st k := by unfold qx_hm; rw [if_pos ⟨hf, h6⟩]
    have lo := (qt_lo (qs_kd (w.1 84) f) (by omega) st h8 k h6).resolve_left h0
    refine ⟨?_, lo.1, by rw [eh]; exact lo.2, fun i hi hb => ⟨e67 i (qx_bits HA hs hi hb), ?_⟩⟩
    · rw [eh]
      exact (qt_hands (qs_kd (w.1 84) f) (by omega) st h8 k h6).resolve_left h0
    · have := qs_ct_le hmo (i / 2) pn
      unfold qs_or
      omega
end
