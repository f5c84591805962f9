/-! THE HEART: search: the reference lists the ways of a beat of the play -/
def qx_on (a : Nat → Int32) (fn sk t f : Nat) : Bool := decide (f < fn) && (!sk.testBit f && qs_on a t f)
def qx_hm (a : Nat → Int32) (fn st f k : Nat) : Nat := if f < fn ∧ k < 6 then qs_ho (qs_kd a f) st k else 0
section
variable {L P pn fn tn bn : Nat} {w : zHM} {hmo : Nat → Nat}
theorem qx_on_t {a : Nat → Int32} {sk t f : Nat} (h : qx_on a fn sk t f = true) : f < fn ∧ sk.testBit f = false ∧ qs_on a t f = true := by
  unfold qx_on at h
  rw [Bool.and_eq_true, Bool.and_eq_true, decide_eq_true_eq, Bool.not_eq_true'] at h
  exact h
theorem qx_hm64 (HA : qi_a L P pn fn tn bn (w.1 84)) {st : Nat} (hs : st < 8) (f k : Nat) : qx_hm (w.1 84) fn st f k < 64 := by
  unfold qx_hm
  split
  · next h =>
    obtain ⟨-, k2⟩ := qi_kd HA h.1
    exact qs_ho_lt _ (by omega) st hs k h.2
  · omega
theorem qx_bits (HA : qi_a L P pn fn tn bn (w.1 84)) {st : Nat} (hs : st < 2 ^ pn) {f k j : Nat} (hj : j < 6) (hb : (qx_hm (w.1 84) fn st f k).testBit j = true) : j < 2 * pn := by
  unfold qx_hm at hb
  split at hb
  · next h =>
    obtain ⟨-, k2⟩ := qi_kd HA h.1
    have lpn := HA.1.2.2.2.2.1
    have h8 := qs_set_tb pn (by omega) st hs
    have h0 : qs_ho (qs_kd (w.1 84) f) st k ≠ 0 := fun e => by rw [e, Nat.zero_testBit] at hb; cases hb
    have q1 := qs_ho_tb _ (by omega) st h8.1 k h.2 j hj h0 hb
    have q2 := qs_ho_st _ (by omega) st h8.1 k h.2 h0
    rw [← q1] at q2
    have := h8.2 _ q2.2 q2.1
    omega
  · rw [Nat.zero_testBit] at hb; cases hb
theorem qx_H (HA : qi_a L P pn fn tn bn (w.1 84)) (hP : P ≤ 8) (hask : qk_askM w) (e2 : ∀ p, p < pn → w.1 84 (10 + 2 * p) = nI (hmo p) ∧ hmo p < 8) {t st sk : Nat} (ht : t < bn) (hs : st < 2 ^ pn) (hk : sk < 64) (e29 : w.1 83 29 = nI sk) (e30 : w.1 83 30 = nI st) :
    qr_H (qx_on (w.1 84) fn sk t) (qx_hm (w.1 84) fn st) (qs_ch (w.1 84) (w.1 86) pn st t) (qw_p (qs_or hmo pn) (qs_pl (w.1 84) t) (qx_on (w.1 84) fn sk t) (qx_hm (w.1 84) fn st) fn st (w.1 84 2)) t w := by
  obtain ⟨a0, a1, a4, a6, lpn, lfn, ltn, lbn⟩ := id HA.1
  have h8 := (qs_set_tb pn (by omega) st hs).1
  have T : ∀ u, qr_g w u → ∀ f, f < 6 → zM_isThere (nI t) (nI f) u = some (qs_b (qx_on (w.1 84) fn sk t f)) := fun u hg f hf => by
    have g84 := hg 84 (by omega) (by omega) (by omega) (by omega) (by omega) (by omega)
    have g83 := hg 83 (by omega) (by omega) (by omega) (by omega) (by omega) (by omega)
    by_cases hfn : f < fn
    · have := qm_isThere (w := u) (t := t) (f := f) (sk := sk) (by rw [g84]; exact HA) hP ht hfn hk (by rw [g83]; exact e29)
      rw [g84] at this
      rw [this]
      unfold qx_on
      rw [decide_eq_true hfn, Bool.true_and]
    · have z : qx_on (w.1 84) fn sk t f = false := by unfold qx_on; rw [decide_eq_false hfn, Bool.false_and]
      rw [z]
      have b1 : u.1 84 1 = nI fn := by rw [g84]; exact a1
      simp (disch := omega) only [↓reduceIte, zM_isThere, b1, qa_ltF, qa_lit]
      rfl
  refine ⟨T, fun u hg f hf ho k h6 => ?_, fun u hg f hf ho k h6 => ?_, fun u c hg h96 => ?_, fun f k => qx_hm64 HA h8 f k, by omega⟩
  · have g84 := hg 84 (by omega) (by omega) (by omega) (by omega) (by omega) (by omega)
    have g83 := hg 83 (by omega) (by omega) (by omega) (by omega) (by omega) (by omega)
    obtain ⟨q1, q2, q3⟩ := qx_on_t ho
    have := qm_holdOf (w := u) (by rw [g84]; exact HA) q1 h8 h6 (by rw [g83]; exact e30)
    rw [g84] at this
    rw [this]
    unfold qx_hm
    rw [if_pos ⟨q1, h6⟩]
  · have g84 := hg 84 (by omega) (by omega) (by omega) (by omega) (by omega) (by omega)
    have g86 := hg 86 (by omega) (by omega) (by omega) (by omega) (by omega) (by omega)
    obtain ⟨q1, q2, q3⟩ := qx_on_t ho
    have := qm_canHold (w := u) (by rw [g84]; exact HA) hP (by
      unfold qk_askM at hask ⊢
      rw [g84, g86]
      exact hask) ht q1 (by rw [g84]; exact q3) hs h6
    rw [g84, g86] at this
    rw [show qx_hm (w.1 84) fn st f k = qs_ho (qs_kd (w.1 84) f) st k by unfold qx_hm; rw [if_pos ⟨q1, h6⟩]]
    exact this
  · have g84 := hg 84 (by omega) (by omega) (by omega) (by omega) (by omega) (by omega)
    have g83 := hg 83 (by omega) (by omega) (by omega) (by omega) (by omega) (by omega)
    have b30 : u.1 83 30 = nI st := by rw [g83]; exact e30
    have eb := qm_bits (x := st) (by omega)
    have b3 := qt_bn8 st h8
    have O := qm_iwO (w := u) (hm := hmo) (on := qx_on (w.1 84) fn sk t) (S := qw_s (qx_on (w.1 84) fn sk t) (qx_hm (w.1 84) fn st) c) (sp := qs_pl (w.1 84) t) lpn (by rw [g84]; exact e2) lfn (by rw [g84]; exact a1) (show t < 24 by omega) (fun g => ⟨qw_s_lt (qx_hm64 HA h8) c g, fun j hj hb => by
        unfold qw_s at hb
        split at hb
        · exact qx_bits HA hs hj hb
        · rw [Nat.zero_testBit] at hb; cases hb⟩) h96 (fun g hgn h0 => by
        unfold qw_s at h0
        split at h0
        · next ho =>
          obtain ⟨q1, q2, q3⟩ := qx_on_t ho
          obtain ⟨p1, p2, p3⟩ := qi_plc HA hP ht q1 q3
          rw [g84]
          exact ⟨p1, p3⟩
        · exact absurd rfl h0) (fun f hf => T u hg f (by omega)) fn am_N 0 0 (nI (2 * qs_bn st)) (by omega) (Nat.lt_of_le_of_lt lfn (by decide)) (Nat.le_refl 0)
    unfold qw_p
    rw [g84] at O
    rw [← O]
    simp (disch := omega) only [↓qa_b, zM_isWay, b30, eb, Option.bind_some, qa_lit, pk_mul]
theorem qx_kind (HA : qi_a L P pn fn tn bn (w.1 84)) {tx : Nat → Int32} {t st : Nat} (hs : st < 8) (f : Nat) (hf : f < fn) : (∀ k, k < 6 → qs_ch (w.1 84) tx pn st t f k = true → qx_hm (w.1 84) fn st f k = 2 ^ k) ∨ (∀ k, k < 6 → qs_ch (w.1 84) tx pn st t f k = true → k < 3 ∧ qx_hm (w.1 84) fn st f k = 3 * 4 ^ k) := by
  have h0 : ∀ k, qs_ch (w.1 84) tx pn st t f k = true → qs_ho (qs_kd (w.1 84) f) st k ≠ 0 := fun k h => by
    unfold qs_ch at h
    rw [Bool.and_eq_true, decide_eq_true_eq] at h
    exact h.1
  by_cases h2 : qs_kd (w.1 84) f = 2
  · right
    intro k h6 hc
    have := h0 k hc
    unfold qx_hm
    rw [if_pos ⟨hf, h6⟩]
    unfold qs_ho at this ⊢
    rw [if_pos h2] at this ⊢
    split at this
    · next h => rw [if_pos h]; exact ⟨h.1, rfl⟩
    · exact absurd rfl this
  · left
    intro k h6 hc
    have := h0 k hc
    unfold qx_hm
    rw [if_pos ⟨hf, h6⟩]
    unfold qs_ho at this ⊢
    rw [if_neg h2] at this ⊢
    split at this
    · next h => rw [if_pos h]
    · exact absurd rfl this
end
