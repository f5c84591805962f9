/-! THE HEART: search: the reference's table of passes, whole -/
section
variable {L P pn fn tn bn : Nat} {w : zHM}
theorem qp_p (HA : qi_a L P pn fn tn bn (w.1 84)) (hP : P ≤ 8) (hask : qk_askM w) {t f : Nat} (ht : t < bn) (hf : f < fn) (K : Int32 → Int32 → zHM → Option zHM) : ∀ (k n p : Nat) (u : zHM), p + k = 3 → k < n → qp_g w u → (∀ j, j < 9 * f + 3 * p → u.1 97 j = qs_b (qp_j (w.1 84) (w.1 86) t j)) → ∃ u', zM_findPasses_L14 K n (nI t) (nI f) (nI p) u = K (nI t) (nI (f + 1)) u' ∧ qp_g w u' ∧ ∀ j, j < 9 * (f + 1) → u'.1 97 j = qs_b (qp_j (w.1 84) (w.1 86) t j)
  | 0, n + 1, p, u, hp, _, hg, hj => by
    refine ⟨u, ?_, hg, fun j h => hj j (by omega)⟩
    have : p = 3 := by omega
    subst this
    obtain ⟨a0, a1, a4, a6, lpn, lfn, ltn, lbn⟩ := id HA.1
    simp (disch := omega) only [↓reduceIte, zM_findPasses_L14, qa_ltF, qa_lit, nI_add]
  | k + 1, n + 1, p, u, hp, hn, hg, hj => by
    obtain ⟨v, e1, g1, j1⟩ := qp_q HA hP hask ht hf (show p < 3 by omega) (fun v1 v2 v3 w => zM_findPasses_L14 K n v1 v2 v3 w) 3 am_N 0 u (by omega) (by decide) hg (fun j h => hj j (by omega))
    obtain ⟨u', e2, g2, j2⟩ := qp_p HA hP hask ht hf K k n (p + 1) v (by omega) (by omega) g1 j1
    refine ⟨u', ?_, g2, j2⟩
    rw [← e2]
    refine Eq.trans ?_ e1
    simp (disch := omega) only [↓reduceIte, zM_findPasses_L14, qa_ltT, qa_lit]
theorem qp_f (HA : qi_a L P pn fn tn bn (w.1 84)) (hP : P ≤ 8) (hask : qk_askM w) {t : Nat} (ht : t < bn) : ∀ (k n f : Nat) (u : zHM), f + k = fn → k < n → qp_g w u → (∀ j, j < 9 * f → u.1 97 j = qs_b (qp_j (w.1 84) (w.1 86) t j)) → ∃ u', zM_findPasses_L2 n (nI t) (nI f) u = some u' ∧ qp_g w u' ∧ ∀ j, j < 9 * fn → u'.1 97 j = qs_b (qp_j (w.1 84) (w.1 86) t j)
  | 0, n + 1, f, u, hf, _, hg, hj => by
    refine ⟨u, ?_, hg, fun j h => hj j (by omega)⟩
    obtain ⟨a0, a1, a4, a6, lpn, lfn, ltn, lbn⟩ := id HA.1
    have b1 : u.1 84 1 = nI fn := by rw [hg 84 (by omega) (by omega) (by omega)]; exact a1
    simp (disch := omega) only [↓reduceIte, zM_findPasses_L2, b1, qa_ltF]
  | k + 1, n + 1, f, u, hf, hn, hg, hj => by
    obtain ⟨a0, a1, a4, a6, lpn, lfn, ltn, lbn⟩ := id HA.1
    have b1 : u.1 84 1 = nI fn := by rw [hg 84 (by omega) (by omega) (by omega)]; exact a1
    obtain ⟨v, e1, g1, j1⟩ := qp_p HA hP hask ht (show f < fn by omega) (fun v1 v2 w => zM_findPasses_L2 n v1 v2 w) 3 am_N 0 u (by omega) (by decide) hg (fun j h => hj j (by omega))
    obtain ⟨u', e2, g2, j2⟩ := qp_f HA hP hask ht k n (f + 1) v (by omega) (by omega) g1 j1
    refine ⟨u', ?_, g2, j2⟩
    rw [← e2]
    refine Eq.trans ?_ e1
    simp (disch := omega) only [↓reduceIte, zM_findPasses_L2, b1, qa_ltT, qa_lit]
/-- whether figure f may go from p to q at beat t -/
theorem qm_passes (HA : qi_a L P pn fn tn bn (w.1 84)) (hP : P ≤ 8) (hask : qk_askM w) {t : Nat} (ht : t < bn) : ∃ u, zM_findPasses (nI t) w = some u ∧ qp_g w u ∧ ∀ f, f < fn → ∀ p, p < 3 → ∀ q, q < 3 → u.1 97 (9 * f + 3 * p + q) = qs_b (qs_on (w.1 84) t f && qs_law (w.1 84) (w.1 86) 1 t f p q) := by
  have lfn := HA.1.2.2.2.2.2.1
  obtain ⟨u, e, g, j⟩ := qp_f HA hP hask ht fn am_N 0 w (by omega) (Nat.lt_of_le_of_lt lfn (by decide)) (fun _ _ _ _ => rfl) (fun j h => by omega)
  refine ⟨u, e, g, fun f hf p hp q hq => ?_⟩
  rw [j _ (by omega)]
  unfold qp_j qp_v
  rw [show (9 * f + 3 * p + q) / 9 = f by omega, show (9 * f + 3 * p + q) % 9 / 3 = p by omega, show (9 * f + 3 * p + q) % 3 = q by omega]
end
