/-! THE HEART: what holds between two calls; each call keeps it -/
theorem qk_L_h {a tx : Nat → Int32} {pn fn bn : Nat} {h h' : Nat → Nat → Int32} (e : ∀ c, 62 ≤ c → c ≤ 64 → h' c = h c) (H : qk_L a tx pn fn bn h) : qk_L a tx pn fn bn h' := fun t ht f hf => by
  have := H t ht f hf
  unfold qk_ok at this ⊢
  rw [e 62 (by omega) (by omega), e 63 (by omega) (by omega), e 64 (by omega) (by omega)]
  exact this
def qi_inv (k : Nat) (h : Nat → Nat → Int32) (w : zHM) : Prop := ∃ P pn fn tn bn pn' fn' tn' bn' tl, qi_core k P pn fn tn bn pn' fn' tn' bn' tl h w ∧ qi_cch pn fn bn h (w.1 84) (w.1 86)
/-- one call: the same answer, and all is well behind it -/
def qJ_one (k : Nat) (X : Option (Int32 × (Nat → Nat → Int32))) (M : Option (Int32 × zHM)) : Prop := ∃ r h' w', X = some (r, h') ∧ M = some (r, w') ∧ qi_inv (k + 1) h' w'
section
variable {k : Nat} {h : Nat → Nat → Int32} {w : zHM}
theorem qi_inv.up (I : qi_inv k h w) : qi_inv (k + 1) h w := by
  obtain ⟨P, pn, fn, tn, bn, pn', fn', tn', bn', tl, H, C⟩ := I
  exact ⟨P, pn, fn, tn, bn, pn', fn', tn', bn', tl, qi_core_k (Nat.le_succ k) H, C⟩
theorem qJ_res {X : Option (Int32 × (Nat → Nat → Int32))} {M : Option (Int32 × zHM)} (I : qi_inv k h w) (R : qi_res k h w X M) : qJ_one k X M := by
  obtain ⟨r, h', w', e1, e2, R⟩ := R
  refine ⟨r, h', w', e1, e2, ?_⟩
  rcases R with ⟨ea, eb⟩ | ⟨C, P, pn, fn, tn, bn, pn', fn', tn', bn', tl, H⟩
  · rw [ea, eb]
    exact I.up
  · exact ⟨P, pn, fn, tn, bn, pn', fn', tn', bn', tl, H, qi_cch_clr H C⟩
theorem qJ_puppeteer (I : qi_inv k h w) (v1 v2 : Int32) : qJ_one k (zH_puppeteer v1 v2 h) (zM_puppeteer v1 v2 w) := by
  have I0 := I
  obtain ⟨P, pn, fn, tn, bn, pn', fn', tn', bn', tl, H, C⟩ := I
  exact qJ_res I0 (qo_puppeteer H v1 v2)
theorem qJ_figure (I : qi_inv k h w) (v1 v2 : Int32) : qJ_one k (zH_figure v1 v2 h) (zM_figure v1 v2 w) := by
  have I0 := I
  obtain ⟨P, pn, fn, tn, bn, pn', fn', tn', bn', tl, H, C⟩ := I
  exact qJ_res I0 (qo_figure H v1 v2)
theorem qJ_rules (I : qi_inv k h w) (v1 v2 : Int32) : qJ_one k (zH_rules v1 v2 h) (some (zM_rules v1 v2 w)) := by
  have I0 := I
  obtain ⟨P, pn, fn, tn, bn, pn', fn', tn', bn', tl, H, C⟩ := I
  exact qJ_res I0 (qo_rules H v1 v2)
theorem qJ_by (I : qi_inv k h w) (v1 : Int32) : qJ_one k (zH_by v1 h) (some (zM_by v1 w)) := by
  have I0 := I
  obtain ⟨P, pn, fn, tn, bn, pn', fn', tn', bn', tl, H, C⟩ := I
  exact qJ_res I0 (qo_by H v1)
theorem qJ_played (hk : k ≤ 1000) (I : qi_inv k h w) (v1 : Int32) : qJ_one k (zH_played v1 h) (zM_played v1 w) := by
  have I0 := I
  obtain ⟨P, pn, fn, tn, bn, pn', fn', tn', bn', tl, H, C⟩ := I
  exact qJ_res I0 (qo_played (by omega) H v1)
theorem qJ_clear (I : qi_inv k h w) : qJ_one k (zH_clear h) (zM_clear w) := by
  have I0 := I
  obtain ⟨P, pn, fn, tn, bn, pn', fn', tn', bn', tl, H, C⟩ := I
  exact qJ_res I0 (qo_clear H)
theorem qJ_back (I : qi_inv k h w) : qJ_one k (zH_back h) (zM_back w) := by
  have I0 := I
  obtain ⟨P, pn, fn, tn, bn, pn', fn', tn', bn', tl, H, C⟩ := I
  exact qJ_res I0 (qo_back H)
theorem qJ_kept {pn fn tn bn L P : Nat} {h' : Nat → Nat → Int32} {a a' tx tx' : Nat → Int32} (HA : qi_a L P pn fn tn bn a) (e : qc_e a a' tx tx') (f : ∀ c, 62 ≤ c → h' c = h c) (f2 : h' 59 = h 59) (C : qi_cch pn fn bn h a tx) : qi_cch pn fn bn h' a' tx' := by
  obtain ⟨-, -, -, -, lpn, lfn, ltn, lbn⟩ := HA.1
  refine qi_cch_keep e lpn lfn lbn (fun c hc _ => f c (by omega)) ?_ C
  rw [f2]
  rcases C.1 with c | ⟨c, L⟩
  · exact Or.inl c
  · exact Or.inr ⟨c, qk_L_h (fun c hc _ => f c hc) L⟩
theorem qJ_feed (I : qi_inv k h w) (v1 v2 v3 v4 v5 : Int32) : qJ_one k (zH_feed v1 v2 v3 v4 v5 h) (zM_feed v1 v2 v3 v4 v5 w) := by
  obtain ⟨P, pn, fn, tn, bn, pn', fn', tn', bn', tl, H, C⟩ := I
  obtain ⟨r, h', w', tl2, e1, e2, H', f, e4, e6⟩ := qo_feed H v1 v2 v3 v4 v5
  refine ⟨r, h', w', e1, e2, P, pn, fn, tn, bn, pn', fn', tn', bn', tl2, qi_core_k (Nat.le_succ k) H', ?_⟩
  rw [e4, e6]
  exact qJ_kept H.2.1 (qc_e.rf _ _) (fun c hc => f c (by omega)) (f 59 (by omega)) C
theorem qJ_end (I : qi_inv k h w) (v1 : Int32) : qJ_one k (some (zH_end v1 h)) (some (zM_end v1 w)) := by
  obtain ⟨P, pn, fn, tn, bn, pn', fn', tn', bn', tl, H, C⟩ := I
  obtain ⟨r, h', w', tl2, e1, e2, H', f, e4, e6⟩ := qo_end H v1
  refine ⟨r, h', w', by rw [e1], by rw [e2], P, pn, fn, tn, bn, pn', fn', tn', bn', tl2, qi_core_k (Nat.le_succ k) H', ?_⟩
  rw [e4, e6]
  exact qJ_kept H.2.1 (qc_e.rf _ _) (fun c hc => f c (by omega)) (f 59 (by omega)) C
theorem qJ_hold (I : qi_inv k h w) (v1 v2 v3 : Int32) : qJ_one k (zH_hold v1 v2 v3 h) (zM_hold v1 v2 v3 w) := by
  obtain ⟨P, pn, fn, tn, bn, pn', fn', tn', bn', tl, H, C⟩ := I
  obtain ⟨r, h', w', e1, e2, H', f, e4, e6⟩ := qo_hold H v1 v2 v3
  refine ⟨r, h', w', e1, e2, P, pn, fn, tn, bn, pn', fn', tn', bn', tl, H', ?_⟩
  rw [e6]
  exact qJ_kept H.2.1 (qc_e.of (fun j hj _ => e4 j hj)) (fun c hc => f c (by omega)) (f 59 (by omega)) C
theorem qJ_image (I : qi_inv k h w) : qJ_one k (some (zH_image h)) (zM_image w) := by
  obtain ⟨P, pn, fn, tn, bn, pn', fn', tn', bn', tl, H, C⟩ := I
  obtain ⟨r, h', w', e1, e2, H', f, e4, e6⟩ := qo_image H
  refine ⟨r, h', w', by rw [e1], e2, P, pn, fn, tn, bn, pn, fn, tn, bn, tl, qi_core_k (Nat.le_succ k) H', ?_⟩
  rw [e6]
  exact qJ_kept H.2.1 (qc_e.of (fun j hj _ => e4 j hj)) (fun c hc => f c (by omega)) (f 59 (by omega)) C
/-- what only scratches -/
theorem qJ_scr {P pn fn tn bn pn' fn' tn' bn' tl : Nat} {X : Option (Int32 × (Nat → Nat → Int32))} {M : Option (Int32 × zHM)} (H : qi_core k P pn fn tn bn pn' fn' tn' bn' tl h w) (R : ∃ r h' w', X = some (r, h') ∧ M = some (r, w') ∧ qi_scr h w h' w' ∧ qi_cch pn fn bn h' (w.1 84) (w.1 86)) : qJ_one k X M := by
  obtain ⟨r, h', w', e1, e2, s, C⟩ := R
  refine ⟨r, h', w', e1, e2, P, pn, fn, tn, bn, pn', fn', tn', bn', tl, qi_core_k (Nat.le_succ k) (qi_scr_core s H), ?_⟩
  rw [s.2.1 84 (by omega), s.2.1 86 (by omega)]
  exact C
theorem qJ_fewest (I : qi_inv k h w) (v1 : Int32) : qJ_one k (zH_fewest v1 h) (zM_fewest v1 w) := by
  obtain ⟨P, pn, fn, tn, bn, pn', fn', tn', bn', tl, H, C⟩ := I
  exact qJ_scr H (qo_fewest H C v1)
theorem qJ_found (I : qi_inv k h w) (v1 v2 v3 : Int32) : qJ_one k (zH_found v1 v2 v3 h) (zM_found v1 v2 v3 w) := by
  obtain ⟨P, pn, fn, tn, bn, pn', fn', tn', bn', tl, H, C⟩ := I
  exact qJ_scr H (qo_found H C v1 v2 v3)
theorem qJ_least (I : qi_inv k h w) : qJ_one k (zH_least h) (zM_least w) := by
  obtain ⟨P, pn, fn, tn, bn, pn', fn', tn', bn', tl, H, C⟩ := I
  exact qJ_scr H (qo_least H C)
theorem qJ_strike (hk : k ≤ 1000) (I : qi_inv k h w) (v1 v2 : Int32) : qJ_one k (zH_strike v1 v2 h) (zM_strike v1 v2 w) := by
  obtain ⟨P, pn, fn, tn, bn, pn', fn', tn', bn', tl, H, C⟩ := I
  exact qJ_scr H (qo_strike H hk C v1 v2)
theorem qJ_ill (I : qi_inv k h w) (v1 v2 : Int32) : qJ_one k (zH_ill v1 v2 h) (zM_ill v1 v2 w) := by
  obtain ⟨P, pn, fn, tn, bn, pn', fn', tn', bn', tl, H, C⟩ := I
  exact qJ_scr H (qo_ill H C v1 v2)
theorem qJ_take (I : qi_inv k h w) (v1 : Int32) : qJ_one k (zH_take v1 h) (zM_take v1 w) := by
  obtain ⟨P, pn, fn, tn, bn, pn', fn', tn', bn', tl, H, C⟩ := I
  obtain ⟨r, h', w', e1, e2, H', C'⟩ := qo_take H C v1
  exact ⟨r, h', w', e1, e2, P, pn, fn, tn, bn, pn', fn', tn', bn', tl, H', C'⟩
theorem qJ_text (I : qi_inv k h w) : qJ_one k (zH_text h) (zM_text w) := by
  obtain ⟨P, pn, fn, tn, bn, pn', fn', tn', bn', tl, H, C⟩ := I
  obtain ⟨r, h', w', tn2, tl2, e1, e2, H', C'⟩ := qo_text H C
  exact ⟨r, h', w', e1, e2, P, pn, fn, tn2, bn, pn', fn', tn', bn', tl2, qi_core_k (Nat.le_succ k) H', C'⟩
theorem qJ_lrn {P pn fn tn bn pn' fn' tn' bn' tl : Nat} {X : Option (Int32 × (Nat → Nat → Int32))} {M : Option (Int32 × zHM)} (H : qi_core k P pn fn tn bn pn' fn' tn' bn' tl h w) (C : qi_cch pn fn bn h (w.1 84) (w.1 86)) (R : ∃ r h' w', X = some (r, h') ∧ M = some (r, w') ∧ qi_scr h w h' w' ∧ (h' 59 2 = nI 0 ∨ h' 59 2 = nI 1 ∧ qk_L (w.1 84) (w.1 86) pn fn bn h') ∧ (∀ c, 65 ≤ c → h' c = h c)) : qJ_one k X M := by
  obtain ⟨r, h', w', e1, e2, s, c, f⟩ := R
  obtain ⟨-, -, -, -, lpn, lfn, ltn, lbn⟩ := H.2.1.1
  exact qJ_scr H ⟨r, h', w', e1, e2, s, qi_cch_keep (qc_e.rf _ _) lpn lfn lbn (fun c hc _ => f c (by omega)) c C⟩
theorem qJ_bound (I : qi_inv k h w) (v1 : Int32) : qJ_one k (zH_bound v1 h) (zM_bound v1 w) := by
  obtain ⟨P, pn, fn, tn, bn, pn', fn', tn', bn', tl, H, C⟩ := I
  exact qJ_lrn H C (qo_bound H C.1 v1)
theorem qJ_judge (I : qi_inv k h w) (v1 : Int32) : qJ_one k (zH_judge v1 h) (zM_judge v1 w) := by
  obtain ⟨P, pn, fn, tn, bn, pn', fn', tn', bn', tl, H, C⟩ := I
  exact qJ_lrn H C (qo_judge H C.1 v1)
theorem qJ_sees (I : qi_inv k h w) (v1 v2 : Int32) : qJ_one k (zH_sees v1 v2 h) (zM_sees v1 v2 w) := by
  obtain ⟨P, pn, fn, tn, bn, pn', fn', tn', bn', tl, H, C⟩ := I
  obtain ⟨r, h', w', e1, e2, f, s⟩ := qo_sees H v1 v2
  refine qJ_scr H ⟨r, h', w', e1, e2, ⟨fun c hc => f c (by omega) (by omega), fun c hc => s c (by omega) (by omega), fun j _ _ => by rw [s 83 (by omega) (by omega)]⟩, ?_⟩
  exact qJ_kept H.2.1 (qc_e.rf _ _) (fun c hc => f c (by omega) (by omega)) (f 59 (by omega) (by omega)) C
theorem qJ_fault (I : qi_inv k h w) (v1 : Int32) : zH_fault v1 h = zM_fault v1 w := by
  obtain ⟨P, pn, fn, tn, bn, pn', fn', tn', bn', tl, H, C⟩ := I
  exact qo_fault H v1
theorem qJ_at (I : qi_inv k h w) (v1 v2 : Int32) : ∃ r, zH_at v1 v2 h = some r ∧ zM_at v1 v2 w = some r := by
  obtain ⟨P, pn, fn, tn, bn, pn', fn', tn', bn', tl, H, C⟩ := I
  exact qo_at H v1 v2
theorem qJ_held (I : qi_inv k h w) (v1 v2 : Int32) : ∃ r, zH_held v1 v2 h = some r ∧ zM_held v1 v2 w = some r := by
  obtain ⟨P, pn, fn, tn, bn, pn', fn', tn', bn', tl, H, C⟩ := I
  exact qo_held H v1 v2
theorem qJ_about (I : qi_inv k h w) (v1 : Int32) : ∃ r, zH_about v1 h = some r ∧ zM_about v1 w = some r := by
  obtain ⟨P, pn, fn, tn, bn, pn', fn', tn', bn', tl, H, C⟩ := I
  exact qo_about H v1
theorem qJ_swaps (I : qi_inv k h w) : ∃ r, zH_swaps h = some r ∧ zM_swaps w = some r := by
  obtain ⟨P, pn, fn, tn, bn, pn', fn', tn', bn', tl, H, C⟩ := I
  exact qo_swaps' H.2.1 H.2.2.2.1 H.1.2.1
theorem qJ_longest (I : qi_inv k h w) (v1 : Int32) : ∃ r, zH_longest v1 h = some r ∧ zM_longest v1 w = some r := by
  obtain ⟨P, pn, fn, tn, bn, pn', fn', tn', bn', tl, H, C⟩ := I
  exact qo_longest' H.2.1 H.2.2.2.1 v1
end
