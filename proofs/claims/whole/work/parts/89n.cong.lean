/-! THE HEART: search: what the search finds looks at no hold that was told -/
def qc_e (a a' tx tx' : Nat → Int32) : Prop := (∀ j, j < 200 → j ≠ 4 → a' j = a j) ∧ ∀ s nm, s < 3 → ql_so a' tx' s nm = ql_so a tx s nm
section
variable {a a' tx tx' : Nat → Int32}
theorem qc_v (e : qc_e a a' tx tx') {j : Nat} (hj : j < 200) (h4 : j ≠ 4) : qv a' j = qv a j := by unfold qv; rw [e.1 j hj h4]
theorem qc_on' (e : qc_e a a' tx tx') {t f : Nat} (ht : t < 24) (hf : f < 6) : qs_on a' t f = qs_on a t f := by unfold qs_on; rw [e.1 _ (by omega) (by omega)]
theorem qc_pl (e : qc_e a a' tx tx') {t f : Nat} (ht : t < 24) (hf : f < 6) : qs_pl a' t f = qs_pl a t f := qc_v e (by omega) (by omega)
theorem qc_kd (e : qc_e a a' tx tx') {f : Nat} (hf : f < 6) : qs_kd a' f = qs_kd a f := qc_v e (by omega) (by omega)
theorem qc_law (e : qc_e a a' tx tx') {s t f x y : Nat} (hs : s < 3) (ht : t < 24) (hf : f < 6) : qs_law a' tx' s t f x y = qs_law a tx s t f x y := by
  unfold qs_law
  rw [e.2 s _ hs, qc_kd e hf, qc_pl e ht hf]
theorem qc_nr (e : qc_e a a' tx tx') {pn t f k : Nat} (ht : t < 24) (hf : f < 6) (hk : k < 6) : qs_nr a' pn t f k = qs_nr a pn t f k := by
  unfold qs_nr qs_hn qs_rc qs_ow
  rw [qc_kd e hf, qc_pl e ht hf]
  have : (if qs_kd a f = 2 then k else k / 2) < 6 := by split <;> omega
  generalize (if qs_kd a f = 2 then k else k / 2) = p at *
  rw [qc_v e (show 10 + 2 * p < 200 by omega) (by omega), qc_v e (show 10 + 2 * p + 1 < 200 by omega) (by omega)]
theorem qc_ft (e : qc_e a a' tx tx') {pn t f k : Nat} (ht : t < 24) (hf : f < 6) (hk : k < 6) : qs_ft a' tx' pn t f k = qs_ft a tx pn t f k := by
  unfold qs_ft
  rw [qc_nr e ht hf hk, qc_law e (by omega) ht hf]
  unfold qs_ow qs_rt
  rw [qc_kd e hf]
theorem qc_ch (e : qc_e a a' tx tx') {pn st t f k : Nat} (ht : t < 24) (hf : f < 6) (hk : k < 6) : qs_ch a' tx' pn st t f k = qs_ch a tx pn st t f k := by
  unfold qs_ch
  rw [qc_kd e hf, qc_ft e ht hf hk]
theorem qc_L (e : qc_e a a' tx tx') {pn fn bn : Nat} (hf : fn ≤ 6) (hb : bn ≤ 24) {h : Nat → Nat → Int32} (H : qk_L a tx pn fn bn h) : qk_L a' tx' pn fn bn h := fun t ht f hff => by
  obtain ⟨xn, xf, xp, o1, o2, o3, l1, l2, l3, b1, b2, b3⟩ := H t ht f hff
  refine ⟨xn, xf, xp, o1, o2, o3, l1, l2, l3, fun k hk => ?_, fun k hk => ?_, fun p hp q hq => ?_⟩
  · rw [b1 k hk, qc_on' e (by omega) (by omega), qc_nr e (by omega) (by omega) hk]
  · rw [b2 k hk, qc_on' e (by omega) (by omega), qc_ft e (by omega) (by omega) hk]
  · rw [b3 p hp q hq]
    unfold qs_st qs_ps
    rw [qc_on' e (by omega) (by omega), qc_law e (by omega) (by omega) (by omega), qc_on' e (show t - 1 < 24 by omega) (by omega)]
theorem qc_on (e : qc_e a a' tx tx') {fn sk t : Nat} (hf : fn ≤ 6) (ht : t < 24) : qx_on a' fn sk t = qx_on a fn sk t := by
  funext f
  unfold qx_on
  by_cases h : f < fn
  · rw [qc_on' e ht (by omega)]
  · rw [decide_eq_false h, Bool.false_and, Bool.false_and]
theorem qc_hm (e : qc_e a a' tx tx') {fn st : Nat} (hf : fn ≤ 6) : qx_hm a' fn st = qx_hm a fn st := by
  funext f k
  unfold qx_hm
  by_cases h : f < fn
  · rw [qc_kd e (by omega)]
  · rw [if_neg (fun q => h q.1), if_neg (fun q => h q.1)]
theorem qw_l_cong {α : Type} {g g' : Nat → List α} : ∀ (m k : Nat), (∀ j, k ≤ j → j < k + m → g j = g' j) → qw_l g m k = qw_l g' m k
  | 0, _, _ => rfl
  | m + 1, k, h => by
    unfold qw_l
    rw [h k (by omega) (by omega), qw_l_cong m (k + 1) (fun j a b => h j (by omega) (by omega))]
theorem qw_cong {on : Nat → Bool} {ok ok' : Nat → Nat → (Nat → Nat) → Bool} : ∀ (r f : Nat) (c : Nat → Nat), (∀ g, f ≤ g → g < f + r → ∀ k, k < 6 → ∀ c, ok g k c = ok' g k c) → qw on ok r f c = qw on ok' r f c
  | 0, _, _, _ => rfl
  | r + 1, f, c, h => by
    have ih : ∀ c, qw on ok r (f + 1) c = qw on ok' r (f + 1) c := fun c => qw_cong r (f + 1) c (fun g a b => h g (by omega) (by omega))
    unfold qw
    rw [ih c]
    congr 1
    exact qw_l_cong 6 0 (fun k _ hk => by rw [h f (by omega) (by omega) k (by omega) c, ih])
theorem qw_wt_cong {on : Nat → Bool} {kd kd' : Nat → Nat} : ∀ f, (∀ g, g < f → kd g = kd' g) → qw_wt on kd f = qw_wt on kd' f
  | 0, _ => rfl
  | f + 1, h => by
    unfold qw_wt
    rw [qw_wt_cong f (fun g hg => h g (by omega)), h f (by omega)]
theorem qc_W (e : qc_e a a' tx tx') {pn fn st sk hk t : Nat} {or : Nat → Nat} (hf : fn ≤ 6) (ht : t < 24) : qe_W a' tx' pn fn st sk or hk t = qe_W a tx pn fn st sk or hk t := by
  unfold qe_W qx_W
  rw [qc_on e hf ht, qc_hm e hf]
  have er : qw_room (qx_on a fn sk t) (qs_kd a') fn st hk = qw_room (qx_on a fn sk t) (qs_kd a) fn st hk := by
    unfold qw_room
    rw [qw_wt_cong fn (fun g hg => qc_kd e (by omega))]
  rw [er]
  congr 1
  refine qw_cong fn 0 _ (fun g _ hg k hk c => ?_)
  unfold qw_o2 qw_ok qw_pr
  rw [qc_ch e ht (by omega) hk]
  congr 2
  rw [qc_kd e (show g < 6 by omega)]
  apply qs_any_congr
  intro j _ hj
  rw [qc_pl e ht (show g < 6 by omega), qc_pl e ht (show j < 6 by omega)]
end
section
variable {fn bn c : Nat} {o o' : Nat → Nat → Bool} {kd kd' : Nat → Nat} {pv pv' : Nat → Nat → Nat → Nat → Bool} {W W' : Nat → List (Nat → Nat)}
theorem qz_NB_cong {D P D' P' : Nat → Bool} : ∀ k, (∀ f, f < k → D f = D' f ∧ P f = P' f) → qz_B D P k = qz_B D' P' k ∧ qz_N D k = qz_N D' k
  | 0, _ => ⟨rfl, rfl⟩
  | k + 1, h => by
    obtain ⟨e1, e2⟩ := qz_NB_cong k (fun f hf => h f (by omega))
    obtain ⟨e3, e4⟩ := h k (by omega)
    unfold qz_B qz_N
    rw [e1, e2, e3, e4]
    exact ⟨rfl, rfl⟩
/-- two searches that look alike -/
def qc_ss (fn bn : Nat) (o o' : Nat → Nat → Bool) (kd kd' : Nat → Nat) (pv pv' : Nat → Nat → Nat → Nat → Bool) (W W' : Nat → List (Nat → Nat)) : Prop := (∀ t, t < bn → o' t = o t ∧ W' t = W t) ∧ (∀ f, f < fn → kd' f = kd f) ∧ ∀ t, t < bn → ∀ f, f < fn → pv' t f = pv t f
theorem qc_S (H : qc_ss fn bn o o' kd kd' pv pv' W W') {t : Nat} (ht : t + 1 < bn) (x y : Nat → Nat) : qy_S fn c o' kd' pv' t x y = qy_S fn c o kd pv t x y := by
  unfold qy_S qz_V
  obtain ⟨e1, e2⟩ := qz_NB_cong (D := qz_D (o' t) (o' (t + 1)) x y) (P := fun f => pv' (t + 1) f (if kd' f = 2 then x f else x f / 2) (if kd' f = 2 then y f else y f / 2)) (D' := qz_D (o t) (o (t + 1)) x y) (P' := fun f => pv (t + 1) f (if kd f = 2 then x f else x f / 2) (if kd f = 2 then y f else y f / 2)) fn (fun f hf => ⟨by rw [(H.1 t (by omega)).1, (H.1 (t + 1) ht).1], by rw [H.2.1 f hf, H.2.2 (t + 1) ht f hf]⟩)
  rw [e1, e2]
theorem qc_T (H : qc_ss fn bn o o' kd kd' pv pv' W W') : ∀ (r t : Nat) (x : Nat → Nat), t + r < bn → qy_T fn c o' kd' pv' W' r t x = qy_T fn c o kd pv W r t x
  | 0, _, _, _ => rfl
  | r + 1, t, x, h => by
    unfold qy_T
    rw [(H.1 (t + 1) (by omega)).2]
    exact qz_m_c _ _ _ (fun i _ _ => by rw [qc_S H (by omega), qc_T H r (t + 1) _ (by omega)])
theorem qc_M (H : qc_ss fn bn o o' kd kd' pv pv' W W') {t : Nat} (ht : t < bn) : qy_M fn bn c o' kd' pv' W' t = qy_M fn bn c o kd pv W t := by
  unfold qy_M
  rw [(H.1 t ht).2]
  exact qz_m_c _ _ _ (fun i _ _ => by rw [qc_T H _ _ _ (by omega)])
theorem qc_R (H : qc_ss fn bn o o' kd kd' pv pv' W W') (t : Nat) : qy_R fn bn c o' kd' pv' W' t = qy_R fn bn c o kd pv W t := by
  unfold qy_R
  split
  · next h => exact qc_M H h
  · rfl
theorem qc_aa {a a' tx tx' : Nat → Int32} (e : qc_e a a' tx tx') {pn fn bn st sk hk : Nat} {or : Nat → Nat} (hf : fn ≤ 6) (hb : bn ≤ 24) : qc_ss fn bn (qx_on a fn sk) (qx_on a' fn sk) (qs_kd a) (qs_kd a') (qe_pv a tx) (qe_pv a' tx') (qe_W a tx pn fn st sk or hk) (qe_W a' tx' pn fn st sk or hk) :=
  ⟨fun t ht => ⟨qc_on e hf (by omega), qc_W e hf (by omega)⟩, fun f hff => qc_kd e (by omega), fun t ht f hff => by
    funext p q
    unfold qe_pv
    rw [qc_on' e (by omega) (by omega), qc_law e (by omega) (by omega) (by omega)]⟩
end
