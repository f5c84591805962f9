/-! THE HEART: strike -/
theorem qt_sub : ∀ s, s < 64 → ∀ A, A < 64 → decide (nI s &&& (nI A ^^^ qN) = nI 0) = decide (s &&& A = s) := by decide +kernel
theorem qt_or1 : ∀ x, x < 64 → ∀ f, f < 6 → x ||| 2 ^ f < 64 := by decide +kernel
def qk_e4 : Option (Nat × Nat) → Int32
  | none => nI 0
  | some q => nI q.2
def qk_x (x : Nat) : Option (Nat × Nat) → Int32
  | none => qN
  | some q => if x = 0 then nI q.1 else nI q.2
theorem qk_e1n : qk_e1 none = qN := rfl
theorem qk_e1s (q : Nat × Nat) : qk_e1 (some q) = nI q.1 := rfl
theorem qk_e2n : qk_e2 none = qN := rfl
theorem qk_e2s (q : Nat × Nat) : qk_e2 (some q) = nI q.2 := rfl
theorem qk_e4n : qk_e4 none = nI 0 := rfl
theorem qk_e4s (q : Nat × Nat) : qk_e4 (some q) = nI q.2 := rfl
theorem qk_xn (x : Nat) : qk_x x none = qN := rfl
theorem qk_xs (x : Nat) (q : Nat × Nat) : qk_x x (some q) = if x = 0 then nI q.1 else nI q.2 := rfl
theorem qk_b_bd {fe : Nat → Bool} {wt : Nat → Nat} : ∀ s, s ≤ 64 → (∀ j, j < s → wt j < 2147483648) → ∀ q, qk_b fe wt s = some q → q.1 < 64 ∧ q.2 < 2147483648
  | 0, _, _, q, hq => by cases hq
  | s + 1, hs, hw, q, hq => by
    have w1 := hw s (by omega)
    have ih := qk_b_bd (fe := fe) (wt := wt) s (by omega) (fun j hj => hw j (by omega))
    rw [show qk_b fe wt (s + 1) = (match qk_b fe wt s with | none => if fe s then some (s, wt s) else none | some q => if decide (wt s < q.2) && fe s then some (s, wt s) else some q) from rfl] at hq
    cases hb : qk_b fe wt s with
    | none =>
      rw [hb] at hq
      simp only at hq
      split at hq
      · rw [← Option.some.inj hq]
        exact ⟨by simp only; omega, w1⟩
      · cases hq
    | some q' =>
      rw [hb] at hq
      simp only at hq
      split at hq
      · rw [← Option.some.inj hq]
        exact ⟨by simp only; omega, w1⟩
      · rw [← Option.some.inj hq]
        exact ih q' hb
theorem qk_w_and (a : Nat → Int32) (s A : Nat) : ∀ f, qk_w a (s &&& A) f ≤ qk_w a s f
  | 0 => Nat.le_refl 0
  | f + 1 => by
    unfold qk_w
    have e : (s &&& A) / 2 ^ f % 2 ≤ s / 2 ^ f % 2 := by
      rw [Nat.and_div_two_pow]
      have := Nat.and_mod_two_pow (a := s / 2 ^ f) (b := A / 2 ^ f) (n := 1)
      rw [Nat.pow_one] at this
      rw [this]
      exact Nat.and_le_left
    exact Nat.add_le_add (qk_w_and a s A f) (Nat.mul_le_mul_right _ (Nat.mul_le_mul_right _ e))
section
variable {L P pn fn tn bn : Nat} {w : zHM} {h : Nat → Nat → Int32} {hmo : Nat → Nat} {hk : Nat}
theorem qi_wl (HA : qi_a L P pn fn tn bn (w.1 84)) (hL : L ≤ 100000) {f : Nat} (hf : f < fn) : w.1 84 (20 + 2 * f + 1) = nI (qv (w.1 84) (20 + 2 * f + 1)) ∧ qv (w.1 84) (20 + 2 * f + 1) ≤ 99 ∧ w.1 84 (34 + f) = nI (qv (w.1 84) (34 + f)) ∧ qv (w.1 84) (34 + f) ≤ L := by
  obtain ⟨-, ⟨x, x1, x2, x3⟩, ⟨y, y1, y2⟩, -⟩ := HA.2.2.2.2.2.1 f hf
  have p1 := qv_ofle (a := w.1 84) (j := 20 + 2 * f + 1) (P := 99) (by omega) ⟨x, x2, x3⟩
  have p2 := qv_ofle (a := w.1 84) (j := 34 + f) (P := L) (by omega) ⟨y, y1, y2⟩
  exact ⟨p1.1, p1.2, p2.1, p2.2⟩
theorem qk_w_le (HA : qi_a L P pn fn tn bn (w.1 84)) (hL : L ≤ 100000) (s : Nat) : ∀ f, f ≤ fn → qk_w (w.1 84) s f ≤ f * 9900000
  | 0, _ => Nat.le_refl 0
  | f + 1, h => by
    have := qk_w_le HA hL s f (by omega)
    obtain ⟨-, p1, -, p2⟩ := qi_wl HA hL (show f < fn by omega)
    unfold qk_w
    have e2 : s / 2 ^ f % 2 ≤ 1 := by omega
    have m1 : s / 2 ^ f % 2 * qv (w.1 84) (20 + 2 * f + 1) ≤ 1 * 99 := Nat.mul_le_mul e2 p1
    have m2 : s / 2 ^ f % 2 * qv (w.1 84) (20 + 2 * f + 1) * qv (w.1 84) (34 + f) ≤ 1 * 99 * 100000 := Nat.mul_le_mul m1 (by omega)
    omega
/-- the reference weighs -/
theorem qm_w46 (HA : qi_a L P pn fn tn bn (w.1 84)) (hL : L ≤ 100000) (K : Int32 → Int32 → Int32 → Int32 → Int32 → zHM → Option (Int32 × zHM)) (v1 v2 v3 v4 : Int32) {s : Nat} (hs : s < 64) {u : zHM} (eu : u.1 84 = w.1 84) : ∀ (k n f : Nat), f + k = fn → k < n → zM_strike_L46 K n v1 v2 v3 v4 (nI s) (nI (qk_w (w.1 84) s f)) (nI f) u = (if v3 < nI 0 then zM_strike_J115 K v1 v2 v3 v4 (nI s) (nI (qk_w (w.1 84) s fn)) u else if nI (qk_w (w.1 84) s fn) < v4 then zM_strike_J115 K v1 v2 v3 v4 (nI s) (nI (qk_w (w.1 84) s fn)) u else K v1 v2 v3 v4 (nI (s + 1)) u)
  | 0, n + 1, f, hf, _ => by
    obtain ⟨a0, a1, a4, a6, lpn, lfn, ltn, lbn⟩ := id HA.1
    have : f = fn := by omega
    subst this
    have b1 : u.1 84 1 = nI f := by rw [eu]; exact a1
    simp (disch := omega) only [↓reduceIte, zM_strike_L46, b1, qa_ltF, qa_lit, nI_add]
  | k + 1, n + 1, f, hf, hn => by
    obtain ⟨a0, a1, a4, a6, lpn, lfn, ltn, lbn⟩ := id HA.1
    have b1 : u.1 84 1 = nI fn := by rw [eu]; exact a1
    obtain ⟨p1, p2, p3, p4⟩ := qi_wl HA hL (show f < fn by omega)
    rw [← qm_w46 HA hL K v1 v2 v3 v4 hs eu k n (f + 1) (by omega) (by omega)]
    rw [← eu] at p1 p3
    rw [show qk_w (w.1 84) s (f + 1) = qk_w (w.1 84) s f + s / 2 ^ f % 2 * qv (w.1 84) (20 + 2 * f + 1) * qv (w.1 84) (34 + f) from rfl]
    rw [← eu] at *
    generalize qv (u.1 84) (20 + 2 * f + 1) = A at *
    generalize qv (u.1 84) (34 + f) = B at *
    simp (disch := omega) only [↓reduceIte, ↓qa_b, zM_strike_L46, b1, qa_ltT, qa_lit, nI_add, pk_mul, qa_ix, qa_cl, p1, p3, qa_31, qa_shr, qa_and1]
def qm_f (w u : zHM) : Prop := (∀ c, c ≠ 83 → c ≠ 89 → c ≠ 91 → c < 92 ∨ 97 < c → u.1 c = w.1 c) ∧ ∀ j, j ≠ 29 → j ≠ 30 → u.1 83 j = w.1 83 j
theorem qm_strikeL (HA : qi_a L P pn fn tn bn (w.1 84)) (hL : L ≤ 100000) (hP : P ≤ 8) (hask : qk_askM w) (e2 : ∀ p, p < pn → w.1 84 (10 + 2 * p) = nI (hmo p) ∧ hmo p < 8) (eh : w.1 84 2 = nI hk) (hhk : hk ≤ 6) {st x : Nat} (hs : st < 2 ^ pn) (hx : x ≤ 1) :
    ∀ (d n s : Nat) (u : zHM), s + d = 2 ^ fn → d < n → qm_f w u → ∃ u', zM_strike_L27 n (nI st) (nI x) (qk_e1 (qk_b (qk_fe (w.1 84) (w.1 86) pn fn bn st (qs_or hmo pn) hk) (fun s => qk_w (w.1 84) s fn) s)) (qk_e4 (qk_b (qk_fe (w.1 84) (w.1 86) pn fn bn st (qs_or hmo pn) hk) (fun s => qk_w (w.1 84) s fn) s)) (nI s) u = some (qk_x x (qk_B (w.1 84) (w.1 86) pn fn bn st (qs_or hmo pn) hk), u') ∧ qm_f w u'
  | 0, n + 1, s, u, hd, _, hf => by
    obtain ⟨a0, a1, a4, a6, lpn, lfn, ltn, lbn⟩ := id HA.1
    have h6 : 2 ^ fn ≤ 2 ^ 6 := Nat.pow_le_pow_right (n := 2) (by omega) lfn
    have : s = 2 ^ fn := by omega
    have b1 : u.1 84 1 = nI fn := by rw [hf.1 84 (by omega) (by omega) (by omega) (by omega)]; exact a1
    have eL := qa_1shl (i := fn) (by omega)
    refine ⟨u, ?_, hf⟩
    rw [this]
    change zM_strike_L27 (n + 1) (nI st) (nI x) (qk_e1 (qk_B (w.1 84) (w.1 86) pn fn bn st (qs_or hmo pn) hk)) (qk_e4 (qk_B (w.1 84) (w.1 86) pn fn bn st (qs_or hmo pn) hk)) (nI (2 ^ fn)) u = _
    have hB : ∀ q, qk_B (w.1 84) (w.1 86) pn fn bn st (qs_or hmo pn) hk = some q → q.1 < 64 ∧ q.2 < 2147483648 := qk_b_bd _ (by omega) (fun j _ => by have := qk_w_le HA hL j fn (Nat.le_refl _); omega)
    cases hq : qk_B (w.1 84) (w.1 86) pn fn bn st (qs_or hmo pn) hk with
    | none =>
      rw [qk_e1n, qk_e4n, qk_xn]
      simp (disch := omega) only [↓reduceIte, zM_strike_L27, b1, qa_lit, qa_31, eL, qa_ltF, qa_Nlt0, qa_neg1]
    | some q =>
      obtain ⟨q1, q2⟩ := hB q hq
      rw [qk_e1s, qk_e4s, qk_xs]
      by_cases hz : x = 0
      · rw [if_pos hz, hz]
        simp (disch := omega) only [↓reduceIte, zM_strike_L27, b1, qa_lit, qa_31, eL, qa_ltF]
      · rw [if_neg hz]
        simp (disch := omega) only [↓reduceIte, zM_strike_L27, b1, qa_lit, qa_31, eL, qa_ltF, qa_eqF]
  | d + 1, n + 1, s, u, hd, hn, hf => by
    obtain ⟨a0, a1, a4, a6, lpn, lfn, ltn, lbn⟩ := id HA.1
    have h6 : 2 ^ fn ≤ 2 ^ 6 := Nat.pow_le_pow_right (n := 2) (by omega) lfn
    have s64 : s < 64 := by omega
    have e84 := hf.1 84 (by omega) (by omega) (by omega) (by omega)
    have e86 := hf.1 86 (by omega) (by omega) (by omega) (by omega)
    have b1 : u.1 84 1 = nI fn := by rw [e84]; exact a1
    have eL := qa_1shl (i := fn) (by omega)
    have wl := qk_w_le HA hL s fn (Nat.le_refl _)
    have ih := fun u' (hf' : qm_f w u') => qm_strikeL HA hL hP hask e2 eh hhk hs hx d n (s + 1) u' (by omega) (by omega) hf'
    have st0 := fun v3 v4 => qm_w46 (w := w) HA hL (fun v1 v2 v3 v4 v5 w => zM_strike_L27 n v1 v2 v3 v4 v5 w) (nI st) (nI x) v3 v4 s64 e84 fn am_N 0 (by omega) (Nat.lt_of_le_of_lt lfn (by decide))
    have st1 : ∀ v3 v4, zM_strike_L27 (n + 1) (nI st) (nI x) v3 v4 (nI s) u = zM_strike_L46 (fun v1 v2 v3 v4 v5 w => zM_strike_L27 n v1 v2 v3 v4 v5 w) am_N (nI st) (nI x) v3 v4 (nI s) (nI 0) (nI 0) u := fun v3 v4 => by
      simp (disch := omega) only [↓reduceIte, zM_strike_L27, b1, qa_lit, qa_31, eL, qa_ltT]
    obtain ⟨u1, y1, y2, y3, y4⟩ := qm_reckon (w := u) (hmo := hmo) (st := st) (sk := s) (hk := hk) (b := 0) (by rw [e84]; exact HA) hP (qk_askM_e hask e84 e86) (by rw [e84]; exact e2) hs s64 (by rw [e84]; exact eh) hhk (Nat.zero_le _)
    rw [e84, e86] at y4
    have f1 : qm_f w u1 := ⟨fun c c1 c2 c3 c4 => by rw [y2 c c1 c2 c3 c4, hf.1 c c1 c2 c3 c4], fun j j1 j2 => by rw [y3 j j1 j2, hf.2 j j1 j2]⟩
    have lo := qe_least (w := u1) (pn := pn) (fn := fn) (st := st) (sk := s) (hk := hk) (a := w.1 84) (tx := w.1 86) (or := qs_or hmo pn) lbn (by rw [f1.1 84 (by omega) (by omega) (by omega) (by omega)]; exact a6) (qx_W_len HA hs hhk) (fun t ht => y4 t (by omega) ht)
    change zM_leastOf u1 = some (nI (qe_R (w.1 84) (w.1 86) pn fn bn st s (qs_or hmo pn) hk 1 0)) at lo
    have lr : qe_R (w.1 84) (w.1 86) pn fn bn st s (qs_or hmo pn) hk 1 0 ≤ 1000000 := by
      unfold qe_R qy_R
      split
      · exact qy_M_le _
      · omega
    have J : ∀ v3 v4, zM_strike_J115 (fun v1 v2 v3 v4 v5 w => zM_strike_L27 n v1 v2 v3 v4 v5 w) (nI st) (nI x) v3 v4 (nI s) (nI (qk_w (w.1 84) s fn)) u = (if qk_fe (w.1 84) (w.1 86) pn fn bn st (qs_or hmo pn) hk s then zM_strike_L27 n (nI st) (nI x) (nI s) (nI (qk_w (w.1 84) s fn)) (nI (s + 1)) u1 else zM_strike_L27 n (nI st) (nI x) v3 v4 (nI (s + 1)) u1) := fun v3 v4 => by
      unfold qk_fe
      by_cases q : qe_R (w.1 84) (w.1 86) pn fn bn st s (qs_or hmo pn) hk 1 0 < 1000000
      · rw [decide_eq_true q, if_pos rfl]
        simp (disch := omega) only [↓reduceIte, zM_strike_J115, qa_lit, y1, lo, Option.bind_some, qa_ltT, nI_add]
      · rw [decide_eq_false q, if_neg (by decide)]
        simp (disch := omega) only [↓reduceIte, zM_strike_J115, qa_lit, y1, lo, Option.bind_some, qa_ltF, nI_add]
    have eb : qk_b (qk_fe (w.1 84) (w.1 86) pn fn bn st (qs_or hmo pn) hk) (fun s => qk_w (w.1 84) s fn) (s + 1) = (match qk_b (qk_fe (w.1 84) (w.1 86) pn fn bn st (qs_or hmo pn) hk) (fun s => qk_w (w.1 84) s fn) s with | none => if qk_fe (w.1 84) (w.1 86) pn fn bn st (qs_or hmo pn) hk s then some (s, qk_w (w.1 84) s fn) else none | some q => if decide (qk_w (w.1 84) s fn < q.2) && qk_fe (w.1 84) (w.1 86) pn fn bn st (qs_or hmo pn) hk s then some (s, qk_w (w.1 84) s fn) else some q) := rfl
    rw [eb] at ih
    rw [st1]
    change ∃ u', zM_strike_L46 (fun v1 v2 v3 v4 v5 w => zM_strike_L27 n v1 v2 v3 v4 v5 w) am_N (nI st) (nI x) _ _ (nI s) (nI (qk_w (w.1 84) s 0)) (nI 0) u = _ ∧ _
    rw [st0]
    have hB : ∀ q, qk_b (qk_fe (w.1 84) (w.1 86) pn fn bn st (qs_or hmo pn) hk) (fun s => qk_w (w.1 84) s fn) s = some q → q.1 < 64 ∧ q.2 < 2147483648 := qk_b_bd _ (by omega) (fun j _ => by have := qk_w_le HA hL j fn (Nat.le_refl _); omega)
    cases hq : qk_b (qk_fe (w.1 84) (w.1 86) pn fn bn st (qs_or hmo pn) hk) (fun s => qk_w (w.1 84) s fn) s with
    | none =>
      rw [hq] at ih
      simp only at ih
      rw [qk_e1n, qk_e4n]
      rw [if_pos (show qN < nI 0 by decide), J]
      cases hfe : qk_fe (w.1 84) (w.1 86) pn fn bn st (qs_or hmo pn) hk s
      · rw [hfe] at ih
        exact ih u1 f1
      · rw [hfe] at ih
        exact ih u1 f1
    | some q =>
      obtain ⟨q1, q2⟩ := hB q hq
      rw [hq] at ih
      simp only at ih
      rw [qk_e1s, qk_e4s]
      rw [if_neg (by rw [qa_ltF (by omega) (by omega)]; exact id)]
      by_cases hw : qk_w (w.1 84) s fn < q.2
      · rw [if_pos (by rw [qa_ltT (by omega) (by omega)]; trivial), J]
        rw [decide_eq_true hw, Bool.true_and] at ih
        cases hfe : qk_fe (w.1 84) (w.1 86) pn fn bn st (qs_or hmo pn) hk s
        · rw [hfe] at ih
          exact ih u1 f1
        · rw [hfe] at ih
          exact ih u1 f1
      · rw [if_neg (by rw [qa_ltF (by omega) (by omega)]; exact id)]
        rw [decide_eq_false hw, Bool.false_and] at ih
        exact ih u hf
end
