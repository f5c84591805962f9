/-! THE HEART: search: prices in the class: onward -/
/-- the price of going from way x at beat t to way y at the next -/
def qy_S (fn c : Nat) (o : Nat → Nat → Bool) (kd : Nat → Nat) (pv : Nat → Nat → Nat → Nat → Bool) (t : Nat) (x y : Nat → Nat) : Nat := qz_V c (qz_D (o t) (o (t + 1)) x y) (fun f => pv (t + 1) f (if kd f = 2 then x f else x f / 2) (if kd f = 2 then y f else y f / 2)) fn
section
variable {pn fn bn c t : Nat} {o : Nat → Nat → Bool} {kd : Nat → Nat} {pv : Nat → Nat → Nat → Nat → Bool} {h : Nat → Nat → Int32}
theorem qy_S_le (hf : fn ≤ 6) (hc : c ≤ 1) (x y : Nat → Nat) : qy_S fn c o kd pv t x y ≤ 1000000 := by
  unfold qy_S qz_V
  have := qz_N_le (qz_D (o t) (o (t + 1)) x y) fn
  split
  · omega
  · rcases (show c = 0 ∨ c = 1 by omega) with rfl | rfl <;> omega
theorem qy_sw (H : qy_L pn fn bn c o kd pv h) (ht : t + 1 < bn) {x y : Nat → Nat} (hx : qy_w pn fn (o t) kd x) (hy : qy_w pn fn (o (t + 1)) kd y) : zS_priceOfSwaps (nI (t + 1)) (nI (qw_e x fn)) (nI (qw_e y fn)) (nI (qw_e (qz_st (o t) (o (t + 1))) fn)) h = some (nI (qy_S fn c o kd pv t x y)) := by
  have hx8 : ∀ g, x g < 8 := fun g => Nat.lt_trans (hx.1 g) (by decide)
  have hy8 : ∀ g, y g < 8 := fun g => Nat.lt_trans (hy.1 g) (by decide)
  have e2 := H.2.1.2.2
  have := qy_swL H ht hx hy fn am_N 0 (Nat.le_refl _) (Nat.lt_of_le_of_lt H.1.2.1 (by decide)) (by omega)
  unfold qy_S qz_V
  rw [Nat.zero_add] at this
  rw [← this, ← qz_gg hx8 hy8 fn]
  simp (disch := omega) only [↓qa_b, zS_priceOfSwaps, e2, qa_lit, qr_dS, qa_xor, fa_and]
theorem qy_S0 {x y : Nat → Nat} (hx : qy_w pn fn (o t) kd x) (hy : qy_w pn fn (o (t + 1)) kd y) (e : qw_e y fn = qw_e x fn) : qy_S fn c o kd pv t x y = 0 := by
  have hx8 : ∀ g, x g < 8 := fun g => Nat.lt_trans (hx.1 g) (by decide)
  have hy8 : ∀ g, y g < 8 := fun g => Nat.lt_trans (hy.1 g) (by decide)
  have := qz_ei hy8 hx8 fn e
  have z := qz_NB0 (D := qz_D (o t) (o (t + 1)) x y) (P := fun f => pv (t + 1) f (if kd f = 2 then x f else x f / 2) (if kd f = 2 then y f else y f / 2)) fn (fun g hg => by
    unfold qz_D
    rw [this g hg, decide_eq_false (fun q => q rfl), Bool.and_false, Bool.and_false])
  unfold qy_S qz_V
  rw [z.1, z.2]
  rfl
theorem qz_ej {x y : Nat → Nat} : ∀ k, qw_e x k ≠ qw_e y k → ∃ g, g < k ∧ x g ≠ y g
  | 0, h => absurd rfl h
  | k + 1, h => by
    by_cases e : x k = y k
    · rw [show qw_e x (k + 1) = qw_e x k * 8 + x k from rfl, show qw_e y (k + 1) = qw_e y k * 8 + y k from rfl] at h
      obtain ⟨g, h1, h2⟩ := qz_ej k (fun q => h (by rw [q, e]))
      exact ⟨g, by omega, h2⟩
    · exact ⟨k, by omega, e⟩
theorem qy_S1 (hc : c ≤ 1) {x y : Nat → Nat} (hx : qy_w pn fn (o t) kd x) (hy : qy_w pn fn (o (t + 1)) kd y) (hs : ∀ g, g < fn → o t g = o (t + 1) g) (e : qw_e y fn ≠ qw_e x fn) : c ≤ qy_S fn c o kd pv t x y := by
  obtain ⟨g, h1, h2⟩ := qz_ej fn e
  have ho : o t g = true := by
    cases q : o t g
    · have a := (hx.2 g h1).2 q
      have b := (hy.2 g h1).2 (by rw [← hs g h1]; exact q)
      omega
    · rfl
  have := qz_N1 (D := qz_D (o t) (o (t + 1)) x y) fn g h1 (by
    unfold qz_D
    rw [← hs g h1, ho, decide_eq_true (show x g ≠ y g from fun q => h2 q.symm)]
    rfl)
  unfold qy_S qz_V
  split
  · omega
  · exact Nat.le_mul_of_pos_right c this
end
theorem qz_m_snoc (G : Nat → Nat) : ∀ (k b j : Nat), qz_m G b j (k + 1) = min (qz_m G b j k) (G (j + k))
  | 0, b, j => rfl
  | k + 1, b, j => by
    have := qz_m_snoc G k (min b (G j)) (j + 1)
    rw [show j + 1 + k = j + (k + 1) by omega] at this
    exact this
section
variable {u m fl X b0 : Nat} {E T S : Nat → Nat} {h : Nat → Nat → Int32} {st : Int32}
theorem qy_onL (hu : u < 24) (hm : m ≤ 720) (hf2 : fl ≤ 2000000) (e73 : h 73 u = nI m) (e71 : ∀ j, j < m → h 71 (u * 720 + j) = nI (E j)) (e72 : ∀ j, j < m → h 72 (u * 720 + j) = nI (T j) ∧ T j ≤ 1000000) (esw : ∀ j, j < m → zS_priceOfSwaps (nI u) (nI X) (nI (E j)) st h = some (nI (S j)) ∧ S j ≤ 1000000) (hfl : ∀ b, b ≤ fl → b ≤ b0 → ∀ j, j < m → b ≤ S j + T j) :
    ∀ (k n j b : Nat), j + k = m → k < n → b ≤ 1000000 → b ≤ b0 → (∀ i, i < j → b ≤ S i + T i) → (b = 1000000 ∨ ∃ i, i < m ∧ b = S i + T i) → zS_priceOnward_L19 n (nI u) (nI X) st (nI fl) (nI b) (nI (u * 720)) (nI (u * 720 + j)) h = some (nI (qz_m (fun j => S j + T j) 1000000 0 m))
  | 0, n + 1, j, b, hj, _, hb, h0, hi, hx => by
    have : j = m := by omega
    subst this
    rw [qz_m_eq (G := fun j => S j + T j) hb hi hx]
    simp (disch := omega) only [↓reduceIte, zS_priceOnward_L19, qa_lit, nI_add, qa_ix, qa_cl, e73, qa_ltF]
  | k + 1, n + 1, j, b, hj, hn, hb, h0, hi, hx => by
    obtain ⟨e1, e2⟩ := e72 j (by omega)
    obtain ⟨e3, e4⟩ := esw j (by omega)
    have e5 := e71 j (by omega)
    by_cases hf : fl < b
    · by_cases h1 : T j < b
      · have ih := qy_onL hu hm hf2 e73 e71 e72 esw hfl k n (j + 1) (min b (S j + T j)) (by omega) (by omega) (by omega) (by omega) (fun i hl => by
          by_cases e : i = j
          · subst e; omega
          · have := hi i (by omega); omega) (by
          by_cases e : b ≤ S j + T j
          · rw [show min b (S j + T j) = b by omega]; exact hx
          · right; exact ⟨j, by omega, by omega⟩)
        by_cases h2 : S j + T j < b
        · rw [show min b (S j + T j) = T j + S j by omega] at ih
          simp (disch := omega) only [↓reduceIte, ↓qa_b, zS_priceOnward_L19, zD_min, qa_lit, nI_add, qa_ix, qa_cl, e73, qa_ltT, e1, e5, e3, Option.bind_some, Nat.add_assoc]
          exact ih
        · rw [show min b (S j + T j) = b by omega] at ih
          simp (disch := omega) only [↓reduceIte, ↓qa_b, zS_priceOnward_L19, zD_min, qa_lit, nI_add, qa_ix, qa_cl, e73, qa_ltT, qa_ltF, e1, e5, e3, Option.bind_some, Nat.add_assoc]
          exact ih
      · have ih := qy_onL hu hm hf2 e73 e71 e72 esw hfl k n (j + 1) b (by omega) (by omega) hb h0 (fun i hl => by
          by_cases e : i = j
          · subst e; omega
          · exact hi i (by omega)) hx
        simp (disch := omega) only [↓reduceIte, ↓qa_b, zS_priceOnward_L19, qa_lit, nI_add, qa_ix, qa_cl, e73, qa_ltT, qa_ltF, e1, Nat.add_assoc]
        exact ih
    · rw [qz_m_eq (G := fun j => S j + T j) hb (fun i hl => hfl b (by omega) h0 i hl) hx]
      simp (disch := omega) only [↓reduceIte, ↓qa_b, zS_priceOnward_L19, qa_lit, nI_add, qa_ix, qa_cl, e73, qa_ltT, qa_ltF]
/-- the least price onward: fl is the least price of the next beat, and c more where the cast is the same -/
theorem qy_on {c : Nat} {same : Bool} (hu0 : 0 < u) (hu : u < 24) (hm : m ≤ 720) (hc : c ≤ 1) (hX : X < 262144) (efl : fl = qz_m T 1000000 0 m + (if same then c else 0)) (e73 : h 73 u = nI m) (e71 : ∀ j, j < m → h 71 (u * 720 + j) = nI (E j) ∧ E j < 262144) (rise : ∀ i j, i < j → j < m → E i < E j) (e72 : ∀ j, j < m → h 72 (u * 720 + j) = nI (T j) ∧ T j ≤ 1000000) (esw : ∀ j, j < m → zS_priceOfSwaps (nI u) (nI X) (nI (E j)) st h = some (nI (S j)) ∧ S j ≤ 1000000) (hS0 : ∀ j, j < m → E j = X → S j = 0) (hS1 : ∀ j, j < m → same = true → E j ≠ X → c ≤ S j) :
    zS_priceOnward (nI u) (nI X) st (nI fl) h = some (nI (qz_m (fun j => S j + T j) 1000000 0 m)) := by
  obtain ⟨m1, m2, m3⟩ := qz_m_le T m 1000000 0
  rw [Nat.zero_add] at m2
  have hfl2 : fl ≤ 2000000 := by split at efl <;> omega
  have B := qz_bin (lo := u * 720) (hi := u * 720 + m) (s := X) (h := h) (F := fun p => E (p - u * 720)) (T := fun p => T (p - u * 720)) (by omega) (by omega) (by omega) (fun p q1 q2 => by
    have := e71 (p - u * 720) (by omega)
    rw [show u * 720 + (p - u * 720) = p by omega] at this
    exact ⟨this.1, by have := this.2; omega⟩) (fun p q1 q2 => by
    have := (e72 (p - u * 720) (by omega)).1
    rw [show u * 720 + (p - u * 720) = p by omega] at this
    exact this) (fun p q q1 q2 q3 => rise _ _ (by omega) (by omega)) am_N (u * 720) (u * 720 + m) (Nat.lt_of_le_of_lt (show u * 720 + m - u * 720 ≤ 720 by omega) (by decide)) (Nat.le_refl _) (by omega) (Nat.le_refl _) (fun p q1 q2 _ => ⟨q1, q2⟩)
  have key : ∀ b0, b0 ≤ 1000000 → (b0 = 1000000 ∨ ∃ i, i < m ∧ b0 = S i + T i) → (∀ j, j < m → E j = X → b0 ≤ T j) → zS_priceOfSame_L18 am_N (nI X) (nI (u * 720)) (nI (u * 720 + m - 1)) h = some (nI b0) → zS_priceOnward (nI u) (nI X) st (nI fl) h = some (nI (qz_m (fun j => S j + T j) 1000000 0 m)) := fun b0 hb hx hl eb => by
    have L := qy_onL (b0 := b0) hu hm hfl2 e73 (fun j hj => (e71 j hj).1) e72 esw (fun b q1 q2 j hj => by
      have tj := m2 j (by omega) hj
      by_cases e : E j = X
      · have := hl j hj e
        omega
      · cases same
        · rw [if_neg (by decide)] at efl
          omega
        · rw [if_pos rfl] at efl
          have := hS1 j hj rfl e
          omega) m am_N 0 b0 (by omega) (Nat.lt_of_le_of_lt hm (by decide)) hb (Nat.le_refl _) (fun i hi => by omega) hx
    rw [Nat.add_zero] at L
    rw [← L]
    simp (disch := omega) only [↓reduceIte, ↓qa_b, zS_priceOnward, zS_priceOfSame, qa_lit, pk_mul, nI_add, qa_ix, qa_cl, e73, qa_sub, eb, Option.bind_some]
  rcases B with ⟨p, q1, q2, q3, q4⟩ | ⟨q1, q2⟩
  · have z := hS0 (p - u * 720) (by omega) q3
    refine key _ (e72 (p - u * 720) (by omega)).2 (Or.inr ⟨p - u * 720, by omega, by omega⟩) (fun j hj e => ?_) q4
    have : j = p - u * 720 := by
      rcases Nat.lt_trichotomy j (p - u * 720) with q | q | q
      · have := rise _ _ q (by omega)
        omega
      · exact q
      · have := rise _ _ q hj
        omega
    rw [this]
    exact Nat.le_refl _
  · exact key _ (Nat.le_refl _) (Or.inl rfl) (fun j hj e => absurd (by rw [show u * 720 + j - u * 720 = j by omega]; exact e) (q1 (u * 720 + j) (by omega) (by omega))) q2
end
