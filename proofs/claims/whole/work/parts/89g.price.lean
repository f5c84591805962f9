/-! THE HEART: search: prices, pure -/
def qz_D (o0 o1 : Nat → Bool) (x y : Nat → Nat) (f : Nat) : Bool := o0 f && (o1 f && decide (x f ≠ y f))
def qz_B (D P : Nat → Bool) : Nat → Bool
  | 0 => false
  | k + 1 => qz_B D P k || (D k && !P k)
def qz_N (D : Nat → Bool) : Nat → Nat
  | 0 => 0
  | k + 1 => qz_N D k + (if D k then 1 else 0)
/-- the price of swaps: NEVER if one may not be, else c for each -/
def qz_V (c : Nat) (D P : Nat → Bool) (k : Nat) : Nat := if qz_B D P k then 1000000 else c * qz_N D k
theorem qz_B_up {D P : Nat → Bool} {k : Nat} (h : qz_B D P k = true) : ∀ m, qz_B D P (k + m) = true
  | 0 => h
  | m + 1 => by
    rw [show k + (m + 1) = k + m + 1 by omega]
    unfold qz_B
    rw [qz_B_up h m, Bool.true_or]
theorem qz_N_le (D : Nat → Bool) : ∀ k, qz_N D k ≤ k
  | 0 => Nat.le_refl 0
  | k + 1 => by
    have := qz_N_le D k
    unfold qz_N
    split <;> omega
theorem qz_sV {o0 o1 : Nat → Bool} {ps : Nat → Nat → Nat → Bool} {ow : Nat → Nat → Nat} {c : Nat} {x y : Nat → Nat} : ∀ (k f s : Nat), qz_B (qz_D o0 o1 x y) (fun f => ps f (ow f (x f)) (ow f (y f))) f = false → s = c * qz_N (qz_D o0 o1 x y) f → qz_s o0 o1 ps ow c x y s f k = qz_V c (qz_D o0 o1 x y) (fun f => ps f (ow f (x f)) (ow f (y f))) (f + k)
  | 0, f, s, hb, hs => by
    unfold qz_s qz_V
    rw [Nat.add_zero, hb, hs]
    rfl
  | k + 1, f, s, hb, hs => by
    have ih := qz_sV (o0 := o0) (o1 := o1) (ps := ps) (ow := ow) (c := c) (x := x) (y := y) k (f + 1)
    rw [show f + 1 + k = f + (k + 1) by omega] at ih
    unfold qz_s
    by_cases hd : o0 f = true ∧ o1 f = true ∧ x f ≠ y f
    · have eD : qz_D o0 o1 x y f = true := by
        unfold qz_D
        rw [hd.1, hd.2.1, decide_eq_true hd.2.2]
        rfl
      rw [if_pos hd]
      cases hp : ps f (ow f (x f)) (ow f (y f))
      · have b : qz_B (qz_D o0 o1 x y) (fun f => ps f (ow f (x f)) (ow f (y f))) (f + 1) = true := by
          unfold qz_B
          rw [eD, hp, hb]
          rfl
        have := qz_B_up b k
        rw [show f + 1 + k = f + (k + 1) by omega] at this
        unfold qz_V
        rw [this]
        rfl
      · rw [if_pos rfl]
        refine ih (s + c) ?_ ?_
        · unfold qz_B
          rw [eD, hp, hb]
          rfl
        · rw [show qz_N (qz_D o0 o1 x y) (f + 1) = qz_N (qz_D o0 o1 x y) f + (if qz_D o0 o1 x y f then 1 else 0) from rfl, eD, if_pos rfl, hs, Nat.mul_succ]
    · have eD : qz_D o0 o1 x y f = false := by
        unfold qz_D
        cases h0 : o0 f
        · rfl
        · cases h1 : o1 f
          · rfl
          · rw [Bool.true_and, Bool.true_and, decide_eq_false_iff_not]
            exact fun h => hd ⟨h0, h1, h⟩
      rw [if_neg hd]
      refine ih s ?_ ?_
      · unfold qz_B
        rw [eD, hb]
        rfl
      · rw [show qz_N (qz_D o0 o1 x y) (f + 1) = qz_N (qz_D o0 o1 x y) f + (if qz_D o0 o1 x y f then 1 else 0) from rfl, eD, if_neg (by decide), hs, Nat.add_zero]
theorem qz_sW (o0 o1 : Nat → Bool) (ps : Nat → Nat → Nat → Bool) (ow : Nat → Nat → Nat) (c : Nat) (x y : Nat → Nat) (k : Nat) : qz_s o0 o1 ps ow c x y 0 0 k = qz_V c (qz_D o0 o1 x y) (fun f => ps f (ow f (x f)) (ow f (y f))) k := by
  have := qz_sV (o0 := o0) (o1 := o1) (ps := ps) (ow := ow) (c := c) (x := x) (y := y) k 0 0 rfl (by rw [show qz_N (qz_D o0 o1 x y) 0 = 0 from rfl, Nat.mul_zero])
  rw [Nat.zero_add] at this
  exact this
/-- digits -/
theorem qz_x8 {a b c d : Nat} (hb : b < 8) (hd : d < 8) : (a * 8 + b) ^^^ (c * 8 + d) = (a ^^^ c) * 8 + (b ^^^ d) := by
  have e1 := Nat.xor_div_two_pow (a := a * 8 + b) (b := c * 8 + d) (n := 3)
  have e2 := Nat.xor_mod_two_pow (a := a * 8 + b) (b := c * 8 + d) (n := 3)
  rw [show (2 : Nat) ^ 3 = 8 by decide] at e1 e2
  rw [show (a * 8 + b) / 8 = a by omega, show (c * 8 + d) / 8 = c by omega] at e1
  rw [show (a * 8 + b) % 8 = b by omega, show (c * 8 + d) % 8 = d by omega] at e2
  omega
theorem qz_a8 {a b c d : Nat} (hb : b < 8) (hd : d < 8) : (a * 8 + b) &&& (c * 8 + d) = (a &&& c) * 8 + (b &&& d) := by
  have e1 := Nat.and_div_two_pow (a := a * 8 + b) (b := c * 8 + d) (n := 3)
  have e2 := Nat.and_mod_two_pow (a := a * 8 + b) (b := c * 8 + d) (n := 3)
  rw [show (2 : Nat) ^ 3 = 8 by decide] at e1 e2
  rw [show (a * 8 + b) / 8 = a by omega, show (c * 8 + d) / 8 = c by omega] at e1
  rw [show (a * 8 + b) % 8 = b by omega, show (c * 8 + d) % 8 = d by omega] at e2
  omega
theorem qz_ex {x y : Nat → Nat} (hx : ∀ g, x g < 8) (hy : ∀ g, y g < 8) : ∀ k, qw_e x k ^^^ qw_e y k = qw_e (fun f => x f ^^^ y f) k
  | 0 => by unfold qw_e; exact Nat.xor_self 0
  | k + 1 => by
    unfold qw_e
    rw [qz_x8 (hx k) (hy k), qz_ex hx hy k]
theorem qz_ea {x y : Nat → Nat} (hx : ∀ g, x g < 8) (hy : ∀ g, y g < 8) : ∀ k, qw_e x k &&& qw_e y k = qw_e (fun f => x f &&& y f) k
  | 0 => by unfold qw_e; exact Nat.and_self 0
  | k + 1 => by
    unfold qw_e
    rw [qz_a8 (hx k) (hy k), qz_ea hx hy k]
theorem qz_ed {x : Nat → Nat} (hx : ∀ g, x g < 8) (k : Nat) : ∀ m, qw_e x (k + 1 + m) / 2 ^ (3 * m) = qw_e x (k + 1)
  | 0 => by rw [Nat.mul_zero, Nat.pow_zero, Nat.div_one, Nat.add_zero]
  | m + 1 => by
    have ih := qz_ed hx k m
    have h8 := hx (k + 1 + m)
    rw [show 3 * (m + 1) = 3 + 3 * m by omega, Nat.pow_add, ← Nat.div_div_eq_div_mul, show k + 1 + (m + 1) = k + 1 + m + 1 by omega]
    rw [show qw_e x (k + 1 + m + 1) / 2 ^ 3 = qw_e x (k + 1 + m) by rw [show qw_e x (k + 1 + m + 1) = qw_e x (k + 1 + m) * 8 + x (k + 1 + m) from rfl]; omega]
    exact ih
theorem qz_eg {x : Nat → Nat} (hx : ∀ g, x g < 8) {k fn : Nat} (hk : k < fn) : qw_e x fn / 2 ^ (3 * (fn - 1 - k)) % 8 = x k := by
  have := qz_ed hx k (fn - 1 - k)
  rw [show k + 1 + (fn - 1 - k) = fn by omega] at this
  rw [this, show qw_e x (k + 1) = qw_e x k * 8 + x k from rfl]
  have := hx k
  omega
theorem qz_eb {x : Nat → Nat} (hx : ∀ g, x g < 8) : ∀ k, qw_e x k < 8 ^ k
  | 0 => Nat.one_pos
  | k + 1 => by
    have := qz_eb hx k
    have := hx k
    unfold qw_e
    rw [Nat.pow_succ]
    omega
theorem qz_eb6 {x : Nat → Nat} (hx : ∀ g, x g < 8) {k : Nat} (hk : k ≤ 6) : qw_e x k < 262144 := Nat.lt_of_lt_of_le (qz_eb hx k) (Nat.pow_le_pow_right (by decide) hk)
theorem qz_ei {x y : Nat → Nat} (hx : ∀ g, x g < 8) (hy : ∀ g, y g < 8) : ∀ k, qw_e x k = qw_e y k → ∀ g, g < k → x g = y g
  | k + 1, h, g, hg => by
    have := hx k
    have := hy k
    rw [show qw_e x (k + 1) = qw_e x k * 8 + x k from rfl, show qw_e y (k + 1) = qw_e y k * 8 + y k from rfl] at h
    by_cases e : g = k
    · subst e
      omega
    · exact qz_ei hx hy k (by omega) g (by omega)
theorem qz_e0 {x : Nat → Nat} : ∀ k, qw_e x k = 0 → ∀ g, g < k → x g = 0
  | k + 1, h, g, hg => by
    rw [show qw_e x (k + 1) = qw_e x k * 8 + x k from rfl] at h
    by_cases e : g = k
    · subst e
      omega
    · exact qz_e0 k (by omega) g (by omega)
theorem qz_NB0 {D P : Nat → Bool} : ∀ k, (∀ g, g < k → D g = false) → qz_N D k = 0 ∧ qz_B D P k = false
  | 0, _ => ⟨rfl, rfl⟩
  | k + 1, h => by
    obtain ⟨a, b⟩ := qz_NB0 (D := D) (P := P) k (fun g hg => h g (by omega))
    unfold qz_N qz_B
    rw [a, b, h k (by omega)]
    exact ⟨rfl, rfl⟩
theorem qz_N1 {D : Nat → Bool} : ∀ k g, g < k → D g = true → 1 ≤ qz_N D k
  | k + 1, g, hg, h => by
    unfold qz_N
    by_cases e : g = k
    · subst e
      rw [h, if_pos rfl]
      omega
    · have := qz_N1 k g (by omega) h
      omega
/-- the digits in which two ways differ, of those that stay -/
def qz_g (o0 o1 : Nat → Bool) (x y : Nat → Nat) (f : Nat) : Nat := if o0 f && o1 f then x f ^^^ y f else 0
theorem qz_x0 : ∀ a, a < 8 → ∀ b, b < 8 → (a ^^^ b = 0 ↔ a = b) ∧ a ^^^ b < 8 ∧ (a ^^^ b) &&& 7 = a ^^^ b ∧ (a ^^^ b) &&& 0 = 0 := by decide +kernel
theorem qz_g8 {o0 o1 : Nat → Bool} {x y : Nat → Nat} (hx : ∀ g, x g < 8) (hy : ∀ g, y g < 8) (f : Nat) : qz_g o0 o1 x y f < 8 := by
  unfold qz_g
  split
  · exact (qz_x0 _ (hx f) _ (hy f)).2.1
  · omega
theorem qz_g0 {o0 o1 : Nat → Bool} {x y : Nat → Nat} (hx : ∀ g, x g < 8) (hy : ∀ g, y g < 8) (f : Nat) : qz_D o0 o1 x y f = decide (qz_g o0 o1 x y f ≠ 0) := by
  unfold qz_g qz_D
  cases o0 f
  · rfl
  · cases o1 f
    · rfl
    · rw [Bool.true_and, Bool.true_and, if_pos (show (true && true) = true from rfl)]
      exact decide_eq_decide.mpr (not_congr (qz_x0 _ (hx f) _ (hy f)).1.symm)
def qz_st (o0 o1 : Nat → Bool) (f : Nat) : Nat := if o0 f && o1 f then 7 else 0
theorem qz_st8 {o0 o1 : Nat → Bool} (f : Nat) : qz_st o0 o1 f < 8 := by unfold qz_st; split <;> omega
theorem qz_gg {o0 o1 : Nat → Bool} {x y : Nat → Nat} (hx : ∀ g, x g < 8) (hy : ∀ g, y g < 8) (k : Nat) : (qw_e x k ^^^ qw_e y k) &&& qw_e (qz_st o0 o1) k = qw_e (qz_g o0 o1 x y) k := by
  rw [qz_ex hx hy, qz_ea (fun g => (qz_x0 _ (hx g) _ (hy g)).2.1) qz_st8]
  congr 1
  funext f
  unfold qz_g qz_st
  split
  · exact (qz_x0 _ (hx f) _ (hy f)).2.2.1
  · exact (qz_x0 _ (hx f) _ (hy f)).2.2.2
/-- the least of a row, and not above b -/
theorem qz_m_le (G : Nat → Nat) : ∀ (k b j : Nat), qz_m G b j k ≤ b ∧ (∀ i, j ≤ i → i < j + k → qz_m G b j k ≤ G i) ∧ (qz_m G b j k = b ∨ ∃ i, j ≤ i ∧ i < j + k ∧ qz_m G b j k = G i)
  | 0, b, j => ⟨Nat.le_refl b, fun i _ _ => by omega, Or.inl rfl⟩
  | k + 1, b, j => by
    obtain ⟨a1, a2, a3⟩ := qz_m_le G k (min b (G j)) (j + 1)
    rw [show qz_m G b j (k + 1) = qz_m G (min b (G j)) (j + 1) k from rfl]
    refine ⟨by omega, fun i h1 h2 => ?_, ?_⟩
    · by_cases e : i = j
      · subst e
        omega
      · exact a2 i (by omega) (by omega)
    · rcases a3 with a3 | ⟨i, q1, q2, q3⟩
      · by_cases e : b ≤ G j
        · left
          omega
        · right
          exact ⟨j, by omega, by omega, by omega⟩
      · right
        exact ⟨i, by omega, by omega, q3⟩
theorem qz_m_eq {G : Nat → Nat} {b m v : Nat} (h1 : v ≤ b) (h2 : ∀ i, i < m → v ≤ G i) (h3 : v = b ∨ ∃ i, i < m ∧ v = G i) : qz_m G b 0 m = v := by
  obtain ⟨a1, a2, a3⟩ := qz_m_le G m b 0
  rw [Nat.zero_add] at a2 a3
  rcases a3 with a3 | ⟨i, q1, q2, q3⟩
  · rcases h3 with h3 | ⟨i, p1, p2⟩
    · omega
    · have := a2 i (by omega) p1
      omega
  · have := h2 i q2
    rcases h3 with h3 | ⟨j, p1, p2⟩
    · omega
    · have := a2 j (by omega) p1
      omega
theorem qz_m_c {G G' : Nat → Nat} : ∀ (k b j : Nat), (∀ i, j ≤ i → i < j + k → G i = G' i) → qz_m G b j k = qz_m G' b j k
  | 0, _, _, _ => rfl
  | k + 1, b, j, h => by
    unfold qz_m
    rw [h j (by omega) (by omega)]
    exact qz_m_c k _ _ (fun i a b => h i (by omega) (by omega))
