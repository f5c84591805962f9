/-! THE HEART: search: prices in the class: swaps between two ways -/
theorem qa_xor (a b : Nat) : nI a ^^^ nI b = nI (a ^^^ b) := by
  apply Int32.toBitVec_inj.1
  show BitVec.ofNat 32 a ^^^ BitVec.ofNat 32 b = BitVec.ofNat 32 (a ^^^ b)
  apply BitVec.eq_of_getLsbD_eq
  intro i hi
  simp [hi]
theorem qa_and7 (n : Nat) : nI n &&& nI 7 = nI (n % 8) := by
  have e := fa_mask n 3
  rw [show (2 : Nat) ^ 3 = 8 by decide, show (8 - 1 : Nat) = 7 by decide] at e
  exact e
theorem qz_o7 (a : Nat) : a * 2 ^ 3 ||| 7 = a * 8 + 7 := by
  have := Nat.two_pow_add_eq_or_of_lt (b := 7) (i := 3) (by decide) a
  rw [Nat.mul_comm] at this
  omega
/-- what the class has loaded for a search -/
def qy_L (pn fn bn c : Nat) (o : Nat → Nat → Bool) (kd : Nat → Nat) (pv : Nat → Nat → Nat → Nat → Bool) (h : Nat → Nat → Int32) : Prop :=
  (pn ≤ 3 ∧ fn ≤ 6 ∧ bn ≤ 24 ∧ c ≤ 1) ∧ (h 65 0 = nI c ∧ h 65 1 = nI bn ∧ h 65 2 = nI fn) ∧ (∀ f, f < fn → h 66 f = nI (kd f) ∧ kd f ≤ 2) ∧
  (∀ t, t < bn → ∀ f, f < fn → (o t f = false → h 68 (t * 6 + f) = qN) ∧ (o t f = true → ∃ s, s < 8 ∧ h 68 (t * 6 + f) = nI s)) ∧
  (∀ t, t + 1 < bn → ∀ f, f < fn → o t f = true → o (t + 1) f = true → ∃ x, x < 512 ∧ h 70 ((t + 1) * 6 + f) = nI x ∧ ∀ p, p < pn → ∀ q, q < pn → x.testBit (p * 3 + q) = pv (t + 1) f p q)
/-- a way of a beat -/
def qy_w (pn fn : Nat) (on : Nat → Bool) (kd : Nat → Nat) (x : Nat → Nat) : Prop := (∀ g, x g < 6) ∧ ∀ f, f < fn → (on f = true → (if kd f = 2 then x f else x f / 2) < pn) ∧ (on f = false → x f = 0)
theorem qy_L_h {pn fn bn c : Nat} {o : Nat → Nat → Bool} {kd : Nat → Nat} {pv : Nat → Nat → Nat → Nat → Bool} {h h' : Nat → Nat → Int32} (e : ∀ c, 65 ≤ c → c ≤ 70 → h' c = h c) (H : qy_L pn fn bn c o kd pv h) : qy_L pn fn bn c o kd pv h' := by
  unfold qy_L at H ⊢
  rw [e 65 (by omega) (by omega), e 66 (by omega) (by omega), e 68 (by omega) (by omega), e 70 (by omega) (by omega)]
  exact H
section
variable {pn fn bn c t : Nat} {o : Nat → Nat → Bool} {kd : Nat → Nat} {pv : Nat → Nat → Nat → Nat → Bool} {h : Nat → Nat → Int32}
theorem qy_stL (H : qy_L pn fn bn c o kd pv h) (ht : t + 1 < bn) : ∀ (k n f : Nat), f + k = fn → k < n → zS_stayingBits_L4 n (nI (t + 1)) (nI (qw_e (qz_st (o t) (o (t + 1))) f)) (nI f) h = some (nI (qw_e (qz_st (o t) (o (t + 1))) fn))
  | 0, n + 1, f, hf, _ => by
    obtain ⟨⟨l1, l2, l3, l4⟩, ⟨e0, e1, e2⟩, -⟩ := H
    have : f = fn := by omega
    subst this
    simp (disch := omega) only [↓reduceIte, zS_stayingBits_L4, e2, qa_ltF]
  | k + 1, n + 1, f, hf, hn => by
    obtain ⟨⟨l1, l2, l3, l4⟩, ⟨e0, e1, e2⟩, -, H68, -⟩ := id H
    have ih := qy_stL H ht k n (f + 1) (by omega) (by omega)
    have eb := qz_eb6 (x := qz_st (o t) (o (t + 1))) qz_st8 (show f ≤ 6 by omega)
    have es : qw_e (qz_st (o t) (o (t + 1))) (f + 1) = qw_e (qz_st (o t) (o (t + 1))) f * 8 + (if o t f && o (t + 1) f then 7 else 0) := rfl
    generalize qw_e (qz_st (o t) (o (t + 1))) f = e at *
    have p6 : (t + 1) * 6 + f - 6 = t * 6 + f := by omega
    have p8 : e * 2 ^ 3 = e * 8 := by omega
    have o7 := qz_o7 e
    rw [p8] at o7
    obtain ⟨a1, a2⟩ := H68 (t + 1) ht f (by omega)
    obtain ⟨b1, b2⟩ := H68 t (by omega) f (by omega)
    rw [es] at ih
    cases h1 : o (t + 1) f
    · rw [h1, Bool.and_false, if_neg (by decide)] at ih
      have a1 := a1 h1
      simp (disch := omega) only [↓reduceIte, ↓qa_b, zS_stayingBits_L4, e2, qa_ltT, qa_lit, pk_mul, nI_add, qa_ix, qa_cl, a1, qa_neg1, qa_qN, qa_31, qa_shl, p8]
      exact ih
    · obtain ⟨s, s8, a2⟩ := a2 h1
      cases h0 : o t f
      · rw [h0, Bool.false_and, if_neg (by decide)] at ih
        have b1 := b1 h0
        simp (disch := omega) only [↓reduceIte, ↓qa_b, zS_stayingBits_L4, e2, qa_ltT, qa_lit, pk_mul, nI_add, qa_ix, qa_cl, a2, qa_nN, qa_neg1, qa_qN, qa_31, qa_shl, p8, qa_sub, p6, b1]
        exact ih
      · rw [h0, h1, Bool.and_self, if_pos rfl] at ih
        obtain ⟨s', s8', b2⟩ := b2 h0
        simp (disch := omega) only [↓reduceIte, ↓qa_b, zS_stayingBits_L4, e2, qa_ltT, qa_lit, pk_mul, nI_add, qa_ix, qa_cl, a2, qa_nN, qa_neg1, qa_qN, qa_31, qa_shl, p8, qa_sub, p6, b2, fa_or, o7]
        exact ih
theorem qy_st (H : qy_L pn fn bn c o kd pv h) (ht : t + 1 < bn) : zS_stayingBits (nI (t + 1)) h = some (nI (qw_e (qz_st (o t) (o (t + 1))) fn)) :=
  qy_stL H ht fn am_N 0 (by omega) (Nat.lt_of_le_of_lt H.1.2.1 (by decide))
theorem qy_scL (H : qy_L pn fn bn c o kd pv h) (ht : t + 1 < bn) : ∀ (k n f : Nat), f + k = fn → k < n → zS_isSameCast_L2 n (nI (t + 1)) (nI f) h = some (qs_b (qs_all (fun g => o t g == o (t + 1) g) f k))
  | 0, n + 1, f, hf, _ => by
    obtain ⟨⟨l1, l2, l3, l4⟩, ⟨e0, e1, e2⟩, -⟩ := H
    have : f = fn := by omega
    subst this
    simp (disch := omega) only [↓reduceIte, zS_isSameCast_L2, e2, qa_ltF, qa_lit]
    rfl
  | k + 1, n + 1, f, hf, hn => by
    obtain ⟨⟨l1, l2, l3, l4⟩, ⟨e0, e1, e2⟩, -, H68, -⟩ := id H
    have ih := qy_scL H ht k n (f + 1) (by omega) (by omega)
    have p6 : (t + 1) * 6 + f - 6 = t * 6 + f := by omega
    obtain ⟨a1, a2⟩ := H68 (t + 1) ht f (by omega)
    obtain ⟨b1, b2⟩ := H68 t (by omega) f (by omega)
    rw [show qs_all (fun g => o t g == o (t + 1) g) f (k + 1) = ((o t f == o (t + 1) f) && qs_all (fun g => o t g == o (t + 1) g) (f + 1) k) from rfl]
    cases h1 : o (t + 1) f
    · have a1 := a1 h1
      cases h0 : o t f
      · have b1 := b1 h0
        simp (disch := omega) only [↓reduceIte, ↓qa_b, zS_isSameCast_L2, zS_isSameCast_J32, zS_isSameCast_J50, e2, qa_ltT, qa_lit, pk_mul, nI_add, qa_ix, qa_cl, a1, qa_neg1, qa_qN, qa_sub, p6, b1]
        exact ih
      · obtain ⟨s', s8', b2⟩ := b2 h0
        simp (disch := omega) only [↓reduceIte, ↓qa_b, zS_isSameCast_L2, zS_isSameCast_J32, zS_isSameCast_J50, e2, qa_ltT, qa_lit, pk_mul, nI_add, qa_ix, qa_cl, a1, qa_neg1, qa_qN, qa_sub, p6, b2, qa_nN, qa_eqF]
        rfl
    · obtain ⟨s, s8, a2⟩ := a2 h1
      cases h0 : o t f
      · have b1 := b1 h0
        simp (disch := omega) only [↓reduceIte, ↓qa_b, zS_isSameCast_L2, zS_isSameCast_J32, zS_isSameCast_J50, e2, qa_ltT, qa_lit, pk_mul, nI_add, qa_ix, qa_cl, a2, qa_neg1, qa_qN, qa_sub, p6, b1, qa_nN, qa_eqF]
        rfl
      · obtain ⟨s', s8', b2⟩ := b2 h0
        simp (disch := omega) only [↓reduceIte, ↓qa_b, zS_isSameCast_L2, zS_isSameCast_J32, zS_isSameCast_J50, e2, qa_ltT, qa_lit, pk_mul, nI_add, qa_ix, qa_cl, a2, qa_neg1, qa_qN, qa_sub, p6, b2, qa_nN, qa_eqF]
        exact ih
theorem qy_sc (H : qy_L pn fn bn c o kd pv h) (ht : t + 1 < bn) : zS_isSameCast (nI (t + 1)) h = some (qs_b (qs_all (fun g => o t g == o (t + 1) g) 0 fn)) :=
  qy_scL H ht fn am_N 0 (by omega) (Nat.lt_of_le_of_lt H.1.2.1 (by decide))
theorem qy_own {k x : Nat} (hk : k ≤ 2) (hx : x < 8) : zH_ownerOf (nI k) (nI x) = nI (if k = 2 then x else x / 2) := by
  unfold zH_ownerOf
  by_cases h2 : k = 2
  · subst h2
    rw [if_pos rfl]
    simp (disch := omega) only [↓reduceIte, qa_lit]
  · rw [if_neg h2]
    simp (disch := omega) only [↓reduceIte, qa_lit, qa_eqF, qa_31, qa_shr, Nat.pow_one]
/-- the price of swaps -/
theorem qy_swL (H : qy_L pn fn bn c o kd pv h) (ht : t + 1 < bn) {x y : Nat → Nat} (hx : qy_w pn fn (o t) kd x) (hy : qy_w pn fn (o (t + 1)) kd y) : ∀ (k n s : Nat), k ≤ fn → k < n → s ≤ 6 - k → zS_priceOfSwaps_L19 n (nI (t + 1)) (nI (qw_e x fn)) (nI (qw_e y fn)) (nI (qw_e (qz_g (o t) (o (t + 1)) x y) k)) (nI s) (qr_d k) h = some (nI (if qz_B (qz_D (o t) (o (t + 1)) x y) (fun f => pv (t + 1) f (if kd f = 2 then x f else x f / 2) (if kd f = 2 then y f else y f / 2)) k then 1000000 else s + c * qz_N (qz_D (o t) (o (t + 1)) x y) k))
  | 0, n + 1, s, hk, _, hs => by
    rw [show qr_d 0 = qN from rfl]
    simp (disch := omega) only [↓reduceIte, zS_priceOfSwaps_L19, qa_lit, qa_Nlt, qz_B, qz_N, Bool.false_eq_true, Nat.mul_zero, Nat.add_zero]
  | k + 1, n + 1, s, hk, hn, hs => by
    obtain ⟨⟨l1, l2, l3, l4⟩, ⟨e0, e1, e2⟩, H66, H68, H70⟩ := id H
    have hx8 : ∀ g, x g < 8 := fun g => Nat.lt_trans (hx.1 g) (by decide)
    have hy8 : ∀ g, y g < 8 := fun g => Nat.lt_trans (hy.1 g) (by decide)
    have ih0 := qy_swL H ht hx hy k n s (by omega) (by omega) (by omega)
    have ih1 := qy_swL H ht hx hy k n (s + c) (by omega) (by omega) (by omega)
    have bg := qz_eb6 (x := qz_g (o t) (o (t + 1)) x y) (qz_g8 hx8 hy8) (show k + 1 ≤ 6 by omega)
    have bX := qz_eb6 (x := x) hx8 l2
    have bY := qz_eb6 (x := y) hy8 l2
    have g8 := qz_g8 (o0 := o t) (o1 := o (t + 1)) hx8 hy8 k
    have g0 := qz_g0 (o0 := o t) (o1 := o (t + 1)) hx8 hy8
    have ge : qw_e (qz_g (o t) (o (t + 1)) x y) (k + 1) = qw_e (qz_g (o t) (o (t + 1)) x y) k * 8 + qz_g (o t) (o (t + 1)) x y k := rfl
    have gz := qz_e0 (x := qz_g (o t) (o (t + 1)) x y) (k + 1)
    have dX := qz_eg hx8 (show k < fn by omega)
    have dY := qz_eg hy8 (show k < fn by omega)
    have eB : qz_B (qz_D (o t) (o (t + 1)) x y) (fun f => pv (t + 1) f (if kd f = 2 then x f else x f / 2) (if kd f = 2 then y f else y f / 2)) (k + 1) = (qz_B (qz_D (o t) (o (t + 1)) x y) (fun f => pv (t + 1) f (if kd f = 2 then x f else x f / 2) (if kd f = 2 then y f else y f / 2)) k || (qz_D (o t) (o (t + 1)) x y k && !pv (t + 1) k (if kd k = 2 then x k else x k / 2) (if kd k = 2 then y k else y k / 2))) := rfl
    have eN : qz_N (qz_D (o t) (o (t + 1)) x y) (k + 1) = qz_N (qz_D (o t) (o (t + 1)) x y) k + (if qz_D (o t) (o (t + 1)) x y k then 1 else 0) := rfl
    rw [qr_d1]
    by_cases hz : qw_e (qz_g (o t) (o (t + 1)) x y) (k + 1) = 0
    · have z := qz_NB0 (D := qz_D (o t) (o (t + 1)) x y) (P := fun f => pv (t + 1) f (if kd f = 2 then x f else x f / 2) (if kd f = 2 then y f else y f / 2)) (k + 1) (fun g hg => by rw [g0 g, gz hz g hg]; rfl)
      rw [z.1, z.2, hz]
      simp (disch := omega) only [↓reduceIte, zS_priceOfSwaps_L19, qa_lit, qa_ltF, Bool.false_eq_true, Nat.mul_zero, Nat.add_zero]
    · have m8 : qw_e (qz_g (o t) (o (t + 1)) x y) (k + 1) % 8 = qz_g (o t) (o (t + 1)) x y k := by omega
      have d8 : qw_e (qz_g (o t) (o (t + 1)) x y) (k + 1) / 2 ^ 3 = qw_e (qz_g (o t) (o (t + 1)) x y) k := by omega
      rw [eB, eN, g0 k]
      by_cases hd : qz_g (o t) (o (t + 1)) x y k = 0
      · rw [decide_eq_false (fun q => q hd), Bool.false_and, Bool.or_false, if_neg (show ¬ (false = true) by decide)]
        simp only [Nat.add_zero]
        rw [← ih0]
        simp (disch := omega) only [↓reduceIte, ↓qa_b, zS_priceOfSwaps_L19, qa_lit, qa_ltF, qa_eqF, qa_and7, m8, hd, qa_31, qa_shr, d8, qa_neg1, qa_qN, qr_dA]
      · have hD : o t k = true ∧ o (t + 1) k = true := by
          unfold qz_g at hd
          split at hd
          · next q => rw [Bool.and_eq_true] at q; exact q
          · exact absurd rfl hd
        obtain ⟨K1, K2⟩ := H66 k (by omega)
        have ox := (hx.2 k (by omega)).1 hD.1
        have oy := (hy.2 k (by omega)).1 hD.2
        have wx := qy_own K2 (hx8 k)
        have wy := qy_own K2 (hy8 k)
        obtain ⟨xp, xl, x70, xb⟩ := H70 t ht k (by omega) hD.1 hD.2
        have xb := xb _ ox _ oy
        rw [decide_eq_true hd, Bool.true_and, if_pos rfl]
        generalize (if kd k = 2 then x k else x k / 2) = p at *
        generalize (if kd k = 2 then y k else y k / 2) = q at *
        have ep : nI 1 <<< nI (p * 3 + q) = nI (2 ^ (p * 3 + q)) := qa_1shl (by omega)
        have ea := qj_pand (x := xp) (k := p * 3 + q) xl (by omega)
        rw [xb] at ea
        have es : zS_shiftOf (nI k) h = nI (3 * (fn - 1 - k)) := by
          simp (disch := omega) only [zS_shiftOf, e2, qa_lit, qa_sub, pk_mul]
        have s1 : fn - 1 - k < 6 := by omega
        generalize fn - 1 - k = m at *
        have hs3 : 3 * m < 32 := by omega
        have step : zS_priceOfSwaps_L19 (n + 1) (nI (t + 1)) (nI (qw_e x fn)) (nI (qw_e y fn)) (nI (qw_e (qz_g (o t) (o (t + 1)) x y) (k + 1))) (nI s) (nI k) h = if pv (t + 1) k p q = false then some (nI 1000000) else zS_priceOfSwaps_L19 n (nI (t + 1)) (nI (qw_e x fn)) (nI (qw_e y fn)) (nI (qw_e (qz_g (o t) (o (t + 1)) x y) k)) (nI (s + c)) (qr_d k) h := by
          simp (disch := omega) only [↓reduceIte, ↓qa_b, zS_priceOfSwaps_L19, qa_lit, qa_ltF, qa_eqF, qa_and7, m8, es, qa_ix, qa_cl, K1, qa_31, qa_shr, dX, dY, wx, wy, zH_passBit, pk_mul, nI_add, ep, x70, ea, e0, d8, qa_neg1, qa_qN, qr_dA]
        rw [step]
        cases pv (t + 1) k p q
        · rw [if_pos rfl, Bool.not_false, Bool.or_true, if_pos rfl]
        · rw [if_neg (by decide), Bool.not_true, Bool.or_false, ih1]
          congr 2
          split
          · rfl
          · rw [Nat.mul_add, Nat.mul_one]; omega
end
