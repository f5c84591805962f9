/-! THE HEART, first words: numbers as nI, -1 as qN; rows and heaps -/
def qN : Int32 := -1
theorem qa_neg1 : (-(nI 1) : Int32) = qN := by decide
theorem qa_qN : (-1 : Int32) = qN := Eq.trans (Eq.refl (-1 : Int32)) (Eq.refl qN)
theorem qa_lit (n : Nat) : (OfNat.ofNat n : Int32) = nI (OfNat.ofNat n) := Eq.trans (fa_lit n) (Eq.refl _)
theorem qa_b {α β : Type} (e : α) (k : α → β) : am_b e k = k e := Eq.trans (Eq.refl (am_b e k)) (Eq.refl (k e))
theorem qa_ix {β : Type} {n c : Nat} {k : Option β} (h : c < n) (hn : n < 2147483648) : am_ix n (nI c) k = k := if_neg (nI_in h hn)
theorem qa_cl {n : Nat} (h : n < 2147483648) : (nI n).toNatClampNeg = n := nI_clamp h
theorem qa_ltT {a b : Nat} (h : a < b) (hb : b < 2147483648) : (nI a < nI b) = True := eq_true (nI_lt h hb)
theorem qa_ltF {a b : Nat} (h : b ≤ a) (ha : a < 2147483648) : (nI a < nI b) = False := eq_false (nI_nlt h ha)
theorem qa_ltE {a b : Nat} (ha : a < 2147483648) (hb : b < 2147483648) : (nI a < nI b) = (a < b) := propext (nI_ltI ha hb)
theorem qa_eqE {a b : Nat} (ha : a < 2147483648) (hb : b < 2147483648) : (nI a = nI b) = (a = b) := propext (nI_eq ha hb)
theorem qa_eqT {a b : Nat} (h : a = b) : (nI a = nI b) = True := eq_true (by rw [h])
theorem qa_eqF {a b : Nat} (h : a ≠ b) (ha : a < 2147483648) (hb : b < 2147483648) : (nI a = nI b) = False := eq_false (fun e => h ((nI_eq ha hb).mp e))
theorem qa_qNI : qN.toInt = -1 := by decide
theorem qa_nN {a : Nat} (ha : a < 2147483648) : (nI a = qN) = False := eq_false (fun e => by
  have := congrArg Int32.toInt e
  rw [qa_qNI, nI_toInt ha] at this
  omega)
theorem qa_Nn {a : Nat} (ha : a < 2147483648) : (qN = nI a) = False := eq_false (fun e => by
  have := congrArg Int32.toInt e
  rw [qa_qNI, nI_toInt ha] at this
  omega)
theorem qa_ltN {a : Nat} (ha : a < 2147483648) : (nI a < qN) = False := eq_false (fun e => by
  rw [Int32.lt_iff_toInt_lt, qa_qNI, nI_toInt ha] at e
  omega)
theorem qa_Nlt {a : Nat} (ha : a < 2147483648) : (qN < nI a) = True := eq_true (by
  rw [Int32.lt_iff_toInt_lt, qa_qNI, nI_toInt ha]
  omega)
theorem qa_NN : (qN = qN) = True := eq_true rfl
theorem qa_ltNN : (qN < qN) = False := eq_false (by decide)
theorem qa_sub {a b : Nat} (h : b ≤ a) : nI a - nI b = nI (a - b) := pk_sub h
theorem qa_dec {a : Nat} (h : 1 ≤ a) : nI a + qN = nI (a - 1) := by
  obtain ⟨k, rfl⟩ : ∃ k, a = k + 1 := ⟨a - 1, by omega⟩
  exact pk_m1 k
theorem qa_dec0 : nI 0 + qN = qN := by decide
theorem qa_sub0 : nI 0 - nI 1 = qN := by decide
theorem qa_incN : qN + nI 1 = nI 0 := by decide
theorem qa_smod : ∀ k, k < 32 → ((nI k).toBitVec.smod 32).toNat = k := by decide +kernel
theorem qa_shr {n k : Nat} (h : n < 2147483648) (hk : k < 32) : nI n >>> nI k = nI (n / 2 ^ k) := pk_shrN h (nI k) k (qa_smod k hk)
theorem qa_shl {n k : Nat} (hk : k < 32) (h : n * 2 ^ k < 4294967296) : nI n <<< nI k = nI (n * 2 ^ k) := pk_shlN (nI k) k (qa_smod k hk) h
theorem qa_31 {k : Nat} (hk : k < 32) : nI k &&& nI 31 = nI k := by
  have e := fa_mask k 5
  rw [show (2 : Nat) ^ 5 - 1 = 31 from rfl, show (2 : Nat) ^ 5 = 32 from rfl, Nat.mod_eq_of_lt hk] at e
  exact e
theorem qa_and1 (n : Nat) : nI n &&& nI 1 = nI (n % 2) := by
  have e := fa_mask n 1
  exact e
theorem qa_une {α : Type} (f : Nat → α) {k j : Nat} (v : α) (h : j ≠ k) : va_up f k v j = f j := va_up_ne f v h
theorem qa_up2 {α : Type} (f : Nat → α) (k : Nat) (v u : α) : va_up (va_up f k v) k u = va_up f k u := by
  funext j
  unfold va_up
  split <;> simp_all
theorem qa_upd2 (f : Nat → Int32) (i : Nat) (x y : Int32) : upd (upd f i x) i y = upd f i y := fa_upd_twice f i x y
theorem qa_f1 {α β : Type} (a : α) (b : β) : (a, b).1 = a := rfl
theorem qa_f2 {α β : Type} (a : α) (b : β) : (a, b).2 = b := rfl
/-- an int is below 0, or a number -/
theorem qa_or (x : Int32) : x < nI 0 ∨ ∃ j : Nat, j < 2147483648 ∧ x = nI j := by
  by_cases h : x < 0
  · exact Or.inl h
  · exact Or.inr (nI_of h)
/-- below 0: so is every comparison with a number -/
theorem qa_neg_lt {x : Int32} (h : x < nI 0) {n : Nat} (hn : n < 2147483648) : (x < nI n) = True := eq_true (by
  rw [Int32.lt_iff_toInt_lt, nI_toInt hn]
  have h2 := Int32.lt_iff_toInt_lt.mp h
  have e : (nI 0).toInt = 0 := by decide
  omega)
theorem qa_neg_nlt {x : Int32} (h : x < nI 0) {n : Nat} (hn : n < 2147483648) : (nI n < x) = False := eq_false (by
  rw [Int32.lt_iff_toInt_lt, nI_toInt hn]
  have h2 := Int32.lt_iff_toInt_lt.mp h
  have e : (nI 0).toInt = 0 := by decide
  omega)
theorem qa_neg_ne {x : Int32} (h : x < nI 0) {n : Nat} (hn : n < 2147483648) : (x = nI n) = False := eq_false (fun e => by
  rw [e] at h
  exact nI_nlt (Nat.zero_le n) hn h)
/-- isIn of 0 .. n - 1 -/
theorem qa_in00 (v : Int32) {n : Nat} (hn : n < 2147483648) : zM_isIn v (nI 0) (nI n - nI 1) = (if v < nI 0 then nI 0 else if v < nI n then nI 1 else nI 0) := by
  rcases qa_or v with h | ⟨j, hj, rfl⟩
  · unfold zM_isIn
    rw [if_pos h, if_pos h]; rfl
  · have hz : ¬ nI j < nI 0 := nI_nlt (Nat.zero_le j) hj
    rw [if_neg hz]
    unfold zM_isIn
    rw [if_neg hz]
    by_cases h0 : n = 0
    · subst h0
      rw [show nI 0 - nI 1 = qN by decide, if_pos (by rw [qa_Nlt hj]; trivial), if_neg hz]; rfl
    · rw [show nI n - nI 1 = nI (n - 1) from pk_sub (by omega)]
      by_cases h1 : j < n
      · rw [if_neg (nI_nlt (by omega) (by omega)), if_pos (nI_lt h1 hn)]; rfl
      · rw [if_pos (nI_lt (by omega) hj), if_neg (nI_nlt (by omega) hj)]; rfl
theorem qa_bit (c : Prop) [Decidable c] (d : Prop) [Decidable d] : (if c then nI 0 else if d then nI 1 else nI 0) &&& nI 1 = (if c then nI 0 else if d then nI 1 else nI 0) := by
  by_cases hc : c
  · rw [if_pos hc]; decide
  · rw [if_neg hc]
    by_cases hd : d
    · rw [if_pos hd]; decide
    · rw [if_neg hd]; decide
/-- an argument: below 0, from n on, or below n -/
theorem qa_arg (x : Int32) (n : Nat) : x < nI 0 ∨ (∃ j : Nat, n ≤ j ∧ j < 2147483648 ∧ x = nI j) ∨ ∃ j : Nat, j < n ∧ j < 2147483648 ∧ x = nI j := by
  rcases qa_or x with h | ⟨j, hj, rfl⟩
  · exact Or.inl h
  · by_cases h : j < n
    · exact Or.inr (Or.inr ⟨j, h, hj, rfl⟩)
    · exact Or.inr (Or.inl ⟨j, by omega, hj, rfl⟩)
