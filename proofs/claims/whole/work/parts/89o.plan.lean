/-! THE HEART: search: the plan that is found -/
def qy_fi (p : Nat → Bool) : Nat → Nat → Nat
  | j, 0 => j
  | j, k + 1 => if p j then j else qy_fi p (j + 1) k
theorem qy_fi_s {p : Nat → Bool} : ∀ (k j : Nat), (∃ i, j ≤ i ∧ i < j + k ∧ p i = true) → p (qy_fi p j k) = true ∧ j ≤ qy_fi p j k ∧ qy_fi p j k < j + k
  | 0, j, ⟨i, h1, h2, _⟩ => by omega
  | k + 1, j, ⟨i, h1, h2, h3⟩ => by
    unfold qy_fi
    split
    · next h => exact ⟨h, by omega, by omega⟩
    · next h =>
      have := qy_fi_s (p := p) k (j + 1) ⟨i, by
        by_cases e : i = j
        · subst e; exact absurd h3 h
        · omega, by omega, h3⟩
      exact ⟨this.1, by omega, by omega⟩
theorem qy_fi_c {p p' : Nat → Bool} : ∀ (k j : Nat), (∀ i, j ≤ i → i < j + k → p i = p' i) → qy_fi p j k = qy_fi p' j k
  | 0, _, _ => rfl
  | k + 1, j, h => by
    unfold qy_fi
    rw [h j (by omega) (by omega), qy_fi_c k (j + 1) (fun i a b => h i (by omega) (by omega))]
/-- which way of beat t the plan takes -/
def qy_i (fn bn : Nat) (o : Nat → Nat → Bool) (kd : Nat → Nat) (pv : Nat → Nat → Nat → Nat → Bool) (W : Nat → List (Nat → Nat)) : Nat → Nat
  | 0 => qy_fi (fun j => decide (0 + qy_T fn 1 o kd pv W (bn - 1 - 0) 0 (qy_x (W 0) j) = qy_M fn bn 1 o kd pv W 0)) 0 (W 0).length
  | t + 1 => qy_fi (fun j => decide (qy_S fn 1 o kd pv t (qy_x (W t) (qy_i fn bn o kd pv W t)) (qy_x (W (t + 1)) j) + qy_T fn 1 o kd pv W (bn - 1 - (t + 1)) (t + 1) (qy_x (W (t + 1)) j) = qy_T fn 1 o kd pv W (bn - 1 - t) t (qy_x (W t) (qy_i fn bn o kd pv W t)))) 0 (W (t + 1)).length
/-- the way itself, and its price -/
def qy_z (fn bn : Nat) (o : Nat → Nat → Bool) (kd : Nat → Nat) (pv : Nat → Nat → Nat → Nat → Bool) (W : Nat → List (Nat → Nat)) (t : Nat) : Nat → Nat := qy_x (W t) (qy_i fn bn o kd pv W t)
def qy_q (fn bn : Nat) (o : Nat → Nat → Bool) (kd : Nat → Nat) (pv : Nat → Nat → Nat → Nat → Bool) (W : Nat → List (Nat → Nat)) : Nat → Nat
  | 0 => qy_M fn bn 1 o kd pv W 0
  | t + 1 => qy_T fn 1 o kd pv W (bn - 1 - t) t (qy_z fn bn o kd pv W t)
/-- what a swap into way j of beat t costs -/
def qy_r (fn bn : Nat) (o : Nat → Nat → Bool) (kd : Nat → Nat) (pv : Nat → Nat → Nat → Nat → Bool) (W : Nat → List (Nat → Nat)) : Nat → Nat → Nat
  | 0, _ => 0
  | t + 1, j => qy_S fn 1 o kd pv t (qy_z fn bn o kd pv W t) (qy_x (W (t + 1)) j)
section
variable {fn bn : Nat} {o : Nat → Nat → Bool} {kd : Nat → Nat} {pv : Nat → Nat → Nat → Nat → Bool} {W : Nat → List (Nat → Nat)}
theorem qy_i_eq (t : Nat) : qy_i fn bn o kd pv W t = qy_fi (fun j => decide (qy_r fn bn o kd pv W t j + qy_T fn 1 o kd pv W (bn - 1 - t) t (qy_x (W t) j) = qy_q fn bn o kd pv W t)) 0 (W t).length := by
  cases t
  · rfl
  · rfl
theorem qy_i_s (hM : qy_M fn bn 1 o kd pv W 0 < 1000000) : ∀ t, t < bn → (∃ j, j < (W t).length ∧ qy_r fn bn o kd pv W t j + qy_T fn 1 o kd pv W (bn - 1 - t) t (qy_x (W t) j) = qy_q fn bn o kd pv W t) ∧ qy_q fn bn o kd pv W t < 1000000 ∧ qy_i fn bn o kd pv W t < (W t).length ∧ qy_T fn 1 o kd pv W (bn - 1 - t) t (qy_z fn bn o kd pv W t) < 1000000
  | 0, h0 => by
    have ex : ∃ j, j < (W 0).length ∧ qy_r fn bn o kd pv W 0 j + qy_T fn 1 o kd pv W (bn - 1 - 0) 0 (qy_x (W 0) j) = qy_q fn bn o kd pv W 0 := by
      obtain ⟨a1, a2, a3⟩ := qz_m_le (fun j => qy_T fn 1 o kd pv W (bn - 1 - 0) 0 (qy_x (W 0) j)) (W 0).length 1000000 0
      unfold qy_M at hM
      rcases a3 with a3 | ⟨i, q1, q2, q3⟩
      · omega
      · exact ⟨i, by omega, by
          rw [show qy_r fn bn o kd pv W 0 i = 0 from rfl, Nat.zero_add]
          exact q3.symm⟩
    obtain ⟨j, j1, j2⟩ := ex
    have fs := qy_fi_s (p := fun j => decide (qy_r fn bn o kd pv W 0 j + qy_T fn 1 o kd pv W (bn - 1 - 0) 0 (qy_x (W 0) j) = qy_q fn bn o kd pv W 0)) (W 0).length 0 ⟨j, by omega, by omega, decide_eq_true j2⟩
    rw [← qy_i_eq] at fs
    have f1 := of_decide_eq_true fs.1
    refine ⟨⟨j, j1, j2⟩, hM, by omega, ?_⟩
    have : qy_q fn bn o kd pv W 0 < 1000000 := hM
    unfold qy_z
    omega
  | t + 1, ht => by
    obtain ⟨-, -, i1, i2⟩ := qy_i_s hM t (by omega)
    have ex : ∃ j, j < (W (t + 1)).length ∧ qy_r fn bn o kd pv W (t + 1) j + qy_T fn 1 o kd pv W (bn - 1 - (t + 1)) (t + 1) (qy_x (W (t + 1)) j) = qy_q fn bn o kd pv W (t + 1) := by
      obtain ⟨a1, a2, a3⟩ := qz_m_le (fun j => qy_S fn 1 o kd pv t (qy_z fn bn o kd pv W t) (qy_x (W (t + 1)) j) + qy_T fn 1 o kd pv W (bn - 1 - (t + 1)) (t + 1) (qy_x (W (t + 1)) j)) (W (t + 1)).length 1000000 0
      have e : qy_T fn 1 o kd pv W (bn - 1 - t) t (qy_z fn bn o kd pv W t) = qz_m (fun j => qy_S fn 1 o kd pv t (qy_z fn bn o kd pv W t) (qy_x (W (t + 1)) j) + qy_T fn 1 o kd pv W (bn - 1 - (t + 1)) (t + 1) (qy_x (W (t + 1)) j)) 1000000 0 (W (t + 1)).length := by
        rw [show bn - 1 - t = (bn - 1 - (t + 1)) + 1 by omega]
        rfl
      rcases a3 with a3 | ⟨i, q1, q2, q3⟩
      · omega
      · refine ⟨i, by omega, ?_⟩
        rw [show qy_q fn bn o kd pv W (t + 1) = qy_T fn 1 o kd pv W (bn - 1 - t) t (qy_z fn bn o kd pv W t) from rfl, e, q3]
        rfl
    obtain ⟨j, j1, j2⟩ := ex
    have fs := qy_fi_s (p := fun j => decide (qy_r fn bn o kd pv W (t + 1) j + qy_T fn 1 o kd pv W (bn - 1 - (t + 1)) (t + 1) (qy_x (W (t + 1)) j) = qy_q fn bn o kd pv W (t + 1))) (W (t + 1)).length 0 ⟨j, by omega, by omega, decide_eq_true j2⟩
    rw [← qy_i_eq] at fs
    have f1 := of_decide_eq_true fs.1
    have : qy_q fn bn o kd pv W (t + 1) < 1000000 := i2
    refine ⟨⟨j, j1, j2⟩, this, by omega, ?_⟩
    unfold qy_z
    omega
theorem qc_i {o' : Nat → Nat → Bool} {kd' : Nat → Nat} {pv' : Nat → Nat → Nat → Nat → Bool} {W' : Nat → List (Nat → Nat)} (H : qc_ss fn bn o o' kd kd' pv pv' W W') : ∀ t, t < bn → qy_i fn bn o' kd' pv' W' t = qy_i fn bn o kd pv W t
  | 0, h0 => by
    unfold qy_i
    rw [(H.1 0 h0).2]
    exact qy_fi_c _ _ (fun i _ _ => by rw [qc_T H _ _ _ (by omega), qc_M H h0])
  | t + 1, ht => by
    unfold qy_i
    rw [(H.1 (t + 1) ht).2, (H.1 t (by omega)).2, qc_i H t (by omega)]
    exact qy_fi_c _ _ (fun i _ _ => by rw [qc_T H _ _ _ (by omega), qc_T H _ _ _ (by omega), qc_S H ht])
end
section
variable {u m v : Nat} {E T S : Nat → Nat} {h : Nat → Nat → Int32} {st X : Int32}
theorem qy_faL (hu : u < 24) (hm : m ≤ 720) (hv : v ≤ 1000000) (e73 : h 73 u = nI m) (e72 : ∀ j, j < m → h 72 (u * 720 + j) = nI (T j) ∧ T j ≤ 1000000) (esw : ∀ j, j < m → zS_priceOfSwaps (nI u) X (h 71 (u * 720 + j)) st h = some (nI (S j)) ∧ S j ≤ 1000000) :
    ∀ (k n j : Nat), j + k = m → k < n → (∃ i, j ≤ i ∧ i < m ∧ S i + T i = v) → zS_firstAt_L26 n (nI u) X (nI v) (nI (u * 720)) st (nI (u * 720 + j)) h = some (nI (u * 720 + qy_fi (fun j => decide (S j + T j = v)) j k))
  | 0, n + 1, j, hj, _, ⟨i, h1, h2, _⟩ => by omega
  | k + 1, n + 1, j, hj, hn, ⟨i, h1, h2, h3⟩ => by
    obtain ⟨e1, e2⟩ := e72 j (by omega)
    obtain ⟨e3, e4⟩ := esw j (by omega)
    unfold qy_fi
    by_cases q : S j + T j = v
    · rw [decide_eq_true q, if_pos rfl]
      simp (disch := omega) only [↓reduceIte, zS_firstAt_L26, qa_ix, qa_cl, e73, nI_add, qa_ltT, e3, Option.bind_some, e1, qa_eqT]
    · have ih := qy_faL hu hm hv e73 e72 esw k n (j + 1) (by omega) (by omega) ⟨i, by
        by_cases e : i = j
        · subst e; exact absurd h3 q
        · omega, h2, h3⟩
      rw [decide_eq_false q, if_neg (by decide), ← ih]
      simp (disch := omega) only [↓reduceIte, zS_firstAt_L26, qa_ix, qa_cl, e73, nI_add, qa_ltT, e3, Option.bind_some, e1, qa_eqF, qa_lit, Nat.add_assoc]
end
section
variable {pn fn bn : Nat} {o : Nat → Nat → Bool} {kd : Nat → Nat} {pv : Nat → Nat → Nat → Nat → Bool} {W : Nat → List (Nat → Nat)} {h : Nat → Nat → Int32}
/-- the number of the way taken ahead of beat t -/
def qy_n (fn bn : Nat) (o : Nat → Nat → Bool) (kd : Nat → Nat) (pv : Nat → Nat → Nat → Nat → Bool) (W : Nat → List (Nat → Nat)) : Nat → Nat
  | 0 => 0
  | t + 1 => qw_e (qy_z fn bn o kd pv W t) fn
theorem qy_sw0 (H : qy_L pn fn bn 1 o kd pv h) {E : Nat} : zS_priceOfSwaps (nI 0) (nI 0) (nI E) (nI 0) h = some (nI 0) := by
  have e2 := H.2.1.2.2
  have hf := H.1.2.1
  have key : ∀ n, zS_priceOfSwaps_L19 (n + 1) (nI 0) (nI 0) (nI E) (nI 0) (nI 0) (qr_d fn) h = some (nI 0) := fun n => by
    unfold qr_d
    by_cases hz : fn = 0
    · rw [if_pos hz]
      simp (disch := omega) only [↓reduceIte, zS_priceOfSwaps_L19, qa_lit, qa_Nlt]
    · rw [if_neg hz]
      simp (disch := omega) only [↓reduceIte, zS_priceOfSwaps_L19, qa_lit, qa_ltF]
  have ez : (0 ^^^ E) &&& 0 = 0 := Nat.and_zero _
  rw [← key 999999]
  simp (disch := omega) only [↓qa_b, zS_priceOfSwaps, e2, qa_lit, qr_dS, qa_xor, fa_and, ez]
  rfl
theorem qy_fa (H : qy_L pn fn bn 1 o kd pv h) (hW : qy_W pn fn bn o kd W) (hM : qy_M fn bn 1 o kd pv W 0 < 1000000) (rows : ∀ t, t < bn → qy_row fn bn 1 o kd pv W t h) {t : Nat} (ht : t < bn) : zS_firstAt (nI t) (nI (qy_n fn bn o kd pv W t)) (nI (qy_q fn bn o kd pv W t)) h = some (nI (t * 720 + qy_i fn bn o kd pv W t)) := by
  obtain ⟨⟨l1, l2, l3, l4⟩, ⟨e0, e1, e2⟩, -⟩ := id H
  obtain ⟨r1, r2, r3⟩ := rows t ht
  obtain ⟨w1, w2, w3⟩ := hW t ht
  obtain ⟨⟨j, j1, j2⟩, q6, i1, i2⟩ := qy_i_s hM t ht
  rw [qy_i_eq]
  cases t with
  | zero =>
    have := qy_faL (u := 0) (m := (W 0).length) (v := qy_q fn bn o kd pv W 0) (T := fun j => qy_T fn 1 o kd pv W (bn - 1 - 0) 0 (qy_x (W 0) j)) (S := qy_r fn bn o kd pv W 0) (h := h) (st := nI 0) (X := nI 0) (by omega) w1 (by omega) r1 (fun j hj => ⟨(r2 j hj).2, qy_T_le _ _ _⟩) (fun j hj => ⟨by rw [(r2 j hj).1]; exact qy_sw0 H, by rw [show qy_r fn bn o kd pv W 0 j = 0 from rfl]; omega⟩) (W 0).length am_N 0 (by omega) (Nat.lt_of_le_of_lt w1 (by decide)) ⟨j, by omega, j1, j2⟩
    rw [← this, show qy_n fn bn o kd pv W 0 = 0 from rfl]
    simp (disch := omega) only [↓reduceIte, ↓qa_b, zS_firstAt, qa_lit, pk_mul, qa_ltF, Nat.zero_mul, Nat.add_zero]
  | succ t =>
    obtain ⟨-, -, p1, -⟩ := qy_i_s hM t (by omega)
    have xw := (hW t (by omega)).2.1 _ (qy_x_m p1)
    have es := qy_st H ht
    have := qy_faL (u := t + 1) (m := (W (t + 1)).length) (v := qy_q fn bn o kd pv W (t + 1)) (T := fun j => qy_T fn 1 o kd pv W (bn - 1 - (t + 1)) (t + 1) (qy_x (W (t + 1)) j)) (S := qy_r fn bn o kd pv W (t + 1)) (h := h) (st := nI (qw_e (qz_st (o t) (o (t + 1))) fn)) (X := nI (qy_n fn bn o kd pv W (t + 1))) (by omega) w1 (by omega) r1 (fun j hj => ⟨(r2 j hj).2, qy_T_le _ _ _⟩) (fun j hj => ⟨by rw [(r2 j hj).1]; exact qy_sw H ht xw (w2 _ (qy_x_m hj)), qy_S_le l2 l4 _ _⟩) (W (t + 1)).length am_N 0 (by omega) (Nat.lt_of_le_of_lt w1 (by decide)) ⟨j, by omega, j1, j2⟩
    rw [← this]
    simp (disch := omega) only [↓reduceIte, ↓qa_b, zS_firstAt, qa_lit, pk_mul, qa_ltT, es, Option.bind_some, Nat.add_zero]
end
