/-! THE HEART: judge: the reference's crossing -/
def qj_fo (a : Nat → Int32) (t hd : Nat) : Nat → Nat → Option Nat
  | _, 0 => none
  | f, k + 1 => if qs_on a t f = true ∧ (qs_x a t f).testBit hd = true then some f else qj_fo a t hd (f + 1) k
theorem qj_fo_some {a : Nat → Int32} {t hd : Nat} : ∀ {k f g : Nat}, qj_fo a t hd f k = some g → f ≤ g ∧ g < f + k ∧ qs_on a t g = true ∧ (qs_x a t g).testBit hd = true
  | 0, _, _, h => (nomatch h)
  | k + 1, f, g, h => by
    unfold qj_fo at h
    split at h
    · rename_i hc
      cases h
      exact ⟨by omega, by omega, hc.1, hc.2⟩
    · obtain ⟨h1, h2, h3⟩ := qj_fo_some h
      exact ⟨by omega, by omega, h3⟩
theorem qj_fo_of {a : Nat → Int32} {t hd : Nat} : ∀ {k f g : Nat}, f ≤ g → g < f + k → qs_on a t g = true → (qs_x a t g).testBit hd = true → (∀ j, j < f + k → j ≠ g → (qs_x a t j).testBit hd = false) → qj_fo a t hd f k = some g
  | 0, _, _, h1, h2, _, _, _ => by omega
  | k + 1, f, g, h1, h2, h3, h4, h5 => by
    unfold qj_fo
    by_cases e : f = g
    · subst e
      rw [if_pos ⟨h3, h4⟩]
    · rw [if_neg (fun q => by rw [h5 f (by omega) e] at q; exact absurd q.2 (by decide))]
      exact qj_fo_of (by omega) (by omega) h3 h4 (fun j hj => h5 j (by omega))
theorem qs_by_tb (a : Nat → Int32) (t j : Nat) : ∀ n, (qs_by a t n).testBit j = true ↔ ∃ f, f < n ∧ (qs_x a t f).testBit j = true
  | 0 => by
    constructor
    · intro h
      have : (qs_by a t 0).testBit j = false := Nat.zero_testBit j
      rw [this] at h
      cases h
    · rintro ⟨f, hf, _⟩
      omega
  | n + 1 => by
    rw [qs_by_s, Nat.testBit_or, Bool.or_eq_true, qs_by_tb a t j n]
    constructor
    · rintro (⟨f, hf, h⟩ | h)
      · exact ⟨f, by omega, h⟩
      · exact ⟨n, by omega, h⟩
    · rintro ⟨f, hf, h⟩
      by_cases e : f = n
      · subst e; exact Or.inr h
      · exact Or.inl ⟨f, by omega, h⟩
/-- no hand holds two -/
theorem qj_dis {a : Nat → Int32} {t fn : Nat} (H2 : ∀ g, g < fn → qj_2 a t g = true) {f g j : Nat} (hf : f < fn) (hg : g < fn) (hne : f ≠ g) (hb : (qs_x a t f).testBit j = true) : (qs_x a t g).testBit j = false := by
  have key : ∀ f g, f < g → g < fn → (qs_x a t f).testBit j = true → (qs_x a t g).testBit j = true → False := fun f g h1 h2 b1 b2 => by
    have h := H2 g h2
    unfold qj_2 at h
    have h := of_decide_eq_true h
    have : (qs_by a t g &&& qs_x a t g).testBit j = true := by
      rw [Nat.testBit_and, (qs_by_tb a t j g).mpr ⟨f, h1, b1⟩, b2]
      rfl
    rw [h, Nat.zero_testBit] at this
    cases this
  cases hc : (qs_x a t g).testBit j
  · rfl
  · rcases Nat.lt_or_ge f g with h1 | h1
    · exact (key f g h1 hg hb hc).elim
    · exact (key g f (by omega) hf hc hb).elim
section
variable {L P pn fn tn bn : Nat} {hm : Nat → Nat} {w : zHM}
theorem qm_figureOf (HA : qi_a L P pn fn tn bn (w.1 84)) (hP : P ≤ 8) {t hd : Nat} (ht : t < bn) (hh : hd < 6) : ∀ (k n f : Nat), f + k = fn → k < n → zM_figureOf_L2 n (nI t) (nI hd) (nI f) w = some (match qj_fo (w.1 84) t hd f k with | none => qN | some g => nI g)
  | 0, n + 1, f, hf, _ => by
    obtain ⟨a0, a1, a4, a6, lpn, lfn, ltn, lbn⟩ := HA.1
    unfold qj_fo
    simp (disch := omega) only [↓reduceIte, ↓qa_b, qa_b, qa_lit, qa_neg1, qa_qN, nI_add, pk_mul, qa_ix, qa_cl, qa_ltT, qa_ltF, qa_eqT, qa_eqF, qa_nN, qa_Nn, qa_ltN, qa_Nlt, qa_NN, qa_ltNN, qa_sub, qa_dec, qa_dec0, qa_sub0, qa_incN, qa_31, qa_shr, qa_shl, qa_and1, va_up_self, qa_une, pk_us, pk_un, qa_up2, qa_upd2, Option.bind_some, if_true, if_false, and_true, true_and, and_self, qa_f1, qa_f2, zM_figureOf_L2, a1]
  | k + 1, n + 1, f, hf, hn => by
    obtain ⟨a0, a1, a4, a6, lpn, lfn, ltn, lbn⟩ := HA.1
    have ih := qm_figureOf HA hP ht hh k n (f + 1) (by omega) (by omega)
    obtain ⟨x1, x2, x3⟩ := qi_x HA ht (show f < fn by omega)
    have eh := qm_heldBy (w := w) (t := t) (f := f) (by omega) (by omega)
    have ep := qm_placeOf (w := w) (t := t) (f := f) (by omega) (by omega)
    rw [x1] at eh
    unfold qj_fo
    rcases qi_pl HA hP ht (show f < fn by omega) with ⟨ho, hp⟩ | ⟨ho, y, hy, hp⟩
    · rw [hp] at ep
      rw [if_neg (fun q => by rw [ho] at q; exact absurd q.1 (by decide))]
      simp (disch := omega) only [↓reduceIte, zM_figureOf_L2, a1, qa_ltT, ep, Option.bind_some, qa_lit, qa_Nlt0, nI_add]
      exact ih
    · rw [hp] at ep
      cases hb : (qs_x (w.1 84) t f).testBit hd
      · rw [if_neg (fun q => absurd q.2 (by decide))]
        simp (disch := omega) only [↓reduceIte, zM_figureOf_L2, a1, qa_ltT, qa_ltF, ep, eh, Option.bind_some, qa_lit, qa_31, qa_shr, qa_and1, qa_tb1, hb, Bool.false_eq_true, nI_add]
        exact ih
      · rw [if_pos ⟨ho, rfl⟩]
        simp (disch := omega) only [↓reduceIte, zM_figureOf_L2, a1, qa_ltT, qa_ltF, ep, eh, Option.bind_some, qa_lit, qa_31, qa_shr, qa_and1, qa_tb1, hb]
/-- two hands cross -/
def qj_hk (a : Nat → Int32) (hm : Nat → Nat) (fn t x y : Nat) : Bool := decide (hm (x / 2) < hm (y / 2) ∨ (hm (x / 2) = hm (y / 2) ∧ x < y)) && (match qj_fo a t x 0 fn, qj_fo a t y 0 fn with
  | some f, some g => decide (a (50 + 6 * t + g) < a (50 + 6 * t + f))
  | _, _ => false)
theorem qm_crI (HA : qi_a L P pn fn tn bn (w.1 84)) (hP : P ≤ 8) (e2 : ∀ p, p < pn → w.1 84 (10 + 2 * p) = nI (hm p) ∧ hm p < 8) {t x : Nat} (ht : t < bn) (hx : x < 2 * pn) (K : Int32 → Int32 → zHM → Option Int32) : ∀ (k n y : Nat), y + k = 2 * pn → k < n → zM_crosses_L12 K n (nI t) (nI x) (nI y) w = if qs_any (fun y => qj_hk (w.1 84) hm fn t x y) y k then some (nI 1) else K (nI t) (nI (x + 1)) w
  | 0, n + 1, y, hy, _ => by
    obtain ⟨a0, a1, a4, a6, lpn, lfn, ltn, lbn⟩ := HA.1
    simp (disch := omega) only [↓reduceIte, ↓qa_b, zM_crosses_L12, zM_hands, a0, pk_mul, qa_ltF, qa_lit, nI_add, qs_any, Bool.false_eq_true]
  | k + 1, n + 1, y, hy, hn => by
    obtain ⟨a0, a1, a4, a6, lpn, lfn, ltn, lbn⟩ := HA.1
    have ih := qm_crI HA hP e2 ht hx K k n (y + 1) (by omega) (by omega)
    have ea := qm_ahead lpn e2 hx (show y < 2 * pn by omega)
    have fx := qm_figureOf HA hP ht (show x < 6 by omega) fn am_N 0 (by omega) (Nat.lt_of_le_of_lt lfn (by decide))
    have fy := qm_figureOf HA hP ht (show y < 6 by omega) fn am_N 0 (by omega) (Nat.lt_of_le_of_lt lfn (by decide))
    have fx : zM_figureOf (nI t) (nI x) w = _ := fx
    have fy : zM_figureOf (nI t) (nI y) w = _ := fy
    have e0 : qs_any (fun y => qj_hk (w.1 84) hm fn t x y) y (k + 1) = (qj_hk (w.1 84) hm fn t x y || qs_any (fun y => qj_hk (w.1 84) hm fn t x y) (y + 1) k) := rfl
    rw [e0]
    by_cases hxy : x = y
    · subst hxy
      have z : qj_hk (w.1 84) hm fn t x x = false := by
        unfold qj_hk
        rw [decide_eq_false (by omega), Bool.false_and]
      rw [z, Bool.false_or]
      simp (disch := omega) only [↓reduceIte, ↓qa_b, zM_crosses_L12, zM_hands, a0, pk_mul, qa_ltT, qa_lit, nI_add]
      exact ih
    · by_cases hah : hm (x / 2) < hm (y / 2) ∨ (hm (x / 2) = hm (y / 2) ∧ x < y)
      · rw [if_pos hah] at ea
        have z : qj_hk (w.1 84) hm fn t x y = (match qj_fo (w.1 84) t x 0 fn, qj_fo (w.1 84) t y 0 fn with
          | some f, some g => decide (w.1 84 (50 + 6 * t + g) < w.1 84 (50 + 6 * t + f))
          | _, _ => false) := by
          unfold qj_hk
          rw [decide_eq_true hah, Bool.true_and]
        rw [z]
        cases qx : qj_fo (w.1 84) t x 0 fn with
        | none =>
          rw [qx] at fx
          dsimp only at fx ⊢
          rw [Bool.false_or]
          simp (disch := omega) only [↓reduceIte, ↓qa_b, zM_crosses_L12, zM_hands, a0, pk_mul, qa_ltT, qa_eqF, qa_lit, nI_add, ea, fx, fy, Option.bind_some, qa_Nlt0]
          exact ih
        | some f =>
          rw [qx] at fx
          dsimp only at fx
          obtain ⟨-, gf, -⟩ := qj_fo_some qx
          cases qy : qj_fo (w.1 84) t y 0 fn with
          | none =>
            rw [qy] at fy
            dsimp only at fy ⊢
            rw [Bool.false_or]
            simp (disch := omega) only [↓reduceIte, ↓qa_b, zM_crosses_L12, zM_hands, a0, pk_mul, qa_ltT, qa_ltF, qa_eqF, qa_lit, nI_add, ea, fx, fy, Option.bind_some, qa_Nlt0]
            exact ih
          | some g =>
            rw [qy] at fy
            dsimp only at fy ⊢
            obtain ⟨-, gg, -⟩ := qj_fo_some qy
            have pf := qm_placeOf (w := w) (t := t) (f := f) (by omega) (by omega)
            have pg := qm_placeOf (w := w) (t := t) (f := g) (by omega) (by omega)
            by_cases hlt : w.1 84 (50 + 6 * t + g) < w.1 84 (50 + 6 * t + f)
            · simp only [decide_eq_true hlt, Bool.true_or, if_true]
              simp (disch := omega) only [↓reduceIte, ↓qa_b, zM_crosses_L12, zM_hands, a0, pk_mul, qa_ltT, qa_ltF, qa_eqF, qa_lit, nI_add, ea, fx, fy, Option.bind_some, pf, pg, hlt]
            · simp only [decide_eq_false hlt, Bool.false_or]
              simp (disch := omega) only [↓reduceIte, ↓qa_b, zM_crosses_L12, zM_hands, a0, pk_mul, qa_ltT, qa_ltF, qa_eqF, qa_lit, nI_add, ea, fx, fy, Option.bind_some, pf, pg, hlt]
              exact ih
      · rw [if_neg hah] at ea
        have z : qj_hk (w.1 84) hm fn t x y = false := by
          unfold qj_hk
          rw [decide_eq_false hah, Bool.false_and]
        rw [z, Bool.false_or]
        simp (disch := omega) only [↓reduceIte, ↓qa_b, zM_crosses_L12, zM_hands, a0, pk_mul, qa_ltT, qa_eqF, qa_lit, nI_add, ea, Option.bind_some, qa_eqT]
        exact ih
theorem qm_crO (HA : qi_a L P pn fn tn bn (w.1 84)) (hP : P ≤ 8) (e2 : ∀ p, p < pn → w.1 84 (10 + 2 * p) = nI (hm p) ∧ hm p < 8) {t : Nat} (ht : t < bn) : ∀ (k n x : Nat), x + k = 2 * pn → k < n → zM_crosses_L2 n (nI t) (nI x) w = some (qs_b (qs_any (fun x => qs_any (fun y => qj_hk (w.1 84) hm fn t x y) 0 (2 * pn)) x k))
  | 0, n + 1, x, hx, _ => by
    obtain ⟨a0, a1, a4, a6, lpn, lfn, ltn, lbn⟩ := HA.1
    simp (disch := omega) only [↓reduceIte, ↓qa_b, zM_crosses_L2, zM_hands, a0, pk_mul, qa_ltF, qa_lit, qs_any]
    rfl
  | k + 1, n + 1, x, hx, hn => by
    obtain ⟨a0, a1, a4, a6, lpn, lfn, ltn, lbn⟩ := HA.1
    have ih := qm_crO HA hP e2 ht k n (x + 1) (by omega) (by omega)
    have e := qm_crI HA hP e2 ht (show x < 2 * pn by omega) (fun v1 v2 w => zM_crosses_L2 n v1 v2 w) (2 * pn) am_N 0 (by omega) (Nat.lt_of_le_of_lt (show 2 * pn ≤ 6 by omega) (by decide))
    have e0 : qs_any (fun x => qs_any (fun y => qj_hk (w.1 84) hm fn t x y) 0 (2 * pn)) x (k + 1) = (qs_any (fun y => qj_hk (w.1 84) hm fn t x y) 0 (2 * pn) || qs_any (fun x => qs_any (fun y => qj_hk (w.1 84) hm fn t x y) 0 (2 * pn)) (x + 1) k) := rfl
    rw [e0, zM_crosses_L2]
    simp (disch := omega) only [↓reduceIte, ↓qa_b, zM_hands, a0, pk_mul, qa_ltT, qa_lit]
    refine e.trans ?_
    cases qs_any (fun y => qj_hk (w.1 84) hm fn t x y) 0 (2 * pn)
    · simp only [Bool.false_eq_true, if_false, Bool.false_or]
      exact ih
    · simp only [if_true, Bool.true_or]
      rfl
/-- both see the same crossing -/
theorem qj_cross (HA : qi_a L P pn fn tn bn (w.1 84)) {t : Nat} (ht : t < bn) (H1 : ∀ g, g < fn → qj_1 (w.1 84) t g = true) (H2 : ∀ g, g < fn → qj_2 (w.1 84) t g = true) : qj_4 (qs_or hm pn) (w.1 84) fn t = qs_any (fun x => qs_any (fun y => qj_hk (w.1 84) hm fn t x y) 0 (2 * pn)) 0 (2 * pn) := by
  obtain ⟨a0, a1, a4, a6, lpn, lfn, ltn, lbn⟩ := HA.1
  have onx : ∀ f j, f < fn → (qs_x (w.1 84) t f).testBit j = true → qs_on (w.1 84) t f = true := fun f j hf hb => by
    cases ho : qs_on (w.1 84) t f
    · have h := H1 f hf
      unfold qj_1 at h
      rw [ho] at h
      have h := of_decide_eq_true (show decide (qs_x (w.1 84) t f = 0) = true from h)
      rw [h, Nat.zero_testBit] at hb
      cases hb
    · rfl
  have big : ∀ f j, f < fn → j < 6 → (qs_x (w.1 84) t f).testBit j = true → j < 2 * pn := fun f j hf hj hb => by
    obtain ⟨x1, x2, x3⟩ := qi_x HA ht hf
    rcases qs_big pn (by omega) _ x3 with q | q
    · omega
    · exact q j hj hb
  rw [Bool.eq_iff_iff]
  unfold qj_4
  rw [qs_any_iff, qs_any_iff]
  constructor
  · rintro ⟨f, _, hf, h⟩
    obtain ⟨g, _, hg, h⟩ := (qs_any_iff _ _ _).mp h
    unfold qj_fg at h
    rw [Bool.and_eq_true] at h
    obtain ⟨hlt, haa⟩ := h
    have hlt := of_decide_eq_true hlt
    unfold qj_aa at haa
    obtain ⟨x, _, hx, h⟩ := (qs_any_iff _ _ _).mp haa
    obtain ⟨y, _, hy, h⟩ := (qs_any_iff _ _ _).mp h
    unfold qj_ab at h
    rw [Bool.and_eq_true, Bool.and_eq_true] at h
    obtain ⟨bx, bY, hor⟩ := h
    have hor := of_decide_eq_true hor
    have x2 := big f x (by omega) (by omega) bx
    have y2 := big g y (by omega) (by omega) bY
    have fx : qj_fo (w.1 84) t x 0 fn = some f := qj_fo_of (by omega) (by omega) (onx f x (by omega) bx) bx (fun j hj hne => qj_dis H2 (by omega) (by omega) (fun q => hne q.symm) bx)
    have fy : qj_fo (w.1 84) t y 0 fn = some g := qj_fo_of (by omega) (by omega) (onx g y (by omega) bY) bY (fun j hj hne => qj_dis H2 (by omega) (by omega) (fun q => hne q.symm) bY)
    refine ⟨x, by omega, by omega, (qs_any_iff _ _ _).mpr ⟨y, by omega, by omega, ?_⟩⟩
    unfold qj_hk
    rw [fx, fy]
    dsimp only
    rw [decide_eq_true ((qs_or_lt x2 y2).mp hor), decide_eq_true hlt]
    rfl
  · rintro ⟨x, _, hx, h⟩
    obtain ⟨y, _, hy, h⟩ := (qs_any_iff _ _ _).mp h
    unfold qj_hk at h
    rw [Bool.and_eq_true] at h
    obtain ⟨hah, h⟩ := h
    have hah := of_decide_eq_true hah
    cases fx : qj_fo (w.1 84) t x 0 fn with
    | none => rw [fx] at h; cases h
    | some f =>
      cases fy : qj_fo (w.1 84) t y 0 fn with
      | none => rw [fx, fy] at h; cases h
      | some g =>
        rw [fx, fy] at h
        have hlt := of_decide_eq_true h
        obtain ⟨_, f2, f3, f4⟩ := qj_fo_some fx
        obtain ⟨_, g2, g3, g4⟩ := qj_fo_some fy
        refine ⟨f, by omega, by omega, (qs_any_iff _ _ _).mpr ⟨g, by omega, by omega, ?_⟩⟩
        unfold qj_fg qj_aa
        rw [decide_eq_true hlt, Bool.true_and, qs_any_iff]
        refine ⟨x, by omega, by omega, (qs_any_iff _ _ _).mpr ⟨y, by omega, by omega, ?_⟩⟩
        unfold qj_ab
        rw [f4, g4, decide_eq_true ((qs_or_lt (by omega) (by omega)).mpr hah)]
        rfl
end
