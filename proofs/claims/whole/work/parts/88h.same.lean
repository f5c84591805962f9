/-! THE HEART: search: both list the same ways -/
theorem qt_bn : ∀ kd, kd < 3 → ∀ st, st < 8 → ∀ k, k < 6 → qs_ho kd st k = 0 ∨ qs_bn (qs_ho kd st k) = (if kd = 2 then 2 else 1) := by decide +kernel
theorem qt_lo : ∀ kd, kd < 3 → ∀ st, st < 8 → ∀ k, k < 6 → qs_ho kd st k = 0 ∨ (qw_lo kd k < 6 ∧ (qs_ho kd st k).testBit (qw_lo kd k) = true) := by decide +kernel
def qt_p (kd st k i j : Nat) : Bool := decide (qs_ho kd st k = 0) || ((qs_ho kd st k).testBit i || (!(qs_ho kd st k).testBit j || (decide (j / 2 = qw_lo kd k / 2) && (decide (i < j) == decide (i < qw_lo kd k)))))
theorem qt_adj' : ∀ kd, kd < 3 → ∀ st, st < 8 → ∀ k, k < 6 → ∀ i, i < 6 → ∀ j, j < 6 → qt_p kd st k i j = true := by decide +kernel
theorem qt_adj (kd : Nat) (h1 : kd < 3) (st : Nat) (h2 : st < 8) (k : Nat) (h3 : k < 6) (i : Nat) (h4 : i < 6) (j : Nat) (h5 : j < 6) : qs_ho kd st k = 0 ∨ (qs_ho kd st k).testBit i = true ∨ (qs_ho kd st k).testBit j = false ∨ (j / 2 = qw_lo kd k / 2 ∧ decide (i < j) = decide (i < qw_lo kd k)) := by
  have := qt_adj' kd h1 st h2 k h3 i h4 j h5
  unfold qt_p at this
  rw [Bool.or_eq_true, Bool.or_eq_true, Bool.or_eq_true, Bool.and_eq_true, decide_eq_true_eq, decide_eq_true_eq, Bool.not_eq_true', beq_iff_eq] at this
  exact this
theorem qt_st : ∀ st, st < 8 → ∀ b, b < 64 → (∃ i, i < 6 ∧ (b.testBit i = true ∧ st.testBit (i / 2) = false)) ∨ qs_bn b ≤ 2 * qs_bn st := by decide +kernel
theorem qt_bn8 : ∀ st, st < 8 → qs_bn st ≤ 3 := by decide +kernel
def qw_c (fn pn st : Nat) (on : Nat → Bool) (hm : Nat → Nat → Nat) (ch : Nat → Nat → Bool) (kd : Nat → Nat) : Prop := fn ≤ 6 ∧ pn ≤ 3 ∧ st < 2 ^ pn ∧ (∀ f k, hm f k < 64) ∧ (∀ g, fn ≤ g → on g = false) ∧ (∀ f, f < fn → kd f ≤ 2) ∧ ∀ f k, f < fn → on f = true → k < 6 → ch f k = true → hm f k = qs_ho (kd f) st k ∧ qs_ho (kd f) st k ≠ 0
/-- the hands that are wanted -/
def qw_wt (on : Nat → Bool) (kd : Nat → Nat) : Nat → Nat
  | 0 => 0
  | f + 1 => qw_wt on kd f + (if on f then (if kd f = 2 then 2 else 1) else 0)
def qw_room (on : Nat → Bool) (kd : Nat → Nat) (fn st hk : Nat) : Bool := decide (qw_wt on kd fn ≤ 2 * qs_bn st ∧ qw_wt on kd fn + qw_of on 0 fn ≤ 2 * qs_bn st + hk)
section
variable {fn pn st : Nat} {on : Nat → Bool} {hm : Nat → Nat → Nat} {ch : Nat → Nat → Bool} {kd sp hmo : Nat → Nat}
/-- what is known of one of the list -/
theorem qw_one (C : qw_c fn pn st on hm ch kd) {x : Nat → Nat} (hx : x ∈ qw on (qw_ok on hm ch) 6 0 (fun _ => 0)) : (∀ f, f < fn → on f = true → x f < 6 ∧ ch f (x f) = true ∧ hm f (x f) = qs_ho (kd f) st (x f) ∧ qs_ho (kd f) st (x f) ≠ 0 ∧ hm f (x f) &&& qw_b on hm x f = 0) ∧ ∀ f, f < fn → on f = false → x f = 0 := by
  obtain ⟨lfn, lpn, lst, h64, hoff, hkd, hho⟩ := C
  obtain ⟨m1, m2, m3⟩ := qw_mem qw_ok_loc hx
  refine ⟨fun f hf ho => ?_, fun f hf ho => m2 f (by omega) (by omega) ho⟩
  obtain ⟨a, b⟩ := m3 f (by omega) (by omega) ho
  unfold qw_ok at b
  rw [Bool.and_eq_true, decide_eq_true_eq] at b
  obtain ⟨q1, q2⟩ := hho f (x f) hf ho a b.2
  exact ⟨a, b.2, q1, q2, b.1⟩
theorem qw_dis (C : qw_c fn pn st on hm ch kd) {x : Nat → Nat} (hx : x ∈ qw on (qw_ok on hm ch) 6 0 (fun _ => 0)) {f g i : Nat} (hf : f < fn) (hg : g < fn) (of : on f = true) (og : on g = true) (hne : f ≠ g) (hb : (hm f (x f)).testBit i = true) : (hm g (x g)).testBit i = false := by
  obtain ⟨X, -⟩ := qw_one C hx
  cases hc : (hm g (x g)).testBit i
  · rfl
  · rcases Nat.lt_or_gt_of_ne hne with h | h
    · have z := (X g hg og).2.2.2.2
      have b := (qw_b_tb (on := on) (hm := hm) (c := x) (i := i) g).mpr ⟨f, h, of, hb⟩
      have := congrArg (fun z => z.testBit i) z
      simp [Nat.testBit_and, hc, b] at this
    · have z := (X f hf of).2.2.2.2
      have b := (qw_b_tb (on := on) (hm := hm) (c := x) (i := i) f).mpr ⟨g, h, og, hc⟩
      have := congrArg (fun z => z.testBit i) z
      simp [Nat.testBit_and, hb, b] at this
/-- hands within the set -/
theorem qw_in (C : qw_c fn pn st on hm ch kd) {x : Nat → Nat} (hx : x ∈ qw on (qw_ok on hm ch) 6 0 (fun _ => 0)) {f i : Nat} (hf : f < fn) (of : on f = true) (hi : i < 6) (hb : (hm f (x f)).testBit i = true) : st.testBit (i / 2) = true ∧ i < 2 * pn := by
  obtain ⟨X, -⟩ := qw_one C hx
  obtain ⟨lfn, lpn, lst, h64, hoff, hkd, hho⟩ := C
  have h8 := qs_set_tb pn (by omega) st lst
  obtain ⟨x6, -, e, e0, -⟩ := X f hf of
  have := hkd f hf
  rw [e] at hb
  have q1 := qs_ho_tb (kd f) (by omega) st h8.1 (x f) x6 i hi e0 hb
  have q2 := qs_ho_st (kd f) (by omega) st h8.1 (x f) x6 e0
  rw [← q1] at q2
  have := h8.2 (i / 2) (by omega) q2.1
  exact ⟨q2.1, by omega⟩
theorem qw_bb (C : qw_c fn pn st on hm ch kd) {x : Nat → Nat} (hx : x ∈ qw on (qw_ok on hm ch) 6 0 (fun _ => 0)) : ∀ f, f ≤ fn → qs_bn (qw_b on hm x f) = qw_wt on kd f ∧ qs_bn (qw_b on hm x f) ≤ 2 * qs_bn st := by
  intro f hf
  have h8 : st < 8 := (qs_set_tb pn (by have := C.2.1; omega) st C.2.2.1).1
  refine ⟨?_, ?_⟩
  · induction f with
    | zero => unfold qw_b qw_wt; decide
    | succ f ih =>
      have ih := ih (by omega)
      rw [show qw_b on hm x (f + 1) = qw_b on hm x f ||| qw_s on hm x f from rfl, show qw_wt on kd (f + 1) = qw_wt on kd f + (if on f then (if kd f = 2 then 2 else 1) else 0) from rfl]
      cases ho : on f
      · rw [show qw_s on hm x f = 0 by unfold qw_s; rw [ho]; rfl, Nat.or_zero, ih]
        simp
      · obtain ⟨x6, hc, e, e0, z⟩ := (qw_one C hx).1 f (by omega) ho
        rw [show qw_s on hm x f = hm f (x f) by unfold qw_s; rw [ho]; rfl]
        have b1 := qw_b_lt (on := on) C.2.2.2.1 x f
        have b2 := C.2.2.2.1 f (x f)
        rw [Nat.and_comm] at z
        rcases qj_bnor _ b1 _ b2 with q | q
        · exact absurd z q
        · rw [q, ih, e]
          rcases qt_bn (kd f) (by have := C.2.2.2.2.2.1 f (by omega); omega) st h8 (x f) x6 with q | q
          · exact absurd q e0
          · rw [q]; simp
  · rcases qt_st st h8 (qw_b on hm x f) (qw_b_lt C.2.2.2.1 x f) with ⟨i, hi, hb, hs⟩ | q
    · obtain ⟨g, g1, g2, g3⟩ := (qw_b_tb f).mp hb
      rw [(qw_in C hx (show g < fn by omega) g2 hi g3).1] at hs
      cases hs
    · exact q
theorem qw_pa (C : qw_c fn pn st on hm ch kd) {x : Nat → Nat} (hx : x ∈ qw on (qw_ok on hm ch) 6 0 (fun _ => 0)) : ∀ k f, f + k = fn → qp_a (qw_s on hm x) (nI (2 * qs_bn st - qs_bn (qw_b on hm x f))) f k = nI (2 * qs_bn st - qs_bn (qw_b on hm x fn))
  | 0, f, h => by
    have : f = fn := by omega
    subst this
    rfl
  | k + 1, f, h => by
    have ih := qw_pa C hx k (f + 1) (by omega)
    have a := (qw_bb C hx (f + 1) (by omega)).2
    have z : qw_b on hm x f &&& qw_s on hm x f = 0 := by
      unfold qw_s
      cases ho : on f
      · simp
      · rw [if_pos rfl, Nat.and_comm]
        exact ((qw_one C hx).1 f (by omega) ho).2.2.2.2
    rcases qj_bnor _ (qw_b_lt (on := on) C.2.2.2.1 x f) _ (qw_s_lt (on := on) C.2.2.2.1 x f) with q | q
    · exact absurd z q
    · rw [show qw_b on hm x (f + 1) = qw_b on hm x f ||| qw_s on hm x f from rfl] at ih a
      rw [show ∀ v, qp_a (qw_s on hm x) v f (k + 1) = qp_a (qw_s on hm x) (v - nI (qs_bn (qw_s on hm x f))) (f + 1) k from fun _ => rfl, qa_sub (by omega), ← ih]
      congr 2
      omega
/-- to cross is the same -/
theorem qw_cr (C : qw_c fn pn st on hm ch kd) {x : Nat → Nat} (hx : x ∈ qw on (qw_ok on hm ch) 6 0 (fun _ => 0)) : (!qs_any (fun f => qs_any (fun g => qw_x (qs_or hmo pn) sp (qw_s on hm x) f g) 0 fn) 0 fn) = qs_all (fun g => !on g || qw_pr on hm (qs_or hmo pn) sp kd g (x g) x) 0 6 := by
  have h8 : st < 8 := (qs_set_tb pn (by have := C.2.1; omega) st C.2.2.1).1
  have hS : ∀ f, f < fn → qw_s on hm x f ≠ 0 → on f = true ∧ qw_s on hm x f = hm f (x f) := fun f hf h => by
    unfold qw_s at h ⊢
    cases ho : on f
    · rw [ho] at h; exact absurd rfl h
    · exact ⟨rfl, rfl⟩
  have hS' : ∀ f, f < fn → on f = true → qw_s on hm x f = hm f (x f) ∧ qw_s on hm x f ≠ 0 := fun f hf ho => by
    have := (qw_one C hx).1 f hf ho
    unfold qw_s
    rw [ho, if_pos rfl, this.2.2.1]
    exact ⟨rfl, this.2.2.2.1⟩
  have LO : ∀ f, f < fn → on f = true → qw_lo (kd f) (x f) < 6 ∧ (hm f (x f)).testBit (qw_lo (kd f) (x f)) = true := fun f hf ho => by
    have X := (qw_one C hx).1 f hf ho
    rcases qt_lo (kd f) (by have := C.2.2.2.2.2.1 f hf; omega) st h8 (x f) X.1 with q | q
    · exact absurd q X.2.2.2.1
    · rw [X.2.2.1]; exact q
  -- a hand of another is ahead of all or of none
  have ADJ : ∀ f g i j, f < fn → g < fn → on f = true → on g = true → f ≠ g → i < 6 → j < 6 → (hm g (x g)).testBit i = true → (hm f (x f)).testBit j = true → (qs_or hmo pn i < qs_or hmo pn j ↔ qs_or hmo pn i < qs_or hmo pn (qw_lo (kd f) (x f))) ∧ (qs_or hmo pn j < qs_or hmo pn i ↔ ¬ qs_or hmo pn i < qs_or hmo pn j) := fun f g i j hf hg of og hne hi hj bi bj => by
    have X := (qw_one C hx).1 f hf of
    obtain ⟨l6, lb⟩ := LO f hf of
    have i2 := (qw_in C hx hg og hi bi).2
    have j2 := (qw_in C hx hf of hj bj).2
    have l2 := (qw_in C hx hf of l6 lb).2
    have ni := qw_dis C hx hg hf og of (fun e => hne e.symm) bi
    have hij : i ≠ j := fun e => by subst e; rw [bj] at ni; cases ni
    rw [qs_or_lt i2 j2, qs_or_lt i2 l2, qs_or_lt j2 i2]
    rcases qt_adj (kd f) (by have := C.2.2.2.2.2.1 f hf; omega) st h8 (x f) X.1 i hi j hj with q | q | q | q
    · exact absurd q X.2.2.2.1
    · rw [← X.2.2.1, ni] at q; cases q
    · rw [← X.2.2.1, bj] at q; cases q
    · have := decide_eq_decide.mp q.2
      rw [← q.1]
      omega
  rw [Bool.eq_iff_iff, Bool.not_eq_true', ← Bool.not_eq_true, qs_any_iff, qs_all_iff]
  constructor
  · intro H f _ hf6
    cases of : on f
    · rfl
    have hf : f < fn := by
      rcases Nat.lt_or_ge f fn with h | h
      · exact h
      · rw [C.2.2.2.2.1 f h] at of; cases of
    simp only [Bool.not_true, Bool.false_or]
    unfold qw_pr
    rw [Bool.not_eq_true', ← Bool.not_eq_true, qs_any_iff]
    rintro ⟨g, -, hg, hb⟩
    rw [Bool.and_eq_true, qs_any_iff] at hb
    obtain ⟨og, i, -, hi, hw⟩ := hb
    rw [Bool.and_eq_true] at hw
    obtain ⟨l6, lb⟩ := LO f hf of
    have A := ADJ f g i (qw_lo (kd f) (x f)) hf (by omega) of og (by omega) (by omega) l6 hw.1 lb
    have sf := hS' f hf of
    have sg := hS' g (by omega) og
    by_cases hc : qs_or hmo pn i < qs_or hmo pn (qw_lo (kd f) (x f))
    · rw [if_pos hc] at hw
      refine H ⟨g, by omega, by omega, ?_⟩
      rw [qs_any_iff]
      refine ⟨f, by omega, by omega, ?_⟩
      unfold qw_x
      rw [decide_eq_true sf.2, decide_eq_true sg.2, hw.2, sf.1, sg.1]
      simp only [Bool.true_and]
      unfold qj_aa
      rw [qs_any_iff]
      refine ⟨i, by omega, by omega, ?_⟩
      rw [qs_any_iff]
      refine ⟨_, by omega, l6, ?_⟩
      unfold qj_ab
      rw [hw.1, lb, decide_eq_true hc]
      rfl
    · rw [if_neg hc] at hw
      refine H ⟨f, by omega, by omega, ?_⟩
      rw [qs_any_iff]
      refine ⟨g, by omega, by omega, ?_⟩
      unfold qw_x
      rw [decide_eq_true sf.2, decide_eq_true sg.2, hw.2, sf.1, sg.1]
      simp only [Bool.true_and]
      unfold qj_aa
      rw [qs_any_iff]
      refine ⟨_, by omega, l6, ?_⟩
      rw [qs_any_iff]
      refine ⟨i, by omega, by omega, ?_⟩
      unfold qj_ab
      rw [hw.1, lb, decide_eq_true (A.2.mpr hc)]
      rfl
  · rintro H ⟨f, -, hf, hb⟩
    rw [qs_any_iff] at hb
    obtain ⟨g, -, hg, hb⟩ := hb
    unfold qw_x at hb
    rw [Bool.and_eq_true, Bool.and_eq_true, Bool.and_eq_true, decide_eq_true_eq, decide_eq_true_eq, decide_eq_true_eq] at hb
    obtain ⟨sf, sg, hs, hb⟩ := hb
    obtain ⟨of, ef⟩ := hS f (by omega) sf
    obtain ⟨og, eg⟩ := hS g (by omega) sg
    rw [ef, eg] at hb
    unfold qj_aa at hb
    rw [qs_any_iff] at hb
    obtain ⟨a, -, ha, hb⟩ := hb
    rw [qs_any_iff] at hb
    obtain ⟨b, -, hbb, hb⟩ := hb
    unfold qj_ab at hb
    rw [Bool.and_eq_true, Bool.and_eq_true, decide_eq_true_eq] at hb
    obtain ⟨ba, bb, ho⟩ := hb
    have hne : f ≠ g := fun e => by subst e; omega
    have l6 := C.1
    rcases Nat.lt_or_gt_of_ne hne with h | h
    · have K := H g (by omega) (by omega)
      rw [og] at K
      simp only [Bool.not_true, Bool.false_or] at K
      unfold qw_pr at K
      rw [Bool.not_eq_true', ← Bool.not_eq_true, qs_any_iff] at K
      refine K ⟨f, by omega, by omega, ?_⟩
      rw [of, Bool.true_and, qs_any_iff]
      refine ⟨a, by omega, ha, ?_⟩
      have A := ADJ g f a b (by omega) (by omega) og of (by omega) (by omega) (by omega) ba bb
      rw [ba, if_pos (A.1.mp ho), decide_eq_true hs]
      rfl
    · have K := H f (by omega) (by omega)
      rw [of] at K
      simp only [Bool.not_true, Bool.false_or] at K
      unfold qw_pr at K
      rw [Bool.not_eq_true', ← Bool.not_eq_true, qs_any_iff] at K
      refine K ⟨g, by omega, by omega, ?_⟩
      rw [og, Bool.true_and, qs_any_iff]
      refine ⟨b, by omega, hbb, ?_⟩
      have A := ADJ f g b a (by omega) (by omega) of og (by omega) (by omega) (by omega) bb ba
      have nb := A.2.mp ho
      rw [bb, if_neg (fun q => nb (A.1.mpr q)), decide_eq_true hs]
      rfl
end
