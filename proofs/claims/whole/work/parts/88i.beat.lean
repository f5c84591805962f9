/-! THE HEART: search: one beat's ways, both sides -/
theorem qt_cmp : ∀ a, a < 13 → ∀ b, b < 13 → ∀ c, c < 13 → decide (nI a < nI b - nI c) = decide (a + c < b) := by decide +kernel
/-- what the reference asks of a way -/
def qw_p (or sp : Nat → Nat) (on : Nat → Bool) (hm : Nat → Nat → Nat) (fn st : Nat) (a2 : Int32) (x : Nat → Nat) : Bool := !qs_any (fun f => qs_any (fun g => qw_x or sp (qw_s on hm x) f g) 0 fn) 0 fn && decide (¬ qp_a (qw_s on hm x) (nI (2 * qs_bn st)) 0 fn < nI (0 + qw_of on 0 fn) - a2)
section
variable {fn pn st hk : Nat} {on : Nat → Bool} {hm : Nat → Nat → Nat} {ch : Nat → Nat → Bool} {kd sp hmo : Nat → Nat}
theorem qw_same (C : qw_c fn pn st on hm ch kd) (hhk : hk ≤ 6) : (qw on (qw_ok on hm ch) 6 0 (fun _ => 0)).filter (qw_p (qs_or hmo pn) sp on hm fn st (nI hk)) = if qw_room on kd fn st hk then qw on (qw_o2 on hm ch (qs_or hmo pn) sp kd) fn 0 (fun _ => 0) else [] := by
  have h8 : st < 8 := (qs_set_tb pn (by have := C.2.1; omega) st C.2.2.1).1
  have h3 := qt_bn8 st h8
  have key : ∀ x ∈ qw on (qw_ok on hm ch) 6 0 (fun _ => 0), qw_p (qs_or hmo pn) sp on hm fn st (nI hk) x = (qs_all (fun g => !on g || qw_pr on hm (qs_or hmo pn) sp kd g (x g) x) 0 6 && qw_room on kd fn st hk) := fun x hx => by
    unfold qw_p
    rw [qw_cr C hx]
    congr 1
    have e := qw_pa C hx fn 0 (by omega)
    obtain ⟨b1, b2⟩ := qw_bb C hx fn (Nat.le_refl _)
    rw [show qw_b on hm x 0 = 0 from rfl, show qs_bn 0 = 0 by decide, Nat.sub_zero, b1] at e
    rw [b1] at b2
    have ol := qw_of_le on fn 0
    have l6 := C.1
    rw [e, Nat.zero_add]
    have cm := decide_eq_decide.mp (qt_cmp (2 * qs_bn st - qw_wt on kd fn) (by omega) (qw_of on 0 fn) (by omega) hk (by omega))
    unfold qw_room
    rw [decide_eq_decide, cm]
    omega
  rw [List.filter_congr key]
  cases hr : qw_room on kd fn st hk
  · simp
  · simp only [Bool.and_true, if_true]
    have l6 := C.1
    have e := qw_tail (on := on) (ok := qw_o2 on hm ch (qs_or hmo pn) sp kd) fn (6 - fn) 0 (fun _ => 0) (fun g hg => C.2.2.2.2.1 g (by omega))
    rw [show fn + (6 - fn) = 6 by omega] at e
    rw [← e]
    exact (qw_prune qw_ok_loc qw_pr_loc 6 0 _).symm
end
section
variable {fn t st hk : Nat} {on : Nat → Bool} {hm : Nat → Nat → Nat} {ch : Nat → Nat → Bool} {or sp kd : Nat → Nat} {h : Nat → Nat → Int32}
theorem qw_wt_le (on : Nat → Bool) (kd : Nat → Nat) : ∀ f, qw_wt on kd f ≤ 2 * f
  | 0 => Nat.le_refl 0
  | f + 1 => by
    have := qw_wt_le on kd f
    unfold qw_wt
    split
    · split <;> omega
    · omega
theorem qh_roomL (H : qh_H fn t on hm ch or sp kd h) (e3 : h 65 3 = nI (2 * qs_bn st)) (e4 : h 65 4 = nI hk) (hst : st < 8) (hhk : hk ≤ 6) : ∀ (k n f o : Nat), f + k = fn → k < n → o ≤ f → zS_isRoomFor_L7 n (nI t) (nI (qw_wt on kd f)) (nI o) (nI f) h = some (qs_b (decide (qw_wt on kd fn ≤ 2 * qs_bn st ∧ qw_wt on kd fn + (o + qw_of on f k) ≤ 2 * qs_bn st + hk)))
  | 0, n + 1, f, o, hf, _, ho => by
    obtain ⟨⟨e1, lfn, lt⟩, -⟩ := H
    have : f = fn := by omega
    subst this
    have w2 := qw_wt_le on kd f
    have b3 := qt_bn8 st hst
    unfold qw_of
    rw [Nat.add_zero]
    by_cases h1 : qw_wt on kd f ≤ 2 * qs_bn st
    · by_cases h2 : qw_wt on kd f + o ≤ 2 * qs_bn st + hk
      · rw [decide_eq_true ⟨h1, h2⟩]
        simp (disch := omega) only [↓reduceIte, zS_isRoomFor_L7, e1, e3, e4, qa_ltF, qa_lit, nI_add]
        rfl
      · rw [decide_eq_false (fun z => h2 z.2)]
        simp (disch := omega) only [↓reduceIte, zS_isRoomFor_L7, e1, e3, e4, qa_ltF, qa_ltT, qa_lit, nI_add]
        rfl
    · rw [decide_eq_false (fun z => h1 z.1)]
      simp (disch := omega) only [↓reduceIte, zS_isRoomFor_L7, e1, e3, e4, qa_ltF, qa_ltT, qa_lit, nI_add]
      rfl
  | k + 1, n + 1, f, o, hf, hn, ho => by
    obtain ⟨⟨e1, lfn, lt⟩, h64, H66, H68, -⟩ := id H
    have w2 := qw_wt_le on kd f
    obtain ⟨k1, k2⟩ := H66 f (by omega)
    rw [show qw_of on f (k + 1) = (if on f then 0 else 1) + qw_of on (f + 1) k from rfl]
    cases hof : on f
    · have ih := qh_roomL H e3 e4 hst hhk k n (f + 1) (o + 1) (by omega) (by omega) (by omega)
      have s1 := (H68 f (by omega)).1 hof
      rw [show qw_wt on kd (f + 1) = qw_wt on kd f from by rw [show qw_wt on kd (f + 1) = qw_wt on kd f + (if on f then (if kd f = 2 then 2 else 1) else 0) from rfl, hof, if_neg (by decide), Nat.add_zero]] at ih
      simp (disch := omega) only [↓reduceIte, ↓qa_b, zS_isRoomFor_L7, e1, qa_lit, qa_ltT, pk_mul, nI_add, qa_ix, qa_cl, s1, qa_neg1, qa_qN, Bool.false_eq_true]
      rw [ih, Nat.add_assoc]
    · have ih := qh_roomL H e3 e4 hst hhk k n (f + 1) o (by omega) (by omega) (by omega)
      obtain ⟨s1, s2⟩ := (H68 f (by omega)).2 hof
      rw [show qw_wt on kd (f + 1) = qw_wt on kd f + (if kd f = 2 then 2 else 1) from by rw [show qw_wt on kd (f + 1) = qw_wt on kd f + (if on f then (if kd f = 2 then 2 else 1) else 0) from rfl, hof, if_pos rfl]] at ih
      by_cases h2 : kd f = 2
      · rw [if_pos h2] at ih
        rw [h2] at k1
        simp (disch := omega) only [↓reduceIte, ↓qa_b, zS_isRoomFor_L7, e1, qa_lit, qa_ltT, pk_mul, nI_add, qa_ix, qa_cl, s1, qa_neg1, qa_qN, qa_nN, k1]
        rw [ih, Nat.zero_add]
      · rw [if_neg h2] at ih
        simp (disch := omega) only [↓reduceIte, ↓qa_b, zS_isRoomFor_L7, e1, qa_lit, qa_ltT, pk_mul, nI_add, qa_ix, qa_cl, s1, qa_neg1, qa_qN, qa_nN, k1, qa_eqF]
        rw [ih, Nat.zero_add]
theorem qh_room (H : qh_H fn t on hm ch or sp kd h) (e3 : h 65 3 = nI (2 * qs_bn st)) (e4 : h 65 4 = nI hk) (hst : st < 8) (hhk : hk ≤ 6) : zS_isRoomFor (nI t) h = some (qs_b (qw_room on kd fn st hk)) := by
  have := qh_roomL H e3 e4 hst hhk fn am_N 0 0 (by omega) (Nat.lt_of_le_of_lt H.1.2.1 (by decide)) (Nat.le_refl 0)
  rw [Nat.zero_add] at this
  exact this
/-- the class lays a beat -/
theorem qh_beat (H : qh_H fn t on hm ch or sp kd h) (e3 : h 65 3 = nI (2 * qs_bn st)) (e4 : h 65 4 = nI hk) (hst : st < 8) (hhk : hk ≤ 6) (e0 : h 73 t = nI 0) (h7 : (qw on (qw_o2 on hm ch or sp kd) fn 0 (fun _ => 0)).length ≤ 720) : ∃ h', (zS_isRoomFor (nI t) h = some (nI 0) ∧ h' = h ∨ zS_isRoomFor (nI t) h = some (nI 1) ∧ zS_lay 8 (nI t) (nI 0) (nI 0) (nI 0) h = some h') ∧ qh_oth t h h' ∧ qh_rows fn t h' (if qw_room on kd fn st hk then qw on (qw_o2 on hm ch or sp kd) fn 0 (fun _ => 0) else []) := by
  have er := qh_room H e3 e4 hst hhk
  have r0 : qh_rows fn t h [] := ⟨e0, fun i c hc => by simp at hc⟩
  cases hr : qw_room on kd fn st hk
  · rw [hr] at er
    exact ⟨h, Or.inl ⟨er, rfl⟩, qh_oth.rf t h, r0⟩
  · rw [hr] at er
    obtain ⟨h', q1, q2, -, q4⟩ := qh_lay fn 0 8 h (fun _ => 0) [] (by omega) (by have := H.1.2.1; omega) H ⟨fun _ => Nat.zero_lt_succ 5, fun g hg => by omega, fun _ _ => rfl⟩ r0 (by rw [List.length_nil, Nat.zero_add]; exact h7)
    exact ⟨h', Or.inr ⟨er, q1⟩, q2, q4⟩
end
