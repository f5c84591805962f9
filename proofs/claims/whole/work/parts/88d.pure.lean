/-! THE HEART: search: what is known of the list of ways -/
theorem qw_l_mem {α : Type} {g : Nat → List α} {x : α} : ∀ {m k : Nat}, x ∈ qw_l g m k → ∃ j, k ≤ j ∧ j < k + m ∧ x ∈ g j
  | 0, k, h => by cases h
  | m + 1, k, h => by
    unfold qw_l at h
    rcases List.mem_append.mp h with h | h
    · exact ⟨k, by omega, by omega, h⟩
    · obtain ⟨j, a, b, c⟩ := qw_l_mem h
      exact ⟨j, by omega, by omega, c⟩
theorem qw_l_filter {α : Type} {g : Nat → List α} {p : α → Bool} : ∀ m k, (qw_l g m k).filter p = qw_l (fun j => (g j).filter p) m k
  | 0, k => rfl
  | m + 1, k => by
    unfold qw_l
    rw [List.filter_append, qw_l_filter m (k + 1)]
def qw_sum (h : Nat → Nat) : Nat → Nat → Nat
  | 0, _ => 0
  | m + 1, k => h k + qw_sum h m (k + 1)
theorem qw_l_len {α : Type} {g : Nat → List α} {h : Nat → Nat} : ∀ m k, (∀ j, k ≤ j → j < k + m → (g j).length ≤ h j) → (qw_l g m k).length ≤ qw_sum h m k
  | 0, k, _ => Nat.le_refl 0
  | m + 1, k, e => by
    unfold qw_l qw_sum
    rw [List.length_append]
    have := qw_l_len m (k + 1) (fun j a b => e j (by omega) (by omega))
    have := e k (by omega) (by omega)
    omega
section
variable {on : Nat → Bool} {ok pr : Nat → Nat → (Nat → Nat) → Bool}
/-- asks only for figures ahead -/
def qw_loc (ok : Nat → Nat → (Nat → Nat) → Bool) : Prop := ∀ g k c c', (∀ j, j < g → c j = c' j) → ok g k c = ok g k c'
theorem qw_mem (hloc : qw_loc ok) {x : Nat → Nat} : ∀ {r f : Nat} {c : Nat → Nat}, x ∈ qw on ok r f c → (∀ g, g < f ∨ f + r ≤ g → x g = c g) ∧ (∀ g, f ≤ g → g < f + r → on g = false → x g = c g) ∧ ∀ g, f ≤ g → g < f + r → on g = true → x g < 6 ∧ ok g (x g) x = true
  | 0, f, c, h => by
    have : x = c := by simpa [qw] using h
    subst this
    exact ⟨fun _ _ => rfl, fun _ _ _ _ => rfl, fun g a b => by omega⟩
  | r + 1, f, c, h => by
    unfold qw at h
    cases ho : on f
    · rw [ho] at h
      obtain ⟨h1, h2, h3⟩ := qw_mem hloc (show x ∈ qw on ok r (f + 1) c by simpa using h)
      refine ⟨fun g hg => h1 g (by omega), fun g a b o => ?_, fun g a b o => ?_⟩
      · by_cases hgf : g = f
        · subst hgf; exact h1 g (by omega)
        · exact h2 g (by omega) (by omega) o
      · by_cases hgf : g = f
        · subst hgf; rw [ho] at o; cases o
        · exact h3 g (by omega) (by omega) o
    · rw [ho, if_pos rfl] at h
      obtain ⟨k, a, b, hk⟩ := qw_l_mem h
      cases hok : ok f k c
      · rw [hok] at hk; cases hk
      · rw [hok, if_pos rfl] at hk
        obtain ⟨h1, h2, h3⟩ := qw_mem hloc hk
        have e1 : ∀ g, g < f → x g = c g := fun g hg => by rw [h1 g (by omega)]; unfold qw_u; rw [if_neg (by omega)]
        have e2 : x f = k := by rw [h1 f (by omega)]; unfold qw_u; rw [if_pos rfl]
        refine ⟨fun g hg => ?_, fun g a b o => ?_, fun g a b o => ?_⟩
        · rcases hg with hg | hg
          · exact e1 g hg
          · rw [h1 g (by omega)]; unfold qw_u; rw [if_neg (by omega)]
        · have hgf : g ≠ f := fun e => by subst e; rw [ho] at o; cases o
          rw [h2 g (by omega) (by omega) o]; unfold qw_u; rw [if_neg hgf]
        · by_cases hgf : g = f
          · subst hgf
            rw [e2]
            exact ⟨by omega, by rw [hloc g k x c e1]; exact hok⟩
          · exact h3 g (by omega) (by omega) o
/-- to leave out early is to leave out late -/
theorem qw_prune (hloc : qw_loc ok) (hpr : qw_loc pr) : ∀ (r f : Nat) (c : Nat → Nat), qw on (fun f k c => ok f k c && pr f k c) r f c = (qw on ok r f c).filter (fun x => qs_all (fun g => !on g || pr g (x g) x) f r)
  | 0, f, c => by
    unfold qw qs_all
    rfl
  | r + 1, f, c => by
    unfold qw
    cases ho : on f
    · simp only [Bool.false_eq_true, if_false]
      rw [qw_prune hloc hpr r (f + 1) c]
      congr 1
      funext x
      rw [show ∀ q : Nat → Bool, qs_all q f (r + 1) = (q f && qs_all q (f + 1) r) from fun _ => rfl, ho]
      simp
    · simp only [if_true]
      rw [qw_l_filter]
      congr 1
      funext k
      rw [qw_prune hloc hpr r (f + 1) (qw_u c f k)]
      cases hok : ok f k c
      · rfl
      · simp only [Bool.true_and, if_true]
        have key : ∀ x ∈ qw on ok r (f + 1) (qw_u c f k), pr f (x f) x = pr f k c := fun x hx => by
          obtain ⟨h1, -, -⟩ := qw_mem hloc hx
          have e1 : ∀ g, g < f → x g = c g := fun g hg => by rw [h1 g (by omega)]; unfold qw_u; rw [if_neg (by omega)]
          have e2 : x f = k := by rw [h1 f (by omega)]; unfold qw_u; rw [if_pos rfl]
          rw [e2]
          exact hpr f k x c e1
        have un : ∀ x : Nat → Nat, qs_all (fun g => !on g || pr g (x g) x) f (r + 1) = (pr f (x f) x && qs_all (fun g => !on g || pr g (x g) x) (f + 1) r) := fun x => by
          rw [show ∀ q : Nat → Bool, qs_all q f (r + 1) = (q f && qs_all q (f + 1) r) from fun _ => rfl, ho]
          simp
        cases hp : pr f k c
        · simp only [Bool.false_eq_true, if_false]
          symm
          rw [List.filter_eq_nil_iff]
          intro x hx
          rw [un x, key x hx, hp]
          simp
        · simp only [if_true]
          apply List.filter_congr
          intro x hx
          rw [un x, key x hx, hp]
          simp
theorem qw_off : ∀ (s f : Nat) (c : Nat → Nat), (∀ g, f ≤ g → on g = false) → qw on ok s f c = [c]
  | 0, f, c, _ => rfl
  | s + 1, f, c, h => by
    unfold qw
    rw [h f (by omega), if_neg (by decide)]
    exact qw_off s (f + 1) c (fun g hg => h g (by omega))
/-- figures that aren't told -/
theorem qw_tail : ∀ (r s f : Nat) (c : Nat → Nat), (∀ g, f + r ≤ g → on g = false) → qw on ok (r + s) f c = qw on ok r f c
  | 0, s, f, c, h => by rw [Nat.zero_add, qw_off s f c (fun g hg => h g (by omega))]; rfl
  | r + 1, s, f, c, h => by
    rw [show r + 1 + s = r + s + 1 by omega]
    unfold qw
    have : ∀ c, qw on ok (r + s) (f + 1) c = qw on ok r (f + 1) c := fun c => qw_tail r s (f + 1) c (fun g hg => h g (by omega))
    simp only [this]
/-- a way's number -/
def qw_e (c : Nat → Nat) : Nat → Nat
  | 0 => 0
  | f + 1 => qw_e c f * 8 + c f
theorem qw_e_c {c c' : Nat → Nat} : ∀ f, (∀ g, g < f → c g = c' g) → qw_e c f = qw_e c' f
  | 0, _ => rfl
  | f + 1, h => by
    unfold qw_e
    rw [qw_e_c f (fun g hg => h g (by omega)), h f (by omega)]
theorem qw_e_lt {c c' : Nat → Nat} {f : Nat} (hc : ∀ g, c g < 8) (h : qw_e c f < qw_e c' f) : ∀ r, qw_e c (f + r) < qw_e c' (f + r)
  | 0 => h
  | r + 1 => by
    have := qw_e_lt hc h r
    have := hc (f + r)
    rw [show f + (r + 1) = f + r + 1 by omega]
    unfold qw_e
    omega
theorem qw_c8 (hloc : qw_loc ok) {x : Nat → Nat} {r f : Nat} {c : Nat → Nat} (hc : ∀ g, c g < 6) (h : x ∈ qw on ok r f c) : ∀ g, x g < 6 := fun g => by
  obtain ⟨h1, h2, h3⟩ := qw_mem hloc h
  by_cases a : g < f ∨ f + r ≤ g
  · rw [h1 g a]; exact hc g
  · cases o : on g
    · rw [h2 g (by omega) (by omega) o]; exact hc g
    · exact (h3 g (by omega) (by omega) o).1
theorem qw_l_pw {α : Type} {R : α → α → Prop} {g : Nat → List α} : ∀ m k, (∀ j, (g j).Pairwise R) → (∀ i j, i < j → j < k + m → ∀ a ∈ g i, ∀ b ∈ g j, R a b) → (qw_l g m k).Pairwise R
  | 0, k, _, _ => List.Pairwise.nil
  | m + 1, k, h1, h2 => by
    unfold qw_l
    rw [List.pairwise_append]
    refine ⟨h1 k, qw_l_pw m (k + 1) h1 (fun i j a b => h2 i j a (by omega)), fun a ha b hb => ?_⟩
    obtain ⟨j, q1, q2, q3⟩ := qw_l_mem hb
    exact h2 k j (by omega) (by omega) a ha b q3
/-- the numbers rise -/
theorem qw_rise (hloc : qw_loc ok) : ∀ (r f : Nat) (c : Nat → Nat), (∀ g, c g < 6) → (qw on ok r f c).Pairwise (fun a b => qw_e a (f + r) < qw_e b (f + r))
  | 0, f, c, _ => List.pairwise_singleton _ _
  | r + 1, f, c, hc => by
    unfold qw
    rw [show f + (r + 1) = f + 1 + r by omega]
    cases ho : on f
    · simp only [Bool.false_eq_true, if_false]
      exact qw_rise hloc r (f + 1) c hc
    · simp only [if_true]
      have hu : ∀ k, k < 6 → ∀ g, qw_u c f k g < 6 := fun k hk g => by
        unfold qw_u
        split
        · exact hk
        · exact hc g
      have key : ∀ k x, x ∈ (if ok f k c then qw on ok r (f + 1) (qw_u c f k) else []) → x ∈ qw on ok r (f + 1) (qw_u c f k) := fun k x hx => by
        cases hok : ok f k c
        · rw [hok] at hx; cases hx
        · rw [hok] at hx; simpa using hx
      suffices h : ∀ m k, k + m = 6 → (qw_l (fun k => if ok f k c then qw on ok r (f + 1) (qw_u c f k) else []) m k).Pairwise (fun a b => qw_e a (f + 1 + r) < qw_e b (f + 1 + r)) from h 6 0 rfl
      intro m
      induction m with
      | zero => intro k _; exact List.Pairwise.nil
      | succ m ih =>
        intro k hk
        unfold qw_l
        rw [List.pairwise_append]
        refine ⟨?_, ih (k + 1) (by omega), fun a ha b hb => ?_⟩
        · cases hok : ok f k c
          · exact List.Pairwise.nil
          · exact qw_rise hloc r (f + 1) (qw_u c f k) (hu k (by omega))
        · obtain ⟨j, q1, q2, q3⟩ := qw_l_mem hb
          have ma := key k a ha
          have mb := key j b q3
          have a1 := (qw_mem hloc ma).1
          have b1 := (qw_mem hloc mb).1
          apply qw_e_lt (fun g => Nat.lt_of_lt_of_le (qw_c8 hloc (hu k (by omega)) ma g) (by omega))
          unfold qw_e
          rw [a1 f (by omega), b1 f (by omega), qw_e_c (c := a) (c' := c) f (fun g hg => by rw [a1 g (by omega)]; unfold qw_u; rw [if_neg (by omega)]), qw_e_c (c := b) (c' := c) f (fun g hg => by rw [b1 g (by omega)]; unfold qw_u; rw [if_neg (by omega)])]
          unfold qw_u
          rw [if_pos rfl, if_pos rfl]
          omega
end
section
variable {on : Nat → Bool} {hm : Nat → Nat → Nat} {ch : Nat → Nat → Bool}
theorem qw_b_c {c c' : Nat → Nat} : ∀ f, (∀ g, g < f → c g = c' g) → qw_b on hm c f = qw_b on hm c' f
  | 0, _ => rfl
  | f + 1, h => by
    unfold qw_b qw_s
    rw [qw_b_c f (fun g hg => h g (by omega)), h f (by omega)]
theorem qw_ok_loc : qw_loc (qw_ok on hm ch) := fun g k c c' h => by
  unfold qw_ok
  rw [qw_b_c g h]
def qw_F (n : Nat) : Nat := if n = 0 then 1 else if n = 1 then 1 else if n = 2 then 2 else if n = 3 then 6 else if n = 4 then 24 else if n = 5 then 120 else 720
theorem qw_F1 : ∀ b, b < 64 → qw_sum (fun k => if 2 ^ k &&& b = 0 then qw_F (6 - qs_bn (b ||| 2 ^ k)) else 0) 6 0 ≤ qw_F (6 - qs_bn b) := by decide +kernel
theorem qw_F2 : ∀ b, b < 64 → qw_sum (fun k => if k < 3 ∧ 3 * 4 ^ k &&& b = 0 then qw_F (6 - qs_bn (b ||| 3 * 4 ^ k)) else 0) 6 0 ≤ qw_F (6 - qs_bn b) := by decide +kernel
theorem qw_F0 : ∀ b, b < 64 → 1 ≤ qw_F (6 - qs_bn b) := by decide +kernel
/-- no more than 720 -/
theorem qw_len (hm64 : ∀ f k, hm f k < 64) (hk : ∀ f, on f = true → (∀ k, k < 6 → ch f k = true → hm f k = 2 ^ k) ∨ (∀ k, k < 6 → ch f k = true → k < 3 ∧ hm f k = 3 * 4 ^ k)) : ∀ (r f : Nat) (c : Nat → Nat), (qw on (qw_ok on hm ch) r f c).length ≤ qw_F (6 - qs_bn (qw_b on hm c f))
  | 0, f, c => by
    unfold qw
    exact qw_F0 _ (qw_b_lt hm64 c f)
  | r + 1, f, c => by
    unfold qw
    have b64 := qw_b_lt (on := on) hm64 c f
    cases ho : on f
    · simp only [Bool.false_eq_true, if_false]
      have ih := qw_len hm64 hk r (f + 1) c
      rw [show qw_b on hm c (f + 1) = qw_b on hm c f ||| qw_s on hm c f from rfl, show qw_s on hm c f = 0 by unfold qw_s; rw [ho]; rfl, Nat.or_zero] at ih
      exact ih
    · simp only [if_true]
      have ih : ∀ k, (qw on (qw_ok on hm ch) r (f + 1) (qw_u c f k)).length ≤ qw_F (6 - qs_bn (qw_b on hm c f ||| hm f k)) := fun k => by
        have := qw_len hm64 hk r (f + 1) (qw_u c f k)
        rw [show qw_b on hm (qw_u c f k) (f + 1) = qw_b on hm c f ||| hm f k from by
          rw [show qw_b on hm (qw_u c f k) (f + 1) = qw_b on hm (qw_u c f k) f ||| qw_s on hm (qw_u c f k) f from rfl, qw_b_u f (Nat.le_refl _), qw_s_uu ho]] at this
        exact this
      rcases hk f ho with hk | hk
      · refine Nat.le_trans (qw_l_len 6 0 (fun j _ hj => ?_)) (qw_F1 _ b64)
        cases hok : qw_ok on hm ch f j c
        · exact Nat.zero_le _
        · unfold qw_ok at hok
          rw [Bool.and_eq_true, decide_eq_true_eq] at hok
          have e := hk j (by omega) hok.2
          rw [e] at hok
          rw [if_pos rfl, if_pos hok.1, ← e]
          exact ih j
      · refine Nat.le_trans (qw_l_len 6 0 (fun j _ hj => ?_)) (qw_F2 _ b64)
        cases hok : qw_ok on hm ch f j c
        · exact Nat.zero_le _
        · unfold qw_ok at hok
          rw [Bool.and_eq_true, decide_eq_true_eq] at hok
          have e := hk j (by omega) hok.2
          rw [e.2] at hok
          rw [if_pos rfl, if_pos ⟨e.1, hok.1⟩, ← e.2]
          exact ih j
theorem qw_720 (hm64 : ∀ f k, hm f k < 64) (hk : ∀ f, on f = true → (∀ k, k < 6 → ch f k = true → hm f k = 2 ^ k) ∨ (∀ k, k < 6 → ch f k = true → k < 3 ∧ hm f k = 3 * 4 ^ k)) (p : (Nat → Nat) → Bool) : ((qw on (qw_ok on hm ch) 6 0 (fun _ => 0)).filter p).length ≤ 720 :=
  Nat.le_trans (List.length_filter_le _ _) (Nat.le_trans (qw_len hm64 hk 6 0 _) (show qw_F (6 - qs_bn 0) ≤ 720 by decide))
end
