/-! THE HEART: the reader: piles, pure -/
def qg_t (e : Nat) : Nat := if e = 40 then 31 else if e = 2 then 38 else 24 + e
/-- how a sum's pile looks, from its top -/
def qg_G : Nat → List Nat → Prop
  | _, [] => True
  | m, e :: l => (e = 2 ∧ 3 ≤ m ∧ qg_G 3 l) ∨ ((e = 5 ∨ e = 6) ∧ 2 ≤ m ∧ qg_G 1 l) ∨ ((e = 3 ∨ e = 4) ∧ 1 ≤ m ∧ qg_G 0 l) ∨ (e = 40 ∧ qg_G 3 l)
def qg_o (pl : List Nat) : Nat := pl.countP (fun e => decide (e = 40) || decide (e = 2))
def qg_br (pl : List Nat) : Nat := pl.countP (fun e => decide (e = 40))
def qg_bi (pl : List Nat) : Nat := pl.countP (fun e => decide (3 ≤ e) && decide (e ≤ 6))
theorem qg_G_up : ∀ (l : List Nat) {m m' : Nat}, m ≤ m' → qg_G m l → qg_G m' l
  | [], _, _, _, _ => trivial
  | e :: l, m, m', h, H => by
    rcases H with ⟨a, b, c⟩ | ⟨a, b, c⟩ | ⟨a, b, c⟩ | ⟨a, c⟩
    · exact Or.inl ⟨a, by omega, c⟩
    · exact Or.inr (Or.inl ⟨a, by omega, c⟩)
    · exact Or.inr (Or.inr (Or.inl ⟨a, by omega, c⟩))
    · exact Or.inr (Or.inr (Or.inr ⟨a, c⟩))
theorem qg_G_m {m : Nat} : ∀ (l : List Nat), qg_G m l → ∀ e ∈ l, e = 2 ∨ e = 3 ∨ e = 4 ∨ e = 5 ∨ e = 6 ∨ e = 40
  | [], _, e, he => by cases he
  | a :: l, H, e, he => by
    rcases List.mem_cons.mp he with q | q
    · subst q
      rcases H with ⟨a, b, c⟩ | ⟨a, b, c⟩ | ⟨a, b, c⟩ | ⟨a, c⟩ <;> omega
    · rcases H with ⟨_, _, c⟩ | ⟨_, _, c⟩ | ⟨_, _, c⟩ | ⟨_, c⟩ <;> exact qg_G_m l c e q
theorem qg_o_c (e : Nat) (l : List Nat) : qg_o (e :: l) = qg_o l + (if e = 40 ∨ e = 2 then 1 else 0) := by
  rw [show qg_o (e :: l) = qg_o l + (if (decide (e = 40) || decide (e = 2)) = true then 1 else 0) from List.countP_cons]
  congr 1
  by_cases h : e = 40 ∨ e = 2
  · rw [if_pos h, if_pos (by rw [Bool.or_eq_true, decide_eq_true_eq, decide_eq_true_eq]; exact h)]
  · rw [if_neg h, if_neg (by rw [Bool.or_eq_true, decide_eq_true_eq, decide_eq_true_eq]; exact h)]
theorem qg_br_c (e : Nat) (l : List Nat) : qg_br (e :: l) = qg_br l + (if e = 40 then 1 else 0) := by
  rw [show qg_br (e :: l) = qg_br l + (if decide (e = 40) = true then 1 else 0) from List.countP_cons]
  congr 1
  by_cases h : e = 40
  · rw [if_pos h, if_pos (decide_eq_true h)]
  · rw [if_neg h, if_neg (by rw [decide_eq_true_eq]; exact h)]
theorem qg_bi_c (e : Nat) (l : List Nat) : qg_bi (e :: l) = qg_bi l + (if 3 ≤ e ∧ e ≤ 6 then 1 else 0) := by
  rw [show qg_bi (e :: l) = qg_bi l + (if (decide (3 ≤ e) && decide (e ≤ 6)) = true then 1 else 0) from List.countP_cons]
  congr 1
  by_cases h : 3 ≤ e ∧ e ≤ 6
  · rw [if_pos h, if_pos (by rw [Bool.and_eq_true, decide_eq_true_eq, decide_eq_true_eq]; exact h)]
  · rw [if_neg h, if_neg (by rw [Bool.and_eq_true, decide_eq_true_eq, decide_eq_true_eq]; exact h)]
def qg_m3 (m : Nat) : Nat := if m = 3 then 2 else m
theorem qg_G_len : ∀ (l : List Nat) {m : Nat}, m ≤ 3 → qg_G m l → l.length ≤ qg_m3 m + 3 * qg_o l
  | [], _, _, _ => by rw [List.length_nil]; omega
  | e :: l, m, hm, H => by
    rw [List.length_cons, qg_o_c]
    have m3 : 1 ≤ m → 1 ≤ qg_m3 m := fun _ => by unfold qg_m3; split <;> omega
    have m4 : 2 ≤ m → 2 ≤ qg_m3 m := fun _ => by unfold qg_m3; split <;> omega
    have k3 : qg_m3 3 = 2 := rfl
    have k1 : qg_m3 1 = 1 := rfl
    have k0 : qg_m3 0 = 0 := rfl
    rcases H with ⟨a, b, c⟩ | ⟨a, b, c⟩ | ⟨a, b, c⟩ | ⟨a, c⟩
    · have := qg_G_len l (by omega) c
      rw [if_pos (Or.inr a)]
      omega
    · have := qg_G_len l (by omega) c
      rw [if_neg (by omega)]
      omega
    · have := qg_G_len l (by omega) c
      rw [if_neg (by omega)]
      omega
    · have := qg_G_len l (by omega) c
      rw [if_pos (Or.inl a)]
      omega
theorem qg_bi_le (l : List Nat) : qg_bi l ≤ l.length := List.countP_le_length
theorem qg_br_o (l : List Nat) : qg_br l ≤ qg_o l := List.countP_mono_left (fun e _ h => by simp at h ⊢; exact Or.inl h)
/-- codes of operators -/
def qg_em : List Nat → List (Nat × Nat) → List (Nat × Nat)
  | [], ds => ds
  | e :: l, ds => qg_em l ((e, 0) :: ds)
theorem qg_em_len : ∀ (l : List Nat) (ds : List (Nat × Nat)), (qg_em l ds).length = ds.length + l.length
  | [], _ => rfl
  | e :: l, ds => by
    unfold qg_em
    rw [qg_em_len l, List.length_cons, List.length_cons]
    omega
theorem qg_sc_app {r : Nat} {v : List Nat} : ∀ (w : List Nat) (ds : List (Nat × Nat)) (op : Nat), (∀ t ∈ w, r ≤ qg_rk t ∧ qg_on t = false) → qg_sc r (w ++ v) ds op = qg_sc r v (qg_em (w.map qg_u) ds) op
  | [], _, _, _ => rfl
  | t :: w, ds, op, h => by
    obtain ⟨h1, h2⟩ := h t List.mem_cons_self
    rw [List.cons_append, show qg_sc r (t :: (w ++ v)) ds op = (if r ≤ qg_rk t then qg_sc r (w ++ v) ((qg_u t, 0) :: ds) (if qg_on t then op - 1 else op) else (t :: (w ++ v), ds, op)) from rfl, if_pos h1, h2, if_neg (by decide), qg_sc_app w _ op (fun t' ht' => h t' (List.mem_cons_of_mem _ ht'))]
    rfl
theorem qg_sc_no {r : Nat} {ds : List (Nat × Nat)} {op : Nat} : ∀ (v : List Nat), (∀ t, v.head? = some t → qg_rk t < r) → qg_sc r v ds op = (v, ds, op)
  | [], _ => rfl
  | t :: v, h => by
    have := h t rfl
    rw [show qg_sc r (t :: v) ds op = (if r ≤ qg_rk t then qg_sc r v ((qg_u t, 0) :: ds) (if qg_on t then op - 1 else op) else (t :: v, ds, op)) from rfl, if_neg (by omega)]
theorem qg_st_app {v : Nat} {rest : List Nat} : ∀ (seg : List Nat) (ds : List (Nat × Nat)), (∀ e ∈ seg, e < 40 ∧ v ≤ e) → qg_st v (seg ++ rest) ds = qg_st v rest (qg_em seg ds)
  | [], _, _ => rfl
  | e :: seg, ds, h => by
    rw [List.cons_append, show qg_st v (e :: (seg ++ rest)) ds = (if e < 40 ∧ v ≤ e then qg_st v (seg ++ rest) ((e, 0) :: ds) else (e :: (seg ++ rest), ds)) from rfl, if_pos (h e List.mem_cons_self), qg_st_app seg _ (fun e' he' => h e' (List.mem_cons_of_mem _ he'))]
    rfl
theorem qg_st_no {v : Nat} {ds : List (Nat × Nat)} : ∀ (l : List Nat), (∀ e, l.head? = some e → ¬ (e < 40 ∧ v ≤ e)) → qg_st v l ds = (l, ds)
  | [], _ => rfl
  | e :: l, h => by
    rw [show qg_st v (e :: l) ds = (if e < 40 ∧ v ≤ e then qg_st v l ((e, 0) :: ds) else (e :: l, ds)) from rfl, if_neg (h e rfl)]
/-- behind a ONE: what binds closest, the rest -/
theorem qg_G2 {pl : List Nat} (h : qg_G 2 pl) : ∃ bs as, pl = bs ++ as ∧ (bs = [] ∨ ∃ b, bs = [b] ∧ (b = 5 ∨ b = 6)) ∧ qg_G 1 as ∧ (bs = [] → as = pl) := by
  cases pl with
  | nil => exact ⟨[], [], rfl, Or.inl rfl, trivial, fun _ => rfl⟩
  | cons e l =>
    rcases h with ⟨a, b, c⟩ | ⟨a, b, c⟩ | ⟨a, b, c⟩ | ⟨a, c⟩
    · omega
    · exact ⟨[e], l, rfl, Or.inr ⟨e, rfl, a⟩, c, fun q => by cases q⟩
    · exact ⟨[], e :: l, rfl, Or.inl rfl, Or.inr (Or.inr (Or.inl ⟨a, by omega, c⟩)), fun _ => rfl⟩
    · exact ⟨[], e :: l, rfl, Or.inl rfl, Or.inr (Or.inr (Or.inr ⟨a, c⟩)), fun _ => rfl⟩
theorem qg_G1 {as : List Nat} (h : qg_G 1 as) : ∃ a1 rest, as = a1 ++ rest ∧ (a1 = [] ∨ ∃ b, a1 = [b] ∧ (b = 3 ∨ b = 4)) ∧ (rest = [] ∨ ∃ l, rest = 40 :: l ∧ qg_G 3 l) := by
  cases as with
  | nil => exact ⟨[], [], rfl, Or.inl rfl, Or.inl rfl⟩
  | cons e l =>
    rcases h with ⟨a, b, c⟩ | ⟨a, b, c⟩ | ⟨a, b, c⟩ | ⟨a, c⟩
    · omega
    · omega
    · refine ⟨[e], l, rfl, Or.inr ⟨e, rfl, a⟩, ?_⟩
      cases l with
      | nil => exact Or.inl rfl
      | cons f l =>
        rcases c with ⟨x, y, z⟩ | ⟨x, y, z⟩ | ⟨x, y, z⟩ | ⟨x, z⟩
        · omega
        · omega
        · omega
        · exact Or.inr ⟨l, by rw [x], z⟩
    · exact ⟨[], e :: l, rfl, Or.inl rfl, Or.inr ⟨l, by rw [a], c⟩⟩
theorem qg_seg {pl : List Nat} (h : qg_G 2 pl) : ∃ seg rest, pl = seg ++ rest ∧ (∀ e ∈ seg, 3 ≤ e ∧ e ≤ 6) ∧ (rest = [] ∨ ∃ l, rest = 40 :: l ∧ qg_G 3 l) := by
  obtain ⟨bs, as, e1, b1, a1, -⟩ := qg_G2 h
  obtain ⟨a2, rest, e2, b2, r⟩ := qg_G1 a1
  refine ⟨bs ++ a2, rest, by rw [e1, e2, List.append_assoc], fun e he => ?_, r⟩
  rcases List.mem_append.mp he with q | q
  · rcases b1 with b1 | ⟨b, b1, b3⟩
    · rw [b1] at q; cases q
    · rw [b1, List.mem_singleton] at q; omega
  · rcases b2 with b2 | ⟨b, b2, b3⟩
    · rw [b2] at q; cases q
    · rw [b2, List.mem_singleton] at q; omega
theorem qg_tu : ∀ e, e < 7 → 3 ≤ e → qg_u (qg_t e) = e ∧ 5 ≤ qg_rk (qg_t e) ∧ qg_on (qg_t e) = false ∧ qg_w (qg_t e) = true ∧ (5 ≤ e → 6 ≤ qg_rk (qg_t e)) ∧ (e < 5 → qg_rk (qg_t e) < 6) := by decide +kernel
theorem qg_map_u {seg : List Nat} (h : ∀ e ∈ seg, 3 ≤ e ∧ e ≤ 6) : (seg.map qg_t).map qg_u = seg := by
  rw [List.map_map]
  have : ∀ e ∈ seg, (qg_u ∘ qg_t) e = id e := fun e he => (qg_tu e (by have := h e he; omega) (h e he).1).1
  rw [List.map_congr_left this, List.map_id]
/-- minus signs, in both piles -/
theorem qg_neg {base : List Nat} (hb : ∀ t, base.head? = some t → qg_rk t < 5) : ∀ (pl : List Nat) (ds : List (Nat × Nat)) (op : Nat), (∀ e ∈ pl, e = 2 ∨ e = 3 ∨ e = 4 ∨ e = 5 ∨ e = 6 ∨ e = 40) → qg_sc 7 (pl.map qg_t ++ base) ds op = ((qg_wh pl ds op).1.map qg_t ++ base, (qg_wh pl ds op).2.1, (qg_wh pl ds op).2.2)
  | [], ds, op, _ => by
    rw [List.map_nil, List.nil_append]
    exact qg_sc_no base (fun t ht => by have := hb t ht; omega)
  | e :: l, ds, op, h => by
    rw [List.map_cons, List.cons_append, show qg_sc 7 (qg_t e :: (l.map qg_t ++ base)) ds op = (if 7 ≤ qg_rk (qg_t e) then qg_sc 7 (l.map qg_t ++ base) ((qg_u (qg_t e), 0) :: ds) (if qg_on (qg_t e) then op - 1 else op) else (qg_t e :: (l.map qg_t ++ base), ds, op)) from rfl, show qg_wh (e :: l) ds op = (if e = 2 then qg_wh l ((2, 0) :: ds) (op - 1) else (e :: l, ds, op)) from rfl]
    by_cases q : e = 2
    · subst q
      rw [if_pos (by decide), if_pos rfl, show qg_on (qg_t 2) = true from rfl, if_pos rfl, show qg_u (qg_t 2) = 2 from rfl]
      exact qg_neg hb l _ _ (fun e he => h e (List.mem_cons_of_mem _ he))
    · have : qg_rk (qg_t e) < 7 := by
        rcases h e List.mem_cons_self with z | z | z | z | z | z
        · exact absurd z q
        all_goals subst z; decide
      rw [if_neg (by omega), if_neg q]
      rfl
/-- and what is left -/
theorem qg_wh_s : ∀ (pl : List Nat) (ds : List (Nat × Nat)) (op : Nat), qg_G 3 pl → qg_o pl ≤ op → qg_G 2 (qg_wh pl ds op).1 ∧ ∃ j, (qg_wh pl ds op).2.1 = qg_em (List.replicate j 2) ds ∧ (qg_wh pl ds op).2.2 = op - j ∧ qg_o (qg_wh pl ds op).1 + j = qg_o pl ∧ qg_br (qg_wh pl ds op).1 = qg_br pl ∧ qg_bi (qg_wh pl ds op).1 = qg_bi pl ∧ (qg_wh pl ds op).1.length + j = pl.length
  | [], ds, op, _, _ => ⟨trivial, 0, rfl, rfl, rfl, rfl, rfl, rfl⟩
  | e :: l, ds, op, h, ho => by
    have eo := qg_o_c e l
    have eb := qg_br_c e l
    have ei := qg_bi_c e l
    rw [show qg_wh (e :: l) ds op = (if e = 2 then qg_wh l ((2, 0) :: ds) (op - 1) else (e :: l, ds, op)) from rfl]
    by_cases q : e = 2
    · subst q
      rw [if_pos rfl]
      rw [if_pos (by decide)] at eo
      rw [if_neg (by decide)] at eb
      rw [if_neg (by decide)] at ei
      have hl : qg_G 3 l := by
        rcases h with ⟨a, b, c⟩ | ⟨a, b, c⟩ | ⟨a, b, c⟩ | ⟨a, c⟩
        · exact c
        · omega
        · omega
        · omega
      obtain ⟨g, j, j1, j2, j3, j4, j5, j6⟩ := qg_wh_s l ((2, 0) :: ds) (op - 1) hl (by omega)
      refine ⟨g, j + 1, ?_, by omega, by omega, by omega, by omega, by rw [List.length_cons]; omega⟩
      rw [j1]
      rfl
    · rw [if_neg q]
      refine ⟨?_, 0, rfl, rfl, rfl, rfl, rfl, rfl⟩
      rcases h with ⟨a, b, c⟩ | ⟨a, b, c⟩ | ⟨a, b, c⟩ | ⟨a, c⟩
      · exact absurd a q
      · exact Or.inr (Or.inl ⟨a, by omega, c⟩)
      · exact Or.inr (Or.inr (Or.inl ⟨a, by omega, c⟩))
      · exact Or.inr (Or.inr (Or.inr ⟨a, c⟩))
/-- values and truths: what the codes leave -/
def qg_rn : List (Nat × Nat) → Option (Nat × Nat)
  | [] => some (0, 0)
  | q :: l => (qg_rn l).bind (qi_sh q.1)
theorem qg_run_app : ∀ (l l' : List (Nat × Nat)) (s : Nat × Nat), qi_run (l ++ l') s = (qi_run l s).bind (qi_run l')
  | [], _, _ => rfl
  | q :: l, l', s => by
    rw [List.cons_append]
    unfold qi_run
    cases qi_sh q.1 s with
    | none => rfl
    | some s' => exact qg_run_app l l' s'
theorem qg_rn_run : ∀ l : List (Nat × Nat), qi_run l.reverse (0, 0) = qg_rn l
  | [] => rfl
  | q :: l => by
    rw [List.reverse_cons, qg_run_app, qg_rn_run l, show qg_rn (q :: l) = (qg_rn l).bind (qi_sh q.1) from rfl]
    congr 1
    funext s
    rw [show qi_run [q] s = (qi_sh q.1 s).bind (qi_run []) from rfl]
    cases qi_sh q.1 s <;> rfl
theorem qg_rn_neg {t a : Nat} : ∀ (j : Nat) (l : List (Nat × Nat)), 1 ≤ a → qg_rn l = some (a, t) → qg_rn (qg_em (List.replicate j 2) l) = some (a, t)
  | 0, _, _, h => h
  | j + 1, l, ha, h => by
    rw [List.replicate_succ]
    unfold qg_em
    refine qg_rn_neg j _ ha ?_
    rw [show qg_rn ((2, 0) :: l) = (qg_rn l).bind (qi_sh 2) from rfl, h]
    show qi_sh 2 (a, t) = _
    unfold qi_sh
    rw [if_neg (by decide), if_pos rfl, if_pos ha]
theorem qg_rn_bin {t : Nat} : ∀ (seg : List Nat) (l : List (Nat × Nat)) (a : Nat), (∀ e ∈ seg, 3 ≤ e ∧ e ≤ 6) → 1 + seg.length ≤ a → qg_rn l = some (a, t) → qg_rn (qg_em seg l) = some (a - seg.length, t)
  | [], _, _, _, _, h => h
  | e :: seg, l, a, he, ha, h => by
    rw [List.length_cons] at ha
    have e36 := he e List.mem_cons_self
    have := qg_rn_bin seg ((e, 0) :: l) (a - 1) (fun e' he' => he e' (List.mem_cons_of_mem _ he')) (by omega) (by
      rw [show qg_rn ((e, 0) :: l) = (qg_rn l).bind (qi_sh e) from rfl, h]
      show qi_sh e (a, t) = _
      unfold qi_sh
      rw [if_neg (by omega), if_neg (by omega), if_pos (by omega), if_pos (show 2 ≤ a by omega)])
    rw [show qg_em (e :: seg) l = qg_em seg ((e, 0) :: l) from rfl, this, List.length_cons]
    congr 2
    omega
