/-! THE HEART: what a law says -/
def ql_cl (v : Int) : Int := if 1000000 < v then 1000000 else if v < -1000000 then -1000000 else v
def ql_ar (o : Nat) (x y : Int) : Int := if o = 3 then ql_cl (x + y) else if o = 4 then ql_cl (x - y) else if o = 5 then ql_cl (x * y) else if y = 0 then 0 else x.tdiv y
def ql_cp (o : Nat) (x y : Int) : Bool := if o = 10 then decide (x < y) else if o = 11 then decide (x ≤ y) else if o = 12 then decide (y < x) else if o = 13 then decide (y ≤ x) else if o = 14 then decide (x = y) else decide (x ≠ y)
def ql_st (nm : Nat → Int) (q : Nat × Nat) (s : List Int × List Bool) : List Int × List Bool :=
  if q.1 = 0 then ((q.2 : Int) :: s.1, s.2)
  else if q.1 = 1 then (nm q.2 :: s.1, s.2)
  else if q.1 = 2 then (match s.1 with | x :: vs => (-x :: vs, s.2) | [] => s)
  else if q.1 < 10 then (match s.1 with | y :: x :: vs => (ql_ar q.1 x y :: vs, s.2) | _ => s)
  else if q.1 < 20 then (match s.1 with | y :: x :: vs => (vs, ql_cp q.1 x y :: s.2) | _ => s)
  else if q.1 = 20 then (match s.2 with | b :: ts => (s.1, (!b) :: ts) | [] => s)
  else if q.1 = 21 then (match s.2 with | c :: b :: ts => (s.1, (b && c) :: ts) | _ => s)
  else (match s.2 with | c :: b :: ts => (s.1, (b || c) :: ts) | _ => s)
def ql_ev (nm : Nat → Int) : List (Nat × Nat) → List Int × List Bool → List Int × List Bool
  | [], s => s
  | q :: l, s => ql_ev nm l (ql_st nm q s)
/-- all values are small -/
def ql_bd (vs : List Int) : Prop := ∀ x ∈ vs, -1000000 ≤ x ∧ x ≤ 1000000
theorem ql_cl_bd (v : Int) : -1000000 ≤ ql_cl v ∧ ql_cl v ≤ 1000000 := by
  unfold ql_cl
  split
  · omega
  · split <;> omega
theorem ql_tdiv_bd {x y : Int} (hx : -1000000 ≤ x ∧ x ≤ 1000000) : -1000000 ≤ x.tdiv y ∧ x.tdiv y ≤ 1000000 := by
  have h1 : (x.tdiv y).natAbs ≤ x.natAbs := by
    rw [Int.natAbs_tdiv]
    exact Nat.div_le_self _ _
  omega
theorem ql_ar_bd {o : Nat} {x y : Int} (hx : -1000000 ≤ x ∧ x ≤ 1000000) : -1000000 ≤ ql_ar o x y ∧ ql_ar o x y ≤ 1000000 := by
  unfold ql_ar
  split
  · exact ql_cl_bd _
  · split
    · exact ql_cl_bd _
    · split
      · exact ql_cl_bd _
      · split
        · omega
        · exact ql_tdiv_bd hx
/-- the shape of a state behind a code, and its bounds -/
theorem ql_step (nm : Nat → Int) {q : Nat × Nat} (hq : qi_okc q) (hn : q.1 = 1 → -1000000 ≤ nm q.2 ∧ nm q.2 ≤ 1000000) {vs : List Int} {ts : List Bool} (hb : ql_bd vs) {s' : Nat × Nat} (hs : qi_sh q.1 (vs.length, ts.length) = some s') : ql_bd (ql_st nm q (vs, ts)).1 ∧ s' = ((ql_st nm q (vs, ts)).1.length, (ql_st nm q (vs, ts)).2.length) := by
  unfold qi_sh at hs
  unfold ql_st
  rcases hq with ⟨h0, h1⟩ | ⟨h0, h1⟩ | ⟨h0, h1⟩
  · rw [h0] at hs ⊢
    simp only [Nat.zero_le, if_true] at hs ⊢
    split at hs
    · cases hs
      refine ⟨fun x hx => ?_, rfl⟩
      rcases List.mem_cons.mp hx with rfl | hx
      · omega
      · exact hb x hx
    · cases hs
  · rw [h0] at hs ⊢
    simp only [Nat.le_refl, if_true, Nat.one_ne_zero, if_false] at hs ⊢
    split at hs
    · cases hs
      refine ⟨fun x hx => ?_, rfl⟩
      rcases List.mem_cons.mp hx with rfl | hx
      · exact hn h0
      · exact hb x hx
    · cases hs
  · rw [if_neg (by omega)] at hs
    rw [if_neg (by omega), if_neg (by omega)]
    by_cases h2 : q.1 = 2
    · rw [if_pos h2] at hs ⊢
      dsimp only at hs ⊢
      split at hs
      · cases hs
        match vs, hb with
        | [], _ => rename_i hc; simp at hc
        | x :: vs, hb =>
          refine ⟨fun z hz => ?_, rfl⟩
          rcases List.mem_cons.mp hz with rfl | hz
          · have := hb x List.mem_cons_self
            omega
          · exact hb z (List.mem_cons_of_mem _ hz)
      · cases hs
    · rw [if_neg h2] at hs ⊢
      by_cases h3 : q.1 < 10
      · rw [if_pos h3] at hs ⊢
        dsimp only at hs ⊢
        split at hs
        · cases hs
          match vs, hb with
          | [], _ => rename_i hc; simp at hc
          | [_], _ => rename_i hc; simp at hc
          | y :: x :: vs, hb =>
            refine ⟨fun z hz => ?_, rfl⟩
            rcases List.mem_cons.mp hz with rfl | hz
            · exact ql_ar_bd (hb x (List.mem_cons_of_mem _ List.mem_cons_self))
            · exact hb z (List.mem_cons_of_mem _ (List.mem_cons_of_mem _ hz))
        · cases hs
      · rw [if_neg h3] at hs ⊢
        by_cases h4 : q.1 < 20
        · rw [if_pos h4] at hs ⊢
          dsimp only at hs ⊢
          split at hs
          · cases hs
            match vs, hb with
            | [], _ => rename_i hc; simp at hc
            | [_], _ => rename_i hc; simp at hc
            | y :: x :: vs, hb =>
              rename_i hc
              have hv : vs = [] := by simpa using hc
              subst hv
              exact ⟨fun z hz => (nomatch hz), rfl⟩
          · cases hs
        · rw [if_neg h4] at hs ⊢
          by_cases h5 : q.1 = 20
          · rw [if_pos h5] at hs ⊢
            dsimp only at hs ⊢
            split at hs
            · cases hs
              match ts with
              | [] => rename_i hc; simp at hc
              | b :: ts => exact ⟨hb, rfl⟩
            · cases hs
          · rw [if_neg h5] at hs ⊢
            dsimp only at hs ⊢
            split at hs
            · rename_i hc
              cases hs
              match ts with
              | [] => simp at hc
              | [_] => simp at hc
              | c :: b :: ts =>
                have hv : vs = [] := by simpa using hc.1
                subst hv
                by_cases h6 : q.1 = 21
                · rw [if_pos h6]
                  exact ⟨hb, rfl⟩
                · rw [if_neg h6]
                  exact ⟨hb, rfl⟩
            · cases hs
/-- a stack of longs: the top lies at the place of how many lie below it -/
def ql_sv (f : Nat → Int64) : List Int → Prop
  | [] => True
  | x :: vs => (f vs.length).toInt = x ∧ ql_sv f vs
def ql_sb (f : Nat → Int32) : List Bool → Prop
  | [] => True
  | b :: ts => f ts.length = qs_b b ∧ ql_sb f ts
def ql_si (f : Nat → Int32) (o : Nat) : List Int → Prop
  | [] => True
  | x :: vs => (f (o + vs.length)).toInt = x ∧ ql_si f o vs
theorem ql_sv_up {f : Nat → Int64} {j : Nat} {v : Int64} : ∀ {vs : List Int}, vs.length ≤ j → ql_sv f vs → ql_sv (vp_updL f j v) vs
  | [], _, _ => trivial
  | x :: vs, hj, h => by
    rw [List.length_cons] at hj
    refine ⟨?_, ql_sv_up (by omega) h.2⟩
    rw [pk_uLn (by omega)]
    exact h.1
theorem ql_sb_up {f : Nat → Int32} {j : Nat} {v : Int32} : ∀ {ts : List Bool}, ts.length ≤ j → ql_sb f ts → ql_sb (upd f j v) ts
  | [], _, _ => trivial
  | x :: vs, hj, h => by
    rw [List.length_cons] at hj
    refine ⟨?_, ql_sb_up (by omega) h.2⟩
    rw [pk_un (by omega)]
    exact h.1
theorem ql_si_up {f : Nat → Int32} {o j : Nat} {v : Int32} : ∀ {vs : List Int}, o + vs.length ≤ j → ql_si f o vs → ql_si (upd f j v) o vs
  | [], _, _ => trivial
  | x :: vs, hj, h => by
    rw [List.length_cons] at hj
    refine ⟨?_, ql_si_up (by omega) h.2⟩
    rw [pk_un (by omega)]
    exact h.1
