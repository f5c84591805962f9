/-! WHAT A HEAP OF THE ABSTRACT MACHINE IS IN THE REAL ONE: cell i lies at B + i -/
def am_v (B : Nat) (sa : Nat → Nat) : Value → Value
  | .ref k => .ref (B + k)
  | .retAddr k => .ref (sa k)
  | v => v
def am_fv (B : Nat) (kd : Nat → Nat) (rs : List (Option Nat)) (hi : Nat → Int32) (gi : Nat → Int64) (k : Nat) : Value := match kd k with
  | 0 => .int (hi k)
  | 1 => .int (hi k)
  | 2 => .long (gi k)
  | _ => va_rf ((rs.getD k none).map (fun j => B + j))
def am_e (B : Nat) (Kf : Nat → Nat → Nat) (aC : Nat → ClassId) (c : am_C) (hi : Nat → Int32) (gi : Nat → Int64) : va_E := match c.1 with
  | 0 => .inl (aC 0, c.2.1, .inl hi)
  | 1 => .inl (aC 1, c.2.1, .inl hi)
  | 2 => .inl (aC 2, c.2.1, .inr (.inl gi))
  | 3 => .inl (aC 3, c.2.1, .inr (.inr (.inr (.inr (fun j => (c.2.2.getD j none).map (fun q => B + q))))))
  | ci + 4 => .inr (ci, (List.range c.2.1).map (am_fv B (Kf ci) c.2.2 hi gi))
def am_ws (B Tk : Nat) (Kf : Nat → Nat → Nat) (aC : Nat → ClassId) (S : am_S) : va_W := S.1.mapIdx (fun i c => (B + i, am_e B Kf aC c (am_h Tk S i) (S.2.2.2 i)))
section AMW
variable {B Tk : Nat} {Kf : Nat → Nat → Nat} {aC : Nat → ClassId}
theorem am_ws_get (S : am_S) (i : Nat) : (am_ws B Tk Kf aC S)[i]? = (S.1[i]?).map (fun c => (B + i, am_e B Kf aC c (am_h Tk S i) (S.2.2.2 i))) := by
  unfold am_ws
  rw [List.getElem?_mapIdx]
theorem am_ws_at {S : am_S} {i : Nat} {c : am_C} (h : S.1[i]? = some c) : (am_ws B Tk Kf aC S)[i]? = some (B + i, am_e B Kf aC c (am_h Tk S i) (S.2.2.2 i)) := by
  rw [am_ws_get, h]; rfl
theorem am_ws_inv {S : am_S} {i : Nat} {q : Nat × va_E} (h : (am_ws B Tk Kf aC S)[i]? = some q) : ∃ c, S.1[i]? = some c ∧ q = (B + i, am_e B Kf aC c (am_h Tk S i) (S.2.2.2 i)) := by
  rw [am_ws_get] at h
  cases hc : S.1[i]? with
  | none => rw [hc] at h; cases h
  | some c => rw [hc] at h; exact ⟨c, rfl, (Option.some.inj h).symm⟩
theorem am_ws_D (S : am_S) : va_D (fun q : Nat => B ≤ q) (am_ws B Tk Kf aC S) := by
  refine ⟨fun i j p q hp hq e => ?_, fun k q h => ?_⟩
  · obtain ⟨c, -, rfl⟩ := am_ws_inv hp
    obtain ⟨c', -, rfl⟩ := am_ws_inv hq
    dsimp only at e
    omega
  · obtain ⟨c, -, rfl⟩ := am_ws_inv h
    exact Nat.le_add_right _ _
theorem am_blt (i n : Nat) : Nat.blt i n = decide (i < n) := by
  by_cases h : i < n
  · rw [decide_eq_true h]; exact Nat.blt_eq.mpr h
  · rw [decide_eq_false h]
    cases hb : Nat.blt i n with
    | false => rfl
    | true => exact absurd (Nat.blt_eq.mp hb) h
theorem am_beq {i n : Nat} (h : Nat.beq i n = true) : i = n := Nat.eq_of_beq_eq_true h
theorem am_h_w (S : am_S) (i k : Nat) (f : Nat → Int32) : am_h Tk (am_w Tk S i f) k = if k = i then f else am_h Tk S k := by
  unfold am_h am_w
  simp only [am_blt, cond_eq_ite, decide_eq_true_eq]
  by_cases hi : i < Tk <;> by_cases hk : k < Tk <;> by_cases he : k = i <;> simp [hi, hk, he, va_up] <;> omega
theorem am_w_1 (S : am_S) (i : Nat) (f : Nat → Int32) : (am_w Tk S i f).1 = S.1 := by
  unfold am_w; cases Nat.blt i Tk <;> rfl
theorem am_w_4 (S : am_S) (i : Nat) (f : Nat → Int32) : (am_w Tk S i f).2.2.2 = S.2.2.2 := by
  unfold am_w; cases Nat.blt i Tk <;> rfl
theorem am_ws_w {S : am_S} {i : Nat} {c : am_C} (hc : S.1[i]? = some c) (f : Nat → Int32) : am_ws B Tk Kf aC (am_w Tk S i f) = (am_ws B Tk Kf aC S).set i (B + i, am_e B Kf aC c f (S.2.2.2 i)) := by
  apply List.ext_getElem?
  intro k
  rw [am_ws_get, List.getElem?_set, am_w_1, am_w_4, am_h_w]
  by_cases he : i = k
  · subst he
    have hl : i < (am_ws B Tk Kf aC S).length := by unfold am_ws; rw [List.length_mapIdx]; exact (List.getElem?_eq_some_iff.mp hc).1
    simp [hc, hl]
  · rw [if_neg he, if_neg (fun h => he h.symm), am_ws_get]
theorem am_ws_wl {S : am_S} {i : Nat} {c : am_C} (hc : S.1[i]? = some c) (f : Nat → Int64) : am_ws B Tk Kf aC (am_wl S i f) = (am_ws B Tk Kf aC S).set i (B + i, am_e B Kf aC c (am_h Tk S i) f) := by
  apply List.ext_getElem?
  intro k
  rw [am_ws_get, List.getElem?_set]
  have h1 : (am_wl S i f).1 = S.1 := rfl
  have h2 : am_h Tk (am_wl S i f) k = am_h Tk S k := rfl
  have h3 : (am_wl S i f).2.2.2 k = if k = i then f else S.2.2.2 k := rfl
  rw [h1, h2, h3]
  by_cases he : i = k
  · subst he
    have hl : i < (am_ws B Tk Kf aC S).length := by unfold am_ws; rw [List.length_mapIdx]; exact (List.getElem?_eq_some_iff.mp hc).1
    simp [hc, hl]
  · rw [if_neg he, if_neg (fun h => he h.symm), am_ws_get]
theorem am_ws_s {S : am_S} {i : Nat} {c : am_C} (hc : S.1[i]? = some c) (c' : am_C) : am_ws B Tk Kf aC (S.1.set i c', S.2) = (am_ws B Tk Kf aC S).set i (B + i, am_e B Kf aC c' (am_h Tk S i) (S.2.2.2 i)) := by
  apply List.ext_getElem?
  intro k
  rw [am_ws_get, List.getElem?_set]
  have h2 : am_h Tk (S.1.set i c', S.2) k = am_h Tk S k := rfl
  rw [h2]
  have hi : i < S.1.length := (List.getElem?_eq_some_iff.mp hc).1
  by_cases he : i = k
  · subst he
    have hl : i < (am_ws B Tk Kf aC S).length := by unfold am_ws; rw [List.length_mapIdx]; exact hi
    simp [hi, hl]
  · rw [if_neg he, List.getElem?_set, if_neg he, am_ws_get]
theorem am_ws_new (S : am_S) (c : am_C) : am_ws B Tk Kf aC (am_new Tk S c) = am_ws B Tk Kf aC S ++ [(B + S.1.length, am_e B Kf aC c (fun _ => 0) (fun _ => 0))] := by
  apply List.ext_getElem?
  intro k
  have hlen : (am_ws B Tk Kf aC S).length = S.1.length := by unfold am_ws; rw [List.length_mapIdx]
  have h1 : (am_new Tk S c).1 = S.1 ++ [c] := rfl
  have h3 : (am_new Tk S c).2.2.2 k = if k = S.1.length then (fun _ => 0) else S.2.2.2 k := rfl
  have h2 : am_h Tk (am_new Tk S c) k = if k = S.1.length then (fun _ => 0) else am_h Tk S k := by
    unfold am_h am_new
    simp only [am_blt, cond_eq_ite, decide_eq_true_eq]
    by_cases hi : S.1.length < Tk <;> by_cases hk : k < Tk <;> by_cases he : k = S.1.length <;> simp [hi, hk, he, va_up] <;> omega
  rw [am_ws_get, h1, h2, h3]
  rcases Nat.lt_trichotomy k S.1.length with h | h | h
  · rw [List.getElem?_append_left h, List.getElem?_append_left (by rw [hlen]; exact h), am_ws_get, if_neg (by omega), if_neg (by omega)]
  · subst h
    rw [List.getElem?_append_right (Nat.le_refl _), List.getElem?_append_right (by rw [hlen]; exact Nat.le_refl _), hlen, if_pos rfl, if_pos rfl]
    simp
  · rw [List.getElem?_append_right (by omega), List.getElem?_append_right (by rw [hlen]; omega), hlen]
    have e : k - S.1.length = (k - S.1.length - 1) + 1 := by omega
    rw [e]; rfl
theorem am_ws_len (S : am_S) : (am_ws B Tk Kf aC S).length = S.1.length := by unfold am_ws; rw [List.length_mapIdx]
/-- an int into a field -/
theorem am_fs_int {kd : Nat → Nat} {rs : List (Option Nat)} {hi : Nat → Int32} {gi : Nat → Int64} {n k : Nat} (hk : kd k = 0 ∨ kd k = 1) (x : Int32) :
    ((List.range n).map (am_fv B kd rs hi gi)).set k (.int x) = (List.range n).map (am_fv B kd rs (upd hi k x) gi) := by
  apply List.ext_getElem?
  intro j
  rw [List.getElem?_set, List.getElem?_map, List.getElem?_map]
  by_cases he : k = j
  · subst he
    by_cases hl : k < n
    · rcases hk with hk | hk <;> simp [hl, am_fv, hk, upd]
    · simp [hl]
  · rw [if_neg he]
    by_cases hl : j < n
    · have : upd hi k x j = hi j := if_neg (fun q => he q.symm)
      simp [hl, am_fv, this]
    · simp [hl]
theorem am_fs_long {kd : Nat → Nat} {rs : List (Option Nat)} {hi : Nat → Int32} {gi : Nat → Int64} {n k : Nat} (hk : kd k = 2) (x : Int64) :
    ((List.range n).map (am_fv B kd rs hi gi)).set k (.long x) = (List.range n).map (am_fv B kd rs hi (vp_updL gi k x)) := by
  apply List.ext_getElem?
  intro j
  rw [List.getElem?_set, List.getElem?_map, List.getElem?_map]
  by_cases he : k = j
  · subst he
    by_cases hl : k < n
    · simp [hl, am_fv, hk, vp_updL]
    · simp [hl]
  · rw [if_neg he]
    by_cases hl : j < n
    · have : vp_updL gi k x j = gi j := if_neg (fun q => he q.symm)
      simp [hl, am_fv, this]
    · simp [hl]
theorem am_fs_ref {kd : Nat → Nat} {rs : List (Option Nat)} {hi : Nat → Int32} {gi : Nat → Int64} {n k : Nat} (hk : kd k = 3) (hr : k < rs.length) (j0 : Nat) :
    ((List.range n).map (am_fv B kd rs hi gi)).set k (.ref (B + j0)) = (List.range n).map (am_fv B kd (rs.set k (some j0)) hi gi) := by
  apply List.ext_getElem?
  intro j
  rw [List.getElem?_set, List.getElem?_map, List.getElem?_map]
  by_cases he : k = j
  · subst he
    by_cases hl : k < n
    · simp [hl, am_fv, hk, hr, va_rf]
    · simp [hl]
  · rw [if_neg he]
    by_cases hl : j < n
    · have : (rs.set k (some j0)).getD j none = rs.getD j none := by
        rw [List.getD_eq_getElem?_getD, List.getD_eq_getElem?_getD, List.getElem?_set, if_neg he]
      simp only [List.getElem?_range hl, Option.map_some, am_fv, this]
    · simp [hl]
end AMW
/-- values at the real machine -/
theorem am_v_cat (B : Nat) (sa : Nat → Nat) (v : Value) : (am_v B sa v).category = v.category := by cases v <;> rfl
theorem am_cat_map (B : Nat) (sa : Nat → Nat) (st : List Value) : ((st.map (am_v B sa)).map fun v => v.category).sum = am_cat st := by
  unfold am_cat
  rw [List.map_map]
  congr 1
  exact List.map_congr_left (fun v _ => am_v_cat B sa v)
def am_lm (B : Nat) (sa : Nat → Nat) (lv : am_L) : am_L := lv.map (fun q => (q.1, am_v B sa q.2))
theorem am_loc_mem {i : Nat} {v : Value} : ∀ {lv : am_L}, am_loc i lv = some v → (i, v) ∈ lv
  | [], h => by cases h
  | q :: l, h => by
    unfold am_loc at h
    cases hb : Nat.beq q.1 i with
    | true =>
      rw [hb] at h
      have e : q.2 = v := Option.some.inj h
      have e1 := am_beq hb
      subst e; subst e1
      exact List.mem_cons_self
    | false =>
      rw [hb] at h
      exact List.mem_cons_of_mem _ (am_loc_mem h)
theorem am_loc_at {B nL i : Nat} {sa : Nat → Nat} {v : Value} {lv : am_L} {ls : Array Slot} (hl : lv_has ls nL (am_lm B sa lv)) (h : am_loc i lv = some v) : ls[i]? = some (.val (am_v B sa v)) :=
  hl.2.2 (i, am_v B sa v) (List.mem_map.mpr ⟨(i, v), am_loc_mem h, rfl⟩)
theorem am_st1_map (B : Nat) (sa : Nat → Nat) (lv : am_L) (i : Nat) (v : Value) : (i, am_v B sa v) :: (am_lm B sa lv).filter (fun q => !(q.1 == i) && !(q.1 + 1 == i && q.2.category == 2)) = am_lm B sa (am_st1 lv i v) := by
  unfold am_st1 am_lm
  rw [List.map_cons, List.filter_map]
  congr 2
  apply List.filter_congr
  intro q _
  simp [Function.comp, am_v_cat]
theorem am_st2_map (B : Nat) (sa : Nat → Nat) (lv : am_L) (i : Nat) (v : Value) : (i, am_v B sa v) :: (am_lm B sa lv).filter (fun q => !(q.1 == i) && (!(q.1 == i + 1) && !(q.1 + 1 == i && q.2.category == 2))) = am_lm B sa (am_st2 lv i v) := by
  unfold am_st2 am_lm
  rw [List.map_cons, List.filter_map]
  congr 2
  apply List.filter_congr
  intro q _
  simp [Function.comp, am_v_cat]
