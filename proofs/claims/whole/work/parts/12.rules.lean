/-! RULES: a run by its pieces -/
def am_stp (Tk : Nat) (Xs : Nat × (Nat → Int32)) (M : am_M) (F : am_F) (S : am_S) : Option am_A := match am_find F.1 M.2.2.2.2.2.2 with
  | none => none
  | some E => am_step Tk Xs M.2.2.1 M.2.2.2.2.1 E F.2.1 F.2.2 S
/-- k steps that go on -/
def am_run (Tk : Nat) (Xs : Nat × (Nat → Int32)) (M : am_M) : Nat → am_F → am_S → Option (am_F × am_S)
  | 0, F, S => some (F, S)
  | k + 1, F, S => match am_stp Tk Xs M F S with
    | some (.inl (F', S')) => am_run Tk Xs M k F' S'
    | _ => none
section AMN
variable {Tk : Nat} {Xs : Nat × (Nat → Int32)} {P : Nat → Option am_M}
theorem am_ax_nx {n d mi : Nat} {M : am_M} {F F' : am_F} {S S' : am_S} (hM : P mi = some M) (h : am_stp Tk Xs M F S = some (.inl (F', S'))) : am_ax Tk Xs P (n + 1) d mi F S = am_ax Tk Xs P n d mi F' S' := by
  unfold am_stp at h
  show (match P mi with
    | none => none
    | some M => _) = _
  rw [hM]
  dsimp only
  cases hf : am_find F.1 M.2.2.2.2.2.2 with
  | none => rw [hf] at h; cases h
  | some E => rw [hf] at h; dsimp only at h ⊢; rw [h]
theorem am_ax_rt {n d mi : Nat} {M : am_M} {F : am_F} {S : am_S} {r : Option Value} (hM : P mi = some M) (h : am_stp Tk Xs M F S = some (.inr (.inr r))) : am_ax Tk Xs P (n + 1) d mi F S = some (r, S) := by
  unfold am_stp at h
  show (match P mi with
    | none => none
    | some M => _) = _
  rw [hM]
  dsimp only
  cases hf : am_find F.1 M.2.2.2.2.2.2 with
  | none => rw [hf] at h; cases h
  | some E => rw [hf] at h; dsimp only at h ⊢; rw [h]
theorem am_ax_cl {n d mi mj : Nat} {M M' : am_M} {F F' : am_F} {S : am_S} {As : List Value} (hM : P mi = some M) (h : am_stp Tk Xs M F S = some (.inr (.inl (mj, As, F')))) (hM' : P mj = some M') (hc : Nat.ble (am_cat As) M'.2.2.1 = true) :
    am_ax Tk Xs P (n + 1) (d + 1) mi F S = (match am_ax Tk Xs P n d mj (0, lv_args 0 As, []) S with
      | none => none
      | some (r, S') => am_ax Tk Xs P n (d + 1) mi (F'.1, F'.2.1, r.toList ++ F'.2.2) S') := by
  unfold am_stp at h
  show (match P mi with
    | none => none
    | some M => _) = _
  rw [hM]
  dsimp only
  cases hf : am_find F.1 M.2.2.2.2.2.2 with
  | none => rw [hf] at h; cases h
  | some E => rw [hf] at h; dsimp only at h ⊢; rw [h]; dsimp only; rw [hM']; dsimp only; rw [hc]; rfl
theorem am_ax_inv {n d mi : Nat} {F : am_F} {S : am_S} {R : Option Value × am_S} (h : am_ax Tk Xs P (n + 1) d mi F S = some R) : ∃ M, P mi = some M ∧ ((∃ F' S', am_stp Tk Xs M F S = some (.inl (F', S')) ∧ am_ax Tk Xs P n d mi F' S' = some R) ∨ (∃ r, am_stp Tk Xs M F S = some (.inr (.inr r)) ∧ R = (r, S)) ∨
    (∃ d' mj As F' M' r S1, d = d' + 1 ∧ am_stp Tk Xs M F S = some (.inr (.inl (mj, As, F'))) ∧ P mj = some M' ∧ Nat.ble (am_cat As) M'.2.2.1 = true ∧ am_ax Tk Xs P n d' mj (0, lv_args 0 As, []) S = some (r, S1) ∧ am_ax Tk Xs P n (d' + 1) mi (F'.1, F'.2.1, r.toList ++ F'.2.2) S1 = some R)) := by
  unfold am_ax at h
  cases hM : P mi with
  | none => rw [hM] at h; cases h
  | some M =>
    rw [hM] at h
    dsimp only at h
    refine ⟨M, rfl, ?_⟩
    unfold am_stp
    cases hf : am_find F.1 M.2.2.2.2.2.2 with
    | none => rw [hf] at h; cases h
    | some E =>
      rw [hf] at h
      dsimp only at h ⊢
      cases hst : am_step Tk Xs M.2.2.1 M.2.2.2.2.1 E F.2.1 F.2.2 S with
      | none => rw [hst] at h; cases h
      | some A =>
        rw [hst] at h
        rcases A with ⟨F', S1⟩ | ⟨mj, As, F'⟩ | r'
        · exact Or.inl ⟨F', S1, rfl, h⟩
        · cases d with
          | zero =>
            have h : (none : Option (Option Value × am_S)) = some R := h
            cases h
          | succ d' =>
            have h : (match P mj with
              | none => none
              | some M' => bif Nat.ble (am_cat As) M'.2.2.1 then (match am_ax Tk Xs P n d' mj (0, lv_args 0 As, []) S with
                | none => none
                | some (r, S') => am_ax Tk Xs P n (d' + 1) mi (F'.1, F'.2.1, r.toList ++ F'.2.2) S') else none) = some R := h
            cases hM' : P mj with
            | none => rw [hM'] at h; cases h
            | some M' =>
              rw [hM'] at h
              dsimp only at h
              cases hcat : Nat.ble (am_cat As) M'.2.2.1 with
              | false => rw [hcat] at h; cases h
              | true =>
                rw [hcat] at h
                cases hc : am_ax Tk Xs P n d' mj (0, lv_args 0 As, []) S with
                | none => rw [hc] at h; cases h
                | some rs =>
                  obtain ⟨r1, S1⟩ := rs
                  rw [hc] at h
                  exact Or.inr (Or.inr ⟨d', mj, As, F', M', r1, S1, rfl, rfl, hM', hcat, hc, h⟩)
        · have h : some (r', S) = some R := h
          exact Or.inr (Or.inl ⟨r', rfl, (Option.some.inj h).symm⟩)
theorem am_ax_mono : ∀ {n n' d d' mi : Nat} {F : am_F} {S : am_S} {R : Option Value × am_S}, am_ax Tk Xs P n d mi F S = some R → n ≤ n' → d ≤ d' → am_ax Tk Xs P n' d' mi F S = some R
  | 0, _, _, _, _, _, _, _, h, _, _ => by cases h
  | n + 1, 0, _, _, _, _, _, _, _, h, _ => by omega
  | n + 1, n' + 1, d, d', mi, F, S, R, h, hn, hd => by
    obtain ⟨M, hM, ⟨F', S', h1, h2⟩ | ⟨r, h1, rfl⟩ | ⟨d1, mj, As, F', M', r, S1, rfl, h1, hM', hc, h2, h3⟩⟩ := am_ax_inv h
    · rw [am_ax_nx hM h1]
      exact am_ax_mono h2 (by omega) hd
    · rw [am_ax_rt hM h1]
    · obtain ⟨d2, rfl⟩ : ∃ k, d' = k + 1 := ⟨d' - 1, by omega⟩
      rw [am_ax_cl hM h1 hM' hc, am_ax_mono (n' := n') (d' := d2) h2 (by omega) (by omega)]
      exact am_ax_mono h3 (by omega) (by omega)
theorem am_stp_le {M : am_M} {pc : Nat} {lv0 lv : am_L} {st : List Value} {S : am_S} {A0 : am_A} (hle : am_le lv0 lv) (h : am_stp Tk Xs M (pc, lv0, st) S = some A0) : ∃ A, am_stp Tk Xs M (pc, lv, st) S = some A ∧ am_leA A0 A := by
  unfold am_stp at h ⊢
  dsimp only at h ⊢
  cases hf : am_find pc M.2.2.2.2.2.2 with
  | none => rw [hf] at h; cases h
  | some E => rw [hf] at h; exact am_step_le hle h
theorem am_ax_le : ∀ {n d mi pc : Nat} {lv0 lv : am_L} {st : List Value} {S : am_S} {R : Option Value × am_S}, am_le lv0 lv → am_ax Tk Xs P n d mi (pc, lv0, st) S = some R → am_ax Tk Xs P n d mi (pc, lv, st) S = some R
  | 0, _, _, _, _, _, _, _, _, _, h => by cases h
  | n + 1, d, mi, pc, lv0, lv, st, S, R, hle, h => by
    obtain ⟨M, hM, ⟨F', S', h1, h2⟩ | ⟨r, h1, rfl⟩ | ⟨d1, mj, As, F', M', r, S1, rfl, h1, hM', hc, h2, h3⟩⟩ := am_ax_inv h
    · obtain ⟨A, hA, hl⟩ := am_stp_le hle h1
      rcases A with ⟨F1, S1⟩ | ⟨mj, As, F1⟩ | r'
      · obtain ⟨e1, e2, e3, e4⟩ := hl
        obtain ⟨pc', l', st'⟩ := F'
        obtain ⟨pc1, l1, st1⟩ := F1
        dsimp only at e1 e2 e3 e4
        subst e1; subst e2; subst e3
        rw [am_ax_nx hM hA]
        exact am_ax_le e4 h2
      · cases hl
      · cases hl
    · obtain ⟨A, hA, hl⟩ := am_stp_le hle h1
      rcases A with ⟨F1, S1⟩ | ⟨mj, As, F1⟩ | r'
      · cases hl
      · cases hl
      · have hl : r' = r := hl
        subst hl
        rw [am_ax_rt hM hA]
    · obtain ⟨A, hA, hl⟩ := am_stp_le hle h1
      rcases A with ⟨F1, S1'⟩ | ⟨mj1, As1, F1⟩ | r'
      · cases hl
      · obtain ⟨e0, e0', e1, e2, e4⟩ := hl
        obtain ⟨pc', l', st'⟩ := F'
        obtain ⟨pc1, l1, st1⟩ := F1
        dsimp only at e1 e2 e4
        subst e0; subst e0'; subst e1; subst e2
        rw [am_ax_cl hM hA hM' hc, h2]
        exact am_ax_le e4 h3
      · cases hl
/-- a run that comes to R -/
def am_Rn (Tk : Nat) (Xs : Nat × (Nat → Int32)) (P : Nat → Option am_M) (d mi : Nat) (F : am_F) (S : am_S) (R : Option Value × am_S) : Prop := ∃ n, am_ax Tk Xs P n d mi F S = some R
/-- a call that comes to R -/
def am_Ev (Tk : Nat) (Xs : Nat × (Nat → Int32)) (P : Nat → Option am_M) (d mi : Nat) (As : List Value) (S : am_S) (R : Option Value × am_S) : Prop := am_Rn Tk Xs P d mi (0, lv_args 0 As, []) S R
variable {d mi : Nat} {M : am_M} {F : am_F} {S : am_S} {R : Option Value × am_S}
theorem am_Rn.deep {d' : Nat} (h : am_Rn Tk Xs P d mi F S R) (hd : d ≤ d') : am_Rn Tk Xs P d' mi F S R := by
  obtain ⟨n, hn⟩ := h
  exact ⟨n, am_ax_mono hn (Nat.le_refl _) hd⟩
theorem am_Rn.step (hM : P mi = some M) {F' : am_F} {S' : am_S} (h : am_stp Tk Xs M F S = some (.inl (F', S'))) (k : am_Rn Tk Xs P d mi F' S' R) : am_Rn Tk Xs P d mi F S R := by
  obtain ⟨n, hn⟩ := k
  exact ⟨n + 1, by rw [am_ax_nx hM h]; exact hn⟩
theorem am_Rn.run (hM : P mi = some M) : ∀ (k : Nat) {F F' : am_F} {S S' : am_S}, am_run Tk Xs M k F S = some (F', S') → am_Rn Tk Xs P d mi F' S' R → am_Rn Tk Xs P d mi F S R
  | 0, _, _, _, _, h, k => by cases h; exact k
  | j + 1, F, F', S, S', h, k => by
    unfold am_run at h
    cases hs : am_stp Tk Xs M F S with
    | none => rw [hs] at h; cases h
    | some A =>
      rw [hs] at h
      rcases A with ⟨F1, S1⟩ | A
      · exact am_Rn.step hM hs (am_Rn.run hM j h k)
      · cases h
theorem am_Rn.ret (hM : P mi = some M) {r : Option Value} (h : am_stp Tk Xs M F S = some (.inr (.inr r))) : am_Rn Tk Xs P d mi F S (r, S) := ⟨1, am_ax_rt hM h⟩
theorem am_Rn.call (hM : P mi = some M) {mj : Nat} {As : List Value} {F' : am_F} {M' : am_M} {r : Option Value} {S1 : am_S} (h : am_stp Tk Xs M F S = some (.inr (.inl (mj, As, F')))) (hM' : P mj = some M') (hc : Nat.ble (am_cat As) M'.2.2.1 = true) (he : am_Ev Tk Xs P d mj As S (r, S1))
    (k : am_Rn Tk Xs P (d + 1) mi (F'.1, F'.2.1, r.toList ++ F'.2.2) S1 R) : am_Rn Tk Xs P (d + 1) mi F S R := by
  obtain ⟨n1, h1⟩ := he
  obtain ⟨n2, h2⟩ := k
  refine ⟨n1 + n2 + 1, ?_⟩
  rw [am_ax_cl hM h hM' hc, am_ax_mono h1 (Nat.le_add_right n1 n2) (Nat.le_refl d)]
  exact am_ax_mono h2 (Nat.le_add_left n2 n1) (Nat.le_refl _)
theorem am_Rn.sub {pc : Nat} {lv lv0 : am_L} {st : List Value} (ks : List Nat) (h : lv_pick lv ks = lv0) (hn : am_nd lv = true) (k : am_Rn Tk Xs P d mi (pc, lv0, st) S R) : am_Rn Tk Xs P d mi (pc, lv, st) S R := by
  obtain ⟨n, h1⟩ := k
  refine ⟨n, am_ax_le ⟨fun q hq => ?_, hn⟩ h1⟩
  rw [← h] at hq
  obtain ⟨i, -, hi⟩ := List.mem_filterMap.mp hq
  exact List.mem_of_getElem? hi
theorem am_Rn.br (hM : P mi = some M) {c : Prop} [Decidable c] {t f : Nat} {lv : am_L} {st : List Value} {S' : am_S} (h : am_stp Tk Xs M F S = some (.inl ((if c then t else f, lv, st), S'))) (kt : c → am_Rn Tk Xs P d mi (t, lv, st) S' R) (kf : ¬ c → am_Rn Tk Xs P d mi (f, lv, st) S' R) : am_Rn Tk Xs P d mi F S R := by
  refine am_Rn.step hM h ?_
  by_cases hc : c
  · rw [if_pos hc]; exact kt hc
  · rw [if_neg hc]; exact kf hc
end AMN
/-! the words of the printed functions -/
def am_b {α β : Type} (e : α) (k : α → β) : β := k e
theorem am_b_e {α β : Type} {e : α} {k : α → β} {R : β} (h : am_b e k = R) : ∃ v, v = e ∧ k v = R := ⟨e, rfl, h⟩
theorem am_bind {α β : Type} {x : Option α} {k : α → Option β} {R : β} (h : x.bind k = some R) : ∃ r, x = some r ∧ k r = some R := by
  cases x with
  | none => cases h
  | some r => exact ⟨r, rfl, h⟩
/-- an index that must lie in a row of n places -/
def am_ix {β : Type} (n : Nat) (j : Int32) (k : Option β) : Option β := if j < 0 ∨ n ≤ j.toNatClampNeg then none else k
theorem am_ix_e {β : Type} {n : Nat} {j : Int32} {k : Option β} {R : β} (h : am_ix n j k = some R) : ¬ (j < 0 ∨ n ≤ j.toNatClampNeg) ∧ k = some R := by
  unfold am_ix at h
  split at h
  · cases h
  · rename_i hj; exact ⟨hj, h⟩
/-- what must not hold -/
def am_no {β : Type} (c : Prop) [Decidable c] (k : Option β) : Option β := if c then none else k
theorem am_no_e {β : Type} {c : Prop} [Decidable c] {k : Option β} {R : β} (h : am_no c k = some R) : ¬ c ∧ k = some R := by
  unfold am_no at h
  split at h
  · cases h
  · rename_i hj; exact ⟨hj, h⟩
/-- how often a loop may go round -/
def am_N : Nat := 1000000
theorem am_five {j : Int32} (h : ¬ (j < 0 ∨ 5 ≤ j.toNatClampNeg)) : j = 0 ∨ j = 1 ∨ j = 2 ∨ j = 3 ∨ j = 4 := by
  obtain ⟨k, hk, rfl⟩ := vp_in_of (n := 5) h (by decide)
  rcases (show k = 0 ∨ k = 1 ∨ k = 2 ∨ k = 3 ∨ k = 4 by omega) with rfl | rfl | rfl | rfl | rfl
  · exact Or.inl rfl
  · exact Or.inr (Or.inl rfl)
  · exact Or.inr (Or.inr (Or.inl rfl))
  · exact Or.inr (Or.inr (Or.inr (Or.inl rfl)))
  · exact Or.inr (Or.inr (Or.inr (Or.inr rfl)))
