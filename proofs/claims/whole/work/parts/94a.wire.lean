/-! WIRING: what is known of the texts and the script wherever a method stands -/
def zSg (B b sa sv : Nat) (Xs : Nat × (Nat → Int32)) (U : State) : Prop := (∀ q ∈ znl, va_Nw (zNw q) U) ∧ va_AO "SixHands$Text" U ∧ (va_X b Xs.1 Xs.2 U U.heap ∧ b < U.heap.size ∧ ¬ B ≤ b) ∧ zSt B sa sv U
def zsa (sa b : Nat) : Nat → Nat
  | 0 => sa
  | _ + 1 => b
section
variable {B b sa sv : Nat} {Xs : Nat × (Nat → Int32)}
theorem zNw_warm {q : Nat × Nat × Nat × String} {s U : State} (hW : s.WarmedH U.vm) (h : va_Nw (zNw q) s) : va_Nw (zNw q) U := by
  unfold zNw at h ⊢
  cases hM : am_P q.2.2.1 with
  | none => rfl
  | some M => rw [hM] at h; exact va_Nw.warmM hW h
theorem zNw_same {q : Nat × Nat × Nat × String} {s U : State} (hv : s.vm = U.vm) (h : va_Nw (zNw q) s) : va_Nw (zNw q) U := by
  unfold zNw at h ⊢
  cases hM : am_P q.2.2.1 with
  | none => rfl
  | some M => rw [hM] at h; exact va_Nw.same rfl hv h
theorem zSg_k : am_Sgk B (zSg B b sa sv Xs) := by
  refine ⟨fun s U hW hz hq h => ?_, fun U g mk a h => ?_⟩
  · obtain ⟨h1, h2, ⟨h3, h4, h5⟩, h6⟩ := h
    refine ⟨fun q hq => zNw_warm hW (h1 q hq), va_AO.moved hW.alike h2, ⟨(va_X.moved hW.alike h3).kept (hq b h4 (Nat.lt_of_not_le h5)), Nat.lt_of_lt_of_le h4 hz, h5⟩, zSt_warm hW (fun q q1 q2 => hq q q1 (Nat.lt_of_not_le q2)) h6⟩
  · obtain ⟨h1, h2, ⟨h3, h4, h5⟩, h6⟩ := h
    exact ⟨fun q hq => zNw_same (s := U) (U := U.calling g mk a) rfl (h1 q hq), va_AO.moved (u := U) (U := U.calling g mk a) (Vm.Alike.refl U.vm) h2, ⟨va_X.moved (u := U) (U := U.calling g mk a) (Vm.Alike.refl U.vm) h3, h4, h5⟩, zSt_call U g mk a h6⟩
/-- of one class no object is made, and no word says that it is a class with objects: another stands in its place -/
abbrev zcl : List vw_C := am_cl.set 1 (RX0, TX1, 0)
theorem zcl_ne {i : Nat} (h : i ≠ 1) : zcl[i]? = am_cl[i]? := by
  show (am_cl.set 1 _)[i]? = _
  rw [List.getElem?_set]
  rw [if_neg (fun q => h q.symm)]
theorem zFT' : am_FT zTs zcl zKf zty := by
  intro ci C T N h
  by_cases h1 : ci = 1
  · subst h1
    cases h
    refine ⟨(fun w hw => by cases hw), fun k hk => by omega, fun k hk => by omega, fun k hk => by omega, fun k hk => by omega⟩
  · rw [zcl_ne h1] at h
    exact zFT ci C T N h
theorem zFL' : am_FL zTs zcl zKf zcn zfl := by
  intro oc idx ci k kd h
  obtain ⟨C, T, N, h1, h2, h3⟩ := zFL oc idx ci k kd h
  by_cases hc : ci = 1
  · subst hc
    cases h1
    omega
  · exact ⟨C, T, N, by rw [zcl_ne hc]; exact h1, h2, h3⟩
theorem zml_1 : zml.all (fun q => !(Nat.beq q.2.2.2.2.2.2 0) || !(Nat.beq q.2.2.2.2.2.1 1)) = true := by decide +kernel
theorem zML' {Sg : State → Prop} (hSg : ∀ U : State, Sg U → ∀ q ∈ znl, va_Nw (zNw q) U) : am_ML zTs zcl zml zcn am_P Sg := by
  intro oc idx nst mi n ci kd h
  obtain ⟨M', h1, h2, h3, h4, h5⟩ := zML hSg oc idx nst mi n ci kd h
  refine ⟨M', h1, h2, h3, h4, ?_⟩
  rcases h5 with ⟨k0, a1, a2, r, hr, a3⟩ | h5 | h5
  · refine Or.inl ⟨k0, a1, a2, r, ?_, a3⟩
    have q := List.all_eq_true.mp zml_1 _ h
    have q : (!(Nat.beq kd 0) || !(Nat.beq ci 1)) = true := q
    rw [k0] at q
    have hc : ci ≠ 1 := fun e => by rw [e] at q; exact absurd q (by decide)
    rw [zcl_ne hc]
    exact hr
  · exact Or.inr (Or.inl h5)
  · exact Or.inr (Or.inr h5)
def zc1b (E : am_E) : Bool := match E with
  | (_, I, a, _, _, _, ts) => match I with
    | .putfield _ => !(Nat.beq (ts.headD 0) 1)
    | .aastore => !(Nat.beq a 1)
    | .new _ => !(Nat.beq a 1)
    | _ => true
theorem zc1_all : am_Pl.all (fun l => l.all (fun M => M.2.2.2.2.2.2.all zc1b)) = true := by decide +kernel
theorem zPl_all {f : am_M → am_E → Bool} (hf : am_Pl.all (fun l => l.all (fun M => M.2.2.2.2.2.2.all (f M))) = true) {mi : Nat} {M : am_M} (h : am_P mi = some M) {E : am_E} (hE : E ∈ M.2.2.2.2.2.2) : f M E = true := by
  unfold am_P at h
  cases hl : am_Pl[mi / 16]? with
  | none => rw [hl] at h; cases h
  | some l =>
    rw [hl] at h
    exact List.all_eq_true.mp (List.all_eq_true.mp (List.all_eq_true.mp hf l (List.mem_of_getElem? hl)) M (List.mem_of_getElem? h)) E hE
theorem zn1 {a : Nat} (h : (!(Nat.beq a 1)) = true) : zcl[a]? = am_cl[a]? := zcl_ne (fun e => by rw [e] at h; exact absurd h (by decide))
theorem zokb {M : am_M} {E : am_E} (h1 : zc1b E = true) (h : am_okb zTs am_cl zfl zml "SixHands$Text" M E = true) : am_okb zTs zcl zfl zml "SixHands$Text" M E = true := by
  obtain ⟨pc, I, a, n, x, z, ts⟩ := E
  cases I with
  | putfield i =>
    unfold am_okb at h ⊢
    dsimp only at h ⊢
    rw [zn1 h1]
    exact h
  | aastore =>
    unfold am_okb at h ⊢
    dsimp only at h ⊢
    rw [zn1 h1]
    exact h
  | new i =>
    unfold am_okb at h ⊢
    dsimp only at h ⊢
    rw [zn1 h1]
    exact h
  | _ => exact h
theorem zMT' : am_MT zTs zcl zfl zml "SixHands$Text" zcn am_P := by
  intro mi M h
  obtain ⟨h1, h2, h3, h4, h5⟩ := zMT mi M h
  exact ⟨h1, h2, h3, h4, fun E hE => zokb (zPl_all zc1_all h hE) (h5 E hE)⟩
theorem zW : am_W zTs B (zsa sa b) zKf zcl "SixHands$Text" zty zfl zml zcn am_P (zSg B b sa sv Xs) Xs :=
  ⟨zFT', zFL', zMT', zML' (fun U h => h.1), zTs_good, zSg_k, fun U h => h.2.1, fun U h => h.2.2.1⟩
/-- where the constant text is named: one row, and one call of it -/
def zwxb (M : am_M) (E : am_E) : Bool := match E.2.1 with
  | .ldc i => Nat.beq E.2.2.1 0 || (Nat.beq i 50 && decide (M.1.cls = "SixHands$Tape"))
  | .invokevirtual i => !(Nat.beq (E.2.2.2.2.2.2.headD 0) 99) || (Nat.beq i 52 && (decide (M.1.cls = "SixHands$Tape") && decide (E.2.2.2.2.2.2.tail = zChr)))
  | _ => true
theorem zwx_all : am_Pl.all (fun l => l.all (fun M => M.2.2.2.2.2.2.all (zwxb M))) = true := by decide +kernel
theorem zwx {mi : Nat} {M : am_M} (h : am_P mi = some M) {E : am_E} (hE : E ∈ M.2.2.2.2.2.2) : zwxb M E = true := zPl_all zwx_all h hE
end
