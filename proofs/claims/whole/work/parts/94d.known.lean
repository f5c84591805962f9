/-! WIRING: the classes and the arrays are known at the law's entry -/
section
variable {s : State} {b : Nat}
theorem zK1 (hts : ∀ w ∈ lw_tbl, w.before #[Value.ref b] s = true) {c N n : Nat} {C : String} {T : u_T} (h : zcl[c]? = some (C, T, N)) (hi : Jvm.Cond.instantiable C n ∈ lw_tbl) : ∃ q : ClassId × (Nat → Nat), ∀ r, zcl[c]? = some r → u_Kn s r.1 r.2.1 r.2.2 q.1 q.2 := by
  obtain ⟨cC, iS, hk⟩ := u_known (ws := zTs) (N := N) (T := T) (zTs_of hts) (zFT' c C T N h).1 (hts _ hi)
  refine ⟨(cC, iS), fun r hr => ?_⟩
  rw [h] at hr
  cases hr
  exact hk
theorem zK2 (hts : ∀ w ∈ lw_tbl, w.before #[Value.ref b] s = true) : ∀ c : Nat, ∃ q : ClassId × (Nat → Nat), ∀ r, zcl[c]? = some r → u_Kn s r.1 r.2.1 r.2.2 q.1 q.2
  | 0 => zK1 hts (n := 6) rfl (by decide +kernel)
  | 1 => zK1 hts (n := 6) rfl (by decide +kernel)
  | 2 => zK1 hts (n := 6) rfl (by decide +kernel)
  | 3 => zK1 hts (n := 10) rfl (by decide +kernel)
  | 4 => zK1 hts (n := 15) rfl (by decide +kernel)
  | 5 => zK1 hts (n := 16) rfl (by decide +kernel)
  | 6 => zK1 hts (n := 6) rfl (by decide +kernel)
  | 7 => zK1 hts (n := 8) rfl (by decide +kernel)
  | 8 => zK1 hts (n := 7) rfl (by decide +kernel)
  | 9 => zK1 hts (n := 35) rfl (by decide +kernel)
  | n + 10 => ⟨(0, fun _ => 0), fun r hr => by simp [am_cl] at hr⟩
theorem zK3 {ty : FieldType} (h : (Jvm.Cond.arrayClass ty).before #[Value.ref b] s = true) : ∃ cA : ClassId, ArrOfT s cA ty ∧ s.vm.findClass ("[" ++ ty.toString) = some cA := by
  obtain ⟨cA, kA, comp, h1, h2, h3⟩ := Cond.arrayClass_spec h
  exact ⟨cA, fun n z => ⟨fun k h => (by cases h), kA, h2, comp, h3⟩, h1⟩
theorem zK_at (hts : ∀ w ∈ lw_tbl, w.before #[Value.ref b] s = true) : ∃ (D : va_G) (aC : Nat → ClassId), va_K D zcl [(aC 0, .int), (aC 1, .boolean), (aC 2, .long), (aC 3, .object "SixHands$Text")] s := by
  obtain ⟨f, hf⟩ := Classical.axiomOfChoice (zK2 hts)
  obtain ⟨c0, a0, n0⟩ := zK3 (hts (.arrayClass .int) (by decide +kernel))
  obtain ⟨c1, a1, n1⟩ := zK3 (hts (.arrayClass .boolean) (by decide +kernel))
  obtain ⟨c2, a2, n2⟩ := zK3 (hts (.arrayClass .long) (by decide +kernel))
  obtain ⟨comp, c3, k3, g1, -, g2, g3, g4⟩ := Cond.arrayOver_spec (hts (.arrayOver (.object "SixHands$Text")) (by decide +kernel))
  refine ⟨(fun c => (f c).1, fun c => (f c).2), fun i => if i = 0 then c0 else if i = 1 then c1 else if i = 2 then c2 else c3, fun c q hq => hf c q hq, fun k q hk => ?_⟩
  match k, hk with
  | 0, hk => cases hk; exact ⟨a0, n0⟩
  | 1, hk => cases hk; exact ⟨a1, n1⟩
  | 2, hk => cases hk; exact ⟨a2, n2⟩
  | 3, hk => cases hk; exact ⟨fun n z => ⟨fun k h => (by cases h), k3, g2, comp, g3⟩, k3, comp, g2, g3, g1, g4⟩
  | n + 4, hk => exact absurd hk (by simp)
end
