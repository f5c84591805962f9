/-! WIRING: what the Statement gives at the law's entry -/
section
variable {s : State} {b : Nat}
theorem zTs_of (hts : ∀ w ∈ lw_tbl, w.before #[Value.ref b] s = true) : ∀ w ∈ zTs, w.before #[Value.ref b] s = true := fun w hw => hts w (List.mem_filter.mp hw).1
theorem zN_in : znl.all (fun q => decide (zNw q ∈ lw_tbl)) = true := by decide +kernel
theorem zN_on (q : Nat × Nat × Nat × String) : (zNw q).onTables = true := by
  unfold zNw
  cases am_P q.2.2.1 with
  | none => rfl
  | some M => rfl
theorem zN_at (hts : ∀ w ∈ lw_tbl, w.before #[Value.ref b] s = true) : ∀ q ∈ znl, va_Nw (zNw q) s := fun q hq => va_Nw.of (zN_on q) (hts _ (of_decide_eq_true (List.all_eq_true.mp zN_in q hq)))
theorem zA_at (hts : ∀ w ∈ lw_tbl, w.before #[Value.ref b] s = true) : va_AO "SixHands$Text" s := va_AO.of (hts (.arrayOver (.object "SixHands$Text")) (by decide +kernel))
def zTm : Term := .string "SixHands$Tape" 50
def zTw (j : Nat) : Jvm.Cond := .eq (.elem (.field zTm "java/lang/String" "value" "[B") (.int (Int32.ofNat j))) (.int (zBy.getD j 0))
theorem zT_in : ∀ j, j < 126 → zTw j ∈ flatC (Jvm.Cond.and given_1 narrow_1) := by decide +kernel
theorem zS_at (hts : ∀ w ∈ lw_tbl, w.before #[Value.ref b] s = true) (hgv : (Jvm.Cond.and given_1 narrow_1).before #[Value.ref b] s = true) : ∃ sa sv, zSt s.heap.size sa sv s := by
  have hs := flat_of_before _ hgv
  have hA : ∀ a : Nat, a < s.heap.size → ¬ s.heap.size ≤ a := fun a h => Nat.not_le.mpr h
  obtain ⟨adK, adV, hS, hev⟩ := vk_Sof (args := #[Value.ref b]) (s := s) (N := 1) (tm := fun _ => zTm) (len := [126]) (byt := [zBy]) (A := fun q : Nat => s.heap.size ≤ q)
    (fun i hi => by rw [show i = 0 by omega]; decide) (fun i hi => hs _ (by decide +kernel)) (fun i hi => hs _ (by decide +kernel)) (fun i hi => hs _ (by decide +kernel)) (fun i hi => by rw [show i = 0 by omega]; exact hs _ (by decide +kernel))
    (fun i hi j hj => by
      have h0 : i = 0 := by omega
      subst h0
      exact hs _ (zT_in j hj)) (fun i j hi hj hij => absurd (show i = j by omega) hij) hA
  refine ⟨adK 0, adV 0, vk_R.of (hts (.stringRef "SixHands$Tape" 50 zTx) (by decide +kernel)) (hev 0 (by decide)), ⟨fun i hi => ?_, fun i j hi hj _ => by omega⟩, va_Zof (hts (.laysStatic "java/lang/String" "COMPACT_STRINGS" "Z") (by decide +kernel)) (hts (.initialized "java/lang/String") (by decide +kernel)) (va_eqt (hs (.eq (.static "java/lang/String" "COMPACT_STRINGS" "Z") (.int 1)) (by decide +kernel))) hA, va_Zqof (hts (.laysStatic "jdk/internal/util/Preconditions" "SIOOBE_FORMATTER" "Ljava/util/function/BiFunction;") (by decide +kernel)) (hts (.initialized "jdk/internal/util/Preconditions") (by decide +kernel)) (hs (.isRef (.static "jdk/internal/util/Preconditions" "SIOOBE_FORMATTER" "Ljava/util/function/BiFunction;")) (by decide +kernel)) hA⟩
  have h0 : i = 0 := by omega
  subst h0
  exact hS.1 0 hi
end
