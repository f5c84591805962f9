/-! THE CONSTANT TEXT: ldc and String.charAt, by the rows of the kit (printed by wip/gen/strpart.py) -/
def zTx : String := "or    and   not   may   pass  shows enter exit  go    hit   beat  at    figurekind  place who   right from  to    seat  many  "
def zBy : List Int32 := [111, 114, 32, 32, 32, 32, 97, 110, 100, 32, 32, 32, 110, 111, 116, 32, 32, 32, 109, 97, 121, 32, 32, 32, 112, 97, 115, 115, 32, 32, 115, 104, 111, 119, 115, 32, 101, 110, 116, 101, 114, 32, 101, 120, 105, 116, 32, 32, 103, 111, 32, 32, 32, 32, 104, 105, 116, 32, 32, 32, 98, 101, 97, 116, 32, 32, 97, 116, 32, 32, 32, 32, 102, 105, 103, 117, 114, 101, 107, 105, 110, 100, 32, 32, 112, 108, 97, 99, 101, 32, 119, 104, 111, 32, 32, 32, 114, 105, 103, 104, 116, 32, 102, 114, 111, 109, 32, 32, 116, 111, 32, 32, 32, 32, 115, 101, 97, 116, 32, 32, 109, 97, 110, 121, 32, 32]
def yCA : MethodName := ⟨"java/lang/String", "charAt", "(I)C"⟩
def yIL : MethodName := ⟨"java/lang/String", "isLatin1", "()Z"⟩
def yLC : MethodName := ⟨"java/lang/StringLatin1", "charAt", "([BI)C"⟩
def ySC : MethodName := ⟨"java/lang/String", "checkIndex", "(II)V"⟩
def yPC : MethodName := ⟨"jdk/internal/util/Preconditions", "checkIndex", "(IILjava/util/function/BiFunction;)I"⟩
theorem dS_J3checkIndex_0 : decode prog_19_method_11_code 0 = .ok (.iload_n 0, 1) := by decide +kernel
theorem dS_J3checkIndex_1 : decode prog_19_method_11_code 1 = .ok (.ifCond .lt 8, 3) := by decide +kernel
theorem dS_J3checkIndex_4 : decode prog_19_method_11_code 4 = .ok (.iload_n 0, 1) := by decide +kernel
theorem dS_J3checkIndex_5 : decode prog_19_method_11_code 5 = .ok (.iload_n 1, 1) := by decide +kernel
theorem dS_J3checkIndex_6 : decode prog_19_method_11_code 6 = .ok (.if_icmp .lt 10, 3) := by decide +kernel
theorem dS_J3checkIndex_16 : decode prog_19_method_11_code 16 = .ok (.iload_n 0, 1) := by decide +kernel
theorem dS_J3checkIndex_17 : decode prog_19_method_11_code 17 = .ok (.ireturn, 1) := by decide +kernel
theorem dS_J0checkIndex_0 : decode prog_14_method_155_code 0 = .ok (.iload_n 0, 1) := by decide +kernel
theorem dS_J0checkIndex_1 : decode prog_14_method_155_code 1 = .ok (.iload_n 1, 1) := by decide +kernel
theorem dS_J0checkIndex_2 : decode prog_14_method_155_code 2 = .ok (.getstatic 1053, 3) := by decide +kernel
theorem dS_J0checkIndex_5 : decode prog_14_method_155_code 5 = .ok (.invokestatic 1059, 3) := by decide +kernel
theorem dS_J0checkIndex_8 : decode prog_14_method_155_code 8 = .ok (.pop, 1) := by decide +kernel
theorem dS_J0checkIndex_9 : decode prog_14_method_155_code 9 = .ok (.return_, 1) := by decide +kernel
theorem dS_J1charAt_0 : decode prog_15_method_2_code 0 = .ok (.iload_n 1, 1) := by decide +kernel
theorem dS_J1charAt_1 : decode prog_15_method_2_code 1 = .ok (.aload_n 0, 1) := by decide +kernel
theorem dS_J1charAt_2 : decode prog_15_method_2_code 2 = .ok (.arraylength, 1) := by decide +kernel
theorem dS_J1charAt_3 : decode prog_15_method_2_code 3 = .ok (.invokestatic 9, 3) := by decide +kernel
theorem dS_J1charAt_6 : decode prog_15_method_2_code 6 = .ok (.aload_n 0, 1) := by decide +kernel
theorem dS_J1charAt_7 : decode prog_15_method_2_code 7 = .ok (.iload_n 1, 1) := by decide +kernel
theorem dS_J1charAt_8 : decode prog_15_method_2_code 8 = .ok (.baload, 1) := by decide +kernel
theorem dS_J1charAt_9 : decode prog_15_method_2_code 9 = .ok (.sipush 255, 3) := by decide +kernel
theorem dS_J1charAt_12 : decode prog_15_method_2_code 12 = .ok (.iand, 1) := by decide +kernel
theorem dS_J1charAt_13 : decode prog_15_method_2_code 13 = .ok (.i2c, 1) := by decide +kernel
theorem dS_J1charAt_14 : decode prog_15_method_2_code 14 = .ok (.ireturn, 1) := by decide +kernel
theorem dS_J0isLatin1_0 : decode prog_14_method_154_code 0 = .ok (.getstatic 38, 3) := by decide +kernel
theorem dS_J0isLatin1_3 : decode prog_14_method_154_code 3 = .ok (.ifCond .eq 14, 3) := by decide +kernel
theorem dS_J0isLatin1_6 : decode prog_14_method_154_code 6 = .ok (.aload_n 0, 1) := by decide +kernel
theorem dS_J0isLatin1_7 : decode prog_14_method_154_code 7 = .ok (.getfield 15, 3) := by decide +kernel
theorem dS_J0isLatin1_10 : decode prog_14_method_154_code 10 = .ok (.ifCond .ne 7, 3) := by decide +kernel
theorem dS_J0isLatin1_13 : decode prog_14_method_154_code 13 = .ok (.iconst 1, 1) := by decide +kernel
theorem dS_J0isLatin1_14 : decode prog_14_method_154_code 14 = .ok (.goto 4, 3) := by decide +kernel
theorem dS_J0isLatin1_18 : decode prog_14_method_154_code 18 = .ok (.ireturn, 1) := by decide +kernel
theorem dS_J0charAt_0 : decode prog_14_method_56_code 0 = .ok (.aload_n 0, 1) := by decide +kernel
theorem dS_J0charAt_1 : decode prog_14_method_56_code 1 = .ok (.invokevirtual 492, 3) := by decide +kernel
theorem dS_J0charAt_4 : decode prog_14_method_56_code 4 = .ok (.ifCond .eq 12, 3) := by decide +kernel
theorem dS_J0charAt_7 : decode prog_14_method_56_code 7 = .ok (.aload_n 0, 1) := by decide +kernel
theorem dS_J0charAt_8 : decode prog_14_method_56_code 8 = .ok (.getfield 9, 3) := by decide +kernel
theorem dS_J0charAt_11 : decode prog_14_method_56_code 11 = .ok (.iload_n 1, 1) := by decide +kernel
theorem dS_J0charAt_12 : decode prog_14_method_56_code 12 = .ok (.invokestatic 495, 3) := by decide +kernel
theorem dS_J0charAt_15 : decode prog_14_method_56_code 15 = .ok (.ireturn, 1) := by decide +kernel
/-- all that is known of the constant text, and of the two statics that charAt reads -/
def zSt (B sa sv : Nat) (U : State) : Prop := vk_R "SixHands$Tape" 50 zTx sa U ∧ vk_S 1 [126] [zBy] (fun _ => sa) (fun _ => sv) (fun q : Nat => B ≤ q) U U.heap ∧ va_Z "java/lang/String" "COMPACT_STRINGS" "Z" (.int 1) (fun q : Nat => B ≤ q) U U.heap ∧ va_Zq "jdk/internal/util/Preconditions" "SIOOBE_FORMATTER" "Ljava/util/function/BiFunction;" (fun q : Nat => B ≤ q) U U.heap
theorem zSt_call {B sa sv : Nat} (U : State) (g : JFrame) (mk : MethodId) (a : Array Value) (h : zSt B sa sv U) : zSt B sa sv (U.calling g mk a) :=
  ⟨vk_R.same rfl h.1, vk_S.moved (u := U) (U := U.calling g mk a) (Vm.Alike.refl U.vm) h.2.1, va_Z.moved (u := U) (U := U.calling g mk a) (Vm.Alike.refl U.vm) h.2.2.1, va_Zq.moved (u := U) (U := U.calling g mk a) (Vm.Alike.refl U.vm) h.2.2.2⟩
theorem zSt_warm {B sa sv : Nat} {s U : State} (hW : s.WarmedH U.vm) (hk : ∀ q : Nat, q < s.heap.size → ¬ B ≤ q → U.heap[q]? = s.heap[q]?) (h : zSt B sa sv s) : zSt B sa sv U :=
  ⟨vk_R.warm hW h.1, (vk_S.moved hW.alike h.2.1).kept hk, (va_Z.moved hW.alike h.2.2.1).kept hk, (va_Zq.moved hW.alike h.2.2.2).kept hk⟩
section ZST
variable {p : Program} {l : Launch} {e : Env} {R : Room} {s : State} {m : MethodId} {args : Array Value} {below : List Frame} {meth : Method} {c : Code} {Q : State → Prop} {H : Heap} {locs : List Loc} {cells slots : Nat}
/-- a call that leaves the heap -/
theorem zs_call {v : Option Value} {pc : Nat} {ls : Array Slot} {st0 rest : List Value} (hr : va_Run p l e R s m args below meth c H locs cells slots 0 0 (F0 m pc ls st0) rest (fun st o t => o = .returned v ∧ t.heap = st.heap) (fun _ => False)) (k : W p l e R s m args below meth c H locs cells slots Q (F0 m (pc + 3) ls (v.toList ++ rest))) : W p l e R s m args below meth c H locs cells slots Q (F0 m pc ls st0) := by
  intro T hT X
  obtain ⟨v', st₀, t, T', L, h0, X', hL, e1, e2, ⟨hv, hh⟩, st⟩ := hr T hT X
  cases hv
  have hl : L = [] := by
    cases L with
    | nil => rfl
    | cons q L => exact (hL q List.mem_cons_self).elim
  subst hl
  rw [List.append_nil] at X'
  obtain ⟨t2, a1, b1⟩ := k T' (by rw [e1, hh, h0]) X'
  exact ⟨t2, st t2 a1, b1⟩
end ZST
def zrm (f k : Nat) : Room := { frames := f, cells := 0, slots := 0, locals := k }
abbrev zQ (v : Option Value) : Array Value → State → Outcome → State → Prop := fun _ st o t => o = .returned v ∧ t.heap = st.heap
theorem zs_good {w : Jvm.Cond} (h : w ∈ zTs) : GoodIn zTs (w :: zTs) := am_good zTs_good h
theorem zs_c1 (l : Launch) {i n : Int32} {fv : Value} (h0 : ¬ i < 0) (h1 : i < n) (hf : fv = .null ∨ ∃ t, fv = .ref t) : Met l yPC (Jvm.Cond.code yPC prog_19_method_11_code 3 (some .int) :: zTs) (zrm 0 0) (va_Pc [.int i, .int n, fv] (fun _ => True)) (zQ (some (.int i))) 0 0 (fun _ => False) := by
  refine Met.ofW (cc := prog_19_method_11_code) (maxL := 3) (ret := some .int) (by decide +kernel) rfl ?_
  intro p e s m args below meth c s₁ Bd hml hv
  obtain ⟨rfl, -⟩ := hv
  have hx := Bd.exec
  have hb := Bd.bytes
  have hr := Bd.returns
  have hlk := Bd.notSynchronized
  have hl := lv_entry ([.int i, .int n, fv]) (n := 3) (by rcases hf with rfl | ⟨t, rfl⟩ <;> exact Nat.le_of_ble_eq_true rfl)
  rw [lg_entry_eq]
  generalize (lg_sl ([.int i, .int n, fv]) ++ List.replicate (3 - (lg_sl ([.int i, .int n, fv])).length) Slot.unset).toArray = ls at hl ⊢
  have hl : lv_has ls 3 [(0, .int i), (1, .int n), (2, fv)] := by rcases hf with rfl | ⟨t, rfl⟩ <;> exact hl
  refine lv_iload_n hx hb dS_J3checkIndex_0 rfl (lv_at hl 0 rfl) ?_
  refine lv_if_lt (tgt := 9) hx hb dS_J3checkIndex_1 (by decide) (fun q => absurd q h0) (fun _ => ?_)
  refine lv_iload_n hx hb dS_J3checkIndex_4 rfl (lv_at hl 0 rfl) ?_
  refine lv_iload_n hx hb dS_J3checkIndex_5 rfl (lv_at hl 1 rfl) ?_
  refine lv_icmp_lt (tgt := 16) hx hb dS_J3checkIndex_6 (by decide) (fun _ => ?_) (fun q => absurd h1 q)
  refine lv_iload_n hx hb dS_J3checkIndex_16 rfl (lv_at hl 0 rfl) ?_
  exact W.iret hx hb hr (fun t ht _ => ⟨rfl, ht⟩) (fun q hq => by cases hq) dS_J3checkIndex_17 hlk
theorem zs_w1 : Jvm.Cond.code yPC prog_19_method_11_code 3 (some .int) ∈ zTs := by decide +kernel
theorem zs_w2 : Jvm.Cond.code ySC prog_14_method_155_code 2 none ∈ zTs := by decide +kernel
theorem zs_w3 : Jvm.Cond.code yLC prog_15_method_2_code 2 (some .char) ∈ zTs := by decide +kernel
theorem zs_w4 : Jvm.Cond.code yIL prog_14_method_154_code 1 (some .boolean) ∈ zTs := by decide +kernel
theorem zs_w5 : Jvm.Cond.code yCA prog_14_method_56_code 2 (some .char) ∈ zTs := by decide +kernel
theorem zs_b {B sa sv : Nat} {av : List Value} : FrameBlind (va_Pc av (zSt B sa sv)) := fun a U g mk q => ⟨q.1, zSt_call U g mk a q.2⟩
theorem zs_c2 (l : Launch) {B sa sv : Nat} {i n : Int32} (h0 : ¬ i < 0) (h1 : i < n) : Met l ySC (Jvm.Cond.code ySC prog_14_method_155_code 2 none :: zTs) (zrm 1 22) (va_Pc [.int i, .int n] (zSt B sa sv)) (zQ none) 0 0 (fun _ => False) := by
  refine Met.ofW (cc := prog_14_method_155_code) (maxL := 2) (ret := none) (by decide +kernel) rfl ?_
  intro p e s m args below meth c s₁ Bd hml hv
  obtain ⟨rfl, hst⟩ := hv
  have hx := Bd.exec
  have hb := Bd.bytes
  have hr := Bd.returns
  have hlk := Bd.notSynchronized
  have hts0 := atoms_spec (ws := Jvm.Cond.code ySC prog_14_method_155_code 2 none :: zTs) Bd.pre
  have hts : ∀ w ∈ zTs, w.before _ s = true := fun w hw => hts0 w (List.mem_cons_of_mem _ hw)
  have hown : s.vm.findClass "java/lang/String" = some m.cls := findClass_of_methodNamed Bd.named
  have hl := lv_entry ([.int i, .int n]) (n := 2) (Nat.le_of_ble_eq_true rfl)
  rw [lg_entry_eq]
  generalize (lg_sl ([.int i, .int n]) ++ List.replicate (2 - (lg_sl ([.int i, .int n])).length) Slot.unset).toArray = ls at hl ⊢
  have hl : lv_has ls 2 [(0, .int i), (1, .int n)] := hl
  have go : ∀ fv : Value, (fv = .null ∨ ∃ t, fv = .ref t) → va_Z "jdk/internal/util/Preconditions" "SIOOBE_FORMATTER" "Ljava/util/function/BiFunction;" fv (fun q : Nat => B ≤ q) s s.heap → W p l e (zrm 1 22) s m (#[.int i, .int n] : Array Value) below meth c s.heap [] 0 0 (MQ below (zQ none) (#[.int i, .int n] : Array Value) s 0 0 (fun _ => False)) (F0 m 0 ls []) := by
    intro fv hfv hZ
    refine lv_iload_n hx hb dS_J0checkIndex_0 rfl (lv_at hl 0 rfl) ?_
    refine lv_iload_n hx hb dS_J0checkIndex_1 rfl (lv_at hl 1 rfl) ?_
    refine va_gets hx hb hZ va_S.rf hown (hts (.fieldLink "java/lang/String" 1053 "jdk/internal/util/Preconditions" "SIOOBE_FORMATTER" "Ljava/util/function/BiFunction;") (by decide +kernel)) (fun _ h9 => h9) dS_J0checkIndex_2 ?_
    refine zs_call (v := some (.int i)) (rest := []) (va_runS (As := [.int i, .int n, fv]) ⟨hx, hb, hml, hown, hts⟩ (zs_c1 l h0 h1 hfv) ⟨callB_of 3 hts (zs_good zs_w1) rfl rfl rfl (hts _ (by decide +kernel)) (hts (.methodLink "java/lang/String" 1059 yPC) (by decide +kernel)) (by decide +kernel) ⟨Nat.le_of_ble_eq_true rfl, Nat.le_of_ble_eq_true rfl⟩, hts (.static yPC) (by decide +kernel)⟩ ⟨fun a U g mk q => ⟨q.1, trivial⟩, fun U hU hW => ⟨rfl, trivial⟩⟩ rfl rfl hl.1 rfl (lv_room (Nat.le_of_ble_eq_true rfl)) dS_J0checkIndex_5 ⟨Nat.le_refl _, Nat.le_refl _⟩) ?_
    refine lv_pop (va := .int i) hx hb dS_J0checkIndex_8 rfl ?_
    exact W.vret hx hb hr (fun t ht _ => ⟨rfl, ht⟩) (fun q hq => by cases hq) dS_J0checkIndex_9 hlk
  rcases hst.2.2.2 with hZ | ⟨t, hZ⟩
  · exact go .null (Or.inl rfl) hZ
  · exact go (.ref t) (Or.inr ⟨t, rfl⟩) hZ
theorem zs_fin : ∀ j, j < 126 → (((zBy.getD j 0) &&& 255).toUInt32 % 65536).toInt32 = Int32.ofNat (zChr.getD j 0) ∧ narrow .char (.int (Int32.ofNat (zChr.getD j 0))) = .int (Int32.ofNat (zChr.getD j 0)) := by decide +kernel
theorem zs_c3 (l : Launch) {B sa sv : Nat} {i : Int32} (hin : vp_in i 126) : Met l yLC (Jvm.Cond.code yLC prog_15_method_2_code 2 (some .char) :: zTs) (zrm 2 43) (va_Pc [.ref sv, .int i] (zSt B sa sv)) (zQ (some (.int (Int32.ofNat (zChr.getD i.toNatClampNeg 0))))) 0 0 (fun _ => False) := by
  refine Met.ofW (cc := prog_15_method_2_code) (maxL := 2) (ret := some .char) (by decide +kernel) rfl ?_
  intro p e s m args below meth c s₁ Bd hml hv
  obtain ⟨rfl, hst⟩ := hv
  have hx := Bd.exec
  have hb := Bd.bytes
  have hr := Bd.returns
  have hlk := Bd.notSynchronized
  have hts0 := atoms_spec (ws := Jvm.Cond.code yLC prog_15_method_2_code 2 (some .char) :: zTs) Bd.pre
  have hts : ∀ w ∈ zTs, w.before _ s = true := fun w hw => hts0 w (List.mem_cons_of_mem _ hw)
  have hown : s.vm.findClass "java/lang/StringLatin1" = some m.cls := findClass_of_methodNamed Bd.named
  have hT := (hst.2.1.1 0 (by decide)).2.2.2
  have hl := lv_entry ([.ref sv, .int i]) (n := 2) (Nat.le_of_ble_eq_true rfl)
  rw [lg_entry_eq]
  generalize (lg_sl ([.ref sv, .int i]) ++ List.replicate (2 - (lg_sl ([.ref sv, .int i])).length) Slot.unset).toArray = ls at hl ⊢
  have hl : lv_has ls 2 [(0, .ref sv), (1, .int i)] := hl
  have hlt : i.toNatClampNeg < 126 := Nat.not_le.mp fun q => hin (Or.inr q)
  have hlt2 : i < Int32.ofNat 126 := by
    obtain ⟨j, hj, rfl⟩ := vp_in_of hin (by decide)
    exact nI_lt hj (by decide)
  refine lv_iload_n hx hb dS_J1charAt_0 rfl (lv_at hl 1 rfl) ?_
  refine lv_aload_n hx hb dS_J1charAt_1 rfl (lv_at hl 0 rfl) ?_
  refine va_tlen (v := Int32.ofNat 126) hx hb hT va_S.rf rfl dS_J1charAt_2 ?_
  refine zs_call (v := none) (rest := []) (va_runS (As := [.int i, .int (Int32.ofNat 126)]) ⟨hx, hb, hml, hown, hts⟩ (zs_c2 l (B := B) (sa := sa) (sv := sv) (fun q => hin (Or.inl q)) hlt2) ⟨callB_of 2 hts (zs_good zs_w2) rfl rfl rfl (hts _ (by decide +kernel)) (hts (.methodLink "java/lang/StringLatin1" 9 ySC) (by decide +kernel)) (by decide +kernel) ⟨Nat.le_of_ble_eq_true rfl, Nat.le_of_ble_eq_true rfl⟩, hts (.static ySC) (by decide +kernel)⟩ ⟨zs_b, fun U hU hW => ⟨rfl, zSt_warm hW (fun q _ _ => by rw [hU]) hst⟩⟩ rfl rfl hl.1 rfl (lv_room (Nat.le_of_ble_eq_true rfl)) dS_J1charAt_3 ⟨Nat.le_refl _, Nat.le_refl _⟩) ?_
  refine lv_aload_n hx hb dS_J1charAt_6 rfl (lv_at hl 0 rfl) ?_
  refine lv_iload_n hx hb dS_J1charAt_7 rfl (lv_at hl 1 rfl) ?_
  refine va_tb hx hb hT va_S.rf hin rfl dS_J1charAt_8 ?_
  refine lv_sipush (v := 255) hx hb dS_J1charAt_9 (by decide) ?_
  refine lv_iand hx hb dS_J1charAt_12 ?_
  refine lv_i2c hx hb dS_J1charAt_13 (zs_fin _ hlt).1 ?_
  exact W.zret hx hb hr (zs_fin _ hlt).2 (fun t ht _ => ⟨rfl, ht⟩) (fun q hq => by cases hq) dS_J1charAt_14 hlk
theorem zs_c4 (l : Launch) {B sa sv : Nat} : Met l yIL (Jvm.Cond.code yIL prog_14_method_154_code 1 (some .boolean) :: zTs) (zrm 0 0) (va_Pc [.ref sa] (zSt B sa sv)) (zQ (some (.int 1))) 0 0 (fun _ => False) := by
  refine Met.ofW (cc := prog_14_method_154_code) (maxL := 1) (ret := some .boolean) (by decide +kernel) rfl ?_
  intro p e s m args below meth c s₁ Bd hml hv
  obtain ⟨rfl, hst⟩ := hv
  have hx := Bd.exec
  have hb := Bd.bytes
  have hr := Bd.returns
  have hlk := Bd.notSynchronized
  have hts0 := atoms_spec (ws := Jvm.Cond.code yIL prog_14_method_154_code 1 (some .boolean) :: zTs) Bd.pre
  have hts : ∀ w ∈ zTs, w.before _ s = true := fun w hw => hts0 w (List.mem_cons_of_mem _ hw)
  have hown : s.vm.findClass "java/lang/String" = some m.cls := findClass_of_methodNamed Bd.named
  have hcd := (hst.2.1.1 0 (by decide)).2.1
  have hl := lv_entry ([.ref sa]) (n := 1) (Nat.le_of_ble_eq_true rfl)
  rw [lg_entry_eq]
  generalize (lg_sl ([.ref sa]) ++ List.replicate (1 - (lg_sl ([.ref sa])).length) Slot.unset).toArray = ls at hl ⊢
  have hl : lv_has ls 1 [(0, .ref sa)] := hl
  refine va_gets hx hb hst.2.2.1 va_S.rf hown (hts (.fieldLink "java/lang/String" 38 "java/lang/String" "COMPACT_STRINGS" "Z") (by decide +kernel)) (fun _ h9 => h9) dS_J0isLatin1_0 ?_
  refine lv_if_eq (tgt := 17) hx hb dS_J0isLatin1_3 (by decide) (fun q => absurd q (by decide)) (fun _ => ?_)
  refine lv_aload_n hx hb dS_J0isLatin1_6 rfl (lv_at hl 0 rfl) ?_
  refine vk_getf hx hb hcd va_S.rf hown (hts (.fieldLink "java/lang/String" 15 "java/lang/String" "coder" "B") (by decide +kernel)) (fun _ h9 => h9) dS_J0isLatin1_7 ?_
  refine lv_if_ne (tgt := 17) hx hb dS_J0isLatin1_10 (by decide) (fun q => absurd rfl q) (fun _ => ?_)
  refine lv_iconst (v := 1) hx hb dS_J0isLatin1_13 (by decide) ?_
  refine lv_goto (tgt := 18) hx hb dS_J0isLatin1_14 (by decide) ?_
  exact W.zret hx hb hr rfl (fun t ht _ => ⟨rfl, ht⟩) (fun q hq => by cases hq) dS_J0isLatin1_18 hlk
theorem zs_c5 (l : Launch) {B sa sv : Nat} {i : Int32} (hin : vp_in i 126) : Met l yCA (Jvm.Cond.code yCA prog_14_method_56_code 2 (some .char) :: zTs) (zrm 3 64) (va_Pc [.ref sa, .int i] (zSt B sa sv)) (zQ (some (.int (Int32.ofNat (zChr.getD i.toNatClampNeg 0))))) 0 0 (fun _ => False) := by
  refine Met.ofW (cc := prog_14_method_56_code) (maxL := 2) (ret := some .char) (by decide +kernel) rfl ?_
  intro p e s m args below meth c s₁ Bd hml hv
  obtain ⟨rfl, hst⟩ := hv
  have hx := Bd.exec
  have hb := Bd.bytes
  have hr := Bd.returns
  have hlk := Bd.notSynchronized
  have hts0 := atoms_spec (ws := Jvm.Cond.code yCA prog_14_method_56_code 2 (some .char) :: zTs) Bd.pre
  have hts : ∀ w ∈ zTs, w.before _ s = true := fun w hw => hts0 w (List.mem_cons_of_mem _ hw)
  have hown : s.vm.findClass "java/lang/String" = some m.cls := findClass_of_methodNamed Bd.named
  have hva := (hst.2.1.1 0 (by decide)).2.2.1
  have hl := lv_entry ([.ref sa, .int i]) (n := 2) (Nat.le_of_ble_eq_true rfl)
  rw [lg_entry_eq]
  generalize (lg_sl ([.ref sa, .int i]) ++ List.replicate (2 - (lg_sl ([.ref sa, .int i])).length) Slot.unset).toArray = ls at hl ⊢
  have hl : lv_has ls 2 [(0, .ref sa), (1, .int i)] := hl
  have hlt : i.toNatClampNeg < 126 := Nat.not_le.mp fun q => hin (Or.inr q)
  refine lv_aload_n hx hb dS_J0charAt_0 rfl (lv_at hl 0 rfl) ?_
  refine zs_call (v := some (.int 1)) (rest := []) (va_runV (As := []) ⟨hx, hb, hml, hown, hts⟩ (zs_c4 l (B := B) (sa := sa) (sv := sv)) ⟨callB_of 0 hts (zs_good zs_w4) rfl rfl rfl (hts _ (by decide +kernel)) (hts (.methodLink "java/lang/String" 492 yIL) (by decide +kernel)) (by decide +kernel) ⟨Nat.le_of_ble_eq_true rfl, Nat.le_of_ble_eq_true rfl⟩, hts (.instanceMethod yIL) (by decide +kernel), hts (.selects "java/lang/String" yIL yIL) (by decide +kernel)⟩ ⟨zs_b, vk_recv hst.2.1 (i := 0) (by decide) va_S.rf, fun U hU hW => ⟨rfl, zSt_warm hW (fun q _ _ => by rw [hU]) hst⟩⟩ rfl rfl hl.1 rfl (lv_room (Nat.le_of_ble_eq_true rfl)) dS_J0charAt_1 ⟨Nat.le_refl _, Nat.le_refl _⟩) ?_
  refine lv_if_eq (tgt := 16) hx hb dS_J0charAt_4 (by decide) (fun q => absurd q (by decide)) (fun _ => ?_)
  refine lv_aload_n hx hb dS_J0charAt_7 rfl (lv_at hl 0 rfl) ?_
  refine vk_getf hx hb hva va_S.rf hown (hts (.fieldLink "java/lang/String" 9 "java/lang/String" "value" "[B") (by decide +kernel)) (fun _ h9 => h9) dS_J0charAt_8 ?_
  refine lv_iload_n hx hb dS_J0charAt_11 rfl (lv_at hl 1 rfl) ?_
  refine zs_call (v := some (.int (Int32.ofNat (zChr.getD i.toNatClampNeg 0)))) (rest := []) (va_runS (As := [.ref sv, .int i]) ⟨hx, hb, hml, hown, hts⟩ (zs_c3 l (B := B) (sa := sa) (sv := sv) hin) ⟨callB_of 2 hts (zs_good zs_w3) rfl rfl rfl (hts _ (by decide +kernel)) (hts (.methodLink "java/lang/String" 495 yLC) (by decide +kernel)) (by decide +kernel) ⟨Nat.le_of_ble_eq_true rfl, Nat.le_of_ble_eq_true rfl⟩, hts (.static yLC) (by decide +kernel)⟩ ⟨zs_b, fun U hU hW => ⟨rfl, zSt_warm hW (fun q _ _ => by rw [hU]) hst⟩⟩ rfl rfl hl.1 rfl (lv_room (Nat.le_of_ble_eq_true rfl)) dS_J0charAt_12 ⟨Nat.le_refl _, Nat.le_refl _⟩) ?_
  exact W.zret hx hb hr (zs_fin _ hlt).2 (fun t ht _ => ⟨rfl, ht⟩) (fun q hq => by cases hq) dS_J0charAt_15 hlk
