/-! EACH STEP OF THE ABSTRACT MACHINE IS A STEP OF THE REAL ONE -/
/-- a link of a field: number of the class that names it, entry, class, field, kind -/
abbrev am_Fl : Type := Nat × Nat × Nat × Nat × Nat
def am_kty (kd : Nat) (ty : FieldType) : Prop := match kd with
  | 0 => ty = .int
  | 1 => ty = .boolean
  | 2 => ty = .long
  | _ => (∃ n, ty = .object n) ∨ ∃ t, ty = .array t
/-- what the words say of the fields of the classes -/
def am_FT (Ts : List Jvm.Cond) (cl : List vw_C) (Kf : Nat → Nat → Nat) (ty0 : Nat → Nat → FieldType) : Prop := ∀ (ci : Nat) (C : String) (T : u_T) (N : Nat), cl[ci]? = some (C, T, N) →
  (∀ w ∈ u_ws C T N, w ∈ Ts) ∧ (∀ k, k < N → parseFieldDescriptor (T k).2.2.1 = some (ty0 ci k)) ∧ (∀ a, a < N → ∀ b, b < N → a ≠ b → (T a).2.1 ≠ (T b).2.1) ∧ (∀ k, k < N → (T k).1 = C) ∧ (∀ k, k < N → am_kty (Kf ci k) (ty0 ci k))
def am_FL (Ts : List Jvm.Cond) (cl : List vw_C) (Kf : Nat → Nat → Nat) (cn : Nat → String) (fl : List am_Fl) : Prop := ∀ (oc idx ci k kd : Nat), (oc, idx, ci, k, kd) ∈ fl → ∃ (C : String) (T : u_T) (N : Nat), cl[ci]? = some (C, T, N) ∧ k < N ∧ Kf ci k = kd ∧ Jvm.Cond.fieldLink (cn oc) idx (T k).1 (T k).2.1 (T k).2.2.1 ∈ Ts
section AMK
variable {p : Program} {l : Launch} {e : Env} {R : Room} {s : State} {m : MethodId} {args : Array Value} {below : List Frame} {meth : Method} {c : Code} {H : Heap} {locs : List Loc} {cells slots : Nat} {Q : State → Prop}
/-- the room tells how large the heap is at most -/
theorem am_sized {g : JFrame} (k : H.size ≤ s.heap.size + cells → W p l e R s m args below meth c H locs cells slots Q g) : W p l e R s m args below meth c H locs cells slots Q g :=
  fun T hT X => k (by rw [← hT]; exact X.same.2.2.1) T hT X
/-- ireturn of a boolean -/
theorem am_zret {cc : ByteArray} {Qc : Array Value → State → Outcome → State → Prop} {free : Addr → Prop} {v : Int32} (hexec : p.tables.exec = Jvm.exec) (hb : c.code = cc) (hr : meth.sig.returnType = some .boolean) (hlocks : meth.locks = false)
    (hq : ∀ t : State, t.heap = H → s.WarmedH t.vm → Qc args s (.returned (some (.int (v &&& 1)))) t) (hf : ∀ q ∈ locs, free q.base)
    {pc : Nat} {ls : Array Slot} (hdg : decode cc pc = .ok (.ireturn, 1)) : W p l e R s m args below meth c H locs cells slots (MQ below Qc args s cells slots free) (F0 m pc ls [.int v]) := by
  intro T hT X
  have hn : narrow .boolean (.int v) = .int (v &&& 1) := rfl
  obtain ⟨fs, hret, hrun, hended, hW, hframe⟩ := X.leave (v := some (.int (v &&& 1))) (hlocks := hlocks) (fun h => by rw [hr] at h; cases h)
  have hmeth' : T.vm.method? m = some meth := X.method'
  refine ⟨T.setFrames fs, ?_, .returned (some (.int (v &&& 1))), hrun, hended, hq _ hT hW, locs, ⟨⟨_, rfl⟩, hW, hframe⟩, hf⟩
  jvm_step X.here [X.here.top, hexec, hb, hdg, hmeth', hr, hn]
  (try refine ⟨rfl, ?_⟩); (try refine ⟨rfl, ?_⟩)
  first | (intro acts; rw [hret _ acts rfl rfl rfl]) | rw [hret _ _ rfl rfl rfl]
  exact Steps.refl _
end AMK
theorem am_nar (x : Int32) : vp_nar .boolean x = x &&& 1 := rfl
/-- the ways of the machine, whatever it runs -/
def am_K (B : Nat) (sa : Nat → Nat) (cl : List vw_C) (D : va_G) (aC : Nat → ClassId) (Cx : String) (s : State) : Prop :=
  va_K D cl [(aC 0, .int), (aC 1, .boolean), (aC 2, .long), (aC 3, .object Cx)] s
def am_I (B Tk : Nat) (Kf : Nat → Nat → Nat) (aC : Nat → ClassId) (cl : List vw_C) (D : va_G) (s : State) (H : Heap) (locs : List Loc) (S : am_S) (cells : Nat) : Prop :=
  va_P D cl (am_ws B Tk Kf aC S) H ∧ va_S (fun q : Nat => B ≤ q) s.heap H locs ∧ H.size = B + S.1.length ∧ s.heap.size + cells = B + S.1.length ∧ B ≤ s.heap.size
section AMI
variable {p : Program} {l : Launch} {e : Env} {R : Room} {s : State} {m : MethodId} {args : Array Value} {below : List Frame} {meth : Method} {c : Code} {H : Heap} {locs : List Loc} {cells slots : Nat} {Q : State → Prop}
variable {B Tk : Nat} {Kf : Nat → Nat → Nat} {aC : Nat → ClassId} {cl : List vw_C} {D : va_G}
theorem am_ws_lt {S : am_S} (hP : va_P D cl (am_ws B Tk Kf aC S) H) {i : Nat} (hi : i < S.1.length) : B + i < H.size := by
  have h : S.1[i]? = some S.1[i] := List.getElem?_eq_getElem hi
  exact (hP i _ (am_ws_at h)).lt
/-- a new heap of as many cells: the world again -/
theorem am_I_next {S S1 : am_S} {H1 : Heap} {locs1 : List Loc} {g : JFrame} (hI : am_I B Tk Kf aC cl D s H locs S cells) (hS1 : S1.1.length = S.1.length) (hP1 : va_P D cl (am_ws B Tk Kf aC S1) H1) (hS : va_S (fun q : Nat => B ≤ q) s.heap H1 locs1)
    (k : am_I B Tk Kf aC cl D s H1 locs1 S1 cells → W p l e R s m args below meth c H1 locs1 cells slots Q g) : W p l e R s m args below meth c H1 locs1 cells slots Q g := by
  refine am_sized fun hz => k ⟨hP1, hS, ?_, by rw [hS1]; exact hI.2.2.2.1, hI.2.2.2.2⟩
  have h4 := hI.2.2.2.1
  have h5 := hI.2.2.2.2
  rw [hS1]
  refine Nat.le_antisymm (by omega) ?_
  rcases Nat.eq_zero_or_pos S1.1.length with h0 | h0
  · have := hS.1
    omega
  · have := am_ws_lt hP1 (i := S1.1.length - 1) (by omega)
    omega
/-- a new cell lies behind all others -/
theorem am_I_new {S : am_S} {cnew : am_C} {q : Nat} {ee : va_E} {H1 : Heap} {locs1 : List Loc} {g : Nat → JFrame} (hI : am_I B Tk Kf aC cl D s H locs S cells) (he : ee = am_e B Kf aC cnew (fun _ => 0) (fun _ => 0)) (hP1 : va_P D cl (am_ws B Tk Kf aC S ++ [(q, ee)]) H1) (hD1 : va_D (fun q : Nat => B ≤ q) (am_ws B Tk Kf aC S ++ [(q, ee)])) (hS : va_S (fun q : Nat => B ≤ q) s.heap H1 locs1)
    (k : am_I B Tk Kf aC cl D s H1 locs1 (am_new Tk S cnew) (cells + 1) → W p l e R s m args below meth c H1 locs1 (cells + 1) slots Q (g (B + S.1.length))) : W p l e R s m args below meth c H1 locs1 (cells + 1) slots Q (g q) := by
  refine am_sized fun hz => ?_
  subst he
  have hl : (am_ws B Tk Kf aC S ++ [(q, am_e B Kf aC cnew (fun _ => 0) (fun _ => 0))])[S.1.length]? = some (q, am_e B Kf aC cnew (fun _ => 0) (fun _ => 0)) := by
    rw [List.getElem?_append_right (by rw [am_ws_len]; exact Nat.le_refl _), am_ws_len, Nat.sub_self]; rfl
  have hq := (hP1 _ _ hl).lt
  have hq2 := hD1.2 _ _ hl
  have h4 := hI.2.2.2.1
  have hne : ∀ i, i < S.1.length → q ≠ B + i := by
    intro i hi e
    have h1 : (am_ws B Tk Kf aC S ++ [(q, am_e B Kf aC cnew (fun _ => 0) (fun _ => 0))])[i]? = some (B + i, am_e B Kf aC S.1[i] (am_h Tk S i) (S.2.2.2 i)) := by
      rw [List.getElem?_append_left (by rw [am_ws_len]; exact hi)]
      exact am_ws_at (List.getElem?_eq_getElem hi)
    have := hD1.1 _ _ _ _ hl h1 e
    omega
  dsimp only at hq hq2
  have eq : q = B + S.1.length := by
    rcases Nat.lt_trichotomy q (B + S.1.length) with h | h | h
    · exact absurd rfl (fun (_ : q = q) => hne (q - B) (by omega) (by omega))
    · exact h
    · omega
  subst eq
  have hlen : (am_new Tk S cnew).1.length = S.1.length + 1 := by simp [am_new]
  exact k ⟨by rw [am_ws_new]; exact hP1, hS, by rw [hlen]; omega, by rw [hlen]; omega, hI.2.2.2.2⟩
/-- what a frame comes to: from every heap that holds the world -/
def am_G (p : Program) (l : Launch) (e : Env) (R : Room) (s : State) (m : MethodId) (args : Array Value) (below : List Frame) (meth : Method) (c : Code) (Q : State → Prop) (B : Nat) (sa : Nat → Nat) (Tk nL : Nat) (Kf : Nat → Nat → Nat) (aC : Nat → ClassId) (cl : List vw_C) (D : va_G) (F : am_F) (S : am_S) (cells slots : Nat) : Prop :=
  ∀ (H : Heap) (locs : List Loc) (ls : Array Slot), am_I B Tk Kf aC cl D s H locs S cells → lv_has ls nL (am_lm B sa F.2.1) → W p l e R s m args below meth c H locs cells slots Q (F0 m F.1 ls (F.2.2.map (am_v B sa)))
/-- what is known at a method's frame -/
def am_At (Ts : List Jvm.Cond) (p : Program) (s : State) (m : MethodId) (args : Array Value) (meth : Method) (c : Code) (B : Nat) (sa : Nat → Nat) (cl : List vw_C) (D : va_G) (aC : Nat → ClassId) (Cx : String) (M : am_M) : Prop :=
  p.tables.exec = Jvm.exec ∧ c.code = M.2.1 ∧ meth.sig.returnType = M.2.2.2.1 ∧ meth.locks = false ∧ c.maxLocals = M.2.2.1 ∧ s.vm.findClass M.1.cls = some m.cls ∧ (∀ w ∈ Ts, w.before args s = true) ∧ (M.1.name = "<init>" → meth.name = "<init>") ∧ va_K D cl [(aC 0, .int), (aC 1, .boolean), (aC 2, .long), (aC 3, .object Cx)] s
variable {Ts : List Jvm.Cond} {sa : Nat → Nat} {Cx : String} {M : am_M} {lv : am_L} {st : List Value} {S : am_S} {pc : Nat}
/-- steps that leave the heap -/
theorem am_s_push (hA : am_At Ts p s m args meth c B sa cl D aC Cx M) {v : Value} {pc' : Nat}
    (hr : ∀ (H : Heap) (locs : List Loc) (ls : Array Slot) (rest : List Value), W p l e R s m args below meth c H locs cells slots Q (F0 m pc' ls (am_v B sa v :: rest)) → W p l e R s m args below meth c H locs cells slots Q (F0 m pc ls rest))
    (k : am_G p l e R s m args below meth c Q B sa Tk M.2.2.1 Kf aC cl D (pc', lv, v :: st) S cells slots) : am_G p l e R s m args below meth c Q B sa Tk M.2.2.1 Kf aC cl D (pc, lv, st) S cells slots :=
  fun H locs ls hI hl => hr H locs ls _ (k H locs ls hI hl)
end AMI
