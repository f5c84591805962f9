/-! A STEP THAT GOES ON -/
def am_sz (S : am_S) : Nat := (S.1.map (fun c => c.2.1)).sum
/-- a link of a method: number of the class that names it, entry, 1 for a nest mate's, method, its parameters, its class, 0 on an object, 1 static, 2 a constructor -/
abbrev am_Ml : Type := Nat × Nat × Nat × Nat × Nat × Nat × Nat
/-- what is checked of a row, by program -/
def am_okb (Ts : List Jvm.Cond) (cl : List vw_C) (fl : List am_Fl) (ml : List am_Ml) (Cx : String) (M : am_M) (E : am_E) : Bool := match E with
  | (pc, I, a, b, x, z, ts) => match I with
    | .iconst n => decide (decode M.2.1 pc = .ok (.iconst n, 1) ∧ Int32.ofInt n = x)
    | .bipush n => decide (decode M.2.1 pc = .ok (.bipush n, 2) ∧ (Int8.ofInt n).toInt32 = x)
    | .sipush n => decide (decode M.2.1 pc = .ok (.sipush n, 3) ∧ (Int16.ofInt n).toInt32 = x)
    | .ldc i => decide (decode M.2.1 pc = .ok (.ldc i, 2)) && (bif Nat.beq a 0 then decide (Jvm.Cond.constant M.1.cls i x ∈ Ts) else true)
    | .ldc_w i => decide (decode M.2.1 pc = .ok (.ldc_w i, 3) ∧ Jvm.Cond.constant M.1.cls i x ∈ Ts)
    | .lconst n => decide (decode M.2.1 pc = .ok (.lconst n, 1) ∧ Int64.ofNat (n : Nat) = z)
    | .ldc2_w i => decide (decode M.2.1 pc = .ok (.ldc2_w i, 3) ∧ Jvm.Cond.constantLong M.1.cls i z ∈ Ts)
    | .iload i => decide (decode M.2.1 pc = .ok (.iload i, 2))
    | .lload i => decide (decode M.2.1 pc = .ok (.lload i, 2))
    | .aload i => decide (decode M.2.1 pc = .ok (.aload i, 2))
    | .istore i => decide (decode M.2.1 pc = .ok (.istore i, 2))
    | .lstore i => decide (decode M.2.1 pc = .ok (.lstore i, 2))
    | .astore i => decide (decode M.2.1 pc = .ok (.astore i, 2))
    | .iinc i n => decide (decode M.2.1 pc = .ok (.iinc i n, 3) ∧ Int32.ofInt n = x)
    | .ifCond k off => decide (decode M.2.1 pc = .ok (.ifCond k off, 3) ∧ (pc : Int) + off = (a : Int))
    | .if_icmp k off => decide (decode M.2.1 pc = .ok (.if_icmp k off, 3) ∧ (pc : Int) + off = (a : Int))
    | .goto off => decide (decode M.2.1 pc = .ok (.goto off, 3) ∧ (pc : Int) + off = (a : Int))
    | .tableswitch d lo hi offs => decide (decode M.2.1 pc = .ok (.tableswitch d lo hi offs, b) ∧ (pc : Int) + d = (a : Int) ∧ x.toInt = lo ∧ hi + 1 = lo + ts.length ∧ 0 ≤ lo ∧ lo + ts.length < 1000 ∧ offs.toList.map (fun o => (pc : Int) + o) = ts.map (fun (t : Nat) => (t : Int)))
    | .getfield i => decide (decode M.2.1 pc = .ok (.getfield i, 3) ∧ (M.2.2.2.2.2.1, i, ts.headD 0, a, b) ∈ fl)
    | .putfield i => decide (decode M.2.1 pc = .ok (.putfield i, 3) ∧ (M.2.2.2.2.2.1, i, ts.headD 0, a, b) ∈ fl) && (match cl[ts.headD 0]? with
      | some (_, T, _) => decide ((T a).2.2.2 = false ∨ (M.1.name = "<init>" ∧ (T a).1 = M.1.cls))
      | none => false)
    | .newarray t => decide (decode M.2.1 pc = .ok (.newarray t, 2) ∧ ((t = .int ∧ a = 0) ∨ (t = .boolean ∧ a = 1) ∨ (t = .long ∧ a = 2)) ∧ Jvm.Cond.arrayClass (newarray.typeOf t) ∈ Ts)
    | .anewarray i => decide (decode M.2.1 pc = .ok (.anewarray i, 3) ∧ Jvm.Cond.classLink M.1.cls i Cx ∈ Ts)
    | .aastore => decide (decode M.2.1 pc = .ok (.aastore, 1)) && (match cl[a]? with
      | some (C, _, _) => decide (C = Cx)
      | none => false)
    | .new i => decide (decode M.2.1 pc = .ok (.new i, 3)) && (match cl[a]? with
      | some (C, _, N) => decide (b = N ∧ Jvm.Cond.classLink M.1.cls i C ∈ Ts ∧ Jvm.Cond.instantiable C N ∈ Ts ∧ Jvm.Cond.initialized C ∈ Ts)
      | none => false)
    | .invokevirtual i => decide (decode M.2.1 pc = .ok (.invokevirtual i, 3)) && (bif Nat.beq (ts.headD 0) 99 then true else decide ((M.2.2.2.2.2.1, i, 0, a, b, ts.headD 0, 0) ∈ ml ∨ (M.2.2.2.2.2.1, i, 1, a, b, ts.headD 0, 0) ∈ ml))
    | .invokestatic i => decide (decode M.2.1 pc = .ok (.invokestatic i, 3)) && (bif Nat.beq (ts.headD 0) 7 then decide (Jvm.Cond.methodLink M.1.cls i arraycopyName ∈ Ts ∧ Jvm.Cond.native arraycopyName ∈ Ts ∧ Jvm.Cond.static arraycopyName ∈ Ts ∧ Jvm.Cond.initialized "java/lang/System" ∈ Ts) else decide ((M.2.2.2.2.2.1, i, 0, a, b, 0, 1) ∈ ml ∨ (M.2.2.2.2.2.1, i, 1, a, b, 0, 1) ∈ ml))
    | .invokespecial i => decide (decode M.2.1 pc = .ok (.invokespecial i, 3)) && (bif Nat.beq (ts.headD 0) 6 then decide (b = 0 ∧ Jvm.Cond.methodLink M.1.cls i Lib.objectInit ∈ Ts ∧ Jvm.Cond.instanceMethod Lib.objectInit ∈ Ts ∧ Jvm.Cond.code Lib.objectInit ⟨#[0xb1]⟩ 1 none ∈ Ts) else decide ((M.2.2.2.2.2.1, i, 0, a, b, 0, 2) ∈ ml ∨ (M.2.2.2.2.2.1, i, 1, a, b, 0, 2) ∈ ml))
    | I => decide (decode M.2.1 pc = .ok (I, 1))
section AMT
variable {p : Program} {l : Launch} {e : Env} {R : Room} {s : State} {m : MethodId} {args : Array Value} {below : List Frame} {meth : Method} {c : Code} {Q : State → Prop}
variable {B Tk : Nat} {sa : Nat → Nat} {Kf : Nat → Nat → Nat} {aC : Nat → ClassId} {cl : List vw_C} {D : va_G} {Ts : List Jvm.Cond} {Cx : String} {M : am_M} {ty0 : Nat → Nat → FieldType} {fl : List am_Fl} {ml : List am_Ml} {cn : Nat → String}
def am_Stp (p : Program) (l : Launch) (e : Env) (R : Room) (s : State) (m : MethodId) (args : Array Value) (below : List Frame) (meth : Method) (c : Code) (Q : State → Prop) (B : Nat) (sa : Nat → Nat) (Tk nL : Nat) (Kf : Nat → Nat → Nat) (aC : Nat → ClassId) (cl : List vw_C) (D : va_G) (F : am_F) (S : am_S) (F' : am_F) (S' : am_S) : Prop :=
  ∃ dc ds, S'.1.length = S.1.length + dc ∧ am_sz S' = am_sz S + ds ∧ ∀ cells slots, cells + dc ≤ R.cells → slots + ds ≤ R.slots →
    am_G p l e R s m args below meth c Q B sa Tk nL Kf aC cl D F' S' (cells + dc) (slots + ds) → am_G p l e R s m args below meth c Q B sa Tk nL Kf aC cl D F S cells slots
theorem am_Stp.same {nL : Nat} {F F' : am_F} {S S' : am_S} (h1 : S'.1.length = S.1.length) (h2 : am_sz S' = am_sz S)
    (k : ∀ cells slots, am_G p l e R s m args below meth c Q B sa Tk nL Kf aC cl D F' S' cells slots → am_G p l e R s m args below meth c Q B sa Tk nL Kf aC cl D F S cells slots) : am_Stp p l e R s m args below meth c Q B sa Tk nL Kf aC cl D F S F' S' :=
  ⟨0, 0, h1, h2, fun cells slots _ _ h => k cells slots h⟩
/-- steps that leave the heap as it is: by the row of the real machine -/
theorem am_Stp.row {nL : Nat} {pc pc' : Nat} {lv : am_L} {st st' : List Value} {S : am_S}
    (k : ∀ (H : Heap) (locs : List Loc) (cells slots : Nat) (ls : Array Slot), lv_has ls nL (am_lm B sa lv) → W p l e R s m args below meth c H locs cells slots Q (F0 m pc' ls (st'.map (am_v B sa))) → W p l e R s m args below meth c H locs cells slots Q (F0 m pc ls (st.map (am_v B sa)))) :
    am_Stp p l e R s m args below meth c Q B sa Tk nL Kf aC cl D (pc, lv, st) S (pc', lv, st') S :=
  am_Stp.same rfl rfl fun cells slots h H locs ls hI hl => k H locs cells slots ls hl (h H locs ls hI hl)
/-- steps that store a local -/
theorem am_Stp.loc {nL : Nat} {pc pc' : Nat} {lv lv' : am_L} {st st' : List Value} {S : am_S}
    (k : ∀ (H : Heap) (locs : List Loc) (cells slots : Nat) (ls : Array Slot), lv_has ls nL (am_lm B sa lv) → (∀ ls' : Array Slot, lv_has ls' nL (am_lm B sa lv') → W p l e R s m args below meth c H locs cells slots Q (F0 m pc' ls' (st'.map (am_v B sa)))) → W p l e R s m args below meth c H locs cells slots Q (F0 m pc ls (st.map (am_v B sa)))) :
    am_Stp p l e R s m args below meth c Q B sa Tk nL Kf aC cl D (pc, lv, st) S (pc', lv', st') S :=
  am_Stp.same rfl rfl fun cells slots h H locs ls hI hl => k H locs cells slots ls hl (fun ls' hl' => h H locs ls' hI hl')
/-- steps that change a cell -/
theorem am_Stp.put {nL : Nat} {pc pc' : Nat} {lv : am_L} {st st' : List Value} {S S' : am_S} (h1 : S'.1.length = S.1.length) (h2 : am_sz S' = am_sz S)
    (k : ∀ (H : Heap) (locs : List Loc) (cells slots : Nat) (ls : Array Slot), va_P D cl (am_ws B Tk Kf aC S) H → va_S (fun q : Nat => B ≤ q) s.heap H locs → lv_has ls nL (am_lm B sa lv) → (∀ (H1 : Heap) (locs1 : List Loc), va_P D cl (am_ws B Tk Kf aC S') H1 → va_S (fun q : Nat => B ≤ q) s.heap H1 locs1 → W p l e R s m args below meth c H1 locs1 cells slots Q (F0 m pc' ls (st'.map (am_v B sa)))) → W p l e R s m args below meth c H locs cells slots Q (F0 m pc ls (st.map (am_v B sa)))) :
    am_Stp p l e R s m args below meth c Q B sa Tk nL Kf aC cl D (pc, lv, st) S (pc', lv, st') S' :=
  am_Stp.same h1 h2 fun cells slots h H locs ls hI hl => k H locs cells slots ls hI.1 hI.2.1 hl (fun H1 locs1 hP1 hS1 => am_I_next hI h1 hP1 hS1 (fun hI1 => h H1 locs1 ls hI1 hl))
theorem am_sz_w (S : am_S) (i : Nat) (f : Nat → Int32) : am_sz (am_w Tk S i f) = am_sz S := by unfold am_sz; rw [am_w_1]
theorem am_sz_set {S : am_S} {i t n : Nat} {rs rs' : List (Option Nat)} (h : S.1[i]? = some (t, n, rs)) : am_sz (S.1.set i (t, n, rs'), S.2) = am_sz S := by
  unfold am_sz
  congr 1
  apply List.ext_getElem?
  intro k
  rw [List.getElem?_map, List.getElem?_map, List.getElem?_set]
  by_cases he : i = k
  · subst he
    have hi := (List.getElem?_eq_some_iff.mp h).1
    rw [if_pos rfl, if_pos hi, h]
    rfl
  · rw [if_neg he]
theorem am_sz_new (S : am_S) (c : am_C) : am_sz (am_new Tk S c) = am_sz S + c.2.1 := by
  unfold am_sz am_new
  simp
theorem am_if_row {k : Jvm.ClassFile.Cond} {cc : ByteArray} {pc a : Nat} {off : Int} (hexec : p.tables.exec = Jvm.exec) (hb : c.code = cc) (hd : decode cc pc = .ok (.ifCond k off, 3)) (ht : (pc : Int) + off = (a : Int)) {H : Heap} {locs : List Loc} {cells slots : Nat} {ls : Array Slot} {x : Int32} {rest : List Value}
    (h : W p l e R s m args below meth c H locs cells slots Q (F0 m (am_cnd k x 0 a (pc + 3)) ls rest)) : W p l e R s m args below meth c H locs cells slots Q (F0 m pc ls (.int x :: rest)) := by
  cases k
  · exact lv_if_eq hexec hb hd ht (fun q => by simpa only [am_cnd, if_pos q] using h) (fun q => by simpa only [am_cnd, if_neg q] using h)
  · exact lv_if_ne hexec hb hd ht (fun q => by simpa only [am_cnd, if_neg q] using h) (fun q => by simpa only [am_cnd, if_pos q] using h)
  · exact lv_if_lt hexec hb hd ht (fun q => by simpa only [am_cnd, if_pos q] using h) (fun q => by simpa only [am_cnd, if_neg q] using h)
  · exact lv_if_ge hexec hb hd ht (fun q => by simpa only [am_cnd, if_neg (Int32.not_lt.mpr q)] using h) (fun q => by simpa only [am_cnd, if_pos (Int32.not_le.mp q)] using h)
  · exact lv_if_gt hexec hb hd ht (fun q => by simpa only [am_cnd, if_pos q] using h) (fun q => by simpa only [am_cnd, if_neg q] using h)
  · exact lv_if_le hexec hb hd ht (fun q => by simpa only [am_cnd, if_neg (Int32.not_lt.mpr q)] using h) (fun q => by simpa only [am_cnd, if_pos (Int32.not_le.mp q)] using h)
theorem am_icmp_row {k : Jvm.ClassFile.Cond} {cc : ByteArray} {pc a : Nat} {off : Int} (hexec : p.tables.exec = Jvm.exec) (hb : c.code = cc) (hd : decode cc pc = .ok (.if_icmp k off, 3)) (ht : (pc : Int) + off = (a : Int)) {H : Heap} {locs : List Loc} {cells slots : Nat} {ls : Array Slot} {x y : Int32} {rest : List Value}
    (h : W p l e R s m args below meth c H locs cells slots Q (F0 m (am_cnd k x y a (pc + 3)) ls rest)) : W p l e R s m args below meth c H locs cells slots Q (F0 m pc ls (.int y :: .int x :: rest)) := by
  cases k
  · exact lv_icmp_eq hexec hb hd ht (fun q => by simpa only [am_cnd, if_pos q] using h) (fun q => by simpa only [am_cnd, if_neg q] using h)
  · exact lv_icmp_ne hexec hb hd ht (fun q => by simpa only [am_cnd, if_neg q] using h) (fun q => by simpa only [am_cnd, if_pos q] using h)
  · exact lv_icmp_lt hexec hb hd ht (fun q => by simpa only [am_cnd, if_pos q] using h) (fun q => by simpa only [am_cnd, if_neg q] using h)
  · exact lv_icmp_ge hexec hb hd ht (fun q => by simpa only [am_cnd, if_neg (Int32.not_lt.mpr q)] using h) (fun q => by simpa only [am_cnd, if_pos (Int32.not_le.mp q)] using h)
  · exact lv_icmp_gt hexec hb hd ht (fun q => by simpa only [am_cnd, if_pos q] using h) (fun q => by simpa only [am_cnd, if_neg q] using h)
  · exact lv_icmp_le hexec hb hd ht (fun q => by simpa only [am_cnd, if_neg (Int32.not_lt.mpr q)] using h) (fun q => by simpa only [am_cnd, if_pos (Int32.not_le.mp q)] using h)
end AMT
