/-! CALLS, ENDS, AND THE WHOLE RUN -/
def am_rm (d mc ms : Nat) : Room := { frames := d + 8, cells := mc, slots := ms, locals := 64 * (d + 8) }
def am_Qc (B : Nat) (sa : Nat → Nat) (Tk : Nat) (Kf : Nat → Nat → Nat) (aC : Nat → ClassId) (cl : List vw_C) (D : va_G) (r : Option Value) (S : am_S) : Array Value → State → Outcome → State → Prop := fun _ st o t =>
  o = .returned (r.map (am_v B sa)) ∧ va_P D cl (am_ws B Tk Kf aC S) t.heap ∧ va_F (fun q : Nat => B ≤ q) st t
def am_Pc (B : Nat) (sa : Nat → Nat) (Tk : Nat) (Kf : Nat → Nat → Nat) (aC : Nat → ClassId) (cl : List vw_C) (D : va_G) (Cx : String) (Sg : State → Prop) (As : List Value) (S : am_S) : Array Value → State → Prop :=
  va_Pc (As.map (am_v B sa)) (fun U => U.heap.size = B + S.1.length ∧ va_P D cl (am_ws B Tk Kf aC S) U.heap ∧ va_K D cl [(aC 0, .int), (aC 1, .boolean), (aC 2, .long), (aC 3, .object Cx)] U ∧ Sg U)
/-- the kind of a return -/
def am_rk (k : Nat) (ret : Option FieldType) : Prop := match k with
  | 0 => ret = none
  | 1 => ret = some .int
  | 2 => ret = some .boolean
  | 3 => ret = some .long
  | 4 => ∃ C, ret = some (.object C)
  | _ => False
/-- a contract out of a walk, for a method that no entry of the machine takes the place of -/
theorem am_ofW {l : Launch} {y : MethodName} {ws ws' : List Jvm.Cond} {rm : Room} {Pc : Array Value → State → Prop} {Qc : Array Value → State → Outcome → State → Prop} {mc ms : Nat} {free : Addr → Prop} {cc : ByteArray} {maxL : Nat} {ret : Option FieldType}
    (hy : plainFor y = true) (hw : ws = Jvm.Cond.code y cc maxL ret :: ws')
    (body : ∀ p e s m args below meth c s₁, BodyLoose p l y (headSpec ws rm) cc maxL ret e s m args below meth c s₁ → c.maxLocals = maxL → Pc args s →
      W p l e (headSpec ws rm).room s m args below meth c s.heap [] 0 0 (MQ below Qc args s mc ms free) (entryFrame m args maxL)) : Met l y ws rm Pc Qc mc ms free := by
  refine MetFree.of_bodySF (code := cc) (maxLocals := maxL) (ret := ret) hy ?_ ?_
  · intro args s m h hn
    obtain ⟨meth, c, h1, h2, h3, h4, h5, h6, -, -⟩ := Cond.code_spec hn (atoms_spec (ws := ws) h _ (by rw [hw]; exact List.mem_cons_self))
    exact ⟨meth, c, h1, h2, h3, h4, h5, h6⟩
  · intro p e s m args below meth c s₁ B hml hP _
    have hh0 : s₁.heap = s.heap := by rw [B.state]; rfl
    obtain ⟨t, a1, o, b1, b2, b3⟩ := body p e s m args below meth c s₁ B hml hP s₁ hh0 (Stand.of_body B)
    exact ⟨t, o, a1, b1, b2, ⟨b3.1, b3.2⟩⟩
/-- what the words say of the methods -/
def am_MT (Ts : List Jvm.Cond) (cl : List vw_C) (fl : List am_Fl) (ml : List am_Ml) (Cx : String) (cn : Nat → String) (P : Nat → Option am_M) : Prop := ∀ mi M, P mi = some M →
  plainFor M.1 = true ∧ M.2.2.1 ≤ 40 ∧ am_rk M.2.2.2.2.1 M.2.2.2.1 ∧ cn M.2.2.2.2.2.1 = M.1.cls ∧ (∀ E ∈ M.2.2.2.2.2.2, am_okb Ts cl fl ml Cx M E = true)
def am_ML (Ts : List Jvm.Cond) (cl : List vw_C) (ml : List am_Ml) (cn : Nat → String) (P : Nat → Option am_M) (Sg : State → Prop) : Prop := ∀ (oc idx nst mi n ci kd : Nat), (oc, idx, nst, mi, n, ci, kd) ∈ ml → ∃ M', P mi = some M' ∧ (parseMethodDescriptor M'.1.desc).map (fun d => d.parameters.length) = some n ∧ (Jvm.Cond.code M'.1 M'.2.1 M'.2.2.1 M'.2.2.2.1 ∈ Ts ∧ Jvm.Cond.initialized M'.1.cls ∈ Ts ∧ M'.1.cls ≠ "java/lang/invoke/MethodHandle" ∧ M'.1.cls ≠ "java/lang/invoke/VarHandle") ∧
  ((nst = 0 ∧ Jvm.Cond.methodLink (cn oc) idx M'.1 ∈ Ts) ∨ (∃ host, ∀ U : State, Sg U → va_Nw (.methodLinkNest (cn oc) idx M'.1 host) U)) ∧
  ((kd = 0 ∧ Jvm.Cond.instanceMethod M'.1 ∈ Ts ∧ Jvm.Cond.selects M'.1.cls M'.1 M'.1 ∈ Ts ∧ ∃ r, cl[ci]? = some r ∧ r.1 = M'.1.cls) ∨ (kd = 1 ∧ Jvm.Cond.static M'.1 ∈ Ts) ∨ (kd = 2 ∧ M'.1.name = "<init>" ∧ Jvm.Cond.instanceMethod M'.1 ∈ Ts ∧ M'.2.2.2.1 = none))
theorem am_find_mem {pc : Nat} {E : am_E} : ∀ {l : List am_E}, am_find pc l = some E → E ∈ l ∧ E.1 = pc
  | [], h => by cases h
  | q :: l, h => by
    unfold am_find at h
    cases hb : Nat.beq q.1 pc with
    | true =>
      rw [hb] at h
      have e : q = E := Option.some.inj h
      subst e
      exact ⟨List.mem_cons_self, am_beq hb⟩
    | false =>
      rw [hb] at h
      have ih := am_find_mem h
      exact ⟨List.mem_cons_of_mem _ ih.1, ih.2⟩
theorem am_args_spec : ∀ {n : Nat} {acc st As rest : List Value}, am_args n acc st = some (As, rest) → ∃ xs, As = xs ++ acc ∧ xs.length = n ∧ st = xs.reverse ++ rest
  | 0, acc, st, As, rest, h => by
    cases h
    exact ⟨[], rfl, rfl, rfl⟩
  | n + 1, acc, [], As, rest, h => by cases h
  | n + 1, acc, v :: st, As, rest, h => by
    obtain ⟨xs, h1, h2, h3⟩ := am_args_spec (n := n) (acc := v :: acc) (st := st) h
    exact ⟨xs ++ [v], by rw [h1]; simp, by simp [h2], by rw [h3]; simp⟩
theorem am_lvargs (B : Nat) (sa : Nat → Nat) : ∀ (i : Nat) (As : List Value), lv_args i (As.map (am_v B sa)) = am_lm B sa (lv_args i As)
  | _, [] => rfl
  | i, v :: As => by
    show (i, am_v B sa v) :: lv_args (if (am_v B sa v).category = 2 then i + 2 else i + 1) (As.map (am_v B sa)) = _
    rw [am_v_cat, am_lvargs B sa _ As]
    rfl
theorem am_sl_len : ∀ (As : List Value), (lg_sl As).length = am_cat As
  | [] => rfl
  | v :: As => by
    have ih := am_sl_len As
    unfold lg_sl am_cat at ih ⊢
    rw [List.flatMap_cons, List.length_append, ih, List.map_cons, List.sum_cons]
    rcases lv_cat v with h | h <;> simp [h]
section AMC
variable {p : Program} {l : Launch} {e : Env} {R : Room} {s : State} {m : MethodId} {args : Array Value} {below : List Frame} {meth : Method} {c : Code} {Q : State → Prop}
variable {B Tk : Nat} {sa : Nat → Nat} {Kf : Nat → Nat → Nat} {aC : Nat → ClassId} {cl : List vw_C} {D : va_G} {Ts : List Jvm.Cond} {Cx : String} {M : am_M} {ty0 : Nat → Nat → FieldType} {fl : List am_Fl} {ml : List am_Ml} {cn : Nat → String} {P : Nat → Option am_M} {Sg : State → Prop}
/-- behind a call the world is the callee's -/
theorem am_called {H : Heap} {locs : List Loc} {cells slots mc ms nL pc : Nat} {ls : Array Slot} {st0 rest : List Value} {lv : am_L} {r : Option Value} {S S1 : am_S} {a : Array Value} (hI : am_I B Tk Kf aC cl D s H locs S cells) (hmc : S1.1.length = S.1.length + mc)
    (hr : va_Run p l e R s m args below meth c H locs cells slots mc ms (F0 m pc ls st0) (rest.map (am_v B sa)) (am_Qc B sa Tk Kf aC cl D r S1 a) (fun q : Nat => B ≤ q)) (hl : lv_has ls nL (am_lm B sa lv))
    (k : am_G p l e R s m args below meth c Q B sa Tk nL Kf aC cl D (pc + 3, lv, r.toList ++ rest) S1 (cells + mc) (slots + ms)) : W p l e R s m args below meth c H locs cells slots Q (F0 m pc ls st0) := by
  intro T hT X
  obtain ⟨v, st₀, t, T', L, h0, X', hL, e1, e2, ⟨hv, hP1, hF⟩, st⟩ := hr T hT X
  have hv : v = r.map (am_v B sa) := by cases hv; rfl
  subst hv
  rw [← e1] at hP1
  have hz : T'.heap.size ≤ s.heap.size + (cells + mc) := X'.same.2.2.1
  have hz0 : H.size ≤ T'.heap.size := by have := hF.1; rw [h0, ← e1] at this; exact this
  have hk : ∀ q : Nat, q < H.size → ¬ B ≤ q → T'.heap[q]? = H[q]? := fun q h1 h2 => by
    have := hF.2 q (by rw [h0]; exact h1) h2
    rw [h0, ← e1] at this
    exact this
  have hS1 : va_S (fun q : Nat => B ≤ q) s.heap T'.heap (locs ++ L) := by
    refine ⟨Nat.le_trans hI.2.1.1 hz0, fun q h1 h2 => ?_, fun q hq => ?_⟩
    · rw [hk q (Nat.lt_of_lt_of_le h1 hI.2.1.1) h2]; exact hI.2.1.2.1 q h1 h2
    · rcases List.mem_append.mp hq with h | h
      · exact hI.2.1.2.2 q h
      · exact hL q h
  have h4 := hI.2.2.2.1
  have hI1 : am_I B Tk Kf aC cl D s T'.heap (locs ++ L) S1 (cells + mc) := by
    refine ⟨hP1, hS1, ?_, by rw [hmc]; omega, hI.2.2.2.2⟩
    refine Nat.le_antisymm (by omega) ?_
    rcases Nat.eq_zero_or_pos S1.1.length with h0 | h0
    · have := hI.2.2.1
      omega
    · have := am_ws_lt hP1 (i := S1.1.length - 1) (by omega)
      omega
  obtain ⟨t2, a1, b1⟩ := k T'.heap (locs ++ L) ls hI1 hl T' rfl X'
  have e3 : (r.map (am_v B sa)).toList ++ rest.map (am_v B sa) = (r.toList ++ rest).map (am_v B sa) := by
    cases r <;> simp
  rw [e3] at st
  exact ⟨t2, st t2 a1, b1⟩
theorem am_good (hG : Ts.all goodWord = true) {w : Jvm.Cond} (hw : w ∈ Ts) : GoodIn Ts (w :: Ts) := by
  intro w' h
  have hm : w' ∈ Ts := by
    rcases List.mem_cons.mp h with rfl | h
    · exact hw
    · exact h
  exact ⟨hm, good_of_word (List.all_eq_true.mp hG w' hm)⟩
/-- a method's contract out of the frame at its entry -/
theorem am_met {mi : Nat} (hMT : am_MT Ts cl fl ml Cx cn P) (hP : P mi = some M) {d mc ms : Nat} {As : List Value} {S S1 : am_S} {r : Option Value} (hcat : am_cat As ≤ M.2.2.1) (hB : ∀ U : State, U.heap.size = B + S.1.length → B ≤ U.heap.size) (hmc : S1.1.length = S.1.length + mc) (hms : am_sz S1 = am_sz S + ms)
    (h : ∀ (p : Program) (e : Env) (s : State) (m : MethodId) (args : Array Value) (below : List Frame) (meth : Method) (c : Code), am_At Ts p s m args meth c B sa cl D aC Cx M → Sg s →
      am_G p l e (am_rm d mc ms) s m args below meth c (MQ below (am_Qc B sa Tk Kf aC cl D r S1) args s mc ms (fun q : Nat => B ≤ q)) B sa Tk M.2.2.1 Kf aC cl D (0, lv_args 0 As, []) S 0 0) :
    Met l M.1 (Jvm.Cond.code M.1 M.2.1 M.2.2.1 M.2.2.2.1 :: Ts) (am_rm d mc ms) (am_Pc B sa Tk Kf aC cl D Cx Sg As S) (am_Qc B sa Tk Kf aC cl D r S1) mc ms (fun q : Nat => B ≤ q) := by
  obtain ⟨hpl, hnl, hrk, hcn, hok⟩ := hMT mi M hP
  refine am_ofW (cc := M.2.1) (maxL := M.2.2.1) (ret := M.2.2.2.1) hpl rfl ?_
  intro p e s m args below meth c s₁ Bd hml hv
  obtain ⟨rfl, hsz, hPw, hK, hSg⟩ := hv
  have hts0 := atoms_spec (ws := Jvm.Cond.code M.1 M.2.1 M.2.2.1 M.2.2.2.1 :: Ts) Bd.pre
  have hAt : am_At Ts p s m (As.map (am_v B sa)).toArray meth c B sa cl D aC Cx M :=
    ⟨Bd.exec, Bd.bytes, Bd.returns, Bd.notSynchronized, hml, findClass_of_methodNamed Bd.named, fun w hw => hts0 w (List.mem_cons_of_mem _ hw), fun h => (name_of_methodNamed Bd.named Bd.method).1.trans h, hK⟩
  have hl := lv_entry (As.map (am_v B sa)) (n := M.2.2.1) (by rw [am_sl_len]; have := am_cat_map B sa As; unfold am_cat at this hcat ⊢; rw [this]; exact hcat)
  rw [lg_entry_eq]
  generalize (lg_sl (As.map (am_v B sa)) ++ List.replicate (M.2.2.1 - (lg_sl (As.map (am_v B sa))).length) Slot.unset).toArray = ls at hl ⊢
  rw [am_lvargs] at hl
  exact h p e s m _ below meth c hAt hSg s.heap [] ls ⟨hPw, va_S.rf, hsz, by rw [hsz]; rfl, hB s hsz⟩ hl
end AMC
