/-! AN ABSTRACT MACHINE for code whose objects and arrays are numbered in the order in which they are made: a reference is a number, the cells are a list of shapes beside their contents. am_ax runs a method there; part 02 shows that what it answers, the real machine answers. -/
/-- a cell's shape: 0 int[], 1 boolean[], 2 long[], 3 an array of references, 4 + k an object of class k; how many places; the references in them -/
abbrev am_C : Type := Nat × Nat × List (Option Nat)
/-- shapes; contents of the first bank's cells, of the second bank's, longs -/
abbrev am_S : Type := List am_C × (Nat → Nat → Int32) × (Nat → Nat → Int32) × (Nat → Nat → Int64)
abbrev am_L : Type := List (Nat × Value)
abbrev am_F : Type := Nat × am_L × List Value
/-- what a step is: on to a frame and a heap; a call; an end -/
abbrev am_A : Type := (am_F × am_S) ⊕ ((Nat × List Value × am_F) ⊕ Option Value)
/-- an instruction's row: place, instruction, and what it was resolved to: two numbers, an int, a long, numbers -/
abbrev am_E : Type := Nat × Instr × Nat × Nat × Int32 × Int64 × List Nat
/-- a method: name, bytes, locals, return type, its kind (0 void, 1 int, 2 boolean, 3 long, 4 a reference), number of its class, rows -/
abbrev am_M : Type := MethodName × ByteArray × Nat × Option FieldType × Nat × Nat × List am_E
def am_find (pc : Nat) : List am_E → Option am_E
  | [] => none
  | e :: l => bif Nat.beq e.1 pc then some e else am_find pc l
def am_loc (i : Nat) : am_L → Option Value
  | [] => none
  | q :: l => bif Nat.beq q.1 i then some q.2 else am_loc i l
def am_st1 (lv : am_L) (i : Nat) (v : Value) : am_L := (i, v) :: lv.filter (fun q => !(q.1 == i) && !(q.1 + 1 == i && q.2.category == 2))
def am_st2 (lv : am_L) (i : Nat) (v : Value) : am_L := (i, v) :: lv.filter (fun q => !(q.1 == i) && (!(q.1 == i + 1) && !(q.1 + 1 == i && q.2.category == 2)))
section AM
variable (Tk : Nat)
/-- the content of cell i: cells below Tk lie in the first bank -/
def am_h (S : am_S) (i : Nat) : Nat → Int32 := bif Nat.blt i Tk then S.2.1 i else S.2.2.1 i
def am_w (S : am_S) (i : Nat) (f : Nat → Int32) : am_S := bif Nat.blt i Tk then (S.1, va_up S.2.1 i f, S.2.2.1, S.2.2.2) else (S.1, S.2.1, va_up S.2.2.1 i f, S.2.2.2)
def am_wl (S : am_S) (i : Nat) (f : Nat → Int64) : am_S := (S.1, S.2.1, S.2.2.1, va_up S.2.2.2 i f)
def am_new (S : am_S) (c : am_C) : am_S := (S.1 ++ [c], (bif Nat.blt S.1.length Tk then va_up S.2.1 S.1.length (fun _ => 0) else S.2.1), (bif Nat.blt S.1.length Tk then S.2.2.1 else va_up S.2.2.1 S.1.length (fun _ => 0)), va_up S.2.2.2 S.1.length (fun _ => 0))
end AM
def am_nx (pc : Nat) (lv : am_L) (st : List Value) (S : am_S) : Option am_A := some (.inl ((pc, lv, st), S))
def am_i1 (f : Int32 → Int32) (pc : Nat) (lv : am_L) (st : List Value) (S : am_S) : Option am_A := match st with
  | .int x :: st => am_nx pc lv (.int (f x) :: st) S
  | _ => none
def am_i2 (f : Int32 → Int32 → Int32) (pc : Nat) (lv : am_L) (st : List Value) (S : am_S) : Option am_A := match st with
  | .int y :: .int x :: st => am_nx pc lv (.int (f x y) :: st) S
  | _ => none
def am_iz (f : Int32 → Int32 → Int32) (pc : Nat) (lv : am_L) (st : List Value) (S : am_S) : Option am_A := match st with
  | .int y :: .int x :: st => if y = 0 then none else am_nx pc lv (.int (f x y) :: st) S
  | _ => none
def am_l1 (f : Int64 → Int64) (pc : Nat) (lv : am_L) (st : List Value) (S : am_S) : Option am_A := match st with
  | .long x :: st => am_nx pc lv (.long (f x) :: st) S
  | _ => none
def am_l2 (f : Int64 → Int64 → Int64) (pc : Nat) (lv : am_L) (st : List Value) (S : am_S) : Option am_A := match st with
  | .long y :: .long x :: st => am_nx pc lv (.long (f x y) :: st) S
  | _ => none
def am_lz (f : Int64 → Int64 → Int64) (pc : Nat) (lv : am_L) (st : List Value) (S : am_S) : Option am_A := match st with
  | .long y :: .long x :: st => if y = 0 then none else am_nx pc lv (.long (f x y) :: st) S
  | _ => none
def am_li (f : Int64 → Int32 → Int64) (pc : Nat) (lv : am_L) (st : List Value) (S : am_S) : Option am_A := match st with
  | .int y :: .long x :: st => am_nx pc lv (.long (f x y) :: st) S
  | _ => none
def am_lc (pc : Nat) (lv : am_L) (st : List Value) (S : am_S) : Option am_A := match st with
  | .long y :: .long x :: st => am_nx pc lv (.int (lg_cmp x y) :: st) S
  | _ => none
def am_wd (pc : Nat) (lv : am_L) (st : List Value) (S : am_S) : Option am_A := match st with
  | .int x :: st => am_nx pc lv (.long x.toInt64 :: st) S
  | _ => none
def am_nr (pc : Nat) (lv : am_L) (st : List Value) (S : am_S) : Option am_A := match st with
  | .long x :: st => am_nx pc lv (.int x.toInt32 :: st) S
  | _ => none
def am_ldi (i pc : Nat) (lv : am_L) (st : List Value) (S : am_S) : Option am_A := match am_loc i lv with
  | some (.int x) => am_nx pc lv (.int x :: st) S
  | _ => none
def am_ldl (i pc : Nat) (lv : am_L) (st : List Value) (S : am_S) : Option am_A := match am_loc i lv with
  | some (.long x) => am_nx pc lv (.long x :: st) S
  | _ => none
def am_lda (i pc : Nat) (lv : am_L) (st : List Value) (S : am_S) : Option am_A := match am_loc i lv with
  | some (.ref x) => am_nx pc lv (.ref x :: st) S
  | some (.retAddr x) => am_nx pc lv (.retAddr x :: st) S
  | _ => none
def am_sti (nL i pc : Nat) (lv : am_L) (st : List Value) (S : am_S) : Option am_A := match st with
  | .int x :: st => bif Nat.blt i nL then am_nx pc (am_st1 lv i (.int x)) st S else none
  | _ => none
def am_sta (nL i pc : Nat) (lv : am_L) (st : List Value) (S : am_S) : Option am_A := match st with
  | .ref x :: st => bif Nat.blt i nL then am_nx pc (am_st1 lv i (.ref x)) st S else none
  | _ => none
def am_stl (nL i pc : Nat) (lv : am_L) (st : List Value) (S : am_S) : Option am_A := match st with
  | .long x :: st => bif Nat.blt (i + 1) nL then am_nx pc (am_st2 lv i (.long x)) st S else none
  | _ => none
def am_inc (nL i pc : Nat) (d : Int32) (lv : am_L) (st : List Value) (S : am_S) : Option am_A := match am_loc i lv with
  | some (.int x) => bif Nat.blt i nL then am_nx pc (am_st1 lv i (.int (x + d))) st S else none
  | _ => none
def am_dup (pc : Nat) (lv : am_L) (st : List Value) (S : am_S) : Option am_A := match st with
  | .int x :: st => am_nx pc lv (.int x :: .int x :: st) S
  | .ref x :: st => am_nx pc lv (.ref x :: .ref x :: st) S
  | _ => none
def am_dx1 (pc : Nat) (lv : am_L) (st : List Value) (S : am_S) : Option am_A := match st with
  | .int x :: .ref y :: st => am_nx pc lv (.int x :: .ref y :: .int x :: st) S
  | .int x :: .int y :: st => am_nx pc lv (.int x :: .int y :: .int x :: st) S
  | _ => none
def am_dp2 (pc : Nat) (lv : am_L) (st : List Value) (S : am_S) : Option am_A := match st with
  | .int x :: .ref y :: st => am_nx pc lv (.int x :: .ref y :: .int x :: .ref y :: st) S
  | .int x :: .int y :: st => am_nx pc lv (.int x :: .int y :: .int x :: .int y :: st) S
  | .long x :: st => am_nx pc lv (.long x :: .long x :: st) S
  | _ => none
def am_pop (pc : Nat) (lv : am_L) (st : List Value) (S : am_S) : Option am_A := match st with
  | .int _ :: st => am_nx pc lv st S
  | .ref _ :: st => am_nx pc lv st S
  | _ => none
/-- a branch: where to, by a condition -/
def am_cnd (k : Jvm.ClassFile.Cond) (x y : Int32) (t f : Nat) : Nat := match k with
  | .eq => if x = y then t else f
  | .ne => if x = y then f else t
  | .lt => if x < y then t else f
  | .ge => if x < y then f else t
  | .gt => if y < x then t else f
  | .le => if y < x then f else t
def am_if1 (k : Jvm.ClassFile.Cond) (t f : Nat) (lv : am_L) (st : List Value) (S : am_S) : Option am_A := match st with
  | .int x :: st => am_nx (am_cnd k x 0 t f) lv st S
  | _ => none
def am_if2 (k : Jvm.ClassFile.Cond) (t f : Nat) (lv : am_L) (st : List Value) (S : am_S) : Option am_A := match st with
  | .int y :: .int x :: st => am_nx (am_cnd k x y t f) lv st S
  | _ => none
def am_sw (x lo : Int32) (d : Nat) : List Nat → Nat
  | [] => d
  | t :: ts => if x = lo then t else am_sw x (lo + 1) d ts
def am_tsw (lo : Int32) (d : Nat) (ts : List Nat) (lv : am_L) (st : List Value) (S : am_S) : Option am_A := match st with
  | .int x :: st => am_nx (am_sw x lo d ts) lv st S
  | _ => none
/-- pops n values: the deepest first -/
def am_args : Nat → List Value → List Value → Option (List Value × List Value)
  | 0, acc, st => some (acc, st)
  | _ + 1, _, [] => none
  | n + 1, acc, v :: st => am_args n (v :: acc) st
def am_cat (st : List Value) : Nat := (st.map fun v => v.category).sum
/-- a call on an object of class ci, of a static method, of a constructor, of Object's own -/
def am_cv (mi n ci pc : Nat) (lv : am_L) (st : List Value) (S : am_S) : Option am_A := match am_args n [] st with
  | some (As, .ref i :: rest) => (match S.1[i]? with
    | some (t, _, _) => bif Nat.beq t (ci + 4) && Nat.ble (am_cat rest) 8 then some (.inr (.inl (mi, .ref i :: As, (pc, lv, rest)))) else none
    | none => none)
  | _ => none
def am_cs (mi n pc : Nat) (lv : am_L) (st : List Value) : Option am_A := match am_args n [] st with
  | some (As, rest) => bif Nat.ble (am_cat rest) 8 then some (.inr (.inl (mi, As, (pc, lv, rest)))) else none
  | none => none
def am_ci (mi n pc : Nat) (lv : am_L) (st : List Value) : Option am_A := match am_args n [] st with
  | some (As, .ref i :: rest) => bif Nat.ble (am_cat rest) 8 then some (.inr (.inl (mi, .ref i :: As, (pc, lv, rest)))) else none
  | _ => none
def am_co (pc : Nat) (lv : am_L) (st : List Value) (S : am_S) : Option am_A := match st with
  | .ref _ :: rest => bif Nat.ble (am_cat rest) 8 then am_nx pc lv rest S else none
  | _ => none
def am_gf (k kd ci pc : Nat) (lv : am_L) (st : List Value) (S : am_S) (Tk : Nat) : Option am_A := match st with
  | .ref i :: st => (match S.1[i]? with
    | some (t, n, rs) => bif Nat.beq t (ci + 4) && Nat.blt k n then (match kd with
      | 0 => am_nx pc lv (.int (am_h Tk S i k) :: st) S
      | 1 => am_nx pc lv (.int (am_h Tk S i k) :: st) S
      | 2 => am_nx pc lv (.long (S.2.2.2 i k) :: st) S
      | _ => (match rs[k]? with
        | some (some j) => am_nx pc lv (.ref j :: st) S
        | _ => none)) else none
    | none => none)
  | _ => none
def am_pf (k kd ci pc : Nat) (lv : am_L) (st : List Value) (S : am_S) (Tk : Nat) : Option am_A := match kd, st with
  | 0, .int x :: .ref i :: st => (match S.1[i]? with
    | some (t, n, _) => bif Nat.beq t (ci + 4) && Nat.blt k n then am_nx pc lv st (am_w Tk S i (upd (am_h Tk S i) k x)) else none
    | none => none)
  | 1, .int x :: .ref i :: st => (match S.1[i]? with
    | some (t, n, _) => bif Nat.beq t (ci + 4) && Nat.blt k n then (if x &&& 1 = x then am_nx pc lv st (am_w Tk S i (upd (am_h Tk S i) k x)) else none) else none
    | none => none)
  | 2, .long x :: .ref i :: st => (match S.1[i]? with
    | some (t, n, _) => bif Nat.beq t (ci + 4) && Nat.blt k n then am_nx pc lv st (am_wl S i (vp_updL (S.2.2.2 i) k x)) else none
    | none => none)
  | 3, .ref j :: .ref i :: st => (match S.1[i]? with
    | some (t, n, rs) => bif Nat.beq t (ci + 4) && (Nat.blt k n && Nat.blt k rs.length) then am_nx pc lv st (S.1.set i (t, n, rs.set k (some j)), S.2) else none
    | none => none)
  | _, _ => none
/-- an array of ints, or of booleans: tag -/
def am_ald (tag pc : Nat) (lv : am_L) (st : List Value) (S : am_S) (Tk : Nat) : Option am_A := match st with
  | .int j :: .ref i :: st => (match S.1[i]? with
    | some (t, n, _) => bif Nat.beq t tag then (if j < 0 ∨ n ≤ j.toNatClampNeg then none else am_nx pc lv (.int (am_h Tk S i j.toNatClampNeg) :: st) S) else none
    | none => none)
  | _ => none
def am_ast (pc : Nat) (lv : am_L) (st : List Value) (S : am_S) (Tk : Nat) : Option am_A := match st with
  | .int x :: .int j :: .ref i :: st => (match S.1[i]? with
    | some (t, n, _) => bif Nat.beq t 0 then (if j < 0 ∨ n ≤ j.toNatClampNeg then none else am_nx pc lv st (am_w Tk S i (upd (am_h Tk S i) j.toNatClampNeg x))) else none
    | none => none)
  | _ => none
def am_bst (pc : Nat) (lv : am_L) (st : List Value) (S : am_S) (Tk : Nat) : Option am_A := match st with
  | .int x :: .int j :: .ref i :: st => (match S.1[i]? with
    | some (t, n, _) => bif Nat.beq t 1 then (if j < 0 ∨ n ≤ j.toNatClampNeg then none else am_nx pc lv st (am_w Tk S i (upd (am_h Tk S i) j.toNatClampNeg (x &&& 1)))) else none
    | none => none)
  | _ => none
def am_lld (pc : Nat) (lv : am_L) (st : List Value) (S : am_S) : Option am_A := match st with
  | .int j :: .ref i :: st => (match S.1[i]? with
    | some (t, n, _) => bif Nat.beq t 2 then (if j < 0 ∨ n ≤ j.toNatClampNeg then none else am_nx pc lv (.long (S.2.2.2 i j.toNatClampNeg) :: st) S) else none
    | none => none)
  | _ => none
def am_lst (pc : Nat) (lv : am_L) (st : List Value) (S : am_S) : Option am_A := match st with
  | .long x :: .int j :: .ref i :: st => (match S.1[i]? with
    | some (t, n, _) => bif Nat.beq t 2 then (if j < 0 ∨ n ≤ j.toNatClampNeg then none else am_nx pc lv st (am_wl S i (vp_updL (S.2.2.2 i) j.toNatClampNeg x))) else none
    | none => none)
  | _ => none
def am_rld (pc : Nat) (lv : am_L) (st : List Value) (S : am_S) : Option am_A := match st with
  | .int j :: .ref i :: st => (match S.1[i]? with
    | some (t, n, rs) => bif Nat.beq t 3 then (if j < 0 ∨ n ≤ j.toNatClampNeg then none else (match rs[j.toNatClampNeg]? with
      | some (some k) => am_nx pc lv (.ref k :: st) S
      | _ => none)) else none
    | none => none)
  | _ => none
/-- into an array of references: an object of class ci -/
def am_rst (ci pc : Nat) (lv : am_L) (st : List Value) (S : am_S) : Option am_A := match st with
  | .ref k :: .int j :: .ref i :: st => (match S.1[i]?, S.1[k]? with
    | some (t, n, rs), some (t', _, _) => bif Nat.beq t 3 && (Nat.beq t' (ci + 4) && Nat.blt j.toNatClampNeg rs.length) then (if j < 0 ∨ n ≤ j.toNatClampNeg then none else am_nx pc lv st (S.1.set i (t, n, rs.set j.toNatClampNeg (some k)), S.2)) else none
    | _, _ => none)
  | _ => none
def am_len (pc : Nat) (lv : am_L) (st : List Value) (S : am_S) : Option am_A := match st with
  | .ref i :: st => (match S.1[i]? with
    | some (t, n, _) => bif Nat.blt t 4 then am_nx pc lv (.int (Int32.ofNat n) :: st) S else none
    | none => none)
  | _ => none
def am_mka (tag pc : Nat) (lv : am_L) (st : List Value) (S : am_S) (Tk : Nat) : Option am_A := match st with
  | .int n :: st => if n < 0 ∨ 1000000 ≤ n.toNatClampNeg then none else am_nx pc lv (.ref S.1.length :: st) (am_new Tk S (tag, n.toNatClampNeg, bif Nat.beq tag 3 then List.replicate n.toNatClampNeg none else []))
  | _ => none
/-- System.arraycopy over ints -/
def am_cpy (pc : Nat) (lv : am_L) (st : List Value) (S : am_S) (Tk : Nat) : Option am_A := match st with
  | .int n :: .int dp :: .ref i1 :: .int sp :: .ref i0 :: st => (match S.1[i0]?, S.1[i1]? with
    | some (t0, n0, _), some (t1, n1, _) => bif Nat.beq t0 0 && (Nat.beq t1 0 && Nat.ble (am_cat st) 8) then (if (sp < 0 ∨ dp < 0) ∨ (n < 0 ∨ n0 < sp.toNatClampNeg + n.toNatClampNeg) ∨ n1 < dp.toNatClampNeg + n.toNatClampNeg then none else am_nx pc lv st (am_w Tk S i1 (va_cpy (am_h Tk S i0) (am_h Tk S i1) sp.toNatClampNeg dp.toNatClampNeg n.toNatClampNeg))) else none
    | _, _ => none)
  | _ => none
/-- the script: its ints, how many -/
def am_isX : List Value → Bool
  | _ :: .retAddr _ :: _ => true
  | _ => false
def am_isY : List Value → Bool
  | .retAddr _ :: _ => true
  | _ => false
def am_xld (Xs : Nat × (Nat → Int32)) (pc : Nat) (lv : am_L) (st : List Value) (S : am_S) : Option am_A := match st with
  | .int j :: .retAddr k :: st => bif Nat.beq k 1 then (if j < 0 ∨ Xs.1 ≤ j.toNatClampNeg then none else am_nx pc lv (.int (Xs.2 j.toNatClampNeg) :: st) S) else none
  | _ => none
def am_xln (Xs : Nat × (Nat → Int32)) (pc : Nat) (lv : am_L) (st : List Value) (S : am_S) : Option am_A := match st with
  | .retAddr k :: st => bif Nat.beq k 1 then am_nx pc lv (.int (Int32.ofNat Xs.1) :: st) S else none
  | _ => none
/-- charAt of the constant text: its signs -/
def am_chr (ts : List Nat) (pc : Nat) (lv : am_L) (st : List Value) (S : am_S) : Option am_A := match st with
  | .int j :: .retAddr k :: st => bif Nat.beq k 0 && Nat.ble (am_cat st) 8 then (if j < 0 ∨ ts.length ≤ j.toNatClampNeg then none else am_nx pc lv (.int (Int32.ofNat (ts.getD j.toNatClampNeg 0)) :: st) S) else none
  | _ => none
def am_ret (rt : Nat) (st : List Value) : Option am_A := match rt, st with
  | 1, [.int x] => some (.inr (.inr (some (.int x))))
  | 2, [.int x] => some (.inr (.inr (some (.int (x &&& 1)))))
  | _, _ => none
def am_rtl (rt : Nat) (st : List Value) : Option am_A := match rt, st with
  | 3, [.long x] => some (.inr (.inr (some (.long x))))
  | _, _ => none
def am_rta (rt : Nat) (st : List Value) : Option am_A := match rt, st with
  | 4, [.ref x] => some (.inr (.inr (some (.ref x))))
  | _, _ => none
def am_rtv (rt : Nat) (st : List Value) : Option am_A := match rt, st with
  | 0, [] => some (.inr (.inr none))
  | _, _ => none
def am_step (Tk : Nat) (Xs : Nat × (Nat → Int32)) (nL rt : Nat) (E : am_E) (lv : am_L) (st : List Value) (S : am_S) : Option am_A := match E with
  | (pc, I, a, b, x, z, ts) => match I with
    | .iconst _ => am_nx (pc + 1) lv (.int x :: st) S
    | .bipush _ => am_nx (pc + 2) lv (.int x :: st) S
    | .sipush _ => am_nx (pc + 3) lv (.int x :: st) S
    | .ldc _ => bif Nat.beq a 0 then am_nx (pc + 2) lv (.int x :: st) S else am_nx (pc + 2) lv (.retAddr 0 :: st) S
    | .ldc_w _ => am_nx (pc + 3) lv (.int x :: st) S
    | .lconst _ => am_nx (pc + 1) lv (.long z :: st) S
    | .ldc2_w _ => am_nx (pc + 3) lv (.long z :: st) S
    | .iload i => am_ldi i (pc + 2) lv st S
    | .iload_n i => am_ldi i (pc + 1) lv st S
    | .lload i => am_ldl i (pc + 2) lv st S
    | .lload_n i => am_ldl i (pc + 1) lv st S
    | .aload i => am_lda i (pc + 2) lv st S
    | .aload_n i => am_lda i (pc + 1) lv st S
    | .istore i => am_sti nL i (pc + 2) lv st S
    | .istore_n i => am_sti nL i (pc + 1) lv st S
    | .lstore i => am_stl nL i (pc + 2) lv st S
    | .lstore_n i => am_stl nL i (pc + 1) lv st S
    | .astore i => am_sta nL i (pc + 2) lv st S
    | .astore_n i => am_sta nL i (pc + 1) lv st S
    | .iinc i _ => am_inc nL i (pc + 3) x lv st S
    | .iadd => am_i2 (fun x y => x + y) (pc + 1) lv st S
    | .isub => am_i2 (fun x y => x - y) (pc + 1) lv st S
    | .imul => am_i2 (fun x y => x * y) (pc + 1) lv st S
    | .iand => am_i2 (fun x y => x &&& y) (pc + 1) lv st S
    | .ior => am_i2 (fun x y => x ||| y) (pc + 1) lv st S
    | .ixor => am_i2 (fun x y => x ^^^ y) (pc + 1) lv st S
    | .ishl => am_i2 (fun x y => x <<< (y &&& 31)) (pc + 1) lv st S
    | .ishr => am_i2 (fun x y => x >>> (y &&& 31)) (pc + 1) lv st S
    | .iushr => am_i2 (fun x y => (x.toUInt32 >>> (y.toUInt32 &&& Int32.toUInt32 31)).toInt32) (pc + 1) lv st S
    | .ineg => am_i1 (fun x => -x) (pc + 1) lv st S
    | .idiv => am_iz (fun x y => x / y) (pc + 1) lv st S
    | .irem => am_iz (fun x y => x - x / y * y) (pc + 1) lv st S
    | .ladd => am_l2 (fun x y => x + y) (pc + 1) lv st S
    | .lsub => am_l2 (fun x y => x - y) (pc + 1) lv st S
    | .lmul => am_l2 (fun x y => x * y) (pc + 1) lv st S
    | .lor => am_l2 (fun x y => x ||| y) (pc + 1) lv st S
    | .ldiv => am_lz (fun x y => x / y) (pc + 1) lv st S
    | .lneg => am_l1 (fun x => -x) (pc + 1) lv st S
    | .lshl => am_li (fun x y => x <<< (y.toInt64 &&& 63)) (pc + 1) lv st S
    | .lcmp => am_lc (pc + 1) lv st S
    | .i2l => am_wd (pc + 1) lv st S
    | .l2i => am_nr (pc + 1) lv st S
    | .dup => am_dup (pc + 1) lv st S
    | .dup_x1 => am_dx1 (pc + 1) lv st S
    | .dup2 => am_dp2 (pc + 1) lv st S
    | .pop => am_pop (pc + 1) lv st S
    | .ifCond k _ => am_if1 k a (pc + 3) lv st S
    | .if_icmp k _ => am_if2 k a (pc + 3) lv st S
    | .goto _ => am_nx a lv st S
    | .tableswitch _ _ _ _ => am_tsw x a ts lv st S
    | .getfield _ => am_gf a b (ts.headD 0) (pc + 3) lv st S Tk
    | .putfield _ => am_pf a b (ts.headD 0) (pc + 3) lv st S Tk
    | .iaload => bif am_isX st then am_xld Xs (pc + 1) lv st S else am_ald 0 (pc + 1) lv st S Tk
    | .baload => am_ald 1 (pc + 1) lv st S Tk
    | .laload => am_lld (pc + 1) lv st S
    | .aaload => am_rld (pc + 1) lv st S
    | .iastore => am_ast (pc + 1) lv st S Tk
    | .bastore => am_bst (pc + 1) lv st S Tk
    | .lastore => am_lst (pc + 1) lv st S
    | .aastore => am_rst a (pc + 1) lv st S
    | .arraylength => bif am_isY st then am_xln Xs (pc + 1) lv st S else am_len (pc + 1) lv st S
    | .newarray _ => am_mka a (pc + 2) lv st S Tk
    | .anewarray _ => am_mka 3 (pc + 3) lv st S Tk
    | .new _ => am_nx (pc + 3) lv (.ref S.1.length :: st) (am_new Tk S (a + 4, b, List.replicate b none))
    | .invokevirtual _ => bif Nat.beq (ts.headD 0) 99 then am_chr ts.tail (pc + 3) lv st S else am_cv a b (ts.headD 0) (pc + 3) lv st S
    | .invokestatic _ => bif Nat.beq (ts.headD 0) 7 then am_cpy (pc + 3) lv st S Tk else am_cs a b (pc + 3) lv st
    | .invokespecial _ => bif Nat.beq (ts.headD 0) 6 then am_co (pc + 3) lv st S else am_ci a b (pc + 3) lv st
    | .ireturn => am_ret rt st
    | .lreturn => am_rtl rt st
    | .areturn => am_rta rt st
    | .return_ => am_rtv rt st
    | _ => none
/-- the machine: fuel, depth of calls, method, frame, heap -/
def am_ax (Tk : Nat) (Xs : Nat × (Nat → Int32)) (P : Nat → Option am_M) : Nat → Nat → Nat → am_F → am_S → Option (Option Value × am_S)
  | 0, _, _, _, _ => none
  | n + 1, d, mi, F, S => match P mi with
    | none => none
    | some M => match am_find F.1 M.2.2.2.2.2.2 with
      | none => none
      | some E => match am_step Tk Xs M.2.2.1 M.2.2.2.2.1 E F.2.1 F.2.2 S with
        | none => none
        | some (.inl (F', S')) => am_ax Tk Xs P n d mi F' S'
        | some (.inr (.inr r)) => some (r, S)
        | some (.inr (.inl (mj, As, F'))) => match d with
          | 0 => none
          | d' + 1 => match P mj with
            | none => none
            | some M' => bif Nat.ble (am_cat As) M'.2.2.1 then (match am_ax Tk Xs P n d' mj (0, lv_args 0 As, []) S with
              | none => none
              | some (r, S') => am_ax Tk Xs P n (d' + 1) mi (F'.1, F'.2.1, r.toList ++ F'.2.2) S') else none
