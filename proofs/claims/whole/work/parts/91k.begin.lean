/-! THE HEART: the reader: an operand, both -/
def qg_FH (x : Nat) (h h' : Nat → Nat → Int32) : Prop := (∀ c, c ≠ 55 → c ≠ 56 → c ≠ 58 → c ≠ x → c ≠ x + 4 → h' c = h c) ∧ (∀ j, j ≠ 4 → h' x j = h x j) ∧ (∀ j, j ≤ 3 → h' 55 j = h 55 j)
def qg_FU (m : Nat) (u u' : zHM) : Prop := (∀ c, c ≠ 83 → c ≠ 86 → c ≠ 88 → u'.1 c = u.1 c) ∧ (∀ j, j < 8 ∨ j = 12 ∨ j = 13 ∨ j = 14 ∨ j = 16 ∨ j = 17 ∨ 20 < j → u'.1 83 j = u.1 83 j) ∧ (∀ j, j < m + 185 ∨ m + 785 ≤ j → u'.1 86 j = u.1 86 j)
theorem qg_FH.rf (x : Nat) (h : Nat → Nat → Int32) : qg_FH x h h := ⟨fun _ _ _ _ _ _ => rfl, fun _ _ => rfl, fun _ _ => rfl⟩
theorem qg_FH.tr {x : Nat} {h h1 h2 : Nat → Nat → Int32} (a : qg_FH x h h1) (b : qg_FH x h1 h2) : qg_FH x h h2 := ⟨fun c p q r s t => (b.1 c p q r s t).trans (a.1 c p q r s t), fun j hj => (b.2.1 j hj).trans (a.2.1 j hj), fun j hj => (b.2.2 j hj).trans (a.2.2 j hj)⟩
theorem qg_FU.rf (m : Nat) (u : zHM) : qg_FU m u u := ⟨fun _ _ _ _ => rfl, fun _ _ => rfl, fun _ _ => rfl⟩
theorem qg_FU.tr {m : Nat} {u v w : zHM} (a : qg_FU m u v) (b : qg_FU m v w) : qg_FU m u w := ⟨fun c p q r => (b.1 c p q r).trans (a.1 c p q r), fun j p => (b.2.1 j p).trans (a.2.1 j p), fun j p => (b.2.2 j p).trans (a.2.2 j p)⟩
theorem qg_fh.F {x : Nat} {h h' : Nat → Nat → Int32} (a : qg_fh x h h') : qg_FH x h h' := ⟨fun c p _ r s t => a.1 c p r s t, a.2.1, a.2.2⟩
theorem qg_fu.F {m : Nat} {u u' : zHM} (a : qg_fu m u u') : qg_FU m u u' := ⟨a.1, fun j hj => a.2.1 j (by omega) (by omega) (by omega) (by omega), a.2.2.1⟩
theorem qt_fr.H {x : Nat} (hx : x ≤ 41) {h h' : Nat → Nat → Int32} {u u' : zHM} (a : qt_fr h h' u u') : qg_FH x h h' := ⟨fun c _ q _ _ _ => a.1 c q, fun j _ => by rw [a.1 x (by omega)], fun j _ => by rw [a.1 55 (by omega)]⟩
theorem qt_fr.U {m : Nat} {h h' : Nat → Nat → Int32} {u u' : zHM} (a : qt_fr h h' u u') : qg_FU m u u' := ⟨fun c p _ _ => a.2.1 c p, fun j hj => a.2.2 j (by omega) (by omega) (by omega) (by omega), fun j _ => by rw [a.2.1 86 (by omega)]⟩
theorem qg_C_t {x : Nat} (hx : x ≤ 41) {h h' : Nat → Nat → Int32} {ds : List (Nat × Nat)} {ws : List Nat} {op br : Nat} {bo cm aa : Bool} (e : ∀ c, c ≠ 56 → h' c = h c) (C : qg_C x h ds ws op br bo cm aa) : qg_C x h' ds ws op br bo cm aa := by
  unfold qg_C at C ⊢
  rw [e x (by omega), e (x + 4) (by omega), e 55 (by omega), e 58 (by omega)]
  exact C
theorem qg_M_t {m : Nat} {h h' : Nat → Nat → Int32} {u u' : zHM} {ds : List (Nat × Nat)} {pl : List Nat} {op : Nat} {bo : Bool} (a : qt_fr h h' u u') (M : qg_M m u ds pl op bo) : qg_M m u' ds pl op bo := by
  unfold qg_M at M ⊢
  rw [a.2.2 13 (by omega) (by omega) (by omega) (by omega), a.2.2 15 (by omega) (by omega) (by omega) (by omega), a.2.2 18 (by omega) (by omega) (by omega) (by omega), a.2.2 19 (by omega) (by omega) (by omega) (by omega), a.2.2 20 (by omega) (by omega) (by omega) (by omega), a.2.1 86 (by omega), a.2.1 88 (by omega)]
  exact M
theorem qg_S_t {x m tl : Nat} {b : Nat → Nat} (hx : x ≤ 41) {h h' : Nat → Nat → Int32} {u u' : zHM} {sp nx T : Nat} (a : qg_fh x h h') (c : qg_fu m u u') (S : qt_S tl b h u sp nx T) : qt_S tl b h' u' sp nx T :=
  qt_S_f ⟨a.1 56 (by omega) (by omega) (by omega) (by omega), a.1 57 (by omega) (by omega) (by omega) (by omega)⟩ (c.1 87 (by omega) (by omega) (by omega)) (fun j hj => c.2.1 j (by omega) (by omega) (by omega) (by omega)) (by rw [c.2.2.2]) S
/-- what waits below a sum -/
def qg_B (base : List Nat) (k : Nat) : Prop := (∀ t ∈ base, qg_w t = true ∧ qg_rk t < 5 ∧ 1 ≤ qg_rk t) ∧ base.countP qg_on = k ∧ base.length ≤ k + 3
/-- both readers within a sum -/
def qg_Z (tl : Nat) (b : Nat → Nat) (x m s : Nat) (ds0 : List (Nat × Nat)) (base : List Nat) (k t : Nat) (cm : Bool) (h : Nat → Nat → Int32) (u : zHM) (sp nx T : Nat) (lw : List (Nat × Nat)) (pl : List Nat) (op : Nat) (bo aa : Bool) : Prop :=
  qt_S tl b h u sp nx T ∧ qg_C x h (lw ++ ds0) (pl.map qg_t ++ base) op (qg_br pl) bo cm aa ∧ qg_M m u (lw ++ ds0) pl op bo ∧ (qg_G (if bo then 2 else 3) pl ∧ op = qg_o pl + k ∧ op ≤ 8) ∧ qg_rn lw = some ((if cm then 1 else 0) + qg_bi pl + (if bo then 1 else 0), t) ∧ (∀ q ∈ lw, qg_nm s q) ∧ (lw ++ ds0).length + (pl.length + base.length) ≤ sp ∧ u.1 83 21 = nI s
section
variable {tl : Nat} {b : Nat → Nat} {x m s : Nat} {ds0 : List (Nat × Nat)} {base : List Nat} {k t : Nat} {cm : Bool} {h : Nat → Nat → Int32} {u : zHM} {sp nx T : Nat} {lw : List (Nat × Nat)} {pl : List Nat} {op : Nat} {bo aa : Bool}
theorem qg_Z_len (Z : qg_Z tl b x m s ds0 base k t cm h u sp nx T lw pl op bo aa) (hB : qg_B base k) : pl.length ≤ 26 ∧ (pl.map qg_t ++ base).length ≤ 37 ∧ (∀ t ∈ pl.map qg_t ++ base, qg_w t = true) ∧ (pl.map qg_t ++ base).countP qg_on ≤ op ∧ (∀ e ∈ pl, e ≤ 40) ∧ qg_br pl ≤ 8 ∧ (lw ++ ds0).length + (pl.map qg_t ++ base).length ≤ sp := by
  obtain ⟨-, -, -, ⟨g1, g2, g3⟩, -, -, g6, -⟩ := Z
  have l1 := qg_G_len pl (show (if bo then 2 else 3) ≤ 3 by split <;> omega) g1
  have m3 : qg_m3 (if bo then 2 else 3) ≤ 2 := by cases bo <;> decide
  have l2 : pl.length ≤ 26 := by omega
  have mm := qg_G_m pl g1
  have l3 := qg_br_o pl
  refine ⟨l2, ?_, fun t ht => ?_, ?_, fun e he => by have := mm e he; omega, by omega, ?_⟩
  · rw [List.length_append, List.length_map]
    have := hB.2.2
    omega
  · rcases List.mem_append.mp ht with q | q
    · obtain ⟨e, e1, e2⟩ := List.mem_map.mp q
      rw [← e2]
      rcases mm e e1 with z | z | z | z | z | z <;> subst z <;> decide
    · exact (hB.1 t q).1
  · rw [List.countP_append, hB.2.1, List.countP_map]
    have : pl.countP (qg_on ∘ qg_t) ≤ qg_o pl := List.countP_mono_left (fun e he h => by
      rcases mm e he with z | z | z | z | z | z
      · subst z; rfl
      · subst z; exact absurd h (by decide)
      · subst z; exact absurd h (by decide)
      · subst z; exact absurd h (by decide)
      · subst z; exact absurd h (by decide)
      · subst z; rfl)
    omega
  · rw [List.length_append (as := pl.map qg_t), List.length_map]
    exact g6
theorem qg_base0 (hB : qg_B base k) : ∀ t, base.head? = some t → qg_rk t < 5 := fun t ht => (hB.1 t (List.mem_of_mem_head? ht)).2.1
theorem qg_em_app : ∀ (l : List Nat) (a c : List (Nat × Nat)), qg_em l (a ++ c) = qg_em l a ++ c
  | [], _, _ => rfl
  | e :: l, a, c => qg_em_app l ((e, 0) :: a) c
theorem qg_em_mem {q : Nat × Nat} : ∀ (l : List Nat) (ds : List (Nat × Nat)), q ∈ qg_em l ds → q ∈ ds ∨ ∃ e ∈ l, q = (e, 0)
  | [], _, h => Or.inl h
  | e :: l, ds, h => by
    rcases qg_em_mem l ((e, 0) :: ds) h with z | ⟨e', z1, z2⟩
    · rcases List.mem_cons.mp z with y | y
      · exact Or.inr ⟨e, List.mem_cons_self, y⟩
      · exact Or.inl y
    · exact Or.inr ⟨e', List.mem_cons_of_mem _ z1, z2⟩
/-- an operator's code is one -/
theorem qg_nm_e {e : Nat} (h : (2 ≤ e ∧ e ≤ 6) ∨ (10 ≤ e ∧ e ≤ 15) ∨ (20 ≤ e ∧ e ≤ 22)) : qg_nm s (e, 0) := ⟨Or.inr (Or.inr ⟨rfl, h⟩), fun z => by simp only at z; omega⟩
/-- behind an operand: the fault, or on -/
theorem qg_opd (hx : x ≤ 41) (hm : m ≤ 2370) (hs : s < 3) (ht2 : t ≤ 2) (hB : qg_B base k) (Z : qg_Z tl b x m s ds0 base k t cm h u sp nx T lw pl op false aa) (hn : aa = true → T ≠ 2) :
    (∃ f g, 1 ≤ f ∧ f ≤ 6 ∧ zR_takeOperand x (nI (s + 3)) h = some (va_up h 55 g) ∧ g 1 = nI f ∧ g 2 = nI sp ∧ g 7 = nI 0 ∧ zM_beginOne u = some (nI f, u)) ∨
    (∃ h1 h2 u2 sp' nx' T' lw' pl' op' bo', zR_takeOperand x (nI (s + 3)) h = some h1 ∧ (∀ K : Nat → Int32 → Int32 → Int32 → (Nat → Nat → Int32) → Option (Nat → Nat → Int32), ∀ v3 v4, zR_readLaw_J101 K x (nI (s + 3)) v3 v4 h1 = K x (nI (s + 3)) v3 (v4 + 1) h2) ∧ zM_beginOne u = some (nI 0, u2) ∧ qg_Z tl b x m s ds0 base k t cm h2 u2 sp' nx' T' lw' pl' op' bo' false ∧ sp < sp' ∧ qg_FH x h h2 ∧ qg_FU m u u2) := by
  obtain ⟨L1, L2, L3, L4, L5, L6, L7⟩ := qg_Z_len Z hB
  obtain ⟨S, C, M, ⟨G, go, go8⟩, gr, gn, gl, g21⟩ := id Z
  rw [if_neg (show ¬ (false = true) by decide)] at G gr
  have R := S.2.2.2.2.1
  have e3 := S.2.2.2.1.1
  have t37 := S.2.2.2.1.2
  have mm := qg_G_m pl G
  have nxl : nx ≤ 300 := by have := S.2.2.2.2.2.2.2.1; have := S.1.2.2.1; omega
  have i := fun {j : Nat} (h1 : 21 ≤ j) (h2 : j ≤ 36) {k : Nat} (hk : qt_kind j = k) => qt_is R h1 h2 hk
  have i1 := i (j := 35) (by omega) (by omega) (k := 1) rfl
  have i40 := i (j := 31) (by omega) (by omega) (k := 40) rfl
  have i45 := i (j := 28) (by omega) (by omega) (k := 45) rfl
  have nm := qt_name R
  have m19 := M.2.2.1
  have bi := qg_bi_le pl
  -- a value
  have val : ∀ q : Nat × Nat, qg_nm s q → q.1 ≤ 1 → T ≠ 36 → ((T = 35 ∧ q.1 = 0 ∧ q.2 ≤ 9999 ∧ h 56 5 = nI q.2) ∨ (qt_nq T = true ∧ q = (1, qt_nm T) ∧ (qt_nm T ≤ 3 ∨ qt_nm T = 4 + 2 * s ∨ qt_nm T = 5 + 2 * s))) → (zM_beginOne u = (zM_emit (nI q.1) (nI q.2) u).bind fun r3 => (zM_nextToken r3).bind fun r4 => (zM_whole r4).bind fun r5 => some ((nI 0, r5))) → (∃ h1 h2 u2 sp' nx' T' lw' pl' op' bo', zR_takeOperand x (nI (s + 3)) h = some h1 ∧ (∀ K : Nat → Int32 → Int32 → Int32 → (Nat → Nat → Int32) → Option (Nat → Nat → Int32), ∀ v3 v4, zR_readLaw_J101 K x (nI (s + 3)) v3 v4 h1 = K x (nI (s + 3)) v3 (v4 + 1) h2) ∧ zM_beginOne u = some (nI 0, u2) ∧ qg_Z tl b x m s ds0 base k t cm h2 u2 sp' nx' T' lw' pl' op' bo' false ∧ sp < sp' ∧ qg_FH x h h2 ∧ qg_FU m u u2) := fun q q0 q1 q36 q2 q3 => by
    have spnx := S.2.2.2.2.2.2.2.2 q36
    obtain ⟨h1, a1, a2, a3⟩ := qg_cV (s := s) hx S C (by omega) hs q2
    obtain ⟨u1, b1, b2, b3⟩ := qg_emitM hm M (by omega) q
    obtain ⟨h1', c1, c2, c3⟩ := qg_setC (r := 7) hx (by omega) (by omega) (pl.map qg_t ++ base) am_N h1 (q :: (lw ++ ds0)) op (Nat.lt_of_le_of_lt L2 (by decide)) (by rw [List.length_cons]; omega) (by omega) L3 L4 (by omega) a2
    rw [qg_neg (qg_base0 hB) pl _ _ mm] at c2
    obtain ⟨w0, j, w1, w2, w3, w4, w5, w6⟩ := qg_wh_s pl (q :: (lw ++ ds0)) op G (by omega)
    have S1 : qt_S tl b h1' u1 sp nx T := qg_S_t hx (a3.tr c3) b3 S
    obtain ⟨h2, u2, sp', nx', T', d1, d2, d3, d4, d5⟩ := qt_go S1
    have M2 := qg_M_t d5 b2
    obtain ⟨F1, F2⟩ := qg_fieldM (g := upd (u2.1 83) 20 (nI 1)) (pl' := pl) (op' := op) (bo' := true) M2 (by rw [pk_un (by omega)]; exact M2.2.1.1) M2.2.1.2 (by rw [pk_un (by omega)]; exact M2.2.2.1) (by rw [pk_us]; rfl) (fun j _ _ j3 => by rw [pk_un j3])
    obtain ⟨u3, f1, f2, f3⟩ := qg_whM (bo := true) hm pl am_N _ (q :: (lw ++ ds0)) op (Nat.lt_of_le_of_lt L1 (by decide)) (by rw [List.length_cons]; omega) (by omega) L5 (by
      have : pl.countP (fun e => decide (e = 2)) ≤ qg_o pl := List.countP_mono_left (fun e _ h => by simp at h ⊢; exact Or.inr h)
      omega) (by omega) F1
    obtain ⟨Q, hQ⟩ : ∃ Q, Q = qg_wh pl (q :: (lw ++ ds0)) op := ⟨_, rfl⟩
    rw [← hQ] at c2 w0 w1 w2 w3 w4 w5 w6 f2
    have eq : Q.2.1 = qg_em (List.replicate j 2) (q :: lw) ++ ds0 := by
      rw [w1, ← qg_em_app]
      rfl
    refine ⟨h1, h2, u3, sp', nx', T', qg_em (List.replicate j 2) (q :: lw), Q.1, Q.2.2, true, a1, fun K v3 v4 => ?_, ?_, ⟨?_, ?_, ?_, ⟨w0, by omega, by omega⟩, ?_, ?_, ?_, ?_⟩, by omega, (a3.F.tr c3.F).tr (qt_fr.H hx d5), ((b3.F.tr (qt_fr.U d5)).tr F2.F).tr f3.F⟩
    · have z7 : h1 55 7 = nI 1 := a2.2.2.2.2.1
      have z1 : h1' 55 1 = nI 0 := c2.2.2.2.2.2.2.2
      have z2 := (qg_rkH 38 (by omega)).1
      rw [show qg_rk 38 = 7 from rfl] at z2
      have c1' : zR_settle x (nI 7) h1 = some h1' := c1
      simp (disch := omega) only [↓reduceIte, ↓qa_b, zR_readLaw_J101, zR_readLaw_J118, z7, qa_lit, qa_eqF, z2, c1', Option.bind_some, z1, d1]
    · have f1' : zM_whole u2 = some u3 := by
        rw [← f1]
        simp (disch := omega) only [↓qa_b, zM_whole, qa_lit]
      rw [q3, b1, Option.bind_some, d2, Option.bind_some, f1']
      rfl
    · exact qt_S_f ⟨rfl, rfl⟩ (by rw [(F2.tr f3).1 87 (by omega) (by omega) (by omega)]) (fun j hj => (F2.tr f3).2.1 j (by omega) (by omega) (by omega) (by omega)) (by rw [(F2.tr f3).2.2.2]) d3
    · have := qg_C_t hx d5.1 c2
      rw [eq] at this
      rw [w4]
      exact this
    · rw [eq] at f2
      exact f2
    · rw [w5]
      refine qg_rn_neg j (q :: lw) (by simp) ?_
      rw [show qg_rn (q :: lw) = (qg_rn lw).bind (qi_sh q.1) from rfl, gr]
      show qi_sh q.1 (_, t) = _
      unfold qi_sh
      rw [if_pos q1, if_pos (by split <;> simp only <;> omega), if_pos rfl]
      rfl
    · intro q' hq'
      rcases qg_em_mem _ _ hq' with z | ⟨e, z1, z2⟩
      · rcases List.mem_cons.mp z with y | y
        · rw [y]; exact q0
        · exact gn q' y
      · rw [z2, List.eq_of_mem_replicate z1]
        exact qg_nm_e (by omega)
    · rw [List.length_append, qg_em_len, List.length_cons, List.length_replicate]
      rw [List.length_append] at gl
      omega
    · rw [(F2.tr f3).2.1 21 (by omega) (by omega) (by omega) (by omega), d5.2.2 21 (by omega) (by omega) (by omega) (by omega), b3.2.1 21 (by omega) (by omega) (by omega) (by omega)]
      exact g21
  -- an opening
  have opn : ∀ e : Nat, (T = 31 ∧ e = 40 ∨ T = 28 ∧ e = 2) → op < 8 → (zM_beginOne u = zM_beginOne_J106 (nI e) u) → (∃ h1 h2 u2 sp' nx' T' lw' pl' op' bo', zR_takeOperand x (nI (s + 3)) h = some h1 ∧ (∀ K : Nat → Int32 → Int32 → Int32 → (Nat → Nat → Int32) → Option (Nat → Nat → Int32), ∀ v3 v4, zR_readLaw_J101 K x (nI (s + 3)) v3 v4 h1 = K x (nI (s + 3)) v3 (v4 + 1) h2) ∧ zM_beginOne u = some (nI 0, u2) ∧ qg_Z tl b x m s ds0 base k t cm h2 u2 sp' nx' T' lw' pl' op' bo' false ∧ sp < sp' ∧ qg_FH x h h2 ∧ qg_FU m u u2) := fun e q1 q2 q3 => by
    have spnx := S.2.2.2.2.2.2.2.2 (by omega)
    obtain ⟨h1, a1, a2, a3⟩ := qg_cO (s := s) hx S C (by omega) q2 (by omega) (by omega)
    obtain ⟨F1, F2⟩ := qg_fieldM (g := upd (u.1 83) 19 (nI (op + 1))) (pl' := pl) (op' := op + 1) (bo' := false) M (by rw [pk_un (by omega)]; exact M.2.1.1) M.2.1.2 (by rw [pk_us]) (by rw [pk_un (by omega)]; exact M.2.2.2) (fun j _ j2 _ => by rw [pk_un j2])
    obtain ⟨u1, b1, b2, b3⟩ := qg_pushM F1 (by omega) e
    have S1 : qt_S tl b h1 u1 sp nx T := qg_S_t hx a3 (F2.tr b3) S
    obtain ⟨h2, u2, sp', nx', T', d1, d2, d3, d4, d5⟩ := qt_go S1
    have te : (if T = 31 then 31 else 38) = qg_t e := by
      rcases q1 with ⟨y1, y2⟩ | ⟨y1, y2⟩
      · rw [y1, y2]; rfl
      · rw [y1, y2]; rfl
    have be : (if T = 31 then qg_br pl + 1 else qg_br pl) = qg_br (e :: pl) := by
      rw [qg_br_c]
      rcases q1 with ⟨y1, y2⟩ | ⟨y1, y2⟩
      · rw [if_pos y1, if_pos y2]
      · rw [if_neg (by omega), if_neg (by omega)]; rfl
    rw [te, be] at a2
    have eo : qg_o (e :: pl) = qg_o pl + 1 := by rw [qg_o_c, if_pos (by omega)]
    have ebi : qg_bi (e :: pl) = qg_bi pl := by rw [qg_bi_c, if_neg (by omega)]; rfl
    refine ⟨h1, h2, u2, sp', nx', T', lw, e :: pl, op + 1, false, a1, fun K v3 v4 => ?_, ?_, ⟨d3, qg_C_t hx d5.1 a2, qg_M_t d5 b2, ⟨?_, by omega, by omega⟩, ?_, gn, ?_, ?_⟩, by omega, a3.F.tr (qt_fr.H hx d5), (F2.F.tr b3.F).tr (qt_fr.U d5)⟩
    · have z7 : h1 55 7 = nI 0 := a2.2.2.2.2.1
      have z1 : h1 55 1 = nI 0 := a2.2.2.2.2.2.2.2
      simp (disch := omega) only [↓reduceIte, zR_readLaw_J101, zR_readLaw_J118, z7, qa_lit, z1, d1, Option.bind_some]
    · rw [q3]
      simp (disch := omega) only [↓reduceIte, ↓qa_b, zM_beginOne_J106, qa_lit, qa_eqF, m19, nI_add, b1, d2, Option.bind_some]
    · rw [if_neg (by decide)]
      rcases q1 with ⟨y1, y2⟩ | ⟨y1, y2⟩
      · exact Or.inr (Or.inr (Or.inr ⟨y2, G⟩))
      · exact Or.inl ⟨y2, by omega, G⟩
    · rw [ebi, if_neg (show ¬ (false = true) by decide)]
      exact gr
    · rw [List.length_cons]
      omega
    · rw [d5.2.2 21 (by omega) (by omega) (by omega) (by omega), (F2.tr b3).2.1 21 (by omega) (by omega) (by omega) (by omega)]
      exact g21
  by_cases t35 : T = 35
  · obtain ⟨rn, r1, r2, r3⟩ := S.2.2.2.2.2.1 t35
    by_cases r4 : 9999 < rn
    · left
      obtain ⟨g, k1, k2, k3, k4⟩ := qg_cF S C hs (by omega) hn (f := 2) (Or.inr (Or.inl ⟨rfl, t35, min 10000 rn, by omega, by omega, r1⟩))
      refine ⟨2, g, by omega, by omega, k1, k2, k3, k4, ?_⟩
      rw [← i1] at t35
      simp (disch := omega) only [↓reduceIte, zM_beginOne, qa_lit, t35, r2, qa_ltT]
    · right
      refine val (0, rn) ⟨Or.inl ⟨rfl, by simp only; omega⟩, fun z => by simp at z⟩ (by simp) (by omega) (Or.inl ⟨t35, rfl, by simp only; omega, by rw [r1, show min 10000 rn = rn by omega]⟩) ?_
      rw [← i1] at t35
      simp (disch := omega) only [↓reduceIte, zM_beginOne, qa_lit, t35, r2, qa_ltF]
  · have n1 : ¬ (u.1 83 10 = nI 1) := by rw [i1]; exact t35
    cases hq : qt_nq T
    · rw [hq, if_neg (by decide)] at nm
      by_cases t31 : T = 31
      · have k40 : u.1 83 10 = nI 40 := by rw [i40]; exact t31
        have e106 : zM_beginOne u = zM_beginOne_J106 (nI 40) u := by
          simp (disch := omega) only [↓reduceIte, ↓qa_b, zM_beginOne, qa_lit, k40, qa_eqF, nm, qa_Nlt0]
        by_cases o8 : op < 8
        · exact Or.inr (opn 40 (Or.inl ⟨t31, rfl⟩) o8 e106)
        · left
          obtain ⟨g, k1, k2, k3, k4⟩ := qg_cF S C hs (by omega) hn (f := 3) (Or.inl ⟨rfl, Or.inl t31, by omega, go8⟩)
          refine ⟨3, g, by omega, by omega, k1, k2, k3, k4, ?_⟩
          rw [e106]
          rw [show op = 8 by omega] at m19
          simp (disch := omega) only [↓reduceIte, zM_beginOne_J106, qa_lit, qa_eqF, m19]
      · by_cases t28 : T = 28
        · have k45 : u.1 83 10 = nI 45 := by rw [i45]; exact t28
          have e106 : zM_beginOne u = zM_beginOne_J106 (nI 2) u := by
            simp (disch := omega) only [↓reduceIte, ↓qa_b, zM_beginOne, qa_lit, k45, qa_eqF, nm, qa_Nlt0]
          by_cases o8 : op < 8
          · exact Or.inr (opn 2 (Or.inr ⟨t28, rfl⟩) o8 e106)
          · left
            obtain ⟨g, k1, k2, k3, k4⟩ := qg_cF S C hs (by omega) hn (f := 3) (Or.inl ⟨rfl, Or.inr t28, by omega, go8⟩)
            refine ⟨3, g, by omega, by omega, k1, k2, k3, k4, ?_⟩
            rw [e106]
            rw [show op = 8 by omega] at m19
            simp (disch := omega) only [↓reduceIte, zM_beginOne_J106, qa_lit, qa_eqF, m19]
        · left
          obtain ⟨g, k1, k2, k3, k4⟩ := qg_cF S C hs (by omega) hn (f := 1) (Or.inr (Or.inr (Or.inr ⟨rfl, t31, t28, t35, hq⟩)))
          refine ⟨1, g, by omega, by omega, k1, k2, k3, k4, ?_⟩
          have n40 : ¬ (u.1 83 10 = nI 40) := by rw [i40]; exact t31
          have n45 : ¬ (u.1 83 10 = nI 45) := by rw [i45]; exact t28
          simp (disch := omega) only [↓reduceIte, ↓qa_b, zM_beginOne, zM_beginOne_J106, qa_lit, n1, n40, n45, nm, qa_Nlt0]
    · rw [hq, if_pos rfl] at nm
      obtain ⟨y1, y2, y3, y4, y5, y6⟩ := qg_nmc T (by omega) hq
      have br := qg_bar (qt_nm T) (by omega) s hs
      by_cases ok : qt_nm T ≤ 3 ∨ qt_nm T = 4 + 2 * s ∨ qt_nm T = 5 + 2 * s
      · right
        refine val (1, qt_nm T) ⟨Or.inr (Or.inl ⟨rfl, y2⟩), fun _ => ok⟩ (by simp) (fun z => by rw [z] at hq; exact absurd hq (by decide)) (Or.inr ⟨hq, rfl, ok⟩) ?_
        rw [show (!(decide (qt_nm T ≤ 3) || (decide (qt_nm T = 4 + 2 * s) || decide (qt_nm T = 5 + 2 * s)))) = false by simp; omega] at br
        have eb : zM_isBarred (nI (qt_nm T)) u = nI 0 := by
          rw [← show qs_b false = nI 0 from rfl, ← br, ← g21]
          rfl
        simp (disch := omega) only [↓reduceIte, ↓qa_b, zM_beginOne, qa_lit, n1, nm, qa_ltF, eb]
      · left
        obtain ⟨g, k1, k2, k3, k4⟩ := qg_cF S C hs (by omega) hn (f := 5) (Or.inr (Or.inr (Or.inl ⟨rfl, hq, ok⟩)))
        refine ⟨5, g, by omega, by omega, k1, k2, k3, k4, ?_⟩
        rw [show (!(decide (qt_nm T ≤ 3) || (decide (qt_nm T = 4 + 2 * s) || decide (qt_nm T = 5 + 2 * s)))) = true by simp; omega] at br
        have eb : zM_isBarred (nI (qt_nm T)) u = nI 1 := by
          rw [← show qs_b true = nI 1 from rfl, ← br, ← g21]
          rfl
        simp (disch := omega) only [↓reduceIte, ↓qa_b, zM_beginOne, qa_lit, n1, nm, qa_ltF, eb, qa_eqF]
end
