/-! THE HEART: the reader: small steps of the class -/
/-- a pile, its top first -/
def qg_k (f : Nat → Int32) : List Nat → Prop
  | [] => True
  | a :: l => f l.length = nI a ∧ qg_k f l
theorem qg_k_u {f : Nat → Int32} {k : Nat} {v : Int32} : ∀ l : List Nat, l.length ≤ k → qg_k f l → qg_k (upd f k v) l
  | [], _, _ => trivial
  | a :: l, hl, h => ⟨by rw [pk_un (by rw [List.length_cons] at hl; omega)]; exact h.1, qg_k_u l (by rw [List.length_cons] at hl; omega) h.2⟩
/-- the codes, the last first: in the class, in the reference -/
def qg_dc (f : Nat → Int32) : List (Nat × Nat) → Prop
  | [] => True
  | q :: l => f l.length = nI (qi_cd q.1 q.2) ∧ qg_dc f l
def qg_dr (g : Nat → Int32) (m : Nat) : List (Nat × Nat) → Prop
  | [] => True
  | q :: l => g (m + 185 + 2 * l.length) = nI q.1 ∧ g (m + 185 + 2 * l.length + 1) = nI q.2 ∧ qg_dr g m l
theorem qg_dc_u {f : Nat → Int32} {k : Nat} {v : Int32} : ∀ l : List (Nat × Nat), l.length ≤ k → qg_dc f l → qg_dc (upd f k v) l
  | [], _, _ => trivial
  | a :: l, hl, h => ⟨by rw [pk_un (by rw [List.length_cons] at hl; omega)]; exact h.1, qg_dc_u l (by rw [List.length_cons] at hl; omega) h.2⟩
theorem qg_dr_u {g : Nat → Int32} {m k : Nat} {v : Int32} : ∀ l : List (Nat × Nat), m + 185 + 2 * l.length ≤ k ∨ k < m + 185 → qg_dr g m l → qg_dr (upd g k v) m l
  | [], _, _ => trivial
  | a :: l, hl, h => by
    rw [List.length_cons] at hl
    exact ⟨by rw [pk_un (by omega)]; exact h.1, by rw [pk_un (by omega)]; exact h.2.1, qg_dr_u l (by omega) h.2.2⟩
/-- the class, while it reads a law -/
def qg_C (x : Nat) (h : Nat → Nat → Int32) (ds : List (Nat × Nat)) (ws : List Nat) (op br : Nat) (bo cm aa : Bool) : Prop := (h x 4 = nI ds.length ∧ qg_dc (h (x + 4)) ds) ∧ (h 55 4 = nI ws.length ∧ qg_k (h 58) ws) ∧ h 55 5 = nI op ∧ h 55 6 = nI br ∧ h 55 7 = qs_b bo ∧ h 55 8 = qs_b cm ∧ h 55 9 = qs_b aa ∧ h 55 1 = nI 0
def qg_fh (x : Nat) (h h' : Nat → Nat → Int32) : Prop := (∀ c, c ≠ 55 → c ≠ 58 → c ≠ x → c ≠ x + 4 → h' c = h c) ∧ (∀ j, j ≠ 4 → h' x j = h x j) ∧ (∀ j, j ≤ 3 → h' 55 j = h 55 j)
theorem qg_fh.rf (x : Nat) (h : Nat → Nat → Int32) : qg_fh x h h := ⟨fun _ _ _ _ _ => rfl, fun _ _ => rfl, fun _ _ => rfl⟩
theorem qg_fh.tr {x : Nat} {h h1 h2 : Nat → Nat → Int32} (a : qg_fh x h h1) (b : qg_fh x h1 h2) : qg_fh x h h2 := ⟨fun c p q r s => (b.1 c p q r s).trans (a.1 c p q r s), fun j hj => (b.2.1 j hj).trans (a.2.1 j hj), fun j hj => (b.2.2 j hj).trans (a.2.2 j hj)⟩
def qg_rk (t : Nat) : Nat := if t = 31 then 0 else if t = 34 ∨ t = 0 then 1 else if t = 1 then 2 else if t = 2 then 3 else if t = 27 ∨ t = 28 then 5 else if t = 29 ∨ t = 30 then 6 else if t = 38 then 7 else 4
theorem qg_rkH : ∀ t, t < 39 → zR_rankOf (nI t) = nI (qg_rk t) ∧ qg_rk t ≤ 7 := by decide +kernel
/-- an operator's code in the reference -/
def qg_u (t : Nat) : Nat := if t = 38 then 2 else if 27 ≤ t then t - 24 else if 21 ≤ t then t - 11 else 22 - t
def qg_w (t : Nat) : Bool := decide (t ≤ 2) || ((decide (21 ≤ t) && decide (t ≤ 31)) || decide (t = 38))
theorem qg_uH : ∀ t, t < 39 → qg_w t = true → t ≠ 31 → 20000 + t = qi_cd (qg_u t) 0 := by decide +kernel
theorem qg_w39 {t : Nat} (h : qg_w t = true) : t < 39 := by
  unfold qg_w at h
  simp only [Bool.or_eq_true, Bool.and_eq_true, decide_eq_true_eq] at h
  omega
def qg_on (t : Nat) : Bool := decide (t = 2) || decide (t = 38)
/-- those of rank r and more come off the pile -/
def qg_sc (r : Nat) : List Nat → List (Nat × Nat) → Nat → List Nat × List (Nat × Nat) × Nat
  | [], ds, op => ([], ds, op)
  | t :: l, ds, op => if r ≤ qg_rk t then qg_sc r l ((qg_u t, 0) :: ds) (if qg_on t then op - 1 else op) else (t :: l, ds, op)
section
variable {x : Nat} {h : Nat → Nat → Int32} {ds : List (Nat × Nat)} {ws : List Nat} {op br : Nat} {bo cm aa : Bool}
theorem qg_addC (hx : x ≤ 41) (C : qg_C x h ds ws op br bo cm aa) (hd : ds.length < 300) (q : Nat × Nat) : ∃ h', zX_addCode x (nI (qi_cd q.1 q.2)) h = some h' ∧ qg_C x h' (q :: ds) ws op br bo cm aa ∧ qg_fh x h h' := by
  obtain ⟨⟨c1, c2⟩, ⟨c3, c4⟩, c5, c6, c7, c8, c9, c10⟩ := C
  refine ⟨va_up (va_up h (x + 4) (upd (h (x + 4)) ds.length (nI (qi_cd q.1 q.2)))) x (upd (h x) 4 (nI (ds.length + 1))), ?_, ⟨⟨?_, ?_, ?_⟩, ⟨?_, ?_⟩, ?_, ?_, ?_, ?_, ?_, ?_⟩, fun c p1 p2 p3 p4 => ?_, fun j hj => ?_, fun j hj => ?_⟩
  · simp (disch := omega) only [↓reduceIte, ↓qa_b, zX_addCode, c1, qa_lit, qa_ltT, qa_ix, qa_cl, qa_une, nI_add]
  · rw [va_up_self, pk_us]; rfl
  · rw [qa_une _ _ (by omega), va_up_self, pk_us]
  · rw [qa_une _ _ (by omega), va_up_self]
    exact qg_dc_u ds (Nat.le_refl _) c2
  · rw [qa_une _ _ (by omega), qa_une _ _ (by omega)]; exact c3
  · rw [qa_une _ _ (by omega), qa_une _ _ (by omega)]; exact c4
  · rw [qa_une _ _ (by omega), qa_une _ _ (by omega)]; exact c5
  · rw [qa_une _ _ (by omega), qa_une _ _ (by omega)]; exact c6
  · rw [qa_une _ _ (by omega), qa_une _ _ (by omega)]; exact c7
  · rw [qa_une _ _ (by omega), qa_une _ _ (by omega)]; exact c8
  · rw [qa_une _ _ (by omega), qa_une _ _ (by omega)]; exact c9
  · rw [qa_une _ _ (by omega), qa_une _ _ (by omega)]; exact c10
  · rw [qa_une _ _ p3, qa_une _ _ p4]
  · rw [va_up_self, pk_un hj]
  · rw [qa_une _ _ (by omega), qa_une _ _ (by omega)]
theorem qg_pushC (hx : x ≤ 41) (C : qg_C x h ds ws op br bo cm aa) (hw : ws.length < 64) (t : Nat) : ∃ h', zR_push (nI t) h = some h' ∧ qg_C x h' ds (t :: ws) op br bo cm aa ∧ qg_fh x h h' := by
  obtain ⟨⟨c1, c2⟩, ⟨c3, c4⟩, c5, c6, c7, c8, c9, c10⟩ := C
  refine ⟨va_up (va_up h 58 (upd (h 58) ws.length (nI t))) 55 (upd (h 55) 4 (nI (ws.length + 1))), ?_, ⟨⟨?_, ?_⟩, ⟨?_, ?_, ?_⟩, ?_, ?_, ?_, ?_, ?_, ?_⟩, fun c p1 p2 p3 p4 => ?_, fun j hj => ?_, fun j hj => ?_⟩
  · simp (disch := omega) only [↓reduceIte, ↓qa_b, zR_push, c3, qa_lit, qa_ltT, qa_ix, qa_cl, qa_une, nI_add]
  · rw [qa_une _ _ (by omega), qa_une _ _ (by omega)]; exact c1
  · rw [qa_une _ _ (by omega), qa_une _ _ (by omega)]; exact c2
  · rw [va_up_self, pk_us]; rfl
  · rw [qa_une _ _ (by omega), va_up_self, pk_us]
  · rw [qa_une _ _ (by omega), va_up_self]
    exact qg_k_u ws (Nat.le_refl _) c4
  · rw [va_up_self, pk_un (by omega)]; exact c5
  · rw [va_up_self, pk_un (by omega)]; exact c6
  · rw [va_up_self, pk_un (by omega)]; exact c7
  · rw [va_up_self, pk_un (by omega)]; exact c8
  · rw [va_up_self, pk_un (by omega)]; exact c9
  · rw [va_up_self, pk_un (by omega)]; exact c10
  · rw [qa_une _ _ p1, qa_une _ _ p2]
  · rw [qa_une _ _ (by omega), qa_une _ _ (by omega)]
  · rw [va_up_self, pk_un (by omega)]
/-- fields of the reader -/
theorem qg_field (hx : x ≤ 41) (C : qg_C x h ds ws op br bo cm aa) {g : Nat → Int32} {ws' : List Nat} {op' br' : Nat} {bo' cm' aa' : Bool} (g1 : g 1 = nI 0) (g4 : g 4 = nI ws'.length) (gk : qg_k (h 58) ws') (g5 : g 5 = nI op') (g6 : g 6 = nI br') (g7 : g 7 = qs_b bo') (g8 : g 8 = qs_b cm') (g9 : g 9 = qs_b aa') (ge : ∀ j, j ≤ 3 → g j = h 55 j) : qg_C x (va_up h 55 g) ds ws' op' br' bo' cm' aa' ∧ qg_fh x h (va_up h 55 g) := by
  obtain ⟨⟨c1, c2⟩, -⟩ := C
  refine ⟨⟨⟨?_, ?_⟩, ⟨?_, ?_⟩, ?_, ?_, ?_, ?_, ?_, ?_⟩, fun c p1 p2 p3 p4 => qa_une _ _ p1, fun j hj => by rw [qa_une _ _ (by omega)], fun j hj => by rw [va_up_self]; exact ge j hj⟩
  · rw [qa_une _ _ (by omega)]; exact c1
  · rw [qa_une _ _ (by omega)]; exact c2
  · rw [va_up_self]; exact g4
  · rw [qa_une _ _ (by omega)]; exact gk
  · rw [va_up_self]; exact g5
  · rw [va_up_self]; exact g6
  · rw [va_up_self]; exact g7
  · rw [va_up_self]; exact g8
  · rw [va_up_self]; exact g9
  · rw [va_up_self]; exact g1
end
section
variable {x br : Nat} {bo cm aa : Bool}
theorem qg_setC (hx : x ≤ 41) {r : Nat} (hr1 : 1 ≤ r) (hr7 : r ≤ 7) : ∀ (ws : List Nat) (n : Nat) (h : Nat → Nat → Int32) (ds : List (Nat × Nat)) (op : Nat), ws.length < n → ds.length + ws.length ≤ 300 → ws.length ≤ 64 → (∀ t ∈ ws, qg_w t = true) → ws.countP qg_on ≤ op → op ≤ 1000 → qg_C x h ds ws op br bo cm aa → ∃ h', zR_settle_L0 n x (nI r) h = some h' ∧ qg_C x h' (qg_sc r ws ds op).2.1 (qg_sc r ws ds op).1 (qg_sc r ws ds op).2.2 br bo cm aa ∧ qg_fh x h h'
  | [], n + 1, h, ds, op, _, _, _, _, _, _, C => by
    have c3 := C.2.1.1
    refine ⟨h, ?_, C, qg_fh.rf x h⟩
    rw [List.length_nil] at c3
    simp (disch := omega) only [↓reduceIte, zR_settle_L0, c3, qa_lit, qa_ltF]
  | t :: l, n + 1, h, ds, op, hn, hd, hw, ha, ho, ho2, C => by
    obtain ⟨⟨c1, c2⟩, ⟨c3, c4⟩, c5, c6, c7, c8, c9, c10⟩ := id C
    rw [List.length_cons] at c3 hn hd hw
    have tw := ha t List.mem_cons_self
    have t39 := qg_w39 tw
    obtain ⟨rk, rk7⟩ := qg_rkH t t39
    have top := c4.1
    rw [show qg_sc r (t :: l) ds op = (if r ≤ qg_rk t then qg_sc r l ((qg_u t, 0) :: ds) (if qg_on t then op - 1 else op) else (t :: l, ds, op)) from rfl]
    by_cases q : r ≤ qg_rk t
    · rw [if_pos q]
      have n31 : t ≠ 31 := fun z => by subst z; unfold qg_rk at q; simp at q; omega
      have eu := qg_uH t t39 tw n31
      rw [List.countP_cons] at ho
      -- the pile is one less
      obtain ⟨op', hop⟩ : ∃ op', op' = (if qg_on t then op - 1 else op) := ⟨_, rfl⟩
      rw [← hop]
      have F : ∃ g, qg_C x (va_up h 55 g) ds l op' br bo cm aa ∧ qg_fh x h (va_up h 55 g) ∧ (∀ K : Nat → Int32 → (Nat → Nat → Int32) → Option (Nat → Nat → Int32), (if nI t = nI 2 then zR_settle_J56 K x (nI r) (nI t) (va_up h 55 (upd (h 55) 4 (nI l.length))) else if nI t = nI 38 then zR_settle_J56 K x (nI r) (nI t) (va_up h 55 (upd (h 55) 4 (nI l.length))) else zR_settle_J66 K x (nI r) (nI t) (va_up h 55 (upd (h 55) 4 (nI l.length)))) = zR_settle_J66 K x (nI r) (nI t) (va_up h 55 g)) := by
        by_cases z : t = 2 ∨ t = 38
        · have on : qg_on t = true := by unfold qg_on; rcases z with rfl | rfl <;> rfl
          rw [on, if_pos rfl] at hop
          rw [on, if_pos rfl] at ho
          obtain ⟨G1, G2⟩ := qg_field (g := upd (upd (h 55) 4 (nI l.length)) 5 (nI (op - 1))) (ws' := l) (op' := op - 1) (br' := br) (bo' := bo) (cm' := cm) (aa' := aa) hx C (by rw [pk_un (by omega), pk_un (by omega)]; exact c10) (by rw [pk_un (by omega), pk_us]) c4.2 (by rw [pk_us]) (by rw [pk_un (by omega), pk_un (by omega)]; exact c6) (by rw [pk_un (by omega), pk_un (by omega)]; exact c7) (by rw [pk_un (by omega), pk_un (by omega)]; exact c8) (by rw [pk_un (by omega), pk_un (by omega)]; exact c9) (fun j hj => by rw [pk_un (by omega), pk_un (by omega)])
          rw [hop]
          refine ⟨_, G1, G2, fun K => ?_⟩
          rcases z with rfl | rfl
          · simp (disch := omega) only [↓reduceIte, ↓qa_b, zR_settle_J56, va_up_self, qa_up2, pk_un, c5, qa_lit, qa_sub]
          · simp (disch := omega) only [↓reduceIte, ↓qa_b, zR_settle_J56, va_up_self, qa_up2, pk_un, c5, qa_lit, qa_sub, qa_eqF]
        · have on : qg_on t = false := by unfold qg_on; simp; omega
          rw [on, if_neg (by decide)] at hop
          obtain ⟨G1, G2⟩ := qg_field (g := upd (h 55) 4 (nI l.length)) (ws' := l) (op' := op) (br' := br) (bo' := bo) (cm' := cm) (aa' := aa) hx C (by rw [pk_un (by omega)]; exact c10) (by rw [pk_us]) c4.2 (by rw [pk_un (by omega)]; exact c5) (by rw [pk_un (by omega)]; exact c6) (by rw [pk_un (by omega)]; exact c7) (by rw [pk_un (by omega)]; exact c8) (by rw [pk_un (by omega)]; exact c9) (fun j hj => by rw [pk_un (by omega)])
          rw [hop]
          refine ⟨_, G1, G2, fun K => ?_⟩
          simp (disch := omega) only [↓reduceIte, qa_eqF]
      obtain ⟨g, G1, G2, G3⟩ := F
      obtain ⟨h1, y1, y2, y3⟩ := qg_addC hx G1 (by omega) (qg_u t, 0)
      rw [← eu] at y1
      obtain ⟨h2, z1, z2, z3⟩ := qg_setC hx hr1 hr7 l n h1 ((qg_u t, 0) :: ds) op' (by omega) (by rw [List.length_cons]; omega) (by omega) (fun t' ht' => ha t' (List.mem_cons_of_mem _ ht')) (by
        rw [hop]
        split
        · next z => rw [z, if_pos rfl] at ho; omega
        · omega) (by rw [hop]; split <;> omega) y2
      refine ⟨h2, ?_, z2, (G2.tr y3).tr z3⟩
      rw [← z1]
      have e1 : nI (l.length + 1) - nI 1 = nI l.length := by rw [qa_sub (by omega), Nat.add_sub_cancel]
      have g3 := G3 (fun v1 v2 h => zR_settle_L0 n v1 v2 h)
      have e58 : va_up h 55 (upd (h 55) 4 (nI l.length)) 58 l.length = nI t := by rw [qa_une _ _ (by omega)]; exact top
      simp (disch := omega) only [↓reduceIte, ↓qa_b, zR_settle_L0, c3, qa_lit, qa_ltT, e1, qa_ix, qa_cl, top, rk, qa_ltF, va_up_self, pk_us, e58]
      rw [g3]
      simp (disch := omega) only [zR_settle_J66, qa_lit, nI_add, y1, Option.bind_some]
    · rw [if_neg q]
      refine ⟨h, ?_, C, qg_fh.rf x h⟩
      have e1 : nI (l.length + 1) - nI 1 = nI l.length := by rw [qa_sub (by omega), Nat.add_sub_cancel]
      simp (disch := omega) only [↓reduceIte, ↓qa_b, zR_settle_L0, c3, qa_lit, qa_ltT, e1, qa_ix, qa_cl, top, rk]
end
