/-! THE HEART: search: the class's list of ways, whole -/
theorem qs_any_congr {p q : Nat → Bool} : ∀ k i, (∀ j, i ≤ j → j < i + k → p j = q j) → qs_any p i k = qs_any q i k
  | 0, i, _ => rfl
  | k + 1, i, h => by
    unfold qs_any
    rw [h i (by omega) (by omega), qs_any_congr k (i + 1) (fun j a b => h j (by omega) (by omega))]
theorem qw_b_tb {on : Nat → Bool} {hm : Nat → Nat → Nat} {c : Nat → Nat} {i : Nat} : ∀ f, (qw_b on hm c f).testBit i = true ↔ ∃ g, g < f ∧ on g = true ∧ (hm g (c g)).testBit i = true
  | 0 => by
    unfold qw_b
    constructor
    · intro h; rw [Nat.zero_testBit] at h; cases h
    · rintro ⟨g, h, -⟩; omega
  | f + 1 => by
    rw [show qw_b on hm c (f + 1) = qw_b on hm c f ||| qw_s on hm c f from rfl, Nat.testBit_or, Bool.or_eq_true, qw_b_tb f]
    constructor
    · rintro (⟨g, a, b, e⟩ | h)
      · exact ⟨g, by omega, b, e⟩
      · unfold qw_s at h
        cases ho : on f
        · rw [ho] at h
          simp at h
        · rw [ho, if_pos rfl] at h
          exact ⟨f, by omega, ho, h⟩
    · rintro ⟨g, a, b, e⟩
      by_cases hg : g = f
      · subst hg
        right
        unfold qw_s
        rw [b, if_pos rfl]
        exact e
      · left
        exact ⟨g, by omega, b, e⟩
theorem qw_e_bd {c : Nat → Nat} (hc : ∀ g, c g < 6) : ∀ f, qw_e c f < 8 ^ f
  | 0 => by unfold qw_e; decide
  | f + 1 => by
    have := qw_e_bd hc f
    have := hc f
    unfold qw_e
    rw [Nat.pow_succ]
    omega
def qw_lo (kd k : Nat) : Nat := if kd = 2 then 2 * k else k
/-- goes well with the figures ahead -/
def qw_pr (on : Nat → Bool) (hm : Nat → Nat → Nat) (or sp kd : Nat → Nat) (f k : Nat) (c : Nat → Nat) : Bool := !qs_any (fun g => on g && qs_any (fun i => (hm g (c g)).testBit i && (if or i < or (qw_lo (kd f) k) then decide (sp f < sp g) else decide (sp g < sp f))) 0 6) 0 f
theorem qw_pr_loc {on : Nat → Bool} {hm : Nat → Nat → Nat} {or sp kd : Nat → Nat} : qw_loc (qw_pr on hm or sp kd) := fun f k c c' h => by
  unfold qw_pr
  congr 1
  apply qs_any_congr
  intro j _ hj
  rw [h j (by omega)]
/-- what the class has loaded of a beat -/
def qh_H (fn t : Nat) (on : Nat → Bool) (hm : Nat → Nat → Nat) (ch : Nat → Nat → Bool) (or sp kd : Nat → Nat) (h : Nat → Nat → Int32) : Prop :=
  (h 65 2 = nI fn ∧ fn ≤ 6 ∧ t < 24) ∧ (∀ f k, hm f k < 64) ∧
  (∀ f, f < fn → h 66 f = nI (kd f) ∧ kd f ≤ 2) ∧
  (∀ f, f < fn → (on f = false → h 68 (t * 6 + f) = qN) ∧ (on f = true → h 68 (t * 6 + f) = nI (sp f) ∧ sp f < 8)) ∧
  (∀ f, f < fn → on f = true → ∃ x, x < 64 ∧ h 69 (t * 6 + f) = nI x ∧ ∀ k, k < 6 → x.testBit k = ch f k) ∧
  (∀ f k, f < fn → on f = true → k < 6 → ch f k = true → zH_handsOf (nI (kd f)) (nI k) = nI (hm f k) ∧ qw_lo (kd f) k < 6 ∧ (hm f k).testBit (qw_lo (kd f) k) = true ∧ ∀ i, i < 6 → (hm f k).testBit i = true → h 67 i = nI (or i) ∧ or i < 64)
theorem qh_H_e {fn t : Nat} {on : Nat → Bool} {hm : Nat → Nat → Nat} {ch : Nat → Nat → Bool} {or sp kd : Nat → Nat} {h h' : Nat → Nat → Int32} (e : ∀ c, c ≠ 71 → c ≠ 73 → c ≠ 75 → h' c = h c) (H : qh_H fn t on hm ch or sp kd h) : qh_H fn t on hm ch or sp kd h' := by
  unfold qh_H at H ⊢
  rw [e 65 (by omega) (by omega) (by omega), e 66 (by omega) (by omega) (by omega), e 67 (by omega) (by omega) (by omega), e 68 (by omega) (by omega) (by omega), e 69 (by omega) (by omega) (by omega)]
  exact H
/-- the figures ahead are held -/
def qh_I (on : Nat → Bool) (hm : Nat → Nat → Nat) (ch : Nat → Nat → Bool) (sp : Nat → Nat) (c : Nat → Nat) (f : Nat) (h : Nat → Nat → Int32) : Prop := (∀ g, c g < 6) ∧ (∀ g, g < f → on g = true → ch g (c g) = true ∧ ∀ i, i < 6 → (hm g (c g)).testBit i = true → h 75 i = nI (sp g)) ∧ ∀ g, f ≤ g → c g = 0
def qw_o2 (on : Nat → Bool) (hm : Nat → Nat → Nat) (ch : Nat → Nat → Bool) (or sp kd : Nat → Nat) (f k : Nat) (c : Nat → Nat) : Bool := qw_ok on hm ch f k c && qw_pr on hm or sp kd f k c
def qh_P (fn t : Nat) (on : Nat → Bool) (hm : Nat → Nat → Nat) (ch : Nat → Nat → Bool) (or sp kd : Nat → Nat) (r : Nat) : Prop :=
  ∀ (f n : Nat) (h : Nat → Nat → Int32) (c : Nat → Nat) (l : List (Nat → Nat)), f + r = fn → r < n → qh_H fn t on hm ch or sp kd h → qh_I on hm ch sp c f h → qh_rows fn t h l → l.length + (qw on (qw_o2 on hm ch or sp kd) r f c).length ≤ 720 →
    ∃ h', zS_lay n (nI t) (nI f) (nI (qw_e c f)) (nI (qw_b on hm c f)) h = some h' ∧ qh_oth t h h' ∧ (∀ i, i < 6 → (qw_b on hm c f).testBit i = true → h' 75 i = h 75 i) ∧ qh_rows fn t h' (l ++ qw on (qw_o2 on hm ch or sp kd) r f c)
section
variable {fn t : Nat} {on : Nat → Bool} {hm : Nat → Nat → Nat} {ch : Nat → Nat → Bool} {or sp kd : Nat → Nat} {h : Nat → Nat → Int32}
theorem qh_crs (H : qh_H fn t on hm ch or sp kd h) {f k : Nat} (hf : f < fn) (ho : on f = true) (h6 : k < 6) (hc : ch f k = true) {c : Nat → Nat} (HI : qh_I on hm ch sp c f h) : zS_isCrossing (nI (qw_lo (kd f) k)) (nI (sp f)) (nI (qw_b on hm c f)) h = some (qs_b (!qw_pr on hm or sp kd f k c)) := by
  obtain ⟨⟨e1, lfn, lt⟩, h64, H66, H68, H69, HH⟩ := H
  obtain ⟨-, lo6, lob, H67⟩ := HH f k hf ho h6 hc
  obtain ⟨o1, o2⟩ := H67 _ lo6 lob
  have b64 := qw_b_lt (on := on) h64 c f
  have E67 : ∀ i, i < 6 → (qw_b on hm c f).testBit i = true → h 67 i = nI (or i) ∧ or i < 64 := fun i hi hb => by
    obtain ⟨g, g1, g2, g3⟩ := (qw_b_tb f).mp hb
    exact (HH g (c g) (by omega) g2 (HI.1 g) (HI.2.1 g g1 g2).1).2.2.2 i hi g3
  have L := qh_crsL (pl := sp f) b64 o2 E67 6 am_N 0 (by omega) (by decide)
  unfold zS_isCrossing
  simp (disch := omega) only [↓qa_b, qa_ix, qa_cl, o1]
  refine L.trans ?_
  congr 2
  unfold qw_pr
  rw [Bool.not_not, Bool.eq_iff_iff, qs_any_iff, qs_any_iff]
  constructor
  · rintro ⟨i, -, hi, hb⟩
    rw [Bool.and_eq_true] at hb
    obtain ⟨g, g1, g2, g3⟩ := (qw_b_tb f).mp hb.1
    have sg := ((H68 g (by omega)).2 g2).2
    have sf := ((H68 f hf).2 ho).2
    have e75 := (HI.2.1 g g1 g2).2 i (by omega) g3
    refine ⟨g, by omega, by omega, ?_⟩
    rw [g2, Bool.true_and, qs_any_iff]
    refine ⟨i, by omega, by omega, ?_⟩
    rw [g3, Bool.true_and]
    have := hb.2
    rw [e75] at this
    simp (disch := omega) only [qa_ltE] at this
    exact this
  · rintro ⟨g, -, g1, hb⟩
    rw [Bool.and_eq_true, qs_any_iff] at hb
    obtain ⟨g2, i, -, hi, hw⟩ := hb
    rw [Bool.and_eq_true] at hw
    have sg := ((H68 g (by omega)).2 g2).2
    have sf := ((H68 f hf).2 ho).2
    have e75 := (HI.2.1 g (by omega) g2).2 i (by omega) hw.1
    refine ⟨i, by omega, by omega, ?_⟩
    rw [Bool.and_eq_true]
    refine ⟨(qw_b_tb f).mpr ⟨g, by omega, g2, hw.1⟩, ?_⟩
    rw [e75]
    simp (disch := omega) only [qa_ltE]
    exact hw.2
theorem qh_layI {r f : Nat} (IH : qh_P fn t on hm ch or sp kd r) (hf : f + 1 + r = fn) (ho : on f = true) (c : Nat → Nat) {n : Nat} (hn : r < n) : ∀ (m k n3 : Nat) (h : Nat → Nat → Int32) (l : List (Nat → Nat)), k + m = 6 → m < n3 → qh_H fn t on hm ch or sp kd h → qh_I on hm ch sp c f h → qh_rows fn t h l →
    l.length + (qw_l (fun k => if qw_o2 on hm ch or sp kd f k c then qw on (qw_o2 on hm ch or sp kd) r (f + 1) (qw_u c f k) else []) m k).length ≤ 720 →
    ∃ h', zS_lay_L51 (fun v1 v2 v3 v4 h => zS_lay n v1 v2 v3 v4 h) n3 (nI t) (nI f) (nI (qw_e c f)) (nI (qw_b on hm c f)) (nI (t * 6 + f)) (nI k) h = some h' ∧ qh_oth t h h' ∧ (∀ i, i < 6 → (qw_b on hm c f).testBit i = true → h' 75 i = h 75 i) ∧ qh_rows fn t h' (l ++ qw_l (fun k => if qw_o2 on hm ch or sp kd f k c then qw on (qw_o2 on hm ch or sp kd) r (f + 1) (qw_u c f k) else []) m k)
  | 0, k, n3 + 1, h, l, hk, _, H, HI, hr, hl => by
    have : k = 6 := by omega
    subst this
    refine ⟨h, ?_, qh_oth.rf t h, fun _ _ _ => rfl, ?_⟩
    · simp (disch := omega) only [↓reduceIte, ↓qa_b, qa_b, qa_lit, qa_neg1, qa_qN, nI_add, pk_mul, qa_ix, qa_cl, qa_ltT, qa_ltF, qa_eqT, qa_eqF, qa_nN, qa_Nn, qa_ltN, qa_Nlt, qa_NN, qa_ltNN, qa_sub, qa_dec, qa_dec0, qa_sub0, qa_incN, qa_31, qa_shr, qa_shl, qa_and1, va_up_self, qa_une, pk_us, pk_un, qa_up2, qa_upd2, Option.bind_some, if_true, if_false, and_true, true_and, and_self, qa_f1, qa_f2, zS_lay_L51]
    · rw [show ∀ G : Nat → List (Nat → Nat), qw_l G 0 6 = [] from fun _ => rfl, List.append_nil]
      exact hr
  | m + 1, k, n3 + 1, h, l, hk, h3, H, HI, hr, hl => by
    obtain ⟨⟨e1, lfn, lt⟩, h64, H66, H68, H69, HH⟩ := id H
    obtain ⟨x, hx, ex, etb⟩ := H69 f (by omega) ho
    obtain ⟨k1, k2⟩ := H66 f (by omega)
    obtain ⟨s1, s2⟩ := (H68 f (by omega)).2 ho
    have etk := etb k (by omega)
    have b64 := qw_b_lt (on := on) h64 c f
    have x64 := h64 f k
    have ba : hm f k &&& qw_b on hm c f < 64 := Nat.lt_of_le_of_lt Nat.and_le_left x64
    rw [show ∀ G : Nat → List (Nat → Nat), qw_l G (m + 1) k = G k ++ qw_l G m (k + 1) from fun _ => rfl] at hl ⊢
    rw [List.length_append] at hl
    -- a hold that is left out
    have skip : qw_o2 on hm ch or sp kd f k c = false → zS_lay_L51 (fun v1 v2 v3 v4 h => zS_lay n v1 v2 v3 v4 h) (n3 + 1) (nI t) (nI f) (nI (qw_e c f)) (nI (qw_b on hm c f)) (nI (t * 6 + f)) (nI k) h = zS_lay_L51 (fun v1 v2 v3 v4 h => zS_lay n v1 v2 v3 v4 h) n3 (nI t) (nI f) (nI (qw_e c f)) (nI (qw_b on hm c f)) (nI (t * 6 + f)) (nI (k + 1)) h →
      ∃ h', zS_lay_L51 (fun v1 v2 v3 v4 h => zS_lay n v1 v2 v3 v4 h) (n3 + 1) (nI t) (nI f) (nI (qw_e c f)) (nI (qw_b on hm c f)) (nI (t * 6 + f)) (nI k) h = some h' ∧ qh_oth t h h' ∧ (∀ i, i < 6 → (qw_b on hm c f).testBit i = true → h' 75 i = h 75 i) ∧ qh_rows fn t h' (l ++ ((if qw_o2 on hm ch or sp kd f k c then qw on (qw_o2 on hm ch or sp kd) r (f + 1) (qw_u c f k) else []) ++ qw_l (fun k => if qw_o2 on hm ch or sp kd f k c then qw on (qw_o2 on hm ch or sp kd) r (f + 1) (qw_u c f k) else []) m (k + 1))) := fun hz he => by
      obtain ⟨h', q1, q2, q3, q4⟩ := qh_layI IH hf ho c hn m (k + 1) n3 h l (by omega) (by omega) H HI hr (by omega)
      refine ⟨h', he.trans q1, q2, q3, ?_⟩
      rw [hz]
      simpa using q4
    cases hc : ch f k
    · apply skip
      · unfold qw_o2 qw_ok; rw [hc]; simp
      · rw [hc] at etk
        simp (disch := omega) only [↓reduceIte, ↓qa_b, zS_lay_L51, qa_lit, qa_ltT, qa_ix, qa_cl, ex, qa_31, qa_shr, qa_and1, qa_tb, etk, nI_add]
    · rw [hc] at etk
      obtain ⟨eh, lo6, lob, H67⟩ := HH f k (by omega) ho (by omega) hc
      have ec := qh_crs H (show f < fn by omega) ho (show k < 6 by omega) hc HI
      -- to the crossing
      have go : zS_lay_L51 (fun v1 v2 v3 v4 h => zS_lay n v1 v2 v3 v4 h) (n3 + 1) (nI t) (nI f) (nI (qw_e c f)) (nI (qw_b on hm c f)) (nI (t * 6 + f)) (nI k) h = zS_lay_J108 (fun v1 v2 v3 v4 h => zS_lay n v1 v2 v3 v4 h) (fun v1 v2 v3 v4 v5 v6 h => zS_lay_L51 (fun v1 v2 v3 v4 h => zS_lay n v1 v2 v3 v4 h) n3 v1 v2 v3 v4 v5 v6 h) (nI t) (nI f) (nI (qw_e c f)) (nI (qw_b on hm c f)) (nI (t * 6 + f)) (nI k) (nI (hm f k)) (nI (qw_lo (kd f) k)) h := by
        by_cases h2 : kd f = 2
        · rw [h2] at k1 eh
          simp (disch := omega) only [↓reduceIte, ↓qa_b, zS_lay_L51, qa_lit, qa_ltT, qa_ix, qa_cl, ex, qa_31, qa_shr, qa_and1, qa_tb, etk, k1, eh, pk_mul, Bool.true_eq_false, qw_lo, h2]
        · simp (disch := omega) only [↓reduceIte, ↓qa_b, zS_lay_L51, qa_lit, qa_ltT, qa_ix, qa_cl, ex, qa_31, qa_shr, qa_and1, qa_tb, etk, k1, eh, qa_eqF, Bool.true_eq_false, qw_lo, h2]
      by_cases hz : hm f k &&& qw_b on hm c f = 0
      · cases hp : qw_pr on hm or sp kd f k c
        · apply skip
          · unfold qw_o2; rw [hp]; simp
          · rw [go]
            rw [hp] at ec
            simp (disch := omega) only [↓reduceIte, ↓qa_b, zS_lay_J108, fa_and, hz, qa_lit, qa_ix, qa_cl, s1, ec, Option.bind_some, qs_b, Bool.not_false, qa_eqF, nI_add]
        · have hok : qw_o2 on hm ch or sp kd f k c = true := by unfold qw_o2 qw_ok; rw [hp, hc, decide_eq_true hz]; rfl
          rw [hok, if_pos rfl] at hl ⊢
          rw [hp] at ec
          obtain ⟨h1, p1, p2, p3⟩ := qh_putL x64 (nI (sp f)) 6 am_N 0 h (by omega) (by decide)
          have bu : qw_b on hm (qw_u c f k) (f + 1) = qw_b on hm c f ||| hm f k := by
            rw [show qw_b on hm (qw_u c f k) (f + 1) = qw_b on hm (qw_u c f k) f ||| qw_s on hm (qw_u c f k) f from rfl, qw_b_u f (Nat.le_refl _), qw_s_uu ho]
          have eu : qw_e (qw_u c f k) (f + 1) = qw_e c f * 8 + k := by
            rw [show qw_e (qw_u c f k) (f + 1) = qw_e (qw_u c f k) f * 8 + qw_u c f k f from rfl, qw_e_c (c := qw_u c f k) (c' := c) f (fun g hg => by unfold qw_u; rw [if_neg (by omega)])]
            unfold qw_u
            rw [if_pos rfl]
          have dis : ∀ i, (qw_b on hm c f).testBit i = true → (hm f k).testBit i = false := fun i hi => by
            have := congrArg (fun z => z.testBit i) hz
            simp only [Nat.testBit_and, hi, Nat.zero_testBit, Bool.and_true] at this
            exact this
          have p75 : ∀ i, (qw_b on hm c f).testBit i = true → h1 75 i = h 75 i := fun i hi => by rw [p3 i, if_neg (by rw [dis i hi]; simp)]
          obtain ⟨h2, q1, q2, q3, q4⟩ := IH (f + 1) n h1 (qw_u c f k) l hf hn (qh_H_e (fun c _ _ hc => p2 c hc) H) ⟨fun g => by
              unfold qw_u
              split
              · omega
              · exact HI.1 g, fun g hg hog => by
              by_cases hgf : g = f
              · subst hgf
                have e : qw_u c g k g = k := by unfold qw_u; rw [if_pos rfl]
                rw [e]
                exact ⟨hc, fun i hi hb => by rw [p3 i, if_pos ⟨by omega, hi, hb⟩]⟩
              · have e : qw_u c f k g = c g := by unfold qw_u; rw [if_neg hgf]
                rw [e]
                have := HI.2.1 g (by omega) hog
                exact ⟨this.1, fun i hi hb => by rw [p75 i ((qw_b_tb f).mpr ⟨g, by omega, hog, hb⟩)]; exact this.2 i hi hb⟩, fun g hg => by
              unfold qw_u
              rw [if_neg (by omega)]
              exact HI.2.2 g (by omega)⟩ (by
              unfold qh_rows
              rw [p2 71 (by omega), p2 73 (by omega)]
              exact hr) (by omega)
          rw [bu] at q1 q3
          rw [eu] at q1
          have o12 : qh_oth t h h2 := qh_oth.tr ⟨fun c _ _ d => p2 c d, fun j _ => by rw [p2 73 (by omega)], fun j _ => by rw [p2 71 (by omega)]⟩ q2
          have b75 : ∀ i, i < 6 → (qw_b on hm c f).testBit i = true → h2 75 i = h 75 i := fun i hi hb => by
            rw [q3 i hi (by rw [Nat.testBit_or, hb]; rfl), p75 i hb]
          obtain ⟨h3', r1, r2, r3, r4⟩ := qh_layI IH hf ho c hn m (k + 1) n3 h2 (l ++ qw on (qw_o2 on hm ch or sp kd) r (f + 1) (qw_u c f k)) (by omega) (by omega) (qh_H_e o12.1 H) ⟨HI.1, fun g hg hog => ⟨(HI.2.1 g hg hog).1, fun i hi hb => by rw [b75 i hi ((qw_b_tb f).mpr ⟨g, hg, hog, hb⟩)]; exact (HI.2.1 g hg hog).2 i hi hb⟩, HI.2.2⟩ q4 (by rw [List.length_append]; omega)
          refine ⟨h3', ?_, o12.tr r2, fun i hi hb => by rw [r3 i hi hb, b75 i hi hb], ?_⟩
          · rw [go]
            have eb := qw_e_bd HI.1 f
            have e85 : 8 ^ f ≤ 8 ^ 5 := Nat.pow_le_pow_right (by omega) (by omega)
            have eo : qw_e c f * 2 ^ 3 ||| k = qw_e c f * 8 + k := by
              have := Nat.two_pow_add_eq_or_of_lt (i := 3) (b := k) (by omega) (qw_e c f)
              rw [Nat.mul_comm (qw_e c f) (2 ^ 3), ← this]
            have e3 : (3 &&& 31 : Nat) = 3 := by decide
            have p1' : zS_putHands (nI (hm f k)) (nI (sp f)) h = some h1 := p1
            simp (disch := omega) only [↓reduceIte, ↓qa_b, zS_lay_J108, fa_and, hz, qa_lit, qa_ix, qa_cl, s1, ec, Option.bind_some, qs_b, Bool.not_true, nI_add, p1', e3, qa_31, qa_shl, fa_or, eo, q1, Bool.false_eq_true]
            exact r1
          · rw [← List.append_assoc]
            exact r4
      · apply skip
        · unfold qw_o2 qw_ok; rw [decide_eq_false hz]; simp
        · rw [go]
          simp (disch := omega) only [↓reduceIte, ↓qa_b, zS_lay_J108, fa_and, qa_lit, qa_eqF, nI_add]
theorem qh_lay : ∀ r, qh_P fn t on hm ch or sp kd r
  | 0 => by
    intro f n h c l hf hn H HI hr hl
    obtain ⟨m, rfl⟩ : ∃ m, n = m + 1 := ⟨n - 1, by omega⟩
    obtain ⟨⟨e1, lfn, lt⟩, h64, H66, H68, H69, HH⟩ := id H
    have : f = fn := by omega
    subst this
    rw [show qw on (qw_o2 on hm ch or sp kd) 0 f c = [c] from rfl] at hl ⊢
    obtain ⟨h', q1, q2, q3, q4⟩ := qh_keep (fn := f) lt (show l.length < 720 by simp at hl; omega) c hr
    refine ⟨h', ?_, q2, fun i _ _ => by rw [q3], q4⟩
    simp (disch := omega) only [↓reduceIte, ↓qa_b, zS_lay, e1, qa_ltF, q1, Option.bind_some]
  | r + 1 => by
    intro f n h c l hf hn H HI hr hl
    obtain ⟨m, rfl⟩ : ∃ m, n = m + 1 := ⟨n - 1, by omega⟩
    obtain ⟨⟨e1, lfn, lt⟩, h64, H66, H68, H69, HH⟩ := id H
    rw [show qw on (qw_o2 on hm ch or sp kd) (r + 1) f c = if on f then qw_l (fun k => if qw_o2 on hm ch or sp kd f k c then qw on (qw_o2 on hm ch or sp kd) r (f + 1) (qw_u c f k) else []) 6 0 else qw on (qw_o2 on hm ch or sp kd) r (f + 1) c from rfl] at hl ⊢
    have eb := qw_e_bd HI.1 f
    have e85 : 8 ^ f ≤ 8 ^ 5 := Nat.pow_le_pow_right (by omega) (by omega)
    cases ho : on f
    · rw [ho] at hl
      simp only [Bool.false_eq_true, if_false] at hl ⊢
      have s1 := (H68 f (by omega)).1 ho
      have bu : qw_b on hm c (f + 1) = qw_b on hm c f := by
        rw [show qw_b on hm c (f + 1) = qw_b on hm c f ||| qw_s on hm c f from rfl, show qw_s on hm c f = 0 by unfold qw_s; rw [ho]; rfl, Nat.or_zero]
      have eu : qw_e c (f + 1) = qw_e c f * 8 := by
        rw [show qw_e c (f + 1) = qw_e c f * 8 + c f from rfl, HI.2.2 f (Nat.le_refl f), Nat.add_zero]
      obtain ⟨h', q1, q2, q3, q4⟩ := qh_lay r (f + 1) m h c l (by omega) (by omega) H ⟨HI.1, fun g hg hog => HI.2.1 g (by
          by_cases hgf : g = f
          · subst hgf; rw [ho] at hog; cases hog
          · omega) hog, fun g hg => HI.2.2 g (by omega)⟩ hr hl
      rw [bu] at q1 q3
      rw [eu] at q1
      refine ⟨h', ?_, q2, q3, q4⟩
      have e3 : nI (qw_e c f) <<< nI 3 = nI (qw_e c f * 8) := qa_shl (by omega) (by omega)
      simp (disch := omega) only [↓reduceIte, ↓qa_b, zS_lay, e1, qa_lit, qa_ltT, pk_mul, nI_add, qa_ix, qa_cl, s1, qa_neg1, qa_qN, qa_31, e3, q1, Option.bind_some]
    · rw [ho, if_pos rfl] at hl
      obtain ⟨s1, s2⟩ := (H68 f (by omega)).2 ho
      obtain ⟨h', q1, q2, q3, q4⟩ := qh_layI (qh_lay r) (by omega) ho c (show r < m by omega) 6 0 am_N h l (by omega) (by decide) H HI hr hl
      refine ⟨h', ?_, q2, q3, ?_⟩
      · simp (disch := omega) only [↓reduceIte, ↓qa_b, zS_lay, e1, qa_lit, qa_ltT, pk_mul, nI_add, qa_ix, qa_cl, s1, qa_neg1, qa_qN, qa_nN]
        exact q1
      · rw [if_pos rfl]
        exact q4
end
