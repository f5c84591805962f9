/-! THE HEART: search: the reference's list of ways -/
def qr_H (on : Nat → Bool) (hm : Nat → Nat → Nat) (ch : Nat → Nat → Bool) (p : (Nat → Nat) → Bool) (t : Nat) (w : zHM) : Prop :=
  (∀ u, qr_g w u → ∀ f, f < 6 → zM_isThere (nI t) (nI f) u = some (qs_b (on f))) ∧
  (∀ u, qr_g w u → ∀ f, f < 6 → on f = true → ∀ k, k < 6 → zM_holdOf (nI f) (nI k) u = some (nI (hm f k))) ∧
  (∀ u, qr_g w u → ∀ f, f < 6 → on f = true → ∀ k, k < 6 → ∃ u', zM_canHold (nI t) (nI f) (nI (hm f k)) u = some (qs_b (ch f k), u') ∧ qf_s u u') ∧
  (∀ u c, qr_g w u → (∀ g, g < 6 → u.1 96 g = nI (qw_s on hm c g)) → zM_isWay (nI t) u = some (qs_b (p c))) ∧
  (∀ f k, hm f k < 64) ∧ t < 24
def qw_ok (on : Nat → Bool) (hm : Nat → Nat → Nat) (ch : Nat → Nat → Bool) (f k : Nat) (c : Nat → Nat) : Bool := decide (hm f k &&& qw_b on hm c f = 0) && ch f k
def qr_cost : Nat → Nat
  | 0 => 1
  | r + 1 => 1 + 6 * (qr_cost r + 1)
def qr_P (on : Nat → Bool) (hm : Nat → Nat → Nat) (ch : Nat → Nat → Bool) (p : (Nat → Nat) → Bool) (t : Nat) (w : zHM) (r : Nat) : Prop :=
  ∀ (f n : Nat) (u : zHM) (c : Nat → Nat) (l : List (Nat → Nat)), f + r = 6 → qr_cost r ≤ n → qr_g w u → (∀ g, g < f → u.1 96 g = nI (qw_s on hm c g)) → u.1 95 f = qN → qr_rows on hm t u l → l.length + ((qw on (qw_ok on hm ch) r f c).filter p).length ≤ 720 →
    ∃ n' u', n ≤ n' + qr_cost r ∧ zM_findWays_L16 n (nI t) (nI f) u = zM_findWays_L16 n' (nI t) (qr_d f) u' ∧ qr_g u u' ∧ qr_oth t u u' ∧ (∀ g, g < f → u'.1 96 g = u.1 96 g ∧ u'.1 95 g = u.1 95 g) ∧ qr_rows on hm t u' (l ++ (qw on (qw_ok on hm ch) r f c).filter p)
section
variable {on : Nat → Bool} {hm : Nat → Nat → Nat} {ch : Nat → Nat → Bool} {p : (Nat → Nat) → Bool} {t : Nat} {w : zHM}
theorem qr_busy {f : Nat} (hf : f < 6) (c : Nat → Nat) (K : Int32 → Int32 → zHM → Option zHM) (u : zHM) (h96 : ∀ g, g < f → u.1 96 g = nI (qw_s on hm c g)) : ∀ (k n g : Nat), g + k = f → k < n → zM_findWays_L91 K n (nI t) (nI f) (nI (qw_b on hm c g)) (nI g) u = zM_findWays_L123 K am_N (nI t) (nI f) (nI (qw_b on hm c f)) (va_up u.1 95 (upd (u.1 95) f (u.1 95 f + nI 1)), u.2)
  | 0, n + 1, g, hg, _ => by
    have : g = f := by omega
    subst this
    simp (disch := omega) only [↓reduceIte, ↓qa_b, qa_b, qa_lit, qa_neg1, qa_qN, nI_add, pk_mul, qa_ix, qa_cl, qa_ltT, qa_ltF, qa_eqT, qa_eqF, qa_nN, qa_Nn, qa_ltN, qa_Nlt, qa_NN, qa_ltNN, qa_sub, qa_dec, qa_dec0, qa_sub0, qa_incN, qa_31, qa_shr, qa_shl, qa_and1, va_up_self, qa_une, pk_us, pk_un, qa_up2, qa_upd2, Option.bind_some, if_true, if_false, and_true, true_and, and_self, qa_f1, qa_f2, zM_findWays_L91]
  | k + 1, n + 1, g, hg, hn => by
    have ih := qr_busy hf c K u h96 k n (g + 1) (by omega) (by omega)
    have e := h96 g (by omega)
    rw [show qw_b on hm c (g + 1) = qw_b on hm c g ||| qw_s on hm c g from rfl] at ih
    simp (disch := omega) only [↓reduceIte, ↓qa_b, qa_b, qa_lit, qa_neg1, qa_qN, nI_add, pk_mul, qa_ix, qa_cl, qa_ltT, qa_ltF, qa_eqT, qa_eqF, qa_nN, qa_Nn, qa_ltN, qa_Nlt, qa_NN, qa_ltNN, qa_sub, qa_dec, qa_dec0, qa_sub0, qa_incN, qa_31, qa_shr, qa_shl, qa_and1, va_up_self, qa_une, pk_us, pk_un, qa_up2, qa_upd2, Option.bind_some, if_true, if_false, and_true, true_and, and_self, qa_f1, qa_f2, zM_findWays_L91, e, fa_or]
    exact ih
theorem qr_rows_e {u v : zHM} {l : List (Nat → Nat)} (e2 : v.1 92 = u.1 92) (e3 : v.1 93 = u.1 93) (h : qr_rows on hm t u l) : qr_rows on hm t v l := by
  unfold qr_rows at h ⊢
  rw [e2, e3]
  exact h
theorem qr_oth_e {u v : zHM} (e2 : v.1 92 = u.1 92) (e3 : v.1 93 = u.1 93) : qr_oth t u v := ⟨fun j _ => congrFun e3 j, fun j _ => congrFun e2 j⟩
theorem qr_in (H : qr_H on hm ch p t w) {r f : Nat} (IH : qr_P on hm ch p t w r) (hf : f + 1 + r = 6) (ho : on f = true) (c : Nat → Nat) : ∀ (m k n n3 : Nat) (u : zHM) (l : List (Nat → Nat)), k + m = 6 → m < n3 → m * (qr_cost r + 1) ≤ n → qr_g w u → (∀ g, g < f → u.1 96 g = nI (qw_s on hm c g)) → u.1 95 f = nI k → qr_rows on hm t u l →
    l.length + ((qw_l (fun k => if qw_ok on hm ch f k c then qw on (qw_ok on hm ch) r (f + 1) (qw_u c f k) else []) m k).filter p).length ≤ 720 →
    ∃ n' u', n ≤ n' + m * (qr_cost r + 1) ∧ zM_findWays_L123 (fun v1 v2 w => zM_findWays_L16 n v1 v2 w) n3 (nI t) (nI f) (nI (qw_b on hm c f)) u = zM_findWays_L16 n' (nI t) (qr_d f) u' ∧ qr_g u u' ∧ qr_oth t u u' ∧ (∀ g, g < f → u'.1 96 g = u.1 96 g ∧ u'.1 95 g = u.1 95 g) ∧ qr_rows on hm t u' (l ++ (qw_l (fun k => if qw_ok on hm ch f k c then qw on (qw_ok on hm ch) r (f + 1) (qw_u c f k) else []) m k).filter p)
  | 0, k, n, n3 + 1, u, l, hk, _, hn, hg, h96, h95, hr, hl => by
    have : k = 6 := by omega
    subst this
    refine ⟨n, u, by omega, ?_, qr_g.rf u, qr_oth.rf t u, fun _ _ => ⟨rfl, rfl⟩, ?_⟩
    · simp (disch := omega) only [↓reduceIte, ↓qa_b, zM_findWays_L123, zM_findWays_J183, qa_ix, qa_cl, h95, qa_lit, qa_ltF, qa_neg1, qa_qN, qr_dA]
    · rw [show qw_l (fun k => if qw_ok on hm ch f k c then qw on (qw_ok on hm ch) r (f + 1) (qw_u c f k) else []) 0 6 = [] from rfl, List.filter_nil, List.append_nil]
      exact hr
  | m + 1, k, n, n3 + 1, u, l, hk, h3, hn, hg, h96, h95, hr, hl => by
    obtain ⟨HT, HO, HC, HW, h64, ht⟩ := id H
    have ehold := HO u hg f (by omega) ho k (by omega)
    have b64 := h64 f k
    have bb := qw_b_lt (on := on) h64 c f
    have ba : hm f k &&& qw_b on hm c f < 64 := Nat.lt_of_le_of_lt Nat.and_le_left b64
    rw [Nat.succ_mul] at hn
    generalize hM : m * (qr_cost r + 1) = M at hn
    rw [show ∀ G : Nat → List (Nat → Nat), qw_l G (m + 1) k = G k ++ qw_l G m (k + 1) from fun _ => rfl, List.filter_append] at hl ⊢
    rw [List.length_append] at hl
    by_cases hz : hm f k &&& qw_b on hm c f = 0
    · obtain ⟨u1, e1, s1⟩ := HC u hg f (by omega) ho k (by omega)
      obtain ⟨g1, o1, x2, x3, x5, x6⟩ := qr_s t s1
      have h95' : u1.1 95 f = nI k := by rw [x5]; exact h95
      cases hc : ch f k
      · have hok : qw_ok on hm ch f k c = false := by unfold qw_ok; rw [hc, Bool.and_false]
        obtain ⟨n', u', q1, q2, q3, q4, q5, q6⟩ := qr_in H IH hf ho c m (k + 1) n n3 (va_up u1.1 95 (upd (u1.1 95) f (nI (k + 1))), u1.2) l (by omega) (by omega) (by omega) (hg.tr (g1.tr (fun c a b d e f g => by
            simp (disch := omega) only [↓reduceIte, ↓qa_b, qa_b, qa_lit, qa_neg1, qa_qN, nI_add, pk_mul, qa_ix, qa_cl, qa_ltT, qa_ltF, qa_eqT, qa_eqF, qa_nN, qa_Nn, qa_ltN, qa_Nlt, qa_NN, qa_ltNN, qa_sub, qa_dec, qa_dec0, qa_sub0, qa_incN, qa_31, qa_shr, qa_shl, qa_and1, va_up_self, qa_une, pk_us, pk_un, qa_up2, qa_upd2, Option.bind_some, if_true, if_false, and_true, true_and, and_self, qa_f1, qa_f2]))) (fun g hgf => by
            have := h96 g hgf
            rw [← x6] at this
            simp (disch := omega) only [↓reduceIte, ↓qa_b, qa_b, qa_lit, qa_neg1, qa_qN, nI_add, pk_mul, qa_ix, qa_cl, qa_ltT, qa_ltF, qa_eqT, qa_eqF, qa_nN, qa_Nn, qa_ltN, qa_Nlt, qa_NN, qa_ltNN, qa_sub, qa_dec, qa_dec0, qa_sub0, qa_incN, qa_31, qa_shr, qa_shl, qa_and1, va_up_self, qa_une, pk_us, pk_un, qa_up2, qa_upd2, Option.bind_some, if_true, if_false, and_true, true_and, and_self, qa_f1, qa_f2]
            exact this) (by
            simp (disch := omega) only [↓reduceIte, ↓qa_b, qa_b, qa_lit, qa_neg1, qa_qN, nI_add, pk_mul, qa_ix, qa_cl, qa_ltT, qa_ltF, qa_eqT, qa_eqF, qa_nN, qa_Nn, qa_ltN, qa_Nlt, qa_NN, qa_ltNN, qa_sub, qa_dec, qa_dec0, qa_sub0, qa_incN, qa_31, qa_shr, qa_shl, qa_and1, va_up_self, qa_une, pk_us, pk_un, qa_up2, qa_upd2, Option.bind_some, if_true, if_false, and_true, true_and, and_self, qa_f1, qa_f2]) (qr_rows_e x2 x3 hr) (by
            rw [hok] at hl
            simp only [Bool.false_eq_true, if_false, List.filter_nil, List.length_nil] at hl
            omega)
        refine ⟨n', u', by rw [Nat.succ_mul]; omega, ?_, g1.tr ((fun c a b d e f g => by
            simp (disch := omega) only [↓reduceIte, ↓qa_b, qa_b, qa_lit, qa_neg1, qa_qN, nI_add, pk_mul, qa_ix, qa_cl, qa_ltT, qa_ltF, qa_eqT, qa_eqF, qa_nN, qa_Nn, qa_ltN, qa_Nlt, qa_NN, qa_ltNN, qa_sub, qa_dec, qa_dec0, qa_sub0, qa_incN, qa_31, qa_shr, qa_shl, qa_and1, va_up_self, qa_une, pk_us, pk_un, qa_up2, qa_upd2, Option.bind_some, if_true, if_false, and_true, true_and, and_self, qa_f1, qa_f2]) |> fun (z : qr_g u1 (va_up u1.1 95 (upd (u1.1 95) f (nI (k + 1))), u1.2)) => z.tr q3), o1.tr ((qr_oth_e (by
            simp (disch := omega) only [↓reduceIte, ↓qa_b, qa_b, qa_lit, qa_neg1, qa_qN, nI_add, pk_mul, qa_ix, qa_cl, qa_ltT, qa_ltF, qa_eqT, qa_eqF, qa_nN, qa_Nn, qa_ltN, qa_Nlt, qa_NN, qa_ltNN, qa_sub, qa_dec, qa_dec0, qa_sub0, qa_incN, qa_31, qa_shr, qa_shl, qa_and1, va_up_self, qa_une, pk_us, pk_un, qa_up2, qa_upd2, Option.bind_some, if_true, if_false, and_true, true_and, and_self, qa_f1, qa_f2]) (by
            simp (disch := omega) only [↓reduceIte, ↓qa_b, qa_b, qa_lit, qa_neg1, qa_qN, nI_add, pk_mul, qa_ix, qa_cl, qa_ltT, qa_ltF, qa_eqT, qa_eqF, qa_nN, qa_Nn, qa_ltN, qa_Nlt, qa_NN, qa_ltNN, qa_sub, qa_dec, qa_dec0, qa_sub0, qa_incN, qa_31, qa_shr, qa_shl, qa_and1, va_up_self, qa_une, pk_us, pk_un, qa_up2, qa_upd2, Option.bind_some, if_true, if_false, and_true, true_and, and_self, qa_f1, qa_f2])).tr q4), fun g hgf => ?_, ?_⟩
        · rw [hc] at e1
          simp (disch := omega) only [↓reduceIte, ↓qa_b, zM_findWays_L123, zM_findWays_J170, qa_ix, qa_cl, h95, h95', qa_lit, qa_ltT, ehold, Option.bind_some, fa_and, hz, e1, qs_b0, nI_add, qs_b]
          exact q2
        · have := q5 g hgf
          rw [this.1, this.2]
          constructor
          · simp (disch := omega) only [↓reduceIte, ↓qa_b, qa_b, qa_lit, qa_neg1, qa_qN, nI_add, pk_mul, qa_ix, qa_cl, qa_ltT, qa_ltF, qa_eqT, qa_eqF, qa_nN, qa_Nn, qa_ltN, qa_Nlt, qa_NN, qa_ltNN, qa_sub, qa_dec, qa_dec0, qa_sub0, qa_incN, qa_31, qa_shr, qa_shl, qa_and1, va_up_self, qa_une, pk_us, pk_un, qa_up2, qa_upd2, Option.bind_some, if_true, if_false, and_true, true_and, and_self, qa_f1, qa_f2, x6]
          · simp (disch := omega) only [↓reduceIte, ↓qa_b, qa_b, qa_lit, qa_neg1, qa_qN, nI_add, pk_mul, qa_ix, qa_cl, qa_ltT, qa_ltF, qa_eqT, qa_eqF, qa_nN, qa_Nn, qa_ltN, qa_Nlt, qa_NN, qa_ltNN, qa_sub, qa_dec, qa_dec0, qa_sub0, qa_incN, qa_31, qa_shr, qa_shl, qa_and1, va_up_self, qa_une, pk_us, pk_un, qa_up2, qa_upd2, Option.bind_some, if_true, if_false, and_true, true_and, and_self, qa_f1, qa_f2, x5]
        · rw [hok]
          simp only [Bool.false_eq_true, if_false, List.filter_nil, List.nil_append]
          exact q6
      · have hok : qw_ok on hm ch f k c = true := by unfold qw_ok; rw [hc, decide_eq_true hz]; rfl
        rw [hok, if_pos rfl] at hl ⊢
        have h96' : ∀ g, g < f → u1.1 96 g = nI (qw_s on hm c g) := fun g h => by rw [x6]; exact h96 g h
        have ehold1 := HO u1 (hg.tr g1) f (by omega) ho k (by omega)
        -- the figure's hands are set
        generalize hv : ((va_up (va_up u1.1 96 (upd (u1.1 96) f (nI (hm f k)))) 95 (upd (u1.1 95) (f + 1) qN), u1.2) : zHM) = v
        have gv : qr_g u1 v := fun c a b d e f g => by
          subst hv
          simp (disch := omega) only [↓reduceIte, ↓qa_b, qa_b, qa_lit, qa_neg1, qa_qN, nI_add, pk_mul, qa_ix, qa_cl, qa_ltT, qa_ltF, qa_eqT, qa_eqF, qa_nN, qa_Nn, qa_ltN, qa_Nlt, qa_NN, qa_ltNN, qa_sub, qa_dec, qa_dec0, qa_sub0, qa_incN, qa_31, qa_shr, qa_shl, qa_and1, va_up_self, qa_une, pk_us, pk_un, qa_up2, qa_upd2, Option.bind_some, if_true, if_false, and_true, true_and, and_self, qa_f1, qa_f2]
        have v92 : v.1 92 = u1.1 92 := by
          subst hv
          simp (disch := omega) only [↓reduceIte, ↓qa_b, qa_b, qa_lit, qa_neg1, qa_qN, nI_add, pk_mul, qa_ix, qa_cl, qa_ltT, qa_ltF, qa_eqT, qa_eqF, qa_nN, qa_Nn, qa_ltN, qa_Nlt, qa_NN, qa_ltNN, qa_sub, qa_dec, qa_dec0, qa_sub0, qa_incN, qa_31, qa_shr, qa_shl, qa_and1, va_up_self, qa_une, pk_us, pk_un, qa_up2, qa_upd2, Option.bind_some, if_true, if_false, and_true, true_and, and_self, qa_f1, qa_f2]
        have v93 : v.1 93 = u1.1 93 := by
          subst hv
          simp (disch := omega) only [↓reduceIte, ↓qa_b, qa_b, qa_lit, qa_neg1, qa_qN, nI_add, pk_mul, qa_ix, qa_cl, qa_ltT, qa_ltF, qa_eqT, qa_eqF, qa_nN, qa_Nn, qa_ltN, qa_Nlt, qa_NN, qa_ltNN, qa_sub, qa_dec, qa_dec0, qa_sub0, qa_incN, qa_31, qa_shr, qa_shl, qa_and1, va_up_self, qa_une, pk_us, pk_un, qa_up2, qa_upd2, Option.bind_some, if_true, if_false, and_true, true_and, and_self, qa_f1, qa_f2]
        have v95 : ∀ g, g < f + 1 → v.1 95 g = u1.1 95 g := fun g hg => by
          subst hv
          simp (disch := omega) only [↓reduceIte, ↓qa_b, qa_b, qa_lit, qa_neg1, qa_qN, nI_add, pk_mul, qa_ix, qa_cl, qa_ltT, qa_ltF, qa_eqT, qa_eqF, qa_nN, qa_Nn, qa_ltN, qa_Nlt, qa_NN, qa_ltNN, qa_sub, qa_dec, qa_dec0, qa_sub0, qa_incN, qa_31, qa_shr, qa_shl, qa_and1, va_up_self, qa_une, pk_us, pk_un, qa_up2, qa_upd2, Option.bind_some, if_true, if_false, and_true, true_and, and_self, qa_f1, qa_f2]
        have v95' : v.1 95 (f + 1) = qN := by
          subst hv
          simp (disch := omega) only [↓reduceIte, ↓qa_b, qa_b, qa_lit, qa_neg1, qa_qN, nI_add, pk_mul, qa_ix, qa_cl, qa_ltT, qa_ltF, qa_eqT, qa_eqF, qa_nN, qa_Nn, qa_ltN, qa_Nlt, qa_NN, qa_ltNN, qa_sub, qa_dec, qa_dec0, qa_sub0, qa_incN, qa_31, qa_shr, qa_shl, qa_and1, va_up_self, qa_une, pk_us, pk_un, qa_up2, qa_upd2, Option.bind_some, if_true, if_false, and_true, true_and, and_self, qa_f1, qa_f2]
        have v96 : ∀ g, g < f → v.1 96 g = u1.1 96 g := fun g hg => by
          subst hv
          simp (disch := omega) only [↓reduceIte, ↓qa_b, qa_b, qa_lit, qa_neg1, qa_qN, nI_add, pk_mul, qa_ix, qa_cl, qa_ltT, qa_ltF, qa_eqT, qa_eqF, qa_nN, qa_Nn, qa_ltN, qa_Nlt, qa_NN, qa_ltNN, qa_sub, qa_dec, qa_dec0, qa_sub0, qa_incN, qa_31, qa_shr, qa_shl, qa_and1, va_up_self, qa_une, pk_us, pk_un, qa_up2, qa_upd2, Option.bind_some, if_true, if_false, and_true, true_and, and_self, qa_f1, qa_f2]
        have v96' : v.1 96 f = nI (hm f k) := by
          subst hv
          simp (disch := omega) only [↓reduceIte, ↓qa_b, qa_b, qa_lit, qa_neg1, qa_qN, nI_add, pk_mul, qa_ix, qa_cl, qa_ltT, qa_ltF, qa_eqT, qa_eqF, qa_nN, qa_Nn, qa_ltN, qa_Nlt, qa_NN, qa_ltNN, qa_sub, qa_dec, qa_dec0, qa_sub0, qa_incN, qa_31, qa_shr, qa_shl, qa_and1, va_up_self, qa_une, pk_us, pk_un, qa_up2, qa_upd2, Option.bind_some, if_true, if_false, and_true, true_and, and_self, qa_f1, qa_f2]
        obtain ⟨n1, u2, q1, q2, q3, q4, q5, q6⟩ := IH (f + 1) n v (qw_u c f k) l hf (by omega) (hg.tr (g1.tr gv)) (fun g hgf => by
            by_cases hgf' : g = f
            · subst hgf'
              rw [v96', qw_s_uu ho]
            · rw [v96 g (by omega), qw_s_u hgf', h96' g (by omega)]) v95' (qr_rows_e (v92.trans x2) (v93.trans x3) hr) (by omega)
        obtain ⟨n2, rfl⟩ : ∃ n2, n1 = n2 + 1 := ⟨n1 - 1, by omega⟩
        have g2 := hg.tr (g1.tr (gv.tr q3))
        have u95 : u2.1 95 f = nI k := by rw [(q5 f (by omega)).2, v95 f (by omega), h95']
        generalize hz2 : ((va_up u2.1 96 (upd (u2.1 96) f (nI 0)), u2.2) : zHM) = z
        have gz : qr_g u2 z := fun c a b d e f g => by
          subst hz2
          simp (disch := omega) only [↓reduceIte, ↓qa_b, qa_b, qa_lit, qa_neg1, qa_qN, nI_add, pk_mul, qa_ix, qa_cl, qa_ltT, qa_ltF, qa_eqT, qa_eqF, qa_nN, qa_Nn, qa_ltN, qa_Nlt, qa_NN, qa_ltNN, qa_sub, qa_dec, qa_dec0, qa_sub0, qa_incN, qa_31, qa_shr, qa_shl, qa_and1, va_up_self, qa_une, pk_us, pk_un, qa_up2, qa_upd2, Option.bind_some, if_true, if_false, and_true, true_and, and_self, qa_f1, qa_f2]
        have z92 : z.1 92 = u2.1 92 := by
          subst hz2
          simp (disch := omega) only [↓reduceIte, ↓qa_b, qa_b, qa_lit, qa_neg1, qa_qN, nI_add, pk_mul, qa_ix, qa_cl, qa_ltT, qa_ltF, qa_eqT, qa_eqF, qa_nN, qa_Nn, qa_ltN, qa_Nlt, qa_NN, qa_ltNN, qa_sub, qa_dec, qa_dec0, qa_sub0, qa_incN, qa_31, qa_shr, qa_shl, qa_and1, va_up_self, qa_une, pk_us, pk_un, qa_up2, qa_upd2, Option.bind_some, if_true, if_false, and_true, true_and, and_self, qa_f1, qa_f2]
        have z93 : z.1 93 = u2.1 93 := by
          subst hz2
          simp (disch := omega) only [↓reduceIte, ↓qa_b, qa_b, qa_lit, qa_neg1, qa_qN, nI_add, pk_mul, qa_ix, qa_cl, qa_ltT, qa_ltF, qa_eqT, qa_eqF, qa_nN, qa_Nn, qa_ltN, qa_Nlt, qa_NN, qa_ltNN, qa_sub, qa_dec, qa_dec0, qa_sub0, qa_incN, qa_31, qa_shr, qa_shl, qa_and1, va_up_self, qa_une, pk_us, pk_un, qa_up2, qa_upd2, Option.bind_some, if_true, if_false, and_true, true_and, and_self, qa_f1, qa_f2]
        have z95 : z.1 95 = u2.1 95 := by
          subst hz2
          simp (disch := omega) only [↓reduceIte, ↓qa_b, qa_b, qa_lit, qa_neg1, qa_qN, nI_add, pk_mul, qa_ix, qa_cl, qa_ltT, qa_ltF, qa_eqT, qa_eqF, qa_nN, qa_Nn, qa_ltN, qa_Nlt, qa_NN, qa_ltNN, qa_sub, qa_dec, qa_dec0, qa_sub0, qa_incN, qa_31, qa_shr, qa_shl, qa_and1, va_up_self, qa_une, pk_us, pk_un, qa_up2, qa_upd2, Option.bind_some, if_true, if_false, and_true, true_and, and_self, qa_f1, qa_f2]
        have z96 : ∀ g, g < f → z.1 96 g = u2.1 96 g := fun g hg => by
          subst hz2
          simp (disch := omega) only [↓reduceIte, ↓qa_b, qa_b, qa_lit, qa_neg1, qa_qN, nI_add, pk_mul, qa_ix, qa_cl, qa_ltT, qa_ltF, qa_eqT, qa_eqF, qa_nN, qa_Nn, qa_ltN, qa_Nlt, qa_NN, qa_ltNN, qa_sub, qa_dec, qa_dec0, qa_sub0, qa_incN, qa_31, qa_shr, qa_shl, qa_and1, va_up_self, qa_une, pk_us, pk_un, qa_up2, qa_upd2, Option.bind_some, if_true, if_false, and_true, true_and, and_self, qa_f1, qa_f2]
        have zf : ∀ g, g < f → z.1 96 g = nI (qw_s on hm c g) := fun g h => by rw [z96 g h, (q5 g (by omega)).1, v96 g h]; exact h96' g h
        have eT := HT z (g2.tr gz) f (by omega)
        rw [ho] at eT
        have eB := qr_busy (t := t) (show f < 6 by omega) c (fun v1 v2 w => zM_findWays_L16 n2 v1 v2 w) z zf f am_N 0 (by omega) (Nat.lt_of_lt_of_le (show f < 6 by omega) (by decide))
        rw [z95, u95] at eB
        generalize hy : ((va_up z.1 95 (upd (u2.1 95) f (nI k + nI 1)), z.2) : zHM) = y at eB
        have gy : qr_g z y := fun c a b d e f g => by
          subst hy
          simp (disch := omega) only [↓reduceIte, ↓qa_b, qa_b, qa_lit, qa_neg1, qa_qN, nI_add, pk_mul, qa_ix, qa_cl, qa_ltT, qa_ltF, qa_eqT, qa_eqF, qa_nN, qa_Nn, qa_ltN, qa_Nlt, qa_NN, qa_ltNN, qa_sub, qa_dec, qa_dec0, qa_sub0, qa_incN, qa_31, qa_shr, qa_shl, qa_and1, va_up_self, qa_une, pk_us, pk_un, qa_up2, qa_upd2, Option.bind_some, if_true, if_false, and_true, true_and, and_self, qa_f1, qa_f2]
        have y92 : y.1 92 = z.1 92 := by
          subst hy
          simp (disch := omega) only [↓reduceIte, ↓qa_b, qa_b, qa_lit, qa_neg1, qa_qN, nI_add, pk_mul, qa_ix, qa_cl, qa_ltT, qa_ltF, qa_eqT, qa_eqF, qa_nN, qa_Nn, qa_ltN, qa_Nlt, qa_NN, qa_ltNN, qa_sub, qa_dec, qa_dec0, qa_sub0, qa_incN, qa_31, qa_shr, qa_shl, qa_and1, va_up_self, qa_une, pk_us, pk_un, qa_up2, qa_upd2, Option.bind_some, if_true, if_false, and_true, true_and, and_self, qa_f1, qa_f2]
        have y93 : y.1 93 = z.1 93 := by
          subst hy
          simp (disch := omega) only [↓reduceIte, ↓qa_b, qa_b, qa_lit, qa_neg1, qa_qN, nI_add, pk_mul, qa_ix, qa_cl, qa_ltT, qa_ltF, qa_eqT, qa_eqF, qa_nN, qa_Nn, qa_ltN, qa_Nlt, qa_NN, qa_ltNN, qa_sub, qa_dec, qa_dec0, qa_sub0, qa_incN, qa_31, qa_shr, qa_shl, qa_and1, va_up_self, qa_une, pk_us, pk_un, qa_up2, qa_upd2, Option.bind_some, if_true, if_false, and_true, true_and, and_self, qa_f1, qa_f2]
        have y96 : y.1 96 = z.1 96 := by
          subst hy
          simp (disch := omega) only [↓reduceIte, ↓qa_b, qa_b, qa_lit, qa_neg1, qa_qN, nI_add, pk_mul, qa_ix, qa_cl, qa_ltT, qa_ltF, qa_eqT, qa_eqF, qa_nN, qa_Nn, qa_ltN, qa_Nlt, qa_NN, qa_ltNN, qa_sub, qa_dec, qa_dec0, qa_sub0, qa_incN, qa_31, qa_shr, qa_shl, qa_and1, va_up_self, qa_une, pk_us, pk_un, qa_up2, qa_upd2, Option.bind_some, if_true, if_false, and_true, true_and, and_self, qa_f1, qa_f2]
        have y95 : y.1 95 f = nI (k + 1) := by
          subst hy
          simp (disch := omega) only [↓reduceIte, ↓qa_b, qa_b, qa_lit, qa_neg1, qa_qN, nI_add, pk_mul, qa_ix, qa_cl, qa_ltT, qa_ltF, qa_eqT, qa_eqF, qa_nN, qa_Nn, qa_ltN, qa_Nlt, qa_NN, qa_ltNN, qa_sub, qa_dec, qa_dec0, qa_sub0, qa_incN, qa_31, qa_shr, qa_shl, qa_and1, va_up_self, qa_une, pk_us, pk_un, qa_up2, qa_upd2, Option.bind_some, if_true, if_false, and_true, true_and, and_self, qa_f1, qa_f2]
        have y95' : ∀ g, g < f → y.1 95 g = u2.1 95 g := fun g hg => by
          subst hy
          simp (disch := omega) only [↓reduceIte, ↓qa_b, qa_b, qa_lit, qa_neg1, qa_qN, nI_add, pk_mul, qa_ix, qa_cl, qa_ltT, qa_ltF, qa_eqT, qa_eqF, qa_nN, qa_Nn, qa_ltN, qa_Nlt, qa_NN, qa_ltNN, qa_sub, qa_dec, qa_dec0, qa_sub0, qa_incN, qa_31, qa_shr, qa_shl, qa_and1, va_up_self, qa_une, pk_us, pk_un, qa_up2, qa_upd2, Option.bind_some, if_true, if_false, and_true, true_and, and_self, qa_f1, qa_f2]
        obtain ⟨n', u', r1, r2, r3, r4, r5, r6⟩ := qr_in H IH hf ho c m (k + 1) n2 am_N y (l ++ (qw on (qw_ok on hm ch) r (f + 1) (qw_u c f k)).filter p) (by omega) (Nat.lt_of_lt_of_le (show m < 6 by omega) (by decide)) (by omega) (g2.tr (gz.tr gy)) (fun g h => by rw [y96]; exact zf g h) y95 (qr_rows_e (y92.trans z92) (y93.trans z93) q6) (by rw [List.length_append]; omega)
        refine ⟨n', u', by rw [Nat.succ_mul]; omega, ?_, g1.tr (gv.tr (q3.tr (gz.tr (gy.tr r3)))), o1.tr ((qr_oth_e v92 v93).tr (q4.tr ((qr_oth_e z92 z93).tr ((qr_oth_e y92 y93).tr r4)))), fun g h => ?_, ?_⟩
        · rw [hc] at e1
          have : zM_findWays_L123 (fun v1 v2 w => zM_findWays_L16 n v1 v2 w) (n3 + 1) (nI t) (nI f) (nI (qw_b on hm c f)) u = zM_findWays_L16 n (nI t) (nI (f + 1)) v := by
            subst hv
            simp (disch := omega) only [↓reduceIte, ↓qa_b, zM_findWays_L123, zM_findWays_J183, zM_next, qa_ix, qa_cl, h95, h95', qa_lit, qa_neg1, qa_qN, qa_ltT, qa_eqF, ehold, ehold1, Option.bind_some, fa_and, hz, e1, nI_add, qs_b, qa_une, qa_f1, qa_f2]
          rw [this, q2, qr_d1]
          have : zM_findWays_L16 (n2 + 1) (nI t) (nI f) u2 = zM_findWays_L91 (fun v1 v2 w => zM_findWays_L16 n2 v1 v2 w) am_N (nI t) (nI f) (nI 0) (nI 0) z := by
            subst hz2
            simp (disch := omega) only [↓reduceIte, ↓qa_b, zM_findWays_L16, qa_ix, qa_cl, qa_lit, qa_ltF, qa_eqF, eT, Option.bind_some, qs_b]
          rw [this]
          exact eB.trans r2
        · have a1 := r5 g h
          have a2 := q5 g (by omega)
          constructor
          · rw [a1.1, y96, z96 g h, a2.1, v96 g h, x6]
          · rw [a1.2, y95' g h, a2.2, v95 g (by omega), x5]
        · rw [← List.append_assoc]
          exact r6
    · have hok : qw_ok on hm ch f k c = false := by unfold qw_ok; rw [decide_eq_false hz, Bool.false_and]
      obtain ⟨n', u', q1, q2, q3, q4, q5, q6⟩ := qr_in H IH hf ho c m (k + 1) n n3 (va_up u.1 95 (upd (u.1 95) f (nI (k + 1))), u.2) l (by omega) (by omega) (by omega) (hg.tr (fun c a b d e f g => by
          simp (disch := omega) only [↓reduceIte, ↓qa_b, qa_b, qa_lit, qa_neg1, qa_qN, nI_add, pk_mul, qa_ix, qa_cl, qa_ltT, qa_ltF, qa_eqT, qa_eqF, qa_nN, qa_Nn, qa_ltN, qa_Nlt, qa_NN, qa_ltNN, qa_sub, qa_dec, qa_dec0, qa_sub0, qa_incN, qa_31, qa_shr, qa_shl, qa_and1, va_up_self, qa_une, pk_us, pk_un, qa_up2, qa_upd2, Option.bind_some, if_true, if_false, and_true, true_and, and_self, qa_f1, qa_f2])) (fun g hgf => by
          have := h96 g hgf
          simp (disch := omega) only [↓reduceIte, ↓qa_b, qa_b, qa_lit, qa_neg1, qa_qN, nI_add, pk_mul, qa_ix, qa_cl, qa_ltT, qa_ltF, qa_eqT, qa_eqF, qa_nN, qa_Nn, qa_ltN, qa_Nlt, qa_NN, qa_ltNN, qa_sub, qa_dec, qa_dec0, qa_sub0, qa_incN, qa_31, qa_shr, qa_shl, qa_and1, va_up_self, qa_une, pk_us, pk_un, qa_up2, qa_upd2, Option.bind_some, if_true, if_false, and_true, true_and, and_self, qa_f1, qa_f2]
          exact this) (by
          simp (disch := omega) only [↓reduceIte, ↓qa_b, qa_b, qa_lit, qa_neg1, qa_qN, nI_add, pk_mul, qa_ix, qa_cl, qa_ltT, qa_ltF, qa_eqT, qa_eqF, qa_nN, qa_Nn, qa_ltN, qa_Nlt, qa_NN, qa_ltNN, qa_sub, qa_dec, qa_dec0, qa_sub0, qa_incN, qa_31, qa_shr, qa_shl, qa_and1, va_up_self, qa_une, pk_us, pk_un, qa_up2, qa_upd2, Option.bind_some, if_true, if_false, and_true, true_and, and_self, qa_f1, qa_f2]) (qr_rows_e rfl rfl hr) (by
          rw [hok] at hl
          simp only [Bool.false_eq_true, if_false, List.filter_nil, List.length_nil] at hl
          omega)
      refine ⟨n', u', by rw [Nat.succ_mul]; omega, ?_, (fun c a b d e f g => by
          simp (disch := omega) only [↓reduceIte, ↓qa_b, qa_b, qa_lit, qa_neg1, qa_qN, nI_add, pk_mul, qa_ix, qa_cl, qa_ltT, qa_ltF, qa_eqT, qa_eqF, qa_nN, qa_Nn, qa_ltN, qa_Nlt, qa_NN, qa_ltNN, qa_sub, qa_dec, qa_dec0, qa_sub0, qa_incN, qa_31, qa_shr, qa_shl, qa_and1, va_up_self, qa_une, pk_us, pk_un, qa_up2, qa_upd2, Option.bind_some, if_true, if_false, and_true, true_and, and_self, qa_f1, qa_f2]) |> fun (z : qr_g u (va_up u.1 95 (upd (u.1 95) f (nI (k + 1))), u.2)) => z.tr q3, (qr_oth_e (by
          simp (disch := omega) only [↓reduceIte, ↓qa_b, qa_b, qa_lit, qa_neg1, qa_qN, nI_add, pk_mul, qa_ix, qa_cl, qa_ltT, qa_ltF, qa_eqT, qa_eqF, qa_nN, qa_Nn, qa_ltN, qa_Nlt, qa_NN, qa_ltNN, qa_sub, qa_dec, qa_dec0, qa_sub0, qa_incN, qa_31, qa_shr, qa_shl, qa_and1, va_up_self, qa_une, pk_us, pk_un, qa_up2, qa_upd2, Option.bind_some, if_true, if_false, and_true, true_and, and_self, qa_f1, qa_f2]) (by
          simp (disch := omega) only [↓reduceIte, ↓qa_b, qa_b, qa_lit, qa_neg1, qa_qN, nI_add, pk_mul, qa_ix, qa_cl, qa_ltT, qa_ltF, qa_eqT, qa_eqF, qa_nN, qa_Nn, qa_ltN, qa_Nlt, qa_NN, qa_ltNN, qa_sub, qa_dec, qa_dec0, qa_sub0, qa_incN, qa_31, qa_shr, qa_shl, qa_and1, va_up_self, qa_une, pk_us, pk_un, qa_up2, qa_upd2, Option.bind_some, if_true, if_false, and_true, true_and, and_self, qa_f1, qa_f2])).tr q4, fun g hgf => ?_, ?_⟩
      · simp (disch := omega) only [↓reduceIte, ↓qa_b, zM_findWays_L123, zM_findWays_J170, qa_ix, qa_cl, h95, qa_lit, qa_ltT, ehold, Option.bind_some, fa_and, qa_eqF, nI_add]
        exact q2
      · have := q5 g hgf
        rw [this.1, this.2]
        constructor
        · simp (disch := omega) only [↓reduceIte, ↓qa_b, qa_b, qa_lit, qa_neg1, qa_qN, nI_add, pk_mul, qa_ix, qa_cl, qa_ltT, qa_ltF, qa_eqT, qa_eqF, qa_nN, qa_Nn, qa_ltN, qa_Nlt, qa_NN, qa_ltNN, qa_sub, qa_dec, qa_dec0, qa_sub0, qa_incN, qa_31, qa_shr, qa_shl, qa_and1, va_up_self, qa_une, pk_us, pk_un, qa_up2, qa_upd2, Option.bind_some, if_true, if_false, and_true, true_and, and_self, qa_f1, qa_f2]
        · simp (disch := omega) only [↓reduceIte, ↓qa_b, qa_b, qa_lit, qa_neg1, qa_qN, nI_add, pk_mul, qa_ix, qa_cl, qa_ltT, qa_ltF, qa_eqT, qa_eqF, qa_nN, qa_Nn, qa_ltN, qa_Nlt, qa_NN, qa_ltNN, qa_sub, qa_dec, qa_dec0, qa_sub0, qa_incN, qa_31, qa_shr, qa_shl, qa_and1, va_up_self, qa_une, pk_us, pk_un, qa_up2, qa_upd2, Option.bind_some, if_true, if_false, and_true, true_and, and_self, qa_f1, qa_f2]
      · rw [hok]
        simp only [Bool.false_eq_true, if_false, List.filter_nil, List.nil_append]
        exact q6
end
