/-! THE HEART: search: the class has loaded the play: what its run needs holds -/
section
variable {L P pn fn tn bn : Nat} {w : zHM} {hmo : Nat → Nat} {h : Nat → Nat → Int32}
theorem qy_load (HA : qi_a L P pn fn tn bn (w.1 84)) (hP : P ≤ 8) (HS : qi_stg 0 P pn fn tn bn h (w.1 84)) (HL : qk_L (w.1 84) (w.1 86) pn fn bn h) (e2 : ∀ p, p < pn → w.1 84 (10 + 2 * p) = nI (hmo p) ∧ hmo p < 8) {st sk hk c : Nat} (hs : st < 2 ^ pn) (hsk : sk < 64) (eh : w.1 84 2 = nI hk) (hhk : hk ≤ 6) (hc : c ≤ 1) :
    ∃ h1, zS_load (nI st) (nI sk) h = some h1 ∧ (∀ c, c < 65 ∨ 70 < c → h1 c = h c) ∧ qy_L pn fn bn c (qx_on (w.1 84) fn sk) (qs_kd (w.1 84)) (qe_pv (w.1 84) (w.1 86)) (va_up h1 65 (upd (h1 65) 0 (nI c))) ∧ qy_lay fn bn (qe_W (w.1 84) (w.1 86) pn fn st sk (qs_or hmo pn) hk) (va_up h1 65 (upd (h1 65) 0 (nI c))) := by
  obtain ⟨a0, a1, a4, a6, lpn, lfn, ltn, lbn⟩ := id HA.1
  have h8 := (qs_set_tb pn (by omega) st hs).1
  obtain ⟨⟨s0, s1, s4, s9, s10, s11, s12, s13⟩, s2, s3, -⟩ := id (qi_stg0 HS)
  obtain ⟨h1, p1, p2, ⟨p30, p31, p32, p33, p34⟩, p4, p5⟩ := qd_load (st := st) (sk := sk) (hmo := hmo) (kd := qs_kd (w.1 84)) lpn lfn lbn h8 hsk (fun g hg => by obtain ⟨-, k2⟩ := qi_kd HA hg; omega) s1 (fun p hp => by rw [(s2 p hp).1]; exact e2 p hp) s4 s13 (fun g hg => by rw [(s3 g hg).1]; exact (qi_kd HA hg).1)
  refine ⟨h1, p1, p2, ?_⟩
  generalize hv : va_up h1 65 (upd (h1 65) 0 (nI c)) = v
  have v0 : ∀ c, c ≠ 65 → v c = h1 c := fun c a => by subst hv; exact qa_une _ _ a
  have v65 : v 65 0 = nI c ∧ v 65 1 = nI bn ∧ v 65 2 = nI fn ∧ v 65 3 = nI (2 * qs_bn st) ∧ v 65 4 = h 1 9 := by
    subst hv
    rw [va_up_self, pk_us, pk_un (by omega), pk_un (by omega), pk_un (by omega), pk_un (by omega)]
    exact ⟨rfl, p31, p32, p33, p34⟩
  have HH : ∀ h', (∀ c, 65 ≤ c → c ≤ 70 → h' c = v c) → ∀ t, t < bn → qh_H fn t (qx_on (w.1 84) fn sk t) (qx_hm (w.1 84) fn st) (qs_ch (w.1 84) (w.1 86) pn st t) (qs_or hmo pn) (qs_pl (w.1 84) t) (qs_kd (w.1 84)) h' := fun h' he t ht => qx_HH HA hP HS HL ht hs (by rw [he 65 (by omega) (by omega)]; exact v65.2.2.1) (fun j hj => by rw [he 67 (by omega) (by omega), v0 67 (by omega)]; exact p4 j hj) (fun g hg => ⟨by rw [he 66 (by omega) (by omega), v0 66 (by omega)]; exact (p5 g hg).1, fun t' ht' => by
      unfold qd_c
      rw [he 68 (by omega) (by omega), he 69 (by omega) (by omega), he 70 (by omega) (by omega), v0 68 (by omega), v0 69 (by omega), v0 70 (by omega)]
      exact (p5 g hg).2 t' ht'⟩)
  constructor
  · refine ⟨⟨lpn, lfn, lbn, hc⟩, ⟨v65.1, v65.2.1, v65.2.2.1⟩, fun f hf => ⟨by rw [v0 66 (by omega)]; exact (p5 f hf).1, by obtain ⟨-, k2⟩ := qi_kd HA hf; omega⟩, fun t ht f hf => ?_, fun t ht f hf o0 o1 => ?_⟩
    · obtain ⟨-, -, -, q, -⟩ := HH v (fun _ _ _ => rfl) t ht
      exact ⟨(q f hf).1, fun ho => ⟨_, ((q f hf).2 ho).2, ((q f hf).2 ho).1⟩⟩
    · obtain ⟨xn, xf, xp, -, -, x3, -, -, l3, -, -, b3⟩ := HL (t + 1) ht f hf
      refine ⟨xp, l3, by rw [v0 70 (by omega), ((p5 f hf).2 (t + 1) ht).2.2]; exact x3, fun p hp q hq => ?_⟩
      have n0 := (qx_on_t o0).2.2
      have n1 := (qx_on_t o1).2.2
      rw [b3 p (by omega) q (by omega)]
      unfold qs_st qs_ps qe_pv
      rw [Nat.add_sub_cancel, n0, n1, decide_eq_true (show 0 < t + 1 by omega), decide_eq_true hp, decide_eq_true hq]
      rfl
  · intro t ht h' hf h0
    have H := HH h' (fun c _ _ => hf c (by omega)) t ht
    have e65 := hf 65 (by omega)
    have e3 : h' 65 3 = nI (2 * qs_bn st) := by rw [e65]; exact v65.2.2.2.1
    have e4 : h' 65 4 = nI hk := by rw [e65, v65.2.2.2.2, s9]; exact eh
    unfold qe_W qx_W
    cases hr : qw_room (qx_on (w.1 84) fn sk t) (qs_kd (w.1 84)) fn st hk
    · have er := qh_room H e3 e4 h8 hhk
      rw [hr] at er
      exact ⟨h', Or.inl ⟨er, rfl⟩, qh_oth.rf t h', h0, fun i c hc => by simp at hc⟩
    · have Ln := qx_W_len (tx := w.1 86) (hmo := hmo) (t := t) (sk := sk) HA hs hhk
      unfold qx_W at Ln
      rw [hr, if_pos rfl] at Ln
      have B := qh_beat H e3 e4 h8 hhk h0 Ln
      rw [hr] at B
      exact B
/-- the class's run over the play from beat b on, at c a swap -/
theorem qy_play (HA : qi_a L P pn fn tn bn (w.1 84)) (hP : P ≤ 8) (HS : qi_stg 0 P pn fn tn bn h (w.1 84)) (HL : qk_L (w.1 84) (w.1 86) pn fn bn h) (e2 : ∀ p, p < pn → w.1 84 (10 + 2 * p) = nI (hmo p) ∧ hmo p < 8) {st sk hk c b : Nat} (hs : st < 2 ^ pn) (hsk : sk < 64) (eh : w.1 84 2 = nI hk) (hhk : hk ≤ 6) (hc : c ≤ 1) (hb : b ≤ bn) :
    ∃ h1 h2, zS_load (nI st) (nI sk) h = some h1 ∧ zS_run (nI b) (va_up h1 65 (upd (h1 65) 0 (nI c))) = some (nI (qy_R fn bn c (qx_on (w.1 84) fn sk) (qs_kd (w.1 84)) (qe_pv (w.1 84) (w.1 86)) (qe_W (w.1 84) (w.1 86) pn fn st sk (qs_or hmo pn) hk) b), h2) ∧ (∀ c, c < 65 ∨ 75 < c → h2 c = h c) ∧ qy_L pn fn bn c (qx_on (w.1 84) fn sk) (qs_kd (w.1 84)) (qe_pv (w.1 84) (w.1 86)) h2 ∧ (qy_R fn bn c (qx_on (w.1 84) fn sk) (qs_kd (w.1 84)) (qe_pv (w.1 84) (w.1 86)) (qe_W (w.1 84) (w.1 86) pn fn st sk (qs_or hmo pn) hk) b < 1000000 → ∀ t, b ≤ t → t < bn → qy_row fn bn c (qx_on (w.1 84) fn sk) (qs_kd (w.1 84)) (qe_pv (w.1 84) (w.1 86)) (qe_W (w.1 84) (w.1 86) pn fn st sk (qs_or hmo pn) hk) t h2) := by
  obtain ⟨h1, p1, p2, p3, p4⟩ := qy_load HA hP HS HL e2 hs hsk eh hhk hc
  obtain ⟨h2, x1, x2, x3⟩ := qy_run (a := b) p3 (qe_w HA hs hhk) p4 hb
  refine ⟨h1, h2, p1, x1, fun c hc => ?_, qy_L_h (fun c _ _ => x2 c (by omega)) p3, x3⟩
  rw [x2 c (by omega), qa_une _ _ (by omega)]
  exact p2 c (by omega)
/-- price 0: it can be acted if it can be at price 1 -/
theorem qy_S01 {fn t : Nat} {o : Nat → Nat → Bool} {kd : Nat → Nat} {pv : Nat → Nat → Nat → Nat → Bool} (hf : fn ≤ 6) (x y : Nat → Nat) : (qy_S fn 0 o kd pv t x y = 0 ∧ qy_S fn 1 o kd pv t x y ≤ 6) ∨ (qy_S fn 0 o kd pv t x y = 1000000 ∧ qy_S fn 1 o kd pv t x y = 1000000) := by
  unfold qy_S qz_V
  have := qz_N_le (qz_D (o t) (o (t + 1)) x y) fn
  split
  · right; exact ⟨rfl, rfl⟩
  · left; omega
theorem qy_T01 {fn : Nat} {o : Nat → Nat → Bool} {kd : Nat → Nat} {pv : Nat → Nat → Nat → Nat → Bool} {W : Nat → List (Nat → Nat)} (hf : fn ≤ 6) : ∀ (r t : Nat) (x : Nat → Nat), r ≤ 100 → (qy_T fn 0 o kd pv W r t x = 0 ∧ qy_T fn 1 o kd pv W r t x ≤ 6 * r) ∨ (qy_T fn 0 o kd pv W r t x = 1000000 ∧ qy_T fn 1 o kd pv W r t x = 1000000)
  | 0, _, _, _ => Or.inl ⟨rfl, Nat.le_refl _⟩
  | r + 1, t, x, hr => by
    rw [show qy_T fn 0 o kd pv W (r + 1) t x = qz_m (fun j => qy_S fn 0 o kd pv t x (qy_x (W (t + 1)) j) + qy_T fn 0 o kd pv W r (t + 1) (qy_x (W (t + 1)) j)) 1000000 0 (W (t + 1)).length from rfl, show qy_T fn 1 o kd pv W (r + 1) t x = qz_m (fun j => qy_S fn 1 o kd pv t x (qy_x (W (t + 1)) j) + qy_T fn 1 o kd pv W r (t + 1) (qy_x (W (t + 1)) j)) 1000000 0 (W (t + 1)).length from rfl]
    obtain ⟨a1, a2, a3⟩ := qz_m_le (fun j => qy_S fn 0 o kd pv t x (qy_x (W (t + 1)) j) + qy_T fn 0 o kd pv W r (t + 1) (qy_x (W (t + 1)) j)) (W (t + 1)).length 1000000 0
    obtain ⟨b1, b2, b3⟩ := qz_m_le (fun j => qy_S fn 1 o kd pv t x (qy_x (W (t + 1)) j) + qy_T fn 1 o kd pv W r (t + 1) (qy_x (W (t + 1)) j)) (W (t + 1)).length 1000000 0
    generalize qz_m (fun j => qy_S fn 0 o kd pv t x (qy_x (W (t + 1)) j) + qy_T fn 0 o kd pv W r (t + 1) (qy_x (W (t + 1)) j)) 1000000 0 (W (t + 1)).length = A at *
    generalize qz_m (fun j => qy_S fn 1 o kd pv t x (qy_x (W (t + 1)) j) + qy_T fn 1 o kd pv W r (t + 1) (qy_x (W (t + 1)) j)) 1000000 0 (W (t + 1)).length = B at *
    rcases a3 with a3 | ⟨i, q1, q2, q3⟩
    · right
      refine ⟨a3, ?_⟩
      rcases b3 with b3 | ⟨i, q1, q2, q3⟩
      · exact b3
      · have := a2 i q1 q2
        have := qy_S01 (t := t) (o := o) (kd := kd) (pv := pv) hf x (qy_x (W (t + 1)) i)
        have := qy_T01 (o := o) (kd := kd) (pv := pv) (W := W) hf r (t + 1) (qy_x (W (t + 1)) i) (by omega)
        omega
    · have := b2 i q1 q2
      have := qy_S01 (t := t) (o := o) (kd := kd) (pv := pv) hf x (qy_x (W (t + 1)) i)
      have := qy_T01 (o := o) (kd := kd) (pv := pv) (W := W) hf r (t + 1) (qy_x (W (t + 1)) i) (by omega)
      by_cases e : A = 0
      · left
        omega
      · right
        have e6 : A = 1000000 := by omega
        refine ⟨e6, ?_⟩
        rcases b3 with b3 | ⟨i', p1, p2, p3⟩
        · exact b3
        · have := a2 i' p1 p2
          have := qy_S01 (t := t) (o := o) (kd := kd) (pv := pv) hf x (qy_x (W (t + 1)) i')
          have := qy_T01 (o := o) (kd := kd) (pv := pv) (W := W) hf r (t + 1) (qy_x (W (t + 1)) i') (by omega)
          omega
theorem qy_R01 {fn bn t : Nat} {o : Nat → Nat → Bool} {kd : Nat → Nat} {pv : Nat → Nat → Nat → Nat → Bool} {W : Nat → List (Nat → Nat)} (hf : fn ≤ 6) (hb : bn ≤ 24) : qy_R fn bn 0 o kd pv W t < 1000000 ↔ qy_R fn bn 1 o kd pv W t < 1000000 := by
  unfold qy_R qy_M
  split
  · obtain ⟨a1, a2, a3⟩ := qz_m_le (fun j => qy_T fn 0 o kd pv W (bn - 1 - t) t (qy_x (W t) j)) (W t).length 1000000 0
    obtain ⟨b1, b2, b3⟩ := qz_m_le (fun j => qy_T fn 1 o kd pv W (bn - 1 - t) t (qy_x (W t) j)) (W t).length 1000000 0
    generalize qz_m (fun j => qy_T fn 0 o kd pv W (bn - 1 - t) t (qy_x (W t) j)) 1000000 0 (W t).length = A at *
    generalize qz_m (fun j => qy_T fn 1 o kd pv W (bn - 1 - t) t (qy_x (W t) j)) 1000000 0 (W t).length = B at *
    constructor
    · intro h
      rcases a3 with a3 | ⟨i, q1, q2, q3⟩
      · omega
      · have := b2 i q1 q2
        have := qy_T01 (o := o) (kd := kd) (pv := pv) (W := W) hf (bn - 1 - t) t (qy_x (W t) i) (by omega)
        omega
    · intro h
      rcases b3 with b3 | ⟨i, q1, q2, q3⟩
      · omega
      · have := a2 i q1 q2
        have := qy_T01 (o := o) (kd := kd) (pv := pv) (W := W) hf (bn - 1 - t) t (qy_x (W t) i) (by omega)
        omega
  · exact Iff.rfl
end
