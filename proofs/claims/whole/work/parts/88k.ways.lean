/-! THE HEART: search: the ways of a beat of the play -/
/-- the ways of beat t: by the set st, without the struck sk -/
def qx_W (a tx : Nat → Int32) (pn fn st sk t : Nat) (or : Nat → Nat) (hk : Nat) : List (Nat → Nat) := if qw_room (qx_on a fn sk t) (qs_kd a) fn st hk then qw (qx_on a fn sk t) (qw_o2 (qx_on a fn sk t) (qx_hm a fn st) (qs_ch a tx pn st t) or (qs_pl a t) (qs_kd a)) fn 0 (fun _ => 0) else []
section
variable {L P pn fn tn bn : Nat} {w : zHM} {hmo : Nat → Nat}
theorem qx_C (HA : qi_a L P pn fn tn bn (w.1 84)) {tx : Nat → Int32} {t st sk : Nat} (hs : st < 2 ^ pn) : qw_c fn pn st (qx_on (w.1 84) fn sk t) (qx_hm (w.1 84) fn st) (qs_ch (w.1 84) tx pn st t) (qs_kd (w.1 84)) := by
  obtain ⟨a0, a1, a4, a6, lpn, lfn, ltn, lbn⟩ := id HA.1
  have h8 := (qs_set_tb pn (by omega) st hs).1
  refine ⟨lfn, lpn, hs, fun f k => qx_hm64 HA h8 f k, fun g hg => ?_, fun f hf => ?_, fun f k hf ho h6 hc => ?_⟩
  · unfold qx_on
    rw [decide_eq_false (by omega), Bool.false_and]
  · obtain ⟨-, k2⟩ := qi_kd HA hf
    omega
  · unfold qs_ch at hc
    rw [Bool.and_eq_true, decide_eq_true_eq] at hc
    exact ⟨by unfold qx_hm; rw [if_pos ⟨hf, h6⟩], hc.1⟩
theorem qx_W_eq (HA : qi_a L P pn fn tn bn (w.1 84)) {tx : Nat → Int32} {t st sk hk : Nat} (hs : st < 2 ^ pn) (hhk : hk ≤ 6) : (qw (qx_on (w.1 84) fn sk t) (qw_ok (qx_on (w.1 84) fn sk t) (qx_hm (w.1 84) fn st) (qs_ch (w.1 84) tx pn st t)) 6 0 (fun _ => 0)).filter (qw_p (qs_or hmo pn) (qs_pl (w.1 84) t) (qx_on (w.1 84) fn sk t) (qx_hm (w.1 84) fn st) fn st (nI hk)) = qx_W (w.1 84) tx pn fn st sk t (qs_or hmo pn) hk := qw_same (qx_C HA hs) hhk
theorem qx_W_len (HA : qi_a L P pn fn tn bn (w.1 84)) {tx : Nat → Int32} {t st sk hk : Nat} (hs : st < 2 ^ pn) (hhk : hk ≤ 6) : (qx_W (w.1 84) tx pn fn st sk t (qs_or hmo pn) hk).length ≤ 720 := by
  have lpn := HA.1.2.2.2.2.1
  have h8 := (qs_set_tb pn (by omega) st hs).1
  rw [← qx_W_eq HA hs hhk]
  exact qw_720 (fun f k => qx_hm64 HA h8 f k) (fun f ho => qx_kind HA h8 f (qx_on_t ho).1) _
/-- the reference lays them -/
theorem qm_ways (HA : qi_a L P pn fn tn bn (w.1 84)) (hP : P ≤ 8) (hask : qk_askM w) (e2 : ∀ p, p < pn → w.1 84 (10 + 2 * p) = nI (hmo p) ∧ hmo p < 8) {t st sk hk : Nat} (ht : t < bn) (hs : st < 2 ^ pn) (hsk : sk < 64) (e29 : w.1 83 29 = nI sk) (e30 : w.1 83 30 = nI st) (eh : w.1 84 2 = nI hk) (hhk : hk ≤ 6) :
    ∃ u, zM_findWays (nI t) w = some u ∧ qr_g w u ∧ qr_oth t w u ∧ qr_rows (qx_on (w.1 84) fn sk t) (qx_hm (w.1 84) fn st) t u (qx_W (w.1 84) (w.1 86) pn fn st sk t (qs_or hmo pn) hk) := by
  have H := qx_H HA hP hask e2 ht hs hsk e29 e30
  have E := qx_W_eq (tx := w.1 86) (hmo := hmo) (t := t) (sk := sk) HA hs hhk
  have Ln := qx_W_len (tx := w.1 86) (hmo := hmo) (t := t) (sk := sk) HA hs hhk
  rw [← E] at Ln ⊢
  rw [eh] at H
  exact qm_findWays H Ln
/-- each of them: numbers below 6, 0 for those that aren't on, and the numbers rise -/
theorem qx_W_mem (HA : qi_a L P pn fn tn bn (w.1 84)) {tx : Nat → Int32} {t st sk hk : Nat} (hs : st < 2 ^ pn) (hhk : hk ≤ 6) {x : Nat → Nat} (hx : x ∈ qx_W (w.1 84) tx pn fn st sk t (qs_or hmo pn) hk) : (∀ f, f < fn → qx_on (w.1 84) fn sk t f = true → x f < 6 ∧ qs_ch (w.1 84) tx pn st t f (x f) = true) ∧ (∀ f, f < fn → qx_on (w.1 84) fn sk t f = false → x f = 0) ∧ ∀ g, x g < 6 := by
  rw [← qx_W_eq HA hs hhk] at hx
  have m := (List.mem_filter.mp hx).1
  obtain ⟨q1, q2⟩ := qw_one (qx_C HA hs) m
  exact ⟨fun f hf ho => ⟨(q1 f hf ho).1, (q1 f hf ho).2.1⟩, q2, qw_c8 qw_ok_loc (fun _ => Nat.zero_lt_succ 5) m⟩
theorem qx_W_rise {a tx : Nat → Int32} {t st sk hk : Nat} {or : Nat → Nat} : (qx_W a tx pn fn st sk t or hk).Pairwise (fun x y => qw_e x fn < qw_e y fn) := by
  unfold qx_W
  split
  · have := qw_rise (on := qx_on a fn sk t) (ok := qw_o2 (qx_on a fn sk t) (qx_hm a fn st) (qs_ch a tx pn st t) or (qs_pl a t) (qs_kd a)) (fun g k c c' h => by
      unfold qw_o2
      rw [qw_ok_loc g k c c' h, qw_pr_loc g k c c' h]) fn 0 (fun _ => 0) (fun _ => Nat.zero_lt_succ 5)
    rw [Nat.zero_add] at this
    exact this
  · exact List.Pairwise.nil
end
