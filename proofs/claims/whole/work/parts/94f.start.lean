/-! WIRING: the law from its entry to its end -/
def zms : Nat := (am_sh.map (fun c => c.2.1)).sum
theorem zms_le : zms ≤ 7302250 ∧ am_sh.length = 99 := by decide +kernel
theorem zroom {s : State} {pl : Platform} {r r' : Room} (hf : r.frames ≤ r'.frames) (hl : r.locals ≤ r'.locals) (hc : r.cells ≤ r'.cells) (hs : r.slots ≤ r'.slots) (h : s.hasRoom pl r' = true) : s.hasRoom pl r = true := by
  simp only [State.hasRoom, Bool.and_eq_true, decide_eq_true_eq] at h ⊢
  obtain ⟨⟨⟨⟨y, a, b, c, d, e⟩, f⟩, g⟩, i⟩ := h
  exact ⟨⟨⟨⟨by omega, by omega, by omega, by omega, by omega, e⟩, by omega⟩, by omega⟩, i⟩
theorem zLawRun {L : Nat} {xs : Nat → Int32} (hL : L ≤ 385) : ∃ (n : Nat) (q : zHL), am_ax 83 (L, xs) am_P n 20 261 (0, [(0, .retAddr 1)], []) ([], (fun _ _ => 0), (fun _ _ => 0), (fun _ _ => 0)) = some (some (.int 1), (am_sh, q.1, q.2.1, q.2.2)) := by
  obtain ⟨R, q', e1, e2⟩ := qS_all (Xs := (L, xs)) hL (fun _ _ => 0) (fun _ _ => 0) (fun _ _ => 0)
  have h1 := ezW_law_L28 (Xs := (L, xs)) (d := 20) (by omega) (1, q') am_N 1 (zX0 (zP (L, xs)) (fun _ _ => 0), R) e2
  obtain ⟨n, hn⟩ := zLaw0 (Xs := (L, xs)) (d := 20) (by omega) (show L < 2 ^ 31 by omega) (fun _ _ => 0) (fun _ _ => 0) (fun _ _ => 0) R e1 h1
  exact ⟨n, q', hn⟩
/-- YOUR PART: from the entry, for every script of at most 385 ints, the law comes to its end with true -/
theorem whole_start {p : Program} {e : Env} {s : State} {m : MethodId} {below : List Frame} {meth : Method} {c : Code} (l : Launch) {b L : Nat} {xs : Nat → Int32} (hL : L ≤ 385) (C0 : lw_At p s m meth c b L xs) : W p l e room_1 s m #[Value.ref b] below meth c s.heap [] 0 0 (lw_Z below #[Value.ref b] s) (entryFrame m ([Value.ref b] : List Value).toArray 4) := by
  obtain ⟨hx, hb, hr, hml, hown, hts, hX, hbl, hlk, hgv⟩ := C0
  obtain ⟨sa, sv, hSt⟩ := zS_at hts hgv
  obtain ⟨D, aC, hK⟩ := zK_at hts
  obtain ⟨n, q, hax⟩ := zLawRun (L := L) (xs := xs) hL
  have hSg : zSg s.heap.size b sa sv (L, xs) s := ⟨zN_at hts, zA_at hts, ⟨hX, hbl, Nat.not_le.mpr hbl⟩, hSt⟩
  have hA : am_At zTs p s m #[Value.ref b] meth c s.heap.size (zsa sa b) zcl D aC "SixHands$Text" am_m261 := ⟨hx, hb, hr, hlk, hml, hown, zTs_of hts, (fun h => absurd h (by decide)), hK⟩
  obtain ⟨-, -, hG⟩ := am_sound (l := l) (D := D) (aC := aC) (zW (B := s.heap.size) (b := b) (sa := sa) (sv := sv) (Xs := (L, xs))) (zWX l) n 20 261 am_m261 _ _ _ _ am_h261 hax
  have hg := hG p e s m #[Value.ref b] below meth c 99 zms 0 0 hA hSg (by show 0 + am_sh.length = 99 + 0; rw [zms_le.2]) (by show 0 + zms = zms + 0; omega)
  have hl := lv_entry ([Value.ref b] : List Value) (n := 4) (Nat.le_of_ble_eq_true rfl)
  rw [lg_entry_eq]
  generalize (lg_sl ([Value.ref b] : List Value) ++ List.replicate (4 - (lg_sl ([Value.ref b] : List Value)).length) Slot.unset).toArray = ls at hl ⊢
  have hl : lv_has ls 4 (am_lm s.heap.size (zsa sa b) [(0, .retAddr 1)]) := hl
  have hI : am_I s.heap.size 83 zKf aC zcl D s s.heap [] (([], (fun _ _ => 0), (fun _ _ => 0), (fun _ _ => 0)) : am_S) 0 := ⟨(fun k q hk => by cases hk), va_S.rf, rfl, rfl, Nat.le_refl _⟩
  have hW := hg s.heap [] ls hI hl
  intro T hT X
  have X' : Stand p l e (am_rm 20 99 zms) s m #[Value.ref b] below meth c T [] 0 0 := { X with room := zroom (r := am_rm 20 99 zms) (r' := room_1) (show 20 + 8 ≤ 2048 by omega) (show 64 * (20 + 8) ≤ 84000 by omega) (show 99 ≤ 600000 by omega) zms_le.1 X.room }
  obtain ⟨t, a1, o, b1, b2, ⟨ho, -, -⟩, Lc, ⟨f1, f2, f3⟩, hfree⟩ := hW T hT X'
  have ho : o = .returned (some (.int 1)) := ho
  refine ⟨t, a1, o, b1, b2, ho, f1, f2, ?_⟩
  exact f3.weaken (fun y hy hlt => absurd (hfree y hy) (Nat.not_le.mpr hlt)) (by omega) zms_le.1
