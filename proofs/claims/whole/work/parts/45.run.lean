/-! A CALL, AND THE WHOLE RUN: what the abstract machine answers, the real one answers -/
section AMR2
variable {p : Program} {l : Launch} {e : Env} {s : State} {m : MethodId} {args : Array Value} {below : List Frame} {meth : Method} {c : Code} {Q : State → Prop}
variable {B Tk : Nat} {sa : Nat → Nat} {Kf : Nat → Nat → Nat} {aC : Nat → ClassId} {cl : List vw_C} {D : va_G} {Ts : List Jvm.Cond} {Cx : String} {M : am_M} {ty0 : Nat → Nat → FieldType} {fl : List am_Fl} {ml : List am_Ml} {cn : Nat → String} {P : Nat → Option am_M} {Sg : State → Prop} {Xs : Nat × (Nat → Int32)}
/-- what must hold of the facts about texts -/
def am_Sgk (B : Nat) (Sg : State → Prop) : Prop := (∀ s U : State, s.WarmedH U.vm → s.heap.size ≤ U.heap.size → (∀ q : Nat, q < s.heap.size → q < B → U.heap[q]? = s.heap[q]?) → Sg s → Sg U) ∧ (∀ (U : State) (g : JFrame) (mk : MethodId) (a : Array Value), Sg U → Sg (U.calling g mk a))
set_option maxHeartbeats 4000000 in
theorem am_call_step (hA : am_At Ts p s m args meth c B sa cl D aC Cx M) (hSg : am_Sgk B Sg) (hs : Sg s) (hG : Ts.all goodWord = true) (hMT : am_MT Ts cl fl ml Cx cn P) (hML : am_ML Ts cl ml cn P Sg) (hcn : cn M.2.2.2.2.2.1 = M.1.cls) {E : am_E} (hok : am_okb Ts cl fl ml Cx M E = true)
    {lv : am_L} {st : List Value} {S S1 : am_S} {mj : Nat} {As : List Value} {F' : am_F} (h : am_step Tk Xs M.2.2.1 M.2.2.2.2.1 E lv st S = some (.inr (.inl (mj, As, F')))) {M' : am_M} (hM' : P mj = some M') {d mc ms mc' ms' : Nat} {r : Option Value} (hmc : S1.1.length = S.1.length + mc')
    (hMet : Met l M'.1 (Jvm.Cond.code M'.1 M'.2.1 M'.2.2.1 M'.2.2.2.1 :: Ts) (am_rm d mc' ms') (am_Pc B sa Tk Kf aC cl D Cx Sg As S) (am_Qc B sa Tk Kf aC cl D r S1) mc' ms' (fun q : Nat => B ≤ q)) {cells slots : Nat} (hc1 : cells + mc' ≤ mc) (hs1 : slots + ms' ≤ ms)
    (k : am_G p l e (am_rm (d + 1) mc ms) s m args below meth c Q B sa Tk M.2.2.1 Kf aC cl D (F'.1, F'.2.1, r.toList ++ F'.2.2) S1 (cells + mc') (slots + ms')) : am_G p l e (am_rm (d + 1) mc ms) s m args below meth c Q B sa Tk M.2.2.1 Kf aC cl D (E.1, lv, st) S cells slots := by
  obtain ⟨hx, hb, hr, hlk, hml, hown, hts, hnm, hK⟩ := hA
  obtain ⟨pc, I, a, b, x, z, ts⟩ := E
  obtain ⟨hpl, hnl, hrk, hcn', hok'⟩ := hMT mj M' hM'
  have hroom : (am_rm d mc' ms').frames + 1 ≤ (am_rm (d + 1) mc ms).frames ∧ 8 + (M'.2.2.1 + 11) + (am_rm d mc' ms').locals ≤ (am_rm (d + 1) mc ms).locals := by
    refine ⟨show d + 8 + 1 ≤ d + 1 + 8 by omega, ?_⟩
    show 8 + (M'.2.2.1 + 11) + 64 * (d + 8) ≤ 64 * (d + 1 + 8)
    omega
  have hblind : FrameBlind (am_Pc B sa Tk Kf aC cl D Cx Sg As S) := fun a U g mk q => by
    obtain ⟨q0, q1, qP, qK, qS⟩ := q
    exact ⟨q0, q1, qP, va_K.moved (u := U) (U := U.calling g mk a) (Vm.Alike.refl U.vm) qK, hSg.2 U g mk a qS⟩
  have hpre : ∀ (H : Heap) (locs : List Loc), am_I B Tk Kf aC cl D s H locs S cells → ∀ U : State, U.heap = H → s.WarmedH U.vm → am_Pc B sa Tk Kf aC cl D Cx Sg As S (As.map (am_v B sa)).toArray U := fun H locs hI U hU hW =>
    ⟨rfl, by rw [hU]; exact hI.2.2.1, by rw [hU]; exact hI.1, va_K.moved hW.alike hK, hSg.1 s U hW (by rw [hU]; exact hI.2.1.1) (fun q h1 h2 => by rw [hU]; exact hI.2.1.2.1 q h1 (by omega)) hs⟩
  rcases am_step_inr h with ⟨i, rfl⟩ | ⟨i, rfl⟩ | ⟨i, rfl⟩ | rfl | rfl | rfl | rfl
  · have hk := (Bool.and_eq_true _ _).mp hok
    have hd := of_decide_eq_true hk.1
    have hk2 := hk.2
    have h2 : (bif Nat.beq (ts.headD 0) 99 then am_chr ts.tail (pc + 3) lv st S else am_cv a b (ts.headD 0) (pc + 3) lv st S) = some (.inr (.inl (mj, As, F'))) := h
    cases h99 : Nat.beq (ts.headD 0) 99 with
    | true =>
      rw [h99] at h2
      obtain ⟨_, _, _, _, _, he⟩ := am_chr_inv h2
      cases he
    | false =>
      rw [h99] at h2 hk2
      have hk2 := of_decide_eq_true hk2
      obtain ⟨As0, i0, rest, n', rs, hargs, hcell, hcat, he⟩ := am_cv_inv h2
      cases he
      obtain ⟨xs, e1, e2, rfl⟩ := am_args_spec hargs
      rw [List.append_nil] at e1
      subst e1
      intro H locs ls hI hl
      have hst : (As0.reverse ++ Value.ref i0 :: rest).map (am_v B sa) = (As0.map (am_v B sa)).reverse ++ .ref (B + i0) :: rest.map (am_v B sa) := by simp [am_v]
      have hat := am_ws_at (B := B) (Tk := Tk) (Kf := Kf) (aC := aC) hcell
      have hcat' : 2 * (F0 m pc ls ((As0.reverse ++ Value.ref i0 :: rest).map (am_v B sa))).monitorRoom + ((rest.map (am_v B sa)).map fun v => v.category).sum ≤ 8 := lv_room (by rw [am_cat_map]; exact hcat)
      have go : ∀ nst, (M.2.2.2.2.2.1, i, nst, mj, b, ts.headD 0, 0) ∈ ml → W p l e (am_rm (d + 1) mc ms) s m args below meth c H locs cells slots Q (F0 m pc ls ((As0.reverse ++ Value.ref i0 :: rest).map (am_v B sa))) := by
        intro nst hmem
        obtain ⟨M2, hM2, hpar, ⟨hcw, hini, hne⟩, hlink, hkd⟩ := hML _ _ _ _ _ _ _ hmem
        have e3 : M2 = M' := Option.some.inj (hM2.symm.trans hM')
        subst e3
        have hGI := am_good hG hcw
        rw [hcn] at hlink
        rcases hkd with ⟨-, hw1, hw2, r0, hr0, hr1⟩ | ⟨h9, -⟩ | ⟨h9, -⟩
        · have hrec := va_recv hK hI.1 hr0 hat
          rw [hr1] at hrec
          have hp : PreV s H M2.1.cls (B + i0) (am_Pc B sa Tk Kf aC cl D Cx Sg (Value.ref i0 :: As0) S) (As0.map (am_v B sa)) := ⟨hblind, hrec, hpre H locs hI⟩
          rcases hlink with ⟨-, hlink⟩ | ⟨host, hlink⟩
          · refine am_called (st0 := (As0.reverse ++ Value.ref i0 :: rest).map (am_v B sa)) (rest := rest) hI hmc (va_runV ⟨hx, hb, hml, hown, hts⟩ hMet ⟨callB_of b hts hGI rfl rfl rfl (hts _ hini) (hts _ hlink) ⟨hne.1, hne.2, hpar⟩ hroom, hts _ hw1, hts _ hw2⟩ hp rfl (by rw [List.length_map]; exact e2) hl.1 hst hcat' hd ⟨hc1, hs1⟩) hl k
          · refine am_called (st0 := (As0.reverse ++ Value.ref i0 :: rest).map (am_v B sa)) (rest := rest) hI hmc (va_runVN ⟨hx, hb, hml, hown, hts⟩ hMet ⟨va_cnB b hts hGI rfl rfl rfl (hlink s hs) (hts _ hini) ⟨hne.1, hne.2, hpar⟩ hroom, hts _ hw1, hts _ hw2⟩ hp rfl (by rw [List.length_map]; exact e2) hl.1 hst hcat' hd ⟨hc1, hs1⟩) hl k
        · cases h9
        · cases h9
      rcases hk2 with hk2 | hk2
      · exact go 0 hk2
      · exact go 1 hk2
  · have hk := (Bool.and_eq_true _ _).mp hok
    have hd := of_decide_eq_true hk.1
    have hk2 := hk.2
    have h2 : (bif Nat.beq (ts.headD 0) 7 then am_cpy (pc + 3) lv st S Tk else am_cs a b (pc + 3) lv st) = some (.inr (.inl (mj, As, F'))) := h
    cases h99 : Nat.beq (ts.headD 0) 7 with
    | true =>
      rw [h99] at h2
      obtain ⟨_, _, _, _, _, _, _, _, _, _, _, _, _, _, _, _, _, _, _, he⟩ := am_cpy_inv h2
      cases he
    | false =>
      rw [h99] at h2 hk2
      have hk2 := of_decide_eq_true hk2
      obtain ⟨As0, rest, hargs, hcat, he⟩ := am_cs_inv h2
      cases he
      obtain ⟨xs, e1, e2, rfl⟩ := am_args_spec hargs
      rw [List.append_nil] at e1
      subst e1
      intro H locs ls hI hl
      have hst : (As.reverse ++ rest).map (am_v B sa) = (As.map (am_v B sa)).reverse ++ rest.map (am_v B sa) := by simp
      have hcat' : 2 * (F0 m pc ls ((As.reverse ++ rest).map (am_v B sa))).monitorRoom + ((rest.map (am_v B sa)).map fun v => v.category).sum ≤ 8 := lv_room (by rw [am_cat_map]; exact hcat)
      have hp : PreS s H (am_Pc B sa Tk Kf aC cl D Cx Sg As S) (As.map (am_v B sa)) := ⟨hblind, hpre H locs hI⟩
      have go : ∀ nst, (M.2.2.2.2.2.1, i, nst, mj, b, 0, 1) ∈ ml → W p l e (am_rm (d + 1) mc ms) s m args below meth c H locs cells slots Q (F0 m pc ls ((As.reverse ++ rest).map (am_v B sa))) := by
        intro nst hmem
        obtain ⟨M2, hM2, hpar, ⟨hcw, hini, hne⟩, hlink, hkd⟩ := hML _ _ _ _ _ _ _ hmem
        have e3 : M2 = M' := Option.some.inj (hM2.symm.trans hM')
        subst e3
        have hGI := am_good hG hcw
        rw [hcn] at hlink
        rcases hkd with ⟨h9, -⟩ | ⟨-, hw1⟩ | ⟨h9, -⟩
        · cases h9
        · rcases hlink with ⟨-, hlink⟩ | ⟨host, hlink⟩
          · exact am_called (st0 := (As.reverse ++ rest).map (am_v B sa)) (rest := rest) hI hmc (va_runS ⟨hx, hb, hml, hown, hts⟩ hMet ⟨callB_of b hts hGI rfl rfl rfl (hts _ hini) (hts _ hlink) ⟨hne.1, hne.2, hpar⟩ hroom, hts _ hw1⟩ hp rfl (by rw [List.length_map]; exact e2) hl.1 hst hcat' hd ⟨hc1, hs1⟩) hl k
          · exact am_called (st0 := (As.reverse ++ rest).map (am_v B sa)) (rest := rest) hI hmc (va_runSN ⟨hx, hb, hml, hown, hts⟩ hMet ⟨va_cnB b hts hGI rfl rfl rfl (hlink s hs) (hts _ hini) ⟨hne.1, hne.2, hpar⟩ hroom, hts _ hw1, trivial⟩ hp rfl (by rw [List.length_map]; exact e2) hl.1 hst hcat' hd ⟨hc1, hs1⟩) hl k
        · cases h9
      rcases hk2 with hk2 | hk2
      · exact go 0 hk2
      · exact go 1 hk2
  · have hk := (Bool.and_eq_true _ _).mp hok
    have hd := of_decide_eq_true hk.1
    have hk2 := hk.2
    have h2 : (bif Nat.beq (ts.headD 0) 6 then am_co (pc + 3) lv st S else am_ci a b (pc + 3) lv st) = some (.inr (.inl (mj, As, F'))) := h
    cases h99 : Nat.beq (ts.headD 0) 6 with
    | true =>
      rw [h99] at h2
      obtain ⟨_, _, _, _, he⟩ := am_co_inv h2
      cases he
    | false =>
      rw [h99] at h2 hk2
      have hk2 := of_decide_eq_true hk2
      obtain ⟨As0, i0, rest, hargs, hcat, he⟩ := am_ci_inv h2
      cases he
      obtain ⟨xs, e1, e2, rfl⟩ := am_args_spec hargs
      rw [List.append_nil] at e1
      subst e1
      intro H locs ls hI hl
      have hst : (As0.reverse ++ Value.ref i0 :: rest).map (am_v B sa) = (As0.map (am_v B sa)).reverse ++ .ref (B + i0) :: rest.map (am_v B sa) := by simp [am_v]
      have hcat' : 2 * (F0 m pc ls ((As0.reverse ++ Value.ref i0 :: rest).map (am_v B sa))).monitorRoom + ((rest.map (am_v B sa)).map fun v => v.category).sum ≤ 8 := lv_room (by rw [am_cat_map]; exact hcat)
      have hp : PreS s H (am_Pc B sa Tk Kf aC cl D Cx Sg (Value.ref i0 :: As0) S) (.ref (B + i0) :: As0.map (am_v B sa)) := ⟨hblind, hpre H locs hI⟩
      have go : ∀ nst, (M.2.2.2.2.2.1, i, nst, mj, b, 0, 2) ∈ ml → W p l e (am_rm (d + 1) mc ms) s m args below meth c H locs cells slots Q (F0 m pc ls ((As0.reverse ++ Value.ref i0 :: rest).map (am_v B sa))) := by
        intro nst hmem
        obtain ⟨M2, hM2, hpar, ⟨hcw, hini, hne⟩, hlink, hkd⟩ := hML _ _ _ _ _ _ _ hmem
        have e3 : M2 = M' := Option.some.inj (hM2.symm.trans hM')
        subst e3
        have hGI := am_good hG hcw
        rw [hcn] at hlink
        rcases hkd with ⟨h9, -⟩ | ⟨h9, -⟩ | ⟨-, hw0, hw1, hrn⟩
        · cases h9
        · cases h9
        · rw [hrn] at hMet hGI
          rcases hlink with ⟨-, hlink⟩ | ⟨host, hlink⟩
          · exact am_called (st0 := (As0.reverse ++ Value.ref i0 :: rest).map (am_v B sa)) (rest := rest) hI hmc (va_runI ⟨hx, hb, hml, hown, hts⟩ hMet ⟨callB_of b hts hGI rfl rfl rfl (hts _ hini) (hts _ hlink) ⟨hne.1, hne.2, hpar⟩ hroom, hw0, hts _ hw1⟩ hp rfl (by rw [List.length_map]; exact e2) hl.1 hst hcat' hd ⟨hc1, hs1⟩) hl k
          · exact am_called (st0 := (As0.reverse ++ Value.ref i0 :: rest).map (am_v B sa)) (rest := rest) hI hmc (va_runIN ⟨hx, hb, hml, hown, hts⟩ hMet ⟨va_cnB b hts hGI rfl rfl rfl (hlink s hs) (hts _ hini) ⟨hne.1, hne.2, hpar⟩ hroom, hw0, hts _ hw1⟩ hp rfl (by rw [List.length_map]; exact e2) hl.1 hst hcat' hd ⟨hc1, hs1⟩) hl k
      rcases hk2 with hk2 | hk2
      · exact go 0 hk2
      · exact go 1 hk2
  · obtain ⟨v, rfl, ⟨hrt, he⟩ | ⟨hrt, he⟩⟩ := am_ret_inv h <;> cases he
  · obtain ⟨v, rfl, hrt, he⟩ := am_rtl_inv h; cases he
  · obtain ⟨v, rfl, hrt, he⟩ := am_rta_inv h; cases he
  · obtain ⟨rfl, hrt, he⟩ := am_rtv_inv h; cases he
end AMR2
