def zmr : List (am_Ml × List Nat) := zmr_0 ++ (zmr_1 ++ (zmr_2 ++ (zmr_3 ++ (zmr_4 ++ (zmr_5 ++ (zmr_6 ++ (zmr_7 ++ (zmr_8 ++ (zmr_9 ++ (zmr_10 ++ (zmr_11 ++ (zmr_12 ++ (zmr_13 ++ (zmr_14))))))))))))))
theorem zmr_ok : zmr.all zmlc = true := by
  unfold zmr
  rw [List.all_append, List.all_append, List.all_append, List.all_append, List.all_append, List.all_append, List.all_append, List.all_append, List.all_append, List.all_append, List.all_append, List.all_append, List.all_append, List.all_append]
  simp only [zmo_0, zmo_1, zmo_2, zmo_3, zmo_4, zmo_5, zmo_6, zmo_7, zmo_8, zmo_9, zmo_10, zmo_11, zmo_12, zmo_13, zmo_14, Bool.and_self]
set_option maxRecDepth 100000 in
theorem zmr_map : zmr.map (fun q => q.1) = zml := rfl
theorem zML {Sg : State → Prop} (hSg : ∀ U : State, Sg U → ∀ q ∈ znl, va_Nw (zNw q) U) : am_ML zTs am_cl zml zcn am_P Sg := by
  intro oc idx nst mi n ci kd h
  rw [← zmr_map] at h
  obtain ⟨⟨q0, hs⟩, hq, eq⟩ := List.mem_map.mp h
  dsimp only at eq
  subst eq
  have hb := List.all_eq_true.mp zmr_ok _ hq
  unfold zmlc at hb
  dsimp only at hb
  cases hM : am_P mi with
  | none => rw [hM] at hb; cases hb
  | some M =>
    rw [hM] at hb
    dsimp only at hb
    rw [Bool.and_eq_true, Bool.and_eq_true, Bool.and_eq_true, Bool.and_eq_true, Bool.and_eq_true] at hb
    obtain ⟨h1, h2, h2', h2n, h3, h4⟩ := hb
    refine ⟨M, rfl, of_decide_eq_true h1, ⟨zhit_mem h2, zhit_mem h2', of_decide_eq_true h2n⟩, ?_, ?_⟩
    · cases hn : Nat.beq nst 0 with
      | true =>
        rw [hn] at h3
        exact Or.inl ⟨am_beq hn, zhit_mem h3⟩
      | false =>
        rw [hn] at h3
        obtain ⟨r, hr, hr2⟩ := List.any_eq_true.mp h3
        rw [Bool.and_eq_true, Bool.and_eq_true] at hr2
        obtain ⟨a, b, c, host⟩ := r
        have e1 : a = oc := am_beq hr2.1
        have e2 : b = idx := am_beq hr2.2.1
        have e3 : c = mi := am_beq hr2.2.2
        subst e1; subst e2; subst e3
        refine Or.inr ⟨host, fun U hU => ?_⟩
        have := hSg U hU _ hr
        unfold zNw at this
        dsimp only at this
        rw [hM] at this
        exact this
    · rcases kd with _ | _ | _ | kd
      · have h4 := (Bool.and_eq_true _ _).mp h4
        have h5 := (Bool.and_eq_true _ _).mp h4.1
        have h6 := h4.2
        cases hc : am_cl[ci]? with
        | none => rw [hc] at h6; cases h6
        | some r => rw [hc] at h6; exact Or.inl ⟨rfl, zhit_mem h5.1, zhit_mem h5.2, r, rfl, of_decide_eq_true h6⟩
      · exact Or.inr (Or.inl ⟨rfl, zhit_mem h4⟩)
      · have h4 := (Bool.and_eq_true _ _).mp h4
        have h5 := of_decide_eq_true h4.1
        exact Or.inr (Or.inr ⟨rfl, h5.1, zhit_mem h4.2, h5.2⟩)
      · cases h4
