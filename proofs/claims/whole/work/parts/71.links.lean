set_option maxRecDepth 100000 in
theorem zml_ok : zml.all zmlb = true := by decide +kernel
theorem zML {Sg : State → Prop} (hSg : ∀ U : State, Sg U → ∀ q ∈ znl, va_Nw (zNw q) U) : am_ML zTs am_cl zml zcn am_P Sg := by
  intro oc idx nst mi n ci kd h
  have hb := List.all_eq_true.mp zml_ok _ h
  unfold zmlb at hb
  dsimp only at hb
  cases hM : am_P mi with
  | none => rw [hM] at hb; cases hb
  | some M =>
    rw [hM] at hb
    dsimp only at hb
    rw [Bool.and_eq_true, Bool.and_eq_true, Bool.and_eq_true] at hb
    obtain ⟨h1, h2, h3, h4⟩ := hb
    refine ⟨M, rfl, of_decide_eq_true h1, of_decide_eq_true h2, ?_, ?_⟩
    · cases hn : Nat.beq nst 0 with
      | true =>
        rw [hn] at h3
        exact Or.inl ⟨am_beq hn, of_decide_eq_true h3⟩
      | false =>
        rw [hn] at h3
        obtain ⟨r, hr, hr2⟩ := List.any_eq_true.mp h3
        rw [Bool.and_eq_true, Bool.and_eq_true] at hr2
        obtain ⟨a, b, c, host⟩ := r
        have e1 : a = oc := am_beq hr2.1
        have e2 : b = idx := am_beq hr2.2.1
        have e3 : c = mi := am_beq hr2.2.2
        subst e1; subst e2; subst e3
        refine Or.inr ⟨host, fun U hU => ?_⟩
        have := hSg U hU _ hr
        unfold zNw at this
        dsimp only at this
        rw [hM] at this
        exact this
    · rcases kd with _ | _ | _ | kd
      · have h4 := (Bool.and_eq_true _ _).mp h4
        have h5 := of_decide_eq_true h4.1
        have h6 := h4.2
        cases hc : am_cl[ci]? with
        | none => rw [hc] at h6; cases h6
        | some r => rw [hc] at h6; exact Or.inl ⟨rfl, h5.1, h5.2, r, rfl, of_decide_eq_true h6⟩
      · exact Or.inr (Or.inl ⟨rfl, of_decide_eq_true h4⟩)
      · exact Or.inr (Or.inr ⟨rfl, of_decide_eq_true h4⟩)
      · cases h4
