/-! what a step of the abstract machine says of its stack -/
theorem am_i1_inv {f : Int32 → Int32} {pc : Nat} {lv : am_L} {st : List Value} {S : am_S} {A : am_A} (h : am_i1 f pc lv st S = some A) : ∃ x st', st = .int x :: st' ∧ A = .inl ((pc, lv, .int (f x) :: st'), S) := by
  unfold am_i1 at h
  split at h
  · exact ⟨_, _, rfl, (Option.some.inj h).symm⟩
  · cases h
theorem am_i2_inv {f : Int32 → Int32 → Int32} {pc : Nat} {lv : am_L} {st : List Value} {S : am_S} {A : am_A} (h : am_i2 f pc lv st S = some A) : ∃ x y st', st = .int y :: .int x :: st' ∧ A = .inl ((pc, lv, .int (f x y) :: st'), S) := by
  unfold am_i2 at h
  split at h
  · exact ⟨_, _, _, rfl, (Option.some.inj h).symm⟩
  · cases h
theorem am_l1_inv {f : Int64 → Int64} {pc : Nat} {lv : am_L} {st : List Value} {S : am_S} {A : am_A} (h : am_l1 f pc lv st S = some A) : ∃ x st', st = .long x :: st' ∧ A = .inl ((pc, lv, .long (f x) :: st'), S) := by
  unfold am_l1 at h
  split at h
  · exact ⟨_, _, rfl, (Option.some.inj h).symm⟩
  · cases h
theorem am_l2_inv {f : Int64 → Int64 → Int64} {pc : Nat} {lv : am_L} {st : List Value} {S : am_S} {A : am_A} (h : am_l2 f pc lv st S = some A) : ∃ x y st', st = .long y :: .long x :: st' ∧ A = .inl ((pc, lv, .long (f x y) :: st'), S) := by
  unfold am_l2 at h
  split at h
  · exact ⟨_, _, _, rfl, (Option.some.inj h).symm⟩
  · cases h
theorem am_li_inv {f : Int64 → Int32 → Int64} {pc : Nat} {lv : am_L} {st : List Value} {S : am_S} {A : am_A} (h : am_li f pc lv st S = some A) : ∃ x y st', st = .int y :: .long x :: st' ∧ A = .inl ((pc, lv, .long (f x y) :: st'), S) := by
  unfold am_li at h
  split at h
  · exact ⟨_, _, _, rfl, (Option.some.inj h).symm⟩
  · cases h
theorem am_lc_inv  {pc : Nat} {lv : am_L} {st : List Value} {S : am_S} {A : am_A} (h : am_lc  pc lv st S = some A) : ∃ x y st', st = .long y :: .long x :: st' ∧ A = .inl ((pc, lv, .int (lg_cmp x y) :: st'), S) := by
  unfold am_lc at h
  split at h
  · exact ⟨_, _, _, rfl, (Option.some.inj h).symm⟩
  · cases h
theorem am_wd_inv  {pc : Nat} {lv : am_L} {st : List Value} {S : am_S} {A : am_A} (h : am_wd  pc lv st S = some A) : ∃ x st', st = .int x :: st' ∧ A = .inl ((pc, lv, .long x.toInt64 :: st'), S) := by
  unfold am_wd at h
  split at h
  · exact ⟨_, _, rfl, (Option.some.inj h).symm⟩
  · cases h
theorem am_nr_inv  {pc : Nat} {lv : am_L} {st : List Value} {S : am_S} {A : am_A} (h : am_nr  pc lv st S = some A) : ∃ x st', st = .long x :: st' ∧ A = .inl ((pc, lv, .int x.toInt32 :: st'), S) := by
  unfold am_nr at h
  split at h
  · exact ⟨_, _, rfl, (Option.some.inj h).symm⟩
  · cases h
theorem am_iz_inv {f : Int32 → Int32 → Int32} {pc : Nat} {lv : am_L} {st : List Value} {S : am_S} {A : am_A} (h : am_iz f pc lv st S = some A) : ∃ x y st', st = .int y :: .int x :: st' ∧ ¬ y = 0 ∧ A = .inl ((pc, lv, .int (f x y) :: st'), S) := by
  unfold am_iz at h
  split at h
  · split at h
    · cases h
    · rename_i h0
      exact ⟨_, _, _, rfl, h0, (Option.some.inj h).symm⟩
  · cases h
theorem am_lz_inv {f : Int64 → Int64 → Int64} {pc : Nat} {lv : am_L} {st : List Value} {S : am_S} {A : am_A} (h : am_lz f pc lv st S = some A) : ∃ x y st', st = .long y :: .long x :: st' ∧ ¬ y = 0 ∧ A = .inl ((pc, lv, .long (f x y) :: st'), S) := by
  unfold am_lz at h
  split at h
  · split at h
    · cases h
    · rename_i h0
      exact ⟨_, _, _, rfl, h0, (Option.some.inj h).symm⟩
  · cases h
theorem am_ldi_inv {i pc : Nat} {lv : am_L} {st : List Value} {S : am_S} {A : am_A} (h : am_ldi i pc lv st S = some A) : ∃ x, am_loc i lv = some (.int x) ∧ A = .inl ((pc, lv, .int x :: st), S) := by
  unfold am_ldi at h
  split at h
  · rename_i x hx
    exact ⟨x, hx, (Option.some.inj h).symm⟩
  · cases h
theorem am_ldl_inv {i pc : Nat} {lv : am_L} {st : List Value} {S : am_S} {A : am_A} (h : am_ldl i pc lv st S = some A) : ∃ x, am_loc i lv = some (.long x) ∧ A = .inl ((pc, lv, .long x :: st), S) := by
  unfold am_ldl at h
  split at h
  · rename_i x hx
    exact ⟨x, hx, (Option.some.inj h).symm⟩
  · cases h
theorem am_lda_inv {i pc : Nat} {lv : am_L} {st : List Value} {S : am_S} {A : am_A} (h : am_lda i pc lv st S = some A) : ∃ v, am_loc i lv = some v ∧ (∀ (B : Nat) (sa : Nat → Nat), ∃ x, am_v B sa v = .ref x) ∧ A = .inl ((pc, lv, v :: st), S) := by
  unfold am_lda at h
  split at h
  · rename_i x hx
    exact ⟨_, hx, fun B sa => ⟨_, rfl⟩, (Option.some.inj h).symm⟩
  · rename_i x hx
    exact ⟨_, hx, fun B sa => ⟨_, rfl⟩, (Option.some.inj h).symm⟩
  · cases h
theorem am_xld_inv {Xs : Nat × (Nat → Int32)} {pc : Nat} {lv : am_L} {st : List Value} {S : am_S} {A : am_A} (h : am_xld Xs pc lv st S = some A) : ∃ j st', st = .int j :: .retAddr 1 :: st' ∧ vp_in j Xs.1 ∧ A = .inl ((pc, lv, .int (Xs.2 j.toNatClampNeg) :: st'), S) := by
  unfold am_xld at h
  split at h
  · rw [cond_eq_ite] at h
    split at h
    · rename_i hb
      have hk := am_beq hb
      subst hk
      split at h
      · cases h
      · rename_i hin
        exact ⟨_, _, rfl, hin, (Option.some.inj h).symm⟩
    · cases h
  · cases h
theorem am_xln_inv {Xs : Nat × (Nat → Int32)} {pc : Nat} {lv : am_L} {st : List Value} {S : am_S} {A : am_A} (h : am_xln Xs pc lv st S = some A) : ∃ st', st = .retAddr 1 :: st' ∧ A = .inl ((pc, lv, .int (Int32.ofNat Xs.1) :: st'), S) := by
  unfold am_xln at h
  split at h
  · rw [cond_eq_ite] at h
    split at h
    · rename_i hb
      have hk := am_beq hb
      subst hk
      exact ⟨_, rfl, (Option.some.inj h).symm⟩
    · cases h
  · cases h
theorem am_sti_inv {nL i pc : Nat} {lv : am_L} {st : List Value} {S : am_S} {A : am_A} (h : am_sti nL i pc lv st S = some A) : ∃ x st', st = .int x :: st' ∧ i < nL ∧ A = .inl ((pc, am_st1 lv i (.int x), st'), S) := by
  unfold am_sti at h
  split at h
  · rw [am_blt, cond_eq_ite] at h
    split at h
    · rename_i hb
      exact ⟨_, _, rfl, of_decide_eq_true hb, (Option.some.inj h).symm⟩
    · cases h
  · cases h
theorem am_sta_inv {nL i pc : Nat} {lv : am_L} {st : List Value} {S : am_S} {A : am_A} (h : am_sta nL i pc lv st S = some A) : ∃ x st', st = .ref x :: st' ∧ i < nL ∧ A = .inl ((pc, am_st1 lv i (.ref x), st'), S) := by
  unfold am_sta at h
  split at h
  · rw [am_blt, cond_eq_ite] at h
    split at h
    · rename_i hb
      exact ⟨_, _, rfl, of_decide_eq_true hb, (Option.some.inj h).symm⟩
    · cases h
  · cases h
theorem am_stl_inv {nL i pc : Nat} {lv : am_L} {st : List Value} {S : am_S} {A : am_A} (h : am_stl nL i pc lv st S = some A) : ∃ x st', st = .long x :: st' ∧ i + 1 < nL ∧ A = .inl ((pc, am_st2 lv i (.long x), st'), S) := by
  unfold am_stl at h
  split at h
  · rw [am_blt, cond_eq_ite] at h
    split at h
    · rename_i hb
      exact ⟨_, _, rfl, of_decide_eq_true hb, (Option.some.inj h).symm⟩
    · cases h
  · cases h
theorem am_inc_inv {nL i pc : Nat} {d : Int32} {lv : am_L} {st : List Value} {S : am_S} {A : am_A} (h : am_inc nL i pc d lv st S = some A) : ∃ x, am_loc i lv = some (.int x) ∧ i < nL ∧ A = .inl ((pc, am_st1 lv i (.int (x + d)), st), S) := by
  unfold am_inc at h
  split at h
  · rename_i x hx
    rw [am_blt, cond_eq_ite] at h
    split at h
    · rename_i hb
      exact ⟨x, hx, of_decide_eq_true hb, (Option.some.inj h).symm⟩
    · cases h
  · cases h
theorem am_dup_inv {pc : Nat} {lv : am_L} {st : List Value} {S : am_S} {A : am_A} (h : am_dup pc lv st S = some A) : ∃ v st', st = v :: st' ∧ v.category = 1 ∧ A = .inl ((pc, lv, v :: v :: st'), S) := by
  unfold am_dup at h
  split at h
  · exact ⟨_, _, rfl, rfl, (Option.some.inj h).symm⟩
  · exact ⟨_, _, rfl, rfl, (Option.some.inj h).symm⟩
  · cases h
theorem am_pop_inv {pc : Nat} {lv : am_L} {st : List Value} {S : am_S} {A : am_A} (h : am_pop pc lv st S = some A) : ∃ v st', st = v :: st' ∧ v.category = 1 ∧ A = .inl ((pc, lv, st'), S) := by
  unfold am_pop at h
  split at h
  · exact ⟨_, _, rfl, rfl, (Option.some.inj h).symm⟩
  · exact ⟨_, _, rfl, rfl, (Option.some.inj h).symm⟩
  · cases h
theorem am_dx1_inv {pc : Nat} {lv : am_L} {st : List Value} {S : am_S} {A : am_A} (h : am_dx1 pc lv st S = some A) : ∃ v w st', st = v :: w :: st' ∧ v.category = 1 ∧ w.category = 1 ∧ A = .inl ((pc, lv, v :: w :: v :: st'), S) := by
  unfold am_dx1 at h
  split at h
  · exact ⟨_, _, _, rfl, rfl, rfl, (Option.some.inj h).symm⟩
  · exact ⟨_, _, _, rfl, rfl, rfl, (Option.some.inj h).symm⟩
  · cases h
theorem am_dp2_inv {pc : Nat} {lv : am_L} {st : List Value} {S : am_S} {A : am_A} (h : am_dp2 pc lv st S = some A) : (∃ v w st', st = v :: w :: st' ∧ v.category = 1 ∧ w.category = 1 ∧ A = .inl ((pc, lv, v :: w :: v :: w :: st'), S)) ∨ (∃ v st', st = v :: st' ∧ v.category = 2 ∧ A = .inl ((pc, lv, v :: v :: st'), S)) := by
  unfold am_dp2 at h
  split at h
  · exact Or.inl ⟨_, _, _, rfl, rfl, rfl, (Option.some.inj h).symm⟩
  · exact Or.inl ⟨_, _, _, rfl, rfl, rfl, (Option.some.inj h).symm⟩
  · exact Or.inr ⟨_, _, rfl, rfl, (Option.some.inj h).symm⟩
  · cases h
theorem am_if1_inv {k : Jvm.ClassFile.Cond} {t f : Nat} {lv : am_L} {st : List Value} {S : am_S} {A : am_A} (h : am_if1 k t f lv st S = some A) : ∃ x st', st = .int x :: st' ∧ A = .inl ((am_cnd k x 0 t f, lv, st'), S) := by
  unfold am_if1 at h
  split at h
  · exact ⟨_, _, rfl, (Option.some.inj h).symm⟩
  · cases h
theorem am_if2_inv {k : Jvm.ClassFile.Cond} {t f : Nat} {lv : am_L} {st : List Value} {S : am_S} {A : am_A} (h : am_if2 k t f lv st S = some A) : ∃ x y st', st = .int y :: .int x :: st' ∧ A = .inl ((am_cnd k x y t f, lv, st'), S) := by
  unfold am_if2 at h
  split at h
  · exact ⟨_, _, _, rfl, (Option.some.inj h).symm⟩
  · cases h
theorem am_tsw_inv {lo : Int32} {d : Nat} {ts : List Nat} {lv : am_L} {st : List Value} {S : am_S} {A : am_A} (h : am_tsw lo d ts lv st S = some A) : ∃ x st', st = .int x :: st' ∧ A = .inl ((am_sw x lo d ts, lv, st'), S) := by
  unfold am_tsw at h
  split at h
  · exact ⟨_, _, rfl, (Option.some.inj h).symm⟩
  · cases h
theorem am_gf_inv {k kd ci pc : Nat} {lv : am_L} {st : List Value} {S : am_S} {Tk : Nat} {A : am_A} (h : am_gf k kd ci pc lv st S Tk = some A) : ∃ i st' n rs v, st = .ref i :: st' ∧ S.1[i]? = some (ci + 4, n, rs) ∧ k < n ∧ ((kd = 0 ∧ v = .int (am_h Tk S i k)) ∨ (kd = 1 ∧ v = .int (am_h Tk S i k)) ∨ (kd = 2 ∧ v = .long (S.2.2.2 i k)) ∨ (3 ≤ kd ∧ ∃ j, rs[k]? = some (some j) ∧ v = .ref j)) ∧ A = .inl ((pc, lv, v :: st'), S) := by
  unfold am_gf at h
  split at h
  · rename_i i st'
    split at h
    · rename_i t n rs hc
      rw [am_blt, cond_eq_ite] at h
      split at h
      · rename_i hb
        rw [Bool.and_eq_true] at hb
        have ht := am_beq hb.1
        have hk : k < n := of_decide_eq_true hb.2
        subst ht
        split at h
        · exact ⟨i, st', n, rs, _, rfl, hc, hk, Or.inl ⟨rfl, rfl⟩, (Option.some.inj h).symm⟩
        · exact ⟨i, st', n, rs, _, rfl, hc, hk, Or.inr (Or.inl ⟨rfl, rfl⟩), (Option.some.inj h).symm⟩
        · exact ⟨i, st', n, rs, _, rfl, hc, hk, Or.inr (Or.inr (Or.inl ⟨rfl, rfl⟩)), (Option.some.inj h).symm⟩
        · rename_i h0 h1 h2
          split at h
          · rename_i j hj
            refine ⟨i, st', n, rs, _, rfl, hc, hk, Or.inr (Or.inr (Or.inr ⟨?_, j, hj, rfl⟩)), (Option.some.inj h).symm⟩
            rcases kd with _ | _ | _ | kd
            · exact absurd rfl h0
            · exact absurd rfl h1
            · exact absurd rfl h2
            · omega
          · cases h
      · cases h
    · cases h
  · cases h
theorem am_pf_inv {k kd ci pc : Nat} {lv : am_L} {st : List Value} {S : am_S} {Tk : Nat} {A : am_A} (h : am_pf k kd ci pc lv st S Tk = some A) : ∃ i st' v n rs S', st = v :: .ref i :: st' ∧ S.1[i]? = some (ci + 4, n, rs) ∧ k < n ∧ ((kd = 0 ∧ ∃ x, v = .int x ∧ S' = am_w Tk S i (upd (am_h Tk S i) k x)) ∨ (kd = 1 ∧ ∃ x, x &&& 1 = x ∧ v = .int x ∧ S' = am_w Tk S i (upd (am_h Tk S i) k x)) ∨ (kd = 2 ∧ ∃ x, v = .long x ∧ S' = am_wl S i (vp_updL (S.2.2.2 i) k x)) ∨ (kd = 3 ∧ ∃ j, v = .ref j ∧ k < rs.length ∧ S' = (S.1.set i (ci + 4, n, rs.set k (some j)), S.2))) ∧ A = .inl ((pc, lv, st'), S') := by
  unfold am_pf at h
  split at h
  · rename_i x i st'
    split at h
    · rename_i t n rs hc
      rw [am_blt, cond_eq_ite] at h
      split at h
      · rename_i hb
        rw [Bool.and_eq_true] at hb
        have ht := am_beq hb.1
        subst ht
        exact ⟨i, st', _, n, rs, _, rfl, hc, of_decide_eq_true hb.2, Or.inl ⟨rfl, x, rfl, rfl⟩, (Option.some.inj h).symm⟩
      · cases h
    · cases h
  · rename_i x i st'
    split at h
    · rename_i t n rs hc
      rw [am_blt, cond_eq_ite] at h
      split at h
      · rename_i hb
        rw [Bool.and_eq_true] at hb
        have ht := am_beq hb.1
        subst ht
        split at h
        · rename_i hx
          exact ⟨i, st', _, n, rs, _, rfl, hc, of_decide_eq_true hb.2, Or.inr (Or.inl ⟨rfl, x, hx, rfl, rfl⟩), (Option.some.inj h).symm⟩
        · cases h
      · cases h
    · cases h
  · rename_i x i st'
    split at h
    · rename_i t n rs hc
      rw [am_blt, cond_eq_ite] at h
      split at h
      · rename_i hb
        rw [Bool.and_eq_true] at hb
        have ht := am_beq hb.1
        subst ht
        exact ⟨i, st', _, n, rs, _, rfl, hc, of_decide_eq_true hb.2, Or.inr (Or.inr (Or.inl ⟨rfl, x, rfl, rfl⟩)), (Option.some.inj h).symm⟩
      · cases h
    · cases h
  · rename_i j i st'
    split at h
    · rename_i t n rs hc
      rw [am_blt, am_blt, cond_eq_ite] at h
      split at h
      · rename_i hb
        rw [Bool.and_eq_true, Bool.and_eq_true] at hb
        have ht := am_beq hb.1
        subst ht
        exact ⟨i, st', _, n, rs, _, rfl, hc, of_decide_eq_true hb.2.1, Or.inr (Or.inr (Or.inr ⟨rfl, j, rfl, of_decide_eq_true hb.2.2, rfl⟩)), (Option.some.inj h).symm⟩
      · cases h
    · cases h
  · cases h
theorem am_ald_inv {pc : Nat} {lv : am_L} {st : List Value} {S : am_S} {Tk tag : Nat} {A : am_A} (h : am_ald tag pc lv st S Tk = some A) : ∃ j i st' n rs, st = .int j :: .ref i :: st' ∧ S.1[i]? = some (tag, n, rs) ∧ vp_in j n ∧ A = .inl ((pc, lv, .int (am_h Tk S i j.toNatClampNeg) :: st'), S) := by
  unfold am_ald at h
  split at h
  · split at h
    · rename_i t n rs hc
      rw [cond_eq_ite] at h
      split at h
      · rename_i hb
        have ht := am_beq hb
        subst ht
        split at h
        · cases h
        · rename_i hin
          exact ⟨_, _, _, n, rs, rfl, hc, hin, (Option.some.inj h).symm⟩
      · cases h
    · cases h
  · cases h
theorem am_lld_inv {pc : Nat} {lv : am_L} {st : List Value} {S : am_S}  {A : am_A} (h : am_lld pc lv st S = some A) : ∃ j i st' n rs, st = .int j :: .ref i :: st' ∧ S.1[i]? = some (2, n, rs) ∧ vp_in j n ∧ A = .inl ((pc, lv, .long (S.2.2.2 i j.toNatClampNeg) :: st'), S) := by
  unfold am_lld at h
  split at h
  · split at h
    · rename_i t n rs hc
      rw [cond_eq_ite] at h
      split at h
      · rename_i hb
        have ht := am_beq hb
        subst ht
        split at h
        · cases h
        · rename_i hin
          exact ⟨_, _, _, n, rs, rfl, hc, hin, (Option.some.inj h).symm⟩
      · cases h
    · cases h
  · cases h
theorem am_ast_inv {pc : Nat} {lv : am_L} {st : List Value} {S : am_S} {Tk : Nat} {A : am_A} (h : am_ast pc lv st S Tk = some A) : ∃ x j i st' n rs, st = .int x :: .int j :: .ref i :: st' ∧ S.1[i]? = some (0, n, rs) ∧ vp_in j n ∧ A = .inl ((pc, lv, st'), am_w Tk S i (upd (am_h Tk S i) j.toNatClampNeg x)) := by
  unfold am_ast at h
  split at h
  · split at h
    · rename_i t n rs hc
      rw [cond_eq_ite] at h
      split at h
      · rename_i hb
        have ht := am_beq hb
        subst ht
        split at h
        · cases h
        · rename_i hin
          exact ⟨_, _, _, _, n, rs, rfl, hc, hin, (Option.some.inj h).symm⟩
      · cases h
    · cases h
  · cases h
theorem am_bst_inv {pc : Nat} {lv : am_L} {st : List Value} {S : am_S} {Tk : Nat} {A : am_A} (h : am_bst pc lv st S Tk = some A) : ∃ x j i st' n rs, st = .int x :: .int j :: .ref i :: st' ∧ S.1[i]? = some (1, n, rs) ∧ vp_in j n ∧ A = .inl ((pc, lv, st'), am_w Tk S i (upd (am_h Tk S i) j.toNatClampNeg (x &&& 1))) := by
  unfold am_bst at h
  split at h
  · split at h
    · rename_i t n rs hc
      rw [cond_eq_ite] at h
      split at h
      · rename_i hb
        have ht := am_beq hb
        subst ht
        split at h
        · cases h
        · rename_i hin
          exact ⟨_, _, _, _, n, rs, rfl, hc, hin, (Option.some.inj h).symm⟩
      · cases h
    · cases h
  · cases h
theorem am_lst_inv {pc : Nat} {lv : am_L} {st : List Value} {S : am_S}  {A : am_A} (h : am_lst pc lv st S = some A) : ∃ x j i st' n rs, st = .long x :: .int j :: .ref i :: st' ∧ S.1[i]? = some (2, n, rs) ∧ vp_in j n ∧ A = .inl ((pc, lv, st'), am_wl S i (vp_updL (S.2.2.2 i) j.toNatClampNeg x)) := by
  unfold am_lst at h
  split at h
  · split at h
    · rename_i t n rs hc
      rw [cond_eq_ite] at h
      split at h
      · rename_i hb
        have ht := am_beq hb
        subst ht
        split at h
        · cases h
        · rename_i hin
          exact ⟨_, _, _, _, n, rs, rfl, hc, hin, (Option.some.inj h).symm⟩
      · cases h
    · cases h
  · cases h
theorem am_rld_inv {pc : Nat} {lv : am_L} {st : List Value} {S : am_S} {A : am_A} (h : am_rld pc lv st S = some A) : ∃ j i st' n rs k, st = .int j :: .ref i :: st' ∧ S.1[i]? = some (3, n, rs) ∧ vp_in j n ∧ rs[j.toNatClampNeg]? = some (some k) ∧ A = .inl ((pc, lv, .ref k :: st'), S) := by
  unfold am_rld at h
  split at h
  · split at h
    · rename_i t n rs hc
      rw [cond_eq_ite] at h
      split at h
      · rename_i hb
        have ht := am_beq hb
        subst ht
        split at h
        · cases h
        · rename_i hin
          split at h
          · rename_i k hk
            exact ⟨_, _, _, n, rs, k, rfl, hc, hin, hk, (Option.some.inj h).symm⟩
          · cases h
      · cases h
    · cases h
  · cases h
theorem am_rst_inv {ci pc : Nat} {lv : am_L} {st : List Value} {S : am_S} {A : am_A} (h : am_rst ci pc lv st S = some A) : ∃ k j i st' n rs n' rs', st = .ref k :: .int j :: .ref i :: st' ∧ S.1[i]? = some (3, n, rs) ∧ S.1[k]? = some (ci + 4, n', rs') ∧ j.toNatClampNeg < rs.length ∧ vp_in j n ∧ A = .inl ((pc, lv, st'), (S.1.set i (3, n, rs.set j.toNatClampNeg (some k)), S.2)) := by
  unfold am_rst at h
  split at h
  · split at h
    · rename_i t n rs t' n' rs' hc hc'
      rw [am_blt, cond_eq_ite] at h
      split at h
      · rename_i hb
        rw [Bool.and_eq_true, Bool.and_eq_true] at hb
        have ht := am_beq hb.1
        have ht' := am_beq hb.2.1
        subst ht; subst ht'
        split at h
        · cases h
        · rename_i hin
          exact ⟨_, _, _, _, n, rs, n', rs', rfl, hc, hc', of_decide_eq_true hb.2.2, hin, (Option.some.inj h).symm⟩
      · cases h
    · cases h
  · cases h
theorem am_len_inv {pc : Nat} {lv : am_L} {st : List Value} {S : am_S} {A : am_A} (h : am_len pc lv st S = some A) : ∃ i st' t n rs, st = .ref i :: st' ∧ S.1[i]? = some (t, n, rs) ∧ t < 4 ∧ A = .inl ((pc, lv, .int (Int32.ofNat n) :: st'), S) := by
  unfold am_len at h
  split at h
  · split at h
    · rename_i t n rs hc
      rw [am_blt, cond_eq_ite] at h
      split at h
      · rename_i hb
        exact ⟨_, _, t, n, rs, rfl, hc, of_decide_eq_true hb, (Option.some.inj h).symm⟩
      · cases h
    · cases h
  · cases h
theorem am_mka_inv {tag pc Tk : Nat} {lv : am_L} {st : List Value} {S : am_S} {A : am_A} (h : am_mka tag pc lv st S Tk = some A) : ∃ n st', st = .int n :: st' ∧ ¬ n < 0 ∧ n.toNatClampNeg < 1000000 ∧ A = .inl ((pc, lv, .ref S.1.length :: st'), am_new Tk S (tag, n.toNatClampNeg, bif Nat.beq tag 3 then List.replicate n.toNatClampNeg none else [])) := by
  unfold am_mka at h
  split at h
  · split at h
    · cases h
    · rename_i hn
      exact ⟨_, _, rfl, fun q => hn (Or.inl q), Nat.not_le.mp fun q => hn (Or.inr q), (Option.some.inj h).symm⟩
  · cases h
theorem am_cpy_inv {pc Tk : Nat} {lv : am_L} {st : List Value} {S : am_S} {A : am_A} (h : am_cpy pc lv st S Tk = some A) : ∃ n dp i1 sp i0 st' n0 r0 n1 r1, st = .int n :: .int dp :: .ref i1 :: .int sp :: .ref i0 :: st' ∧ S.1[i0]? = some (0, n0, r0) ∧ S.1[i1]? = some (0, n1, r1) ∧ am_cat st' ≤ 8 ∧ ¬ sp < 0 ∧ ¬ dp < 0 ∧ ¬ n < 0 ∧ sp.toNatClampNeg + n.toNatClampNeg ≤ n0 ∧ dp.toNatClampNeg + n.toNatClampNeg ≤ n1 ∧ A = .inl ((pc, lv, st'), am_w Tk S i1 (va_cpy (am_h Tk S i0) (am_h Tk S i1) sp.toNatClampNeg dp.toNatClampNeg n.toNatClampNeg)) := by
  unfold am_cpy at h
  split at h
  · split at h
    · rename_i t0 n0 r0 t1 n1 r1 hc hc'
      rw [cond_eq_ite] at h
      split at h
      · rename_i hb
        rw [Bool.and_eq_true, Bool.and_eq_true] at hb
        have ht := am_beq hb.1
        have ht' := am_beq hb.2.1
        subst ht; subst ht'
        split at h
        · cases h
        · rename_i hn
          refine ⟨_, _, _, _, _, _, n0, r0, n1, r1, rfl, hc, hc', Nat.le_of_ble_eq_true hb.2.2, fun q => hn (Or.inl (Or.inl q)), fun q => hn (Or.inl (Or.inr q)), fun q => hn (Or.inr (Or.inl (Or.inl q))), Nat.not_lt.mp fun q => hn (Or.inr (Or.inl (Or.inr q))), Nat.not_lt.mp fun q => hn (Or.inr (Or.inr q)), (Option.some.inj h).symm⟩
      · cases h
    · cases h
  · cases h
theorem am_chr_inv {ts : List Nat} {pc : Nat} {lv : am_L} {st : List Value} {S : am_S} {A : am_A} (h : am_chr ts pc lv st S = some A) : ∃ j st', st = .int j :: .retAddr 0 :: st' ∧ am_cat st' ≤ 8 ∧ ¬ (j < 0 ∨ ts.length ≤ j.toNatClampNeg) ∧ A = .inl ((pc, lv, .int (Int32.ofNat (ts.getD j.toNatClampNeg 0)) :: st'), S) := by
  unfold am_chr at h
  split at h
  · rw [cond_eq_ite] at h
    split at h
    · rename_i hb
      rw [Bool.and_eq_true] at hb
      have hk := am_beq hb.1
      subst hk
      split at h
      · cases h
      · rename_i hin
        exact ⟨_, _, rfl, Nat.le_of_ble_eq_true hb.2, hin, (Option.some.inj h).symm⟩
    · cases h
  · cases h
