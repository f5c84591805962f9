section
variable {Xs : Nat × (Nat → Int32)} {hx hm : Nat → Nat → Int32} {g : Nat → Nat → Int64} {S : am_S}
/-- SixHandsLaw.law([I)Z ['s'] -/
def zW_law_L28 (Xs : Nat × (Nat → Int32)) : Nat → Int32 → zHL → Option (Int32 × zHL)
  | 0, _, _ => none
  | n + 1, v3, q => if ((Int32.ofNat Xs.1) - 6) < v3 then (some ((1, q))) else (am_no (v3 < 0 ∨ Xs.1 ≤ v3.toNatClampNeg) (am_b ((Xs.2 (v3.toNatClampNeg)) &&& 31) fun x3 => if x3 = 0 then (am_no ((v3 + 1) < 0 ∨ Xs.1 ≤ (v3 + 1).toNatClampNeg) (am_no ((v3 + 2) < 0 ∨ Xs.1 ≤ (v3 + 2).toNatClampNeg) ((zH_puppeteer (Xs.2 ((v3 + 1).toNatClampNeg)) (Xs.2 ((v3 + 2).toNatClampNeg)) q.1).bind fun r7 => am_no ((v3 + 1) < 0 ∨ Xs.1 ≤ (v3 + 1).toNatClampNeg) (am_no ((v3 + 2) < 0 ∨ Xs.1 ≤ (v3 + 2).toNatClampNeg) ((zM_puppeteer (Xs.2 ((v3 + 1).toNatClampNeg)) (Xs.2 ((v3 + 2).toNatClampNeg)) q.2).bind fun r10 => if r7.1 = r10.1 then (zW_law_L28 Xs n (v3 + 6) ((r7.2, r10.2))) else (some ((0, (r7.2, r10.2))))))))) else if x3 = 1 then (am_no ((v3 + 1) < 0 ∨ Xs.1 ≤ (v3 + 1).toNatClampNeg) (am_no ((v3 + 2) < 0 ∨ Xs.1 ≤ (v3 + 2).toNatClampNeg) ((zH_figure (Xs.2 ((v3 + 1).toNatClampNeg)) (Xs.2 ((v3 + 2).toNatClampNeg)) q.1).bind fun r15 => am_no ((v3 + 1) < 0 ∨ Xs.1 ≤ (v3 + 1).toNatClampNeg) (am_no ((v3 + 2) < 0 ∨ Xs.1 ≤ (v3 + 2).toNatClampNeg) ((zM_figure (Xs.2 ((v3 + 1).toNatClampNeg)) (Xs.2 ((v3 + 2).toNatClampNeg)) q.2).bind fun r18 => if r15.1 = r18.1 then (zW_law_L28 Xs n (v3 + 6) ((r15.2, r18.2))) else (some ((0, (r15.2, r18.2))))))))) else if x3 = 2 then (am_no ((v3 + 1) < 0 ∨ Xs.1 ≤ (v3 + 1).toNatClampNeg) (am_no ((v3 + 2) < 0 ∨ Xs.1 ≤ (v3 + 2).toNatClampNeg) ((zH_rules (Xs.2 ((v3 + 1).toNatClampNeg)) (Xs.2 ((v3 + 2).toNatClampNeg)) q.1).bind fun r23 => am_no ((v3 + 1) < 0 ∨ Xs.1 ≤ (v3 + 1).toNatClampNeg) (am_no ((v3 + 2) < 0 ∨ Xs.1 ≤ (v3 + 2).toNatClampNeg) (am_b (zM_rules (Xs.2 ((v3 + 1).toNatClampNeg)) (Xs.2 ((v3 + 2).toNatClampNeg)) q.2) fun r26 => if r23.1 = r26.1 then (zW_law_L28 Xs n (v3 + 6) ((r23.2, r26.2))) else (some ((0, (r23.2, r26.2))))))))) else if x3 = 3 then (am_no ((v3 + 1) < 0 ∨ Xs.1 ≤ (v3 + 1).toNatClampNeg) (am_no ((v3 + 2) < 0 ∨ Xs.1 ≤ (v3 + 2).toNatClampNeg) (am_no ((v3 + 3) < 0 ∨ Xs.1 ≤ (v3 + 3).toNatClampNeg) (am_no ((v3 + 4) < 0 ∨ Xs.1 ≤ (v3 + 4).toNatClampNeg) (am_no ((v3 + 5) < 0 ∨ Xs.1 ≤ (v3 + 5).toNatClampNeg) ((zH_feed (Xs.2 ((v3 + 1).toNatClampNeg)) (Xs.2 ((v3 + 2).toNatClampNeg)) (Xs.2 ((v3 + 3).toNatClampNeg)) (Xs.2 ((v3 + 4).toNatClampNeg)) (Xs.2 ((v3 + 5).toNatClampNeg)) q.1).bind fun r34 => am_no ((v3 + 1) < 0 ∨ Xs.1 ≤ (v3 + 1).toNatClampNeg) (am_no ((v3 + 2) < 0 ∨ Xs.1 ≤ (v3 + 2).toNatClampNeg) (am_no ((v3 + 3) < 0 ∨ Xs.1 ≤ (v3 + 3).toNatClampNeg) (am_no ((v3 + 4) < 0 ∨ Xs.1 ≤ (v3 + 4).toNatClampNeg) (am_no ((v3 + 5) < 0 ∨ Xs.1 ≤ (v3 + 5).toNatClampNeg) ((zM_feed (Xs.2 ((v3 + 1).toNatClampNeg)) (Xs.2 ((v3 + 2).toNatClampNeg)) (Xs.2 ((v3 + 3).toNatClampNeg)) (Xs.2 ((v3 + 4).toNatClampNeg)) (Xs.2 ((v3 + 5).toNatClampNeg)) q.2).bind fun r40 => if r34.1 = r40.1 then (zW_law_L28 Xs n (v3 + 6) ((r34.2, r40.2))) else (some ((0, (r34.2, r40.2))))))))))))))) else if x3 = 4 then (am_no ((v3 + 1) < 0 ∨ Xs.1 ≤ (v3 + 1).toNatClampNeg) (am_b (zH_end (Xs.2 ((v3 + 1).toNatClampNeg)) q.1) fun r44 => am_no ((v3 + 1) < 0 ∨ Xs.1 ≤ (v3 + 1).toNatClampNeg) (am_b (zM_end (Xs.2 ((v3 + 1).toNatClampNeg)) q.2) fun r46 => if r44.1 = r46.1 then (zW_law_L28 Xs n (v3 + 6) ((r44.2, r46.2))) else (some ((0, (r44.2, r46.2))))))) else if x3 = 5 then ((zH_text q.1).bind fun r49 => (zM_text q.2).bind fun r50 => if r49.1 = r50.1 then (zW_law_L28 Xs n (v3 + 6) ((r49.2, r50.2))) else (some ((0, (r49.2, r50.2))))) else if x3 = 6 then (am_no ((v3 + 1) < 0 ∨ Xs.1 ≤ (v3 + 1).toNatClampNeg) (am_b (zH_fault (Xs.2 ((v3 + 1).toNatClampNeg)) q.1) fun r54 => am_no ((v3 + 1) < 0 ∨ Xs.1 ≤ (v3 + 1).toNatClampNeg) (am_b (zM_fault (Xs.2 ((v3 + 1).toNatClampNeg)) q.2) fun r56 => if r54 = r56 then (zW_law_L28 Xs n (v3 + 6) q) else (some ((0, q)))))) else if x3 = 7 then (am_no ((v3 + 1) < 0 ∨ Xs.1 ≤ (v3 + 1).toNatClampNeg) ((zH_by (Xs.2 ((v3 + 1).toNatClampNeg)) q.1).bind fun r60 => am_no ((v3 + 1) < 0 ∨ Xs.1 ≤ (v3 + 1).toNatClampNeg) (am_b (zM_by (Xs.2 ((v3 + 1).toNatClampNeg)) q.2) fun r62 => if r60.1 = r62.1 then (zW_law_L28 Xs n (v3 + 6) ((r60.2, r62.2))) else (some ((0, (r60.2, r62.2))))))) else if x3 = 8 then (am_no ((v3 + 1) < 0 ∨ Xs.1 ≤ (v3 + 1).toNatClampNeg) ((zH_played (Xs.2 ((v3 + 1).toNatClampNeg)) q.1).bind fun r66 => am_no ((v3 + 1) < 0 ∨ Xs.1 ≤ (v3 + 1).toNatClampNeg) ((zM_played (Xs.2 ((v3 + 1).toNatClampNeg)) q.2).bind fun r68 => if r66.1 = r68.1 then (zW_law_L28 Xs n (v3 + 6) ((r66.2, r68.2))) else (some ((0, (r66.2, r68.2))))))) else if x3 = 9 then ((zH_clear q.1).bind fun r71 => (zM_clear q.2).bind fun r72 => if r71.1 = r72.1 then (zW_law_L28 Xs n (v3 + 6) ((r71.2, r72.2))) else (some ((0, (r71.2, r72.2))))) else if x3 = 10 then (am_no ((v3 + 1) < 0 ∨ Xs.1 ≤ (v3 + 1).toNatClampNeg) (am_no ((v3 + 2) < 0 ∨ Xs.1 ≤ (v3 + 2).toNatClampNeg) ((zH_at (Xs.2 ((v3 + 1).toNatClampNeg)) (Xs.2 ((v3 + 2).toNatClampNeg)) q.1).bind fun r77 => am_no ((v3 + 1) < 0 ∨ Xs.1 ≤ (v3 + 1).toNatClampNeg) (am_no ((v3 + 2) < 0 ∨ Xs.1 ≤ (v3 + 2).toNatClampNeg) ((zM_at (Xs.2 ((v3 + 1).toNatClampNeg)) (Xs.2 ((v3 + 2).toNatClampNeg)) q.2).bind fun r80 => if r77 = r80 then (zW_law_L28 Xs n (v3 + 6) q) else (some ((0, q)))))))) else if x3 = 11 then (am_no ((v3 + 1) < 0 ∨ Xs.1 ≤ (v3 + 1).toNatClampNeg) (am_no ((v3 + 2) < 0 ∨ Xs.1 ≤ (v3 + 2).toNatClampNeg) (am_no ((v3 + 3) < 0 ∨ Xs.1 ≤ (v3 + 3).toNatClampNeg) ((zH_hold (Xs.2 ((v3 + 1).toNatClampNeg)) (Xs.2 ((v3 + 2).toNatClampNeg)) (Xs.2 ((v3 + 3).toNatClampNeg)) q.1).bind fun r86 => am_no ((v3 + 1) < 0 ∨ Xs.1 ≤ (v3 + 1).toNatClampNeg) (am_no ((v3 + 2) < 0 ∨ Xs.1 ≤ (v3 + 2).toNatClampNeg) (am_no ((v3 + 3) < 0 ∨ Xs.1 ≤ (v3 + 3).toNatClampNeg) ((zM_hold (Xs.2 ((v3 + 1).toNatClampNeg)) (Xs.2 ((v3 + 2).toNatClampNeg)) (Xs.2 ((v3 + 3).toNatClampNeg)) q.2).bind fun r90 => if r86.1 = r90.1 then (zW_law_L28 Xs n (v3 + 6) ((r86.2, r90.2))) else (some ((0, (r86.2, r90.2))))))))))) else if x3 = 12 then (am_no ((v3 + 1) < 0 ∨ Xs.1 ≤ (v3 + 1).toNatClampNeg) (am_no ((v3 + 2) < 0 ∨ Xs.1 ≤ (v3 + 2).toNatClampNeg) ((zH_held (Xs.2 ((v3 + 1).toNatClampNeg)) (Xs.2 ((v3 + 2).toNatClampNeg)) q.1).bind fun r95 => am_no ((v3 + 1) < 0 ∨ Xs.1 ≤ (v3 + 1).toNatClampNeg) (am_no ((v3 + 2) < 0 ∨ Xs.1 ≤ (v3 + 2).toNatClampNeg) ((zM_held (Xs.2 ((v3 + 1).toNatClampNeg)) (Xs.2 ((v3 + 2).toNatClampNeg)) q.2).bind fun r98 => if r95 = r98 then (zW_law_L28 Xs n (v3 + 6) q) else (some ((0, q)))))))) else if x3 = 13 then (am_no ((v3 + 1) < 0 ∨ Xs.1 ≤ (v3 + 1).toNatClampNeg) ((zH_judge (Xs.2 ((v3 + 1).toNatClampNeg)) q.1).bind fun r102 => am_no ((v3 + 1) < 0 ∨ Xs.1 ≤ (v3 + 1).toNatClampNeg) ((zM_judge (Xs.2 ((v3 + 1).toNatClampNeg)) q.2).bind fun r104 => if r102.1 = r104.1 then (zW_law_L28 Xs n (v3 + 6) ((r102.2, r104.2))) else (some ((0, (r102.2, r104.2))))))) else if x3 = 14 then ((zH_swaps q.1).bind fun r107 => (zM_swaps q.2).bind fun r108 => if r107 = r108 then (zW_law_L28 Xs n (v3 + 6) q) else (some ((0, q)))) else if x3 = 15 then (am_no ((v3 + 1) < 0 ∨ Xs.1 ≤ (v3 + 1).toNatClampNeg) ((zH_longest (Xs.2 ((v3 + 1).toNatClampNeg)) q.1).bind fun r112 => am_no ((v3 + 1) < 0 ∨ Xs.1 ≤ (v3 + 1).toNatClampNeg) ((zM_longest (Xs.2 ((v3 + 1).toNatClampNeg)) q.2).bind fun r114 => if r112 = r114 then (zW_law_L28 Xs n (v3 + 6) q) else (some ((0, q)))))) else if x3 = 16 then (am_no ((v3 + 1) < 0 ∨ Xs.1 ≤ (v3 + 1).toNatClampNeg) ((zH_fewest (Xs.2 ((v3 + 1).toNatClampNeg)) q.1).bind fun r118 => am_no ((v3 + 1) < 0 ∨ Xs.1 ≤ (v3 + 1).toNatClampNeg) ((zM_fewest (Xs.2 ((v3 + 1).toNatClampNeg)) q.2).bind fun r120 => if r118.1 = r120.1 then (zW_law_L28 Xs n (v3 + 6) ((r118.2, r120.2))) else (some ((0, (r118.2, r120.2))))))) else if x3 = 17 then (am_no ((v3 + 1) < 0 ∨ Xs.1 ≤ (v3 + 1).toNatClampNeg) (am_no ((v3 + 2) < 0 ∨ Xs.1 ≤ (v3 + 2).toNatClampNeg) (am_no ((v3 + 3) < 0 ∨ Xs.1 ≤ (v3 + 3).toNatClampNeg) ((zH_found (Xs.2 ((v3 + 1).toNatClampNeg)) (Xs.2 ((v3 + 2).toNatClampNeg)) (Xs.2 ((v3 + 3).toNatClampNeg)) q.1).bind fun r126 => am_no ((v3 + 1) < 0 ∨ Xs.1 ≤ (v3 + 1).toNatClampNeg) (am_no ((v3 + 2) < 0 ∨ Xs.1 ≤ (v3 + 2).toNatClampNeg) (am_no ((v3 + 3) < 0 ∨ Xs.1 ≤ (v3 + 3).toNatClampNeg) ((zM_found (Xs.2 ((v3 + 1).toNatClampNeg)) (Xs.2 ((v3 + 2).toNatClampNeg)) (Xs.2 ((v3 + 3).toNatClampNeg)) q.2).bind fun r130 => if r126.1 = r130.1 then (zW_law_L28 Xs n (v3 + 6) ((r126.2, r130.2))) else (some ((0, (r126.2, r130.2))))))))))) else if x3 = 18 then (am_no ((v3 + 1) < 0 ∨ Xs.1 ≤ (v3 + 1).toNatClampNeg) ((zH_take (Xs.2 ((v3 + 1).toNatClampNeg)) q.1).bind fun r134 => am_no ((v3 + 1) < 0 ∨ Xs.1 ≤ (v3 + 1).toNatClampNeg) ((zM_take (Xs.2 ((v3 + 1).toNatClampNeg)) q.2).bind fun r136 => if r134.1 = r136.1 then (zW_law_L28 Xs n (v3 + 6) ((r134.2, r136.2))) else (some ((0, (r134.2, r136.2))))))) else if x3 = 19 then ((zH_least q.1).bind fun r139 => (zM_least q.2).bind fun r140 => if r139.1 = r140.1 then (zW_law_L28 Xs n (v3 + 6) ((r139.2, r140.2))) else (some ((0, (r139.2, r140.2))))) else if x3 = 20 then (am_no ((v3 + 1) < 0 ∨ Xs.1 ≤ (v3 + 1).toNatClampNeg) (am_no ((v3 + 2) < 0 ∨ Xs.1 ≤ (v3 + 2).toNatClampNeg) ((zH_strike (Xs.2 ((v3 + 1).toNatClampNeg)) (Xs.2 ((v3 + 2).toNatClampNeg)) q.1).bind fun r145 => am_no ((v3 + 1) < 0 ∨ Xs.1 ≤ (v3 + 1).toNatClampNeg) (am_no ((v3 + 2) < 0 ∨ Xs.1 ≤ (v3 + 2).toNatClampNeg) ((zM_strike (Xs.2 ((v3 + 1).toNatClampNeg)) (Xs.2 ((v3 + 2).toNatClampNeg)) q.2).bind fun r148 => if r145.1 = r148.1 then (zW_law_L28 Xs n (v3 + 6) ((r145.2, r148.2))) else (some ((0, (r145.2, r148.2))))))))) else if x3 = 21 then (am_no ((v3 + 1) < 0 ∨ Xs.1 ≤ (v3 + 1).toNatClampNeg) (am_no ((v3 + 2) < 0 ∨ Xs.1 ≤ (v3 + 2).toNatClampNeg) ((zH_ill (Xs.2 ((v3 + 1).toNatClampNeg)) (Xs.2 ((v3 + 2).toNatClampNeg)) q.1).bind fun r153 => am_no ((v3 + 1) < 0 ∨ Xs.1 ≤ (v3 + 1).toNatClampNeg) (am_no ((v3 + 2) < 0 ∨ Xs.1 ≤ (v3 + 2).toNatClampNeg) ((zM_ill (Xs.2 ((v3 + 1).toNatClampNeg)) (Xs.2 ((v3 + 2).toNatClampNeg)) q.2).bind fun r156 => if r153.1 = r156.1 then (zW_law_L28 Xs n (v3 + 6) ((r153.2, r156.2))) else (some ((0, (r153.2, r156.2))))))))) else if x3 = 22 then (am_no ((v3 + 1) < 0 ∨ Xs.1 ≤ (v3 + 1).toNatClampNeg) ((zH_bound (Xs.2 ((v3 + 1).toNatClampNeg)) q.1).bind fun r160 => am_no ((v3 + 1) < 0 ∨ Xs.1 ≤ (v3 + 1).toNatClampNeg) ((zM_bound (Xs.2 ((v3 + 1).toNatClampNeg)) q.2).bind fun r162 => if r160.1 = r162.1 then (zW_law_L28 Xs n (v3 + 6) ((r160.2, r162.2))) else (some ((0, (r160.2, r162.2))))))) else if x3 = 23 then (am_no ((v3 + 1) < 0 ∨ Xs.1 ≤ (v3 + 1).toNatClampNeg) (am_no ((v3 + 2) < 0 ∨ Xs.1 ≤ (v3 + 2).toNatClampNeg) ((zH_sees (Xs.2 ((v3 + 1).toNatClampNeg)) (Xs.2 ((v3 + 2).toNatClampNeg)) q.1).bind fun r167 => am_no ((v3 + 1) < 0 ∨ Xs.1 ≤ (v3 + 1).toNatClampNeg) (am_no ((v3 + 2) < 0 ∨ Xs.1 ≤ (v3 + 2).toNatClampNeg) ((zM_sees (Xs.2 ((v3 + 1).toNatClampNeg)) (Xs.2 ((v3 + 2).toNatClampNeg)) q.2).bind fun r170 => if r167.1 = r170.1 then (zW_law_L28 Xs n (v3 + 6) ((r167.2, r170.2))) else (some ((0, (r167.2, r170.2))))))))) else if x3 = 24 then (am_b (zH_image q.1) fun r173 => (zM_image q.2).bind fun r174 => if r173.1 = r174.1 then (zW_law_L28 Xs n (v3 + 6) ((r173.2, r174.2))) else (some ((0, (r173.2, r174.2))))) else if x3 = 25 then ((zH_back q.1).bind fun r177 => (zM_back q.2).bind fun r178 => if r177.1 = r178.1 then (zW_law_L28 Xs n (v3 + 6) ((r177.2, r178.2))) else (some ((0, (r177.2, r178.2))))) else if x3 = 26 then (am_no ((v3 + 1) < 0 ∨ Xs.1 ≤ (v3 + 1).toNatClampNeg) ((zH_about (Xs.2 ((v3 + 1).toNatClampNeg)) q.1).bind fun r182 => am_no ((v3 + 1) < 0 ∨ Xs.1 ≤ (v3 + 1).toNatClampNeg) ((zM_about (Xs.2 ((v3 + 1).toNatClampNeg)) q.2).bind fun r184 => if r182 = r184 then (zW_law_L28 Xs n (v3 + 6) q) else (some ((0, q)))))) else (zW_law_L28 Xs n (v3 + 6) q)))
set_option maxRecDepth 20000 in
theorem ezW_law_L28 {d : Nat} (hd : 15 ≤ d) (R : Int32 × zHL) : ∀ (n : Nat) (v3 : Int32) (q : zHL), zW_law_L28 Xs n v3 q = some R → am_Rn 83 Xs am_P d 261 (28, [(0, .retAddr 1), (1, .ref 0), (2, .ref 83), (3, .int v3)], []) (am_sh, q.1, q.2.1, q.2.2) (some (.int R.1), (am_sh, R.2.1, R.2.2.1, R.2.2.2))
  | 0, _, _, hp => by cases hp
  | n + 1, v3, q, hp => by
    obtain ⟨d, rfl⟩ : ∃ k, d = k + 1 := ⟨d - 1, by omega⟩
    unfold zW_law_L28 at hp
    refine am_Rn.run am_h261 5 (F' := (34, [(0, .retAddr 1), (1, .ref 0), (2, .ref 83), (3, .int v3)], [.int ((Int32.ofNat Xs.1) - 6), .int v3])) (S' := (am_sh, q.1, q.2.1, q.2.2)) rfl ?_
    refine am_Rn.ite am_h261 (c := ((Int32.ofNat Xs.1) - 6) < v3) (t := 891) (f := 37) (lv := [(0, .retAddr 1), (1, .ref 0), (2, .ref 83), (3, .int v3)]) (st := []) (S' := (am_sh, q.1, q.2.1, q.2.2)) rfl hp (fun hc1 hp => ?_) (fun hc1 hp => ?_)
    · refine am_Rn.run am_h261 1 (F' := (892, [(0, .retAddr 1), (1, .ref 0), (2, .ref 83), (3, .int v3)], [.int 1])) (S' := (am_sh, q.1, q.2.1, q.2.2)) rfl ?_
      cases hp
      exact am_Rn.ret am_h261 rfl
    · refine am_Rn.run am_h261 2 (F' := (39, [(0, .retAddr 1), (1, .ref 0), (2, .ref 83), (3, .int v3)], [.int v3, .retAddr 1])) (S' := (am_sh, q.1, q.2.1, q.2.2)) rfl ?_
      obtain ⟨hn2, hp⟩ := am_no_e hp
      refine am_Rn.stepG am_h261 (c := v3 < 0 ∨ Xs.1 ≤ v3.toNatClampNeg) (F' := (40, [(0, .retAddr 1), (1, .ref 0), (2, .ref 83), (3, .int v3)], [.int (Xs.2 (v3.toNatClampNeg))])) (S' := (am_sh, q.1, q.2.1, q.2.2)) rfl hn2 ?_
      obtain ⟨x3, h_x3, hp⟩ := am_b_e hp
      refine am_Rn.run am_h261 2 (F' := (43, [(0, .retAddr 1), (1, .ref 0), (2, .ref 83), (3, .int v3)], [.int x3])) (S' := (am_sh, q.1, q.2.1, q.2.2)) (by subst h_x3; rfl) ?_
      refine am_Rn.step am_h261 (F' := (am_sw x3 0 885 [164, 197, 230, 263, 326, 349, 362, 385, 408, 431, 444, 477, 520, 553, 576, 589, 612, 635, 678, 701, 714, 747, 780, 803, 836, 849, 862], [(0, .retAddr 1), (1, .ref 0), (2, .ref 83), (3, .int v3)], [])) (S' := (am_sh, q.1, q.2.1, q.2.2)) rfl ?_
      refine am_ite hp (fun hc4 hp => ?_) (fun hc4 hp => ?_)
      · rw [show am_sw x3 0 885 [164, 197, 230, 263, 326, 349, 362, 385, 408, 431, 444, 477, 520, 553, 576, 589, 612, 635, 678, 701, 714, 747, 780, 803, 836, 849, 862] = 164 from by subst hc4; rfl]
        refine am_Rn.run am_h261 5 (F' := (169, [(0, .retAddr 1), (1, .ref 0), (2, .ref 83), (3, .int v3)], [.int (v3 + 1), .retAddr 1, .ref 0])) (S' := (am_sh, q.1, q.2.1, q.2.2)) rfl ?_
        obtain ⟨hn5, hp⟩ := am_no_e hp
        refine am_Rn.stepG am_h261 (c := (v3 + 1) < 0 ∨ Xs.1 ≤ (v3 + 1).toNatClampNeg) (F' := (170, [(0, .retAddr 1), (1, .ref 0), (2, .ref 83), (3, .int v3)], [.int (Xs.2 ((v3 + 1).toNatClampNeg)), .ref 0])) (S' := (am_sh, q.1, q.2.1, q.2.2)) rfl hn5 ?_
        refine am_Rn.run am_h261 4 (F' := (174, [(0, .retAddr 1), (1, .ref 0), (2, .ref 83), (3, .int v3)], [.int (v3 + 2), .retAddr 1, .int (Xs.2 ((v3 + 1).toNatClampNeg)), .ref 0])) (S' := (am_sh, q.1, q.2.1, q.2.2)) rfl ?_
        obtain ⟨hn6, hp⟩ := am_no_e hp
        refine am_Rn.stepG am_h261 (c := (v3 + 2) < 0 ∨ Xs.1 ≤ (v3 + 2).toNatClampNeg) (F' := (175, [(0, .retAddr 1), (1, .ref 0), (2, .ref 83), (3, .int v3)], [.int (Xs.2 ((v3 + 2).toNatClampNeg)), .int (Xs.2 ((v3 + 1).toNatClampNeg)), .ref 0])) (S' := (am_sh, q.1, q.2.1, q.2.2)) rfl hn6 ?_
        obtain ⟨r7, h_r7, hp⟩ := am_bind hp
        refine am_Rn.call am_h261 (mj := 108) (As := [.ref 0, .int (Xs.2 ((v3 + 1).toNatClampNeg)), .int (Xs.2 ((v3 + 2).toNatClampNeg))]) (F' := (178, [(0, .retAddr 1), (1, .ref 0), (2, .ref 83), (3, .int v3)], [])) (M' := am_m108) (r := some (.int r7.1)) (S1 := (am_sh, r7.2, q.2.1, q.2.2)) rfl am_h108 rfl (ezH_puppeteer (by omega) (Xs.2 ((v3 + 1).toNatClampNeg)) (Xs.2 ((v3 + 2).toNatClampNeg)) q.1 _ h_r7) ?_
        refine am_Rn.run am_h261 5 (F' := (183, [(0, .retAddr 1), (1, .ref 0), (2, .ref 83), (3, .int v3)], [.int (v3 + 1), .retAddr 1, .ref 83, .int r7.1])) (S' := (am_sh, r7.2, q.2.1, q.2.2)) rfl ?_
        obtain ⟨hn8, hp⟩ := am_no_e hp
        refine am_Rn.stepG am_h261 (c := (v3 + 1) < 0 ∨ Xs.1 ≤ (v3 + 1).toNatClampNeg) (F' := (184, [(0, .retAddr 1), (1, .ref 0), (2, .ref 83), (3, .int v3)], [.int (Xs.2 ((v3 + 1).toNatClampNeg)), .ref 83, .int r7.1])) (S' := (am_sh, r7.2, q.2.1, q.2.2)) rfl hn8 ?_
        refine am_Rn.run am_h261 4 (F' := (188, [(0, .retAddr 1), (1, .ref 0), (2, .ref 83), (3, .int v3)], [.int (v3 + 2), .retAddr 1, .int (Xs.2 ((v3 + 1).toNatClampNeg)), .ref 83, .int r7.1])) (S' := (am_sh, r7.2, q.2.1, q.2.2)) rfl ?_
        obtain ⟨hn9, hp⟩ := am_no_e hp
        refine am_Rn.stepG am_h261 (c := (v3 + 2) < 0 ∨ Xs.1 ≤ (v3 + 2).toNatClampNeg) (F' := (189, [(0, .retAddr 1), (1, .ref 0), (2, .ref 83), (3, .int v3)], [.int (Xs.2 ((v3 + 2).toNatClampNeg)), .int (Xs.2 ((v3 + 1).toNatClampNeg)), .ref 83, .int r7.1])) (S' := (am_sh, r7.2, q.2.1, q.2.2)) rfl hn9 ?_
        obtain ⟨r10, h_r10, hp⟩ := am_bind hp
        refine am_Rn.call am_h261 (mj := 162) (As := [.ref 83, .int (Xs.2 ((v3 + 1).toNatClampNeg)), .int (Xs.2 ((v3 + 2).toNatClampNeg))]) (F' := (192, [(0, .retAddr 1), (1, .ref 0), (2, .ref 83), (3, .int v3)], [.int r7.1])) (M' := am_m162) (r := some (.int r10.1)) (S1 := (am_sh, r7.2, r10.2.1, r10.2.2)) rfl am_h162 rfl (ezM_puppeteer (by omega) (Xs.2 ((v3 + 1).toNatClampNeg)) (Xs.2 ((v3 + 2).toNatClampNeg)) q.2 _ h_r10) ?_
        refine am_Rn.ite am_h261 (c := r7.1 = r10.1) (t := 885) (f := 195) (lv := [(0, .retAddr 1), (1, .ref 0), (2, .ref 83), (3, .int v3)]) (st := []) (S' := (am_sh, r7.2, r10.2.1, r10.2.2)) rfl hp (fun hc11 hp => ?_) (fun hc11 hp => ?_)
        · refine am_Rn.run am_h261 2 (F' := (28, [(3, .int (v3 + 6)), (0, .retAddr 1), (1, .ref 0), (2, .ref 83)], [])) (S' := (am_sh, r7.2, r10.2.1, r10.2.2)) rfl ?_
          refine am_Rn.sub [1, 2, 3, 0] rfl rfl ?_
          exact ezW_law_L28 hd R n (v3 + 6) ((r7.2, r10.2)) hp
        · refine am_Rn.run am_h261 1 (F' := (196, [(0, .retAddr 1), (1, .ref 0), (2, .ref 83), (3, .int v3)], [.int 0])) (S' := (am_sh, r7.2, r10.2.1, r10.2.2)) rfl ?_
          cases hp
          exact am_Rn.ret am_h261 rfl
      refine am_ite hp (fun hc12 hp => ?_) (fun hc12 hp => ?_)
      · rw [show am_sw x3 0 885 [164, 197, 230, 263, 326, 349, 362, 385, 408, 431, 444, 477, 520, 553, 576, 589, 612, 635, 678, 701, 714, 747, 780, 803, 836, 849, 862] = 197 from by subst hc12; rfl]
        refine am_Rn.run am_h261 5 (F' := (202, [(0, .retAddr 1), (1, .ref 0), (2, .ref 83), (3, .int v3)], [.int (v3 + 1), .retAddr 1, .ref 0])) (S' := (am_sh, q.1, q.2.1, q.2.2)) rfl ?_
        obtain ⟨hn13, hp⟩ := am_no_e hp
        refine am_Rn.stepG am_h261 (c := (v3 + 1) < 0 ∨ Xs.1 ≤ (v3 + 1).toNatClampNeg) (F' := (203, [(0, .retAddr 1), (1, .ref 0), (2, .ref 83), (3, .int v3)], [.int (Xs.2 ((v3 + 1).toNatClampNeg)), .ref 0])) (S' := (am_sh, q.1, q.2.1, q.2.2)) rfl hn13 ?_
        refine am_Rn.run am_h261 4 (F' := (207, [(0, .retAddr 1), (1, .ref 0), (2, .ref 83), (3, .int v3)], [.int (v3 + 2), .retAddr 1, .int (Xs.2 ((v3 + 1).toNatClampNeg)), .ref 0])) (S' := (am_sh, q.1, q.2.1, q.2.2)) rfl ?_
        obtain ⟨hn14, hp⟩ := am_no_e hp
        refine am_Rn.stepG am_h261 (c := (v3 + 2) < 0 ∨ Xs.1 ≤ (v3 + 2).toNatClampNeg) (F' := (208, [(0, .retAddr 1), (1, .ref 0), (2, .ref 83), (3, .int v3)], [.int (Xs.2 ((v3 + 2).toNatClampNeg)), .int (Xs.2 ((v3 + 1).toNatClampNeg)), .ref 0])) (S' := (am_sh, q.1, q.2.1, q.2.2)) rfl hn14 ?_
        obtain ⟨r15, h_r15, hp⟩ := am_bind hp
        refine am_Rn.call am_h261 (mj := 109) (As := [.ref 0, .int (Xs.2 ((v3 + 1).toNatClampNeg)), .int (Xs.2 ((v3 + 2).toNatClampNeg))]) (F' := (211, [(0, .retAddr 1), (1, .ref 0), (2, .ref 83), (3, .int v3)], [])) (M' := am_m109) (r := some (.int r15.1)) (S1 := (am_sh, r15.2, q.2.1, q.2.2)) rfl am_h109 rfl (ezH_figure (by omega) (Xs.2 ((v3 + 1).toNatClampNeg)) (Xs.2 ((v3 + 2).toNatClampNeg)) q.1 _ h_r15) ?_
        refine am_Rn.run am_h261 5 (F' := (216, [(0, .retAddr 1), (1, .ref 0), (2, .ref 83), (3, .int v3)], [.int (v3 + 1), .retAddr 1, .ref 83, .int r15.1])) (S' := (am_sh, r15.2, q.2.1, q.2.2)) rfl ?_
        obtain ⟨hn16, hp⟩ := am_no_e hp
        refine am_Rn.stepG am_h261 (c := (v3 + 1) < 0 ∨ Xs.1 ≤ (v3 + 1).toNatClampNeg) (F' := (217, [(0, .retAddr 1), (1, .ref 0), (2, .ref 83), (3, .int v3)], [.int (Xs.2 ((v3 + 1).toNatClampNeg)), .ref 83, .int r15.1])) (S' := (am_sh, r15.2, q.2.1, q.2.2)) rfl hn16 ?_
        refine am_Rn.run am_h261 4 (F' := (221, [(0, .retAddr 1), (1, .ref 0), (2, .ref 83), (3, .int v3)], [.int (v3 + 2), .retAddr 1, .int (Xs.2 ((v3 + 1).toNatClampNeg)), .ref 83, .int r15.1])) (S' := (am_sh, r15.2, q.2.1, q.2.2)) rfl ?_
        obtain ⟨hn17, hp⟩ := am_no_e hp
        refine am_Rn.stepG am_h261 (c := (v3 + 2) < 0 ∨ Xs.1 ≤ (v3 + 2).toNatClampNeg) (F' := (222, [(0, .retAddr 1), (1, .ref 0), (2, .ref 83), (3, .int v3)], [.int (Xs.2 ((v3 + 2).toNatClampNeg)), .int (Xs.2 ((v3 + 1).toNatClampNeg)), .ref 83, .int r15.1])) (S' := (am_sh, r15.2, q.2.1, q.2.2)) rfl hn17 ?_
        obtain ⟨r18, h_r18, hp⟩ := am_bind hp
        refine am_Rn.call am_h261 (mj := 163) (As := [.ref 83, .int (Xs.2 ((v3 + 1).toNatClampNeg)), .int (Xs.2 ((v3 + 2).toNatClampNeg))]) (F' := (225, [(0, .retAddr 1), (1, .ref 0), (2, .ref 83), (3, .int v3)], [.int r15.1])) (M' := am_m163) (r := some (.int r18.1)) (S1 := (am_sh, r15.2, r18.2.1, r18.2.2)) rfl am_h163 rfl (ezM_figure (by omega) (Xs.2 ((v3 + 1).toNatClampNeg)) (Xs.2 ((v3 + 2).toNatClampNeg)) q.2 _ h_r18) ?_
        refine am_Rn.ite am_h261 (c := r15.1 = r18.1) (t := 885) (f := 228) (lv := [(0, .retAddr 1), (1, .ref 0), (2, .ref 83), (3, .int v3)]) (st := []) (S' := (am_sh, r15.2, r18.2.1, r18.2.2)) rfl hp (fun hc19 hp => ?_) (fun hc19 hp => ?_)
        · refine am_Rn.run am_h261 2 (F' := (28, [(3, .int (v3 + 6)), (0, .retAddr 1), (1, .ref 0), (2, .ref 83)], [])) (S' := (am_sh, r15.2, r18.2.1, r18.2.2)) rfl ?_
          refine am_Rn.sub [1, 2, 3, 0] rfl rfl ?_
          exact ezW_law_L28 hd R n (v3 + 6) ((r15.2, r18.2)) hp
        · refine am_Rn.run am_h261 1 (F' := (229, [(0, .retAddr 1), (1, .ref 0), (2, .ref 83), (3, .int v3)], [.int 0])) (S' := (am_sh, r15.2, r18.2.1, r18.2.2)) rfl ?_
          cases hp
          exact am_Rn.ret am_h261 rfl
      refine am_ite hp (fun hc20 hp => ?_) (fun hc20 hp => ?_)
      · rw [show am_sw x3 0 885 [164, 197, 230, 263, 326, 349, 362, 385, 408, 431, 444, 477, 520, 553, 576, 589, 612, 635, 678, 701, 714, 747, 780, 803, 836, 849, 862] = 230 from by subst hc20; rfl]
        refine am_Rn.run am_h261 5 (F' := (235, [(0, .retAddr 1), (1, .ref 0), (2, .ref 83), (3, .int v3)], [.int (v3 + 1), .retAddr 1, .ref 0])) (S' := (am_sh, q.1, q.2.1, q.2.2)) rfl ?_
        obtain ⟨hn21, hp⟩ := am_no_e hp
        refine am_Rn.stepG am_h261 (c := (v3 + 1) < 0 ∨ Xs.1 ≤ (v3 + 1).toNatClampNeg) (F' := (236, [(0, .retAddr 1), (1, .ref 0), (2, .ref 83), (3, .int v3)], [.int (Xs.2 ((v3 + 1).toNatClampNeg)), .ref 0])) (S' := (am_sh, q.1, q.2.1, q.2.2)) rfl hn21 ?_
        refine am_Rn.run am_h261 4 (F' := (240, [(0, .retAddr 1), (1, .ref 0), (2, .ref 83), (3, .int v3)], [.int (v3 + 2), .retAddr 1, .int (Xs.2 ((v3 + 1).toNatClampNeg)), .ref 0])) (S' := (am_sh, q.1, q.2.1, q.2.2)) rfl ?_
        obtain ⟨hn22, hp⟩ := am_no_e hp
        refine am_Rn.stepG am_h261 (c := (v3 + 2) < 0 ∨ Xs.1 ≤ (v3 + 2).toNatClampNeg) (F' := (241, [(0, .retAddr 1), (1, .ref 0), (2, .ref 83), (3, .int v3)], [.int (Xs.2 ((v3 + 2).toNatClampNeg)), .int (Xs.2 ((v3 + 1).toNatClampNeg)), .ref 0])) (S' := (am_sh, q.1, q.2.1, q.2.2)) rfl hn22 ?_
        obtain ⟨r23, h_r23, hp⟩ := am_bind hp
        refine am_Rn.call am_h261 (mj := 110) (As := [.ref 0, .int (Xs.2 ((v3 + 1).toNatClampNeg)), .int (Xs.2 ((v3 + 2).toNatClampNeg))]) (F' := (244, [(0, .retAddr 1), (1, .ref 0), (2, .ref 83), (3, .int v3)], [])) (M' := am_m110) (r := some (.int r23.1)) (S1 := (am_sh, r23.2, q.2.1, q.2.2)) rfl am_h110 rfl (ezH_rules (by omega) (Xs.2 ((v3 + 1).toNatClampNeg)) (Xs.2 ((v3 + 2).toNatClampNeg)) q.1 _ h_r23) ?_
        refine am_Rn.run am_h261 5 (F' := (249, [(0, .retAddr 1), (1, .ref 0), (2, .ref 83), (3, .int v3)], [.int (v3 + 1), .retAddr 1, .ref 83, .int r23.1])) (S' := (am_sh, r23.2, q.2.1, q.2.2)) rfl ?_
        obtain ⟨hn24, hp⟩ := am_no_e hp
        refine am_Rn.stepG am_h261 (c := (v3 + 1) < 0 ∨ Xs.1 ≤ (v3 + 1).toNatClampNeg) (F' := (250, [(0, .retAddr 1), (1, .ref 0), (2, .ref 83), (3, .int v3)], [.int (Xs.2 ((v3 + 1).toNatClampNeg)), .ref 83, .int r23.1])) (S' := (am_sh, r23.2, q.2.1, q.2.2)) rfl hn24 ?_
        refine am_Rn.run am_h261 4 (F' := (254, [(0, .retAddr 1), (1, .ref 0), (2, .ref 83), (3, .int v3)], [.int (v3 + 2), .retAddr 1, .int (Xs.2 ((v3 + 1).toNatClampNeg)), .ref 83, .int r23.1])) (S' := (am_sh, r23.2, q.2.1, q.2.2)) rfl ?_
        obtain ⟨hn25, hp⟩ := am_no_e hp
        refine am_Rn.stepG am_h261 (c := (v3 + 2) < 0 ∨ Xs.1 ≤ (v3 + 2).toNatClampNeg) (F' := (255, [(0, .retAddr 1), (1, .ref 0), (2, .ref 83), (3, .int v3)], [.int (Xs.2 ((v3 + 2).toNatClampNeg)), .int (Xs.2 ((v3 + 1).toNatClampNeg)), .ref 83, .int r23.1])) (S' := (am_sh, r23.2, q.2.1, q.2.2)) rfl hn25 ?_
        obtain ⟨r26, h_r26, hp⟩ := am_b_e hp
        refine am_Rn.call am_h261 (mj := 164) (As := [.ref 83, .int (Xs.2 ((v3 + 1).toNatClampNeg)), .int (Xs.2 ((v3 + 2).toNatClampNeg))]) (F' := (258, [(0, .retAddr 1), (1, .ref 0), (2, .ref 83), (3, .int v3)], [.int r23.1])) (M' := am_m164) (r := some (.int r26.1)) (S1 := (am_sh, r23.2, r26.2.1, r26.2.2)) rfl am_h164 rfl (by subst h_r26; exact (ezM_rules (by omega) (Xs.2 ((v3 + 1).toNatClampNeg)) (Xs.2 ((v3 + 2).toNatClampNeg)) q.2)) ?_
        refine am_Rn.ite am_h261 (c := r23.1 = r26.1) (t := 885) (f := 261) (lv := [(0, .retAddr 1), (1, .ref 0), (2, .ref 83), (3, .int v3)]) (st := []) (S' := (am_sh, r23.2, r26.2.1, r26.2.2)) rfl hp (fun hc27 hp => ?_) (fun hc27 hp => ?_)
        · refine am_Rn.run am_h261 2 (F' := (28, [(3, .int (v3 + 6)), (0, .retAddr 1), (1, .ref 0), (2, .ref 83)], [])) (S' := (am_sh, r23.2, r26.2.1, r26.2.2)) rfl ?_
          refine am_Rn.sub [1, 2, 3, 0] rfl rfl ?_
          exact ezW_law_L28 hd R n (v3 + 6) ((r23.2, r26.2)) hp
        · refine am_Rn.run am_h261 1 (F' := (262, [(0, .retAddr 1), (1, .ref 0), (2, .ref 83), (3, .int v3)], [.int 0])) (S' := (am_sh, r23.2, r26.2.1, r26.2.2)) rfl ?_
          cases hp
          exact am_Rn.ret am_h261 rfl
      refine am_ite hp (fun hc28 hp => ?_) (fun hc28 hp => ?_)
      · rw [show am_sw x3 0 885 [164, 197, 230, 263, 326, 349, 362, 385, 408, 431, 444, 477, 520, 553, 576, 589, 612, 635, 678, 701, 714, 747, 780, 803, 836, 849, 862] = 263 from by subst hc28; rfl]
        refine am_Rn.run am_h261 5 (F' := (268, [(0, .retAddr 1), (1, .ref 0), (2, .ref 83), (3, .int v3)], [.int (v3 + 1), .retAddr 1, .ref 0])) (S' := (am_sh, q.1, q.2.1, q.2.2)) rfl ?_
        obtain ⟨hn29, hp⟩ := am_no_e hp
        refine am_Rn.stepG am_h261 (c := (v3 + 1) < 0 ∨ Xs.1 ≤ (v3 + 1).toNatClampNeg) (F' := (269, [(0, .retAddr 1), (1, .ref 0), (2, .ref 83), (3, .int v3)], [.int (Xs.2 ((v3 + 1).toNatClampNeg)), .ref 0])) (S' := (am_sh, q.1, q.2.1, q.2.2)) rfl hn29 ?_
        refine am_Rn.run am_h261 4 (F' := (273, [(0, .retAddr 1), (1, .ref 0), (2, .ref 83), (3, .int v3)], [.int (v3 + 2), .retAddr 1, .int (Xs.2 ((v3 + 1).toNatClampNeg)), .ref 0])) (S' := (am_sh, q.1, q.2.1, q.2.2)) rfl ?_
        obtain ⟨hn30, hp⟩ := am_no_e hp
        refine am_Rn.stepG am_h261 (c := (v3 + 2) < 0 ∨ Xs.1 ≤ (v3 + 2).toNatClampNeg) (F' := (274, [(0, .retAddr 1), (1, .ref 0), (2, .ref 83), (3, .int v3)], [.int (Xs.2 ((v3 + 2).toNatClampNeg)), .int (Xs.2 ((v3 + 1).toNatClampNeg)), .ref 0])) (S' := (am_sh, q.1, q.2.1, q.2.2)) rfl hn30 ?_
        refine am_Rn.run am_h261 4 (F' := (278, [(0, .retAddr 1), (1, .ref 0), (2, .ref 83), (3, .int v3)], [.int (v3 + 3), .retAddr 1, .int (Xs.2 ((v3 + 2).toNatClampNeg)), .int (Xs.2 ((v3 + 1).toNatClampNeg)), .ref 0])) (S' := (am_sh, q.1, q.2.1, q.2.2)) rfl ?_
        obtain ⟨hn31, hp⟩ := am_no_e hp
        refine am_Rn.stepG am_h261 (c := (v3 + 3) < 0 ∨ Xs.1 ≤ (v3 + 3).toNatClampNeg) (F' := (279, [(0, .retAddr 1), (1, .ref 0), (2, .ref 83), (3, .int v3)], [.int (Xs.2 ((v3 + 3).toNatClampNeg)), .int (Xs.2 ((v3 + 2).toNatClampNeg)), .int (Xs.2 ((v3 + 1).toNatClampNeg)), .ref 0])) (S' := (am_sh, q.1, q.2.1, q.2.2)) rfl hn31 ?_
        refine am_Rn.run am_h261 4 (F' := (283, [(0, .retAddr 1), (1, .ref 0), (2, .ref 83), (3, .int v3)], [.int (v3 + 4), .retAddr 1, .int (Xs.2 ((v3 + 3).toNatClampNeg)), .int (Xs.2 ((v3 + 2).toNatClampNeg)), .int (Xs.2 ((v3 + 1).toNatClampNeg)), .ref 0])) (S' := (am_sh, q.1, q.2.1, q.2.2)) rfl ?_
        obtain ⟨hn32, hp⟩ := am_no_e hp
        refine am_Rn.stepG am_h261 (c := (v3 + 4) < 0 ∨ Xs.1 ≤ (v3 + 4).toNatClampNeg) (F' := (284, [(0, .retAddr 1), (1, .ref 0), (2, .ref 83), (3, .int v3)], [.int (Xs.2 ((v3 + 4).toNatClampNeg)), .int (Xs.2 ((v3 + 3).toNatClampNeg)), .int (Xs.2 ((v3 + 2).toNatClampNeg)), .int (Xs.2 ((v3 + 1).toNatClampNeg)), .ref 0])) (S' := (am_sh, q.1, q.2.1, q.2.2)) rfl hn32 ?_
        refine am_Rn.run am_h261 4 (F' := (288, [(0, .retAddr 1), (1, .ref 0), (2, .ref 83), (3, .int v3)], [.int (v3 + 5), .retAddr 1, .int (Xs.2 ((v3 + 4).toNatClampNeg)), .int (Xs.2 ((v3 + 3).toNatClampNeg)), .int (Xs.2 ((v3 + 2).toNatClampNeg)), .int (Xs.2 ((v3 + 1).toNatClampNeg)), .ref 0])) (S' := (am_sh, q.1, q.2.1, q.2.2)) rfl ?_
        obtain ⟨hn33, hp⟩ := am_no_e hp
        refine am_Rn.stepG am_h261 (c := (v3 + 5) < 0 ∨ Xs.1 ≤ (v3 + 5).toNatClampNeg) (F' := (289, [(0, .retAddr 1), (1, .ref 0), (2, .ref 83), (3, .int v3)], [.int (Xs.2 ((v3 + 5).toNatClampNeg)), .int (Xs.2 ((v3 + 4).toNatClampNeg)), .int (Xs.2 ((v3 + 3).toNatClampNeg)), .int (Xs.2 ((v3 + 2).toNatClampNeg)), .int (Xs.2 ((v3 + 1).toNatClampNeg)), .ref 0])) (S' := (am_sh, q.1, q.2.1, q.2.2)) rfl hn33 ?_
        obtain ⟨r34, h_r34, hp⟩ := am_bind hp
        refine am_Rn.call am_h261 (mj := 111) (As := [.ref 0, .int (Xs.2 ((v3 + 1).toNatClampNeg)), .int (Xs.2 ((v3 + 2).toNatClampNeg)), .int (Xs.2 ((v3 + 3).toNatClampNeg)), .int (Xs.2 ((v3 + 4).toNatClampNeg)), .int (Xs.2 ((v3 + 5).toNatClampNeg))]) (F' := (292, [(0, .retAddr 1), (1, .ref 0), (2, .ref 83), (3, .int v3)], [])) (M' := am_m111) (r := some (.int r34.1)) (S1 := (am_sh, r34.2, q.2.1, q.2.2)) rfl am_h111 rfl (ezH_feed (by omega) (Xs.2 ((v3 + 1).toNatClampNeg)) (Xs.2 ((v3 + 2).toNatClampNeg)) (Xs.2 ((v3 + 3).toNatClampNeg)) (Xs.2 ((v3 + 4).toNatClampNeg)) (Xs.2 ((v3 + 5).toNatClampNeg)) q.1 _ h_r34) ?_
        refine am_Rn.run am_h261 5 (F' := (297, [(0, .retAddr 1), (1, .ref 0), (2, .ref 83), (3, .int v3)], [.int (v3 + 1), .retAddr 1, .ref 83, .int r34.1])) (S' := (am_sh, r34.2, q.2.1, q.2.2)) rfl ?_
        obtain ⟨hn35, hp⟩ := am_no_e hp
        refine am_Rn.stepG am_h261 (c := (v3 + 1) < 0 ∨ Xs.1 ≤ (v3 + 1).toNatClampNeg) (F' := (298, [(0, .retAddr 1), (1, .ref 0), (2, .ref 83), (3, .int v3)], [.int (Xs.2 ((v3 + 1).toNatClampNeg)), .ref 83, .int r34.1])) (S' := (am_sh, r34.2, q.2.1, q.2.2)) rfl hn35 ?_
        refine am_Rn.run am_h261 4 (F' := (302, [(0, .retAddr 1), (1, .ref 0), (2, .ref 83), (3, .int v3)], [.int (v3 + 2), .retAddr 1, .int (Xs.2 ((v3 + 1).toNatClampNeg)), .ref 83, .int r34.1])) (S' := (am_sh, r34.2, q.2.1, q.2.2)) rfl ?_
        obtain ⟨hn36, hp⟩ := am_no_e hp
        refine am_Rn.stepG am_h261 (c := (v3 + 2) < 0 ∨ Xs.1 ≤ (v3 + 2).toNatClampNeg) (F' := (303, [(0, .retAddr 1), (1, .ref 0), (2, .ref 83), (3, .int v3)], [.int (Xs.2 ((v3 + 2).toNatClampNeg)), .int (Xs.2 ((v3 + 1).toNatClampNeg)), .ref 83, .int r34.1])) (S' := (am_sh, r34.2, q.2.1, q.2.2)) rfl hn36 ?_
        refine am_Rn.run am_h261 4 (F' := (307, [(0, .retAddr 1), (1, .ref 0), (2, .ref 83), (3, .int v3)], [.int (v3 + 3), .retAddr 1, .int (Xs.2 ((v3 + 2).toNatClampNeg)), .int (Xs.2 ((v3 + 1).toNatClampNeg)), .ref 83, .int r34.1])) (S' := (am_sh, r34.2, q.2.1, q.2.2)) rfl ?_
        obtain ⟨hn37, hp⟩ := am_no_e hp
        refine am_Rn.stepG am_h261 (c := (v3 + 3) < 0 ∨ Xs.1 ≤ (v3 + 3).toNatClampNeg) (F' := (308, [(0, .retAddr 1), (1, .ref 0), (2, .ref 83), (3, .int v3)], [.int (Xs.2 ((v3 + 3).toNatClampNeg)), .int (Xs.2 ((v3 + 2).toNatClampNeg)), .int (Xs.2 ((v3 + 1).toNatClampNeg)), .ref 83, .int r34.1])) (S' := (am_sh, r34.2, q.2.1, q.2.2)) rfl hn37 ?_
        refine am_Rn.run am_h261 4 (F' := (312, [(0, .retAddr 1), (1, .ref 0), (2, .ref 83), (3, .int v3)], [.int (v3 + 4), .retAddr 1, .int (Xs.2 ((v3 + 3).toNatClampNeg)), .int (Xs.2 ((v3 + 2).toNatClampNeg)), .int (Xs.2 ((v3 + 1).toNatClampNeg)), .ref 83, .int r34.1])) (S' := (am_sh, r34.2, q.2.1, q.2.2)) rfl ?_
        obtain ⟨hn38, hp⟩ := am_no_e hp
        refine am_Rn.stepG am_h261 (c := (v3 + 4) < 0 ∨ Xs.1 ≤ (v3 + 4).toNatClampNeg) (F' := (313, [(0, .retAddr 1), (1, .ref 0), (2, .ref 83), (3, .int v3)], [.int (Xs.2 ((v3 + 4).toNatClampNeg)), .int (Xs.2 ((v3 + 3).toNatClampNeg)), .int (Xs.2 ((v3 + 2).toNatClampNeg)), .int (Xs.2 ((v3 + 1).toNatClampNeg)), .ref 83, .int r34.1])) (S' := (am_sh, r34.2, q.2.1, q.2.2)) rfl hn38 ?_
        refine am_Rn.run am_h261 4 (F' := (317, [(0, .retAddr 1), (1, .ref 0), (2, .ref 83), (3, .int v3)], [.int (v3 + 5), .retAddr 1, .int (Xs.2 ((v3 + 4).toNatClampNeg)), .int (Xs.2 ((v3 + 3).toNatClampNeg)), .int (Xs.2 ((v3 + 2).toNatClampNeg)), .int (Xs.2 ((v3 + 1).toNatClampNeg)), .ref 83, .int r34.1])) (S' := (am_sh, r34.2, q.2.1, q.2.2)) rfl ?_
        obtain ⟨hn39, hp⟩ := am_no_e hp
        refine am_Rn.stepG am_h261 (c := (v3 + 5) < 0 ∨ Xs.1 ≤ (v3 + 5).toNatClampNeg) (F' := (318, [(0, .retAddr 1), (1, .ref 0), (2, .ref 83), (3, .int v3)], [.int (Xs.2 ((v3 + 5).toNatClampNeg)), .int (Xs.2 ((v3 + 4).toNatClampNeg)), .int (Xs.2 ((v3 + 3).toNatClampNeg)), .int (Xs.2 ((v3 + 2).toNatClampNeg)), .int (Xs.2 ((v3 + 1).toNatClampNeg)), .ref 83, .int r34.1])) (S' := (am_sh, r34.2, q.2.1, q.2.2)) rfl hn39 ?_
        obtain ⟨r40, h_r40, hp⟩ := am_bind hp
        refine am_Rn.call am_h261 (mj := 166) (As := [.ref 83, .int (Xs.2 ((v3 + 1).toNatClampNeg)), .int (Xs.2 ((v3 + 2).toNatClampNeg)), .int (Xs.2 ((v3 + 3).toNatClampNeg)), .int (Xs.2 ((v3 + 4).toNatClampNeg)), .int (Xs.2 ((v3 + 5).toNatClampNeg))]) (F' := (321, [(0, .retAddr 1), (1, .ref 0), (2, .ref 83), (3, .int v3)], [.int r34.1])) (M' := am_m166) (r := some (.int r40.1)) (S1 := (am_sh, r34.2, r40.2.1, r40.2.2)) rfl am_h166 rfl (ezM_feed (by omega) (Xs.2 ((v3 + 1).toNatClampNeg)) (Xs.2 ((v3 + 2).toNatClampNeg)) (Xs.2 ((v3 + 3).toNatClampNeg)) (Xs.2 ((v3 + 4).toNatClampNeg)) (Xs.2 ((v3 + 5).toNatClampNeg)) q.2 _ h_r40) ?_
        refine am_Rn.ite am_h261 (c := r34.1 = r40.1) (t := 885) (f := 324) (lv := [(0, .retAddr 1), (1, .ref 0), (2, .ref 83), (3, .int v3)]) (st := []) (S' := (am_sh, r34.2, r40.2.1, r40.2.2)) rfl hp (fun hc41 hp => ?_) (fun hc41 hp => ?_)
        · refine am_Rn.run am_h261 2 (F' := (28, [(3, .int (v3 + 6)), (0, .retAddr 1), (1, .ref 0), (2, .ref 83)], [])) (S' := (am_sh, r34.2, r40.2.1, r40.2.2)) rfl ?_
          refine am_Rn.sub [1, 2, 3, 0] rfl rfl ?_
          exact ezW_law_L28 hd R n (v3 + 6) ((r34.2, r40.2)) hp
        · refine am_Rn.run am_h261 1 (F' := (325, [(0, .retAddr 1), (1, .ref 0), (2, .ref 83), (3, .int v3)], [.int 0])) (S' := (am_sh, r34.2, r40.2.1, r40.2.2)) rfl ?_
          cases hp
          exact am_Rn.ret am_h261 rfl
      refine am_ite hp (fun hc42 hp => ?_) (fun hc42 hp => ?_)
      · rw [show am_sw x3 0 885 [164, 197, 230, 263, 326, 349, 362, 385, 408, 431, 444, 477, 520, 553, 576, 589, 612, 635, 678, 701, 714, 747, 780, 803, 836, 849, 862] = 326 from by subst hc42; rfl]
        refine am_Rn.run am_h261 5 (F' := (331, [(0, .retAddr 1), (1, .ref 0), (2, .ref 83), (3, .int v3)], [.int (v3 + 1), .retAddr 1, .ref 0])) (S' := (am_sh, q.1, q.2.1, q.2.2)) rfl ?_
        obtain ⟨hn43, hp⟩ := am_no_e hp
        refine am_Rn.stepG am_h261 (c := (v3 + 1) < 0 ∨ Xs.1 ≤ (v3 + 1).toNatClampNeg) (F' := (332, [(0, .retAddr 1), (1, .ref 0), (2, .ref 83), (3, .int v3)], [.int (Xs.2 ((v3 + 1).toNatClampNeg)), .ref 0])) (S' := (am_sh, q.1, q.2.1, q.2.2)) rfl hn43 ?_
        obtain ⟨r44, h_r44, hp⟩ := am_b_e hp
        refine am_Rn.call am_h261 (mj := 112) (As := [.ref 0, .int (Xs.2 ((v3 + 1).toNatClampNeg))]) (F' := (335, [(0, .retAddr 1), (1, .ref 0), (2, .ref 83), (3, .int v3)], [])) (M' := am_m112) (r := some (.int r44.1)) (S1 := (am_sh, r44.2, q.2.1, q.2.2)) rfl am_h112 rfl (by subst h_r44; exact (ezH_end (by omega) (Xs.2 ((v3 + 1).toNatClampNeg)) q.1)) ?_
        refine am_Rn.run am_h261 5 (F' := (340, [(0, .retAddr 1), (1, .ref 0), (2, .ref 83), (3, .int v3)], [.int (v3 + 1), .retAddr 1, .ref 83, .int r44.1])) (S' := (am_sh, r44.2, q.2.1, q.2.2)) rfl ?_
        obtain ⟨hn45, hp⟩ := am_no_e hp
        refine am_Rn.stepG am_h261 (c := (v3 + 1) < 0 ∨ Xs.1 ≤ (v3 + 1).toNatClampNeg) (F' := (341, [(0, .retAddr 1), (1, .ref 0), (2, .ref 83), (3, .int v3)], [.int (Xs.2 ((v3 + 1).toNatClampNeg)), .ref 83, .int r44.1])) (S' := (am_sh, r44.2, q.2.1, q.2.2)) rfl hn45 ?_
        obtain ⟨r46, h_r46, hp⟩ := am_b_e hp
        refine am_Rn.call am_h261 (mj := 167) (As := [.ref 83, .int (Xs.2 ((v3 + 1).toNatClampNeg))]) (F' := (344, [(0, .retAddr 1), (1, .ref 0), (2, .ref 83), (3, .int v3)], [.int r44.1])) (M' := am_m167) (r := some (.int r46.1)) (S1 := (am_sh, r44.2, r46.2.1, r46.2.2)) rfl am_h167 rfl (by subst h_r46; exact (ezM_end (by omega) (Xs.2 ((v3 + 1).toNatClampNeg)) q.2)) ?_
        refine am_Rn.ite am_h261 (c := r44.1 = r46.1) (t := 885) (f := 347) (lv := [(0, .retAddr 1), (1, .ref 0), (2, .ref 83), (3, .int v3)]) (st := []) (S' := (am_sh, r44.2, r46.2.1, r46.2.2)) rfl hp (fun hc47 hp => ?_) (fun hc47 hp => ?_)
        · refine am_Rn.run am_h261 2 (F' := (28, [(3, .int (v3 + 6)), (0, .retAddr 1), (1, .ref 0), (2, .ref 83)], [])) (S' := (am_sh, r44.2, r46.2.1, r46.2.2)) rfl ?_
          refine am_Rn.sub [1, 2, 3, 0] rfl rfl ?_
          exact ezW_law_L28 hd R n (v3 + 6) ((r44.2, r46.2)) hp
        · refine am_Rn.run am_h261 1 (F' := (348, [(0, .retAddr 1), (1, .ref 0), (2, .ref 83), (3, .int v3)], [.int 0])) (S' := (am_sh, r44.2, r46.2.1, r46.2.2)) rfl ?_
          cases hp
          exact am_Rn.ret am_h261 rfl
      refine am_ite hp (fun hc48 hp => ?_) (fun hc48 hp => ?_)
      · rw [show am_sw x3 0 885 [164, 197, 230, 263, 326, 349, 362, 385, 408, 431, 444, 477, 520, 553, 576, 589, 612, 635, 678, 701, 714, 747, 780, 803, 836, 849, 862] = 349 from by subst hc48; rfl]
        refine am_Rn.run am_h261 1 (F' := (350, [(0, .retAddr 1), (1, .ref 0), (2, .ref 83), (3, .int v3)], [.ref 0])) (S' := (am_sh, q.1, q.2.1, q.2.2)) rfl ?_
        obtain ⟨r49, h_r49, hp⟩ := am_bind hp
        refine am_Rn.call am_h261 (mj := 113) (As := [.ref 0]) (F' := (353, [(0, .retAddr 1), (1, .ref 0), (2, .ref 83), (3, .int v3)], [])) (M' := am_m113) (r := some (.int r49.1)) (S1 := (am_sh, r49.2, q.2.1, q.2.2)) rfl am_h113 rfl (ezH_text (by omega) q.1 _ h_r49) ?_
        refine am_Rn.run am_h261 1 (F' := (354, [(0, .retAddr 1), (1, .ref 0), (2, .ref 83), (3, .int v3)], [.ref 83, .int r49.1])) (S' := (am_sh, r49.2, q.2.1, q.2.2)) rfl ?_
        obtain ⟨r50, h_r50, hp⟩ := am_bind hp
        refine am_Rn.call am_h261 (mj := 196) (As := [.ref 83]) (F' := (357, [(0, .retAddr 1), (1, .ref 0), (2, .ref 83), (3, .int v3)], [.int r49.1])) (M' := am_m196) (r := some (.int r50.1)) (S1 := (am_sh, r49.2, r50.2.1, r50.2.2)) rfl am_h196 rfl (ezM_text (by omega) q.2 _ h_r50) ?_
        refine am_Rn.ite am_h261 (c := r49.1 = r50.1) (t := 885) (f := 360) (lv := [(0, .retAddr 1), (1, .ref 0), (2, .ref 83), (3, .int v3)]) (st := []) (S' := (am_sh, r49.2, r50.2.1, r50.2.2)) rfl hp (fun hc51 hp => ?_) (fun hc51 hp => ?_)
        · refine am_Rn.run am_h261 2 (F' := (28, [(3, .int (v3 + 6)), (0, .retAddr 1), (1, .ref 0), (2, .ref 83)], [])) (S' := (am_sh, r49.2, r50.2.1, r50.2.2)) rfl ?_
          refine am_Rn.sub [1, 2, 3, 0] rfl rfl ?_
          exact ezW_law_L28 hd R n (v3 + 6) ((r49.2, r50.2)) hp
        · refine am_Rn.run am_h261 1 (F' := (361, [(0, .retAddr 1), (1, .ref 0), (2, .ref 83), (3, .int v3)], [.int 0])) (S' := (am_sh, r49.2, r50.2.1, r50.2.2)) rfl ?_
          cases hp
          exact am_Rn.ret am_h261 rfl
      refine am_ite hp (fun hc52 hp => ?_) (fun hc52 hp => ?_)
      · rw [show am_sw x3 0 885 [164, 197, 230, 263, 326, 349, 362, 385, 408, 431, 444, 477, 520, 553, 576, 589, 612, 635, 678, 701, 714, 747, 780, 803, 836, 849, 862] = 362 from by subst hc52; rfl]
        refine am_Rn.run am_h261 5 (F' := (367, [(0, .retAddr 1), (1, .ref 0), (2, .ref 83), (3, .int v3)], [.int (v3 + 1), .retAddr 1, .ref 0])) (S' := (am_sh, q.1, q.2.1, q.2.2)) rfl ?_
        obtain ⟨hn53, hp⟩ := am_no_e hp
        refine am_Rn.stepG am_h261 (c := (v3 + 1) < 0 ∨ Xs.1 ≤ (v3 + 1).toNatClampNeg) (F' := (368, [(0, .retAddr 1), (1, .ref 0), (2, .ref 83), (3, .int v3)], [.int (Xs.2 ((v3 + 1).toNatClampNeg)), .ref 0])) (S' := (am_sh, q.1, q.2.1, q.2.2)) rfl hn53 ?_
        obtain ⟨r54, h_r54, hp⟩ := am_b_e hp
        refine am_Rn.call am_h261 (mj := 114) (As := [.ref 0, .int (Xs.2 ((v3 + 1).toNatClampNeg))]) (F' := (371, [(0, .retAddr 1), (1, .ref 0), (2, .ref 83), (3, .int v3)], [])) (M' := am_m114) (r := some (.int r54)) (S1 := (am_sh, q.1, q.2.1, q.2.2)) rfl am_h114 rfl (by subst h_r54; exact (ezH_fault (by omega) (Xs.2 ((v3 + 1).toNatClampNeg)) q.1)) ?_
        refine am_Rn.run am_h261 5 (F' := (376, [(0, .retAddr 1), (1, .ref 0), (2, .ref 83), (3, .int v3)], [.int (v3 + 1), .retAddr 1, .ref 83, .int r54])) (S' := (am_sh, q.1, q.2.1, q.2.2)) rfl ?_
        obtain ⟨hn55, hp⟩ := am_no_e hp
        refine am_Rn.stepG am_h261 (c := (v3 + 1) < 0 ∨ Xs.1 ≤ (v3 + 1).toNatClampNeg) (F' := (377, [(0, .retAddr 1), (1, .ref 0), (2, .ref 83), (3, .int v3)], [.int (Xs.2 ((v3 + 1).toNatClampNeg)), .ref 83, .int r54])) (S' := (am_sh, q.1, q.2.1, q.2.2)) rfl hn55 ?_
        obtain ⟨r56, h_r56, hp⟩ := am_b_e hp
        refine am_Rn.call am_h261 (mj := 197) (As := [.ref 83, .int (Xs.2 ((v3 + 1).toNatClampNeg))]) (F' := (380, [(0, .retAddr 1), (1, .ref 0), (2, .ref 83), (3, .int v3)], [.int r54])) (M' := am_m197) (r := some (.int r56)) (S1 := (am_sh, q.1, q.2.1, q.2.2)) rfl am_h197 rfl (by subst h_r56; exact (ezM_fault (by omega) (Xs.2 ((v3 + 1).toNatClampNeg)) q.2)) ?_
        refine am_Rn.ite am_h261 (c := r54 = r56) (t := 885) (f := 383) (lv := [(0, .retAddr 1), (1, .ref 0), (2, .ref 83), (3, .int v3)]) (st := []) (S' := (am_sh, q.1, q.2.1, q.2.2)) rfl hp (fun hc57 hp => ?_) (fun hc57 hp => ?_)
        · refine am_Rn.run am_h261 2 (F' := (28, [(3, .int (v3 + 6)), (0, .retAddr 1), (1, .ref 0), (2, .ref 83)], [])) (S' := (am_sh, q.1, q.2.1, q.2.2)) rfl ?_
          refine am_Rn.sub [1, 2, 3, 0] rfl rfl ?_
          exact ezW_law_L28 hd R n (v3 + 6) q hp
        · refine am_Rn.run am_h261 1 (F' := (384, [(0, .retAddr 1), (1, .ref 0), (2, .ref 83), (3, .int v3)], [.int 0])) (S' := (am_sh, q.1, q.2.1, q.2.2)) rfl ?_
          cases hp
          exact am_Rn.ret am_h261 rfl
      refine am_ite hp (fun hc58 hp => ?_) (fun hc58 hp => ?_)
      · rw [show am_sw x3 0 885 [164, 197, 230, 263, 326, 349, 362, 385, 408, 431, 444, 477, 520, 553, 576, 589, 612, 635, 678, 701, 714, 747, 780, 803, 836, 849, 862] = 385 from by subst hc58; rfl]
        refine am_Rn.run am_h261 5 (F' := (390, [(0, .retAddr 1), (1, .ref 0), (2, .ref 83), (3, .int v3)], [.int (v3 + 1), .retAddr 1, .ref 0])) (S' := (am_sh, q.1, q.2.1, q.2.2)) rfl ?_
        obtain ⟨hn59, hp⟩ := am_no_e hp
        refine am_Rn.stepG am_h261 (c := (v3 + 1) < 0 ∨ Xs.1 ≤ (v3 + 1).toNatClampNeg) (F' := (391, [(0, .retAddr 1), (1, .ref 0), (2, .ref 83), (3, .int v3)], [.int (Xs.2 ((v3 + 1).toNatClampNeg)), .ref 0])) (S' := (am_sh, q.1, q.2.1, q.2.2)) rfl hn59 ?_
        obtain ⟨r60, h_r60, hp⟩ := am_bind hp
        refine am_Rn.call am_h261 (mj := 115) (As := [.ref 0, .int (Xs.2 ((v3 + 1).toNatClampNeg))]) (F' := (394, [(0, .retAddr 1), (1, .ref 0), (2, .ref 83), (3, .int v3)], [])) (M' := am_m115) (r := some (.int r60.1)) (S1 := (am_sh, r60.2, q.2.1, q.2.2)) rfl am_h115 rfl (ezH_by (by omega) (Xs.2 ((v3 + 1).toNatClampNeg)) q.1 _ h_r60) ?_
        refine am_Rn.run am_h261 5 (F' := (399, [(0, .retAddr 1), (1, .ref 0), (2, .ref 83), (3, .int v3)], [.int (v3 + 1), .retAddr 1, .ref 83, .int r60.1])) (S' := (am_sh, r60.2, q.2.1, q.2.2)) rfl ?_
        obtain ⟨hn61, hp⟩ := am_no_e hp
        refine am_Rn.stepG am_h261 (c := (v3 + 1) < 0 ∨ Xs.1 ≤ (v3 + 1).toNatClampNeg) (F' := (400, [(0, .retAddr 1), (1, .ref 0), (2, .ref 83), (3, .int v3)], [.int (Xs.2 ((v3 + 1).toNatClampNeg)), .ref 83, .int r60.1])) (S' := (am_sh, r60.2, q.2.1, q.2.2)) rfl hn61 ?_
        obtain ⟨r62, h_r62, hp⟩ := am_b_e hp
        refine am_Rn.call am_h261 (mj := 198) (As := [.ref 83, .int (Xs.2 ((v3 + 1).toNatClampNeg))]) (F' := (403, [(0, .retAddr 1), (1, .ref 0), (2, .ref 83), (3, .int v3)], [.int r60.1])) (M' := am_m198) (r := some (.int r62.1)) (S1 := (am_sh, r60.2, r62.2.1, r62.2.2)) rfl am_h198 rfl (by subst h_r62; exact (ezM_by (by omega) (Xs.2 ((v3 + 1).toNatClampNeg)) q.2)) ?_
        refine am_Rn.ite am_h261 (c := r60.1 = r62.1) (t := 885) (f := 406) (lv := [(0, .retAddr 1), (1, .ref 0), (2, .ref 83), (3, .int v3)]) (st := []) (S' := (am_sh, r60.2, r62.2.1, r62.2.2)) rfl hp (fun hc63 hp => ?_) (fun hc63 hp => ?_)
        · refine am_Rn.run am_h261 2 (F' := (28, [(3, .int (v3 + 6)), (0, .retAddr 1), (1, .ref 0), (2, .ref 83)], [])) (S' := (am_sh, r60.2, r62.2.1, r62.2.2)) rfl ?_
          refine am_Rn.sub [1, 2, 3, 0] rfl rfl ?_
          exact ezW_law_L28 hd R n (v3 + 6) ((r60.2, r62.2)) hp
        · refine am_Rn.run am_h261 1 (F' := (407, [(0, .retAddr 1), (1, .ref 0), (2, .ref 83), (3, .int v3)], [.int 0])) (S' := (am_sh, r60.2, r62.2.1, r62.2.2)) rfl ?_
          cases hp
          exact am_Rn.ret am_h261 rfl
      refine am_ite hp (fun hc64 hp => ?_) (fun hc64 hp => ?_)
      · rw [show am_sw x3 0 885 [164, 197, 230, 263, 326, 349, 362, 385, 408, 431, 444, 477, 520, 553, 576, 589, 612, 635, 678, 701, 714, 747, 780, 803, 836, 849, 862] = 408 from by subst hc64; rfl]
        refine am_Rn.run am_h261 5 (F' := (413, [(0, .retAddr 1), (1, .ref 0), (2, .ref 83), (3, .int v3)], [.int (v3 + 1), .retAddr 1, .ref 0])) (S' := (am_sh, q.1, q.2.1, q.2.2)) rfl ?_
        obtain ⟨hn65, hp⟩ := am_no_e hp
        refine am_Rn.stepG am_h261 (c := (v3 + 1) < 0 ∨ Xs.1 ≤ (v3 + 1).toNatClampNeg) (F' := (414, [(0, .retAddr 1), (1, .ref 0), (2, .ref 83), (3, .int v3)], [.int (Xs.2 ((v3 + 1).toNatClampNeg)), .ref 0])) (S' := (am_sh, q.1, q.2.1, q.2.2)) rfl hn65 ?_
        obtain ⟨r66, h_r66, hp⟩ := am_bind hp
        refine am_Rn.call am_h261 (mj := 116) (As := [.ref 0, .int (Xs.2 ((v3 + 1).toNatClampNeg))]) (F' := (417, [(0, .retAddr 1), (1, .ref 0), (2, .ref 83), (3, .int v3)], [])) (M' := am_m116) (r := some (.int r66.1)) (S1 := (am_sh, r66.2, q.2.1, q.2.2)) rfl am_h116 rfl (ezH_played (by omega) (Xs.2 ((v3 + 1).toNatClampNeg)) q.1 _ h_r66) ?_
        refine am_Rn.run am_h261 5 (F' := (422, [(0, .retAddr 1), (1, .ref 0), (2, .ref 83), (3, .int v3)], [.int (v3 + 1), .retAddr 1, .ref 83, .int r66.1])) (S' := (am_sh, r66.2, q.2.1, q.2.2)) rfl ?_
        obtain ⟨hn67, hp⟩ := am_no_e hp
        refine am_Rn.stepG am_h261 (c := (v3 + 1) < 0 ∨ Xs.1 ≤ (v3 + 1).toNatClampNeg) (F' := (423, [(0, .retAddr 1), (1, .ref 0), (2, .ref 83), (3, .int v3)], [.int (Xs.2 ((v3 + 1).toNatClampNeg)), .ref 83, .int r66.1])) (S' := (am_sh, r66.2, q.2.1, q.2.2)) rfl hn67 ?_
        obtain ⟨r68, h_r68, hp⟩ := am_bind hp
        refine am_Rn.call am_h261 (mj := 202) (As := [.ref 83, .int (Xs.2 ((v3 + 1).toNatClampNeg))]) (F' := (426, [(0, .retAddr 1), (1, .ref 0), (2, .ref 83), (3, .int v3)], [.int r66.1])) (M' := am_m202) (r := some (.int r68.1)) (S1 := (am_sh, r66.2, r68.2.1, r68.2.2)) rfl am_h202 rfl (ezM_played (by omega) (Xs.2 ((v3 + 1).toNatClampNeg)) q.2 _ h_r68) ?_
        refine am_Rn.ite am_h261 (c := r66.1 = r68.1) (t := 885) (f := 429) (lv := [(0, .retAddr 1), (1, .ref 0), (2, .ref 83), (3, .int v3)]) (st := []) (S' := (am_sh, r66.2, r68.2.1, r68.2.2)) rfl hp (fun hc69 hp => ?_) (fun hc69 hp => ?_)
        · refine am_Rn.run am_h261 2 (F' := (28, [(3, .int (v3 + 6)), (0, .retAddr 1), (1, .ref 0), (2, .ref 83)], [])) (S' := (am_sh, r66.2, r68.2.1, r68.2.2)) rfl ?_
          refine am_Rn.sub [1, 2, 3, 0] rfl rfl ?_
          exact ezW_law_L28 hd R n (v3 + 6) ((r66.2, r68.2)) hp
        · refine am_Rn.run am_h261 1 (F' := (430, [(0, .retAddr 1), (1, .ref 0), (2, .ref 83), (3, .int v3)], [.int 0])) (S' := (am_sh, r66.2, r68.2.1, r68.2.2)) rfl ?_
          cases hp
          exact am_Rn.ret am_h261 rfl
      refine am_ite hp (fun hc70 hp => ?_) (fun hc70 hp => ?_)
      · rw [show am_sw x3 0 885 [164, 197, 230, 263, 326, 349, 362, 385, 408, 431, 444, 477, 520, 553, 576, 589, 612, 635, 678, 701, 714, 747, 780, 803, 836, 849, 862] = 431 from by subst hc70; rfl]
        refine am_Rn.run am_h261 1 (F' := (432, [(0, .retAddr 1), (1, .ref 0), (2, .ref 83), (3, .int v3)], [.ref 0])) (S' := (am_sh, q.1, q.2.1, q.2.2)) rfl ?_
        obtain ⟨r71, h_r71, hp⟩ := am_bind hp
        refine am_Rn.call am_h261 (mj := 117) (As := [.ref 0]) (F' := (435, [(0, .retAddr 1), (1, .ref 0), (2, .ref 83), (3, .int v3)], [])) (M' := am_m117) (r := some (.int r71.1)) (S1 := (am_sh, r71.2, q.2.1, q.2.2)) rfl am_h117 rfl (ezH_clear (by omega) q.1 _ h_r71) ?_
        refine am_Rn.run am_h261 1 (F' := (436, [(0, .retAddr 1), (1, .ref 0), (2, .ref 83), (3, .int v3)], [.ref 83, .int r71.1])) (S' := (am_sh, r71.2, q.2.1, q.2.2)) rfl ?_
        obtain ⟨r72, h_r72, hp⟩ := am_bind hp
        refine am_Rn.call am_h261 (mj := 203) (As := [.ref 83]) (F' := (439, [(0, .retAddr 1), (1, .ref 0), (2, .ref 83), (3, .int v3)], [.int r71.1])) (M' := am_m203) (r := some (.int r72.1)) (S1 := (am_sh, r71.2, r72.2.1, r72.2.2)) rfl am_h203 rfl (ezM_clear (by omega) q.2 _ h_r72) ?_
        refine am_Rn.ite am_h261 (c := r71.1 = r72.1) (t := 885) (f := 442) (lv := [(0, .retAddr 1), (1, .ref 0), (2, .ref 83), (3, .int v3)]) (st := []) (S' := (am_sh, r71.2, r72.2.1, r72.2.2)) rfl hp (fun hc73 hp => ?_) (fun hc73 hp => ?_)
        · refine am_Rn.run am_h261 2 (F' := (28, [(3, .int (v3 + 6)), (0, .retAddr 1), (1, .ref 0), (2, .ref 83)], [])) (S' := (am_sh, r71.2, r72.2.1, r72.2.2)) rfl ?_
          refine am_Rn.sub [1, 2, 3, 0] rfl rfl ?_
          exact ezW_law_L28 hd R n (v3 + 6) ((r71.2, r72.2)) hp
        · refine am_Rn.run am_h261 1 (F' := (443, [(0, .retAddr 1), (1, .ref 0), (2, .ref 83), (3, .int v3)], [.int 0])) (S' := (am_sh, r71.2, r72.2.1, r72.2.2)) rfl ?_
          cases hp
          exact am_Rn.ret am_h261 rfl
      refine am_ite hp (fun hc74 hp => ?_) (fun hc74 hp => ?_)
      · rw [show am_sw x3 0 885 [164, 197, 230, 263, 326, 349, 362, 385, 408, 431, 444, 477, 520, 553, 576, 589, 612, 635, 678, 701, 714, 747, 780, 803, 836, 849, 862] = 444 from by subst hc74; rfl]
        refine am_Rn.run am_h261 5 (F' := (449, [(0, .retAddr 1), (1, .ref 0), (2, .ref 83), (3, .int v3)], [.int (v3 + 1), .retAddr 1, .ref 0])) (S' := (am_sh, q.1, q.2.1, q.2.2)) rfl ?_
        obtain ⟨hn75, hp⟩ := am_no_e hp
        refine am_Rn.stepG am_h261 (c := (v3 + 1) < 0 ∨ Xs.1 ≤ (v3 + 1).toNatClampNeg) (F' := (450, [(0, .retAddr 1), (1, .ref 0), (2, .ref 83), (3, .int v3)], [.int (Xs.2 ((v3 + 1).toNatClampNeg)), .ref 0])) (S' := (am_sh, q.1, q.2.1, q.2.2)) rfl hn75 ?_
        refine am_Rn.run am_h261 4 (F' := (454, [(0, .retAddr 1), (1, .ref 0), (2, .ref 83), (3, .int v3)], [.int (v3 + 2), .retAddr 1, .int (Xs.2 ((v3 + 1).toNatClampNeg)), .ref 0])) (S' := (am_sh, q.1, q.2.1, q.2.2)) rfl ?_
        obtain ⟨hn76, hp⟩ := am_no_e hp
        refine am_Rn.stepG am_h261 (c := (v3 + 2) < 0 ∨ Xs.1 ≤ (v3 + 2).toNatClampNeg) (F' := (455, [(0, .retAddr 1), (1, .ref 0), (2, .ref 83), (3, .int v3)], [.int (Xs.2 ((v3 + 2).toNatClampNeg)), .int (Xs.2 ((v3 + 1).toNatClampNeg)), .ref 0])) (S' := (am_sh, q.1, q.2.1, q.2.2)) rfl hn76 ?_
        obtain ⟨r77, h_r77, hp⟩ := am_bind hp
        refine am_Rn.call am_h261 (mj := 118) (As := [.ref 0, .int (Xs.2 ((v3 + 1).toNatClampNeg)), .int (Xs.2 ((v3 + 2).toNatClampNeg))]) (F' := (458, [(0, .retAddr 1), (1, .ref 0), (2, .ref 83), (3, .int v3)], [])) (M' := am_m118) (r := some (.int r77)) (S1 := (am_sh, q.1, q.2.1, q.2.2)) rfl am_h118 rfl (ezH_at (by omega) (Xs.2 ((v3 + 1).toNatClampNeg)) (Xs.2 ((v3 + 2).toNatClampNeg)) q.1 _ h_r77) ?_
        refine am_Rn.run am_h261 5 (F' := (463, [(0, .retAddr 1), (1, .ref 0), (2, .ref 83), (3, .int v3)], [.int (v3 + 1), .retAddr 1, .ref 83, .int r77])) (S' := (am_sh, q.1, q.2.1, q.2.2)) rfl ?_
        obtain ⟨hn78, hp⟩ := am_no_e hp
        refine am_Rn.stepG am_h261 (c := (v3 + 1) < 0 ∨ Xs.1 ≤ (v3 + 1).toNatClampNeg) (F' := (464, [(0, .retAddr 1), (1, .ref 0), (2, .ref 83), (3, .int v3)], [.int (Xs.2 ((v3 + 1).toNatClampNeg)), .ref 83, .int r77])) (S' := (am_sh, q.1, q.2.1, q.2.2)) rfl hn78 ?_
        refine am_Rn.run am_h261 4 (F' := (468, [(0, .retAddr 1), (1, .ref 0), (2, .ref 83), (3, .int v3)], [.int (v3 + 2), .retAddr 1, .int (Xs.2 ((v3 + 1).toNatClampNeg)), .ref 83, .int r77])) (S' := (am_sh, q.1, q.2.1, q.2.2)) rfl ?_
        obtain ⟨hn79, hp⟩ := am_no_e hp
        refine am_Rn.stepG am_h261 (c := (v3 + 2) < 0 ∨ Xs.1 ≤ (v3 + 2).toNatClampNeg) (F' := (469, [(0, .retAddr 1), (1, .ref 0), (2, .ref 83), (3, .int v3)], [.int (Xs.2 ((v3 + 2).toNatClampNeg)), .int (Xs.2 ((v3 + 1).toNatClampNeg)), .ref 83, .int r77])) (S' := (am_sh, q.1, q.2.1, q.2.2)) rfl hn79 ?_
        obtain ⟨r80, h_r80, hp⟩ := am_bind hp
        refine am_Rn.call am_h261 (mj := 204) (As := [.ref 83, .int (Xs.2 ((v3 + 1).toNatClampNeg)), .int (Xs.2 ((v3 + 2).toNatClampNeg))]) (F' := (472, [(0, .retAddr 1), (1, .ref 0), (2, .ref 83), (3, .int v3)], [.int r77])) (M' := am_m204) (r := some (.int r80)) (S1 := (am_sh, q.1, q.2.1, q.2.2)) rfl am_h204 rfl (ezM_at (by omega) (Xs.2 ((v3 + 1).toNatClampNeg)) (Xs.2 ((v3 + 2).toNatClampNeg)) q.2 _ h_r80) ?_
        refine am_Rn.ite am_h261 (c := r77 = r80) (t := 885) (f := 475) (lv := [(0, .retAddr 1), (1, .ref 0), (2, .ref 83), (3, .int v3)]) (st := []) (S' := (am_sh, q.1, q.2.1, q.2.2)) rfl hp (fun hc81 hp => ?_) (fun hc81 hp => ?_)
        · refine am_Rn.run am_h261 2 (F' := (28, [(3, .int (v3 + 6)), (0, .retAddr 1), (1, .ref 0), (2, .ref 83)], [])) (S' := (am_sh, q.1, q.2.1, q.2.2)) rfl ?_
          refine am_Rn.sub [1, 2, 3, 0] rfl rfl ?_
          exact ezW_law_L28 hd R n (v3 + 6) q hp
        · refine am_Rn.run am_h261 1 (F' := (476, [(0, .retAddr 1), (1, .ref 0), (2, .ref 83), (3, .int v3)], [.int 0])) (S' := (am_sh, q.1, q.2.1, q.2.2)) rfl ?_
          cases hp
          exact am_Rn.ret am_h261 rfl
      refine am_ite hp (fun hc82 hp => ?_) (fun hc82 hp => ?_)
      · rw [show am_sw x3 0 885 [164, 197, 230, 263, 326, 349, 362, 385, 408, 431, 444, 477, 520, 553, 576, 589, 612, 635, 678, 701, 714, 747, 780, 803, 836, 849, 862] = 477 from by subst hc82; rfl]
        refine am_Rn.run am_h261 5 (F' := (482, [(0, .retAddr 1), (1, .ref 0), (2, .ref 83), (3, .int v3)], [.int (v3 + 1), .retAddr 1, .ref 0])) (S' := (am_sh, q.1, q.2.1, q.2.2)) rfl ?_
        obtain ⟨hn83, hp⟩ := am_no_e hp
        refine am_Rn.stepG am_h261 (c := (v3 + 1) < 0 ∨ Xs.1 ≤ (v3 + 1).toNatClampNeg) (F' := (483, [(0, .retAddr 1), (1, .ref 0), (2, .ref 83), (3, .int v3)], [.int (Xs.2 ((v3 + 1).toNatClampNeg)), .ref 0])) (S' := (am_sh, q.1, q.2.1, q.2.2)) rfl hn83 ?_
        refine am_Rn.run am_h261 4 (F' := (487, [(0, .retAddr 1), (1, .ref 0), (2, .ref 83), (3, .int v3)], [.int (v3 + 2), .retAddr 1, .int (Xs.2 ((v3 + 1).toNatClampNeg)), .ref 0])) (S' := (am_sh, q.1, q.2.1, q.2.2)) rfl ?_
        obtain ⟨hn84, hp⟩ := am_no_e hp
        refine am_Rn.stepG am_h261 (c := (v3 + 2) < 0 ∨ Xs.1 ≤ (v3 + 2).toNatClampNeg) (F' := (488, [(0, .retAddr 1), (1, .ref 0), (2, .ref 83), (3, .int v3)], [.int (Xs.2 ((v3 + 2).toNatClampNeg)), .int (Xs.2 ((v3 + 1).toNatClampNeg)), .ref 0])) (S' := (am_sh, q.1, q.2.1, q.2.2)) rfl hn84 ?_
        refine am_Rn.run am_h261 4 (F' := (492, [(0, .retAddr 1), (1, .ref 0), (2, .ref 83), (3, .int v3)], [.int (v3 + 3), .retAddr 1, .int (Xs.2 ((v3 + 2).toNatClampNeg)), .int (Xs.2 ((v3 + 1).toNatClampNeg)), .ref 0])) (S' := (am_sh, q.1, q.2.1, q.2.2)) rfl ?_
        obtain ⟨hn85, hp⟩ := am_no_e hp
        refine am_Rn.stepG am_h261 (c := (v3 + 3) < 0 ∨ Xs.1 ≤ (v3 + 3).toNatClampNeg) (F' := (493, [(0, .retAddr 1), (1, .ref 0), (2, .ref 83), (3, .int v3)], [.int (Xs.2 ((v3 + 3).toNatClampNeg)), .int (Xs.2 ((v3 + 2).toNatClampNeg)), .int (Xs.2 ((v3 + 1).toNatClampNeg)), .ref 0])) (S' := (am_sh, q.1, q.2.1, q.2.2)) rfl hn85 ?_
        obtain ⟨r86, h_r86, hp⟩ := am_bind hp
        refine am_Rn.call am_h261 (mj := 119) (As := [.ref 0, .int (Xs.2 ((v3 + 1).toNatClampNeg)), .int (Xs.2 ((v3 + 2).toNatClampNeg)), .int (Xs.2 ((v3 + 3).toNatClampNeg))]) (F' := (496, [(0, .retAddr 1), (1, .ref 0), (2, .ref 83), (3, .int v3)], [])) (M' := am_m119) (r := some (.int r86.1)) (S1 := (am_sh, r86.2, q.2.1, q.2.2)) rfl am_h119 rfl (ezH_hold (by omega) (Xs.2 ((v3 + 1).toNatClampNeg)) (Xs.2 ((v3 + 2).toNatClampNeg)) (Xs.2 ((v3 + 3).toNatClampNeg)) q.1 _ h_r86) ?_
        refine am_Rn.run am_h261 5 (F' := (501, [(0, .retAddr 1), (1, .ref 0), (2, .ref 83), (3, .int v3)], [.int (v3 + 1), .retAddr 1, .ref 83, .int r86.1])) (S' := (am_sh, r86.2, q.2.1, q.2.2)) rfl ?_
        obtain ⟨hn87, hp⟩ := am_no_e hp
        refine am_Rn.stepG am_h261 (c := (v3 + 1) < 0 ∨ Xs.1 ≤ (v3 + 1).toNatClampNeg) (F' := (502, [(0, .retAddr 1), (1, .ref 0), (2, .ref 83), (3, .int v3)], [.int (Xs.2 ((v3 + 1).toNatClampNeg)), .ref 83, .int r86.1])) (S' := (am_sh, r86.2, q.2.1, q.2.2)) rfl hn87 ?_
        refine am_Rn.run am_h261 4 (F' := (506, [(0, .retAddr 1), (1, .ref 0), (2, .ref 83), (3, .int v3)], [.int (v3 + 2), .retAddr 1, .int (Xs.2 ((v3 + 1).toNatClampNeg)), .ref 83, .int r86.1])) (S' := (am_sh, r86.2, q.2.1, q.2.2)) rfl ?_
        obtain ⟨hn88, hp⟩ := am_no_e hp
        refine am_Rn.stepG am_h261 (c := (v3 + 2) < 0 ∨ Xs.1 ≤ (v3 + 2).toNatClampNeg) (F' := (507, [(0, .retAddr 1), (1, .ref 0), (2, .ref 83), (3, .int v3)], [.int (Xs.2 ((v3 + 2).toNatClampNeg)), .int (Xs.2 ((v3 + 1).toNatClampNeg)), .ref 83, .int r86.1])) (S' := (am_sh, r86.2, q.2.1, q.2.2)) rfl hn88 ?_
        refine am_Rn.run am_h261 4 (F' := (511, [(0, .retAddr 1), (1, .ref 0), (2, .ref 83), (3, .int v3)], [.int (v3 + 3), .retAddr 1, .int (Xs.2 ((v3 + 2).toNatClampNeg)), .int (Xs.2 ((v3 + 1).toNatClampNeg)), .ref 83, .int r86.1])) (S' := (am_sh, r86.2, q.2.1, q.2.2)) rfl ?_
        obtain ⟨hn89, hp⟩ := am_no_e hp
        refine am_Rn.stepG am_h261 (c := (v3 + 3) < 0 ∨ Xs.1 ≤ (v3 + 3).toNatClampNeg) (F' := (512, [(0, .retAddr 1), (1, .ref 0), (2, .ref 83), (3, .int v3)], [.int (Xs.2 ((v3 + 3).toNatClampNeg)), .int (Xs.2 ((v3 + 2).toNatClampNeg)), .int (Xs.2 ((v3 + 1).toNatClampNeg)), .ref 83, .int r86.1])) (S' := (am_sh, r86.2, q.2.1, q.2.2)) rfl hn89 ?_
        obtain ⟨r90, h_r90, hp⟩ := am_bind hp
        refine am_Rn.call am_h261 (mj := 205) (As := [.ref 83, .int (Xs.2 ((v3 + 1).toNatClampNeg)), .int (Xs.2 ((v3 + 2).toNatClampNeg)), .int (Xs.2 ((v3 + 3).toNatClampNeg))]) (F' := (515, [(0, .retAddr 1), (1, .ref 0), (2, .ref 83), (3, .int v3)], [.int r86.1])) (M' := am_m205) (r := some (.int r90.1)) (S1 := (am_sh, r86.2, r90.2.1, r90.2.2)) rfl am_h205 rfl (ezM_hold (by omega) (Xs.2 ((v3 + 1).toNatClampNeg)) (Xs.2 ((v3 + 2).toNatClampNeg)) (Xs.2 ((v3 + 3).toNatClampNeg)) q.2 _ h_r90) ?_
        refine am_Rn.ite am_h261 (c := r86.1 = r90.1) (t := 885) (f := 518) (lv := [(0, .retAddr 1), (1, .ref 0), (2, .ref 83), (3, .int v3)]) (st := []) (S' := (am_sh, r86.2, r90.2.1, r90.2.2)) rfl hp (fun hc91 hp => ?_) (fun hc91 hp => ?_)
        · refine am_Rn.run am_h261 2 (F' := (28, [(3, .int (v3 + 6)), (0, .retAddr 1), (1, .ref 0), (2, .ref 83)], [])) (S' := (am_sh, r86.2, r90.2.1, r90.2.2)) rfl ?_
          refine am_Rn.sub [1, 2, 3, 0] rfl rfl ?_
          exact ezW_law_L28 hd R n (v3 + 6) ((r86.2, r90.2)) hp
        · refine am_Rn.run am_h261 1 (F' := (519, [(0, .retAddr 1), (1, .ref 0), (2, .ref 83), (3, .int v3)], [.int 0])) (S' := (am_sh, r86.2, r90.2.1, r90.2.2)) rfl ?_
          cases hp
          exact am_Rn.ret am_h261 rfl
      refine am_ite hp (fun hc92 hp => ?_) (fun hc92 hp => ?_)
      · rw [show am_sw x3 0 885 [164, 197, 230, 263, 326, 349, 362, 385, 408, 431, 444, 477, 520, 553, 576, 589, 612, 635, 678, 701, 714, 747, 780, 803, 836, 849, 862] = 520 from by subst hc92; rfl]
        refine am_Rn.run am_h261 5 (F' := (525, [(0, .retAddr 1), (1, .ref 0), (2, .ref 83), (3, .int v3)], [.int (v3 + 1), .retAddr 1, .ref 0])) (S' := (am_sh, q.1, q.2.1, q.2.2)) rfl ?_
        obtain ⟨hn93, hp⟩ := am_no_e hp
        refine am_Rn.stepG am_h261 (c := (v3 + 1) < 0 ∨ Xs.1 ≤ (v3 + 1).toNatClampNeg) (F' := (526, [(0, .retAddr 1), (1, .ref 0), (2, .ref 83), (3, .int v3)], [.int (Xs.2 ((v3 + 1).toNatClampNeg)), .ref 0])) (S' := (am_sh, q.1, q.2.1, q.2.2)) rfl hn93 ?_
        refine am_Rn.run am_h261 4 (F' := (530, [(0, .retAddr 1), (1, .ref 0), (2, .ref 83), (3, .int v3)], [.int (v3 + 2), .retAddr 1, .int (Xs.2 ((v3 + 1).toNatClampNeg)), .ref 0])) (S' := (am_sh, q.1, q.2.1, q.2.2)) rfl ?_
        obtain ⟨hn94, hp⟩ := am_no_e hp
        refine am_Rn.stepG am_h261 (c := (v3 + 2) < 0 ∨ Xs.1 ≤ (v3 + 2).toNatClampNeg) (F' := (531, [(0, .retAddr 1), (1, .ref 0), (2, .ref 83), (3, .int v3)], [.int (Xs.2 ((v3 + 2).toNatClampNeg)), .int (Xs.2 ((v3 + 1).toNatClampNeg)), .ref 0])) (S' := (am_sh, q.1, q.2.1, q.2.2)) rfl hn94 ?_
        obtain ⟨r95, h_r95, hp⟩ := am_bind hp
        refine am_Rn.call am_h261 (mj := 120) (As := [.ref 0, .int (Xs.2 ((v3 + 1).toNatClampNeg)), .int (Xs.2 ((v3 + 2).toNatClampNeg))]) (F' := (534, [(0, .retAddr 1), (1, .ref 0), (2, .ref 83), (3, .int v3)], [])) (M' := am_m120) (r := some (.int r95)) (S1 := (am_sh, q.1, q.2.1, q.2.2)) rfl am_h120 rfl (ezH_held (by omega) (Xs.2 ((v3 + 1).toNatClampNeg)) (Xs.2 ((v3 + 2).toNatClampNeg)) q.1 _ h_r95) ?_
        refine am_Rn.run am_h261 5 (F' := (539, [(0, .retAddr 1), (1, .ref 0), (2, .ref 83), (3, .int v3)], [.int (v3 + 1), .retAddr 1, .ref 83, .int r95])) (S' := (am_sh, q.1, q.2.1, q.2.2)) rfl ?_
        obtain ⟨hn96, hp⟩ := am_no_e hp
        refine am_Rn.stepG am_h261 (c := (v3 + 1) < 0 ∨ Xs.1 ≤ (v3 + 1).toNatClampNeg) (F' := (540, [(0, .retAddr 1), (1, .ref 0), (2, .ref 83), (3, .int v3)], [.int (Xs.2 ((v3 + 1).toNatClampNeg)), .ref 83, .int r95])) (S' := (am_sh, q.1, q.2.1, q.2.2)) rfl hn96 ?_
        refine am_Rn.run am_h261 4 (F' := (544, [(0, .retAddr 1), (1, .ref 0), (2, .ref 83), (3, .int v3)], [.int (v3 + 2), .retAddr 1, .int (Xs.2 ((v3 + 1).toNatClampNeg)), .ref 83, .int r95])) (S' := (am_sh, q.1, q.2.1, q.2.2)) rfl ?_
        obtain ⟨hn97, hp⟩ := am_no_e hp
        refine am_Rn.stepG am_h261 (c := (v3 + 2) < 0 ∨ Xs.1 ≤ (v3 + 2).toNatClampNeg) (F' := (545, [(0, .retAddr 1), (1, .ref 0), (2, .ref 83), (3, .int v3)], [.int (Xs.2 ((v3 + 2).toNatClampNeg)), .int (Xs.2 ((v3 + 1).toNatClampNeg)), .ref 83, .int r95])) (S' := (am_sh, q.1, q.2.1, q.2.2)) rfl hn97 ?_
        obtain ⟨r98, h_r98, hp⟩ := am_bind hp
        refine am_Rn.call am_h261 (mj := 206) (As := [.ref 83, .int (Xs.2 ((v3 + 1).toNatClampNeg)), .int (Xs.2 ((v3 + 2).toNatClampNeg))]) (F' := (548, [(0, .retAddr 1), (1, .ref 0), (2, .ref 83), (3, .int v3)], [.int r95])) (M' := am_m206) (r := some (.int r98)) (S1 := (am_sh, q.1, q.2.1, q.2.2)) rfl am_h206 rfl (ezM_held (by omega) (Xs.2 ((v3 + 1).toNatClampNeg)) (Xs.2 ((v3 + 2).toNatClampNeg)) q.2 _ h_r98) ?_
        refine am_Rn.ite am_h261 (c := r95 = r98) (t := 885) (f := 551) (lv := [(0, .retAddr 1), (1, .ref 0), (2, .ref 83), (3, .int v3)]) (st := []) (S' := (am_sh, q.1, q.2.1, q.2.2)) rfl hp (fun hc99 hp => ?_) (fun hc99 hp => ?_)
        · refine am_Rn.run am_h261 2 (F' := (28, [(3, .int (v3 + 6)), (0, .retAddr 1), (1, .ref 0), (2, .ref 83)], [])) (S' := (am_sh, q.1, q.2.1, q.2.2)) rfl ?_
          refine am_Rn.sub [1, 2, 3, 0] rfl rfl ?_
          exact ezW_law_L28 hd R n (v3 + 6) q hp
        · refine am_Rn.run am_h261 1 (F' := (552, [(0, .retAddr 1), (1, .ref 0), (2, .ref 83), (3, .int v3)], [.int 0])) (S' := (am_sh, q.1, q.2.1, q.2.2)) rfl ?_
          cases hp
          exact am_Rn.ret am_h261 rfl
      refine am_ite hp (fun hc100 hp => ?_) (fun hc100 hp => ?_)
      · rw [show am_sw x3 0 885 [164, 197, 230, 263, 326, 349, 362, 385, 408, 431, 444, 477, 520, 553, 576, 589, 612, 635, 678, 701, 714, 747, 780, 803, 836, 849, 862] = 553 from by subst hc100; rfl]
        refine am_Rn.run am_h261 5 (F' := (558, [(0, .retAddr 1), (1, .ref 0), (2, .ref 83), (3, .int v3)], [.int (v3 + 1), .retAddr 1, .ref 0])) (S' := (am_sh, q.1, q.2.1, q.2.2)) rfl ?_
        obtain ⟨hn101, hp⟩ := am_no_e hp
        refine am_Rn.stepG am_h261 (c := (v3 + 1) < 0 ∨ Xs.1 ≤ (v3 + 1).toNatClampNeg) (F' := (559, [(0, .retAddr 1), (1, .ref 0), (2, .ref 83), (3, .int v3)], [.int (Xs.2 ((v3 + 1).toNatClampNeg)), .ref 0])) (S' := (am_sh, q.1, q.2.1, q.2.2)) rfl hn101 ?_
        obtain ⟨r102, h_r102, hp⟩ := am_bind hp
        refine am_Rn.call am_h261 (mj := 121) (As := [.ref 0, .int (Xs.2 ((v3 + 1).toNatClampNeg))]) (F' := (562, [(0, .retAddr 1), (1, .ref 0), (2, .ref 83), (3, .int v3)], [])) (M' := am_m121) (r := some (.int r102.1)) (S1 := (am_sh, r102.2, q.2.1, q.2.2)) rfl am_h121 rfl (ezH_judge (by omega) (Xs.2 ((v3 + 1).toNatClampNeg)) q.1 _ h_r102) ?_
        refine am_Rn.run am_h261 5 (F' := (567, [(0, .retAddr 1), (1, .ref 0), (2, .ref 83), (3, .int v3)], [.int (v3 + 1), .retAddr 1, .ref 83, .int r102.1])) (S' := (am_sh, r102.2, q.2.1, q.2.2)) rfl ?_
        obtain ⟨hn103, hp⟩ := am_no_e hp
        refine am_Rn.stepG am_h261 (c := (v3 + 1) < 0 ∨ Xs.1 ≤ (v3 + 1).toNatClampNeg) (F' := (568, [(0, .retAddr 1), (1, .ref 0), (2, .ref 83), (3, .int v3)], [.int (Xs.2 ((v3 + 1).toNatClampNeg)), .ref 83, .int r102.1])) (S' := (am_sh, r102.2, q.2.1, q.2.2)) rfl hn103 ?_
        obtain ⟨r104, h_r104, hp⟩ := am_bind hp
        refine am_Rn.call am_h261 (mj := 227) (As := [.ref 83, .int (Xs.2 ((v3 + 1).toNatClampNeg))]) (F' := (571, [(0, .retAddr 1), (1, .ref 0), (2, .ref 83), (3, .int v3)], [.int r102.1])) (M' := am_m227) (r := some (.int r104.1)) (S1 := (am_sh, r102.2, r104.2.1, r104.2.2)) rfl am_h227 rfl (ezM_judge (by omega) (Xs.2 ((v3 + 1).toNatClampNeg)) q.2 _ h_r104) ?_
        refine am_Rn.ite am_h261 (c := r102.1 = r104.1) (t := 885) (f := 574) (lv := [(0, .retAddr 1), (1, .ref 0), (2, .ref 83), (3, .int v3)]) (st := []) (S' := (am_sh, r102.2, r104.2.1, r104.2.2)) rfl hp (fun hc105 hp => ?_) (fun hc105 hp => ?_)
        · refine am_Rn.run am_h261 2 (F' := (28, [(3, .int (v3 + 6)), (0, .retAddr 1), (1, .ref 0), (2, .ref 83)], [])) (S' := (am_sh, r102.2, r104.2.1, r104.2.2)) rfl ?_
          refine am_Rn.sub [1, 2, 3, 0] rfl rfl ?_
          exact ezW_law_L28 hd R n (v3 + 6) ((r102.2, r104.2)) hp
        · refine am_Rn.run am_h261 1 (F' := (575, [(0, .retAddr 1), (1, .ref 0), (2, .ref 83), (3, .int v3)], [.int 0])) (S' := (am_sh, r102.2, r104.2.1, r104.2.2)) rfl ?_
          cases hp
          exact am_Rn.ret am_h261 rfl
      refine am_ite hp (fun hc106 hp => ?_) (fun hc106 hp => ?_)
      · rw [show am_sw x3 0 885 [164, 197, 230, 263, 326, 349, 362, 385, 408, 431, 444, 477, 520, 553, 576, 589, 612, 635, 678, 701, 714, 747, 780, 803, 836, 849, 862] = 576 from by subst hc106; rfl]
        refine am_Rn.run am_h261 1 (F' := (577, [(0, .retAddr 1), (1, .ref 0), (2, .ref 83), (3, .int v3)], [.ref 0])) (S' := (am_sh, q.1, q.2.1, q.2.2)) rfl ?_
        obtain ⟨r107, h_r107, hp⟩ := am_bind hp
        refine am_Rn.call am_h261 (mj := 122) (As := [.ref 0]) (F' := (580, [(0, .retAddr 1), (1, .ref 0), (2, .ref 83), (3, .int v3)], [])) (M' := am_m122) (r := some (.int r107)) (S1 := (am_sh, q.1, q.2.1, q.2.2)) rfl am_h122 rfl (ezH_swaps (by omega) q.1 _ h_r107) ?_
        refine am_Rn.run am_h261 1 (F' := (581, [(0, .retAddr 1), (1, .ref 0), (2, .ref 83), (3, .int v3)], [.ref 83, .int r107])) (S' := (am_sh, q.1, q.2.1, q.2.2)) rfl ?_
        obtain ⟨r108, h_r108, hp⟩ := am_bind hp
        refine am_Rn.call am_h261 (mj := 228) (As := [.ref 83]) (F' := (584, [(0, .retAddr 1), (1, .ref 0), (2, .ref 83), (3, .int v3)], [.int r107])) (M' := am_m228) (r := some (.int r108)) (S1 := (am_sh, q.1, q.2.1, q.2.2)) rfl am_h228 rfl (ezM_swaps (by omega) q.2 _ h_r108) ?_
        refine am_Rn.ite am_h261 (c := r107 = r108) (t := 885) (f := 587) (lv := [(0, .retAddr 1), (1, .ref 0), (2, .ref 83), (3, .int v3)]) (st := []) (S' := (am_sh, q.1, q.2.1, q.2.2)) rfl hp (fun hc109 hp => ?_) (fun hc109 hp => ?_)
        · refine am_Rn.run am_h261 2 (F' := (28, [(3, .int (v3 + 6)), (0, .retAddr 1), (1, .ref 0), (2, .ref 83)], [])) (S' := (am_sh, q.1, q.2.1, q.2.2)) rfl ?_
          refine am_Rn.sub [1, 2, 3, 0] rfl rfl ?_
          exact ezW_law_L28 hd R n (v3 + 6) q hp
        · refine am_Rn.run am_h261 1 (F' := (588, [(0, .retAddr 1), (1, .ref 0), (2, .ref 83), (3, .int v3)], [.int 0])) (S' := (am_sh, q.1, q.2.1, q.2.2)) rfl ?_
          cases hp
          exact am_Rn.ret am_h261 rfl
      refine am_ite hp (fun hc110 hp => ?_) (fun hc110 hp => ?_)
      · rw [show am_sw x3 0 885 [164, 197, 230, 263, 326, 349, 362, 385, 408, 431, 444, 477, 520, 553, 576, 589, 612, 635, 678, 701, 714, 747, 780, 803, 836, 849, 862] = 589 from by subst hc110; rfl]
        refine am_Rn.run am_h261 5 (F' := (594, [(0, .retAddr 1), (1, .ref 0), (2, .ref 83), (3, .int v3)], [.int (v3 + 1), .retAddr 1, .ref 0])) (S' := (am_sh, q.1, q.2.1, q.2.2)) rfl ?_
        obtain ⟨hn111, hp⟩ := am_no_e hp
        refine am_Rn.stepG am_h261 (c := (v3 + 1) < 0 ∨ Xs.1 ≤ (v3 + 1).toNatClampNeg) (F' := (595, [(0, .retAddr 1), (1, .ref 0), (2, .ref 83), (3, .int v3)], [.int (Xs.2 ((v3 + 1).toNatClampNeg)), .ref 0])) (S' := (am_sh, q.1, q.2.1, q.2.2)) rfl hn111 ?_
        obtain ⟨r112, h_r112, hp⟩ := am_bind hp
        refine am_Rn.call am_h261 (mj := 123) (As := [.ref 0, .int (Xs.2 ((v3 + 1).toNatClampNeg))]) (F' := (598, [(0, .retAddr 1), (1, .ref 0), (2, .ref 83), (3, .int v3)], [])) (M' := am_m123) (r := some (.int r112)) (S1 := (am_sh, q.1, q.2.1, q.2.2)) rfl am_h123 rfl (ezH_longest (by omega) (Xs.2 ((v3 + 1).toNatClampNeg)) q.1 _ h_r112) ?_
        refine am_Rn.run am_h261 5 (F' := (603, [(0, .retAddr 1), (1, .ref 0), (2, .ref 83), (3, .int v3)], [.int (v3 + 1), .retAddr 1, .ref 83, .int r112])) (S' := (am_sh, q.1, q.2.1, q.2.2)) rfl ?_
        obtain ⟨hn113, hp⟩ := am_no_e hp
        refine am_Rn.stepG am_h261 (c := (v3 + 1) < 0 ∨ Xs.1 ≤ (v3 + 1).toNatClampNeg) (F' := (604, [(0, .retAddr 1), (1, .ref 0), (2, .ref 83), (3, .int v3)], [.int (Xs.2 ((v3 + 1).toNatClampNeg)), .ref 83, .int r112])) (S' := (am_sh, q.1, q.2.1, q.2.2)) rfl hn113 ?_
        obtain ⟨r114, h_r114, hp⟩ := am_bind hp
        refine am_Rn.call am_h261 (mj := 229) (As := [.ref 83, .int (Xs.2 ((v3 + 1).toNatClampNeg))]) (F' := (607, [(0, .retAddr 1), (1, .ref 0), (2, .ref 83), (3, .int v3)], [.int r112])) (M' := am_m229) (r := some (.int r114)) (S1 := (am_sh, q.1, q.2.1, q.2.2)) rfl am_h229 rfl (ezM_longest (by omega) (Xs.2 ((v3 + 1).toNatClampNeg)) q.2 _ h_r114) ?_
        refine am_Rn.ite am_h261 (c := r112 = r114) (t := 885) (f := 610) (lv := [(0, .retAddr 1), (1, .ref 0), (2, .ref 83), (3, .int v3)]) (st := []) (S' := (am_sh, q.1, q.2.1, q.2.2)) rfl hp (fun hc115 hp => ?_) (fun hc115 hp => ?_)
        · refine am_Rn.run am_h261 2 (F' := (28, [(3, .int (v3 + 6)), (0, .retAddr 1), (1, .ref 0), (2, .ref 83)], [])) (S' := (am_sh, q.1, q.2.1, q.2.2)) rfl ?_
          refine am_Rn.sub [1, 2, 3, 0] rfl rfl ?_
          exact ezW_law_L28 hd R n (v3 + 6) q hp
        · refine am_Rn.run am_h261 1 (F' := (611, [(0, .retAddr 1), (1, .ref 0), (2, .ref 83), (3, .int v3)], [.int 0])) (S' := (am_sh, q.1, q.2.1, q.2.2)) rfl ?_
          cases hp
          exact am_Rn.ret am_h261 rfl
      refine am_ite hp (fun hc116 hp => ?_) (fun hc116 hp => ?_)
      · rw [show am_sw x3 0 885 [164, 197, 230, 263, 326, 349, 362, 385, 408, 431, 444, 477, 520, 553, 576, 589, 612, 635, 678, 701, 714, 747, 780, 803, 836, 849, 862] = 612 from by subst hc116; rfl]
        refine am_Rn.run am_h261 5 (F' := (617, [(0, .retAddr 1), (1, .ref 0), (2, .ref 83), (3, .int v3)], [.int (v3 + 1), .retAddr 1, .ref 0])) (S' := (am_sh, q.1, q.2.1, q.2.2)) rfl ?_
        obtain ⟨hn117, hp⟩ := am_no_e hp
        refine am_Rn.stepG am_h261 (c := (v3 + 1) < 0 ∨ Xs.1 ≤ (v3 + 1).toNatClampNeg) (F' := (618, [(0, .retAddr 1), (1, .ref 0), (2, .ref 83), (3, .int v3)], [.int (Xs.2 ((v3 + 1).toNatClampNeg)), .ref 0])) (S' := (am_sh, q.1, q.2.1, q.2.2)) rfl hn117 ?_
        obtain ⟨r118, h_r118, hp⟩ := am_bind hp
        refine am_Rn.call am_h261 (mj := 124) (As := [.ref 0, .int (Xs.2 ((v3 + 1).toNatClampNeg))]) (F' := (621, [(0, .retAddr 1), (1, .ref 0), (2, .ref 83), (3, .int v3)], [])) (M' := am_m124) (r := some (.int r118.1)) (S1 := (am_sh, r118.2, q.2.1, q.2.2)) rfl am_h124 rfl (ezH_fewest (by omega) (Xs.2 ((v3 + 1).toNatClampNeg)) q.1 _ h_r118) ?_
        refine am_Rn.run am_h261 5 (F' := (626, [(0, .retAddr 1), (1, .ref 0), (2, .ref 83), (3, .int v3)], [.int (v3 + 1), .retAddr 1, .ref 83, .int r118.1])) (S' := (am_sh, r118.2, q.2.1, q.2.2)) rfl ?_
        obtain ⟨hn119, hp⟩ := am_no_e hp
        refine am_Rn.stepG am_h261 (c := (v3 + 1) < 0 ∨ Xs.1 ≤ (v3 + 1).toNatClampNeg) (F' := (627, [(0, .retAddr 1), (1, .ref 0), (2, .ref 83), (3, .int v3)], [.int (Xs.2 ((v3 + 1).toNatClampNeg)), .ref 83, .int r118.1])) (S' := (am_sh, r118.2, q.2.1, q.2.2)) rfl hn119 ?_
        obtain ⟨r120, h_r120, hp⟩ := am_bind hp
        refine am_Rn.call am_h261 (mj := 246) (As := [.ref 83, .int (Xs.2 ((v3 + 1).toNatClampNeg))]) (F' := (630, [(0, .retAddr 1), (1, .ref 0), (2, .ref 83), (3, .int v3)], [.int r118.1])) (M' := am_m246) (r := some (.int r120.1)) (S1 := (am_sh, r118.2, r120.2.1, r120.2.2)) rfl am_h246 rfl (ezM_fewest (by omega) (Xs.2 ((v3 + 1).toNatClampNeg)) q.2 _ h_r120) ?_
        refine am_Rn.ite am_h261 (c := r118.1 = r120.1) (t := 885) (f := 633) (lv := [(0, .retAddr 1), (1, .ref 0), (2, .ref 83), (3, .int v3)]) (st := []) (S' := (am_sh, r118.2, r120.2.1, r120.2.2)) rfl hp (fun hc121 hp => ?_) (fun hc121 hp => ?_)
        · refine am_Rn.run am_h261 2 (F' := (28, [(3, .int (v3 + 6)), (0, .retAddr 1), (1, .ref 0), (2, .ref 83)], [])) (S' := (am_sh, r118.2, r120.2.1, r120.2.2)) rfl ?_
          refine am_Rn.sub [1, 2, 3, 0] rfl rfl ?_
          exact ezW_law_L28 hd R n (v3 + 6) ((r118.2, r120.2)) hp
        · refine am_Rn.run am_h261 1 (F' := (634, [(0, .retAddr 1), (1, .ref 0), (2, .ref 83), (3, .int v3)], [.int 0])) (S' := (am_sh, r118.2, r120.2.1, r120.2.2)) rfl ?_
          cases hp
          exact am_Rn.ret am_h261 rfl
      refine am_ite hp (fun hc122 hp => ?_) (fun hc122 hp => ?_)
      · rw [show am_sw x3 0 885 [164, 197, 230, 263, 326, 349, 362, 385, 408, 431, 444, 477, 520, 553, 576, 589, 612, 635, 678, 701, 714, 747, 780, 803, 836, 849, 862] = 635 from by subst hc122; rfl]
        refine am_Rn.run am_h261 5 (F' := (640, [(0, .retAddr 1), (1, .ref 0), (2, .ref 83), (3, .int v3)], [.int (v3 + 1), .retAddr 1, .ref 0])) (S' := (am_sh, q.1, q.2.1, q.2.2)) rfl ?_
        obtain ⟨hn123, hp⟩ := am_no_e hp
        refine am_Rn.stepG am_h261 (c := (v3 + 1) < 0 ∨ Xs.1 ≤ (v3 + 1).toNatClampNeg) (F' := (641, [(0, .retAddr 1), (1, .ref 0), (2, .ref 83), (3, .int v3)], [.int (Xs.2 ((v3 + 1).toNatClampNeg)), .ref 0])) (S' := (am_sh, q.1, q.2.1, q.2.2)) rfl hn123 ?_
        refine am_Rn.run am_h261 4 (F' := (645, [(0, .retAddr 1), (1, .ref 0), (2, .ref 83), (3, .int v3)], [.int (v3 + 2), .retAddr 1, .int (Xs.2 ((v3 + 1).toNatClampNeg)), .ref 0])) (S' := (am_sh, q.1, q.2.1, q.2.2)) rfl ?_
        obtain ⟨hn124, hp⟩ := am_no_e hp
        refine am_Rn.stepG am_h261 (c := (v3 + 2) < 0 ∨ Xs.1 ≤ (v3 + 2).toNatClampNeg) (F' := (646, [(0, .retAddr 1), (1, .ref 0), (2, .ref 83), (3, .int v3)], [.int (Xs.2 ((v3 + 2).toNatClampNeg)), .int (Xs.2 ((v3 + 1).toNatClampNeg)), .ref 0])) (S' := (am_sh, q.1, q.2.1, q.2.2)) rfl hn124 ?_
        refine am_Rn.run am_h261 4 (F' := (650, [(0, .retAddr 1), (1, .ref 0), (2, .ref 83), (3, .int v3)], [.int (v3 + 3), .retAddr 1, .int (Xs.2 ((v3 + 2).toNatClampNeg)), .int (Xs.2 ((v3 + 1).toNatClampNeg)), .ref 0])) (S' := (am_sh, q.1, q.2.1, q.2.2)) rfl ?_
        obtain ⟨hn125, hp⟩ := am_no_e hp
        refine am_Rn.stepG am_h261 (c := (v3 + 3) < 0 ∨ Xs.1 ≤ (v3 + 3).toNatClampNeg) (F' := (651, [(0, .retAddr 1), (1, .ref 0), (2, .ref 83), (3, .int v3)], [.int (Xs.2 ((v3 + 3).toNatClampNeg)), .int (Xs.2 ((v3 + 2).toNatClampNeg)), .int (Xs.2 ((v3 + 1).toNatClampNeg)), .ref 0])) (S' := (am_sh, q.1, q.2.1, q.2.2)) rfl hn125 ?_
        obtain ⟨r126, h_r126, hp⟩ := am_bind hp
        refine am_Rn.call am_h261 (mj := 125) (As := [.ref 0, .int (Xs.2 ((v3 + 1).toNatClampNeg)), .int (Xs.2 ((v3 + 2).toNatClampNeg)), .int (Xs.2 ((v3 + 3).toNatClampNeg))]) (F' := (654, [(0, .retAddr 1), (1, .ref 0), (2, .ref 83), (3, .int v3)], [])) (M' := am_m125) (r := some (.int r126.1)) (S1 := (am_sh, r126.2, q.2.1, q.2.2)) rfl am_h125 rfl (ezH_found (by omega) (Xs.2 ((v3 + 1).toNatClampNeg)) (Xs.2 ((v3 + 2).toNatClampNeg)) (Xs.2 ((v3 + 3).toNatClampNeg)) q.1 _ h_r126) ?_
        refine am_Rn.run am_h261 5 (F' := (659, [(0, .retAddr 1), (1, .ref 0), (2, .ref 83), (3, .int v3)], [.int (v3 + 1), .retAddr 1, .ref 83, .int r126.1])) (S' := (am_sh, r126.2, q.2.1, q.2.2)) rfl ?_
        obtain ⟨hn127, hp⟩ := am_no_e hp
        refine am_Rn.stepG am_h261 (c := (v3 + 1) < 0 ∨ Xs.1 ≤ (v3 + 1).toNatClampNeg) (F' := (660, [(0, .retAddr 1), (1, .ref 0), (2, .ref 83), (3, .int v3)], [.int (Xs.2 ((v3 + 1).toNatClampNeg)), .ref 83, .int r126.1])) (S' := (am_sh, r126.2, q.2.1, q.2.2)) rfl hn127 ?_
        refine am_Rn.run am_h261 4 (F' := (664, [(0, .retAddr 1), (1, .ref 0), (2, .ref 83), (3, .int v3)], [.int (v3 + 2), .retAddr 1, .int (Xs.2 ((v3 + 1).toNatClampNeg)), .ref 83, .int r126.1])) (S' := (am_sh, r126.2, q.2.1, q.2.2)) rfl ?_
        obtain ⟨hn128, hp⟩ := am_no_e hp
        refine am_Rn.stepG am_h261 (c := (v3 + 2) < 0 ∨ Xs.1 ≤ (v3 + 2).toNatClampNeg) (F' := (665, [(0, .retAddr 1), (1, .ref 0), (2, .ref 83), (3, .int v3)], [.int (Xs.2 ((v3 + 2).toNatClampNeg)), .int (Xs.2 ((v3 + 1).toNatClampNeg)), .ref 83, .int r126.1])) (S' := (am_sh, r126.2, q.2.1, q.2.2)) rfl hn128 ?_
        refine am_Rn.run am_h261 4 (F' := (669, [(0, .retAddr 1), (1, .ref 0), (2, .ref 83), (3, .int v3)], [.int (v3 + 3), .retAddr 1, .int (Xs.2 ((v3 + 2).toNatClampNeg)), .int (Xs.2 ((v3 + 1).toNatClampNeg)), .ref 83, .int r126.1])) (S' := (am_sh, r126.2, q.2.1, q.2.2)) rfl ?_
        obtain ⟨hn129, hp⟩ := am_no_e hp
        refine am_Rn.stepG am_h261 (c := (v3 + 3) < 0 ∨ Xs.1 ≤ (v3 + 3).toNatClampNeg) (F' := (670, [(0, .retAddr 1), (1, .ref 0), (2, .ref 83), (3, .int v3)], [.int (Xs.2 ((v3 + 3).toNatClampNeg)), .int (Xs.2 ((v3 + 2).toNatClampNeg)), .int (Xs.2 ((v3 + 1).toNatClampNeg)), .ref 83, .int r126.1])) (S' := (am_sh, r126.2, q.2.1, q.2.2)) rfl hn129 ?_
        obtain ⟨r130, h_r130, hp⟩ := am_bind hp
        refine am_Rn.call am_h261 (mj := 248) (As := [.ref 83, .int (Xs.2 ((v3 + 1).toNatClampNeg)), .int (Xs.2 ((v3 + 2).toNatClampNeg)), .int (Xs.2 ((v3 + 3).toNatClampNeg))]) (F' := (673, [(0, .retAddr 1), (1, .ref 0), (2, .ref 83), (3, .int v3)], [.int r126.1])) (M' := am_m248) (r := some (.int r130.1)) (S1 := (am_sh, r126.2, r130.2.1, r130.2.2)) rfl am_h248 rfl (ezM_found (by omega) (Xs.2 ((v3 + 1).toNatClampNeg)) (Xs.2 ((v3 + 2).toNatClampNeg)) (Xs.2 ((v3 + 3).toNatClampNeg)) q.2 _ h_r130) ?_
        refine am_Rn.ite am_h261 (c := r126.1 = r130.1) (t := 885) (f := 676) (lv := [(0, .retAddr 1), (1, .ref 0), (2, .ref 83), (3, .int v3)]) (st := []) (S' := (am_sh, r126.2, r130.2.1, r130.2.2)) rfl hp (fun hc131 hp => ?_) (fun hc131 hp => ?_)
        · refine am_Rn.run am_h261 2 (F' := (28, [(3, .int (v3 + 6)), (0, .retAddr 1), (1, .ref 0), (2, .ref 83)], [])) (S' := (am_sh, r126.2, r130.2.1, r130.2.2)) rfl ?_
          refine am_Rn.sub [1, 2, 3, 0] rfl rfl ?_
          exact ezW_law_L28 hd R n (v3 + 6) ((r126.2, r130.2)) hp
        · refine am_Rn.run am_h261 1 (F' := (677, [(0, .retAddr 1), (1, .ref 0), (2, .ref 83), (3, .int v3)], [.int 0])) (S' := (am_sh, r126.2, r130.2.1, r130.2.2)) rfl ?_
          cases hp
          exact am_Rn.ret am_h261 rfl
      refine am_ite hp (fun hc132 hp => ?_) (fun hc132 hp => ?_)
      · rw [show am_sw x3 0 885 [164, 197, 230, 263, 326, 349, 362, 385, 408, 431, 444, 477, 520, 553, 576, 589, 612, 635, 678, 701, 714, 747, 780, 803, 836, 849, 862] = 678 from by subst hc132; rfl]
        refine am_Rn.run am_h261 5 (F' := (683, [(0, .retAddr 1), (1, .ref 0), (2, .ref 83), (3, .int v3)], [.int (v3 + 1), .retAddr 1, .ref 0])) (S' := (am_sh, q.1, q.2.1, q.2.2)) rfl ?_
        obtain ⟨hn133, hp⟩ := am_no_e hp
        refine am_Rn.stepG am_h261 (c := (v3 + 1) < 0 ∨ Xs.1 ≤ (v3 + 1).toNatClampNeg) (F' := (684, [(0, .retAddr 1), (1, .ref 0), (2, .ref 83), (3, .int v3)], [.int (Xs.2 ((v3 + 1).toNatClampNeg)), .ref 0])) (S' := (am_sh, q.1, q.2.1, q.2.2)) rfl hn133 ?_
        obtain ⟨r134, h_r134, hp⟩ := am_bind hp
        refine am_Rn.call am_h261 (mj := 126) (As := [.ref 0, .int (Xs.2 ((v3 + 1).toNatClampNeg))]) (F' := (687, [(0, .retAddr 1), (1, .ref 0), (2, .ref 83), (3, .int v3)], [])) (M' := am_m126) (r := some (.int r134.1)) (S1 := (am_sh, r134.2, q.2.1, q.2.2)) rfl am_h126 rfl (ezH_take (by omega) (Xs.2 ((v3 + 1).toNatClampNeg)) q.1 _ h_r134) ?_
        refine am_Rn.run am_h261 5 (F' := (692, [(0, .retAddr 1), (1, .ref 0), (2, .ref 83), (3, .int v3)], [.int (v3 + 1), .retAddr 1, .ref 83, .int r134.1])) (S' := (am_sh, r134.2, q.2.1, q.2.2)) rfl ?_
        obtain ⟨hn135, hp⟩ := am_no_e hp
        refine am_Rn.stepG am_h261 (c := (v3 + 1) < 0 ∨ Xs.1 ≤ (v3 + 1).toNatClampNeg) (F' := (693, [(0, .retAddr 1), (1, .ref 0), (2, .ref 83), (3, .int v3)], [.int (Xs.2 ((v3 + 1).toNatClampNeg)), .ref 83, .int r134.1])) (S' := (am_sh, r134.2, q.2.1, q.2.2)) rfl hn135 ?_
        obtain ⟨r136, h_r136, hp⟩ := am_bind hp
        refine am_Rn.call am_h261 (mj := 249) (As := [.ref 83, .int (Xs.2 ((v3 + 1).toNatClampNeg))]) (F' := (696, [(0, .retAddr 1), (1, .ref 0), (2, .ref 83), (3, .int v3)], [.int r134.1])) (M' := am_m249) (r := some (.int r136.1)) (S1 := (am_sh, r134.2, r136.2.1, r136.2.2)) rfl am_h249 rfl (ezM_take (by omega) (Xs.2 ((v3 + 1).toNatClampNeg)) q.2 _ h_r136) ?_
        refine am_Rn.ite am_h261 (c := r134.1 = r136.1) (t := 885) (f := 699) (lv := [(0, .retAddr 1), (1, .ref 0), (2, .ref 83), (3, .int v3)]) (st := []) (S' := (am_sh, r134.2, r136.2.1, r136.2.2)) rfl hp (fun hc137 hp => ?_) (fun hc137 hp => ?_)
        · refine am_Rn.run am_h261 2 (F' := (28, [(3, .int (v3 + 6)), (0, .retAddr 1), (1, .ref 0), (2, .ref 83)], [])) (S' := (am_sh, r134.2, r136.2.1, r136.2.2)) rfl ?_
          refine am_Rn.sub [1, 2, 3, 0] rfl rfl ?_
          exact ezW_law_L28 hd R n (v3 + 6) ((r134.2, r136.2)) hp
        · refine am_Rn.run am_h261 1 (F' := (700, [(0, .retAddr 1), (1, .ref 0), (2, .ref 83), (3, .int v3)], [.int 0])) (S' := (am_sh, r134.2, r136.2.1, r136.2.2)) rfl ?_
          cases hp
          exact am_Rn.ret am_h261 rfl
      refine am_ite hp (fun hc138 hp => ?_) (fun hc138 hp => ?_)
      · rw [show am_sw x3 0 885 [164, 197, 230, 263, 326, 349, 362, 385, 408, 431, 444, 477, 520, 553, 576, 589, 612, 635, 678, 701, 714, 747, 780, 803, 836, 849, 862] = 701 from by subst hc138; rfl]
        refine am_Rn.run am_h261 1 (F' := (702, [(0, .retAddr 1), (1, .ref 0), (2, .ref 83), (3, .int v3)], [.ref 0])) (S' := (am_sh, q.1, q.2.1, q.2.2)) rfl ?_
        obtain ⟨r139, h_r139, hp⟩ := am_bind hp
        refine am_Rn.call am_h261 (mj := 127) (As := [.ref 0]) (F' := (705, [(0, .retAddr 1), (1, .ref 0), (2, .ref 83), (3, .int v3)], [])) (M' := am_m127) (r := some (.int r139.1)) (S1 := (am_sh, r139.2, q.2.1, q.2.2)) rfl am_h127 rfl (ezH_least (by omega) q.1 _ h_r139) ?_
        refine am_Rn.run am_h261 1 (F' := (706, [(0, .retAddr 1), (1, .ref 0), (2, .ref 83), (3, .int v3)], [.ref 83, .int r139.1])) (S' := (am_sh, r139.2, q.2.1, q.2.2)) rfl ?_
        obtain ⟨r140, h_r140, hp⟩ := am_bind hp
        refine am_Rn.call am_h261 (mj := 250) (As := [.ref 83]) (F' := (709, [(0, .retAddr 1), (1, .ref 0), (2, .ref 83), (3, .int v3)], [.int r139.1])) (M' := am_m250) (r := some (.int r140.1)) (S1 := (am_sh, r139.2, r140.2.1, r140.2.2)) rfl am_h250 rfl (ezM_least (by omega) q.2 _ h_r140) ?_
        refine am_Rn.ite am_h261 (c := r139.1 = r140.1) (t := 885) (f := 712) (lv := [(0, .retAddr 1), (1, .ref 0), (2, .ref 83), (3, .int v3)]) (st := []) (S' := (am_sh, r139.2, r140.2.1, r140.2.2)) rfl hp (fun hc141 hp => ?_) (fun hc141 hp => ?_)
        · refine am_Rn.run am_h261 2 (F' := (28, [(3, .int (v3 + 6)), (0, .retAddr 1), (1, .ref 0), (2, .ref 83)], [])) (S' := (am_sh, r139.2, r140.2.1, r140.2.2)) rfl ?_
          refine am_Rn.sub [1, 2, 3, 0] rfl rfl ?_
          exact ezW_law_L28 hd R n (v3 + 6) ((r139.2, r140.2)) hp
        · refine am_Rn.run am_h261 1 (F' := (713, [(0, .retAddr 1), (1, .ref 0), (2, .ref 83), (3, .int v3)], [.int 0])) (S' := (am_sh, r139.2, r140.2.1, r140.2.2)) rfl ?_
          cases hp
          exact am_Rn.ret am_h261 rfl
      refine am_ite hp (fun hc142 hp => ?_) (fun hc142 hp => ?_)
      · rw [show am_sw x3 0 885 [164, 197, 230, 263, 326, 349, 362, 385, 408, 431, 444, 477, 520, 553, 576, 589, 612, 635, 678, 701, 714, 747, 780, 803, 836, 849, 862] = 714 from by subst hc142; rfl]
        refine am_Rn.run am_h261 5 (F' := (719, [(0, .retAddr 1), (1, .ref 0), (2, .ref 83), (3, .int v3)], [.int (v3 + 1), .retAddr 1, .ref 0])) (S' := (am_sh, q.1, q.2.1, q.2.2)) rfl ?_
        obtain ⟨hn143, hp⟩ := am_no_e hp
        refine am_Rn.stepG am_h261 (c := (v3 + 1) < 0 ∨ Xs.1 ≤ (v3 + 1).toNatClampNeg) (F' := (720, [(0, .retAddr 1), (1, .ref 0), (2, .ref 83), (3, .int v3)], [.int (Xs.2 ((v3 + 1).toNatClampNeg)), .ref 0])) (S' := (am_sh, q.1, q.2.1, q.2.2)) rfl hn143 ?_
        refine am_Rn.run am_h261 4 (F' := (724, [(0, .retAddr 1), (1, .ref 0), (2, .ref 83), (3, .int v3)], [.int (v3 + 2), .retAddr 1, .int (Xs.2 ((v3 + 1).toNatClampNeg)), .ref 0])) (S' := (am_sh, q.1, q.2.1, q.2.2)) rfl ?_
        obtain ⟨hn144, hp⟩ := am_no_e hp
        refine am_Rn.stepG am_h261 (c := (v3 + 2) < 0 ∨ Xs.1 ≤ (v3 + 2).toNatClampNeg) (F' := (725, [(0, .retAddr 1), (1, .ref 0), (2, .ref 83), (3, .int v3)], [.int (Xs.2 ((v3 + 2).toNatClampNeg)), .int (Xs.2 ((v3 + 1).toNatClampNeg)), .ref 0])) (S' := (am_sh, q.1, q.2.1, q.2.2)) rfl hn144 ?_
        obtain ⟨r145, h_r145, hp⟩ := am_bind hp
        refine am_Rn.call am_h261 (mj := 128) (As := [.ref 0, .int (Xs.2 ((v3 + 1).toNatClampNeg)), .int (Xs.2 ((v3 + 2).toNatClampNeg))]) (F' := (728, [(0, .retAddr 1), (1, .ref 0), (2, .ref 83), (3, .int v3)], [])) (M' := am_m128) (r := some (.int r145.1)) (S1 := (am_sh, r145.2, q.2.1, q.2.2)) rfl am_h128 rfl (ezH_strike (by omega) (Xs.2 ((v3 + 1).toNatClampNeg)) (Xs.2 ((v3 + 2).toNatClampNeg)) q.1 _ h_r145) ?_
        refine am_Rn.run am_h261 5 (F' := (733, [(0, .retAddr 1), (1, .ref 0), (2, .ref 83), (3, .int v3)], [.int (v3 + 1), .retAddr 1, .ref 83, .int r145.1])) (S' := (am_sh, r145.2, q.2.1, q.2.2)) rfl ?_
        obtain ⟨hn146, hp⟩ := am_no_e hp
        refine am_Rn.stepG am_h261 (c := (v3 + 1) < 0 ∨ Xs.1 ≤ (v3 + 1).toNatClampNeg) (F' := (734, [(0, .retAddr 1), (1, .ref 0), (2, .ref 83), (3, .int v3)], [.int (Xs.2 ((v3 + 1).toNatClampNeg)), .ref 83, .int r145.1])) (S' := (am_sh, r145.2, q.2.1, q.2.2)) rfl hn146 ?_
        refine am_Rn.run am_h261 4 (F' := (738, [(0, .retAddr 1), (1, .ref 0), (2, .ref 83), (3, .int v3)], [.int (v3 + 2), .retAddr 1, .int (Xs.2 ((v3 + 1).toNatClampNeg)), .ref 83, .int r145.1])) (S' := (am_sh, r145.2, q.2.1, q.2.2)) rfl ?_
        obtain ⟨hn147, hp⟩ := am_no_e hp
        refine am_Rn.stepG am_h261 (c := (v3 + 2) < 0 ∨ Xs.1 ≤ (v3 + 2).toNatClampNeg) (F' := (739, [(0, .retAddr 1), (1, .ref 0), (2, .ref 83), (3, .int v3)], [.int (Xs.2 ((v3 + 2).toNatClampNeg)), .int (Xs.2 ((v3 + 1).toNatClampNeg)), .ref 83, .int r145.1])) (S' := (am_sh, r145.2, q.2.1, q.2.2)) rfl hn147 ?_
        obtain ⟨r148, h_r148, hp⟩ := am_bind hp
        refine am_Rn.call am_h261 (mj := 251) (As := [.ref 83, .int (Xs.2 ((v3 + 1).toNatClampNeg)), .int (Xs.2 ((v3 + 2).toNatClampNeg))]) (F' := (742, [(0, .retAddr 1), (1, .ref 0), (2, .ref 83), (3, .int v3)], [.int r145.1])) (M' := am_m251) (r := some (.int r148.1)) (S1 := (am_sh, r145.2, r148.2.1, r148.2.2)) rfl am_h251 rfl (ezM_strike (by omega) (Xs.2 ((v3 + 1).toNatClampNeg)) (Xs.2 ((v3 + 2).toNatClampNeg)) q.2 _ h_r148) ?_
        refine am_Rn.ite am_h261 (c := r145.1 = r148.1) (t := 885) (f := 745) (lv := [(0, .retAddr 1), (1, .ref 0), (2, .ref 83), (3, .int v3)]) (st := []) (S' := (am_sh, r145.2, r148.2.1, r148.2.2)) rfl hp (fun hc149 hp => ?_) (fun hc149 hp => ?_)
        · refine am_Rn.run am_h261 2 (F' := (28, [(3, .int (v3 + 6)), (0, .retAddr 1), (1, .ref 0), (2, .ref 83)], [])) (S' := (am_sh, r145.2, r148.2.1, r148.2.2)) rfl ?_
          refine am_Rn.sub [1, 2, 3, 0] rfl rfl ?_
          exact ezW_law_L28 hd R n (v3 + 6) ((r145.2, r148.2)) hp
        · refine am_Rn.run am_h261 1 (F' := (746, [(0, .retAddr 1), (1, .ref 0), (2, .ref 83), (3, .int v3)], [.int 0])) (S' := (am_sh, r145.2, r148.2.1, r148.2.2)) rfl ?_
          cases hp
          exact am_Rn.ret am_h261 rfl
      refine am_ite hp (fun hc150 hp => ?_) (fun hc150 hp => ?_)
      · rw [show am_sw x3 0 885 [164, 197, 230, 263, 326, 349, 362, 385, 408, 431, 444, 477, 520, 553, 576, 589, 612, 635, 678, 701, 714, 747, 780, 803, 836, 849, 862] = 747 from by subst hc150; rfl]
        refine am_Rn.run am_h261 5 (F' := (752, [(0, .retAddr 1), (1, .ref 0), (2, .ref 83), (3, .int v3)], [.int (v3 + 1), .retAddr 1, .ref 0])) (S' := (am_sh, q.1, q.2.1, q.2.2)) rfl ?_
        obtain ⟨hn151, hp⟩ := am_no_e hp
        refine am_Rn.stepG am_h261 (c := (v3 + 1) < 0 ∨ Xs.1 ≤ (v3 + 1).toNatClampNeg) (F' := (753, [(0, .retAddr 1), (1, .ref 0), (2, .ref 83), (3, .int v3)], [.int (Xs.2 ((v3 + 1).toNatClampNeg)), .ref 0])) (S' := (am_sh, q.1, q.2.1, q.2.2)) rfl hn151 ?_
        refine am_Rn.run am_h261 4 (F' := (757, [(0, .retAddr 1), (1, .ref 0), (2, .ref 83), (3, .int v3)], [.int (v3 + 2), .retAddr 1, .int (Xs.2 ((v3 + 1).toNatClampNeg)), .ref 0])) (S' := (am_sh, q.1, q.2.1, q.2.2)) rfl ?_
        obtain ⟨hn152, hp⟩ := am_no_e hp
        refine am_Rn.stepG am_h261 (c := (v3 + 2) < 0 ∨ Xs.1 ≤ (v3 + 2).toNatClampNeg) (F' := (758, [(0, .retAddr 1), (1, .ref 0), (2, .ref 83), (3, .int v3)], [.int (Xs.2 ((v3 + 2).toNatClampNeg)), .int (Xs.2 ((v3 + 1).toNatClampNeg)), .ref 0])) (S' := (am_sh, q.1, q.2.1, q.2.2)) rfl hn152 ?_
        obtain ⟨r153, h_r153, hp⟩ := am_bind hp
        refine am_Rn.call am_h261 (mj := 129) (As := [.ref 0, .int (Xs.2 ((v3 + 1).toNatClampNeg)), .int (Xs.2 ((v3 + 2).toNatClampNeg))]) (F' := (761, [(0, .retAddr 1), (1, .ref 0), (2, .ref 83), (3, .int v3)], [])) (M' := am_m129) (r := some (.int r153.1)) (S1 := (am_sh, r153.2, q.2.1, q.2.2)) rfl am_h129 rfl (ezH_ill (by omega) (Xs.2 ((v3 + 1).toNatClampNeg)) (Xs.2 ((v3 + 2).toNatClampNeg)) q.1 _ h_r153) ?_
        refine am_Rn.run am_h261 5 (F' := (766, [(0, .retAddr 1), (1, .ref 0), (2, .ref 83), (3, .int v3)], [.int (v3 + 1), .retAddr 1, .ref 83, .int r153.1])) (S' := (am_sh, r153.2, q.2.1, q.2.2)) rfl ?_
        obtain ⟨hn154, hp⟩ := am_no_e hp
        refine am_Rn.stepG am_h261 (c := (v3 + 1) < 0 ∨ Xs.1 ≤ (v3 + 1).toNatClampNeg) (F' := (767, [(0, .retAddr 1), (1, .ref 0), (2, .ref 83), (3, .int v3)], [.int (Xs.2 ((v3 + 1).toNatClampNeg)), .ref 83, .int r153.1])) (S' := (am_sh, r153.2, q.2.1, q.2.2)) rfl hn154 ?_
        refine am_Rn.run am_h261 4 (F' := (771, [(0, .retAddr 1), (1, .ref 0), (2, .ref 83), (3, .int v3)], [.int (v3 + 2), .retAddr 1, .int (Xs.2 ((v3 + 1).toNatClampNeg)), .ref 83, .int r153.1])) (S' := (am_sh, r153.2, q.2.1, q.2.2)) rfl ?_
        obtain ⟨hn155, hp⟩ := am_no_e hp
        refine am_Rn.stepG am_h261 (c := (v3 + 2) < 0 ∨ Xs.1 ≤ (v3 + 2).toNatClampNeg) (F' := (772, [(0, .retAddr 1), (1, .ref 0), (2, .ref 83), (3, .int v3)], [.int (Xs.2 ((v3 + 2).toNatClampNeg)), .int (Xs.2 ((v3 + 1).toNatClampNeg)), .ref 83, .int r153.1])) (S' := (am_sh, r153.2, q.2.1, q.2.2)) rfl hn155 ?_
        obtain ⟨r156, h_r156, hp⟩ := am_bind hp
        refine am_Rn.call am_h261 (mj := 253) (As := [.ref 83, .int (Xs.2 ((v3 + 1).toNatClampNeg)), .int (Xs.2 ((v3 + 2).toNatClampNeg))]) (F' := (775, [(0, .retAddr 1), (1, .ref 0), (2, .ref 83), (3, .int v3)], [.int r153.1])) (M' := am_m253) (r := some (.int r156.1)) (S1 := (am_sh, r153.2, r156.2.1, r156.2.2)) rfl am_h253 rfl (ezM_ill (by omega) (Xs.2 ((v3 + 1).toNatClampNeg)) (Xs.2 ((v3 + 2).toNatClampNeg)) q.2 _ h_r156) ?_
        refine am_Rn.ite am_h261 (c := r153.1 = r156.1) (t := 885) (f := 778) (lv := [(0, .retAddr 1), (1, .ref 0), (2, .ref 83), (3, .int v3)]) (st := []) (S' := (am_sh, r153.2, r156.2.1, r156.2.2)) rfl hp (fun hc157 hp => ?_) (fun hc157 hp => ?_)
        · refine am_Rn.run am_h261 2 (F' := (28, [(3, .int (v3 + 6)), (0, .retAddr 1), (1, .ref 0), (2, .ref 83)], [])) (S' := (am_sh, r153.2, r156.2.1, r156.2.2)) rfl ?_
          refine am_Rn.sub [1, 2, 3, 0] rfl rfl ?_
          exact ezW_law_L28 hd R n (v3 + 6) ((r153.2, r156.2)) hp
        · refine am_Rn.run am_h261 1 (F' := (779, [(0, .retAddr 1), (1, .ref 0), (2, .ref 83), (3, .int v3)], [.int 0])) (S' := (am_sh, r153.2, r156.2.1, r156.2.2)) rfl ?_
          cases hp
          exact am_Rn.ret am_h261 rfl
      refine am_ite hp (fun hc158 hp => ?_) (fun hc158 hp => ?_)
      · rw [show am_sw x3 0 885 [164, 197, 230, 263, 326, 349, 362, 385, 408, 431, 444, 477, 520, 553, 576, 589, 612, 635, 678, 701, 714, 747, 780, 803, 836, 849, 862] = 780 from by subst hc158; rfl]
        refine am_Rn.run am_h261 5 (F' := (785, [(0, .retAddr 1), (1, .ref 0), (2, .ref 83), (3, .int v3)], [.int (v3 + 1), .retAddr 1, .ref 0])) (S' := (am_sh, q.1, q.2.1, q.2.2)) rfl ?_
        obtain ⟨hn159, hp⟩ := am_no_e hp
        refine am_Rn.stepG am_h261 (c := (v3 + 1) < 0 ∨ Xs.1 ≤ (v3 + 1).toNatClampNeg) (F' := (786, [(0, .retAddr 1), (1, .ref 0), (2, .ref 83), (3, .int v3)], [.int (Xs.2 ((v3 + 1).toNatClampNeg)), .ref 0])) (S' := (am_sh, q.1, q.2.1, q.2.2)) rfl hn159 ?_
        obtain ⟨r160, h_r160, hp⟩ := am_bind hp
        refine am_Rn.call am_h261 (mj := 130) (As := [.ref 0, .int (Xs.2 ((v3 + 1).toNatClampNeg))]) (F' := (789, [(0, .retAddr 1), (1, .ref 0), (2, .ref 83), (3, .int v3)], [])) (M' := am_m130) (r := some (.int r160.1)) (S1 := (am_sh, r160.2, q.2.1, q.2.2)) rfl am_h130 rfl (ezH_bound (by omega) (Xs.2 ((v3 + 1).toNatClampNeg)) q.1 _ h_r160) ?_
        refine am_Rn.run am_h261 5 (F' := (794, [(0, .retAddr 1), (1, .ref 0), (2, .ref 83), (3, .int v3)], [.int (v3 + 1), .retAddr 1, .ref 83, .int r160.1])) (S' := (am_sh, r160.2, q.2.1, q.2.2)) rfl ?_
        obtain ⟨hn161, hp⟩ := am_no_e hp
        refine am_Rn.stepG am_h261 (c := (v3 + 1) < 0 ∨ Xs.1 ≤ (v3 + 1).toNatClampNeg) (F' := (795, [(0, .retAddr 1), (1, .ref 0), (2, .ref 83), (3, .int v3)], [.int (Xs.2 ((v3 + 1).toNatClampNeg)), .ref 83, .int r160.1])) (S' := (am_sh, r160.2, q.2.1, q.2.2)) rfl hn161 ?_
        obtain ⟨r162, h_r162, hp⟩ := am_bind hp
        refine am_Rn.call am_h261 (mj := 254) (As := [.ref 83, .int (Xs.2 ((v3 + 1).toNatClampNeg))]) (F' := (798, [(0, .retAddr 1), (1, .ref 0), (2, .ref 83), (3, .int v3)], [.int r160.1])) (M' := am_m254) (r := some (.int r162.1)) (S1 := (am_sh, r160.2, r162.2.1, r162.2.2)) rfl am_h254 rfl (ezM_bound (by omega) (Xs.2 ((v3 + 1).toNatClampNeg)) q.2 _ h_r162) ?_
        refine am_Rn.ite am_h261 (c := r160.1 = r162.1) (t := 885) (f := 801) (lv := [(0, .retAddr 1), (1, .ref 0), (2, .ref 83), (3, .int v3)]) (st := []) (S' := (am_sh, r160.2, r162.2.1, r162.2.2)) rfl hp (fun hc163 hp => ?_) (fun hc163 hp => ?_)
        · refine am_Rn.run am_h261 2 (F' := (28, [(3, .int (v3 + 6)), (0, .retAddr 1), (1, .ref 0), (2, .ref 83)], [])) (S' := (am_sh, r160.2, r162.2.1, r162.2.2)) rfl ?_
          refine am_Rn.sub [1, 2, 3, 0] rfl rfl ?_
          exact ezW_law_L28 hd R n (v3 + 6) ((r160.2, r162.2)) hp
        · refine am_Rn.run am_h261 1 (F' := (802, [(0, .retAddr 1), (1, .ref 0), (2, .ref 83), (3, .int v3)], [.int 0])) (S' := (am_sh, r160.2, r162.2.1, r162.2.2)) rfl ?_
          cases hp
          exact am_Rn.ret am_h261 rfl
      refine am_ite hp (fun hc164 hp => ?_) (fun hc164 hp => ?_)
      · rw [show am_sw x3 0 885 [164, 197, 230, 263, 326, 349, 362, 385, 408, 431, 444, 477, 520, 553, 576, 589, 612, 635, 678, 701, 714, 747, 780, 803, 836, 849, 862] = 803 from by subst hc164; rfl]
        refine am_Rn.run am_h261 5 (F' := (808, [(0, .retAddr 1), (1, .ref 0), (2, .ref 83), (3, .int v3)], [.int (v3 + 1), .retAddr 1, .ref 0])) (S' := (am_sh, q.1, q.2.1, q.2.2)) rfl ?_
        obtain ⟨hn165, hp⟩ := am_no_e hp
        refine am_Rn.stepG am_h261 (c := (v3 + 1) < 0 ∨ Xs.1 ≤ (v3 + 1).toNatClampNeg) (F' := (809, [(0, .retAddr 1), (1, .ref 0), (2, .ref 83), (3, .int v3)], [.int (Xs.2 ((v3 + 1).toNatClampNeg)), .ref 0])) (S' := (am_sh, q.1, q.2.1, q.2.2)) rfl hn165 ?_
        refine am_Rn.run am_h261 4 (F' := (813, [(0, .retAddr 1), (1, .ref 0), (2, .ref 83), (3, .int v3)], [.int (v3 + 2), .retAddr 1, .int (Xs.2 ((v3 + 1).toNatClampNeg)), .ref 0])) (S' := (am_sh, q.1, q.2.1, q.2.2)) rfl ?_
        obtain ⟨hn166, hp⟩ := am_no_e hp
        refine am_Rn.stepG am_h261 (c := (v3 + 2) < 0 ∨ Xs.1 ≤ (v3 + 2).toNatClampNeg) (F' := (814, [(0, .retAddr 1), (1, .ref 0), (2, .ref 83), (3, .int v3)], [.int (Xs.2 ((v3 + 2).toNatClampNeg)), .int (Xs.2 ((v3 + 1).toNatClampNeg)), .ref 0])) (S' := (am_sh, q.1, q.2.1, q.2.2)) rfl hn166 ?_
        obtain ⟨r167, h_r167, hp⟩ := am_bind hp
        refine am_Rn.call am_h261 (mj := 131) (As := [.ref 0, .int (Xs.2 ((v3 + 1).toNatClampNeg)), .int (Xs.2 ((v3 + 2).toNatClampNeg))]) (F' := (817, [(0, .retAddr 1), (1, .ref 0), (2, .ref 83), (3, .int v3)], [])) (M' := am_m131) (r := some (.int r167.1)) (S1 := (am_sh, r167.2, q.2.1, q.2.2)) rfl am_h131 rfl (ezH_sees (by omega) (Xs.2 ((v3 + 1).toNatClampNeg)) (Xs.2 ((v3 + 2).toNatClampNeg)) q.1 _ h_r167) ?_
        refine am_Rn.run am_h261 5 (F' := (822, [(0, .retAddr 1), (1, .ref 0), (2, .ref 83), (3, .int v3)], [.int (v3 + 1), .retAddr 1, .ref 83, .int r167.1])) (S' := (am_sh, r167.2, q.2.1, q.2.2)) rfl ?_
        obtain ⟨hn168, hp⟩ := am_no_e hp
        refine am_Rn.stepG am_h261 (c := (v3 + 1) < 0 ∨ Xs.1 ≤ (v3 + 1).toNatClampNeg) (F' := (823, [(0, .retAddr 1), (1, .ref 0), (2, .ref 83), (3, .int v3)], [.int (Xs.2 ((v3 + 1).toNatClampNeg)), .ref 83, .int r167.1])) (S' := (am_sh, r167.2, q.2.1, q.2.2)) rfl hn168 ?_
        refine am_Rn.run am_h261 4 (F' := (827, [(0, .retAddr 1), (1, .ref 0), (2, .ref 83), (3, .int v3)], [.int (v3 + 2), .retAddr 1, .int (Xs.2 ((v3 + 1).toNatClampNeg)), .ref 83, .int r167.1])) (S' := (am_sh, r167.2, q.2.1, q.2.2)) rfl ?_
        obtain ⟨hn169, hp⟩ := am_no_e hp
        refine am_Rn.stepG am_h261 (c := (v3 + 2) < 0 ∨ Xs.1 ≤ (v3 + 2).toNatClampNeg) (F' := (828, [(0, .retAddr 1), (1, .ref 0), (2, .ref 83), (3, .int v3)], [.int (Xs.2 ((v3 + 2).toNatClampNeg)), .int (Xs.2 ((v3 + 1).toNatClampNeg)), .ref 83, .int r167.1])) (S' := (am_sh, r167.2, q.2.1, q.2.2)) rfl hn169 ?_
        obtain ⟨r170, h_r170, hp⟩ := am_bind hp
        refine am_Rn.call am_h261 (mj := 255) (As := [.ref 83, .int (Xs.2 ((v3 + 1).toNatClampNeg)), .int (Xs.2 ((v3 + 2).toNatClampNeg))]) (F' := (831, [(0, .retAddr 1), (1, .ref 0), (2, .ref 83), (3, .int v3)], [.int r167.1])) (M' := am_m255) (r := some (.int r170.1)) (S1 := (am_sh, r167.2, r170.2.1, r170.2.2)) rfl am_h255 rfl (ezM_sees (by omega) (Xs.2 ((v3 + 1).toNatClampNeg)) (Xs.2 ((v3 + 2).toNatClampNeg)) q.2 _ h_r170) ?_
        refine am_Rn.ite am_h261 (c := r167.1 = r170.1) (t := 885) (f := 834) (lv := [(0, .retAddr 1), (1, .ref 0), (2, .ref 83), (3, .int v3)]) (st := []) (S' := (am_sh, r167.2, r170.2.1, r170.2.2)) rfl hp (fun hc171 hp => ?_) (fun hc171 hp => ?_)
        · refine am_Rn.run am_h261 2 (F' := (28, [(3, .int (v3 + 6)), (0, .retAddr 1), (1, .ref 0), (2, .ref 83)], [])) (S' := (am_sh, r167.2, r170.2.1, r170.2.2)) rfl ?_
          refine am_Rn.sub [1, 2, 3, 0] rfl rfl ?_
          exact ezW_law_L28 hd R n (v3 + 6) ((r167.2, r170.2)) hp
        · refine am_Rn.run am_h261 1 (F' := (835, [(0, .retAddr 1), (1, .ref 0), (2, .ref 83), (3, .int v3)], [.int 0])) (S' := (am_sh, r167.2, r170.2.1, r170.2.2)) rfl ?_
          cases hp
          exact am_Rn.ret am_h261 rfl
      refine am_ite hp (fun hc172 hp => ?_) (fun hc172 hp => ?_)
      · rw [show am_sw x3 0 885 [164, 197, 230, 263, 326, 349, 362, 385, 408, 431, 444, 477, 520, 553, 576, 589, 612, 635, 678, 701, 714, 747, 780, 803, 836, 849, 862] = 836 from by subst hc172; rfl]
        refine am_Rn.run am_h261 1 (F' := (837, [(0, .retAddr 1), (1, .ref 0), (2, .ref 83), (3, .int v3)], [.ref 0])) (S' := (am_sh, q.1, q.2.1, q.2.2)) rfl ?_
        obtain ⟨r173, h_r173, hp⟩ := am_b_e hp
        refine am_Rn.call am_h261 (mj := 132) (As := [.ref 0]) (F' := (840, [(0, .retAddr 1), (1, .ref 0), (2, .ref 83), (3, .int v3)], [])) (M' := am_m132) (r := some (.int r173.1)) (S1 := (am_sh, r173.2, q.2.1, q.2.2)) rfl am_h132 rfl (by subst h_r173; exact (ezH_image (by omega) q.1)) ?_
        refine am_Rn.run am_h261 1 (F' := (841, [(0, .retAddr 1), (1, .ref 0), (2, .ref 83), (3, .int v3)], [.ref 83, .int r173.1])) (S' := (am_sh, r173.2, q.2.1, q.2.2)) rfl ?_
        obtain ⟨r174, h_r174, hp⟩ := am_bind hp
        refine am_Rn.call am_h261 (mj := 256) (As := [.ref 83]) (F' := (844, [(0, .retAddr 1), (1, .ref 0), (2, .ref 83), (3, .int v3)], [.int r173.1])) (M' := am_m256) (r := some (.int r174.1)) (S1 := (am_sh, r173.2, r174.2.1, r174.2.2)) rfl am_h256 rfl (ezM_image (by omega) q.2 _ h_r174) ?_
        refine am_Rn.ite am_h261 (c := r173.1 = r174.1) (t := 885) (f := 847) (lv := [(0, .retAddr 1), (1, .ref 0), (2, .ref 83), (3, .int v3)]) (st := []) (S' := (am_sh, r173.2, r174.2.1, r174.2.2)) rfl hp (fun hc175 hp => ?_) (fun hc175 hp => ?_)
        · refine am_Rn.run am_h261 2 (F' := (28, [(3, .int (v3 + 6)), (0, .retAddr 1), (1, .ref 0), (2, .ref 83)], [])) (S' := (am_sh, r173.2, r174.2.1, r174.2.2)) rfl ?_
          refine am_Rn.sub [1, 2, 3, 0] rfl rfl ?_
          exact ezW_law_L28 hd R n (v3 + 6) ((r173.2, r174.2)) hp
        · refine am_Rn.run am_h261 1 (F' := (848, [(0, .retAddr 1), (1, .ref 0), (2, .ref 83), (3, .int v3)], [.int 0])) (S' := (am_sh, r173.2, r174.2.1, r174.2.2)) rfl ?_
          cases hp
          exact am_Rn.ret am_h261 rfl
      refine am_ite hp (fun hc176 hp => ?_) (fun hc176 hp => ?_)
      · rw [show am_sw x3 0 885 [164, 197, 230, 263, 326, 349, 362, 385, 408, 431, 444, 477, 520, 553, 576, 589, 612, 635, 678, 701, 714, 747, 780, 803, 836, 849, 862] = 849 from by subst hc176; rfl]
        refine am_Rn.run am_h261 1 (F' := (850, [(0, .retAddr 1), (1, .ref 0), (2, .ref 83), (3, .int v3)], [.ref 0])) (S' := (am_sh, q.1, q.2.1, q.2.2)) rfl ?_
        obtain ⟨r177, h_r177, hp⟩ := am_bind hp
        refine am_Rn.call am_h261 (mj := 133) (As := [.ref 0]) (F' := (853, [(0, .retAddr 1), (1, .ref 0), (2, .ref 83), (3, .int v3)], [])) (M' := am_m133) (r := some (.int r177.1)) (S1 := (am_sh, r177.2, q.2.1, q.2.2)) rfl am_h133 rfl (ezH_back (by omega) q.1 _ h_r177) ?_
        refine am_Rn.run am_h261 1 (F' := (854, [(0, .retAddr 1), (1, .ref 0), (2, .ref 83), (3, .int v3)], [.ref 83, .int r177.1])) (S' := (am_sh, r177.2, q.2.1, q.2.2)) rfl ?_
        obtain ⟨r178, h_r178, hp⟩ := am_bind hp
        refine am_Rn.call am_h261 (mj := 257) (As := [.ref 83]) (F' := (857, [(0, .retAddr 1), (1, .ref 0), (2, .ref 83), (3, .int v3)], [.int r177.1])) (M' := am_m257) (r := some (.int r178.1)) (S1 := (am_sh, r177.2, r178.2.1, r178.2.2)) rfl am_h257 rfl (ezM_back (by omega) q.2 _ h_r178) ?_
        refine am_Rn.ite am_h261 (c := r177.1 = r178.1) (t := 885) (f := 860) (lv := [(0, .retAddr 1), (1, .ref 0), (2, .ref 83), (3, .int v3)]) (st := []) (S' := (am_sh, r177.2, r178.2.1, r178.2.2)) rfl hp (fun hc179 hp => ?_) (fun hc179 hp => ?_)
        · refine am_Rn.run am_h261 2 (F' := (28, [(3, .int (v3 + 6)), (0, .retAddr 1), (1, .ref 0), (2, .ref 83)], [])) (S' := (am_sh, r177.2, r178.2.1, r178.2.2)) rfl ?_
          refine am_Rn.sub [1, 2, 3, 0] rfl rfl ?_
          exact ezW_law_L28 hd R n (v3 + 6) ((r177.2, r178.2)) hp
        · refine am_Rn.run am_h261 1 (F' := (861, [(0, .retAddr 1), (1, .ref 0), (2, .ref 83), (3, .int v3)], [.int 0])) (S' := (am_sh, r177.2, r178.2.1, r178.2.2)) rfl ?_
          cases hp
          exact am_Rn.ret am_h261 rfl
      refine am_ite hp (fun hc180 hp => ?_) (fun hc180 hp => ?_)
      · rw [show am_sw x3 0 885 [164, 197, 230, 263, 326, 349, 362, 385, 408, 431, 444, 477, 520, 553, 576, 589, 612, 635, 678, 701, 714, 747, 780, 803, 836, 849, 862] = 862 from by subst hc180; rfl]
        refine am_Rn.run am_h261 5 (F' := (867, [(0, .retAddr 1), (1, .ref 0), (2, .ref 83), (3, .int v3)], [.int (v3 + 1), .retAddr 1, .ref 0])) (S' := (am_sh, q.1, q.2.1, q.2.2)) rfl ?_
        obtain ⟨hn181, hp⟩ := am_no_e hp
        refine am_Rn.stepG am_h261 (c := (v3 + 1) < 0 ∨ Xs.1 ≤ (v3 + 1).toNatClampNeg) (F' := (868, [(0, .retAddr 1), (1, .ref 0), (2, .ref 83), (3, .int v3)], [.int (Xs.2 ((v3 + 1).toNatClampNeg)), .ref 0])) (S' := (am_sh, q.1, q.2.1, q.2.2)) rfl hn181 ?_
        obtain ⟨r182, h_r182, hp⟩ := am_bind hp
        refine am_Rn.call am_h261 (mj := 134) (As := [.ref 0, .int (Xs.2 ((v3 + 1).toNatClampNeg))]) (F' := (871, [(0, .retAddr 1), (1, .ref 0), (2, .ref 83), (3, .int v3)], [])) (M' := am_m134) (r := some (.int r182)) (S1 := (am_sh, q.1, q.2.1, q.2.2)) rfl am_h134 rfl (ezH_about (by omega) (Xs.2 ((v3 + 1).toNatClampNeg)) q.1 _ h_r182) ?_
        refine am_Rn.run am_h261 5 (F' := (876, [(0, .retAddr 1), (1, .ref 0), (2, .ref 83), (3, .int v3)], [.int (v3 + 1), .retAddr 1, .ref 83, .int r182])) (S' := (am_sh, q.1, q.2.1, q.2.2)) rfl ?_
        obtain ⟨hn183, hp⟩ := am_no_e hp
        refine am_Rn.stepG am_h261 (c := (v3 + 1) < 0 ∨ Xs.1 ≤ (v3 + 1).toNatClampNeg) (F' := (877, [(0, .retAddr 1), (1, .ref 0), (2, .ref 83), (3, .int v3)], [.int (Xs.2 ((v3 + 1).toNatClampNeg)), .ref 83, .int r182])) (S' := (am_sh, q.1, q.2.1, q.2.2)) rfl hn183 ?_
        obtain ⟨r184, h_r184, hp⟩ := am_bind hp
        refine am_Rn.call am_h261 (mj := 259) (As := [.ref 83, .int (Xs.2 ((v3 + 1).toNatClampNeg))]) (F' := (880, [(0, .retAddr 1), (1, .ref 0), (2, .ref 83), (3, .int v3)], [.int r182])) (M' := am_m259) (r := some (.int r184)) (S1 := (am_sh, q.1, q.2.1, q.2.2)) rfl am_h259 rfl (ezM_about (by omega) (Xs.2 ((v3 + 1).toNatClampNeg)) q.2 _ h_r184) ?_
        refine am_Rn.ite am_h261 (c := r182 = r184) (t := 885) (f := 883) (lv := [(0, .retAddr 1), (1, .ref 0), (2, .ref 83), (3, .int v3)]) (st := []) (S' := (am_sh, q.1, q.2.1, q.2.2)) rfl hp (fun hc185 hp => ?_) (fun hc185 hp => ?_)
        · refine am_Rn.run am_h261 2 (F' := (28, [(3, .int (v3 + 6)), (0, .retAddr 1), (1, .ref 0), (2, .ref 83)], [])) (S' := (am_sh, q.1, q.2.1, q.2.2)) rfl ?_
          refine am_Rn.sub [1, 2, 3, 0] rfl rfl ?_
          exact ezW_law_L28 hd R n (v3 + 6) q hp
        · refine am_Rn.run am_h261 1 (F' := (884, [(0, .retAddr 1), (1, .ref 0), (2, .ref 83), (3, .int v3)], [.int 0])) (S' := (am_sh, q.1, q.2.1, q.2.2)) rfl ?_
          cases hp
          exact am_Rn.ret am_h261 rfl
      · rw [show am_sw x3 0 885 [164, 197, 230, 263, 326, 349, 362, 385, 408, 431, 444, 477, 520, 553, 576, 589, 612, 635, 678, 701, 714, 747, 780, 803, 836, 849, 862] = 885 from (if_neg hc4).trans ((if_neg hc12).trans ((if_neg hc20).trans ((if_neg hc28).trans ((if_neg hc42).trans ((if_neg hc48).trans ((if_neg hc52).trans ((if_neg hc58).trans ((if_neg hc64).trans ((if_neg hc70).trans ((if_neg hc74).trans ((if_neg hc82).trans ((if_neg hc92).trans ((if_neg hc100).trans ((if_neg hc106).trans ((if_neg hc110).trans ((if_neg hc116).trans ((if_neg hc122).trans ((if_neg hc132).trans ((if_neg hc138).trans ((if_neg hc142).trans ((if_neg hc150).trans ((if_neg hc158).trans ((if_neg hc164).trans ((if_neg hc172).trans ((if_neg hc176).trans ((if_neg hc180).trans (rfl)))))))))))))))))))))))))))]
        refine am_Rn.run am_h261 2 (F' := (28, [(3, .int (v3 + 6)), (0, .retAddr 1), (1, .ref 0), (2, .ref 83)], [])) (S' := (am_sh, q.1, q.2.1, q.2.2)) rfl ?_
        refine am_Rn.sub [1, 2, 3, 0] rfl rfl ?_
        exact ezW_law_L28 hd R n (v3 + 6) q hp
end
