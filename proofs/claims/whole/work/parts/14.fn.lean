/-! the printed functions: for each method what it answers, and that the abstract machine answers so -/
abbrev zHM : Type := (Nat → Nat → Int32) × (Nat → Nat → Int64)
abbrev zHL : Type := (Nat → Nat → Int32) × zHM
def zK (k : Nat) : Prop := k = 20 ∨ k = 27 ∨ k = 34 ∨ k = 41 ∨ k = 48
theorem zK_of {j : Int32} {k : Nat} (h : ¬ (j < 0 ∨ 5 ≤ j.toNatClampNeg)) (hk : k = 20 + 7 * j.toNatClampNeg) : zK k := by
  subst hk
  rcases am_five h with rfl | rfl | rfl | rfl | rfl
  · exact Or.inl rfl
  · exact Or.inr (Or.inl rfl)
  · exact Or.inr (Or.inr (Or.inl rfl))
  · exact Or.inr (Or.inr (Or.inr (Or.inl rfl)))
  · exact Or.inr (Or.inr (Or.inr (Or.inr rfl)))
def zChr : List Nat := [111, 114, 32, 32, 32, 32, 97, 110, 100, 32, 32, 32, 110, 111, 116, 32, 32, 32, 109, 97, 121, 32, 32, 32, 112, 97, 115, 115, 32, 32, 115, 104, 111, 119, 115, 32, 101, 110, 116, 101, 114, 32, 101, 120, 105, 116, 32, 32, 103, 111, 32, 32, 32, 32, 104, 105, 116, 32, 32, 32, 98, 101, 97, 116, 32, 32, 97, 116, 32, 32, 32, 32, 102, 105, 103, 117, 114, 101, 107, 105, 110, 100, 32, 32, 112, 108, 97, 99, 101, 32, 119, 104, 111, 32, 32, 32, 114, 105, 103, 104, 116, 32, 102, 114, 111, 109, 32, 32, 116, 111, 32, 32, 32, 32, 115, 101, 97, 116, 32, 32, 109, 97, 110, 121, 32, 32]
theorem am_ite {α : Type} {c : Prop} [Decidable c] {A B R : α} {G : Prop} (hp : (if c then A else B) = R) (kt : c → A = R → G) (kf : ¬ c → B = R → G) : G := by
  by_cases hc : c
  · rw [if_pos hc] at hp; exact kt hc hp
  · rw [if_neg hc] at hp; exact kf hc hp
/-- a row's first n places hold v -/
def zfill (n : Nat) (v : Int32) (f : Nat → Int32) : Nat → Int32 := fun j => if j < n then v else f j
section AMP
variable {Tk : Nat} {Xs : Nat × (Nat → Int32)} {P : Nat → Option am_M} {d mi : Nat} {M : am_M} {F F' : am_F} {S S' : am_S} {R : Option Value × am_S}
theorem am_Rn.ite (hM : P mi = some M) {c : Prop} [Decidable c] {t f : Nat} {lv : am_L} {st : List Value} (h : am_stp Tk Xs M F S = some (.inl ((if c then t else f, lv, st), S'))) {α : Type} {A B Q : α} (hp : (if c then A else B) = Q) (kt : c → A = Q → am_Rn Tk Xs P d mi (t, lv, st) S' R) (kf : ¬ c → B = Q → am_Rn Tk Xs P d mi (f, lv, st) S' R) : am_Rn Tk Xs P d mi F S R :=
  am_Rn.br hM h (fun hc => kt hc (by rw [if_pos hc] at hp; exact hp)) (fun hc => kf hc (by rw [if_neg hc] at hp; exact hp))
theorem am_Rn.stepG (hM : P mi = some M) {c : Prop} [Decidable c] (h : am_stp Tk Xs M F S = if c then none else some (.inl (F', S'))) (hc : ¬ c) (k : am_Rn Tk Xs P d mi F' S' R) : am_Rn Tk Xs P d mi F S R :=
  am_Rn.step hM (h.trans (if_neg hc)) k
theorem am_Rn.stepB (hM : P mi = some M) {c : Prop} [Decidable c] (h : am_stp Tk Xs M F S = if c then some (.inl (F', S')) else none) (hc : c) (k : am_Rn Tk Xs P d mi F' S' R) : am_Rn Tk Xs P d mi F S R :=
  am_Rn.step hM (h.trans (if_pos hc)) k
end AMP
theorem am_h0 : am_P 0 = some am_m0 := rfl
theorem am_h1 : am_P 1 = some am_m1 := rfl
theorem am_h2 : am_P 2 = some am_m2 := rfl
theorem am_h3 : am_P 3 = some am_m3 := rfl
theorem am_h4 : am_P 4 = some am_m4 := rfl
theorem am_h5 : am_P 5 = some am_m5 := rfl
theorem am_h6 : am_P 6 = some am_m6 := rfl
theorem am_h7 : am_P 7 = some am_m7 := rfl
theorem am_h8 : am_P 8 = some am_m8 := rfl
theorem am_h9 : am_P 9 = some am_m9 := rfl
theorem am_h10 : am_P 10 = some am_m10 := rfl
theorem am_h11 : am_P 11 = some am_m11 := rfl
theorem am_h12 : am_P 12 = some am_m12 := rfl
theorem am_h13 : am_P 13 = some am_m13 := rfl
theorem am_h14 : am_P 14 = some am_m14 := rfl
theorem am_h15 : am_P 15 = some am_m15 := rfl
theorem am_h16 : am_P 16 = some am_m16 := rfl
theorem am_h17 : am_P 17 = some am_m17 := rfl
theorem am_h18 : am_P 18 = some am_m18 := rfl
theorem am_h19 : am_P 19 = some am_m19 := rfl
theorem am_h20 : am_P 20 = some am_m20 := rfl
theorem am_h21 : am_P 21 = some am_m21 := rfl
theorem am_h22 : am_P 22 = some am_m22 := rfl
theorem am_h23 : am_P 23 = some am_m23 := rfl
theorem am_h24 : am_P 24 = some am_m24 := rfl
theorem am_h25 : am_P 25 = some am_m25 := rfl
theorem am_h26 : am_P 26 = some am_m26 := rfl
theorem am_h27 : am_P 27 = some am_m27 := rfl
theorem am_h28 : am_P 28 = some am_m28 := rfl
theorem am_h29 : am_P 29 = some am_m29 := rfl
theorem am_h30 : am_P 30 = some am_m30 := rfl
theorem am_h31 : am_P 31 = some am_m31 := rfl
theorem am_h32 : am_P 32 = some am_m32 := rfl
theorem am_h33 : am_P 33 = some am_m33 := rfl
theorem am_h34 : am_P 34 = some am_m34 := rfl
theorem am_h35 : am_P 35 = some am_m35 := rfl
theorem am_h36 : am_P 36 = some am_m36 := rfl
theorem am_h37 : am_P 37 = some am_m37 := rfl
theorem am_h38 : am_P 38 = some am_m38 := rfl
theorem am_h39 : am_P 39 = some am_m39 := rfl
theorem am_h40 : am_P 40 = some am_m40 := rfl
theorem am_h41 : am_P 41 = some am_m41 := rfl
theorem am_h42 : am_P 42 = some am_m42 := rfl
theorem am_h43 : am_P 43 = some am_m43 := rfl
theorem am_h44 : am_P 44 = some am_m44 := rfl
theorem am_h45 : am_P 45 = some am_m45 := rfl
theorem am_h46 : am_P 46 = some am_m46 := rfl
theorem am_h47 : am_P 47 = some am_m47 := rfl
theorem am_h48 : am_P 48 = some am_m48 := rfl
theorem am_h49 : am_P 49 = some am_m49 := rfl
theorem am_h50 : am_P 50 = some am_m50 := rfl
theorem am_h51 : am_P 51 = some am_m51 := rfl
theorem am_h52 : am_P 52 = some am_m52 := rfl
theorem am_h53 : am_P 53 = some am_m53 := rfl
theorem am_h54 : am_P 54 = some am_m54 := rfl
theorem am_h55 : am_P 55 = some am_m55 := rfl
theorem am_h56 : am_P 56 = some am_m56 := rfl
theorem am_h57 : am_P 57 = some am_m57 := rfl
theorem am_h58 : am_P 58 = some am_m58 := rfl
theorem am_h59 : am_P 59 = some am_m59 := rfl
theorem am_h60 : am_P 60 = some am_m60 := rfl
theorem am_h61 : am_P 61 = some am_m61 := rfl
theorem am_h62 : am_P 62 = some am_m62 := rfl
theorem am_h63 : am_P 63 = some am_m63 := rfl
theorem am_h64 : am_P 64 = some am_m64 := rfl
theorem am_h65 : am_P 65 = some am_m65 := rfl
theorem am_h66 : am_P 66 = some am_m66 := rfl
theorem am_h67 : am_P 67 = some am_m67 := rfl
theorem am_h68 : am_P 68 = some am_m68 := rfl
theorem am_h69 : am_P 69 = some am_m69 := rfl
theorem am_h70 : am_P 70 = some am_m70 := rfl
theorem am_h71 : am_P 71 = some am_m71 := rfl
theorem am_h72 : am_P 72 = some am_m72 := rfl
theorem am_h73 : am_P 73 = some am_m73 := rfl
theorem am_h74 : am_P 74 = some am_m74 := rfl
theorem am_h75 : am_P 75 = some am_m75 := rfl
theorem am_h76 : am_P 76 = some am_m76 := rfl
theorem am_h77 : am_P 77 = some am_m77 := rfl
theorem am_h78 : am_P 78 = some am_m78 := rfl
theorem am_h79 : am_P 79 = some am_m79 := rfl
theorem am_h80 : am_P 80 = some am_m80 := rfl
theorem am_h81 : am_P 81 = some am_m81 := rfl
theorem am_h82 : am_P 82 = some am_m82 := rfl
theorem am_h83 : am_P 83 = some am_m83 := rfl
theorem am_h84 : am_P 84 = some am_m84 := rfl
theorem am_h85 : am_P 85 = some am_m85 := rfl
theorem am_h86 : am_P 86 = some am_m86 := rfl
theorem am_h87 : am_P 87 = some am_m87 := rfl
theorem am_h88 : am_P 88 = some am_m88 := rfl
theorem am_h89 : am_P 89 = some am_m89 := rfl
theorem am_h90 : am_P 90 = some am_m90 := rfl
theorem am_h91 : am_P 91 = some am_m91 := rfl
theorem am_h92 : am_P 92 = some am_m92 := rfl
theorem am_h93 : am_P 93 = some am_m93 := rfl
theorem am_h94 : am_P 94 = some am_m94 := rfl
theorem am_h95 : am_P 95 = some am_m95 := rfl
theorem am_h96 : am_P 96 = some am_m96 := rfl
theorem am_h97 : am_P 97 = some am_m97 := rfl
theorem am_h98 : am_P 98 = some am_m98 := rfl
theorem am_h99 : am_P 99 = some am_m99 := rfl
theorem am_h100 : am_P 100 = some am_m100 := rfl
theorem am_h101 : am_P 101 = some am_m101 := rfl
theorem am_h102 : am_P 102 = some am_m102 := rfl
theorem am_h103 : am_P 103 = some am_m103 := rfl
theorem am_h104 : am_P 104 = some am_m104 := rfl
theorem am_h105 : am_P 105 = some am_m105 := rfl
theorem am_h106 : am_P 106 = some am_m106 := rfl
theorem am_h107 : am_P 107 = some am_m107 := rfl
theorem am_h108 : am_P 108 = some am_m108 := rfl
theorem am_h109 : am_P 109 = some am_m109 := rfl
theorem am_h110 : am_P 110 = some am_m110 := rfl
theorem am_h111 : am_P 111 = some am_m111 := rfl
theorem am_h112 : am_P 112 = some am_m112 := rfl
theorem am_h113 : am_P 113 = some am_m113 := rfl
theorem am_h114 : am_P 114 = some am_m114 := rfl
theorem am_h115 : am_P 115 = some am_m115 := rfl
theorem am_h116 : am_P 116 = some am_m116 := rfl
theorem am_h117 : am_P 117 = some am_m117 := rfl
theorem am_h118 : am_P 118 = some am_m118 := rfl
theorem am_h119 : am_P 119 = some am_m119 := rfl
theorem am_h120 : am_P 120 = some am_m120 := rfl
theorem am_h121 : am_P 121 = some am_m121 := rfl
theorem am_h122 : am_P 122 = some am_m122 := rfl
theorem am_h123 : am_P 123 = some am_m123 := rfl
theorem am_h124 : am_P 124 = some am_m124 := rfl
theorem am_h125 : am_P 125 = some am_m125 := rfl
theorem am_h126 : am_P 126 = some am_m126 := rfl
theorem am_h127 : am_P 127 = some am_m127 := rfl
theorem am_h128 : am_P 128 = some am_m128 := rfl
theorem am_h129 : am_P 129 = some am_m129 := rfl
theorem am_h130 : am_P 130 = some am_m130 := rfl
theorem am_h131 : am_P 131 = some am_m131 := rfl
theorem am_h132 : am_P 132 = some am_m132 := rfl
theorem am_h133 : am_P 133 = some am_m133 := rfl
theorem am_h134 : am_P 134 = some am_m134 := rfl
theorem am_h135 : am_P 135 = some am_m135 := rfl
theorem am_h136 : am_P 136 = some am_m136 := rfl
theorem am_h137 : am_P 137 = some am_m137 := rfl
theorem am_h138 : am_P 138 = some am_m138 := rfl
theorem am_h139 : am_P 139 = some am_m139 := rfl
theorem am_h140 : am_P 140 = some am_m140 := rfl
theorem am_h141 : am_P 141 = some am_m141 := rfl
theorem am_h142 : am_P 142 = some am_m142 := rfl
theorem am_h143 : am_P 143 = some am_m143 := rfl
theorem am_h144 : am_P 144 = some am_m144 := rfl
theorem am_h145 : am_P 145 = some am_m145 := rfl
theorem am_h146 : am_P 146 = some am_m146 := rfl
theorem am_h147 : am_P 147 = some am_m147 := rfl
theorem am_h148 : am_P 148 = some am_m148 := rfl
theorem am_h149 : am_P 149 = some am_m149 := rfl
theorem am_h150 : am_P 150 = some am_m150 := rfl
theorem am_h151 : am_P 151 = some am_m151 := rfl
theorem am_h152 : am_P 152 = some am_m152 := rfl
theorem am_h153 : am_P 153 = some am_m153 := rfl
theorem am_h154 : am_P 154 = some am_m154 := rfl
theorem am_h155 : am_P 155 = some am_m155 := rfl
theorem am_h156 : am_P 156 = some am_m156 := rfl
theorem am_h157 : am_P 157 = some am_m157 := rfl
theorem am_h158 : am_P 158 = some am_m158 := rfl
theorem am_h159 : am_P 159 = some am_m159 := rfl
theorem am_h160 : am_P 160 = some am_m160 := rfl
theorem am_h161 : am_P 161 = some am_m161 := rfl
theorem am_h162 : am_P 162 = some am_m162 := rfl
theorem am_h163 : am_P 163 = some am_m163 := rfl
theorem am_h164 : am_P 164 = some am_m164 := rfl
theorem am_h165 : am_P 165 = some am_m165 := rfl
theorem am_h166 : am_P 166 = some am_m166 := rfl
theorem am_h167 : am_P 167 = some am_m167 := rfl
theorem am_h168 : am_P 168 = some am_m168 := rfl
theorem am_h169 : am_P 169 = some am_m169 := rfl
theorem am_h170 : am_P 170 = some am_m170 := rfl
theorem am_h171 : am_P 171 = some am_m171 := rfl
theorem am_h172 : am_P 172 = some am_m172 := rfl
theorem am_h173 : am_P 173 = some am_m173 := rfl
theorem am_h174 : am_P 174 = some am_m174 := rfl
theorem am_h175 : am_P 175 = some am_m175 := rfl
theorem am_h176 : am_P 176 = some am_m176 := rfl
theorem am_h177 : am_P 177 = some am_m177 := rfl
theorem am_h178 : am_P 178 = some am_m178 := rfl
theorem am_h179 : am_P 179 = some am_m179 := rfl
theorem am_h180 : am_P 180 = some am_m180 := rfl
theorem am_h181 : am_P 181 = some am_m181 := rfl
theorem am_h182 : am_P 182 = some am_m182 := rfl
theorem am_h183 : am_P 183 = some am_m183 := rfl
theorem am_h184 : am_P 184 = some am_m184 := rfl
theorem am_h185 : am_P 185 = some am_m185 := rfl
theorem am_h186 : am_P 186 = some am_m186 := rfl
theorem am_h187 : am_P 187 = some am_m187 := rfl
theorem am_h188 : am_P 188 = some am_m188 := rfl
theorem am_h189 : am_P 189 = some am_m189 := rfl
theorem am_h190 : am_P 190 = some am_m190 := rfl
theorem am_h191 : am_P 191 = some am_m191 := rfl
theorem am_h192 : am_P 192 = some am_m192 := rfl
theorem am_h193 : am_P 193 = some am_m193 := rfl
theorem am_h194 : am_P 194 = some am_m194 := rfl
theorem am_h195 : am_P 195 = some am_m195 := rfl
theorem am_h196 : am_P 196 = some am_m196 := rfl
theorem am_h197 : am_P 197 = some am_m197 := rfl
theorem am_h198 : am_P 198 = some am_m198 := rfl
theorem am_h199 : am_P 199 = some am_m199 := rfl
theorem am_h200 : am_P 200 = some am_m200 := rfl
theorem am_h201 : am_P 201 = some am_m201 := rfl
theorem am_h202 : am_P 202 = some am_m202 := rfl
theorem am_h203 : am_P 203 = some am_m203 := rfl
theorem am_h204 : am_P 204 = some am_m204 := rfl
theorem am_h205 : am_P 205 = some am_m205 := rfl
theorem am_h206 : am_P 206 = some am_m206 := rfl
theorem am_h207 : am_P 207 = some am_m207 := rfl
theorem am_h208 : am_P 208 = some am_m208 := rfl
theorem am_h209 : am_P 209 = some am_m209 := rfl
theorem am_h210 : am_P 210 = some am_m210 := rfl
theorem am_h211 : am_P 211 = some am_m211 := rfl
theorem am_h212 : am_P 212 = some am_m212 := rfl
theorem am_h213 : am_P 213 = some am_m213 := rfl
theorem am_h214 : am_P 214 = some am_m214 := rfl
theorem am_h215 : am_P 215 = some am_m215 := rfl
theorem am_h216 : am_P 216 = some am_m216 := rfl
theorem am_h217 : am_P 217 = some am_m217 := rfl
theorem am_h218 : am_P 218 = some am_m218 := rfl
theorem am_h219 : am_P 219 = some am_m219 := rfl
theorem am_h220 : am_P 220 = some am_m220 := rfl
theorem am_h221 : am_P 221 = some am_m221 := rfl
theorem am_h222 : am_P 222 = some am_m222 := rfl
theorem am_h223 : am_P 223 = some am_m223 := rfl
theorem am_h224 : am_P 224 = some am_m224 := rfl
theorem am_h225 : am_P 225 = some am_m225 := rfl
theorem am_h226 : am_P 226 = some am_m226 := rfl
theorem am_h227 : am_P 227 = some am_m227 := rfl
theorem am_h228 : am_P 228 = some am_m228 := rfl
theorem am_h229 : am_P 229 = some am_m229 := rfl
theorem am_h230 : am_P 230 = some am_m230 := rfl
theorem am_h231 : am_P 231 = some am_m231 := rfl
theorem am_h232 : am_P 232 = some am_m232 := rfl
theorem am_h233 : am_P 233 = some am_m233 := rfl
theorem am_h234 : am_P 234 = some am_m234 := rfl
theorem am_h235 : am_P 235 = some am_m235 := rfl
theorem am_h236 : am_P 236 = some am_m236 := rfl
theorem am_h237 : am_P 237 = some am_m237 := rfl
theorem am_h238 : am_P 238 = some am_m238 := rfl
theorem am_h239 : am_P 239 = some am_m239 := rfl
theorem am_h240 : am_P 240 = some am_m240 := rfl
theorem am_h241 : am_P 241 = some am_m241 := rfl
theorem am_h242 : am_P 242 = some am_m242 := rfl
theorem am_h243 : am_P 243 = some am_m243 := rfl
theorem am_h244 : am_P 244 = some am_m244 := rfl
theorem am_h245 : am_P 245 = some am_m245 := rfl
theorem am_h246 : am_P 246 = some am_m246 := rfl
theorem am_h247 : am_P 247 = some am_m247 := rfl
theorem am_h248 : am_P 248 = some am_m248 := rfl
theorem am_h249 : am_P 249 = some am_m249 := rfl
theorem am_h250 : am_P 250 = some am_m250 := rfl
theorem am_h251 : am_P 251 = some am_m251 := rfl
theorem am_h252 : am_P 252 = some am_m252 := rfl
theorem am_h253 : am_P 253 = some am_m253 := rfl
theorem am_h254 : am_P 254 = some am_m254 := rfl
theorem am_h255 : am_P 255 = some am_m255 := rfl
theorem am_h256 : am_P 256 = some am_m256 := rfl
theorem am_h257 : am_P 257 = some am_m257 := rfl
theorem am_h258 : am_P 258 = some am_m258 := rfl
theorem am_h259 : am_P 259 = some am_m259 := rfl
theorem am_h260 : am_P 260 = some am_m260 := rfl
theorem am_h261 : am_P 261 = some am_m261 := rfl
theorem zfill_upd (n : Nat) (v : Int32) (f : Nat → Int32) : upd (zfill n v f) n v = zfill (n + 1) v f := by
  funext j
  unfold upd zfill
  by_cases h : j = n
  · subst h; simp
  · by_cases h2 : j < n
    · rw [if_neg h, if_pos h2, if_pos (by omega)]
    · rw [if_neg h, if_neg h2, if_neg (by omega)]
theorem zfill_0 (v : Int32) (f : Nat → Int32) : zfill 0 v f = f := by
  funext j
  unfold zfill
  rw [if_neg (by omega)]
theorem am_w_h (Tk : Nat) (S : am_S) (i : Nat) : am_w Tk S i (am_h Tk S i) = S := by
  unfold am_w am_h
  cases Nat.blt i Tk
  · show (S.1, S.2.1, va_up S.2.2.1 i (S.2.2.1 i), S.2.2.2) = S
    have : va_up S.2.2.1 i (S.2.2.1 i) = S.2.2.1 := by funext j; unfold va_up; split <;> simp_all
    rw [this]
  · show (S.1, va_up S.2.1 i (S.2.1 i), S.2.2.1, S.2.2.2) = S
    have : va_up S.2.1 i (S.2.1 i) = S.2.1 := by funext j; unfold va_up; split <;> simp_all
    rw [this]
theorem am_w_w (Tk : Nat) (S : am_S) (i : Nat) (f g : Nat → Int32) : am_w Tk (am_w Tk S i f) i g = am_w Tk S i g := by
  have e : ∀ (h : Nat → Nat → Int32), va_up (va_up h i f) i g = va_up h i g := fun h => by funext j; unfold va_up; split <;> simp_all
  unfold am_w
  cases hb : Nat.blt i Tk
  · show (S.1, S.2.1, va_up (va_up S.2.2.1 i f) i g, S.2.2.2) = _
    rw [e]; rfl
  · show (S.1, va_up (va_up S.2.1 i f) i g, S.2.2.1, S.2.2.2) = _
    rw [e]; rfl
section
variable {Xs : Nat × (Nat → Int32)}
theorem ezD_fill_L {d r n : Nat} {v : Int32} {S : am_S} {rs : List (Option Nat)} (hc : S.1[r]? = some (0, n, rs)) (hn : n < 2 ^ 31) : ∀ (k i : Nat), i + k = n → am_Rn 83 Xs am_P d 6 (5, [(0, .ref r), (1, .int v), (2, .int (nI i)), (3, .int (nI n))], []) (am_w 83 S r (zfill i v (am_h 83 S r))) (none, am_w 83 S r (zfill n v (am_h 83 S r)))
  | 0, i, hi => by
    have e : i = n := by omega
    subst e
    refine am_Rn.run am_h6 2 (F' := (7, [(0, .ref r), (1, .int v), (2, .int (nI i)), (3, .int (nI i))], [.int (nI i), .int (nI i)])) (S' := am_w 83 S r (zfill i v (am_h 83 S r))) rfl ?_
    refine am_Rn.br am_h6 (c := nI i < nI i) (t := 10) (f := 20) (lv := [(0, .ref r), (1, .int v), (2, .int (nI i)), (3, .int (nI i))]) (st := []) (S' := am_w 83 S r (zfill i v (am_h 83 S r))) rfl (fun hc => ?_) (fun hc => ?_)
    · exact absurd hc (nI_nlt (Nat.le_refl i) hn)
    · exact am_Rn.ret am_h6 rfl
  | k + 1, i, hi => by
    refine am_Rn.run am_h6 2 (F' := (7, [(0, .ref r), (1, .int v), (2, .int (nI i)), (3, .int (nI n))], [.int (nI n), .int (nI i)])) (S' := am_w 83 S r (zfill i v (am_h 83 S r))) rfl ?_
    refine am_Rn.br am_h6 (c := nI i < nI n) (t := 10) (f := 20) (lv := [(0, .ref r), (1, .int v), (2, .int (nI i)), (3, .int (nI n))]) (st := []) (S' := am_w 83 S r (zfill i v (am_h 83 S r))) rfl (fun hq => ?_) (fun hq => ?_)
    · have hin : ¬ (nI i < 0 ∨ n ≤ (nI i).toNatClampNeg) := nI_in (by omega) hn
      have hst : am_stp 83 Xs am_m6 (13, [(0, .ref r), (1, .int v), (2, .int (nI i)), (3, .int (nI n))], [.int v, .int (nI i), .ref r]) (am_w 83 S r (zfill i v (am_h 83 S r))) = some (.inl ((14, [(0, .ref r), (1, .int v), (2, .int (nI i)), (3, .int (nI n))], []), am_w 83 S r (zfill (i + 1) v (am_h 83 S r)))) := by
        show am_ast 14 _ [.int v, .int (nI i), .ref r] _ _ = _
        unfold am_ast
        dsimp only
        rw [am_w_1, hc]
        show (if nI i < 0 ∨ n ≤ (nI i).toNatClampNeg then none else _) = _
        rw [if_neg hin, am_h_w, if_pos rfl, nI_clamp (by omega), zfill_upd, am_w_w]
        rfl
      refine am_Rn.run am_h6 3 (F' := (13, [(0, .ref r), (1, .int v), (2, .int (nI i)), (3, .int (nI n))], [.int v, .int (nI i), .ref r])) (S' := am_w 83 S r (zfill i v (am_h 83 S r))) rfl ?_
      refine am_Rn.step am_h6 hst ?_
      refine am_Rn.run am_h6 2 (F' := (5, [(2, .int (nI i + 1)), (0, .ref r), (1, .int v), (3, .int (nI n))], [])) (S' := am_w 83 S r (zfill (i + 1) v (am_h 83 S r))) rfl ?_
      rw [nI_1]
      refine am_Rn.sub [1, 2, 0, 3] rfl rfl ?_
      exact ezD_fill_L hc hn k (i + 1) (by omega)
    · exact absurd (nI_lt (by omega) hn) hq
theorem ezD_fillS {d r n : Nat} {v : Int32} {S : am_S} {rs : List (Option Nat)} (hc : S.1[r]? = some (0, n, rs)) (hn : n < 2 ^ 31) : am_Ev 83 Xs am_P d 6 [.ref r, .int v] S (none, am_w 83 S r (zfill n v (am_h 83 S r))) := by
  show am_Rn 83 Xs am_P _ 6 (0, [(0, .ref r), (1, .int v)], []) _ _
  refine am_Rn.run am_h6 3 (F' := (3, [(2, .int 0), (0, .ref r), (1, .int v)], [.ref r])) (S' := S) rfl ?_
  have hst : am_stp 83 Xs am_m6 (3, [(2, .int 0), (0, .ref r), (1, .int v)], [.ref r]) S = some (.inl ((4, [(2, .int 0), (0, .ref r), (1, .int v)], [.int (nI n)]), S)) := by
    show am_len 4 _ [.ref r] _ = _
    unfold am_len
    dsimp only
    rw [hc]
    rfl
  refine am_Rn.step am_h6 hst ?_
  refine am_Rn.run am_h6 1 (F' := (5, [(3, .int (nI n)), (2, .int 0), (0, .ref r), (1, .int v)], [])) (S' := S) rfl ?_
  refine am_Rn.sub [2, 3, 1, 0] rfl rfl ?_
  have h := ezD_fill_L (Xs := Xs) (d := d) (v := v) hc hn n 0 (by omega)
  rw [zfill_0, am_w_h] at h
  exact h
theorem ezD_fill {d r n : Nat} {v : Int32} {h hm : Nat → Nat → Int32} {g : Nat → Nat → Int64} {rs : List (Option Nat)} (hc : am_sh[r]? = some (0, n, rs)) (hn : n < 2 ^ 31 ∧ r < 83) : am_Ev 83 Xs am_P d 6 [.ref r, .int v] (am_sh, h, hm, g) (none, (am_sh, va_up h r (zfill n v (h r)), hm, g)) := by
  have e := ezD_fillS (Xs := Xs) (d := d) (v := v) (S := (am_sh, h, hm, g)) hc hn.1
  have hb : Nat.blt r 83 = true := by rw [am_blt, decide_eq_true hn.2]
  unfold am_w am_h at e
  rw [hb] at e
  exact e
end
