def zMTp (M : am_M) : Prop := plainFor M.1 = true ∧ M.2.2.1 ≤ 40 ∧ am_rk M.2.2.2.2.1 M.2.2.2.1 ∧ zcn M.2.2.2.2.2.1 = M.1.cls ∧ (∀ E ∈ M.2.2.2.2.2.2, am_okb zTs am_cl zfl zml "SixHands$Text" M E = true)
theorem zmt0 : zMTp am_m0 := ⟨by decide +kernel, by decide, rfl, by decide +kernel, fun E hE => List.all_eq_true.mp zok0 E hE⟩
theorem zmt1 : zMTp am_m1 := ⟨by decide +kernel, by decide, rfl, by decide +kernel, fun E hE => List.all_eq_true.mp zok1 E hE⟩
theorem zmt2 : zMTp am_m2 := ⟨by decide +kernel, by decide, rfl, by decide +kernel, fun E hE => List.all_eq_true.mp zok2 E hE⟩
theorem zmt3 : zMTp am_m3 := ⟨by decide +kernel, by decide, rfl, by decide +kernel, fun E hE => List.all_eq_true.mp zok3 E hE⟩
theorem zmt4 : zMTp am_m4 := ⟨by decide +kernel, by decide, rfl, by decide +kernel, fun E hE => List.all_eq_true.mp zok4 E hE⟩
theorem zmt5 : zMTp am_m5 := ⟨by decide +kernel, by decide, rfl, by decide +kernel, fun E hE => List.all_eq_true.mp zok5 E hE⟩
theorem zmt6 : zMTp am_m6 := ⟨by decide +kernel, by decide, rfl, by decide +kernel, fun E hE => List.all_eq_true.mp zok6 E hE⟩
theorem zmt7 : zMTp am_m7 := ⟨by decide +kernel, by decide, rfl, by decide +kernel, fun E hE => List.all_eq_true.mp zok7 E hE⟩
theorem zmt8 : zMTp am_m8 := ⟨by decide +kernel, by decide, rfl, by decide +kernel, fun E hE => List.all_eq_true.mp zok8 E hE⟩
theorem zmt9 : zMTp am_m9 := ⟨by decide +kernel, by decide, rfl, by decide +kernel, fun E hE => List.all_eq_true.mp zok9 E hE⟩
theorem zmt10 : zMTp am_m10 := ⟨by decide +kernel, by decide, rfl, by decide +kernel, fun E hE => List.all_eq_true.mp zok10 E hE⟩
theorem zmt11 : zMTp am_m11 := ⟨by decide +kernel, by decide, rfl, by decide +kernel, fun E hE => List.all_eq_true.mp zok11 E hE⟩
theorem zmt12 : zMTp am_m12 := ⟨by decide +kernel, by decide, rfl, by decide +kernel, fun E hE => List.all_eq_true.mp zok12 E hE⟩
theorem zmt13 : zMTp am_m13 := ⟨by decide +kernel, by decide, rfl, by decide +kernel, fun E hE => List.all_eq_true.mp zok13 E hE⟩
theorem zmt14 : zMTp am_m14 := ⟨by decide +kernel, by decide, rfl, by decide +kernel, fun E hE => List.all_eq_true.mp zok14 E hE⟩
theorem zmt15 : zMTp am_m15 := ⟨by decide +kernel, by decide, rfl, by decide +kernel, fun E hE => List.all_eq_true.mp zok15 E hE⟩
theorem zmt16 : zMTp am_m16 := ⟨by decide +kernel, by decide, rfl, by decide +kernel, fun E hE => List.all_eq_true.mp zok16 E hE⟩
theorem zmt17 : zMTp am_m17 := ⟨by decide +kernel, by decide, rfl, by decide +kernel, fun E hE => List.all_eq_true.mp zok17 E hE⟩
theorem zmt18 : zMTp am_m18 := ⟨by decide +kernel, by decide, rfl, by decide +kernel, fun E hE => List.all_eq_true.mp zok18 E hE⟩
theorem zmt19 : zMTp am_m19 := ⟨by decide +kernel, by decide, rfl, by decide +kernel, fun E hE => List.all_eq_true.mp zok19 E hE⟩
theorem zmt20 : zMTp am_m20 := ⟨by decide +kernel, by decide, rfl, by decide +kernel, fun E hE => List.all_eq_true.mp zok20 E hE⟩
theorem zmt21 : zMTp am_m21 := ⟨by decide +kernel, by decide, rfl, by decide +kernel, fun E hE => List.all_eq_true.mp zok21 E hE⟩
theorem zmt22 : zMTp am_m22 := ⟨by decide +kernel, by decide, rfl, by decide +kernel, fun E hE => List.all_eq_true.mp zok22 E hE⟩
theorem zmt23 : zMTp am_m23 := ⟨by decide +kernel, by decide, rfl, by decide +kernel, fun E hE => List.all_eq_true.mp zok23 E hE⟩
theorem zmt24 : zMTp am_m24 := ⟨by decide +kernel, by decide, rfl, by decide +kernel, fun E hE => List.all_eq_true.mp zok24 E hE⟩
theorem zmt25 : zMTp am_m25 := ⟨by decide +kernel, by decide, rfl, by decide +kernel, fun E hE => List.all_eq_true.mp zok25 E hE⟩
theorem zmt26 : zMTp am_m26 := ⟨by decide +kernel, by decide, rfl, by decide +kernel, fun E hE => List.all_eq_true.mp zok26 E hE⟩
theorem zmt27 : zMTp am_m27 := ⟨by decide +kernel, by decide, rfl, by decide +kernel, fun E hE => List.all_eq_true.mp zok27 E hE⟩
theorem zmt28 : zMTp am_m28 := ⟨by decide +kernel, by decide, rfl, by decide +kernel, fun E hE => List.all_eq_true.mp zok28 E hE⟩
theorem zmt29 : zMTp am_m29 := ⟨by decide +kernel, by decide, rfl, by decide +kernel, fun E hE => List.all_eq_true.mp zok29 E hE⟩
theorem zmt30 : zMTp am_m30 := ⟨by decide +kernel, by decide, rfl, by decide +kernel, fun E hE => List.all_eq_true.mp zok30 E hE⟩
theorem zmt31 : zMTp am_m31 := ⟨by decide +kernel, by decide, rfl, by decide +kernel, fun E hE => List.all_eq_true.mp zok31 E hE⟩
theorem zmt32 : zMTp am_m32 := ⟨by decide +kernel, by decide, rfl, by decide +kernel, fun E hE => List.all_eq_true.mp zok32 E hE⟩
theorem zmt33 : zMTp am_m33 := ⟨by decide +kernel, by decide, rfl, by decide +kernel, fun E hE => List.all_eq_true.mp zok33 E hE⟩
theorem zmt34 : zMTp am_m34 := ⟨by decide +kernel, by decide, rfl, by decide +kernel, fun E hE => List.all_eq_true.mp zok34 E hE⟩
theorem zmt35 : zMTp am_m35 := ⟨by decide +kernel, by decide, rfl, by decide +kernel, fun E hE => List.all_eq_true.mp zok35 E hE⟩
theorem zmt36 : zMTp am_m36 := ⟨by decide +kernel, by decide, rfl, by decide +kernel, fun E hE => List.all_eq_true.mp zok36 E hE⟩
theorem zmt37 : zMTp am_m37 := ⟨by decide +kernel, by decide, rfl, by decide +kernel, fun E hE => List.all_eq_true.mp zok37 E hE⟩
theorem zmt38 : zMTp am_m38 := ⟨by decide +kernel, by decide, rfl, by decide +kernel, fun E hE => List.all_eq_true.mp zok38 E hE⟩
theorem zmt39 : zMTp am_m39 := ⟨by decide +kernel, by decide, rfl, by decide +kernel, fun E hE => List.all_eq_true.mp zok39 E hE⟩
theorem zmt40 : zMTp am_m40 := ⟨by decide +kernel, by decide, rfl, by decide +kernel, fun E hE => List.all_eq_true.mp zok40 E hE⟩
theorem zmt41 : zMTp am_m41 := ⟨by decide +kernel, by decide, rfl, by decide +kernel, fun E hE => List.all_eq_true.mp zok41 E hE⟩
theorem zmt42 : zMTp am_m42 := ⟨by decide +kernel, by decide, rfl, by decide +kernel, fun E hE => List.all_eq_true.mp zok42 E hE⟩
theorem zmt43 : zMTp am_m43 := ⟨by decide +kernel, by decide, rfl, by decide +kernel, fun E hE => List.all_eq_true.mp zok43 E hE⟩
theorem zmt44 : zMTp am_m44 := ⟨by decide +kernel, by decide, rfl, by decide +kernel, fun E hE => List.all_eq_true.mp zok44 E hE⟩
theorem zmt45 : zMTp am_m45 := ⟨by decide +kernel, by decide, rfl, by decide +kernel, fun E hE => List.all_eq_true.mp zok45 E hE⟩
theorem zmt46 : zMTp am_m46 := ⟨by decide +kernel, by decide, rfl, by decide +kernel, fun E hE => List.all_eq_true.mp zok46 E hE⟩
theorem zmt47 : zMTp am_m47 := ⟨by decide +kernel, by decide, rfl, by decide +kernel, fun E hE => List.all_eq_true.mp zok47 E hE⟩
theorem zmt48 : zMTp am_m48 := ⟨by decide +kernel, by decide, rfl, by decide +kernel, fun E hE => List.all_eq_true.mp zok48 E hE⟩
theorem zmt49 : zMTp am_m49 := ⟨by decide +kernel, by decide, rfl, by decide +kernel, fun E hE => List.all_eq_true.mp zok49 E hE⟩
theorem zmt50 : zMTp am_m50 := ⟨by decide +kernel, by decide, rfl, by decide +kernel, fun E hE => List.all_eq_true.mp zok50 E hE⟩
theorem zmt51 : zMTp am_m51 := ⟨by decide +kernel, by decide, rfl, by decide +kernel, fun E hE => List.all_eq_true.mp zok51 E hE⟩
theorem zmt52 : zMTp am_m52 := ⟨by decide +kernel, by decide, rfl, by decide +kernel, fun E hE => List.all_eq_true.mp zok52 E hE⟩
theorem zmt53 : zMTp am_m53 := ⟨by decide +kernel, by decide, rfl, by decide +kernel, fun E hE => List.all_eq_true.mp zok53 E hE⟩
theorem zmt54 : zMTp am_m54 := ⟨by decide +kernel, by decide, rfl, by decide +kernel, fun E hE => List.all_eq_true.mp zok54 E hE⟩
theorem zmt55 : zMTp am_m55 := ⟨by decide +kernel, by decide, rfl, by decide +kernel, fun E hE => List.all_eq_true.mp zok55 E hE⟩
theorem zmt56 : zMTp am_m56 := ⟨by decide +kernel, by decide, rfl, by decide +kernel, fun E hE => List.all_eq_true.mp zok56 E hE⟩
theorem zmt57 : zMTp am_m57 := ⟨by decide +kernel, by decide, rfl, by decide +kernel, fun E hE => List.all_eq_true.mp zok57 E hE⟩
theorem zmt58 : zMTp am_m58 := ⟨by decide +kernel, by decide, rfl, by decide +kernel, fun E hE => List.all_eq_true.mp zok58 E hE⟩
theorem zmt59 : zMTp am_m59 := ⟨by decide +kernel, by decide, rfl, by decide +kernel, fun E hE => List.all_eq_true.mp zok59 E hE⟩
theorem zmt60 : zMTp am_m60 := ⟨by decide +kernel, by decide, rfl, by decide +kernel, fun E hE => List.all_eq_true.mp zok60 E hE⟩
theorem zmt61 : zMTp am_m61 := ⟨by decide +kernel, by decide, rfl, by decide +kernel, fun E hE => List.all_eq_true.mp zok61 E hE⟩
theorem zmt62 : zMTp am_m62 := ⟨by decide +kernel, by decide, rfl, by decide +kernel, fun E hE => List.all_eq_true.mp zok62 E hE⟩
theorem zmt63 : zMTp am_m63 := ⟨by decide +kernel, by decide, rfl, by decide +kernel, fun E hE => List.all_eq_true.mp zok63 E hE⟩
theorem zmt64 : zMTp am_m64 := ⟨by decide +kernel, by decide, rfl, by decide +kernel, fun E hE => List.all_eq_true.mp zok64 E hE⟩
theorem zmt65 : zMTp am_m65 := ⟨by decide +kernel, by decide, rfl, by decide +kernel, fun E hE => List.all_eq_true.mp zok65 E hE⟩
theorem zmt66 : zMTp am_m66 := ⟨by decide +kernel, by decide, rfl, by decide +kernel, fun E hE => List.all_eq_true.mp zok66 E hE⟩
theorem zmt67 : zMTp am_m67 := ⟨by decide +kernel, by decide, rfl, by decide +kernel, fun E hE => List.all_eq_true.mp zok67 E hE⟩
theorem zmt68 : zMTp am_m68 := ⟨by decide +kernel, by decide, rfl, by decide +kernel, fun E hE => List.all_eq_true.mp zok68 E hE⟩
theorem zmt69 : zMTp am_m69 := ⟨by decide +kernel, by decide, rfl, by decide +kernel, fun E hE => List.all_eq_true.mp zok69 E hE⟩
theorem zmt70 : zMTp am_m70 := ⟨by decide +kernel, by decide, rfl, by decide +kernel, fun E hE => List.all_eq_true.mp zok70 E hE⟩
theorem zmt71 : zMTp am_m71 := ⟨by decide +kernel, by decide, rfl, by decide +kernel, fun E hE => List.all_eq_true.mp zok71 E hE⟩
theorem zmt72 : zMTp am_m72 := ⟨by decide +kernel, by decide, rfl, by decide +kernel, fun E hE => List.all_eq_true.mp zok72 E hE⟩
theorem zmt73 : zMTp am_m73 := ⟨by decide +kernel, by decide, rfl, by decide +kernel, fun E hE => List.all_eq_true.mp zok73 E hE⟩
theorem zmt74 : zMTp am_m74 := ⟨by decide +kernel, by decide, rfl, by decide +kernel, fun E hE => List.all_eq_true.mp zok74 E hE⟩
theorem zmt75 : zMTp am_m75 := ⟨by decide +kernel, by decide, rfl, by decide +kernel, fun E hE => List.all_eq_true.mp zok75 E hE⟩
theorem zmt76 : zMTp am_m76 := ⟨by decide +kernel, by decide, rfl, by decide +kernel, fun E hE => List.all_eq_true.mp zok76 E hE⟩
theorem zmt77 : zMTp am_m77 := ⟨by decide +kernel, by decide, rfl, by decide +kernel, fun E hE => List.all_eq_true.mp zok77 E hE⟩
theorem zmt78 : zMTp am_m78 := ⟨by decide +kernel, by decide, rfl, by decide +kernel, fun E hE => List.all_eq_true.mp zok78 E hE⟩
theorem zmt79 : zMTp am_m79 := ⟨by decide +kernel, by decide, rfl, by decide +kernel, fun E hE => List.all_eq_true.mp zok79 E hE⟩
theorem zmt80 : zMTp am_m80 := ⟨by decide +kernel, by decide, rfl, by decide +kernel, fun E hE => List.all_eq_true.mp zok80 E hE⟩
theorem zmt81 : zMTp am_m81 := ⟨by decide +kernel, by decide, rfl, by decide +kernel, fun E hE => List.all_eq_true.mp zok81 E hE⟩
theorem zmt82 : zMTp am_m82 := ⟨by decide +kernel, by decide, rfl, by decide +kernel, fun E hE => List.all_eq_true.mp zok82 E hE⟩
theorem zmt83 : zMTp am_m83 := ⟨by decide +kernel, by decide, rfl, by decide +kernel, fun E hE => List.all_eq_true.mp zok83 E hE⟩
theorem zmt84 : zMTp am_m84 := ⟨by decide +kernel, by decide, rfl, by decide +kernel, fun E hE => List.all_eq_true.mp zok84 E hE⟩
theorem zmt85 : zMTp am_m85 := ⟨by decide +kernel, by decide, rfl, by decide +kernel, fun E hE => List.all_eq_true.mp zok85 E hE⟩
theorem zmt86 : zMTp am_m86 := ⟨by decide +kernel, by decide, rfl, by decide +kernel, fun E hE => List.all_eq_true.mp zok86 E hE⟩
theorem zmt87 : zMTp am_m87 := ⟨by decide +kernel, by decide, rfl, by decide +kernel, fun E hE => List.all_eq_true.mp zok87 E hE⟩
theorem zmt88 : zMTp am_m88 := ⟨by decide +kernel, by decide, rfl, by decide +kernel, fun E hE => List.all_eq_true.mp zok88 E hE⟩
theorem zmt89 : zMTp am_m89 := ⟨by decide +kernel, by decide, rfl, by decide +kernel, fun E hE => List.all_eq_true.mp zok89 E hE⟩
theorem zmt90 : zMTp am_m90 := ⟨by decide +kernel, by decide, rfl, by decide +kernel, fun E hE => List.all_eq_true.mp zok90 E hE⟩
theorem zmt91 : zMTp am_m91 := ⟨by decide +kernel, by decide, rfl, by decide +kernel, fun E hE => List.all_eq_true.mp zok91 E hE⟩
theorem zmt92 : zMTp am_m92 := ⟨by decide +kernel, by decide, rfl, by decide +kernel, fun E hE => List.all_eq_true.mp zok92 E hE⟩
theorem zmt93 : zMTp am_m93 := ⟨by decide +kernel, by decide, rfl, by decide +kernel, fun E hE => List.all_eq_true.mp zok93 E hE⟩
theorem zmt94 : zMTp am_m94 := ⟨by decide +kernel, by decide, rfl, by decide +kernel, fun E hE => List.all_eq_true.mp zok94 E hE⟩
theorem zmt95 : zMTp am_m95 := ⟨by decide +kernel, by decide, rfl, by decide +kernel, fun E hE => List.all_eq_true.mp zok95 E hE⟩
theorem zmt96 : zMTp am_m96 := ⟨by decide +kernel, by decide, rfl, by decide +kernel, fun E hE => List.all_eq_true.mp zok96 E hE⟩
theorem zmt97 : zMTp am_m97 := ⟨by decide +kernel, by decide, rfl, by decide +kernel, fun E hE => List.all_eq_true.mp zok97 E hE⟩
theorem zmt98 : zMTp am_m98 := ⟨by decide +kernel, by decide, rfl, by decide +kernel, fun E hE => List.all_eq_true.mp zok98 E hE⟩
theorem zmt99 : zMTp am_m99 := ⟨by decide +kernel, by decide, rfl, by decide +kernel, fun E hE => List.all_eq_true.mp zok99 E hE⟩
theorem zmt100 : zMTp am_m100 := ⟨by decide +kernel, by decide, rfl, by decide +kernel, fun E hE => List.all_eq_true.mp zok100 E hE⟩
theorem zmt101 : zMTp am_m101 := ⟨by decide +kernel, by decide, rfl, by decide +kernel, fun E hE => List.all_eq_true.mp zok101 E hE⟩
theorem zmt102 : zMTp am_m102 := ⟨by decide +kernel, by decide, rfl, by decide +kernel, fun E hE => List.all_eq_true.mp zok102 E hE⟩
theorem zmt103 : zMTp am_m103 := ⟨by decide +kernel, by decide, rfl, by decide +kernel, fun E hE => List.all_eq_true.mp zok103 E hE⟩
theorem zmt104 : zMTp am_m104 := ⟨by decide +kernel, by decide, rfl, by decide +kernel, fun E hE => List.all_eq_true.mp zok104 E hE⟩
theorem zmt105 : zMTp am_m105 := ⟨by decide +kernel, by decide, rfl, by decide +kernel, fun E hE => List.all_eq_true.mp zok105 E hE⟩
theorem zmt106 : zMTp am_m106 := ⟨by decide +kernel, by decide, rfl, by decide +kernel, fun E hE => List.all_eq_true.mp zok106 E hE⟩
theorem zmt107 : zMTp am_m107 := ⟨by decide +kernel, by decide, rfl, by decide +kernel, fun E hE => List.all_eq_true.mp zok107 E hE⟩
theorem zmt108 : zMTp am_m108 := ⟨by decide +kernel, by decide, rfl, by decide +kernel, fun E hE => List.all_eq_true.mp zok108 E hE⟩
theorem zmt109 : zMTp am_m109 := ⟨by decide +kernel, by decide, rfl, by decide +kernel, fun E hE => List.all_eq_true.mp zok109 E hE⟩
theorem zmt110 : zMTp am_m110 := ⟨by decide +kernel, by decide, rfl, by decide +kernel, fun E hE => List.all_eq_true.mp zok110 E hE⟩
theorem zmt111 : zMTp am_m111 := ⟨by decide +kernel, by decide, rfl, by decide +kernel, fun E hE => List.all_eq_true.mp zok111 E hE⟩
theorem zmt112 : zMTp am_m112 := ⟨by decide +kernel, by decide, rfl, by decide +kernel, fun E hE => List.all_eq_true.mp zok112 E hE⟩
theorem zmt113 : zMTp am_m113 := ⟨by decide +kernel, by decide, rfl, by decide +kernel, fun E hE => List.all_eq_true.mp zok113 E hE⟩
theorem zmt114 : zMTp am_m114 := ⟨by decide +kernel, by decide, rfl, by decide +kernel, fun E hE => List.all_eq_true.mp zok114 E hE⟩
theorem zmt115 : zMTp am_m115 := ⟨by decide +kernel, by decide, rfl, by decide +kernel, fun E hE => List.all_eq_true.mp zok115 E hE⟩
theorem zmt116 : zMTp am_m116 := ⟨by decide +kernel, by decide, rfl, by decide +kernel, fun E hE => List.all_eq_true.mp zok116 E hE⟩
theorem zmt117 : zMTp am_m117 := ⟨by decide +kernel, by decide, rfl, by decide +kernel, fun E hE => List.all_eq_true.mp zok117 E hE⟩
theorem zmt118 : zMTp am_m118 := ⟨by decide +kernel, by decide, rfl, by decide +kernel, fun E hE => List.all_eq_true.mp zok118 E hE⟩
theorem zmt119 : zMTp am_m119 := ⟨by decide +kernel, by decide, rfl, by decide +kernel, fun E hE => List.all_eq_true.mp zok119 E hE⟩
theorem zmt120 : zMTp am_m120 := ⟨by decide +kernel, by decide, rfl, by decide +kernel, fun E hE => List.all_eq_true.mp zok120 E hE⟩
theorem zmt121 : zMTp am_m121 := ⟨by decide +kernel, by decide, rfl, by decide +kernel, fun E hE => List.all_eq_true.mp zok121 E hE⟩
theorem zmt122 : zMTp am_m122 := ⟨by decide +kernel, by decide, rfl, by decide +kernel, fun E hE => List.all_eq_true.mp zok122 E hE⟩
theorem zmt123 : zMTp am_m123 := ⟨by decide +kernel, by decide, rfl, by decide +kernel, fun E hE => List.all_eq_true.mp zok123 E hE⟩
theorem zmt124 : zMTp am_m124 := ⟨by decide +kernel, by decide, rfl, by decide +kernel, fun E hE => List.all_eq_true.mp zok124 E hE⟩
theorem zmt125 : zMTp am_m125 := ⟨by decide +kernel, by decide, rfl, by decide +kernel, fun E hE => List.all_eq_true.mp zok125 E hE⟩
theorem zmt126 : zMTp am_m126 := ⟨by decide +kernel, by decide, rfl, by decide +kernel, fun E hE => List.all_eq_true.mp zok126 E hE⟩
theorem zmt127 : zMTp am_m127 := ⟨by decide +kernel, by decide, rfl, by decide +kernel, fun E hE => List.all_eq_true.mp zok127 E hE⟩
theorem zmt128 : zMTp am_m128 := ⟨by decide +kernel, by decide, rfl, by decide +kernel, fun E hE => List.all_eq_true.mp zok128 E hE⟩
theorem zmt129 : zMTp am_m129 := ⟨by decide +kernel, by decide, rfl, by decide +kernel, fun E hE => List.all_eq_true.mp zok129 E hE⟩
theorem zmt130 : zMTp am_m130 := ⟨by decide +kernel, by decide, rfl, by decide +kernel, fun E hE => List.all_eq_true.mp zok130 E hE⟩
theorem zmt131 : zMTp am_m131 := ⟨by decide +kernel, by decide, rfl, by decide +kernel, fun E hE => List.all_eq_true.mp zok131 E hE⟩
theorem zmt132 : zMTp am_m132 := ⟨by decide +kernel, by decide, rfl, by decide +kernel, fun E hE => List.all_eq_true.mp zok132 E hE⟩
theorem zmt133 : zMTp am_m133 := ⟨by decide +kernel, by decide, rfl, by decide +kernel, fun E hE => List.all_eq_true.mp zok133 E hE⟩
theorem zmt134 : zMTp am_m134 := ⟨by decide +kernel, by decide, rfl, by decide +kernel, fun E hE => List.all_eq_true.mp zok134 E hE⟩
theorem zmt135 : zMTp am_m135 := ⟨by decide +kernel, by decide, rfl, by decide +kernel, fun E hE => List.all_eq_true.mp zok135 E hE⟩
theorem zmt136 : zMTp am_m136 := ⟨by decide +kernel, by decide, rfl, by decide +kernel, fun E hE => List.all_eq_true.mp zok136 E hE⟩
theorem zmt137 : zMTp am_m137 := ⟨by decide +kernel, by decide, rfl, by decide +kernel, fun E hE => List.all_eq_true.mp zok137 E hE⟩
theorem zmt138 : zMTp am_m138 := ⟨by decide +kernel, by decide, rfl, by decide +kernel, fun E hE => List.all_eq_true.mp zok138 E hE⟩
theorem zmt139 : zMTp am_m139 := ⟨by decide +kernel, by decide, rfl, by decide +kernel, fun E hE => List.all_eq_true.mp zok139 E hE⟩
theorem zmt140 : zMTp am_m140 := ⟨by decide +kernel, by decide, ⟨_, rfl⟩, by decide +kernel, fun E hE => List.all_eq_true.mp zok140 E hE⟩
theorem zmt141 : zMTp am_m141 := ⟨by decide +kernel, by decide, rfl, by decide +kernel, fun E hE => List.all_eq_true.mp zok141 E hE⟩
theorem zmt142 : zMTp am_m142 := ⟨by decide +kernel, by decide, rfl, by decide +kernel, fun E hE => List.all_eq_true.mp zok142 E hE⟩
theorem zmt143 : zMTp am_m143 := ⟨by decide +kernel, by decide, rfl, by decide +kernel, fun E hE => List.all_eq_true.mp zok143 E hE⟩
theorem zmt144 : zMTp am_m144 := ⟨by decide +kernel, by decide, rfl, by decide +kernel, fun E hE => List.all_eq_true.mp zok144 E hE⟩
theorem zmt145 : zMTp am_m145 := ⟨by decide +kernel, by decide, rfl, by decide +kernel, fun E hE => List.all_eq_true.mp zok145 E hE⟩
theorem zmt146 : zMTp am_m146 := ⟨by decide +kernel, by decide, rfl, by decide +kernel, fun E hE => List.all_eq_true.mp zok146 E hE⟩
theorem zmt147 : zMTp am_m147 := ⟨by decide +kernel, by decide, rfl, by decide +kernel, fun E hE => List.all_eq_true.mp zok147 E hE⟩
theorem zmt148 : zMTp am_m148 := ⟨by decide +kernel, by decide, rfl, by decide +kernel, fun E hE => List.all_eq_true.mp zok148 E hE⟩
theorem zmt149 : zMTp am_m149 := ⟨by decide +kernel, by decide, rfl, by decide +kernel, fun E hE => List.all_eq_true.mp zok149 E hE⟩
theorem zmt150 : zMTp am_m150 := ⟨by decide +kernel, by decide, rfl, by decide +kernel, fun E hE => List.all_eq_true.mp zok150 E hE⟩
theorem zmt151 : zMTp am_m151 := ⟨by decide +kernel, by decide, rfl, by decide +kernel, fun E hE => List.all_eq_true.mp zok151 E hE⟩
theorem zmt152 : zMTp am_m152 := ⟨by decide +kernel, by decide, rfl, by decide +kernel, fun E hE => List.all_eq_true.mp zok152 E hE⟩
theorem zmt153 : zMTp am_m153 := ⟨by decide +kernel, by decide, rfl, by decide +kernel, fun E hE => List.all_eq_true.mp zok153 E hE⟩
theorem zmt154 : zMTp am_m154 := ⟨by decide +kernel, by decide, rfl, by decide +kernel, fun E hE => List.all_eq_true.mp zok154 E hE⟩
theorem zmt155 : zMTp am_m155 := ⟨by decide +kernel, by decide, rfl, by decide +kernel, fun E hE => List.all_eq_true.mp zok155 E hE⟩
theorem zmt156 : zMTp am_m156 := ⟨by decide +kernel, by decide, rfl, by decide +kernel, fun E hE => List.all_eq_true.mp zok156 E hE⟩
theorem zmt157 : zMTp am_m157 := ⟨by decide +kernel, by decide, rfl, by decide +kernel, fun E hE => List.all_eq_true.mp zok157 E hE⟩
theorem zmt158 : zMTp am_m158 := ⟨by decide +kernel, by decide, rfl, by decide +kernel, fun E hE => List.all_eq_true.mp zok158 E hE⟩
theorem zmt159 : zMTp am_m159 := ⟨by decide +kernel, by decide, rfl, by decide +kernel, fun E hE => List.all_eq_true.mp zok159 E hE⟩
theorem zmt160 : zMTp am_m160 := ⟨by decide +kernel, by decide, rfl, by decide +kernel, fun E hE => List.all_eq_true.mp zok160 E hE⟩
theorem zmt161 : zMTp am_m161 := ⟨by decide +kernel, by decide, rfl, by decide +kernel, fun E hE => List.all_eq_true.mp zok161 E hE⟩
theorem zmt162 : zMTp am_m162 := ⟨by decide +kernel, by decide, rfl, by decide +kernel, fun E hE => List.all_eq_true.mp zok162 E hE⟩
theorem zmt163 : zMTp am_m163 := ⟨by decide +kernel, by decide, rfl, by decide +kernel, fun E hE => List.all_eq_true.mp zok163 E hE⟩
theorem zmt164 : zMTp am_m164 := ⟨by decide +kernel, by decide, rfl, by decide +kernel, fun E hE => List.all_eq_true.mp zok164 E hE⟩
theorem zmt165 : zMTp am_m165 := ⟨by decide +kernel, by decide, rfl, by decide +kernel, fun E hE => List.all_eq_true.mp zok165 E hE⟩
theorem zmt166 : zMTp am_m166 := ⟨by decide +kernel, by decide, rfl, by decide +kernel, fun E hE => List.all_eq_true.mp zok166 E hE⟩
theorem zmt167 : zMTp am_m167 := ⟨by decide +kernel, by decide, rfl, by decide +kernel, fun E hE => List.all_eq_true.mp zok167 E hE⟩
theorem zmt168 : zMTp am_m168 := ⟨by decide +kernel, by decide, rfl, by decide +kernel, fun E hE => List.all_eq_true.mp zok168 E hE⟩
theorem zmt169 : zMTp am_m169 := ⟨by decide +kernel, by decide, rfl, by decide +kernel, fun E hE => List.all_eq_true.mp zok169 E hE⟩
theorem zmt170 : zMTp am_m170 := ⟨by decide +kernel, by decide, rfl, by decide +kernel, fun E hE => List.all_eq_true.mp zok170 E hE⟩
theorem zmt171 : zMTp am_m171 := ⟨by decide +kernel, by decide, rfl, by decide +kernel, fun E hE => List.all_eq_true.mp zok171 E hE⟩
theorem zmt172 : zMTp am_m172 := ⟨by decide +kernel, by decide, rfl, by decide +kernel, fun E hE => List.all_eq_true.mp zok172 E hE⟩
theorem zmt173 : zMTp am_m173 := ⟨by decide +kernel, by decide, rfl, by decide +kernel, fun E hE => List.all_eq_true.mp zok173 E hE⟩
theorem zmt174 : zMTp am_m174 := ⟨by decide +kernel, by decide, rfl, by decide +kernel, fun E hE => List.all_eq_true.mp zok174 E hE⟩
theorem zmt175 : zMTp am_m175 := ⟨by decide +kernel, by decide, rfl, by decide +kernel, fun E hE => List.all_eq_true.mp zok175 E hE⟩
theorem zmt176 : zMTp am_m176 := ⟨by decide +kernel, by decide, rfl, by decide +kernel, fun E hE => List.all_eq_true.mp zok176 E hE⟩
theorem zmt177 : zMTp am_m177 := ⟨by decide +kernel, by decide, rfl, by decide +kernel, fun E hE => List.all_eq_true.mp zok177 E hE⟩
theorem zmt178 : zMTp am_m178 := ⟨by decide +kernel, by decide, rfl, by decide +kernel, fun E hE => List.all_eq_true.mp zok178 E hE⟩
theorem zmt179 : zMTp am_m179 := ⟨by decide +kernel, by decide, rfl, by decide +kernel, fun E hE => List.all_eq_true.mp zok179 E hE⟩
theorem zmt180 : zMTp am_m180 := ⟨by decide +kernel, by decide, rfl, by decide +kernel, fun E hE => List.all_eq_true.mp zok180 E hE⟩
theorem zmt181 : zMTp am_m181 := ⟨by decide +kernel, by decide, rfl, by decide +kernel, fun E hE => List.all_eq_true.mp zok181 E hE⟩
theorem zmt182 : zMTp am_m182 := ⟨by decide +kernel, by decide, rfl, by decide +kernel, fun E hE => List.all_eq_true.mp zok182 E hE⟩
theorem zmt183 : zMTp am_m183 := ⟨by decide +kernel, by decide, rfl, by decide +kernel, fun E hE => List.all_eq_true.mp zok183 E hE⟩
theorem zmt184 : zMTp am_m184 := ⟨by decide +kernel, by decide, rfl, by decide +kernel, fun E hE => List.all_eq_true.mp zok184 E hE⟩
theorem zmt185 : zMTp am_m185 := ⟨by decide +kernel, by decide, rfl, by decide +kernel, fun E hE => List.all_eq_true.mp zok185 E hE⟩
theorem zmt186 : zMTp am_m186 := ⟨by decide +kernel, by decide, rfl, by decide +kernel, fun E hE => List.all_eq_true.mp zok186 E hE⟩
theorem zmt187 : zMTp am_m187 := ⟨by decide +kernel, by decide, rfl, by decide +kernel, fun E hE => List.all_eq_true.mp zok187 E hE⟩
theorem zmt188 : zMTp am_m188 := ⟨by decide +kernel, by decide, rfl, by decide +kernel, fun E hE => List.all_eq_true.mp zok188 E hE⟩
theorem zmt189 : zMTp am_m189 := ⟨by decide +kernel, by decide, rfl, by decide +kernel, fun E hE => List.all_eq_true.mp zok189 E hE⟩
theorem zmt190 : zMTp am_m190 := ⟨by decide +kernel, by decide, rfl, by decide +kernel, fun E hE => List.all_eq_true.mp zok190 E hE⟩
theorem zmt191 : zMTp am_m191 := ⟨by decide +kernel, by decide, rfl, by decide +kernel, fun E hE => List.all_eq_true.mp zok191 E hE⟩
theorem zmt192 : zMTp am_m192 := ⟨by decide +kernel, by decide, rfl, by decide +kernel, fun E hE => List.all_eq_true.mp zok192 E hE⟩
theorem zmt193 : zMTp am_m193 := ⟨by decide +kernel, by decide, rfl, by decide +kernel, fun E hE => List.all_eq_true.mp zok193 E hE⟩
theorem zmt194 : zMTp am_m194 := ⟨by decide +kernel, by decide, rfl, by decide +kernel, fun E hE => List.all_eq_true.mp zok194 E hE⟩
theorem zmt195 : zMTp am_m195 := ⟨by decide +kernel, by decide, rfl, by decide +kernel, fun E hE => List.all_eq_true.mp zok195 E hE⟩
theorem zmt196 : zMTp am_m196 := ⟨by decide +kernel, by decide, rfl, by decide +kernel, fun E hE => List.all_eq_true.mp zok196 E hE⟩
theorem zmt197 : zMTp am_m197 := ⟨by decide +kernel, by decide, rfl, by decide +kernel, fun E hE => List.all_eq_true.mp zok197 E hE⟩
theorem zmt198 : zMTp am_m198 := ⟨by decide +kernel, by decide, rfl, by decide +kernel, fun E hE => List.all_eq_true.mp zok198 E hE⟩
theorem zmt199 : zMTp am_m199 := ⟨by decide +kernel, by decide, rfl, by decide +kernel, fun E hE => List.all_eq_true.mp zok199 E hE⟩
theorem zmt200 : zMTp am_m200 := ⟨by decide +kernel, by decide, rfl, by decide +kernel, fun E hE => List.all_eq_true.mp zok200 E hE⟩
theorem zmt201 : zMTp am_m201 := ⟨by decide +kernel, by decide, rfl, by decide +kernel, fun E hE => List.all_eq_true.mp zok201 E hE⟩
theorem zmt202 : zMTp am_m202 := ⟨by decide +kernel, by decide, rfl, by decide +kernel, fun E hE => List.all_eq_true.mp zok202 E hE⟩
theorem zmt203 : zMTp am_m203 := ⟨by decide +kernel, by decide, rfl, by decide +kernel, fun E hE => List.all_eq_true.mp zok203 E hE⟩
theorem zmt204 : zMTp am_m204 := ⟨by decide +kernel, by decide, rfl, by decide +kernel, fun E hE => List.all_eq_true.mp zok204 E hE⟩
theorem zmt205 : zMTp am_m205 := ⟨by decide +kernel, by decide, rfl, by decide +kernel, fun E hE => List.all_eq_true.mp zok205 E hE⟩
theorem zmt206 : zMTp am_m206 := ⟨by decide +kernel, by decide, rfl, by decide +kernel, fun E hE => List.all_eq_true.mp zok206 E hE⟩
theorem zmt207 : zMTp am_m207 := ⟨by decide +kernel, by decide, rfl, by decide +kernel, fun E hE => List.all_eq_true.mp zok207 E hE⟩
theorem zmt208 : zMTp am_m208 := ⟨by decide +kernel, by decide, rfl, by decide +kernel, fun E hE => List.all_eq_true.mp zok208 E hE⟩
theorem zmt209 : zMTp am_m209 := ⟨by decide +kernel, by decide, rfl, by decide +kernel, fun E hE => List.all_eq_true.mp zok209 E hE⟩
theorem zmt210 : zMTp am_m210 := ⟨by decide +kernel, by decide, rfl, by decide +kernel, fun E hE => List.all_eq_true.mp zok210 E hE⟩
theorem zmt211 : zMTp am_m211 := ⟨by decide +kernel, by decide, rfl, by decide +kernel, fun E hE => List.all_eq_true.mp zok211 E hE⟩
theorem zmt212 : zMTp am_m212 := ⟨by decide +kernel, by decide, rfl, by decide +kernel, fun E hE => List.all_eq_true.mp zok212 E hE⟩
theorem zmt213 : zMTp am_m213 := ⟨by decide +kernel, by decide, rfl, by decide +kernel, fun E hE => List.all_eq_true.mp zok213 E hE⟩
theorem zmt214 : zMTp am_m214 := ⟨by decide +kernel, by decide, rfl, by decide +kernel, fun E hE => List.all_eq_true.mp zok214 E hE⟩
theorem zmt215 : zMTp am_m215 := ⟨by decide +kernel, by decide, rfl, by decide +kernel, fun E hE => List.all_eq_true.mp zok215 E hE⟩
theorem zmt216 : zMTp am_m216 := ⟨by decide +kernel, by decide, rfl, by decide +kernel, fun E hE => List.all_eq_true.mp zok216 E hE⟩
theorem zmt217 : zMTp am_m217 := ⟨by decide +kernel, by decide, rfl, by decide +kernel, fun E hE => List.all_eq_true.mp zok217 E hE⟩
theorem zmt218 : zMTp am_m218 := ⟨by decide +kernel, by decide, rfl, by decide +kernel, fun E hE => List.all_eq_true.mp zok218 E hE⟩
theorem zmt219 : zMTp am_m219 := ⟨by decide +kernel, by decide, rfl, by decide +kernel, fun E hE => List.all_eq_true.mp zok219 E hE⟩
theorem zmt220 : zMTp am_m220 := ⟨by decide +kernel, by decide, rfl, by decide +kernel, fun E hE => List.all_eq_true.mp zok220 E hE⟩
theorem zmt221 : zMTp am_m221 := ⟨by decide +kernel, by decide, rfl, by decide +kernel, fun E hE => List.all_eq_true.mp zok221 E hE⟩
theorem zmt222 : zMTp am_m222 := ⟨by decide +kernel, by decide, rfl, by decide +kernel, fun E hE => List.all_eq_true.mp zok222 E hE⟩
theorem zmt223 : zMTp am_m223 := ⟨by decide +kernel, by decide, rfl, by decide +kernel, fun E hE => List.all_eq_true.mp zok223 E hE⟩
theorem zmt224 : zMTp am_m224 := ⟨by decide +kernel, by decide, rfl, by decide +kernel, fun E hE => List.all_eq_true.mp zok224 E hE⟩
theorem zmt225 : zMTp am_m225 := ⟨by decide +kernel, by decide, rfl, by decide +kernel, fun E hE => List.all_eq_true.mp zok225 E hE⟩
theorem zmt226 : zMTp am_m226 := ⟨by decide +kernel, by decide, rfl, by decide +kernel, fun E hE => List.all_eq_true.mp zok226 E hE⟩
theorem zmt227 : zMTp am_m227 := ⟨by decide +kernel, by decide, rfl, by decide +kernel, fun E hE => List.all_eq_true.mp zok227 E hE⟩
theorem zmt228 : zMTp am_m228 := ⟨by decide +kernel, by decide, rfl, by decide +kernel, fun E hE => List.all_eq_true.mp zok228 E hE⟩
theorem zmt229 : zMTp am_m229 := ⟨by decide +kernel, by decide, rfl, by decide +kernel, fun E hE => List.all_eq_true.mp zok229 E hE⟩
theorem zmt230 : zMTp am_m230 := ⟨by decide +kernel, by decide, rfl, by decide +kernel, fun E hE => List.all_eq_true.mp zok230 E hE⟩
theorem zmt231 : zMTp am_m231 := ⟨by decide +kernel, by decide, rfl, by decide +kernel, fun E hE => List.all_eq_true.mp zok231 E hE⟩
theorem zmt232 : zMTp am_m232 := ⟨by decide +kernel, by decide, rfl, by decide +kernel, fun E hE => List.all_eq_true.mp zok232 E hE⟩
theorem zmt233 : zMTp am_m233 := ⟨by decide +kernel, by decide, rfl, by decide +kernel, fun E hE => List.all_eq_true.mp zok233 E hE⟩
theorem zmt234 : zMTp am_m234 := ⟨by decide +kernel, by decide, rfl, by decide +kernel, fun E hE => List.all_eq_true.mp zok234 E hE⟩
theorem zmt235 : zMTp am_m235 := ⟨by decide +kernel, by decide, rfl, by decide +kernel, fun E hE => List.all_eq_true.mp zok235 E hE⟩
theorem zmt236 : zMTp am_m236 := ⟨by decide +kernel, by decide, rfl, by decide +kernel, fun E hE => List.all_eq_true.mp zok236 E hE⟩
theorem zmt237 : zMTp am_m237 := ⟨by decide +kernel, by decide, rfl, by decide +kernel, fun E hE => List.all_eq_true.mp zok237 E hE⟩
theorem zmt238 : zMTp am_m238 := ⟨by decide +kernel, by decide, rfl, by decide +kernel, fun E hE => List.all_eq_true.mp zok238 E hE⟩
theorem zmt239 : zMTp am_m239 := ⟨by decide +kernel, by decide, rfl, by decide +kernel, fun E hE => List.all_eq_true.mp zok239 E hE⟩
theorem zmt240 : zMTp am_m240 := ⟨by decide +kernel, by decide, rfl, by decide +kernel, fun E hE => List.all_eq_true.mp zok240 E hE⟩
theorem zmt241 : zMTp am_m241 := ⟨by decide +kernel, by decide, rfl, by decide +kernel, fun E hE => List.all_eq_true.mp zok241 E hE⟩
theorem zmt242 : zMTp am_m242 := ⟨by decide +kernel, by decide, rfl, by decide +kernel, fun E hE => List.all_eq_true.mp zok242 E hE⟩
theorem zmt243 : zMTp am_m243 := ⟨by decide +kernel, by decide, rfl, by decide +kernel, fun E hE => List.all_eq_true.mp zok243 E hE⟩
theorem zmt244 : zMTp am_m244 := ⟨by decide +kernel, by decide, rfl, by decide +kernel, fun E hE => List.all_eq_true.mp zok244 E hE⟩
theorem zmt245 : zMTp am_m245 := ⟨by decide +kernel, by decide, rfl, by decide +kernel, fun E hE => List.all_eq_true.mp zok245 E hE⟩
theorem zmt246 : zMTp am_m246 := ⟨by decide +kernel, by decide, rfl, by decide +kernel, fun E hE => List.all_eq_true.mp zok246 E hE⟩
theorem zmt247 : zMTp am_m247 := ⟨by decide +kernel, by decide, rfl, by decide +kernel, fun E hE => List.all_eq_true.mp zok247 E hE⟩
theorem zmt248 : zMTp am_m248 := ⟨by decide +kernel, by decide, rfl, by decide +kernel, fun E hE => List.all_eq_true.mp zok248 E hE⟩
theorem zmt249 : zMTp am_m249 := ⟨by decide +kernel, by decide, rfl, by decide +kernel, fun E hE => List.all_eq_true.mp zok249 E hE⟩
theorem zmt250 : zMTp am_m250 := ⟨by decide +kernel, by decide, rfl, by decide +kernel, fun E hE => List.all_eq_true.mp zok250 E hE⟩
theorem zmt251 : zMTp am_m251 := ⟨by decide +kernel, by decide, rfl, by decide +kernel, fun E hE => List.all_eq_true.mp zok251 E hE⟩
theorem zmt252 : zMTp am_m252 := ⟨by decide +kernel, by decide, rfl, by decide +kernel, fun E hE => List.all_eq_true.mp zok252 E hE⟩
theorem zmt253 : zMTp am_m253 := ⟨by decide +kernel, by decide, rfl, by decide +kernel, fun E hE => List.all_eq_true.mp zok253 E hE⟩
theorem zmt254 : zMTp am_m254 := ⟨by decide +kernel, by decide, rfl, by decide +kernel, fun E hE => List.all_eq_true.mp zok254 E hE⟩
theorem zmt255 : zMTp am_m255 := ⟨by decide +kernel, by decide, rfl, by decide +kernel, fun E hE => List.all_eq_true.mp zok255 E hE⟩
theorem zmt256 : zMTp am_m256 := ⟨by decide +kernel, by decide, rfl, by decide +kernel, fun E hE => List.all_eq_true.mp zok256 E hE⟩
theorem zmt257 : zMTp am_m257 := ⟨by decide +kernel, by decide, rfl, by decide +kernel, fun E hE => List.all_eq_true.mp zok257 E hE⟩
theorem zmt258 : zMTp am_m258 := ⟨by decide +kernel, by decide, rfl, by decide +kernel, fun E hE => List.all_eq_true.mp zok258 E hE⟩
theorem zmt259 : zMTp am_m259 := ⟨by decide +kernel, by decide, rfl, by decide +kernel, fun E hE => List.all_eq_true.mp zok259 E hE⟩
theorem zmt260 : zMTp am_m260 := ⟨by decide +kernel, by decide, rfl, by decide +kernel, fun E hE => List.all_eq_true.mp zok260 E hE⟩
theorem zmt261 : zMTp am_m261 := ⟨by decide +kernel, by decide, rfl, by decide +kernel, fun E hE => List.all_eq_true.mp zok261 E hE⟩
theorem zPl0 : ∀ M ∈ am_Pl0, zMTp M := List.forall_mem_cons.mpr ⟨zmt0, List.forall_mem_cons.mpr ⟨zmt1, List.forall_mem_cons.mpr ⟨zmt2, List.forall_mem_cons.mpr ⟨zmt3, List.forall_mem_cons.mpr ⟨zmt4, List.forall_mem_cons.mpr ⟨zmt5, List.forall_mem_cons.mpr ⟨zmt6, List.forall_mem_cons.mpr ⟨zmt7, List.forall_mem_cons.mpr ⟨zmt8, List.forall_mem_cons.mpr ⟨zmt9, List.forall_mem_cons.mpr ⟨zmt10, List.forall_mem_cons.mpr ⟨zmt11, List.forall_mem_cons.mpr ⟨zmt12, List.forall_mem_cons.mpr ⟨zmt13, List.forall_mem_cons.mpr ⟨zmt14, List.forall_mem_cons.mpr ⟨zmt15, fun _ h => absurd h List.not_mem_nil⟩⟩⟩⟩⟩⟩⟩⟩⟩⟩⟩⟩⟩⟩⟩⟩
theorem zPl1 : ∀ M ∈ am_Pl1, zMTp M := List.forall_mem_cons.mpr ⟨zmt16, List.forall_mem_cons.mpr ⟨zmt17, List.forall_mem_cons.mpr ⟨zmt18, List.forall_mem_cons.mpr ⟨zmt19, List.forall_mem_cons.mpr ⟨zmt20, List.forall_mem_cons.mpr ⟨zmt21, List.forall_mem_cons.mpr ⟨zmt22, List.forall_mem_cons.mpr ⟨zmt23, List.forall_mem_cons.mpr ⟨zmt24, List.forall_mem_cons.mpr ⟨zmt25, List.forall_mem_cons.mpr ⟨zmt26, List.forall_mem_cons.mpr ⟨zmt27, List.forall_mem_cons.mpr ⟨zmt28, List.forall_mem_cons.mpr ⟨zmt29, List.forall_mem_cons.mpr ⟨zmt30, List.forall_mem_cons.mpr ⟨zmt31, fun _ h => absurd h List.not_mem_nil⟩⟩⟩⟩⟩⟩⟩⟩⟩⟩⟩⟩⟩⟩⟩⟩
theorem zPl2 : ∀ M ∈ am_Pl2, zMTp M := List.forall_mem_cons.mpr ⟨zmt32, List.forall_mem_cons.mpr ⟨zmt33, List.forall_mem_cons.mpr ⟨zmt34, List.forall_mem_cons.mpr ⟨zmt35, List.forall_mem_cons.mpr ⟨zmt36, List.forall_mem_cons.mpr ⟨zmt37, List.forall_mem_cons.mpr ⟨zmt38, List.forall_mem_cons.mpr ⟨zmt39, List.forall_mem_cons.mpr ⟨zmt40, List.forall_mem_cons.mpr ⟨zmt41, List.forall_mem_cons.mpr ⟨zmt42, List.forall_mem_cons.mpr ⟨zmt43, List.forall_mem_cons.mpr ⟨zmt44, List.forall_mem_cons.mpr ⟨zmt45, List.forall_mem_cons.mpr ⟨zmt46, List.forall_mem_cons.mpr ⟨zmt47, fun _ h => absurd h List.not_mem_nil⟩⟩⟩⟩⟩⟩⟩⟩⟩⟩⟩⟩⟩⟩⟩⟩
theorem zPl3 : ∀ M ∈ am_Pl3, zMTp M := List.forall_mem_cons.mpr ⟨zmt48, List.forall_mem_cons.mpr ⟨zmt49, List.forall_mem_cons.mpr ⟨zmt50, List.forall_mem_cons.mpr ⟨zmt51, List.forall_mem_cons.mpr ⟨zmt52, List.forall_mem_cons.mpr ⟨zmt53, List.forall_mem_cons.mpr ⟨zmt54, List.forall_mem_cons.mpr ⟨zmt55, List.forall_mem_cons.mpr ⟨zmt56, List.forall_mem_cons.mpr ⟨zmt57, List.forall_mem_cons.mpr ⟨zmt58, List.forall_mem_cons.mpr ⟨zmt59, List.forall_mem_cons.mpr ⟨zmt60, List.forall_mem_cons.mpr ⟨zmt61, List.forall_mem_cons.mpr ⟨zmt62, List.forall_mem_cons.mpr ⟨zmt63, fun _ h => absurd h List.not_mem_nil⟩⟩⟩⟩⟩⟩⟩⟩⟩⟩⟩⟩⟩⟩⟩⟩
theorem zPl4 : ∀ M ∈ am_Pl4, zMTp M := List.forall_mem_cons.mpr ⟨zmt64, List.forall_mem_cons.mpr ⟨zmt65, List.forall_mem_cons.mpr ⟨zmt66, List.forall_mem_cons.mpr ⟨zmt67, List.forall_mem_cons.mpr ⟨zmt68, List.forall_mem_cons.mpr ⟨zmt69, List.forall_mem_cons.mpr ⟨zmt70, List.forall_mem_cons.mpr ⟨zmt71, List.forall_mem_cons.mpr ⟨zmt72, List.forall_mem_cons.mpr ⟨zmt73, List.forall_mem_cons.mpr ⟨zmt74, List.forall_mem_cons.mpr ⟨zmt75, List.forall_mem_cons.mpr ⟨zmt76, List.forall_mem_cons.mpr ⟨zmt77, List.forall_mem_cons.mpr ⟨zmt78, List.forall_mem_cons.mpr ⟨zmt79, fun _ h => absurd h List.not_mem_nil⟩⟩⟩⟩⟩⟩⟩⟩⟩⟩⟩⟩⟩⟩⟩⟩
theorem zPl5 : ∀ M ∈ am_Pl5, zMTp M := List.forall_mem_cons.mpr ⟨zmt80, List.forall_mem_cons.mpr ⟨zmt81, List.forall_mem_cons.mpr ⟨zmt82, List.forall_mem_cons.mpr ⟨zmt83, List.forall_mem_cons.mpr ⟨zmt84, List.forall_mem_cons.mpr ⟨zmt85, List.forall_mem_cons.mpr ⟨zmt86, List.forall_mem_cons.mpr ⟨zmt87, List.forall_mem_cons.mpr ⟨zmt88, List.forall_mem_cons.mpr ⟨zmt89, List.forall_mem_cons.mpr ⟨zmt90, List.forall_mem_cons.mpr ⟨zmt91, List.forall_mem_cons.mpr ⟨zmt92, List.forall_mem_cons.mpr ⟨zmt93, List.forall_mem_cons.mpr ⟨zmt94, List.forall_mem_cons.mpr ⟨zmt95, fun _ h => absurd h List.not_mem_nil⟩⟩⟩⟩⟩⟩⟩⟩⟩⟩⟩⟩⟩⟩⟩⟩
theorem zPl6 : ∀ M ∈ am_Pl6, zMTp M := List.forall_mem_cons.mpr ⟨zmt96, List.forall_mem_cons.mpr ⟨zmt97, List.forall_mem_cons.mpr ⟨zmt98, List.forall_mem_cons.mpr ⟨zmt99, List.forall_mem_cons.mpr ⟨zmt100, List.forall_mem_cons.mpr ⟨zmt101, List.forall_mem_cons.mpr ⟨zmt102, List.forall_mem_cons.mpr ⟨zmt103, List.forall_mem_cons.mpr ⟨zmt104, List.forall_mem_cons.mpr ⟨zmt105, List.forall_mem_cons.mpr ⟨zmt106, List.forall_mem_cons.mpr ⟨zmt107, List.forall_mem_cons.mpr ⟨zmt108, List.forall_mem_cons.mpr ⟨zmt109, List.forall_mem_cons.mpr ⟨zmt110, List.forall_mem_cons.mpr ⟨zmt111, fun _ h => absurd h List.not_mem_nil⟩⟩⟩⟩⟩⟩⟩⟩⟩⟩⟩⟩⟩⟩⟩⟩
theorem zPl7 : ∀ M ∈ am_Pl7, zMTp M := List.forall_mem_cons.mpr ⟨zmt112, List.forall_mem_cons.mpr ⟨zmt113, List.forall_mem_cons.mpr ⟨zmt114, List.forall_mem_cons.mpr ⟨zmt115, List.forall_mem_cons.mpr ⟨zmt116, List.forall_mem_cons.mpr ⟨zmt117, List.forall_mem_cons.mpr ⟨zmt118, List.forall_mem_cons.mpr ⟨zmt119, List.forall_mem_cons.mpr ⟨zmt120, List.forall_mem_cons.mpr ⟨zmt121, List.forall_mem_cons.mpr ⟨zmt122, List.forall_mem_cons.mpr ⟨zmt123, List.forall_mem_cons.mpr ⟨zmt124, List.forall_mem_cons.mpr ⟨zmt125, List.forall_mem_cons.mpr ⟨zmt126, List.forall_mem_cons.mpr ⟨zmt127, fun _ h => absurd h List.not_mem_nil⟩⟩⟩⟩⟩⟩⟩⟩⟩⟩⟩⟩⟩⟩⟩⟩
theorem zPl8 : ∀ M ∈ am_Pl8, zMTp M := List.forall_mem_cons.mpr ⟨zmt128, List.forall_mem_cons.mpr ⟨zmt129, List.forall_mem_cons.mpr ⟨zmt130, List.forall_mem_cons.mpr ⟨zmt131, List.forall_mem_cons.mpr ⟨zmt132, List.forall_mem_cons.mpr ⟨zmt133, List.forall_mem_cons.mpr ⟨zmt134, List.forall_mem_cons.mpr ⟨zmt135, List.forall_mem_cons.mpr ⟨zmt136, List.forall_mem_cons.mpr ⟨zmt137, List.forall_mem_cons.mpr ⟨zmt138, List.forall_mem_cons.mpr ⟨zmt139, List.forall_mem_cons.mpr ⟨zmt140, List.forall_mem_cons.mpr ⟨zmt141, List.forall_mem_cons.mpr ⟨zmt142, List.forall_mem_cons.mpr ⟨zmt143, fun _ h => absurd h List.not_mem_nil⟩⟩⟩⟩⟩⟩⟩⟩⟩⟩⟩⟩⟩⟩⟩⟩
theorem zPl9 : ∀ M ∈ am_Pl9, zMTp M := List.forall_mem_cons.mpr ⟨zmt144, List.forall_mem_cons.mpr ⟨zmt145, List.forall_mem_cons.mpr ⟨zmt146, List.forall_mem_cons.mpr ⟨zmt147, List.forall_mem_cons.mpr ⟨zmt148, List.forall_mem_cons.mpr ⟨zmt149, List.forall_mem_cons.mpr ⟨zmt150, List.forall_mem_cons.mpr ⟨zmt151, List.forall_mem_cons.mpr ⟨zmt152, List.forall_mem_cons.mpr ⟨zmt153, List.forall_mem_cons.mpr ⟨zmt154, List.forall_mem_cons.mpr ⟨zmt155, List.forall_mem_cons.mpr ⟨zmt156, List.forall_mem_cons.mpr ⟨zmt157, List.forall_mem_cons.mpr ⟨zmt158, List.forall_mem_cons.mpr ⟨zmt159, fun _ h => absurd h List.not_mem_nil⟩⟩⟩⟩⟩⟩⟩⟩⟩⟩⟩⟩⟩⟩⟩⟩
theorem zPl10 : ∀ M ∈ am_Pl10, zMTp M := List.forall_mem_cons.mpr ⟨zmt160, List.forall_mem_cons.mpr ⟨zmt161, List.forall_mem_cons.mpr ⟨zmt162, List.forall_mem_cons.mpr ⟨zmt163, List.forall_mem_cons.mpr ⟨zmt164, List.forall_mem_cons.mpr ⟨zmt165, List.forall_mem_cons.mpr ⟨zmt166, List.forall_mem_cons.mpr ⟨zmt167, List.forall_mem_cons.mpr ⟨zmt168, List.forall_mem_cons.mpr ⟨zmt169, List.forall_mem_cons.mpr ⟨zmt170, List.forall_mem_cons.mpr ⟨zmt171, List.forall_mem_cons.mpr ⟨zmt172, List.forall_mem_cons.mpr ⟨zmt173, List.forall_mem_cons.mpr ⟨zmt174, List.forall_mem_cons.mpr ⟨zmt175, fun _ h => absurd h List.not_mem_nil⟩⟩⟩⟩⟩⟩⟩⟩⟩⟩⟩⟩⟩⟩⟩⟩
theorem zPl11 : ∀ M ∈ am_Pl11, zMTp M := List.forall_mem_cons.mpr ⟨zmt176, List.forall_mem_cons.mpr ⟨zmt177, List.forall_mem_cons.mpr ⟨zmt178, List.forall_mem_cons.mpr ⟨zmt179, List.forall_mem_cons.mpr ⟨zmt180, List.forall_mem_cons.mpr ⟨zmt181, List.forall_mem_cons.mpr ⟨zmt182, List.forall_mem_cons.mpr ⟨zmt183, List.forall_mem_cons.mpr ⟨zmt184, List.forall_mem_cons.mpr ⟨zmt185, List.forall_mem_cons.mpr ⟨zmt186, List.forall_mem_cons.mpr ⟨zmt187, List.forall_mem_cons.mpr ⟨zmt188, List.forall_mem_cons.mpr ⟨zmt189, List.forall_mem_cons.mpr ⟨zmt190, List.forall_mem_cons.mpr ⟨zmt191, fun _ h => absurd h List.not_mem_nil⟩⟩⟩⟩⟩⟩⟩⟩⟩⟩⟩⟩⟩⟩⟩⟩
theorem zPl12 : ∀ M ∈ am_Pl12, zMTp M := List.forall_mem_cons.mpr ⟨zmt192, List.forall_mem_cons.mpr ⟨zmt193, List.forall_mem_cons.mpr ⟨zmt194, List.forall_mem_cons.mpr ⟨zmt195, List.forall_mem_cons.mpr ⟨zmt196, List.forall_mem_cons.mpr ⟨zmt197, List.forall_mem_cons.mpr ⟨zmt198, List.forall_mem_cons.mpr ⟨zmt199, List.forall_mem_cons.mpr ⟨zmt200, List.forall_mem_cons.mpr ⟨zmt201, List.forall_mem_cons.mpr ⟨zmt202, List.forall_mem_cons.mpr ⟨zmt203, List.forall_mem_cons.mpr ⟨zmt204, List.forall_mem_cons.mpr ⟨zmt205, List.forall_mem_cons.mpr ⟨zmt206, List.forall_mem_cons.mpr ⟨zmt207, fun _ h => absurd h List.not_mem_nil⟩⟩⟩⟩⟩⟩⟩⟩⟩⟩⟩⟩⟩⟩⟩⟩
theorem zPl13 : ∀ M ∈ am_Pl13, zMTp M := List.forall_mem_cons.mpr ⟨zmt208, List.forall_mem_cons.mpr ⟨zmt209, List.forall_mem_cons.mpr ⟨zmt210, List.forall_mem_cons.mpr ⟨zmt211, List.forall_mem_cons.mpr ⟨zmt212, List.forall_mem_cons.mpr ⟨zmt213, List.forall_mem_cons.mpr ⟨zmt214, List.forall_mem_cons.mpr ⟨zmt215, List.forall_mem_cons.mpr ⟨zmt216, List.forall_mem_cons.mpr ⟨zmt217, List.forall_mem_cons.mpr ⟨zmt218, List.forall_mem_cons.mpr ⟨zmt219, List.forall_mem_cons.mpr ⟨zmt220, List.forall_mem_cons.mpr ⟨zmt221, List.forall_mem_cons.mpr ⟨zmt222, List.forall_mem_cons.mpr ⟨zmt223, fun _ h => absurd h List.not_mem_nil⟩⟩⟩⟩⟩⟩⟩⟩⟩⟩⟩⟩⟩⟩⟩⟩
theorem zPl14 : ∀ M ∈ am_Pl14, zMTp M := List.forall_mem_cons.mpr ⟨zmt224, List.forall_mem_cons.mpr ⟨zmt225, List.forall_mem_cons.mpr ⟨zmt226, List.forall_mem_cons.mpr ⟨zmt227, List.forall_mem_cons.mpr ⟨zmt228, List.forall_mem_cons.mpr ⟨zmt229, List.forall_mem_cons.mpr ⟨zmt230, List.forall_mem_cons.mpr ⟨zmt231, List.forall_mem_cons.mpr ⟨zmt232, List.forall_mem_cons.mpr ⟨zmt233, List.forall_mem_cons.mpr ⟨zmt234, List.forall_mem_cons.mpr ⟨zmt235, List.forall_mem_cons.mpr ⟨zmt236, List.forall_mem_cons.mpr ⟨zmt237, List.forall_mem_cons.mpr ⟨zmt238, List.forall_mem_cons.mpr ⟨zmt239, fun _ h => absurd h List.not_mem_nil⟩⟩⟩⟩⟩⟩⟩⟩⟩⟩⟩⟩⟩⟩⟩⟩
theorem zPl15 : ∀ M ∈ am_Pl15, zMTp M := List.forall_mem_cons.mpr ⟨zmt240, List.forall_mem_cons.mpr ⟨zmt241, List.forall_mem_cons.mpr ⟨zmt242, List.forall_mem_cons.mpr ⟨zmt243, List.forall_mem_cons.mpr ⟨zmt244, List.forall_mem_cons.mpr ⟨zmt245, List.forall_mem_cons.mpr ⟨zmt246, List.forall_mem_cons.mpr ⟨zmt247, List.forall_mem_cons.mpr ⟨zmt248, List.forall_mem_cons.mpr ⟨zmt249, List.forall_mem_cons.mpr ⟨zmt250, List.forall_mem_cons.mpr ⟨zmt251, List.forall_mem_cons.mpr ⟨zmt252, List.forall_mem_cons.mpr ⟨zmt253, List.forall_mem_cons.mpr ⟨zmt254, List.forall_mem_cons.mpr ⟨zmt255, fun _ h => absurd h List.not_mem_nil⟩⟩⟩⟩⟩⟩⟩⟩⟩⟩⟩⟩⟩⟩⟩⟩
theorem zPl16 : ∀ M ∈ am_Pl16, zMTp M := List.forall_mem_cons.mpr ⟨zmt256, List.forall_mem_cons.mpr ⟨zmt257, List.forall_mem_cons.mpr ⟨zmt258, List.forall_mem_cons.mpr ⟨zmt259, List.forall_mem_cons.mpr ⟨zmt260, List.forall_mem_cons.mpr ⟨zmt261, fun _ h => absurd h List.not_mem_nil⟩⟩⟩⟩⟩⟩
theorem zPl : ∀ l ∈ am_Pl, ∀ M ∈ l, zMTp M := List.forall_mem_cons.mpr ⟨zPl0, List.forall_mem_cons.mpr ⟨zPl1, List.forall_mem_cons.mpr ⟨zPl2, List.forall_mem_cons.mpr ⟨zPl3, List.forall_mem_cons.mpr ⟨zPl4, List.forall_mem_cons.mpr ⟨zPl5, List.forall_mem_cons.mpr ⟨zPl6, List.forall_mem_cons.mpr ⟨zPl7, List.forall_mem_cons.mpr ⟨zPl8, List.forall_mem_cons.mpr ⟨zPl9, List.forall_mem_cons.mpr ⟨zPl10, List.forall_mem_cons.mpr ⟨zPl11, List.forall_mem_cons.mpr ⟨zPl12, List.forall_mem_cons.mpr ⟨zPl13, List.forall_mem_cons.mpr ⟨zPl14, List.forall_mem_cons.mpr ⟨zPl15, List.forall_mem_cons.mpr ⟨zPl16, fun _ h => absurd h List.not_mem_nil⟩⟩⟩⟩⟩⟩⟩⟩⟩⟩⟩⟩⟩⟩⟩⟩⟩
theorem zMT : am_MT zTs am_cl zfl zml "SixHands$Text" zcn am_P := by
  intro mi M h
  unfold am_P at h
  cases hl : am_Pl[mi / 16]? with
  | none => rw [hl] at h; cases h
  | some l =>
    rw [hl] at h
    exact zPl l (List.mem_of_getElem? hl) M (List.mem_of_getElem? h)
def zNw (q : Nat × Nat × Nat × String) : Jvm.Cond := match am_P q.2.2.1 with
  | some M => .methodLinkNest (zcn q.1) q.2.1 M.1 q.2.2.2
  | none => .tt
