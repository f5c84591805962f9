set_option maxRecDepth 100000 in
theorem zok0 : am_c0.all (am_okb zTs am_cl zfl zml "SixHands$Text" am_m0) = true := by decide +kernel
set_option maxRecDepth 100000 in
theorem zok1 : am_c1.all (am_okb zTs am_cl zfl zml "SixHands$Text" am_m1) = true := by decide +kernel
set_option maxRecDepth 100000 in
theorem zok2 : am_c2.all (am_okb zTs am_cl zfl zml "SixHands$Text" am_m2) = true := by decide +kernel
set_option maxRecDepth 100000 in
theorem zok3 : am_c3.all (am_okb zTs am_cl zfl zml "SixHands$Text" am_m3) = true := by decide +kernel
set_option maxRecDepth 100000 in
theorem zok4 : am_c4.all (am_okb zTs am_cl zfl zml "SixHands$Text" am_m4) = true := by decide +kernel
set_option maxRecDepth 100000 in
theorem zok5 : am_c5.all (am_okb zTs am_cl zfl zml "SixHands$Text" am_m5) = true := by decide +kernel
set_option maxRecDepth 100000 in
theorem zok6 : am_c6.all (am_okb zTs am_cl zfl zml "SixHands$Text" am_m6) = true := by decide +kernel
set_option maxRecDepth 100000 in
theorem zok7 : am_c7.all (am_okb zTs am_cl zfl zml "SixHands$Text" am_m7) = true := by decide +kernel
set_option maxRecDepth 100000 in
theorem zok8 : am_c8.all (am_okb zTs am_cl zfl zml "SixHands$Text" am_m8) = true := by decide +kernel
set_option maxRecDepth 100000 in
theorem zok9 : am_c9.all (am_okb zTs am_cl zfl zml "SixHands$Text" am_m9) = true := by decide +kernel
set_option maxRecDepth 100000 in
theorem zok10 : am_c10.all (am_okb zTs am_cl zfl zml "SixHands$Text" am_m10) = true := by decide +kernel
set_option maxRecDepth 100000 in
theorem zok11 : am_c11.all (am_okb zTs am_cl zfl zml "SixHands$Text" am_m11) = true := by decide +kernel
set_option maxRecDepth 100000 in
theorem zok12 : am_c12.all (am_okb zTs am_cl zfl zml "SixHands$Text" am_m12) = true := by decide +kernel
set_option maxRecDepth 100000 in
theorem zok13 : am_c13.all (am_okb zTs am_cl zfl zml "SixHands$Text" am_m13) = true := by decide +kernel
set_option maxRecDepth 100000 in
theorem zok14 : am_c14.all (am_okb zTs am_cl zfl zml "SixHands$Text" am_m14) = true := by decide +kernel
set_option maxRecDepth 100000 in
theorem zok15 : am_c15.all (am_okb zTs am_cl zfl zml "SixHands$Text" am_m15) = true := by decide +kernel
set_option maxRecDepth 100000 in
theorem zok16 : am_c16.all (am_okb zTs am_cl zfl zml "SixHands$Text" am_m16) = true := by decide +kernel
set_option maxRecDepth 100000 in
theorem zok17 : am_c17.all (am_okb zTs am_cl zfl zml "SixHands$Text" am_m17) = true := by decide +kernel
set_option maxRecDepth 100000 in
theorem zok18 : am_c18.all (am_okb zTs am_cl zfl zml "SixHands$Text" am_m18) = true := by decide +kernel
set_option maxRecDepth 100000 in
theorem zok19 : am_c19.all (am_okb zTs am_cl zfl zml "SixHands$Text" am_m19) = true := by decide +kernel
set_option maxRecDepth 100000 in
theorem zok20 : am_c20.all (am_okb zTs am_cl zfl zml "SixHands$Text" am_m20) = true := by decide +kernel
set_option maxRecDepth 100000 in
theorem zok21 : am_c21.all (am_okb zTs am_cl zfl zml "SixHands$Text" am_m21) = true := by decide +kernel
set_option maxRecDepth 100000 in
theorem zok22 : am_c22.all (am_okb zTs am_cl zfl zml "SixHands$Text" am_m22) = true := by decide +kernel
set_option maxRecDepth 100000 in
theorem zok23 : am_c23.all (am_okb zTs am_cl zfl zml "SixHands$Text" am_m23) = true := by decide +kernel
set_option maxRecDepth 100000 in
theorem zok24 : am_c24.all (am_okb zTs am_cl zfl zml "SixHands$Text" am_m24) = true := by decide +kernel
set_option maxRecDepth 100000 in
theorem zok25 : am_c25.all (am_okb zTs am_cl zfl zml "SixHands$Text" am_m25) = true := by decide +kernel
set_option maxRecDepth 100000 in
theorem zok26 : am_c26.all (am_okb zTs am_cl zfl zml "SixHands$Text" am_m26) = true := by decide +kernel
set_option maxRecDepth 100000 in
theorem zok27 : am_c27.all (am_okb zTs am_cl zfl zml "SixHands$Text" am_m27) = true := by decide +kernel
set_option maxRecDepth 100000 in
theorem zok28 : am_c28.all (am_okb zTs am_cl zfl zml "SixHands$Text" am_m28) = true := by decide +kernel
set_option maxRecDepth 100000 in
theorem zok29 : am_c29.all (am_okb zTs am_cl zfl zml "SixHands$Text" am_m29) = true := by decide +kernel
set_option maxRecDepth 100000 in
theorem zok30 : am_c30.all (am_okb zTs am_cl zfl zml "SixHands$Text" am_m30) = true := by decide +kernel
set_option maxRecDepth 100000 in
theorem zok31 : am_c31.all (am_okb zTs am_cl zfl zml "SixHands$Text" am_m31) = true := by decide +kernel
set_option maxRecDepth 100000 in
theorem zok32 : am_c32.all (am_okb zTs am_cl zfl zml "SixHands$Text" am_m32) = true := by decide +kernel
set_option maxRecDepth 100000 in
theorem zok33 : am_c33.all (am_okb zTs am_cl zfl zml "SixHands$Text" am_m33) = true := by decide +kernel
set_option maxRecDepth 100000 in
theorem zok34 : am_c34.all (am_okb zTs am_cl zfl zml "SixHands$Text" am_m34) = true := by decide +kernel
set_option maxRecDepth 100000 in
theorem zok35 : am_c35.all (am_okb zTs am_cl zfl zml "SixHands$Text" am_m35) = true := by decide +kernel
set_option maxRecDepth 100000 in
theorem zok36 : am_c36.all (am_okb zTs am_cl zfl zml "SixHands$Text" am_m36) = true := by decide +kernel
set_option maxRecDepth 100000 in
theorem zok37 : am_c37.all (am_okb zTs am_cl zfl zml "SixHands$Text" am_m37) = true := by decide +kernel
set_option maxRecDepth 100000 in
theorem zok38 : am_c38.all (am_okb zTs am_cl zfl zml "SixHands$Text" am_m38) = true := by decide +kernel
set_option maxRecDepth 100000 in
theorem zok39 : am_c39.all (am_okb zTs am_cl zfl zml "SixHands$Text" am_m39) = true := by decide +kernel
set_option maxRecDepth 100000 in
theorem zok40 : am_c40.all (am_okb zTs am_cl zfl zml "SixHands$Text" am_m40) = true := by decide +kernel
set_option maxRecDepth 100000 in
theorem zok41 : am_c41.all (am_okb zTs am_cl zfl zml "SixHands$Text" am_m41) = true := by decide +kernel
set_option maxRecDepth 100000 in
theorem zok42 : am_c42.all (am_okb zTs am_cl zfl zml "SixHands$Text" am_m42) = true := by decide +kernel
set_option maxRecDepth 100000 in
theorem zok43 : am_c43.all (am_okb zTs am_cl zfl zml "SixHands$Text" am_m43) = true := by decide +kernel
