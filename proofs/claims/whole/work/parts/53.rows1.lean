set_option maxRecDepth 100000 in
theorem zok44 : am_c44.all (am_okb zTs am_cl zfl zml "SixHands$Text" am_m44) = true := by decide +kernel
set_option maxRecDepth 100000 in
theorem zok45 : am_c45.all (am_okb zTs am_cl zfl zml "SixHands$Text" am_m45) = true := by decide +kernel
set_option maxRecDepth 100000 in
theorem zok46 : am_c46.all (am_okb zTs am_cl zfl zml "SixHands$Text" am_m46) = true := by decide +kernel
set_option maxRecDepth 100000 in
theorem zok47 : am_c47.all (am_okb zTs am_cl zfl zml "SixHands$Text" am_m47) = true := by decide +kernel
set_option maxRecDepth 100000 in
theorem zok48 : am_c48.all (am_okb zTs am_cl zfl zml "SixHands$Text" am_m48) = true := by decide +kernel
set_option maxRecDepth 100000 in
theorem zok49 : am_c49.all (am_okb zTs am_cl zfl zml "SixHands$Text" am_m49) = true := by decide +kernel
set_option maxRecDepth 100000 in
theorem zok50 : am_c50.all (am_okb zTs am_cl zfl zml "SixHands$Text" am_m50) = true := by decide +kernel
set_option maxRecDepth 100000 in
theorem zok51 : am_c51.all (am_okb zTs am_cl zfl zml "SixHands$Text" am_m51) = true := by decide +kernel
set_option maxRecDepth 100000 in
theorem zok52 : am_c52.all (am_okb zTs am_cl zfl zml "SixHands$Text" am_m52) = true := by decide +kernel
set_option maxRecDepth 100000 in
theorem zok53 : am_c53.all (am_okb zTs am_cl zfl zml "SixHands$Text" am_m53) = true := by decide +kernel
set_option maxRecDepth 100000 in
theorem zok54 : am_c54.all (am_okb zTs am_cl zfl zml "SixHands$Text" am_m54) = true := by decide +kernel
set_option maxRecDepth 100000 in
theorem zok55 : am_c55.all (am_okb zTs am_cl zfl zml "SixHands$Text" am_m55) = true := by decide +kernel
set_option maxRecDepth 100000 in
theorem zok56 : am_c56.all (am_okb zTs am_cl zfl zml "SixHands$Text" am_m56) = true := by decide +kernel
set_option maxRecDepth 100000 in
theorem zok57 : am_c57.all (am_okb zTs am_cl zfl zml "SixHands$Text" am_m57) = true := by decide +kernel
set_option maxRecDepth 100000 in
theorem zok58 : am_c58.all (am_okb zTs am_cl zfl zml "SixHands$Text" am_m58) = true := by decide +kernel
set_option maxRecDepth 100000 in
theorem zok59 : am_c59.all (am_okb zTs am_cl zfl zml "SixHands$Text" am_m59) = true := by decide +kernel
set_option maxRecDepth 100000 in
theorem zok60 : am_c60.all (am_okb zTs am_cl zfl zml "SixHands$Text" am_m60) = true := by decide +kernel
set_option maxRecDepth 100000 in
theorem zok61 : am_c61.all (am_okb zTs am_cl zfl zml "SixHands$Text" am_m61) = true := by decide +kernel
set_option maxRecDepth 100000 in
theorem zok62 : am_c62.all (am_okb zTs am_cl zfl zml "SixHands$Text" am_m62) = true := by decide +kernel
set_option maxRecDepth 100000 in
theorem zok63 : am_c63.all (am_okb zTs am_cl zfl zml "SixHands$Text" am_m63) = true := by decide +kernel
set_option maxRecDepth 100000 in
theorem zok64 : am_c64.all (am_okb zTs am_cl zfl zml "SixHands$Text" am_m64) = true := by decide +kernel
set_option maxRecDepth 100000 in
theorem zok65 : am_c65.all (am_okb zTs am_cl zfl zml "SixHands$Text" am_m65) = true := by decide +kernel
set_option maxRecDepth 100000 in
theorem zok66 : am_c66.all (am_okb zTs am_cl zfl zml "SixHands$Text" am_m66) = true := by decide +kernel
set_option maxRecDepth 100000 in
theorem zok67 : am_c67.all (am_okb zTs am_cl zfl zml "SixHands$Text" am_m67) = true := by decide +kernel
set_option maxRecDepth 100000 in
theorem zok68 : am_c68.all (am_okb zTs am_cl zfl zml "SixHands$Text" am_m68) = true := by decide +kernel
set_option maxRecDepth 100000 in
theorem zok69 : am_c69.all (am_okb zTs am_cl zfl zml "SixHands$Text" am_m69) = true := by decide +kernel
set_option maxRecDepth 100000 in
theorem zok70 : am_c70.all (am_okb zTs am_cl zfl zml "SixHands$Text" am_m70) = true := by decide +kernel
set_option maxRecDepth 100000 in
theorem zok71 : am_c71.all (am_okb zTs am_cl zfl zml "SixHands$Text" am_m71) = true := by decide +kernel
set_option maxRecDepth 100000 in
theorem zok72 : am_c72.all (am_okb zTs am_cl zfl zml "SixHands$Text" am_m72) = true := by decide +kernel
set_option maxRecDepth 100000 in
theorem zok73 : am_c73.all (am_okb zTs am_cl zfl zml "SixHands$Text" am_m73) = true := by decide +kernel
set_option maxRecDepth 100000 in
theorem zok74 : am_c74.all (am_okb zTs am_cl zfl zml "SixHands$Text" am_m74) = true := by decide +kernel
