set_option maxRecDepth 100000 in
theorem zok261_0 : am_c261_0.all (am_okb zTs am_cl zfl zml "SixHands$Text" am_m261) = true := by decide +kernel
set_option maxRecDepth 100000 in
theorem zok261_1 : am_c261_1.all (am_okb zTs am_cl zfl zml "SixHands$Text" am_m261) = true := by decide +kernel
set_option maxRecDepth 100000 in
theorem zok261_2 : am_c261_2.all (am_okb zTs am_cl zfl zml "SixHands$Text" am_m261) = true := by decide +kernel
set_option maxRecDepth 100000 in
theorem zok261_3 : am_c261_3.all (am_okb zTs am_cl zfl zml "SixHands$Text" am_m261) = true := by decide +kernel
