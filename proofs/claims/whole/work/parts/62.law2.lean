set_option maxRecDepth 100000 in
theorem zok261_8 : am_c261_8.all (am_okb zTs am_cl zfl zml "SixHands$Text" am_m261) = true := by decide +kernel
set_option maxRecDepth 100000 in
theorem zok261_9 : am_c261_9.all (am_okb zTs am_cl zfl zml "SixHands$Text" am_m261) = true := by decide +kernel
set_option maxRecDepth 100000 in
theorem zok261_10 : am_c261_10.all (am_okb zTs am_cl zfl zml "SixHands$Text" am_m261) = true := by decide +kernel
set_option maxRecDepth 100000 in
theorem zok261_11 : am_c261_11.all (am_okb zTs am_cl zfl zml "SixHands$Text" am_m261) = true := by decide +kernel
