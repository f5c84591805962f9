set_option maxRecDepth 100000 in
theorem zok261_4 : am_c261_4.all (am_okb zTs am_cl zfl zml "SixHands$Text" am_m261) = true := by decide +kernel
set_option maxRecDepth 100000 in
theorem zok261_5 : am_c261_5.all (am_okb zTs am_cl zfl zml "SixHands$Text" am_m261) = true := by decide +kernel
set_option maxRecDepth 100000 in
theorem zok261_6 : am_c261_6.all (am_okb zTs am_cl zfl zml "SixHands$Text" am_m261) = true := by decide +kernel
set_option maxRecDepth 100000 in
theorem zok261_7 : am_c261_7.all (am_okb zTs am_cl zfl zml "SixHands$Text" am_m261) = true := by decide +kernel
