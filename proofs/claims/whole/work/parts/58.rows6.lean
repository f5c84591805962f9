set_option maxRecDepth 100000 in
theorem zok242 : am_c242.all (am_okb zTs am_cl zfl zml "SixHands$Text" am_m242) = true := by decide +kernel
set_option maxRecDepth 100000 in
theorem zok243 : am_c243.all (am_okb zTs am_cl zfl zml "SixHands$Text" am_m243) = true := by decide +kernel
set_option maxRecDepth 100000 in
theorem zok244 : am_c244.all (am_okb zTs am_cl zfl zml "SixHands$Text" am_m244) = true := by decide +kernel
set_option maxRecDepth 100000 in
theorem zok245 : am_c245.all (am_okb zTs am_cl zfl zml "SixHands$Text" am_m245) = true := by decide +kernel
set_option maxRecDepth 100000 in
theorem zok246 : am_c246.all (am_okb zTs am_cl zfl zml "SixHands$Text" am_m246) = true := by decide +kernel
set_option maxRecDepth 100000 in
theorem zok247 : am_c247.all (am_okb zTs am_cl zfl zml "SixHands$Text" am_m247) = true := by decide +kernel
set_option maxRecDepth 100000 in
theorem zok248 : am_c248.all (am_okb zTs am_cl zfl zml "SixHands$Text" am_m248) = true := by decide +kernel
set_option maxRecDepth 100000 in
theorem zok249 : am_c249.all (am_okb zTs am_cl zfl zml "SixHands$Text" am_m249) = true := by decide +kernel
set_option maxRecDepth 100000 in
theorem zok250 : am_c250.all (am_okb zTs am_cl zfl zml "SixHands$Text" am_m250) = true := by decide +kernel
set_option maxRecDepth 100000 in
theorem zok251 : am_c251.all (am_okb zTs am_cl zfl zml "SixHands$Text" am_m251) = true := by decide +kernel
set_option maxRecDepth 100000 in
theorem zok252 : am_c252.all (am_okb zTs am_cl zfl zml "SixHands$Text" am_m252) = true := by decide +kernel
set_option maxRecDepth 100000 in
theorem zok253 : am_c253.all (am_okb zTs am_cl zfl zml "SixHands$Text" am_m253) = true := by decide +kernel
set_option maxRecDepth 100000 in
theorem zok254 : am_c254.all (am_okb zTs am_cl zfl zml "SixHands$Text" am_m254) = true := by decide +kernel
set_option maxRecDepth 100000 in
theorem zok255 : am_c255.all (am_okb zTs am_cl zfl zml "SixHands$Text" am_m255) = true := by decide +kernel
set_option maxRecDepth 100000 in
theorem zok256 : am_c256.all (am_okb zTs am_cl zfl zml "SixHands$Text" am_m256) = true := by decide +kernel
set_option maxRecDepth 100000 in
theorem zok257 : am_c257.all (am_okb zTs am_cl zfl zml "SixHands$Text" am_m257) = true := by decide +kernel
set_option maxRecDepth 100000 in
theorem zok258 : am_c258.all (am_okb zTs am_cl zfl zml "SixHands$Text" am_m258) = true := by decide +kernel
set_option maxRecDepth 100000 in
theorem zok259 : am_c259.all (am_okb zTs am_cl zfl zml "SixHands$Text" am_m259) = true := by decide +kernel
set_option maxRecDepth 100000 in
theorem zok260 : am_c260.all (am_okb zTs am_cl zfl zml "SixHands$Text" am_m260) = true := by decide +kernel
