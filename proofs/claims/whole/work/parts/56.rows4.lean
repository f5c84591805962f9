set_option maxRecDepth 100000 in
theorem zok181 : am_c181.all (am_okb zTs am_cl zfl zml "SixHands$Text" am_m181) = true := by decide +kernel
set_option maxRecDepth 100000 in
theorem zok182 : am_c182.all (am_okb zTs am_cl zfl zml "SixHands$Text" am_m182) = true := by decide +kernel
set_option maxRecDepth 100000 in
theorem zok183 : am_c183.all (am_okb zTs am_cl zfl zml "SixHands$Text" am_m183) = true := by decide +kernel
set_option maxRecDepth 100000 in
theorem zok184 : am_c184.all (am_okb zTs am_cl zfl zml "SixHands$Text" am_m184) = true := by decide +kernel
set_option maxRecDepth 100000 in
theorem zok185 : am_c185.all (am_okb zTs am_cl zfl zml "SixHands$Text" am_m185) = true := by decide +kernel
set_option maxRecDepth 100000 in
theorem zok186 : am_c186.all (am_okb zTs am_cl zfl zml "SixHands$Text" am_m186) = true := by decide +kernel
set_option maxRecDepth 100000 in
theorem zok187 : am_c187.all (am_okb zTs am_cl zfl zml "SixHands$Text" am_m187) = true := by decide +kernel
set_option maxRecDepth 100000 in
theorem zok188 : am_c188.all (am_okb zTs am_cl zfl zml "SixHands$Text" am_m188) = true := by decide +kernel
set_option maxRecDepth 100000 in
theorem zok189 : am_c189.all (am_okb zTs am_cl zfl zml "SixHands$Text" am_m189) = true := by decide +kernel
set_option maxRecDepth 100000 in
theorem zok190 : am_c190.all (am_okb zTs am_cl zfl zml "SixHands$Text" am_m190) = true := by decide +kernel
set_option maxRecDepth 100000 in
theorem zok191 : am_c191.all (am_okb zTs am_cl zfl zml "SixHands$Text" am_m191) = true := by decide +kernel
set_option maxRecDepth 100000 in
theorem zok192 : am_c192.all (am_okb zTs am_cl zfl zml "SixHands$Text" am_m192) = true := by decide +kernel
set_option maxRecDepth 100000 in
theorem zok193 : am_c193.all (am_okb zTs am_cl zfl zml "SixHands$Text" am_m193) = true := by decide +kernel
set_option maxRecDepth 100000 in
theorem zok194 : am_c194.all (am_okb zTs am_cl zfl zml "SixHands$Text" am_m194) = true := by decide +kernel
set_option maxRecDepth 100000 in
theorem zok195 : am_c195.all (am_okb zTs am_cl zfl zml "SixHands$Text" am_m195) = true := by decide +kernel
set_option maxRecDepth 100000 in
theorem zok196 : am_c196.all (am_okb zTs am_cl zfl zml "SixHands$Text" am_m196) = true := by decide +kernel
set_option maxRecDepth 100000 in
theorem zok197 : am_c197.all (am_okb zTs am_cl zfl zml "SixHands$Text" am_m197) = true := by decide +kernel
set_option maxRecDepth 100000 in
theorem zok198 : am_c198.all (am_okb zTs am_cl zfl zml "SixHands$Text" am_m198) = true := by decide +kernel
set_option maxRecDepth 100000 in
theorem zok199 : am_c199.all (am_okb zTs am_cl zfl zml "SixHands$Text" am_m199) = true := by decide +kernel
set_option maxRecDepth 100000 in
theorem zok200 : am_c200.all (am_okb zTs am_cl zfl zml "SixHands$Text" am_m200) = true := by decide +kernel
set_option maxRecDepth 100000 in
theorem zok201 : am_c201.all (am_okb zTs am_cl zfl zml "SixHands$Text" am_m201) = true := by decide +kernel
set_option maxRecDepth 100000 in
theorem zok202 : am_c202.all (am_okb zTs am_cl zfl zml "SixHands$Text" am_m202) = true := by decide +kernel
set_option maxRecDepth 100000 in
theorem zok203 : am_c203.all (am_okb zTs am_cl zfl zml "SixHands$Text" am_m203) = true := by decide +kernel
set_option maxRecDepth 100000 in
theorem zok204 : am_c204.all (am_okb zTs am_cl zfl zml "SixHands$Text" am_m204) = true := by decide +kernel
set_option maxRecDepth 100000 in
theorem zok205 : am_c205.all (am_okb zTs am_cl zfl zml "SixHands$Text" am_m205) = true := by decide +kernel
set_option maxRecDepth 100000 in
theorem zok206 : am_c206.all (am_okb zTs am_cl zfl zml "SixHands$Text" am_m206) = true := by decide +kernel
set_option maxRecDepth 100000 in
theorem zok207 : am_c207.all (am_okb zTs am_cl zfl zml "SixHands$Text" am_m207) = true := by decide +kernel
set_option maxRecDepth 100000 in
theorem zok208 : am_c208.all (am_okb zTs am_cl zfl zml "SixHands$Text" am_m208) = true := by decide +kernel
set_option maxRecDepth 100000 in
theorem zok209 : am_c209.all (am_okb zTs am_cl zfl zml "SixHands$Text" am_m209) = true := by decide +kernel
