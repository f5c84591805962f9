set_option maxRecDepth 100000 in
theorem zok210 : am_c210.all (am_okb zTs am_cl zfl zml "SixHands$Text" am_m210) = true := by decide +kernel
set_option maxRecDepth 100000 in
theorem zok211 : am_c211.all (am_okb zTs am_cl zfl zml "SixHands$Text" am_m211) = true := by decide +kernel
set_option maxRecDepth 100000 in
theorem zok212 : am_c212.all (am_okb zTs am_cl zfl zml "SixHands$Text" am_m212) = true := by decide +kernel
set_option maxRecDepth 100000 in
theorem zok213 : am_c213.all (am_okb zTs am_cl zfl zml "SixHands$Text" am_m213) = true := by decide +kernel
set_option maxRecDepth 100000 in
theorem zok214 : am_c214.all (am_okb zTs am_cl zfl zml "SixHands$Text" am_m214) = true := by decide +kernel
set_option maxRecDepth 100000 in
theorem zok215 : am_c215.all (am_okb zTs am_cl zfl zml "SixHands$Text" am_m215) = true := by decide +kernel
set_option maxRecDepth 100000 in
theorem zok216 : am_c216.all (am_okb zTs am_cl zfl zml "SixHands$Text" am_m216) = true := by decide +kernel
set_option maxRecDepth 100000 in
theorem zok217 : am_c217.all (am_okb zTs am_cl zfl zml "SixHands$Text" am_m217) = true := by decide +kernel
set_option maxRecDepth 100000 in
theorem zok218 : am_c218.all (am_okb zTs am_cl zfl zml "SixHands$Text" am_m218) = true := by decide +kernel
set_option maxRecDepth 100000 in
theorem zok219 : am_c219.all (am_okb zTs am_cl zfl zml "SixHands$Text" am_m219) = true := by decide +kernel
set_option maxRecDepth 100000 in
theorem zok220 : am_c220.all (am_okb zTs am_cl zfl zml "SixHands$Text" am_m220) = true := by decide +kernel
set_option maxRecDepth 100000 in
theorem zok221 : am_c221.all (am_okb zTs am_cl zfl zml "SixHands$Text" am_m221) = true := by decide +kernel
set_option maxRecDepth 100000 in
theorem zok222 : am_c222.all (am_okb zTs am_cl zfl zml "SixHands$Text" am_m222) = true := by decide +kernel
set_option maxRecDepth 100000 in
theorem zok223 : am_c223.all (am_okb zTs am_cl zfl zml "SixHands$Text" am_m223) = true := by decide +kernel
set_option maxRecDepth 100000 in
theorem zok224 : am_c224.all (am_okb zTs am_cl zfl zml "SixHands$Text" am_m224) = true := by decide +kernel
set_option maxRecDepth 100000 in
theorem zok225 : am_c225.all (am_okb zTs am_cl zfl zml "SixHands$Text" am_m225) = true := by decide +kernel
set_option maxRecDepth 100000 in
theorem zok226 : am_c226.all (am_okb zTs am_cl zfl zml "SixHands$Text" am_m226) = true := by decide +kernel
set_option maxRecDepth 100000 in
theorem zok227 : am_c227.all (am_okb zTs am_cl zfl zml "SixHands$Text" am_m227) = true := by decide +kernel
set_option maxRecDepth 100000 in
theorem zok228 : am_c228.all (am_okb zTs am_cl zfl zml "SixHands$Text" am_m228) = true := by decide +kernel
set_option maxRecDepth 100000 in
theorem zok229 : am_c229.all (am_okb zTs am_cl zfl zml "SixHands$Text" am_m229) = true := by decide +kernel
set_option maxRecDepth 100000 in
theorem zok230 : am_c230.all (am_okb zTs am_cl zfl zml "SixHands$Text" am_m230) = true := by decide +kernel
set_option maxRecDepth 100000 in
theorem zok231 : am_c231.all (am_okb zTs am_cl zfl zml "SixHands$Text" am_m231) = true := by decide +kernel
set_option maxRecDepth 100000 in
theorem zok232 : am_c232.all (am_okb zTs am_cl zfl zml "SixHands$Text" am_m232) = true := by decide +kernel
set_option maxRecDepth 100000 in
theorem zok233 : am_c233.all (am_okb zTs am_cl zfl zml "SixHands$Text" am_m233) = true := by decide +kernel
set_option maxRecDepth 100000 in
theorem zok234 : am_c234.all (am_okb zTs am_cl zfl zml "SixHands$Text" am_m234) = true := by decide +kernel
set_option maxRecDepth 100000 in
theorem zok235 : am_c235.all (am_okb zTs am_cl zfl zml "SixHands$Text" am_m235) = true := by decide +kernel
set_option maxRecDepth 100000 in
theorem zok236 : am_c236.all (am_okb zTs am_cl zfl zml "SixHands$Text" am_m236) = true := by decide +kernel
set_option maxRecDepth 100000 in
theorem zok237 : am_c237.all (am_okb zTs am_cl zfl zml "SixHands$Text" am_m237) = true := by decide +kernel
set_option maxRecDepth 100000 in
theorem zok238 : am_c238.all (am_okb zTs am_cl zfl zml "SixHands$Text" am_m238) = true := by decide +kernel
set_option maxRecDepth 100000 in
theorem zok239 : am_c239.all (am_okb zTs am_cl zfl zml "SixHands$Text" am_m239) = true := by decide +kernel
set_option maxRecDepth 100000 in
theorem zok240 : am_c240.all (am_okb zTs am_cl zfl zml "SixHands$Text" am_m240) = true := by decide +kernel
set_option maxRecDepth 100000 in
theorem zok241 : am_c241.all (am_okb zTs am_cl zfl zml "SixHands$Text" am_m241) = true := by decide +kernel
