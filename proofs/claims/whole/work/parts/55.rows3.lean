set_option maxRecDepth 100000 in
theorem zok128 : am_c128.all (am_okb zTs am_cl zfl zml "SixHands$Text" am_m128) = true := by decide +kernel
set_option maxRecDepth 100000 in
theorem zok129 : am_c129.all (am_okb zTs am_cl zfl zml "SixHands$Text" am_m129) = true := by decide +kernel
set_option maxRecDepth 100000 in
theorem zok130 : am_c130.all (am_okb zTs am_cl zfl zml "SixHands$Text" am_m130) = true := by decide +kernel
set_option maxRecDepth 100000 in
theorem zok131 : am_c131.all (am_okb zTs am_cl zfl zml "SixHands$Text" am_m131) = true := by decide +kernel
set_option maxRecDepth 100000 in
theorem zok132 : am_c132.all (am_okb zTs am_cl zfl zml "SixHands$Text" am_m132) = true := by decide +kernel
set_option maxRecDepth 100000 in
theorem zok133 : am_c133.all (am_okb zTs am_cl zfl zml "SixHands$Text" am_m133) = true := by decide +kernel
set_option maxRecDepth 100000 in
theorem zok134 : am_c134.all (am_okb zTs am_cl zfl zml "SixHands$Text" am_m134) = true := by decide +kernel
set_option maxRecDepth 100000 in
theorem zok135 : am_c135.all (am_okb zTs am_cl zfl zml "SixHands$Text" am_m135) = true := by decide +kernel
set_option maxRecDepth 100000 in
theorem zok136 : am_c136.all (am_okb zTs am_cl zfl zml "SixHands$Text" am_m136) = true := by decide +kernel
set_option maxRecDepth 100000 in
theorem zok137 : am_c137.all (am_okb zTs am_cl zfl zml "SixHands$Text" am_m137) = true := by decide +kernel
set_option maxRecDepth 100000 in
theorem zok138 : am_c138.all (am_okb zTs am_cl zfl zml "SixHands$Text" am_m138) = true := by decide +kernel
set_option maxRecDepth 100000 in
theorem zok139 : am_c139.all (am_okb zTs am_cl zfl zml "SixHands$Text" am_m139) = true := by decide +kernel
set_option maxRecDepth 100000 in
theorem zok140 : am_c140.all (am_okb zTs am_cl zfl zml "SixHands$Text" am_m140) = true := by decide +kernel
set_option maxRecDepth 100000 in
theorem zok141 : am_c141.all (am_okb zTs am_cl zfl zml "SixHands$Text" am_m141) = true := by decide +kernel
set_option maxRecDepth 100000 in
theorem zok142 : am_c142.all (am_okb zTs am_cl zfl zml "SixHands$Text" am_m142) = true := by decide +kernel
set_option maxRecDepth 100000 in
theorem zok143 : am_c143.all (am_okb zTs am_cl zfl zml "SixHands$Text" am_m143) = true := by decide +kernel
set_option maxRecDepth 100000 in
theorem zok144 : am_c144.all (am_okb zTs am_cl zfl zml "SixHands$Text" am_m144) = true := by decide +kernel
set_option maxRecDepth 100000 in
theorem zok145 : am_c145.all (am_okb zTs am_cl zfl zml "SixHands$Text" am_m145) = true := by decide +kernel
set_option maxRecDepth 100000 in
theorem zok146 : am_c146.all (am_okb zTs am_cl zfl zml "SixHands$Text" am_m146) = true := by decide +kernel
set_option maxRecDepth 100000 in
theorem zok147 : am_c147.all (am_okb zTs am_cl zfl zml "SixHands$Text" am_m147) = true := by decide +kernel
set_option maxRecDepth 100000 in
theorem zok148 : am_c148.all (am_okb zTs am_cl zfl zml "SixHands$Text" am_m148) = true := by decide +kernel
set_option maxRecDepth 100000 in
theorem zok149 : am_c149.all (am_okb zTs am_cl zfl zml "SixHands$Text" am_m149) = true := by decide +kernel
set_option maxRecDepth 100000 in
theorem zok150 : am_c150.all (am_okb zTs am_cl zfl zml "SixHands$Text" am_m150) = true := by decide +kernel
set_option maxRecDepth 100000 in
theorem zok151 : am_c151.all (am_okb zTs am_cl zfl zml "SixHands$Text" am_m151) = true := by decide +kernel
set_option maxRecDepth 100000 in
theorem zok152 : am_c152.all (am_okb zTs am_cl zfl zml "SixHands$Text" am_m152) = true := by decide +kernel
set_option maxRecDepth 100000 in
theorem zok153 : am_c153.all (am_okb zTs am_cl zfl zml "SixHands$Text" am_m153) = true := by decide +kernel
set_option maxRecDepth 100000 in
theorem zok154 : am_c154.all (am_okb zTs am_cl zfl zml "SixHands$Text" am_m154) = true := by decide +kernel
set_option maxRecDepth 100000 in
theorem zok155 : am_c155.all (am_okb zTs am_cl zfl zml "SixHands$Text" am_m155) = true := by decide +kernel
set_option maxRecDepth 100000 in
theorem zok156 : am_c156.all (am_okb zTs am_cl zfl zml "SixHands$Text" am_m156) = true := by decide +kernel
set_option maxRecDepth 100000 in
theorem zok157 : am_c157.all (am_okb zTs am_cl zfl zml "SixHands$Text" am_m157) = true := by decide +kernel
set_option maxRecDepth 100000 in
theorem zok158 : am_c158.all (am_okb zTs am_cl zfl zml "SixHands$Text" am_m158) = true := by decide +kernel
set_option maxRecDepth 100000 in
theorem zok159 : am_c159.all (am_okb zTs am_cl zfl zml "SixHands$Text" am_m159) = true := by decide +kernel
set_option maxRecDepth 100000 in
theorem zok160 : am_c160.all (am_okb zTs am_cl zfl zml "SixHands$Text" am_m160) = true := by decide +kernel
set_option maxRecDepth 100000 in
theorem zok161 : am_c161.all (am_okb zTs am_cl zfl zml "SixHands$Text" am_m161) = true := by decide +kernel
set_option maxRecDepth 100000 in
theorem zok162 : am_c162.all (am_okb zTs am_cl zfl zml "SixHands$Text" am_m162) = true := by decide +kernel
set_option maxRecDepth 100000 in
theorem zok163 : am_c163.all (am_okb zTs am_cl zfl zml "SixHands$Text" am_m163) = true := by decide +kernel
set_option maxRecDepth 100000 in
theorem zok164 : am_c164.all (am_okb zTs am_cl zfl zml "SixHands$Text" am_m164) = true := by decide +kernel
set_option maxRecDepth 100000 in
theorem zok165 : am_c165.all (am_okb zTs am_cl zfl zml "SixHands$Text" am_m165) = true := by decide +kernel
set_option maxRecDepth 100000 in
theorem zok166 : am_c166.all (am_okb zTs am_cl zfl zml "SixHands$Text" am_m166) = true := by decide +kernel
set_option maxRecDepth 100000 in
theorem zok167 : am_c167.all (am_okb zTs am_cl zfl zml "SixHands$Text" am_m167) = true := by decide +kernel
set_option maxRecDepth 100000 in
theorem zok168 : am_c168.all (am_okb zTs am_cl zfl zml "SixHands$Text" am_m168) = true := by decide +kernel
set_option maxRecDepth 100000 in
theorem zok169 : am_c169.all (am_okb zTs am_cl zfl zml "SixHands$Text" am_m169) = true := by decide +kernel
set_option maxRecDepth 100000 in
theorem zok170 : am_c170.all (am_okb zTs am_cl zfl zml "SixHands$Text" am_m170) = true := by decide +kernel
set_option maxRecDepth 100000 in
theorem zok171 : am_c171.all (am_okb zTs am_cl zfl zml "SixHands$Text" am_m171) = true := by decide +kernel
set_option maxRecDepth 100000 in
theorem zok172 : am_c172.all (am_okb zTs am_cl zfl zml "SixHands$Text" am_m172) = true := by decide +kernel
set_option maxRecDepth 100000 in
theorem zok173 : am_c173.all (am_okb zTs am_cl zfl zml "SixHands$Text" am_m173) = true := by decide +kernel
set_option maxRecDepth 100000 in
theorem zok174 : am_c174.all (am_okb zTs am_cl zfl zml "SixHands$Text" am_m174) = true := by decide +kernel
set_option maxRecDepth 100000 in
theorem zok175 : am_c175.all (am_okb zTs am_cl zfl zml "SixHands$Text" am_m175) = true := by decide +kernel
set_option maxRecDepth 100000 in
theorem zok176 : am_c176.all (am_okb zTs am_cl zfl zml "SixHands$Text" am_m176) = true := by decide +kernel
set_option maxRecDepth 100000 in
theorem zok177 : am_c177.all (am_okb zTs am_cl zfl zml "SixHands$Text" am_m177) = true := by decide +kernel
set_option maxRecDepth 100000 in
theorem zok178 : am_c178.all (am_okb zTs am_cl zfl zml "SixHands$Text" am_m178) = true := by decide +kernel
set_option maxRecDepth 100000 in
theorem zok179 : am_c179.all (am_okb zTs am_cl zfl zml "SixHands$Text" am_m179) = true := by decide +kernel
set_option maxRecDepth 100000 in
theorem zok180 : am_c180.all (am_okb zTs am_cl zfl zml "SixHands$Text" am_m180) = true := by decide +kernel
