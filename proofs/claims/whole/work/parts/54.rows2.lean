set_option maxRecDepth 100000 in
theorem zok75 : am_c75.all (am_okb zTs am_cl zfl zml "SixHands$Text" am_m75) = true := by decide +kernel
set_option maxRecDepth 100000 in
theorem zok76 : am_c76.all (am_okb zTs am_cl zfl zml "SixHands$Text" am_m76) = true := by decide +kernel
set_option maxRecDepth 100000 in
theorem zok77 : am_c77.all (am_okb zTs am_cl zfl zml "SixHands$Text" am_m77) = true := by decide +kernel
set_option maxRecDepth 100000 in
theorem zok78 : am_c78.all (am_okb zTs am_cl zfl zml "SixHands$Text" am_m78) = true := by decide +kernel
set_option maxRecDepth 100000 in
theorem zok79 : am_c79.all (am_okb zTs am_cl zfl zml "SixHands$Text" am_m79) = true := by decide +kernel
set_option maxRecDepth 100000 in
theorem zok80 : am_c80.all (am_okb zTs am_cl zfl zml "SixHands$Text" am_m80) = true := by decide +kernel
set_option maxRecDepth 100000 in
theorem zok81 : am_c81.all (am_okb zTs am_cl zfl zml "SixHands$Text" am_m81) = true := by decide +kernel
set_option maxRecDepth 100000 in
theorem zok82 : am_c82.all (am_okb zTs am_cl zfl zml "SixHands$Text" am_m82) = true := by decide +kernel
set_option maxRecDepth 100000 in
theorem zok83 : am_c83.all (am_okb zTs am_cl zfl zml "SixHands$Text" am_m83) = true := by decide +kernel
set_option maxRecDepth 100000 in
theorem zok84 : am_c84.all (am_okb zTs am_cl zfl zml "SixHands$Text" am_m84) = true := by decide +kernel
set_option maxRecDepth 100000 in
theorem zok85 : am_c85.all (am_okb zTs am_cl zfl zml "SixHands$Text" am_m85) = true := by decide +kernel
set_option maxRecDepth 100000 in
theorem zok86 : am_c86.all (am_okb zTs am_cl zfl zml "SixHands$Text" am_m86) = true := by decide +kernel
set_option maxRecDepth 100000 in
theorem zok87 : am_c87.all (am_okb zTs am_cl zfl zml "SixHands$Text" am_m87) = true := by decide +kernel
set_option maxRecDepth 100000 in
theorem zok88 : am_c88.all (am_okb zTs am_cl zfl zml "SixHands$Text" am_m88) = true := by decide +kernel
set_option maxRecDepth 100000 in
theorem zok89 : am_c89.all (am_okb zTs am_cl zfl zml "SixHands$Text" am_m89) = true := by decide +kernel
set_option maxRecDepth 100000 in
theorem zok90 : am_c90.all (am_okb zTs am_cl zfl zml "SixHands$Text" am_m90) = true := by decide +kernel
set_option maxRecDepth 100000 in
theorem zok91 : am_c91.all (am_okb zTs am_cl zfl zml "SixHands$Text" am_m91) = true := by decide +kernel
set_option maxRecDepth 100000 in
theorem zok92 : am_c92.all (am_okb zTs am_cl zfl zml "SixHands$Text" am_m92) = true := by decide +kernel
set_option maxRecDepth 100000 in
theorem zok93 : am_c93.all (am_okb zTs am_cl zfl zml "SixHands$Text" am_m93) = true := by decide +kernel
set_option maxRecDepth 100000 in
theorem zok94 : am_c94.all (am_okb zTs am_cl zfl zml "SixHands$Text" am_m94) = true := by decide +kernel
set_option maxRecDepth 100000 in
theorem zok95 : am_c95.all (am_okb zTs am_cl zfl zml "SixHands$Text" am_m95) = true := by decide +kernel
set_option maxRecDepth 100000 in
theorem zok96 : am_c96.all (am_okb zTs am_cl zfl zml "SixHands$Text" am_m96) = true := by decide +kernel
set_option maxRecDepth 100000 in
theorem zok97 : am_c97.all (am_okb zTs am_cl zfl zml "SixHands$Text" am_m97) = true := by decide +kernel
set_option maxRecDepth 100000 in
theorem zok98 : am_c98.all (am_okb zTs am_cl zfl zml "SixHands$Text" am_m98) = true := by decide +kernel
set_option maxRecDepth 100000 in
theorem zok99 : am_c99.all (am_okb zTs am_cl zfl zml "SixHands$Text" am_m99) = true := by decide +kernel
set_option maxRecDepth 100000 in
theorem zok100 : am_c100.all (am_okb zTs am_cl zfl zml "SixHands$Text" am_m100) = true := by decide +kernel
set_option maxRecDepth 100000 in
theorem zok101 : am_c101.all (am_okb zTs am_cl zfl zml "SixHands$Text" am_m101) = true := by decide +kernel
set_option maxRecDepth 100000 in
theorem zok102 : am_c102.all (am_okb zTs am_cl zfl zml "SixHands$Text" am_m102) = true := by decide +kernel
set_option maxRecDepth 100000 in
theorem zok103 : am_c103.all (am_okb zTs am_cl zfl zml "SixHands$Text" am_m103) = true := by decide +kernel
set_option maxRecDepth 100000 in
theorem zok104 : am_c104.all (am_okb zTs am_cl zfl zml "SixHands$Text" am_m104) = true := by decide +kernel
set_option maxRecDepth 100000 in
theorem zok105 : am_c105.all (am_okb zTs am_cl zfl zml "SixHands$Text" am_m105) = true := by decide +kernel
set_option maxRecDepth 100000 in
theorem zok106 : am_c106.all (am_okb zTs am_cl zfl zml "SixHands$Text" am_m106) = true := by decide +kernel
set_option maxRecDepth 100000 in
theorem zok107 : am_c107.all (am_okb zTs am_cl zfl zml "SixHands$Text" am_m107) = true := by decide +kernel
set_option maxRecDepth 100000 in
theorem zok108 : am_c108.all (am_okb zTs am_cl zfl zml "SixHands$Text" am_m108) = true := by decide +kernel
set_option maxRecDepth 100000 in
theorem zok109 : am_c109.all (am_okb zTs am_cl zfl zml "SixHands$Text" am_m109) = true := by decide +kernel
set_option maxRecDepth 100000 in
theorem zok110 : am_c110.all (am_okb zTs am_cl zfl zml "SixHands$Text" am_m110) = true := by decide +kernel
set_option maxRecDepth 100000 in
theorem zok111 : am_c111.all (am_okb zTs am_cl zfl zml "SixHands$Text" am_m111) = true := by decide +kernel
set_option maxRecDepth 100000 in
theorem zok112 : am_c112.all (am_okb zTs am_cl zfl zml "SixHands$Text" am_m112) = true := by decide +kernel
set_option maxRecDepth 100000 in
theorem zok113 : am_c113.all (am_okb zTs am_cl zfl zml "SixHands$Text" am_m113) = true := by decide +kernel
set_option maxRecDepth 100000 in
theorem zok114 : am_c114.all (am_okb zTs am_cl zfl zml "SixHands$Text" am_m114) = true := by decide +kernel
set_option maxRecDepth 100000 in
theorem zok115 : am_c115.all (am_okb zTs am_cl zfl zml "SixHands$Text" am_m115) = true := by decide +kernel
set_option maxRecDepth 100000 in
theorem zok116 : am_c116.all (am_okb zTs am_cl zfl zml "SixHands$Text" am_m116) = true := by decide +kernel
set_option maxRecDepth 100000 in
theorem zok117 : am_c117.all (am_okb zTs am_cl zfl zml "SixHands$Text" am_m117) = true := by decide +kernel
set_option maxRecDepth 100000 in
theorem zok118 : am_c118.all (am_okb zTs am_cl zfl zml "SixHands$Text" am_m118) = true := by decide +kernel
set_option maxRecDepth 100000 in
theorem zok119 : am_c119.all (am_okb zTs am_cl zfl zml "SixHands$Text" am_m119) = true := by decide +kernel
set_option maxRecDepth 100000 in
theorem zok120 : am_c120.all (am_okb zTs am_cl zfl zml "SixHands$Text" am_m120) = true := by decide +kernel
set_option maxRecDepth 100000 in
theorem zok121 : am_c121.all (am_okb zTs am_cl zfl zml "SixHands$Text" am_m121) = true := by decide +kernel
set_option maxRecDepth 100000 in
theorem zok122 : am_c122.all (am_okb zTs am_cl zfl zml "SixHands$Text" am_m122) = true := by decide +kernel
set_option maxRecDepth 100000 in
theorem zok123 : am_c123.all (am_okb zTs am_cl zfl zml "SixHands$Text" am_m123) = true := by decide +kernel
set_option maxRecDepth 100000 in
theorem zok124 : am_c124.all (am_okb zTs am_cl zfl zml "SixHands$Text" am_m124) = true := by decide +kernel
set_option maxRecDepth 100000 in
theorem zok125 : am_c125.all (am_okb zTs am_cl zfl zml "SixHands$Text" am_m125) = true := by decide +kernel
set_option maxRecDepth 100000 in
theorem zok126 : am_c126.all (am_okb zTs am_cl zfl zml "SixHands$Text" am_m126) = true := by decide +kernel
set_option maxRecDepth 100000 in
theorem zok127 : am_c127.all (am_okb zTs am_cl zfl zml "SixHands$Text" am_m127) = true := by decide +kernel
