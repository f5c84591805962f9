set_option maxRecDepth 100000 in
theorem zok261_12 : am_c261_12.all (am_okb zTs am_cl zfl zml "SixHands$Text" am_m261) = true := by decide +kernel
set_option maxRecDepth 100000 in
theorem zok261_13 : am_c261_13.all (am_okb zTs am_cl zfl zml "SixHands$Text" am_m261) = true := by decide +kernel
set_option maxRecDepth 100000 in
theorem zok261_14 : am_c261_14.all (am_okb zTs am_cl zfl zml "SixHands$Text" am_m261) = true := by decide +kernel
theorem zs_app {α : Type} {p : α → Bool} {a b : List α} (h : a.all p = true) (h2 : b.all p = true) : (a ++ b).all p = true := by rw [List.all_append, h, h2]; rfl
theorem zok261 : am_c261.all (am_okb zTs am_cl zfl zml "SixHands$Text" am_m261) = true := zs_app zok261_0 (zs_app zok261_1 (zs_app zok261_2 (zs_app zok261_3 (zs_app zok261_4 (zs_app zok261_5 (zs_app zok261_6 (zs_app zok261_7 (zs_app zok261_8 (zs_app zok261_9 (zs_app zok261_10 (zs_app zok261_11 (zs_app zok261_12 (zs_app zok261_13 (zok261_14))))))))))))))
