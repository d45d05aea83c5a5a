/-! words of the tables by their places (written by wip/whole/words.py) -/
def WG : List Cond := lw_tbl.filter goodWord
theorem um_q {w : Cond} (i : Nat) (h1 : lw_tbl[i]? = some w) (h2 : goodWord w = true) : w ∈ WG := List.mem_filter.mpr ⟨List.mem_of_getElem? h1, h2⟩
theorem um_t {w : Cond} (i : Nat) (h1 : lw_tbl[i]? = some w) : w ∈ lw_tbl := List.mem_of_getElem? h1
theorem um_in (ws : List Cond) (ps : List Nat) (hp : ws = ps.filterMap (fun i => lw_tbl[i]?)) (h : ws.all goodWord = true) : ∀ w ∈ ws, w ∈ WG := by
  intro w hw
  have h1 := List.all_eq_true.mp h w hw
  rw [hp] at hw
  obtain ⟨i, -, hi⟩ := List.mem_filterMap.mp hw
  exact um_q i hi h1
theorem iX0 : ∀ w ∈ u_ws RX0 TX0 4, w ∈ WG := um_in (u_ws RX0 TX0 4) [299, 301, 303, 305] (by decide +kernel) (by decide +kernel)
theorem iX1 : ∀ w ∈ u_ws RX1 TX1 2, w ∈ WG := um_in (u_ws RX1 TX1 2) [167, 169] (by decide +kernel) (by decide +kernel)
theorem iX2 : ∀ w ∈ u_ws RX2 TX2 4, w ∈ WG := um_in (u_ws RX2 TX2 4) [320, 322, 324, 326] (by decide +kernel) (by decide +kernel)
theorem iX4 : ∀ w ∈ u_ws RX4 TX4 15, w ∈ WG := um_in (u_ws RX4 TX4 15) [204, 206, 208, 210, 212, 214, 216, 218, 220, 222, 224, 226, 228, 230, 232] (by decide +kernel) (by decide +kernel)
theorem iX5 : ∀ w ∈ u_ws RX5 TX5 3, w ∈ WG := um_in (u_ws RX5 TX5 3) [148, 150, 152] (by decide +kernel) (by decide +kernel)
theorem iX6 : ∀ w ∈ u_ws RX6 TX6 15, w ∈ WG := um_in (u_ws RX6 TX6 15) [257, 259, 261, 263, 265, 267, 269, 271, 273, 275, 277, 279, 281, 283, 285] (by decide +kernel) (by decide +kernel)
theorem iX7 : ∀ w ∈ u_ws RX7 TX7 5, w ∈ WG := um_in (u_ws RX7 TX7 5) [719, 721, 723, 725, 727] (by decide +kernel) (by decide +kernel)
theorem iX8 : ∀ w ∈ u_ws RX8 TX8 9, w ∈ WG := um_in (u_ws RX8 TX8 9) [338, 340, 342, 344, 346, 348, 350, 352, 354] (by decide +kernel) (by decide +kernel)
theorem iX9 : ∀ w ∈ u_ws RX9 TX9 29, w ∈ WG := um_in (u_ws RX9 TX9 29) [1232, 1234, 1236, 1238, 1240, 1242, 1244, 1246, 1248, 1250, 1252, 1254, 1256, 1258, 1260, 1262, 1264, 1266, 1268, 1270, 1272, 1274, 1276, 1278, 1280, 1282, 1284, 1286, 1288] (by decide +kernel) (by decide +kernel)
def um_nest : List Cond := [Cond.methodLinkNest RX8 9 yX4_init "TicketShore", Cond.fieldLinkNest RX0 24 "TicketShore$Table" "rows" "I" "TicketShore", Cond.fieldLinkNest RX3 22 "TicketShore$Table" "rows" "I" "TicketShore", Cond.fieldLinkNest RX4 100 "TicketShore$Table" "rows" "I" "TicketShore", Cond.fieldLinkNest RX8 319 "TicketShore$Table" "rows" "I" "TicketShore", Cond.methodLinkNest RX4 52 yX1_init "TicketShore", Cond.fieldLinkNest RX8 328 "TicketShore$Laws" "size" "I" "TicketShore", Cond.fieldLinkNest RX8 60 "TicketShore$Shore" "ships" "LTicketShore$Table;" "TicketShore", Cond.fieldLinkNest RX0 18 "TicketShore$Shore" "men" "LTicketShore$Table;" "TicketShore", Cond.fieldLinkNest RX8 77 "TicketShore$Shore" "men" "LTicketShore$Table;" "TicketShore", Cond.fieldLinkNest RX0 38 "TicketShore$Shore" "masters" "LTicketShore$Table;" "TicketShore", Cond.fieldLinkNest RX8 110 "TicketShore$Shore" "masters" "LTicketShore$Table;" "TicketShore", Cond.fieldLinkNest RX8 161 "TicketShore$Shore" "marks" "LTicketShore$Table;" "TicketShore", Cond.fieldLinkNest RX8 247 "TicketShore$Shore" "letters" "LTicketShore$Table;" "TicketShore", Cond.fieldLinkNest RX8 209 "TicketShore$Shore" "looks" "LTicketShore$Table;" "TicketShore", Cond.fieldLinkNest RX8 236 "TicketShore$Shore" "sentences" "LTicketShore$Table;" "TicketShore", Cond.fieldLinkNest RX8 116 "TicketShore$Shore" "places" "LTicketShore$Table;" "TicketShore", Cond.fieldLinkNest RX8 200 "TicketShore$Shore" "paths" "LTicketShore$Table;" "TicketShore", Cond.fieldLinkNest RX8 250 "TicketShore$Shore" "parties" "LTicketShore$Table;" "TicketShore", Cond.fieldLinkNest RX8 256 "TicketShore$Shore" "ways" "LTicketShore$Table;" "TicketShore", Cond.fieldLinkNest RX8 129 "TicketShore$Shore" "laws" "LTicketShore$Laws;" "TicketShore", Cond.fieldLinkNest RX8 51 "TicketShore$Shore" "week" "I" "TicketShore", Cond.fieldLinkNest RX8 194 "TicketShore$Shore" "seed" "I" "TicketShore", Cond.fieldLinkNest RX8 331 "TicketShore$Shore" "chest" "I" "TicketShore", Cond.methodLinkNest RX8 24 yX6_init "TicketShore", Cond.fieldLinkNest RX8 122 "TicketShore$Tape" "length" "I" "TicketShore", Cond.methodLinkNest RX8 31 yX0_init "TicketShore", Cond.methodLinkNest RX8 38 yX2_init "TicketShore", Cond.fieldLinkNest RX1 26 "TicketShore$Text" "key" "I" "TicketShore", Cond.fieldLinkNest RX8 145 "TicketShore$Text" "key" "I" "TicketShore", Cond.fieldLinkNest RX1 29 "TicketShore$Text" "week" "I" "TicketShore", Cond.fieldLinkNest RX8 150 "TicketShore$Text" "week" "I" "TicketShore", Cond.fieldLinkNest RX8 151 "TicketShore$Text" "parts" "I" "TicketShore", Cond.methodLinkNest RX4 93 yX8_isPlace "TicketShore", Cond.methodLinkNest RX4 96 yX8_within "TicketShore"]
theorem um_nest_in : ∀ w ∈ um_nest, w ∈ lw_tbl := by
  intro w hw
  have hp : um_nest = ([128, 143, 145, 146, 147, 158, 166, 173, 175, 176, 178, 179, 181, 183, 185, 187, 189, 191, 193, 195, 197, 198, 201, 203, 237, 243, 291, 310, 710, 711, 713, 714, 716, 816, 846] : List Nat).filterMap (fun i => lw_tbl[i]?) := by decide +kernel
  rw [hp] at hw
  obtain ⟨i, -, hi⟩ := List.mem_filterMap.mp hw
  exact List.mem_of_getElem? hi
theorem qW_X8_9 : Cond.methodLinkNest RX8 9 yX4_init "TicketShore" ∈ um_nest := List.mem_of_getElem? (i := 0) rfl
theorem qW_X0_24 : Cond.fieldLinkNest RX0 24 "TicketShore$Table" "rows" "I" "TicketShore" ∈ um_nest := List.mem_of_getElem? (i := 1) rfl
theorem qW_X3_22 : Cond.fieldLinkNest RX3 22 "TicketShore$Table" "rows" "I" "TicketShore" ∈ um_nest := List.mem_of_getElem? (i := 2) rfl
theorem qW_X4_100 : Cond.fieldLinkNest RX4 100 "TicketShore$Table" "rows" "I" "TicketShore" ∈ um_nest := List.mem_of_getElem? (i := 3) rfl
theorem qW_X8_319 : Cond.fieldLinkNest RX8 319 "TicketShore$Table" "rows" "I" "TicketShore" ∈ um_nest := List.mem_of_getElem? (i := 4) rfl
theorem qW_X4_52 : Cond.methodLinkNest RX4 52 yX1_init "TicketShore" ∈ um_nest := List.mem_of_getElem? (i := 5) rfl
theorem qW_X8_328 : Cond.fieldLinkNest RX8 328 "TicketShore$Laws" "size" "I" "TicketShore" ∈ um_nest := List.mem_of_getElem? (i := 6) rfl
theorem qW_X8_60 : Cond.fieldLinkNest RX8 60 "TicketShore$Shore" "ships" "LTicketShore$Table;" "TicketShore" ∈ um_nest := List.mem_of_getElem? (i := 7) rfl
theorem qW_X0_18 : Cond.fieldLinkNest RX0 18 "TicketShore$Shore" "men" "LTicketShore$Table;" "TicketShore" ∈ um_nest := List.mem_of_getElem? (i := 8) rfl
theorem qW_X8_77 : Cond.fieldLinkNest RX8 77 "TicketShore$Shore" "men" "LTicketShore$Table;" "TicketShore" ∈ um_nest := List.mem_of_getElem? (i := 9) rfl
theorem qW_X0_38 : Cond.fieldLinkNest RX0 38 "TicketShore$Shore" "masters" "LTicketShore$Table;" "TicketShore" ∈ um_nest := List.mem_of_getElem? (i := 10) rfl
theorem qW_X8_110 : Cond.fieldLinkNest RX8 110 "TicketShore$Shore" "masters" "LTicketShore$Table;" "TicketShore" ∈ um_nest := List.mem_of_getElem? (i := 11) rfl
theorem qW_X8_161 : Cond.fieldLinkNest RX8 161 "TicketShore$Shore" "marks" "LTicketShore$Table;" "TicketShore" ∈ um_nest := List.mem_of_getElem? (i := 12) rfl
theorem qW_X8_247 : Cond.fieldLinkNest RX8 247 "TicketShore$Shore" "letters" "LTicketShore$Table;" "TicketShore" ∈ um_nest := List.mem_of_getElem? (i := 13) rfl
theorem qW_X8_209 : Cond.fieldLinkNest RX8 209 "TicketShore$Shore" "looks" "LTicketShore$Table;" "TicketShore" ∈ um_nest := List.mem_of_getElem? (i := 14) rfl
theorem qW_X8_236 : Cond.fieldLinkNest RX8 236 "TicketShore$Shore" "sentences" "LTicketShore$Table;" "TicketShore" ∈ um_nest := List.mem_of_getElem? (i := 15) rfl
theorem qW_X8_116 : Cond.fieldLinkNest RX8 116 "TicketShore$Shore" "places" "LTicketShore$Table;" "TicketShore" ∈ um_nest := List.mem_of_getElem? (i := 16) rfl
theorem qW_X8_200 : Cond.fieldLinkNest RX8 200 "TicketShore$Shore" "paths" "LTicketShore$Table;" "TicketShore" ∈ um_nest := List.mem_of_getElem? (i := 17) rfl
theorem qW_X8_250 : Cond.fieldLinkNest RX8 250 "TicketShore$Shore" "parties" "LTicketShore$Table;" "TicketShore" ∈ um_nest := List.mem_of_getElem? (i := 18) rfl
theorem qW_X8_256 : Cond.fieldLinkNest RX8 256 "TicketShore$Shore" "ways" "LTicketShore$Table;" "TicketShore" ∈ um_nest := List.mem_of_getElem? (i := 19) rfl
theorem qW_X8_129 : Cond.fieldLinkNest RX8 129 "TicketShore$Shore" "laws" "LTicketShore$Laws;" "TicketShore" ∈ um_nest := List.mem_of_getElem? (i := 20) rfl
theorem qW_X8_51 : Cond.fieldLinkNest RX8 51 "TicketShore$Shore" "week" "I" "TicketShore" ∈ um_nest := List.mem_of_getElem? (i := 21) rfl
theorem qW_X8_194 : Cond.fieldLinkNest RX8 194 "TicketShore$Shore" "seed" "I" "TicketShore" ∈ um_nest := List.mem_of_getElem? (i := 22) rfl
theorem qW_X8_331 : Cond.fieldLinkNest RX8 331 "TicketShore$Shore" "chest" "I" "TicketShore" ∈ um_nest := List.mem_of_getElem? (i := 23) rfl
theorem qW_X8_24 : Cond.methodLinkNest RX8 24 yX6_init "TicketShore" ∈ um_nest := List.mem_of_getElem? (i := 24) rfl
theorem qW_X8_122 : Cond.fieldLinkNest RX8 122 "TicketShore$Tape" "length" "I" "TicketShore" ∈ um_nest := List.mem_of_getElem? (i := 25) rfl
theorem qW_X8_31 : Cond.methodLinkNest RX8 31 yX0_init "TicketShore" ∈ um_nest := List.mem_of_getElem? (i := 26) rfl
theorem qW_X8_38 : Cond.methodLinkNest RX8 38 yX2_init "TicketShore" ∈ um_nest := List.mem_of_getElem? (i := 27) rfl
theorem qW_X1_26 : Cond.fieldLinkNest RX1 26 "TicketShore$Text" "key" "I" "TicketShore" ∈ um_nest := List.mem_of_getElem? (i := 28) rfl
theorem qW_X8_145 : Cond.fieldLinkNest RX8 145 "TicketShore$Text" "key" "I" "TicketShore" ∈ um_nest := List.mem_of_getElem? (i := 29) rfl
theorem qW_X1_29 : Cond.fieldLinkNest RX1 29 "TicketShore$Text" "week" "I" "TicketShore" ∈ um_nest := List.mem_of_getElem? (i := 30) rfl
theorem qW_X8_150 : Cond.fieldLinkNest RX8 150 "TicketShore$Text" "week" "I" "TicketShore" ∈ um_nest := List.mem_of_getElem? (i := 31) rfl
theorem qW_X8_151 : Cond.fieldLinkNest RX8 151 "TicketShore$Text" "parts" "I" "TicketShore" ∈ um_nest := List.mem_of_getElem? (i := 32) rfl
theorem qW_X4_93 : Cond.methodLinkNest RX4 93 yX8_isPlace "TicketShore" ∈ um_nest := List.mem_of_getElem? (i := 33) rfl
theorem qW_X4_96 : Cond.methodLinkNest RX4 96 yX8_within "TicketShore" ∈ um_nest := List.mem_of_getElem? (i := 34) rfl
theorem um_gd : ∀ w ∈ WG, (w.onTables && w.keeps) = true ∨ ∃ ty, w = .arrayClass ty := fun w h => good_of_word (List.mem_filter.mp h).2
theorem um_WGt : ∀ w ∈ WG, w ∈ lw_tbl := fun w h => (List.mem_filter.mp h).1
