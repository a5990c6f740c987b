/-! the tables' words, by their places: fields, statics, constants -/
/-- field links: the class that links, its number there, the field's class and slot; the word's place -/
def xftI : List (Nat × Nat × Nat × Nat × Nat) := [(2, 9, 2, 0, 103), (3, 88, 2, 0, 104), (0, 72, 2, 0, 105), (2, 15, 2, 1, 106), (3, 91, 2, 1, 107), (0, 155, 2, 1, 108), (2, 18, 2, 2, 109), (3, 94, 2, 2, 110), (0, 148, 2, 2, 111), (2, 21, 2, 3, 112), (3, 109, 2, 3, 113), (0, 79, 2, 3, 114), (2, 24, 2, 4, 115), (3, 112, 2, 4, 116), (0, 99, 2, 4, 117), (2, 27, 2, 5, 118), (0, 96, 2, 5, 119), (3, 115, 2, 5, 120), (2, 30, 2, 6, 121), (3, 118, 2, 6, 122), (0, 161, 2, 6, 123), (2, 34, 2, 7, 124), (3, 97, 2, 7, 125), (0, 167, 2, 7, 126), (0, 12, 0, 0, 153), (3, 137, 0, 0, 154), (0, 18, 0, 1, 155), (3, 150, 0, 1, 156), (0, 22, 0, 2, 157), (3, 153, 0, 2, 158), (0, 25, 0, 3, 159), (3, 156, 0, 3, 160), (0, 28, 0, 4, 161), (3, 144, 0, 4, 162), (0, 32, 0, 5, 163), (0, 35, 0, 6, 164), (1, 9, 1, 0, 186), (1, 15, 1, 1, 187), (3, 67, 1, 1, 188), (3, 10, 3, 0, 194), (3, 16, 3, 1, 195), (3, 19, 3, 2, 196), (3, 22, 3, 3, 197), (3, 26, 3, 4, 198), (3, 33, 3, 5, 199), (3, 37, 3, 6, 200), (3, 43, 3, 7, 201), (3, 47, 3, 8, 202), (3, 51, 3, 9, 203), (3, 54, 3, 10, 204), (3, 57, 3, 11, 205), (3, 60, 3, 12, 206), (4, 7, 4, 1, 805), (4, 13, 4, 2, 806), (4, 16, 4, 3, 807), (4, 256, 4, 4, 808), (4, 19, 4, 5, 809), (4, 22, 4, 6, 810), (4, 58, 4, 7, 811), (4, 61, 4, 8, 812), (4, 68, 4, 9, 813), (4, 87, 4, 10, 814), (4, 25, 4, 11, 815), (4, 28, 4, 12, 816), (4, 31, 4, 13, 817), (4, 133, 4, 14, 818), (4, 34, 4, 15, 819), (4, 237, 4, 16, 820), (4, 244, 4, 17, 821), (5, 15, 9, 1, 1234), (5, 9, 9, 0, 1235)]
def xgtI : List (Nat × Nat × Nat × Nat) := [(5, 38, 2, 279), (5, 1053, 3, 322), (3, 100, 0, 572), (3, 103, 1, 573)]
def xctI : List (Nat × Nat × Int32 × Nat) := [(7, 227, 65536, 309), (9, 264, 65536, 478), (3, 132, 118800, 626), (9, 265, 1431655765, 667), (9, 266, 858993459, 668), (9, 267, 252645135, 669), (3, 245, 1664525, 783), (3, 246, 1013904223, 784), (3, 247, 2147483647, 785), (4, 247, 1664525, 1215), (4, 248, 1013904223, 1216), (4, 249, 2147483647, 1217)]
def xft : List (Nat × Nat × Nat × Nat) := xftI.map (fun q => (q.1, q.2.1, q.2.2.1, q.2.2.2.1))
def xgt : List (Nat × Nat × Nat) := xgtI.map (fun q => (q.1, q.2.1, q.2.2.1))
def xct : List (Nat × Nat × Int32) := xctI.map (fun q => (q.1, q.2.1, q.2.2.1))
def xfd (a b : Nat) : String × String × String := if a = 9 then ("java/lang/String", if b = 0 then ("value", "[B") else ("coder", "B")) else match vwCl[a]? with | some r => ((r.2.1 b).1, (r.2.1 b).2.1, (r.2.1 b).2.2.1) | none => ("", "", "")
def xgd (a : Nat) : String × String × String := ([(RX3, "HOLDS", "[I"), (RX3, "LISTS", "[I"), (RJ0, "COMPACT_STRINGS", "Z"), (RJ3, "SIOOBE_FORMATTER", "Ljava/util/function/BiFunction;")] : List (String × String × String)).getD a ("", "", "")
theorem x_all {α : Type} {l : List α} {p : α → Bool} (h : l.all p = true) {a : α} (ha : a ∈ l) : p a = true := List.all_eq_true.mp h a ha
set_option maxRecDepth 100000 in
theorem xft_ok : ∀ q ∈ xft, Cond.fieldLink (xown q.1) q.2.1 (xfd q.2.2.1 q.2.2.2).1 (xfd q.2.2.1 q.2.2.2).2.1 (xfd q.2.2.1 q.2.2.2).2.2 ∈ xTbl := by
  intro q hq
  obtain ⟨z, hz, rfl⟩ := List.mem_map.mp hq
  have h : xftI.all (fun q => decide (lw_tbl[q.2.2.2.2]? = some (Cond.fieldLink (xown q.1) q.2.1 (xfd q.2.2.1 q.2.2.2.1).1 (xfd q.2.2.1 q.2.2.2.1).2.1 (xfd q.2.2.1 q.2.2.2.1).2.2))) = true := by decide +kernel
  exact xTbl_in _ (of_decide_eq_true (x_all h hz)) rfl
set_option maxRecDepth 100000 in
theorem xgt_ok : ∀ q ∈ xgt, Cond.fieldLink (xown q.1) q.2.1 (xgd q.2.2).1 (xgd q.2.2).2.1 (xgd q.2.2).2.2 ∈ xTbl := by
  intro q hq
  obtain ⟨z, hz, rfl⟩ := List.mem_map.mp hq
  have h : xgtI.all (fun q => decide (lw_tbl[q.2.2.2]? = some (Cond.fieldLink (xown q.1) q.2.1 (xgd q.2.2.1).1 (xgd q.2.2.1).2.1 (xgd q.2.2.1).2.2))) = true := by decide +kernel
  exact xTbl_in _ (of_decide_eq_true (x_all h hz)) rfl
set_option maxRecDepth 100000 in
theorem xct_ok : ∀ q ∈ xct, Cond.constant (xown q.1) q.2.1 q.2.2 ∈ xTbl := by
  intro q hq
  obtain ⟨z, hz, rfl⟩ := List.mem_map.mp hq
  have h : xctI.all (fun q => decide (lw_tbl[q.2.2.2]? = some (Cond.constant (xown q.1) q.2.1 q.2.2.1))) = true := by decide +kernel
  exact xTbl_in _ (of_decide_eq_true (x_all h hz)) rfl
theorem xlc_3 : Cond.constantLong (xown 3) 201 4000000000000000000 ∈ xTbl := xTbl_in 733 (by decide +kernel) rfl
theorem xlc_4 : Cond.constantLong (xown 4) 41 4000000000000000000 ∈ xTbl := xTbl_in 1171 (by decide +kernel) rfl
theorem xly_0 : ∀ w ∈ u_ws RX0 TX0 7, w ∈ xTbl := by
  intro w hw
  have e : u_ws RX0 TX0 7 = ([165, 167, 169, 171, 173, 175, 177] : List Nat).filterMap (fun i => lw_tbl[i]?) := by decide +kernel
  have g : (u_ws RX0 TX0 7).all goodWord = true := by decide +kernel
  have g1 := x_all g hw
  rw [e] at hw
  obtain ⟨i, -, hi⟩ := List.mem_filterMap.mp hw
  exact xTbl_in i hi g1
theorem xly_1 : ∀ w ∈ u_ws RX1 TX1 2, w ∈ xTbl := by
  intro w hw
  have e : u_ws RX1 TX1 2 = ([189, 191] : List Nat).filterMap (fun i => lw_tbl[i]?) := by decide +kernel
  have g : (u_ws RX1 TX1 2).all goodWord = true := by decide +kernel
  have g1 := x_all g hw
  rw [e] at hw
  obtain ⟨i, -, hi⟩ := List.mem_filterMap.mp hw
  exact xTbl_in i hi g1
theorem xly_2 : ∀ w ∈ u_ws RX2 TX2 8, w ∈ xTbl := by
  intro w hw
  have e : u_ws RX2 TX2 8 = ([127, 129, 131, 133, 135, 137, 139, 141] : List Nat).filterMap (fun i => lw_tbl[i]?) := by decide +kernel
  have g : (u_ws RX2 TX2 8).all goodWord = true := by decide +kernel
  have g1 := x_all g hw
  rw [e] at hw
  obtain ⟨i, -, hi⟩ := List.mem_filterMap.mp hw
  exact xTbl_in i hi g1
theorem xly_3 : ∀ w ∈ u_ws RX3 TX3 13, w ∈ xTbl := by
  intro w hw
  have e : u_ws RX3 TX3 13 = ([207, 209, 211, 213, 215, 217, 219, 221, 223, 225, 227, 229, 231] : List Nat).filterMap (fun i => lw_tbl[i]?) := by decide +kernel
  have g : (u_ws RX3 TX3 13).all goodWord = true := by decide +kernel
  have g1 := x_all g hw
  rw [e] at hw
  obtain ⟨i, -, hi⟩ := List.mem_filterMap.mp hw
  exact xTbl_in i hi g1
theorem xly_4 : ∀ w ∈ u_ws RX4 TX4 18, w ∈ xTbl := by
  intro w hw
  have e : u_ws RX4 TX4 18 = ([822, 824, 826, 828, 830, 832, 834, 836, 838, 840, 842, 844, 846, 848, 850, 852, 854, 856] : List Nat).filterMap (fun i => lw_tbl[i]?) := by decide +kernel
  have g : (u_ws RX4 TX4 18).all goodWord = true := by decide +kernel
  have g1 := x_all g hw
  rw [e] at hw
  obtain ⟨i, -, hi⟩ := List.mem_filterMap.mp hw
  exact xTbl_in i hi g1
