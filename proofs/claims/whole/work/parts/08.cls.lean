/-! THE CLASSES' TABLES -/
def clsOK (c : Nat) : Prop := ∀ r, vwCl[c]? = some r → (∀ w ∈ u_ws r.1 r.2.1 r.2.2, w ∈ gT) ∧ (∀ k, k < r.2.2 → parseFieldDescriptor (r.2.1 k).2.2.1 = some (fty c k)) ∧ (∀ a, a < r.2.2 → ∀ b, b < r.2.2 → a ≠ b → (r.2.1 a).2.1 ≠ (r.2.1 b).2.1)
theorem gT_of {w : Cond} (h : w ∈ tables_1) (hg : goodWord w = true) : w ∈ gT := List.mem_filter.mpr ⟨List.mem_append_right _ h, hg⟩
theorem gT_at {w : Cond} (i : Nat) (h : tables_1[i]? = some w) (hg : goodWord w = true) : w ∈ gT := gT_of (List.mem_of_getElem? h) hg
def inAt (ws : List Cond) (is : List Nat) : Bool := decide (is.map (fun i => tables_1[i]?) = ws.map some) && ws.all goodWord
theorem inAt_ok {ws : List Cond} {is : List Nat} (h : inAt ws is = true) : ∀ w ∈ ws, w ∈ gT := by
  intro w hw
  simp only [inAt, Bool.and_eq_true, decide_eq_true_eq] at h
  obtain ⟨h1, h2⟩ := h
  refine gT_of ?_ (List.all_eq_true.mp h2 w hw)
  have : some w ∈ is.map (fun i => tables_1[i]?) := by rw [h1]; exact List.mem_map.mpr ⟨w, hw, rfl⟩
  obtain ⟨i, -, hi⟩ := List.mem_map.mp this
  exact List.mem_of_getElem? hi
theorem i_cls_0 : inAt (u_ws RX0 TX0 5) [104, 106, 108, 110, 112] = true := by decide +kernel
theorem i_cls_1 : inAt (u_ws RX1 TX1 4) [147, 149, 151, 153] = true := by decide +kernel
theorem i_cls_2 : inAt (u_ws RX2 TX2 4) [175, 177, 179, 181] = true := by decide +kernel
theorem i_cls_3 : inAt (u_ws RX3 TX3 19) [244, 246, 248, 250, 252, 254, 256, 258, 260, 262, 264, 266, 268, 270, 272, 274, 276, 278, 280] = true := by decide +kernel
theorem i_cls_4 : inAt (u_ws RX4 TX4 3) [84, 86, 88] = true := by decide +kernel
theorem i_cls_5 : inAt (u_ws RX5 TX5 10) [301, 303, 305, 307, 309, 311, 313, 315, 317, 319] = true := by decide +kernel
theorem i_cls_6 : inAt (u_ws RX6 TX6 13) [400, 402, 404, 406, 408, 410, 412, 414, 416, 418, 420, 422, 424] = true := by decide +kernel
theorem i_cls_7 : inAt (u_ws RX7 TX7 10) [358, 360, 362, 364, 366, 368, 370, 372, 374, 376] = true := by decide +kernel
theorem i_cls_8 : inAt (u_ws RX8 TX8 5) [58, 60, 62, 64, 66] = true := by decide +kernel
theorem i_cls_9 : inAt (u_ws RX9 TX9 3) [127, 129, 131] = true := by decide +kernel
theorem i_cls_10 : inAt (u_ws RX10 TX10 19) [446, 448, 450, 452, 454, 456, 458, 460, 462, 464, 466, 468, 470, 472, 474, 476, 478, 480, 482] = true := by decide +kernel
theorem i_cls_11 : inAt (u_ws RX11 TX11 59) [1328, 1330, 1332, 1334, 1336, 1338, 1340, 1342, 1344, 1346, 1348, 1350, 1352, 1354, 1356, 1358, 1360, 1362, 1364, 1366, 1368, 1370, 1372, 1374, 1376, 1378, 1380, 1382, 1384, 1386, 1388, 1390, 1392, 1394, 1396, 1398, 1400, 1402, 1404, 1406, 1408, 1410, 1412, 1414, 1416, 1418, 1420, 1422, 1424, 1426, 1428, 1430, 1432, 1434, 1436, 1438, 1440, 1442, 1444] = true := by decide +kernel
theorem clsOK_all (c : Nat) : clsOK c := by
  intro r hr
  match c, hr with
  | 0, hr => cases hr; exact ⟨inAt_ok i_cls_0, tyX0_ok, nmX0⟩
  | 1, hr => cases hr; exact ⟨inAt_ok i_cls_1, tyX1_ok, nmX1⟩
  | 2, hr => cases hr; exact ⟨inAt_ok i_cls_2, tyX2_ok, nmX2⟩
  | 3, hr => cases hr; exact ⟨inAt_ok i_cls_3, tyX3_ok, nmX3⟩
  | 4, hr => cases hr; exact ⟨inAt_ok i_cls_4, tyX4_ok, nmX4⟩
  | 5, hr => cases hr; exact ⟨inAt_ok i_cls_5, tyX5_ok, nmX5⟩
  | 6, hr => cases hr; exact ⟨inAt_ok i_cls_6, tyX6_ok, nmX6⟩
  | 7, hr => cases hr; exact ⟨inAt_ok i_cls_7, tyX7_ok, nmX7⟩
  | 8, hr => cases hr; exact ⟨inAt_ok i_cls_8, tyX8_ok, nmX8⟩
  | 9, hr => cases hr; exact ⟨inAt_ok i_cls_9, tyX9_ok, nmX9⟩
  | 10, hr => cases hr; exact ⟨inAt_ok i_cls_10, tyX10_ok, nmX10⟩
  | 11, hr => cases hr; exact ⟨inAt_ok i_cls_11, tyX11_ok, nmX11⟩
  | c + 12, hr => simp [vwCl] at hr
