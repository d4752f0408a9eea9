/-! written by wip/gen/checkgen.py: the classes, the exceptions, what is checked once for all -/
theorem cK_2 : mj_cok tg "InsultRow$Carnival" u_C2 14 := ckK_ok (ps := [309, 311, 313, 315, 317, 319, 321, 323, 325, 327, 329, 331, 333, 335]) (by decide +kernel)
theorem cD_2 : ckD 2 u_C2 14 = true := by decide +kernel
theorem cK_3 : mj_cok tg "InsultRow$Court" u_C3 2 := ckK_ok (ps := [405, 407]) (by decide +kernel)
theorem cD_3 : ckD 3 u_C3 2 = true := by decide +kernel
theorem cK_4 : mj_cok tg "InsultRow$Fair" u_C4 3 := ckK_ok (ps := [387, 389, 391]) (by decide +kernel)
theorem cD_4 : ckD 4 u_C4 3 = true := by decide +kernel
theorem cK_5 : mj_cok tg "InsultRow$LawReader" u_C5 9 := ckK_ok (ps := [200, 202, 204, 206, 208, 210, 212, 214, 216]) (by decide +kernel)
theorem cD_5 : ckD 5 u_C5 9 = true := by decide +kernel
theorem cK_6 : mj_cok tg "InsultRow$Quiet" u_C6 5 := ckK_ok (ps := [473, 475, 477, 479, 481]) (by decide +kernel)
theorem cD_6 : ckD 6 u_C6 5 = true := by decide +kernel
theorem cK_7 : mj_cok tg "InsultRow$Reader" u_C7 11 := ckK_ok (ps := [240, 242, 244, 246, 248, 250, 252, 254, 256, 258, 260]) (by decide +kernel)
theorem cD_7 : ckD 7 u_C7 11 = true := by decide +kernel
theorem cK_8 : mj_cok tg "InsultRow$Row" u_C8 11 := ckK_ok (ps := [438, 440, 442, 444, 446, 448, 450, 452, 454, 456, 458]) (by decide +kernel)
theorem cD_8 : ckD 8 u_C8 11 = true := by decide +kernel
theorem cK_9 : mj_cok tg "InsultRow$Standing" u_C9 5 := ckK_ok (ps := [371, 373, 375, 377, 379]) (by decide +kernel)
theorem cD_9 : ckD 9 u_C9 5 = true := by decide +kernel
theorem cK_10 : mj_cok tg "InsultRow$Tokens" u_C10 8 := ckK_ok (ps := [167, 169, 171, 173, 175, 177, 179, 181]) (by decide +kernel)
theorem cD_10 : ckD 10 u_C10 8 = true := by decide +kernel
theorem cK_11 : mj_cok tg "InsultRow$Tray" u_C11 3 := ckK_ok (ps := [1618, 1620, 1622]) (by decide +kernel)
theorem cD_11 : ckD 11 u_C11 3 = true := by decide +kernel
theorem cK_12 : mj_cok tg "InsultRow" u_C12 13 := ckK_ok (ps := [499, 501, 503, 505, 507, 509, 511, 513, 515, 517, 519, 521, 523]) (by decide +kernel)
theorem cD_12 : ckD 12 u_C12 13 = true := by decide +kernel
theorem cK_13 : mj_cok tg "InsultRowModel" u_C13 37 := ckK_ok (ps := [1742, 1744, 1746, 1748, 1750, 1752, 1754, 1756, 1758, 1760, 1762, 1764, 1766, 1768, 1770, 1772, 1774, 1776, 1778, 1780, 1782, 1784, 1786, 1788, 1790, 1792, 1794, 1796, 1798, 1800, 1802, 1804, 1806, 1808, 1810, 1812, 1814]) (by decide +kernel)
theorem cD_13 : ckD 13 u_C13 37 = true := by decide +kernel
theorem cO_1 : ∀ (ci : Nat) (C : String) (T : u_T) (N : Nat), 1 < ci → t_cl[ci]? = some (C, T, N) → mj_cok tg C T N ∧ Cond.instantiable C N ∈ tg ∧ Cond.initialized C ∈ tg ∧ (t_df ci).length = N ∧ ∀ ty : Nat → FieldType, (∀ k, k < N → parseFieldDescriptor (T k).2.2.1 = some (ty k)) → ∀ j, j < N → (t_df ci)[j]? = some (defaultValue (ty j)) := by
  intro ci C T N h1 hc
  have hl : ci < 14 := (List.getElem?_eq_some_iff.mp hc).1
  have hq : ci = 2 ∨ ci = 3 ∨ ci = 4 ∨ ci = 5 ∨ ci = 6 ∨ ci = 7 ∨ ci = 8 ∨ ci = 9 ∨ ci = 10 ∨ ci = 11 ∨ ci = 12 ∨ ci = 13 := by omega
  rcases hq with rfl | rfl | rfl | rfl | rfl | rfl | rfl | rfl | rfl | rfl | rfl | rfl
  · cases hc
    exact ⟨cK_2, tg_at (k := 266) rfl rfl, tg_at (k := 106) rfl rfl, rfl, ckD_ok cD_2⟩
  · cases hc
    exact ⟨cK_3, tg_at (k := 398) rfl rfl, tg_at (k := 109) rfl rfl, rfl, ckD_ok cD_3⟩
  · cases hc
    exact ⟨cK_4, tg_at (k := 264) rfl rfl, tg_at (k := 105) rfl rfl, rfl, ckD_ok cD_4⟩
  · cases hc
    exact ⟨cK_5, tg_at (k := 186) rfl rfl, tg_at (k := 104) rfl rfl, rfl, ckD_ok cD_5⟩
  · cases hc
    exact ⟨cK_6, tg_at (k := 462) rfl rfl, tg_at (k := 111) rfl rfl, rfl, ckD_ok cD_6⟩
  · cases hc
    exact ⟨cK_7, tg_at (k := 142) rfl rfl, tg_at (k := 102) rfl rfl, rfl, ckD_ok cD_7⟩
  · cases hc
    exact ⟨cK_8, tg_at (k := 411) rfl rfl, tg_at (k := 110) rfl rfl, rfl, ckD_ok cD_8⟩
  · cases hc
    exact ⟨cK_9, tg_at (k := 344) rfl rfl, tg_at (k := 107) rfl rfl, rfl, ckD_ok cD_9⟩
  · cases hc
    exact ⟨cK_10, tg_at (k := 148) rfl rfl, tg_at (k := 103) rfl rfl, rfl, ckD_ok cD_10⟩
  · cases hc
    exact ⟨cK_11, tg_at (k := 1609) rfl rfl, tg_at (k := 131) rfl rfl, rfl, ckD_ok cD_11⟩
  · cases hc
    exact ⟨cK_12, tg_at (k := 134) rfl rfl, tg_at (k := 101) rfl rfl, rfl, ckD_ok cD_12⟩
  · cases hc
    exact ⟨cK_13, tg_at (k := 1697) rfl rfl, tg_at (k := 112) rfl rfl, rfl, ckD_ok cD_13⟩
theorem cO : ckO := ⟨cO_1, ⟨tg_at (k := 139) rfl rfl, tg_at (k := 140) rfl rfl⟩, ⟨tg_at (k := 926) rfl rfl, tg_at (k := 927) rfl rfl, tg_at (k := 928) rfl rfl, tg_at (k := 929) rfl rfl, aN_in (k := 930) (by decide +kernel)⟩, ⟨tg_at (k := 589) rfl rfl, tg_at (k := 588) rfl rfl, tg_at (k := 123) rfl rfl⟩⟩
def eL : List Nat := [113, 114, 115, 116, 129, 130, 132, 707, 712, 713, 714, 715, 716, 717, 718, 719, 720, 721, 722, 723, 724, 725, 726, 727, 728, 729, 730, 731, 732, 733, 734, 735, 736, 737, 738, 739, 740, 741, 742, 743, 744, 745, 746, 747, 748, 749, 750, 751, 752, 753, 755, 756, 757, 758, 759, 760, 761, 762, 763, 764, 765, 766, 767, 768, 769, 770, 771, 772, 773, 774, 775, 776, 777, 778, 779, 946, 1139, 1252, 1261, 1262, 1263, 1264, 1265, 1266, 1267, 1268, 1269, 1271, 1272, 1273, 1274, 1275, 1276, 1357, 1367, 1368, 1369, 1370, 1371, 1372, 1373, 1374, 1375, 1377, 1378, 1379, 1380, 1381, 1382, 1637, 1642, 1643, 1644, 1645, 1646, 1647, 1648, 1649, 1650, 1652, 1653, 1654, 1655, 1656, 1657, 2354, 2374, 2377, 2378, 2380, 2381, 139, 140]
theorem cE_1 : okE 1 := ckE_ok (L := eL) (by decide +kernel)
theorem cE_2 : okE 2 := ckE_ok (L := eL) (by decide +kernel)
theorem cE_3 : okE 3 := ckE_ok (L := eL) (by decide +kernel)
theorem cE_4 : okE 4 := ckE_ok (L := eL) (by decide +kernel)
theorem cE : ∀ e, 1 ≤ e → e ≤ 4 → okE e := by
  intro e h1 h2
  have hq : e = 1 ∨ e = 2 ∨ e = 3 ∨ e = 4 := by omega
  rcases hq with rfl | rfl | rfl | rfl
  · exact cE_1
  · exact cE_2
  · exact cE_3
  · exact cE_4
