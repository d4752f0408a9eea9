/-! written by wip/gen/checkgen.py: the law's instructions against the tables -/
def hp_L_law : List (Nat × Nat) := [(8, 133), (128, 135), (129, 1696), (131, 1698), (132, 527), (136, 1822), (137, 704), (142, 1826), (143, 1818), (147, 535), (150, 1969), (151, 1249), (154, 1973), (155, 1281), (157, 1994), (158, 1294), (160, 2027), (161, 1306), (163, 2225), (164, 539), (167, 2041), (168, 1315), (170, 2053), (171, 1322), (173, 2057), (174, 1329), (176, 2062), (177, 1343), (179, 2075), (180, 1354), (182, 2080), (183, 1400), (185, 2130), (186, 1411), (188, 2134), (189, 598), (192, 2144), (193, 634), (197, 2148), (198, 640), (201, 2152), (202, 644), (205, 2156), (206, 1426), (208, 2160), (209, 1434), (211, 2164), (212, 648), (215, 2168), (216, 1441), (218, 2172), (219, 1456), (221, 2188), (222, 652), (225, 2192), (226, 1463), (228, 2196), (229, 1471), (231, 2200), (232, 1478), (234, 2204), (235, 656), (238, 2216), (239, 1485), (241, 2221), (242, 1492), (244, 2238), (245, 1501), (247, 2246), (248, 1508), (250, 2250), (251, 663), (254, 2263), (255, 1516), (257, 2271), (258, 687), (261, 2276), (262, 1524), (264, 2284), (265, 1553), (267, 2293), (268, 1565), (270, 2302), (271, 1572), (273, 2307), (274, 1588), (276, 2315), (277, 1595), (279, 2319), (280, 1602), (283, 2324), (284, 2353), (286, 1634), (289, 2328), (290, 1666), (292, 2336), (293, 1673), (296, 2340), (297, 1688), (299, 2345), (300, 696), (303, 2349)]
theorem zL_0 : (List.range 50).all (fun k => ckI sStr t_kd q_L_law i_L_law k_L_law hp_L_law (0 + k)) = true := by decide +kernel
theorem zL_1 : (List.range 50).all (fun k => ckI sStr t_kd q_L_law i_L_law k_L_law hp_L_law (50 + k)) = true := by decide +kernel
theorem zL_2 : (List.range 50).all (fun k => ckI sStr t_kd q_L_law i_L_law k_L_law hp_L_law (100 + k)) = true := by decide +kernel
theorem zL_3 : (List.range 50).all (fun k => ckI sStr t_kd q_L_law i_L_law k_L_law hp_L_law (150 + k)) = true := by decide +kernel
theorem zL_4 : (List.range 50).all (fun k => ckI sStr t_kd q_L_law i_L_law k_L_law hp_L_law (200 + k)) = true := by decide +kernel
theorem zL_5 : (List.range 50).all (fun k => ckI sStr t_kd q_L_law i_L_law k_L_law hp_L_law (250 + k)) = true := by decide +kernel
theorem zL_6 : (List.range 50).all (fun k => ckI sStr t_kd q_L_law i_L_law k_L_law hp_L_law (300 + k)) = true := by decide +kernel
theorem zL_7 : (List.range 50).all (fun k => ckI sStr t_kd q_L_law i_L_law k_L_law hp_L_law (350 + k)) = true := by decide +kernel
theorem zL_8 : (List.range 50).all (fun k => ckI sStr t_kd q_L_law i_L_law k_L_law hp_L_law (400 + k)) = true := by decide +kernel
theorem zL_9 : (List.range 50).all (fun k => ckI sStr t_kd q_L_law i_L_law k_L_law hp_L_law (450 + k)) = true := by decide +kernel
theorem zL_10 : (List.range 50).all (fun k => ckI sStr t_kd q_L_law i_L_law k_L_law hp_L_law (500 + k)) = true := by decide +kernel
theorem zL_11 : (List.range 50).all (fun k => ckI sStr t_kd q_L_law i_L_law k_L_law hp_L_law (550 + k)) = true := by decide +kernel
theorem zL_12 : (List.range 50).all (fun k => ckI sStr t_kd q_L_law i_L_law k_L_law hp_L_law (600 + k)) = true := by decide +kernel
theorem zL_13 : (List.range 50).all (fun k => ckI sStr t_kd q_L_law i_L_law k_L_law hp_L_law (650 + k)) = true := by decide +kernel
theorem zL_14 : (List.range 50).all (fun k => ckI sStr t_kd q_L_law i_L_law k_L_law hp_L_law (700 + k)) = true := by decide +kernel
theorem zL_15 : (List.range 50).all (fun k => ckI sStr t_kd q_L_law i_L_law k_L_law hp_L_law (750 + k)) = true := by decide +kernel
theorem zL_16 : (List.range 50).all (fun k => ckI sStr t_kd q_L_law i_L_law k_L_law hp_L_law (800 + k)) = true := by decide +kernel
theorem zL_17 : (List.range 50).all (fun k => ckI sStr t_kd q_L_law i_L_law k_L_law hp_L_law (850 + k)) = true := by decide +kernel
theorem zL_18 : (List.range 50).all (fun k => ckI sStr t_kd q_L_law i_L_law k_L_law hp_L_law (900 + k)) = true := by decide +kernel
theorem zL_19 : (List.range 50).all (fun k => ckI sStr t_kd q_L_law i_L_law k_L_law hp_L_law (950 + k)) = true := by decide +kernel
theorem zL_20 : (List.range 50).all (fun k => ckI sStr t_kd q_L_law i_L_law k_L_law hp_L_law (1000 + k)) = true := by decide +kernel
theorem zL_21 : (List.range 50).all (fun k => ckI sStr t_kd q_L_law i_L_law k_L_law hp_L_law (1050 + k)) = true := by decide +kernel
