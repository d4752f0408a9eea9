/-! written by wip/gen/checkgen.py: the law's instructions against the tables -/
theorem zL_41 : (List.range 50).all (fun k => ckI sStr t_kd q_L_law i_L_law k_L_law hp_L_law (2050 + k)) = true := by decide +kernel
theorem zL_42 : (List.range 50).all (fun k => ckI sStr t_kd q_L_law i_L_law k_L_law hp_L_law (2100 + k)) = true := by decide +kernel
theorem zL_43 : (List.range 50).all (fun k => ckI sStr t_kd q_L_law i_L_law k_L_law hp_L_law (2150 + k)) = true := by decide +kernel
theorem zL_44 : (List.range 50).all (fun k => ckI sStr t_kd q_L_law i_L_law k_L_law hp_L_law (2200 + k)) = true := by decide +kernel
theorem zL_45 : (List.range 50).all (fun k => ckI sStr t_kd q_L_law i_L_law k_L_law hp_L_law (2250 + k)) = true := by decide +kernel
theorem zL_46 : (List.range 50).all (fun k => ckI sStr t_kd q_L_law i_L_law k_L_law hp_L_law (2300 + k)) = true := by decide +kernel
theorem zL_47 : (List.range 50).all (fun k => ckI sStr t_kd q_L_law i_L_law k_L_law hp_L_law (2350 + k)) = true := by decide +kernel
theorem zL_48 : (List.range 50).all (fun k => ckI sStr t_kd q_L_law i_L_law k_L_law hp_L_law (2400 + k)) = true := by decide +kernel
theorem zL_49 : (List.range 50).all (fun k => ckI sStr t_kd q_L_law i_L_law k_L_law hp_L_law (2450 + k)) = true := by decide +kernel
theorem zL_50 : (List.range 50).all (fun k => ckI sStr t_kd q_L_law i_L_law k_L_law hp_L_law (2500 + k)) = true := by decide +kernel
theorem zL_51 : (List.range 50).all (fun k => ckI sStr t_kd q_L_law i_L_law k_L_law hp_L_law (2550 + k)) = true := by decide +kernel
theorem zL_52 : (List.range 50).all (fun k => ckI sStr t_kd q_L_law i_L_law k_L_law hp_L_law (2600 + k)) = true := by decide +kernel
theorem zL_53 : (List.range 50).all (fun k => ckI sStr t_kd q_L_law i_L_law k_L_law hp_L_law (2650 + k)) = true := by decide +kernel
theorem zL_54 : (List.range 3).all (fun k => ckI sStr t_kd q_L_law i_L_law k_L_law hp_L_law (2700 + k)) = true := by decide +kernel
