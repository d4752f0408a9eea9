/-! written by wip/gen/checkgen.py: the methods' instructions against the tables -/
section CKM
variable {n : Nat} {xs : Nat → Int32} {fv : Value}
theorem zL_all : ∀ pc, pc < 2703 → ckI sStr t_kd q_L_law i_L_law k_L_law hp_L_law pc = true := by
  intro pc h
  rcases Nat.lt_or_ge pc 50 with q | q0
  · have := ck_rng zL_0 (pc - 0) (by omega)
    rwa [show 0 + (pc - 0) = pc by omega] at this
  rcases Nat.lt_or_ge pc 100 with q | q1
  · have := ck_rng zL_1 (pc - 50) (by omega)
    rwa [show 50 + (pc - 50) = pc by omega] at this
  rcases Nat.lt_or_ge pc 150 with q | q2
  · have := ck_rng zL_2 (pc - 100) (by omega)
    rwa [show 100 + (pc - 100) = pc by omega] at this
  rcases Nat.lt_or_ge pc 200 with q | q3
  · have := ck_rng zL_3 (pc - 150) (by omega)
    rwa [show 150 + (pc - 150) = pc by omega] at this
  rcases Nat.lt_or_ge pc 250 with q | q4
  · have := ck_rng zL_4 (pc - 200) (by omega)
    rwa [show 200 + (pc - 200) = pc by omega] at this
  rcases Nat.lt_or_ge pc 300 with q | q5
  · have := ck_rng zL_5 (pc - 250) (by omega)
    rwa [show 250 + (pc - 250) = pc by omega] at this
  rcases Nat.lt_or_ge pc 350 with q | q6
  · have := ck_rng zL_6 (pc - 300) (by omega)
    rwa [show 300 + (pc - 300) = pc by omega] at this
  rcases Nat.lt_or_ge pc 400 with q | q7
  · have := ck_rng zL_7 (pc - 350) (by omega)
    rwa [show 350 + (pc - 350) = pc by omega] at this
  rcases Nat.lt_or_ge pc 450 with q | q8
  · have := ck_rng zL_8 (pc - 400) (by omega)
    rwa [show 400 + (pc - 400) = pc by omega] at this
  rcases Nat.lt_or_ge pc 500 with q | q9
  · have := ck_rng zL_9 (pc - 450) (by omega)
    rwa [show 450 + (pc - 450) = pc by omega] at this
  rcases Nat.lt_or_ge pc 550 with q | q10
  · have := ck_rng zL_10 (pc - 500) (by omega)
    rwa [show 500 + (pc - 500) = pc by omega] at this
  rcases Nat.lt_or_ge pc 600 with q | q11
  · have := ck_rng zL_11 (pc - 550) (by omega)
    rwa [show 550 + (pc - 550) = pc by omega] at this
  rcases Nat.lt_or_ge pc 650 with q | q12
  · have := ck_rng zL_12 (pc - 600) (by omega)
    rwa [show 600 + (pc - 600) = pc by omega] at this
  rcases Nat.lt_or_ge pc 700 with q | q13
  · have := ck_rng zL_13 (pc - 650) (by omega)
    rwa [show 650 + (pc - 650) = pc by omega] at this
  rcases Nat.lt_or_ge pc 750 with q | q14
  · have := ck_rng zL_14 (pc - 700) (by omega)
    rwa [show 700 + (pc - 700) = pc by omega] at this
  rcases Nat.lt_or_ge pc 800 with q | q15
  · have := ck_rng zL_15 (pc - 750) (by omega)
    rwa [show 750 + (pc - 750) = pc by omega] at this
  rcases Nat.lt_or_ge pc 850 with q | q16
  · have := ck_rng zL_16 (pc - 800) (by omega)
    rwa [show 800 + (pc - 800) = pc by omega] at this
  rcases Nat.lt_or_ge pc 900 with q | q17
  · have := ck_rng zL_17 (pc - 850) (by omega)
    rwa [show 850 + (pc - 850) = pc by omega] at this
  rcases Nat.lt_or_ge pc 950 with q | q18
  · have := ck_rng zL_18 (pc - 900) (by omega)
    rwa [show 900 + (pc - 900) = pc by omega] at this
  rcases Nat.lt_or_ge pc 1000 with q | q19
  · have := ck_rng zL_19 (pc - 950) (by omega)
    rwa [show 950 + (pc - 950) = pc by omega] at this
  rcases Nat.lt_or_ge pc 1050 with q | q20
  · have := ck_rng zL_20 (pc - 1000) (by omega)
    rwa [show 1000 + (pc - 1000) = pc by omega] at this
  rcases Nat.lt_or_ge pc 1100 with q | q21
  · have := ck_rng zL_21 (pc - 1050) (by omega)
    rwa [show 1050 + (pc - 1050) = pc by omega] at this
  rcases Nat.lt_or_ge pc 1150 with q | q22
  · have := ck_rng zL_22 (pc - 1100) (by omega)
    rwa [show 1100 + (pc - 1100) = pc by omega] at this
  rcases Nat.lt_or_ge pc 1200 with q | q23
  · have := ck_rng zL_23 (pc - 1150) (by omega)
    rwa [show 1150 + (pc - 1150) = pc by omega] at this
  rcases Nat.lt_or_ge pc 1250 with q | q24
  · have := ck_rng zL_24 (pc - 1200) (by omega)
    rwa [show 1200 + (pc - 1200) = pc by omega] at this
  rcases Nat.lt_or_ge pc 1300 with q | q25
  · have := ck_rng zL_25 (pc - 1250) (by omega)
    rwa [show 1250 + (pc - 1250) = pc by omega] at this
  rcases Nat.lt_or_ge pc 1350 with q | q26
  · have := ck_rng zL_26 (pc - 1300) (by omega)
    rwa [show 1300 + (pc - 1300) = pc by omega] at this
  rcases Nat.lt_or_ge pc 1400 with q | q27
  · have := ck_rng zL_27 (pc - 1350) (by omega)
    rwa [show 1350 + (pc - 1350) = pc by omega] at this
  rcases Nat.lt_or_ge pc 1450 with q | q28
  · have := ck_rng zL_28 (pc - 1400) (by omega)
    rwa [show 1400 + (pc - 1400) = pc by omega] at this
  rcases Nat.lt_or_ge pc 1500 with q | q29
  · have := ck_rng zL_29 (pc - 1450) (by omega)
    rwa [show 1450 + (pc - 1450) = pc by omega] at this
  rcases Nat.lt_or_ge pc 1550 with q | q30
  · have := ck_rng zL_30 (pc - 1500) (by omega)
    rwa [show 1500 + (pc - 1500) = pc by omega] at this
  rcases Nat.lt_or_ge pc 1600 with q | q31
  · have := ck_rng zL_31 (pc - 1550) (by omega)
    rwa [show 1550 + (pc - 1550) = pc by omega] at this
  rcases Nat.lt_or_ge pc 1650 with q | q32
  · have := ck_rng zL_32 (pc - 1600) (by omega)
    rwa [show 1600 + (pc - 1600) = pc by omega] at this
  rcases Nat.lt_or_ge pc 1700 with q | q33
  · have := ck_rng zL_33 (pc - 1650) (by omega)
    rwa [show 1650 + (pc - 1650) = pc by omega] at this
  rcases Nat.lt_or_ge pc 1750 with q | q34
  · have := ck_rng zL_34 (pc - 1700) (by omega)
    rwa [show 1700 + (pc - 1700) = pc by omega] at this
  rcases Nat.lt_or_ge pc 1800 with q | q35
  · have := ck_rng zL_35 (pc - 1750) (by omega)
    rwa [show 1750 + (pc - 1750) = pc by omega] at this
  rcases Nat.lt_or_ge pc 1850 with q | q36
  · have := ck_rng zL_36 (pc - 1800) (by omega)
    rwa [show 1800 + (pc - 1800) = pc by omega] at this
  rcases Nat.lt_or_ge pc 1900 with q | q37
  · have := ck_rng zL_37 (pc - 1850) (by omega)
    rwa [show 1850 + (pc - 1850) = pc by omega] at this
  rcases Nat.lt_or_ge pc 1950 with q | q38
  · have := ck_rng zL_38 (pc - 1900) (by omega)
    rwa [show 1900 + (pc - 1900) = pc by omega] at this
  rcases Nat.lt_or_ge pc 2000 with q | q39
  · have := ck_rng zL_39 (pc - 1950) (by omega)
    rwa [show 1950 + (pc - 1950) = pc by omega] at this
  rcases Nat.lt_or_ge pc 2050 with q | q40
  · have := ck_rng zL_40 (pc - 2000) (by omega)
    rwa [show 2000 + (pc - 2000) = pc by omega] at this
  rcases Nat.lt_or_ge pc 2100 with q | q41
  · have := ck_rng zL_41 (pc - 2050) (by omega)
    rwa [show 2050 + (pc - 2050) = pc by omega] at this
  rcases Nat.lt_or_ge pc 2150 with q | q42
  · have := ck_rng zL_42 (pc - 2100) (by omega)
    rwa [show 2100 + (pc - 2100) = pc by omega] at this
  rcases Nat.lt_or_ge pc 2200 with q | q43
  · have := ck_rng zL_43 (pc - 2150) (by omega)
    rwa [show 2150 + (pc - 2150) = pc by omega] at this
  rcases Nat.lt_or_ge pc 2250 with q | q44
  · have := ck_rng zL_44 (pc - 2200) (by omega)
    rwa [show 2200 + (pc - 2200) = pc by omega] at this
  rcases Nat.lt_or_ge pc 2300 with q | q45
  · have := ck_rng zL_45 (pc - 2250) (by omega)
    rwa [show 2250 + (pc - 2250) = pc by omega] at this
  rcases Nat.lt_or_ge pc 2350 with q | q46
  · have := ck_rng zL_46 (pc - 2300) (by omega)
    rwa [show 2300 + (pc - 2300) = pc by omega] at this
  rcases Nat.lt_or_ge pc 2400 with q | q47
  · have := ck_rng zL_47 (pc - 2350) (by omega)
    rwa [show 2350 + (pc - 2350) = pc by omega] at this
  rcases Nat.lt_or_ge pc 2450 with q | q48
  · have := ck_rng zL_48 (pc - 2400) (by omega)
    rwa [show 2400 + (pc - 2400) = pc by omega] at this
  rcases Nat.lt_or_ge pc 2500 with q | q49
  · have := ck_rng zL_49 (pc - 2450) (by omega)
    rwa [show 2450 + (pc - 2450) = pc by omega] at this
  rcases Nat.lt_or_ge pc 2550 with q | q50
  · have := ck_rng zL_50 (pc - 2500) (by omega)
    rwa [show 2500 + (pc - 2500) = pc by omega] at this
  rcases Nat.lt_or_ge pc 2600 with q | q51
  · have := ck_rng zL_51 (pc - 2550) (by omega)
    rwa [show 2550 + (pc - 2550) = pc by omega] at this
  rcases Nat.lt_or_ge pc 2650 with q | q52
  · have := ck_rng zL_52 (pc - 2600) (by omega)
    rwa [show 2600 + (pc - 2600) = pc by omega] at this
  rcases Nat.lt_or_ge pc 2700 with q | q53
  · have := ck_rng zL_53 (pc - 2650) (by omega)
    rwa [show 2650 + (pc - 2650) = pc by omega] at this
  rcases Nat.lt_or_ge pc 2703 with q | q54
  · have := ck_rng zL_54 (pc - 2700) (by omega)
    rwa [show 2700 + (pc - 2700) = pc by omega] at this
  · omega
theorem z_L_law : okI sStr n xs fv 0 q_L_law := ckI_ok (f := i_L_law) (g := k_L_law) hp_L_law 2703 cO cE oKd (fun _ => rfl) (fun _ => rfl) (fun pc h => (if_neg (by omega)).trans ((if_neg (by omega)).trans ((if_neg (by omega)).trans ((if_neg (by omega)).trans ((if_neg (by omega)).trans ((if_neg (by omega)).trans ((if_neg (by omega)).trans ((if_neg (by omega)).trans ((if_neg (by omega)).trans ((if_neg (by omega)).trans ((if_neg (by omega)).trans (if_neg (by omega))))))))))))) zL_all
end CKM
