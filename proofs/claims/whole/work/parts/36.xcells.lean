/-! steps over the class's cells -/
theorem xI_tI (T : XS) (a k : Nat) (x : Int32) (b j : Nat) : xI (tI T a k x) b j = if b = a ∧ j = k then x else xI T b j := rfl
theorem xR_tR (T : XS) (a k : Nat) (x : Option Nat) (b j : Nat) : xR (tR T a k x) b j = if b = a ∧ j = k then x else xR T b j := rfl
theorem frx_tI (T : XS) (a k : Nat) (x : Int32) (b j : Nat) : frx (tI T a k x) b j = frx T b j := rfl
theorem xI_tR (T : XS) (a k : Nat) (x : Option Nat) (b j : Nat) : xI (tR T a k x) b j = xI T b j := rfl
theorem frx_tR (T : XS) (a k : Nat) (x : Option Nat) (b j : Nat) (h : ¬ (b = a ∧ j = k)) : frx (tR T a k x) b j = frx T b j := by
  unfold frx
  rw [xR_tR, if_neg h]
theorem fi_2_0 (T : XS) (a : Nat) (x : Int32) : (flds 2 T a).set 0 (.int x) = flds 2 (tI T a 0 x) a := by simp [flds, xI_tI, frx_tI]
theorem fi_2_1 (T : XS) (a : Nat) (x : Int32) : (flds 2 T a).set 1 (.int x) = flds 2 (tI T a 1 x) a := by simp [flds, xI_tI, frx_tI]
theorem fi_2_2 (T : XS) (a : Nat) (x : Int32) : (flds 2 T a).set 2 (.int x) = flds 2 (tI T a 2 x) a := by simp [flds, xI_tI, frx_tI]
theorem fr_2_3 (T : XS) (a : Nat) (x : Option Nat) (h : frx (tR T a 3 x) a 3 = x) : (flds 2 T a).set 3 (va_rf x) = flds 2 (tR T a 3 x) a := by
  simp only [flds, List.set, h, xI_tR]
  try simp [frx_tR]
theorem fr_2_4 (T : XS) (a : Nat) (x : Option Nat) (h : frx (tR T a 4 x) a 4 = x) : (flds 2 T a).set 4 (va_rf x) = flds 2 (tR T a 4 x) a := by
  simp only [flds, List.set, h, xI_tR]
  try simp [frx_tR]
theorem fr_2_5 (T : XS) (a : Nat) (x : Option Nat) (h : frx (tR T a 5 x) a 5 = x) : (flds 2 T a).set 5 (va_rf x) = flds 2 (tR T a 5 x) a := by
  simp only [flds, List.set, h, xI_tR]
  try simp [frx_tR]
theorem fi_2_6 (T : XS) (a : Nat) (x : Int32) : (flds 2 T a).set 6 (.int x) = flds 2 (tI T a 6 x) a := by simp [flds, xI_tI, frx_tI]
theorem fr_2_7 (T : XS) (a : Nat) (x : Option Nat) (h : frx (tR T a 7 x) a 7 = x) : (flds 2 T a).set 7 (va_rf x) = flds 2 (tR T a 7 x) a := by
  simp only [flds, List.set, h, xI_tR]
  try simp [frx_tR]
theorem fr_2_8 (T : XS) (a : Nat) (x : Option Nat) (h : frx (tR T a 8 x) a 8 = x) : (flds 2 T a).set 8 (va_rf x) = flds 2 (tR T a 8 x) a := by
  simp only [flds, List.set, h, xI_tR]
  try simp [frx_tR]
theorem fr_2_9 (T : XS) (a : Nat) (x : Option Nat) (h : frx (tR T a 9 x) a 9 = x) : (flds 2 T a).set 9 (va_rf x) = flds 2 (tR T a 9 x) a := by
  simp only [flds, List.set, h, xI_tR]
  try simp [frx_tR]
theorem fr_2_10 (T : XS) (a : Nat) (x : Option Nat) (h : frx (tR T a 10 x) a 10 = x) : (flds 2 T a).set 10 (va_rf x) = flds 2 (tR T a 10 x) a := by
  simp only [flds, List.set, h, xI_tR]
  try simp [frx_tR]
theorem fr_2_11 (T : XS) (a : Nat) (x : Option Nat) (h : frx (tR T a 11 x) a 11 = x) : (flds 2 T a).set 11 (va_rf x) = flds 2 (tR T a 11 x) a := by
  simp only [flds, List.set, h, xI_tR]
  try simp [frx_tR]
theorem fr_2_12 (T : XS) (a : Nat) (x : Option Nat) (h : frx (tR T a 12 x) a 12 = x) : (flds 2 T a).set 12 (va_rf x) = flds 2 (tR T a 12 x) a := by
  simp only [flds, List.set, h, xI_tR]
  try simp [frx_tR]
theorem fr_2_13 (T : XS) (a : Nat) (x : Option Nat) (h : frx (tR T a 13 x) a 13 = x) : (flds 2 T a).set 13 (va_rf x) = flds 2 (tR T a 13 x) a := by
  simp only [flds, List.set, h, xI_tR]
  try simp [frx_tR]
theorem fr_3_0 (T : XS) (a : Nat) (x : Option Nat) (h : frx (tR T a 0 x) a 0 = x) : (flds 3 T a).set 0 (va_rf x) = flds 3 (tR T a 0 x) a := by
  simp only [flds, List.set, h, xI_tR]
  try simp [frx_tR]
theorem fr_3_1 (T : XS) (a : Nat) (x : Option Nat) (h : frx (tR T a 1 x) a 1 = x) : (flds 3 T a).set 1 (va_rf x) = flds 3 (tR T a 1 x) a := by
  simp only [flds, List.set, h, xI_tR]
  try simp [frx_tR]
theorem fr_4_0 (T : XS) (a : Nat) (x : Option Nat) (h : frx (tR T a 0 x) a 0 = x) : (flds 4 T a).set 0 (va_rf x) = flds 4 (tR T a 0 x) a := by
  simp only [flds, List.set, h, xI_tR]
  try simp [frx_tR]
theorem fr_4_1 (T : XS) (a : Nat) (x : Option Nat) (h : frx (tR T a 1 x) a 1 = x) : (flds 4 T a).set 1 (va_rf x) = flds 4 (tR T a 1 x) a := by
  simp only [flds, List.set, h, xI_tR]
  try simp [frx_tR]
theorem fi_4_2 (T : XS) (a : Nat) (x : Int32) : (flds 4 T a).set 2 (.int x) = flds 4 (tI T a 2 x) a := by simp [flds, xI_tI, frx_tI]
theorem fr_5_0 (T : XS) (a : Nat) (x : Option Nat) (h : frx (tR T a 0 x) a 0 = x) : (flds 5 T a).set 0 (va_rf x) = flds 5 (tR T a 0 x) a := by
  simp only [flds, List.set, h, xI_tR]
  try simp [frx_tR]
theorem fi_5_1 (T : XS) (a : Nat) (x : Int32) : (flds 5 T a).set 1 (.int x) = flds 5 (tI T a 1 x) a := by simp [flds, xI_tI, frx_tI]
theorem fr_5_2 (T : XS) (a : Nat) (x : Option Nat) (h : frx (tR T a 2 x) a 2 = x) : (flds 5 T a).set 2 (va_rf x) = flds 5 (tR T a 2 x) a := by
  simp only [flds, List.set, h, xI_tR]
  try simp [frx_tR]
theorem fi_5_3 (T : XS) (a : Nat) (x : Int32) : (flds 5 T a).set 3 (.int x) = flds 5 (tI T a 3 x) a := by simp [flds, xI_tI, frx_tI]
theorem fi_5_4 (T : XS) (a : Nat) (x : Int32) : (flds 5 T a).set 4 (.int x) = flds 5 (tI T a 4 x) a := by simp [flds, xI_tI, frx_tI]
theorem fi_5_5 (T : XS) (a : Nat) (x : Int32) : (flds 5 T a).set 5 (.int x) = flds 5 (tI T a 5 x) a := by simp [flds, xI_tI, frx_tI]
theorem fi_5_6 (T : XS) (a : Nat) (x : Int32) : (flds 5 T a).set 6 (.int x) = flds 5 (tI T a 6 x) a := by simp [flds, xI_tI, frx_tI]
theorem fi_5_7 (T : XS) (a : Nat) (x : Int32) : (flds 5 T a).set 7 (.int x) = flds 5 (tI T a 7 x) a := by simp [flds, xI_tI, frx_tI]
theorem fi_5_8 (T : XS) (a : Nat) (x : Int32) : (flds 5 T a).set 8 (.int x) = flds 5 (tI T a 8 x) a := by simp [flds, xI_tI, frx_tI]
theorem fr_6_0 (T : XS) (a : Nat) (x : Option Nat) (h : frx (tR T a 0 x) a 0 = x) : (flds 6 T a).set 0 (va_rf x) = flds 6 (tR T a 0 x) a := by
  simp only [flds, List.set, h, xI_tR]
  try simp [frx_tR]
theorem fr_6_1 (T : XS) (a : Nat) (x : Option Nat) (h : frx (tR T a 1 x) a 1 = x) : (flds 6 T a).set 1 (va_rf x) = flds 6 (tR T a 1 x) a := by
  simp only [flds, List.set, h, xI_tR]
  try simp [frx_tR]
theorem fr_6_2 (T : XS) (a : Nat) (x : Option Nat) (h : frx (tR T a 2 x) a 2 = x) : (flds 6 T a).set 2 (va_rf x) = flds 6 (tR T a 2 x) a := by
  simp only [flds, List.set, h, xI_tR]
  try simp [frx_tR]
theorem fi_6_3 (T : XS) (a : Nat) (x : Int32) : (flds 6 T a).set 3 (.int x) = flds 6 (tI T a 3 x) a := by simp [flds, xI_tI, frx_tI]
theorem fi_6_4 (T : XS) (a : Nat) (x : Int32) : (flds 6 T a).set 4 (.int x) = flds 6 (tI T a 4 x) a := by simp [flds, xI_tI, frx_tI]
theorem fr_7_0 (T : XS) (a : Nat) (x : Option Nat) (h : frx (tR T a 0 x) a 0 = x) : (flds 7 T a).set 0 (va_rf x) = flds 7 (tR T a 0 x) a := by
  simp only [flds, List.set, h, xI_tR]
  try simp [frx_tR]
theorem fr_7_1 (T : XS) (a : Nat) (x : Option Nat) (h : frx (tR T a 1 x) a 1 = x) : (flds 7 T a).set 1 (va_rf x) = flds 7 (tR T a 1 x) a := by
  simp only [flds, List.set, h, xI_tR]
  try simp [frx_tR]
theorem fr_7_2 (T : XS) (a : Nat) (x : Option Nat) (h : frx (tR T a 2 x) a 2 = x) : (flds 7 T a).set 2 (va_rf x) = flds 7 (tR T a 2 x) a := by
  simp only [flds, List.set, h, xI_tR]
  try simp [frx_tR]
theorem fr_7_3 (T : XS) (a : Nat) (x : Option Nat) (h : frx (tR T a 3 x) a 3 = x) : (flds 7 T a).set 3 (va_rf x) = flds 7 (tR T a 3 x) a := by
  simp only [flds, List.set, h, xI_tR]
  try simp [frx_tR]
theorem fr_7_4 (T : XS) (a : Nat) (x : Option Nat) (h : frx (tR T a 4 x) a 4 = x) : (flds 7 T a).set 4 (va_rf x) = flds 7 (tR T a 4 x) a := by
  simp only [flds, List.set, h, xI_tR]
  try simp [frx_tR]
theorem fr_7_5 (T : XS) (a : Nat) (x : Option Nat) (h : frx (tR T a 5 x) a 5 = x) : (flds 7 T a).set 5 (va_rf x) = flds 7 (tR T a 5 x) a := by
  simp only [flds, List.set, h, xI_tR]
  try simp [frx_tR]
theorem fi_7_6 (T : XS) (a : Nat) (x : Int32) : (flds 7 T a).set 6 (.int x) = flds 7 (tI T a 6 x) a := by simp [flds, xI_tI, frx_tI]
theorem fi_7_7 (T : XS) (a : Nat) (x : Int32) : (flds 7 T a).set 7 (.int x) = flds 7 (tI T a 7 x) a := by simp [flds, xI_tI, frx_tI]
theorem fi_7_8 (T : XS) (a : Nat) (x : Int32) : (flds 7 T a).set 8 (.int x) = flds 7 (tI T a 8 x) a := by simp [flds, xI_tI, frx_tI]
theorem fr_7_9 (T : XS) (a : Nat) (x : Option Nat) (h : frx (tR T a 9 x) a 9 = x) : (flds 7 T a).set 9 (va_rf x) = flds 7 (tR T a 9 x) a := by
  simp only [flds, List.set, h, xI_tR]
  try simp [frx_tR]
theorem fr_7_10 (T : XS) (a : Nat) (x : Option Nat) (h : frx (tR T a 10 x) a 10 = x) : (flds 7 T a).set 10 (va_rf x) = flds 7 (tR T a 10 x) a := by
  simp only [flds, List.set, h, xI_tR]
  try simp [frx_tR]
theorem fi_8_0 (T : XS) (a : Nat) (x : Int32) : (flds 8 T a).set 0 (.int x) = flds 8 (tI T a 0 x) a := by simp [flds, xI_tI, frx_tI]
theorem fi_8_1 (T : XS) (a : Nat) (x : Int32) : (flds 8 T a).set 1 (.int x) = flds 8 (tI T a 1 x) a := by simp [flds, xI_tI, frx_tI]
theorem fi_8_2 (T : XS) (a : Nat) (x : Int32) : (flds 8 T a).set 2 (.int x) = flds 8 (tI T a 2 x) a := by simp [flds, xI_tI, frx_tI]
theorem fi_8_3 (T : XS) (a : Nat) (x : Int32) : (flds 8 T a).set 3 (.int x) = flds 8 (tI T a 3 x) a := by simp [flds, xI_tI, frx_tI]
theorem fi_8_4 (T : XS) (a : Nat) (x : Int32) : (flds 8 T a).set 4 (.int x) = flds 8 (tI T a 4 x) a := by simp [flds, xI_tI, frx_tI]
theorem fr_8_5 (T : XS) (a : Nat) (x : Option Nat) (h : frx (tR T a 5 x) a 5 = x) : (flds 8 T a).set 5 (va_rf x) = flds 8 (tR T a 5 x) a := by
  simp only [flds, List.set, h, xI_tR]
  try simp [frx_tR]
theorem fr_8_6 (T : XS) (a : Nat) (x : Option Nat) (h : frx (tR T a 6 x) a 6 = x) : (flds 8 T a).set 6 (va_rf x) = flds 8 (tR T a 6 x) a := by
  simp only [flds, List.set, h, xI_tR]
  try simp [frx_tR]
theorem fr_8_7 (T : XS) (a : Nat) (x : Option Nat) (h : frx (tR T a 7 x) a 7 = x) : (flds 8 T a).set 7 (va_rf x) = flds 8 (tR T a 7 x) a := by
  simp only [flds, List.set, h, xI_tR]
  try simp [frx_tR]
theorem fr_8_8 (T : XS) (a : Nat) (x : Option Nat) (h : frx (tR T a 8 x) a 8 = x) : (flds 8 T a).set 8 (va_rf x) = flds 8 (tR T a 8 x) a := by
  simp only [flds, List.set, h, xI_tR]
  try simp [frx_tR]
theorem fr_8_9 (T : XS) (a : Nat) (x : Option Nat) (h : frx (tR T a 9 x) a 9 = x) : (flds 8 T a).set 9 (va_rf x) = flds 8 (tR T a 9 x) a := by
  simp only [flds, List.set, h, xI_tR]
  try simp [frx_tR]
theorem fr_8_10 (T : XS) (a : Nat) (x : Option Nat) (h : frx (tR T a 10 x) a 10 = x) : (flds 8 T a).set 10 (va_rf x) = flds 8 (tR T a 10 x) a := by
  simp only [flds, List.set, h, xI_tR]
  try simp [frx_tR]
theorem fr_9_0 (T : XS) (a : Nat) (x : Option Nat) (h : frx (tR T a 0 x) a 0 = x) : (flds 9 T a).set 0 (va_rf x) = flds 9 (tR T a 0 x) a := by
  simp only [flds, List.set, h, xI_tR]
  try simp [frx_tR]
theorem fr_9_1 (T : XS) (a : Nat) (x : Option Nat) (h : frx (tR T a 1 x) a 1 = x) : (flds 9 T a).set 1 (va_rf x) = flds 9 (tR T a 1 x) a := by
  simp only [flds, List.set, h, xI_tR]
  try simp [frx_tR]
theorem fr_9_2 (T : XS) (a : Nat) (x : Option Nat) (h : frx (tR T a 2 x) a 2 = x) : (flds 9 T a).set 2 (va_rf x) = flds 9 (tR T a 2 x) a := by
  simp only [flds, List.set, h, xI_tR]
  try simp [frx_tR]
theorem fr_9_3 (T : XS) (a : Nat) (x : Option Nat) (h : frx (tR T a 3 x) a 3 = x) : (flds 9 T a).set 3 (va_rf x) = flds 9 (tR T a 3 x) a := by
  simp only [flds, List.set, h, xI_tR]
  try simp [frx_tR]
theorem fi_9_4 (T : XS) (a : Nat) (x : Int32) : (flds 9 T a).set 4 (.int x) = flds 9 (tI T a 4 x) a := by simp [flds, xI_tI, frx_tI]
theorem fr_10_0 (T : XS) (a : Nat) (x : Option Nat) (h : frx (tR T a 0 x) a 0 = x) : (flds 10 T a).set 0 (va_rf x) = flds 10 (tR T a 0 x) a := by
  simp only [flds, List.set, h, xI_tR]
  try simp [frx_tR]
theorem fi_10_1 (T : XS) (a : Nat) (x : Int32) : (flds 10 T a).set 1 (.int x) = flds 10 (tI T a 1 x) a := by simp [flds, xI_tI, frx_tI]
theorem fi_10_2 (T : XS) (a : Nat) (x : Int32) : (flds 10 T a).set 2 (.int x) = flds 10 (tI T a 2 x) a := by simp [flds, xI_tI, frx_tI]
theorem fi_10_3 (T : XS) (a : Nat) (x : Int32) : (flds 10 T a).set 3 (.int x) = flds 10 (tI T a 3 x) a := by simp [flds, xI_tI, frx_tI]
theorem fi_10_4 (T : XS) (a : Nat) (x : Int32) : (flds 10 T a).set 4 (.int x) = flds 10 (tI T a 4 x) a := by simp [flds, xI_tI, frx_tI]
theorem fi_10_5 (T : XS) (a : Nat) (x : Int32) : (flds 10 T a).set 5 (.int x) = flds 10 (tI T a 5 x) a := by simp [flds, xI_tI, frx_tI]
theorem fi_10_6 (T : XS) (a : Nat) (x : Int32) : (flds 10 T a).set 6 (.int x) = flds 10 (tI T a 6 x) a := by simp [flds, xI_tI, frx_tI]
theorem fi_10_7 (T : XS) (a : Nat) (x : Int32) : (flds 10 T a).set 7 (.int x) = flds 10 (tI T a 7 x) a := by simp [flds, xI_tI, frx_tI]
theorem fr_11_0 (T : XS) (a : Nat) (x : Option Nat) (h : frx (tR T a 0 x) a 0 = x) : (flds 11 T a).set 0 (va_rf x) = flds 11 (tR T a 0 x) a := by
  simp only [flds, List.set, h, xI_tR]
  try simp [frx_tR]
theorem fi_11_1 (T : XS) (a : Nat) (x : Int32) : (flds 11 T a).set 1 (.int x) = flds 11 (tI T a 1 x) a := by simp [flds, xI_tI, frx_tI]
theorem fi_11_2 (T : XS) (a : Nat) (x : Int32) : (flds 11 T a).set 2 (.int x) = flds 11 (tI T a 2 x) a := by simp [flds, xI_tI, frx_tI]
theorem fr_12_0 (T : XS) (a : Nat) (x : Option Nat) (h : frx (tR T a 0 x) a 0 = x) : (flds 12 T a).set 0 (va_rf x) = flds 12 (tR T a 0 x) a := by
  simp only [flds, List.set, h, xI_tR]
  try simp [frx_tR]
theorem fi_12_1 (T : XS) (a : Nat) (x : Int32) : (flds 12 T a).set 1 (.int x) = flds 12 (tI T a 1 x) a := by simp [flds, xI_tI, frx_tI]
theorem fi_12_2 (T : XS) (a : Nat) (x : Int32) : (flds 12 T a).set 2 (.int x) = flds 12 (tI T a 2 x) a := by simp [flds, xI_tI, frx_tI]
theorem fi_12_3 (T : XS) (a : Nat) (x : Int32) : (flds 12 T a).set 3 (.int x) = flds 12 (tI T a 3 x) a := by simp [flds, xI_tI, frx_tI]
theorem fr_12_4 (T : XS) (a : Nat) (x : Option Nat) (h : frx (tR T a 4 x) a 4 = x) : (flds 12 T a).set 4 (va_rf x) = flds 12 (tR T a 4 x) a := by
  simp only [flds, List.set, h, xI_tR]
  try simp [frx_tR]
theorem fr_12_5 (T : XS) (a : Nat) (x : Option Nat) (h : frx (tR T a 5 x) a 5 = x) : (flds 12 T a).set 5 (va_rf x) = flds 12 (tR T a 5 x) a := by
  simp only [flds, List.set, h, xI_tR]
  try simp [frx_tR]
theorem fr_12_6 (T : XS) (a : Nat) (x : Option Nat) (h : frx (tR T a 6 x) a 6 = x) : (flds 12 T a).set 6 (va_rf x) = flds 12 (tR T a 6 x) a := by
  simp only [flds, List.set, h, xI_tR]
  try simp [frx_tR]
theorem fr_12_7 (T : XS) (a : Nat) (x : Option Nat) (h : frx (tR T a 7 x) a 7 = x) : (flds 12 T a).set 7 (va_rf x) = flds 12 (tR T a 7 x) a := by
  simp only [flds, List.set, h, xI_tR]
  try simp [frx_tR]
theorem fr_12_8 (T : XS) (a : Nat) (x : Option Nat) (h : frx (tR T a 8 x) a 8 = x) : (flds 12 T a).set 8 (va_rf x) = flds 12 (tR T a 8 x) a := by
  simp only [flds, List.set, h, xI_tR]
  try simp [frx_tR]
theorem fr_12_9 (T : XS) (a : Nat) (x : Option Nat) (h : frx (tR T a 9 x) a 9 = x) : (flds 12 T a).set 9 (va_rf x) = flds 12 (tR T a 9 x) a := by
  simp only [flds, List.set, h, xI_tR]
  try simp [frx_tR]
theorem fr_12_10 (T : XS) (a : Nat) (x : Option Nat) (h : frx (tR T a 10 x) a 10 = x) : (flds 12 T a).set 10 (va_rf x) = flds 12 (tR T a 10 x) a := by
  simp only [flds, List.set, h, xI_tR]
  try simp [frx_tR]
theorem fr_12_11 (T : XS) (a : Nat) (x : Option Nat) (h : frx (tR T a 11 x) a 11 = x) : (flds 12 T a).set 11 (va_rf x) = flds 12 (tR T a 11 x) a := by
  simp only [flds, List.set, h, xI_tR]
  try simp [frx_tR]
theorem fr_12_12 (T : XS) (a : Nat) (x : Option Nat) (h : frx (tR T a 12 x) a 12 = x) : (flds 12 T a).set 12 (va_rf x) = flds 12 (tR T a 12 x) a := by
  simp only [flds, List.set, h, xI_tR]
  try simp [frx_tR]
section XY1
variable {c : CX} {T : XS} {a : Nat}
theorem x_setI {ci k : Nat} {x : Int32} {l : List Value} (ho : ob T a ci) (hc : 2 ≤ ci ∧ ci ≤ 12) (hs : l = flds ci (tI T a k x) a) : mj_set (hX c T) a (.inr (ci, l)) = hX c (tI T a k x) := by
  refine x_set ho.1 rfl rfl ?_ (fun b hb => ?_)
  · rw [ob_cell (T := tI T a k x) ho hc, hs]
  · refine cell_ne rfl (fun j => ?_) (fun j => rfl) rfl rfl rfl
    show (if b = a ∧ j = k then x else xI T b j) = _
    rw [if_neg (fun q => hb q.1)]
theorem x_setR {ci k : Nat} {x : Option Nat} {l : List Value} (ho : ob T a ci) (hc : 2 ≤ ci ∧ ci ≤ 12) (hs : l = flds ci (tR T a k x) a) : mj_set (hX c T) a (.inr (ci, l)) = hX c (tR T a k x) := by
  refine x_set ho.1 rfl rfl ?_ (fun b hb => ?_)
  · rw [ob_cell (T := tR T a k x) ho hc, hs]
  · refine cell_ne rfl (fun j => rfl) (fun j => ?_) rfl rfl rfl
    have : xR (tR T a k x) b j = xR T b j := if_neg (fun q => hb q.1)
    unfold frx
    rw [this]
theorem x_setW {kd n : Nat} {f : Nat → Int32} (h : ar T a kd n) {x : mj_C} (hx : cellX (tW T a f) a = x) : mj_set (hX c T) a x = hX c (tW T a f) := by
  refine x_set h.1 rfl rfl hx (fun b hb => cell_ne rfl (fun j => rfl) (fun j => rfl) ?_ rfl rfl)
  exact if_neg hb
theorem tW_at (T : XS) (a : Nat) (f : Nat → Int32) : xA (tW T a f) a = f := if_pos rfl
theorem tW_ne (T : XS) {a b : Nat} (f : Nat → Int32) (h : b ≠ a) : xA (tW T a f) b = xA T b := if_neg h
theorem x_setA {n : Nat} {f : Nat → Int32} (h : ar T a 20 n) : mj_set (hX c T) a (.inl (.int, n, .inl f)) = hX c (tW T a f) := x_setW h (by rw [ar_int (T := tW T a f) h, tW_at])
theorem x_setB {n : Nat} {f : Nat → Int32} (h : ar T a 21 n) : mj_set (hX c T) a (.inl (.byte, n, .inl f)) = hX c (tW T a f) := x_setW h (by rw [ar_byte (T := tW T a f) h, tW_at])
theorem tL_at (T : XS) (a j : Nat) (v : Int64) : xL (tL T a j v) a = vp_updL (xL T a) j v := if_pos rfl
theorem x_setL {n j : Nat} {v : Int64} (h : ar T a 22 n) : mj_set (hX c T) a (.inl (.long, n, .inr (.inl (vp_updL (xL T a) j v)))) = hX c (tL T a j v) := by
  refine x_set h.1 rfl rfl ?_ (fun b hb => cell_ne rfl (fun j => rfl) (fun j => rfl) rfl ?_ rfl)
  · rw [ar_long (T := tL T a j v) h, tL_at]
  · exact if_neg hb
theorem tQ_at (T : XS) (a j : Nat) (v : Option Nat) : xQ (tQ T a j v) a = va_up (xQ T a) j v := if_pos rfl
/-- the arrays of objects: kind, class, its number -/
def qn (kd : Nat) : String × Nat := match kd with
  | 23 => ("InsultRow$Standing", 9)
  | 24 => ("InsultRow$Fair", 4)
  | _ => ("InsultRow$Tray", 11)
theorem ar_q {kd n : Nat} (h : ar T a kd n) (hk : kd = 23 ∨ kd = 24 ∨ kd = 25) : cellX T a = .inl (.object (qn kd).1, n, .inr (.inr (.inr (.inr (xQ T a))))) := by
  unfold cellX
  rw [h.2]
  rcases hk with rfl | rfl | rfl <;> rfl
theorem x_setQ {kd n j : Nat} {v : Option Nat} (h : ar T a kd n) (hk : kd = 23 ∨ kd = 24 ∨ kd = 25) : mj_set (hX c T) a (.inl (.object (qn kd).1, n, .inr (.inr (.inr (.inr (va_up (xQ T a) j v)))))) = hX c (tQ T a j v) := by
  refine x_set h.1 rfl rfl ?_ (fun b hb => cell_ne rfl (fun j => rfl) (fun j => rfl) rfl rfl ?_)
  · rw [ar_q (T := tQ T a j v) h hk, tQ_at]
  · exact if_neg hb
theorem tN_cell {kd n z b : Nat} (hb : b ≠ 4 * xn T + 3) : cellX (tN T kd n z) b = cellX T b := by
  have h1 : xS (tN T kd n z) b = xS T b := if_neg hb
  refine cell_ne (by unfold shx; rw [h1]) (fun j => if_neg hb) (fun j => ?_) (funext fun j => if_neg hb) (funext fun j => if_neg hb) (funext fun j => if_neg hb)
  have : xR (tN T kd n z) b j = xR T b j := if_neg hb
  unfold frx
  rw [this]
theorem tN_sh (T : XS) (kd n z : Nat) : shx (tN T kd n z) (4 * xn T + 3) = (kd, n) := by
  unfold shx
  rw [if_neg (by omega)]
  exact if_pos rfl
theorem tN_A (T : XS) (kd n z : Nat) : xA (tN T kd n z) (4 * xn T + 3) = fun _ => 0 := funext fun j => if_pos rfl
theorem tN_L (T : XS) (kd n z : Nat) : xL (tN T kd n z) (4 * xn T + 3) = fun _ => 0 := funext fun j => if_pos rfl
theorem tN_Q (T : XS) (kd n z : Nat) : xQ (tN T kd n z) (4 * xn T + 3) = fun _ => none := funext fun j => if_pos rfl
theorem tN_int (T : XS) (n z : Nat) : cellX (tN T 20 n z) (4 * xn T + 3) = .inl (.int, n, .inl (fun _ => 0)) := by
  unfold cellX; rw [tN_sh, tN_A]; rfl
theorem tN_byte (T : XS) (n z : Nat) : cellX (tN T 21 n z) (4 * xn T + 3) = .inl (.byte, n, .inl (fun _ => 0)) := by
  unfold cellX; rw [tN_sh, tN_A]; rfl
theorem tN_long (T : XS) (n z : Nat) : cellX (tN T 22 n z) (4 * xn T + 3) = .inl (.long, n, .inr (.inl (fun _ => 0))) := by
  unfold cellX; rw [tN_sh, tN_L]; rfl
theorem tN_q (T : XS) {kd : Nat} (n z : Nat) (hk : kd = 23 ∨ kd = 24 ∨ kd = 25) : cellX (tN T kd n z) (4 * xn T + 3) = .inl (.object (qn kd).1, n, .inr (.inr (.inr (.inr (fun _ => none))))) := by
  unfold cellX; rw [tN_sh, tN_Q]
  rcases hk with rfl | rfl | rfl <;> rfl
theorem tN_ob (T : XS) (ci z : Nat) (hc : (2 ≤ ci ∧ ci ≤ 12) ∨ ci = 0) : cellX (tN T ci 0 z) (4 * xn T + 3) = .inr (ci, t_df ci) := by
  have e : flds ci (tN T ci 0 z) (4 * xn T + 3) = t_df ci := by
    have h1 : ∀ k, xI (tN T ci 0 z) (4 * xn T + 3) k = 0 := fun k => if_pos rfl
    have h2 : ∀ k, frx (tN T ci 0 z) (4 * xn T + 3) k = none := fun k => by
      unfold frx
      rw [if_neg (by omega)]
      exact if_pos rfl
    rcases hc with ⟨q1, q2⟩ | rfl
    · have : ci = 2 ∨ ci = 3 ∨ ci = 4 ∨ ci = 5 ∨ ci = 6 ∨ ci = 7 ∨ ci = 8 ∨ ci = 9 ∨ ci = 10 ∨ ci = 11 ∨ ci = 12 := by omega
      rcases this with rfl | rfl | rfl | rfl | rfl | rfl | rfl | rfl | rfl | rfl | rfl <;> simp only [flds, h1, h2] <;> rfl
    · rfl
  unfold cellX
  rw [tN_sh]
  rcases hc with ⟨q1, q2⟩ | rfl
  · have : ci = 2 ∨ ci = 3 ∨ ci = 4 ∨ ci = 5 ∨ ci = 6 ∨ ci = 7 ∨ ci = 8 ∨ ci = 9 ∨ ci = 10 ∨ ci = 11 ∨ ci = 12 := by omega
    rcases this with rfl | rfl | rfl | rfl | rfl | rfl | rfl | rfl | rfl | rfl | rfl <;> exact congrArg _ (congrArg _ e)
  · exact congrArg _ (congrArg _ e)
theorem x_nx (hR : c.2.2.2.1.length = 18) : mj_nx (cP c) (hX c T) = 4 * xn T + 3 := by
  unfold mj_nx hX
  simp only [List.length_map, List.length_range, hR]
  rw [if_neg (show ¬ 57 < mj_n1 (cP c) by exact Nat.lt_irrefl 57), if_neg (show ¬ 18 < mj_n2 (cP c) by exact Nat.lt_irrefl 18)]
theorem x_new {x : mj_C} {kd n z : Nat} (hR : c.2.2.2.1.length = 18) (hx : cellX (tN T kd n z) (4 * xn T + 3) = x) : mj_new (cP c) (hX c T) x z = hX c (tN T kd n z) := by
  unfold mj_new hX
  simp only [List.length_map, List.length_range, hR]
  rw [if_neg (show ¬ 57 < mj_n1 (cP c) by exact Nat.lt_irrefl 57), if_neg (show ¬ 18 < mj_n2 (cP c) by exact Nat.lt_irrefl 18)]
  have e1 : (List.range 57).map (fun i => cellX T (4 * i + 1)) = (List.range 57).map (fun i => cellX (tN T kd n z) (4 * i + 1)) := List.map_congr_left (fun j _ => (tN_cell (by omega)).symm)
  have e2 : (List.range (xn T)).map (fun i => cellX T (4 * i + 3)) ++ [x] = (List.range (xn (tN T kd n z))).map (fun i => cellX (tN T kd n z) (4 * i + 3)) := by
    show _ = (List.range (xn T + 1)).map _
    rw [List.range_succ, List.map_append, ← hx]
    congr 1
    exact List.map_congr_left (fun j hj => (tN_cell (by have := List.mem_range.mp hj; omega)).symm)
  rw [e1, e2]
  rfl
end XY1
