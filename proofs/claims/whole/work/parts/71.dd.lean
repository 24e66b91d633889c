/-! The same minor: prices' squares and amounts' squares -/
def p_Dm (F : xM) (t : Nat) : Int → Int → Int := fun i r => if (x_nb t i.toNat : Int) < F 0 3 then (if (x_nb t i.toNat : Int) = r then 1 else 0) else F 2 (3 * r + ((x_nb t i.toNat : Int) - F 0 3))
def p_Dr (F : xM) (p q : Int) (t : Nat) : Int → Int := fun i => if (x_nb t i.toNat : Int) < F 0 3 then 0 else p_du F p q ((x_nb t i.toNat : Int) - F 0 3)
theorem q_det1 (C : Int → Int → Int) : p_det C 1 = C 0 0 := by simp [p_det, p_D, p_dl]
theorem q_det2 (C : Int → Int → Int) : p_det C 2 = C 0 0 * C 1 1 - C 0 1 * C 1 0 := by
  simp [p_det, p_D, p_dl]
  grind
theorem q_det3 (C : Int → Int → Int) : p_det C 3 = C 0 0 * (C 1 1 * C 2 2 - C 1 2 * C 2 1) - C 0 1 * (C 1 0 * C 2 2 - C 1 2 * C 2 0) + C 0 2 * (C 1 0 * C 2 1 - C 1 1 * C 2 0) := by
  simp [p_det, p_D, p_dl]
  grind
theorem q_det4 (C : Int → Int → Int) : p_det C 4 = C 0 0 * (C 1 1 * (C 2 2 * C 3 3 - C 2 3 * C 3 2) - C 1 2 * (C 2 1 * C 3 3 - C 2 3 * C 3 1) + C 1 3 * (C 2 1 * C 3 2 - C 2 2 * C 3 1)) - C 0 1 * (C 1 0 * (C 2 2 * C 3 3 - C 2 3 * C 3 2) - C 1 2 * (C 2 0 * C 3 3 - C 2 3 * C 3 0) + C 1 3 * (C 2 0 * C 3 2 - C 2 2 * C 3 0)) + C 0 2 * (C 1 0 * (C 2 1 * C 3 3 - C 2 3 * C 3 1) - C 1 1 * (C 2 0 * C 3 3 - C 2 3 * C 3 0) + C 1 3 * (C 2 0 * C 3 1 - C 2 1 * C 3 0)) - C 0 3 * (C 1 0 * (C 2 1 * C 3 2 - C 2 2 * C 3 1) - C 1 1 * (C 2 0 * C 3 2 - C 2 2 * C 3 0) + C 1 2 * (C 2 0 * C 3 1 - C 2 1 * C 3 0)) := by
  simp [p_det, p_D, p_dl]
  grind
theorem q_dd_1_1_1 {F : xM} (hR : F 0 3 = 1) : p_det (p_Dm F 2) 1 = p_det (p_M F 1) 1 := by
  rw [q_det1, q_det1]
  simp [p_Dm, p_M, p_ce, hR, show x_nb 1 0 = 0 from by decide, show x_nb 2 0 = 1 from by decide]
  try grind
theorem q_dd_1_1_2 {F : xM} (hR : F 0 3 = 1) : p_det (p_Dm F 1) 1 = p_det (p_M F 2) 1 := by
  rw [q_det1, q_det1]
  simp [p_Dm, p_M, p_ce, hR, show x_nb 2 0 = 1 from by decide, show x_nb 1 0 = 0 from by decide]
  try grind
theorem q_dd_1_2_3 {F : xM} (hR : F 0 3 = 1) : p_det (p_Dm F 4) 1 = - p_det (p_M F 3) 2 := by
  rw [q_det1, q_det2]
  simp [p_Dm, p_M, p_ce, hR, show x_nb 3 0 = 0 from by decide, show x_nb 3 1 = 1 from by decide, show x_nb 4 0 = 2 from by decide]
  try grind
theorem q_dd_1_2_5 {F : xM} (hR : F 0 3 = 1) : p_det (p_Dm F 2) 1 = p_det (p_M F 5) 2 := by
  rw [q_det1, q_det2]
  simp [p_Dm, p_M, p_ce, hR, show x_nb 5 0 = 0 from by decide, show x_nb 5 1 = 2 from by decide, show x_nb 2 0 = 1 from by decide]
  try grind
theorem q_dd_1_2_6 {F : xM} (hR : F 0 3 = 1) : p_det (p_Dm F 1) 1 = p_det (p_M F 6) 2 := by
  rw [q_det1, q_det2]
  simp [p_Dm, p_M, p_ce, hR, show x_nb 6 0 = 1 from by decide, show x_nb 6 1 = 2 from by decide, show x_nb 1 0 = 0 from by decide]
  try grind
theorem q_dd_1_3_7 {F : xM} (hR : F 0 3 = 1) : p_det (p_Dm F 8) 1 = p_det (p_M F 7) 3 := by
  rw [q_det1, q_det3]
  simp [p_Dm, p_M, p_ce, hR, show x_nb 7 0 = 0 from by decide, show x_nb 7 1 = 1 from by decide, show x_nb 7 2 = 2 from by decide, show x_nb 8 0 = 3 from by decide]
  try grind
theorem q_dd_1_3_11 {F : xM} (hR : F 0 3 = 1) : p_det (p_Dm F 4) 1 = - p_det (p_M F 11) 3 := by
  rw [q_det1, q_det3]
  simp [p_Dm, p_M, p_ce, hR, show x_nb 11 0 = 0 from by decide, show x_nb 11 1 = 1 from by decide, show x_nb 11 2 = 3 from by decide, show x_nb 4 0 = 2 from by decide]
  try grind
theorem q_dd_1_3_13 {F : xM} (hR : F 0 3 = 1) : p_det (p_Dm F 2) 1 = p_det (p_M F 13) 3 := by
  rw [q_det1, q_det3]
  simp [p_Dm, p_M, p_ce, hR, show x_nb 13 0 = 0 from by decide, show x_nb 13 1 = 2 from by decide, show x_nb 13 2 = 3 from by decide, show x_nb 2 0 = 1 from by decide]
  try grind
theorem q_dd_1_3_14 {F : xM} (hR : F 0 3 = 1) : p_det (p_Dm F 1) 1 = p_det (p_M F 14) 3 := by
  rw [q_det1, q_det3]
  simp [p_Dm, p_M, p_ce, hR, show x_nb 14 0 = 1 from by decide, show x_nb 14 1 = 2 from by decide, show x_nb 14 2 = 3 from by decide, show x_nb 1 0 = 0 from by decide]
  try grind
theorem q_dd_2_1_1 {F : xM} (hR : F 0 3 = 2) : p_det (p_Dm F 6) 2 = - p_det (p_M F 1) 1 := by
  rw [q_det2, q_det1]
  simp [p_Dm, p_M, p_ce, hR, show x_nb 1 0 = 0 from by decide, show x_nb 6 0 = 1 from by decide, show x_nb 6 1 = 2 from by decide]
  try grind
theorem q_dd_2_1_2 {F : xM} (hR : F 0 3 = 2) : p_det (p_Dm F 5) 2 = p_det (p_M F 2) 1 := by
  rw [q_det2, q_det1]
  simp [p_Dm, p_M, p_ce, hR, show x_nb 2 0 = 1 from by decide, show x_nb 5 0 = 0 from by decide, show x_nb 5 1 = 2 from by decide]
  try grind
theorem q_dd_2_1_4 {F : xM} (hR : F 0 3 = 2) : p_det (p_Dm F 3) 2 = p_det (p_M F 4) 1 := by
  rw [q_det2, q_det1]
  simp [p_Dm, p_M, p_ce, hR, show x_nb 4 0 = 2 from by decide, show x_nb 3 0 = 0 from by decide, show x_nb 3 1 = 1 from by decide]
  try grind
theorem q_dd_2_2_3 {F : xM} (hR : F 0 3 = 2) : p_det (p_Dm F 12) 2 = p_det (p_M F 3) 2 := by
  rw [q_det2, q_det2]
  simp [p_Dm, p_M, p_ce, hR, show x_nb 3 0 = 0 from by decide, show x_nb 3 1 = 1 from by decide, show x_nb 12 0 = 2 from by decide, show x_nb 12 1 = 3 from by decide]
  try grind
theorem q_dd_2_2_5 {F : xM} (hR : F 0 3 = 2) : p_det (p_Dm F 10) 2 = p_det (p_M F 5) 2 := by
  rw [q_det2, q_det2]
  simp [p_Dm, p_M, p_ce, hR, show x_nb 5 0 = 0 from by decide, show x_nb 5 1 = 2 from by decide, show x_nb 10 0 = 1 from by decide, show x_nb 10 1 = 3 from by decide]
  try grind
theorem q_dd_2_2_6 {F : xM} (hR : F 0 3 = 2) : p_det (p_Dm F 9) 2 = - p_det (p_M F 6) 2 := by
  rw [q_det2, q_det2]
  simp [p_Dm, p_M, p_ce, hR, show x_nb 6 0 = 1 from by decide, show x_nb 6 1 = 2 from by decide, show x_nb 9 0 = 0 from by decide, show x_nb 9 1 = 3 from by decide]
  try grind
theorem q_dd_2_2_9 {F : xM} (hR : F 0 3 = 2) : p_det (p_Dm F 6) 2 = - p_det (p_M F 9) 2 := by
  rw [q_det2, q_det2]
  simp [p_Dm, p_M, p_ce, hR, show x_nb 9 0 = 0 from by decide, show x_nb 9 1 = 3 from by decide, show x_nb 6 0 = 1 from by decide, show x_nb 6 1 = 2 from by decide]
  try grind
theorem q_dd_2_2_10 {F : xM} (hR : F 0 3 = 2) : p_det (p_Dm F 5) 2 = p_det (p_M F 10) 2 := by
  rw [q_det2, q_det2]
  simp [p_Dm, p_M, p_ce, hR, show x_nb 10 0 = 1 from by decide, show x_nb 10 1 = 3 from by decide, show x_nb 5 0 = 0 from by decide, show x_nb 5 1 = 2 from by decide]
  try grind
theorem q_dd_2_2_12 {F : xM} (hR : F 0 3 = 2) : p_det (p_Dm F 3) 2 = p_det (p_M F 12) 2 := by
  rw [q_det2, q_det2]
  simp [p_Dm, p_M, p_ce, hR, show x_nb 12 0 = 2 from by decide, show x_nb 12 1 = 3 from by decide, show x_nb 3 0 = 0 from by decide, show x_nb 3 1 = 1 from by decide]
  try grind
theorem q_dd_2_3_7 {F : xM} (hR : F 0 3 = 2) : p_det (p_Dm F 24) 2 = p_det (p_M F 7) 3 := by
  rw [q_det2, q_det3]
  simp [p_Dm, p_M, p_ce, hR, show x_nb 7 0 = 0 from by decide, show x_nb 7 1 = 1 from by decide, show x_nb 7 2 = 2 from by decide, show x_nb 24 0 = 3 from by decide, show x_nb 24 1 = 4 from by decide]
  try grind
theorem q_dd_2_3_11 {F : xM} (hR : F 0 3 = 2) : p_det (p_Dm F 20) 2 = - p_det (p_M F 11) 3 := by
  rw [q_det2, q_det3]
  simp [p_Dm, p_M, p_ce, hR, show x_nb 11 0 = 0 from by decide, show x_nb 11 1 = 1 from by decide, show x_nb 11 2 = 3 from by decide, show x_nb 20 0 = 2 from by decide, show x_nb 20 1 = 4 from by decide]
  try grind
theorem q_dd_2_3_13 {F : xM} (hR : F 0 3 = 2) : p_det (p_Dm F 18) 2 = - p_det (p_M F 13) 3 := by
  rw [q_det2, q_det3]
  simp [p_Dm, p_M, p_ce, hR, show x_nb 13 0 = 0 from by decide, show x_nb 13 1 = 2 from by decide, show x_nb 13 2 = 3 from by decide, show x_nb 18 0 = 1 from by decide, show x_nb 18 1 = 4 from by decide]
  try grind
theorem q_dd_2_3_14 {F : xM} (hR : F 0 3 = 2) : p_det (p_Dm F 17) 2 = p_det (p_M F 14) 3 := by
  rw [q_det2, q_det3]
  simp [p_Dm, p_M, p_ce, hR, show x_nb 14 0 = 1 from by decide, show x_nb 14 1 = 2 from by decide, show x_nb 14 2 = 3 from by decide, show x_nb 17 0 = 0 from by decide, show x_nb 17 1 = 4 from by decide]
  try grind
theorem q_dd_2_3_19 {F : xM} (hR : F 0 3 = 2) : p_det (p_Dm F 12) 2 = p_det (p_M F 19) 3 := by
  rw [q_det2, q_det3]
  simp [p_Dm, p_M, p_ce, hR, show x_nb 19 0 = 0 from by decide, show x_nb 19 1 = 1 from by decide, show x_nb 19 2 = 4 from by decide, show x_nb 12 0 = 2 from by decide, show x_nb 12 1 = 3 from by decide]
  try grind
theorem q_dd_2_3_21 {F : xM} (hR : F 0 3 = 2) : p_det (p_Dm F 10) 2 = p_det (p_M F 21) 3 := by
  rw [q_det2, q_det3]
  simp [p_Dm, p_M, p_ce, hR, show x_nb 21 0 = 0 from by decide, show x_nb 21 1 = 2 from by decide, show x_nb 21 2 = 4 from by decide, show x_nb 10 0 = 1 from by decide, show x_nb 10 1 = 3 from by decide]
  try grind
theorem q_dd_2_3_22 {F : xM} (hR : F 0 3 = 2) : p_det (p_Dm F 9) 2 = - p_det (p_M F 22) 3 := by
  rw [q_det2, q_det3]
  simp [p_Dm, p_M, p_ce, hR, show x_nb 22 0 = 1 from by decide, show x_nb 22 1 = 2 from by decide, show x_nb 22 2 = 4 from by decide, show x_nb 9 0 = 0 from by decide, show x_nb 9 1 = 3 from by decide]
  try grind
theorem q_dd_2_3_25 {F : xM} (hR : F 0 3 = 2) : p_det (p_Dm F 6) 2 = - p_det (p_M F 25) 3 := by
  rw [q_det2, q_det3]
  simp [p_Dm, p_M, p_ce, hR, show x_nb 25 0 = 0 from by decide, show x_nb 25 1 = 3 from by decide, show x_nb 25 2 = 4 from by decide, show x_nb 6 0 = 1 from by decide, show x_nb 6 1 = 2 from by decide]
  try grind
theorem q_dd_2_3_26 {F : xM} (hR : F 0 3 = 2) : p_det (p_Dm F 5) 2 = p_det (p_M F 26) 3 := by
  rw [q_det2, q_det3]
  simp [p_Dm, p_M, p_ce, hR, show x_nb 26 0 = 1 from by decide, show x_nb 26 1 = 3 from by decide, show x_nb 26 2 = 4 from by decide, show x_nb 5 0 = 0 from by decide, show x_nb 5 1 = 2 from by decide]
  try grind
theorem q_dd_2_3_28 {F : xM} (hR : F 0 3 = 2) : p_det (p_Dm F 3) 2 = p_det (p_M F 28) 3 := by
  rw [q_det2, q_det3]
  simp [p_Dm, p_M, p_ce, hR, show x_nb 28 0 = 2 from by decide, show x_nb 28 1 = 3 from by decide, show x_nb 28 2 = 4 from by decide, show x_nb 3 0 = 0 from by decide, show x_nb 3 1 = 1 from by decide]
  try grind
theorem q_dd_3_1_1 {F : xM} (hR : F 0 3 = 3) : p_det (p_Dm F 14) 3 = p_det (p_M F 1) 1 := by
  rw [q_det3, q_det1]
  simp [p_Dm, p_M, p_ce, hR, show x_nb 1 0 = 0 from by decide, show x_nb 14 0 = 1 from by decide, show x_nb 14 1 = 2 from by decide, show x_nb 14 2 = 3 from by decide]
  try grind
theorem q_dd_3_1_2 {F : xM} (hR : F 0 3 = 3) : p_det (p_Dm F 13) 3 = - p_det (p_M F 2) 1 := by
  rw [q_det3, q_det1]
  simp [p_Dm, p_M, p_ce, hR, show x_nb 2 0 = 1 from by decide, show x_nb 13 0 = 0 from by decide, show x_nb 13 1 = 2 from by decide, show x_nb 13 2 = 3 from by decide]
  try grind
theorem q_dd_3_1_4 {F : xM} (hR : F 0 3 = 3) : p_det (p_Dm F 11) 3 = p_det (p_M F 4) 1 := by
  rw [q_det3, q_det1]
  simp [p_Dm, p_M, p_ce, hR, show x_nb 4 0 = 2 from by decide, show x_nb 11 0 = 0 from by decide, show x_nb 11 1 = 1 from by decide, show x_nb 11 2 = 3 from by decide]
  try grind
theorem q_dd_3_1_8 {F : xM} (hR : F 0 3 = 3) : p_det (p_Dm F 7) 3 = p_det (p_M F 8) 1 := by
  rw [q_det3, q_det1]
  simp [p_Dm, p_M, p_ce, hR, show x_nb 8 0 = 3 from by decide, show x_nb 7 0 = 0 from by decide, show x_nb 7 1 = 1 from by decide, show x_nb 7 2 = 2 from by decide]
  try grind
theorem q_dd_3_2_3 {F : xM} (hR : F 0 3 = 3) : p_det (p_Dm F 28) 3 = p_det (p_M F 3) 2 := by
  rw [q_det3, q_det2]
  simp [p_Dm, p_M, p_ce, hR, show x_nb 3 0 = 0 from by decide, show x_nb 3 1 = 1 from by decide, show x_nb 28 0 = 2 from by decide, show x_nb 28 1 = 3 from by decide, show x_nb 28 2 = 4 from by decide]
  try grind
theorem q_dd_3_2_5 {F : xM} (hR : F 0 3 = 3) : p_det (p_Dm F 26) 3 = - p_det (p_M F 5) 2 := by
  rw [q_det3, q_det2]
  simp [p_Dm, p_M, p_ce, hR, show x_nb 5 0 = 0 from by decide, show x_nb 5 1 = 2 from by decide, show x_nb 26 0 = 1 from by decide, show x_nb 26 1 = 3 from by decide, show x_nb 26 2 = 4 from by decide]
  try grind
theorem q_dd_3_2_6 {F : xM} (hR : F 0 3 = 3) : p_det (p_Dm F 25) 3 = p_det (p_M F 6) 2 := by
  rw [q_det3, q_det2]
  simp [p_Dm, p_M, p_ce, hR, show x_nb 6 0 = 1 from by decide, show x_nb 6 1 = 2 from by decide, show x_nb 25 0 = 0 from by decide, show x_nb 25 1 = 3 from by decide, show x_nb 25 2 = 4 from by decide]
  try grind
theorem q_dd_3_2_9 {F : xM} (hR : F 0 3 = 3) : p_det (p_Dm F 22) 3 = - p_det (p_M F 9) 2 := by
  rw [q_det3, q_det2]
  simp [p_Dm, p_M, p_ce, hR, show x_nb 9 0 = 0 from by decide, show x_nb 9 1 = 3 from by decide, show x_nb 22 0 = 1 from by decide, show x_nb 22 1 = 2 from by decide, show x_nb 22 2 = 4 from by decide]
  try grind
theorem q_dd_3_2_10 {F : xM} (hR : F 0 3 = 3) : p_det (p_Dm F 21) 3 = p_det (p_M F 10) 2 := by
  rw [q_det3, q_det2]
  simp [p_Dm, p_M, p_ce, hR, show x_nb 10 0 = 1 from by decide, show x_nb 10 1 = 3 from by decide, show x_nb 21 0 = 0 from by decide, show x_nb 21 1 = 2 from by decide, show x_nb 21 2 = 4 from by decide]
  try grind
theorem q_dd_3_2_12 {F : xM} (hR : F 0 3 = 3) : p_det (p_Dm F 19) 3 = - p_det (p_M F 12) 2 := by
  rw [q_det3, q_det2]
  simp [p_Dm, p_M, p_ce, hR, show x_nb 12 0 = 2 from by decide, show x_nb 12 1 = 3 from by decide, show x_nb 19 0 = 0 from by decide, show x_nb 19 1 = 1 from by decide, show x_nb 19 2 = 4 from by decide]
  try grind
theorem q_dd_3_2_17 {F : xM} (hR : F 0 3 = 3) : p_det (p_Dm F 14) 3 = p_det (p_M F 17) 2 := by
  rw [q_det3, q_det2]
  simp [p_Dm, p_M, p_ce, hR, show x_nb 17 0 = 0 from by decide, show x_nb 17 1 = 4 from by decide, show x_nb 14 0 = 1 from by decide, show x_nb 14 1 = 2 from by decide, show x_nb 14 2 = 3 from by decide]
  try grind
theorem q_dd_3_2_18 {F : xM} (hR : F 0 3 = 3) : p_det (p_Dm F 13) 3 = - p_det (p_M F 18) 2 := by
  rw [q_det3, q_det2]
  simp [p_Dm, p_M, p_ce, hR, show x_nb 18 0 = 1 from by decide, show x_nb 18 1 = 4 from by decide, show x_nb 13 0 = 0 from by decide, show x_nb 13 1 = 2 from by decide, show x_nb 13 2 = 3 from by decide]
  try grind
theorem q_dd_3_2_20 {F : xM} (hR : F 0 3 = 3) : p_det (p_Dm F 11) 3 = p_det (p_M F 20) 2 := by
  rw [q_det3, q_det2]
  simp [p_Dm, p_M, p_ce, hR, show x_nb 20 0 = 2 from by decide, show x_nb 20 1 = 4 from by decide, show x_nb 11 0 = 0 from by decide, show x_nb 11 1 = 1 from by decide, show x_nb 11 2 = 3 from by decide]
  try grind
theorem q_dd_3_2_24 {F : xM} (hR : F 0 3 = 3) : p_det (p_Dm F 7) 3 = p_det (p_M F 24) 2 := by
  rw [q_det3, q_det2]
  simp [p_Dm, p_M, p_ce, hR, show x_nb 24 0 = 3 from by decide, show x_nb 24 1 = 4 from by decide, show x_nb 7 0 = 0 from by decide, show x_nb 7 1 = 1 from by decide, show x_nb 7 2 = 2 from by decide]
  try grind
theorem q_dd_3_3_7 {F : xM} (hR : F 0 3 = 3) : p_det (p_Dm F 56) 3 = p_det (p_M F 7) 3 := by
  rw [q_det3, q_det3]
  simp [p_Dm, p_M, p_ce, hR, show x_nb 7 0 = 0 from by decide, show x_nb 7 1 = 1 from by decide, show x_nb 7 2 = 2 from by decide, show x_nb 56 0 = 3 from by decide, show x_nb 56 1 = 4 from by decide, show x_nb 56 2 = 5 from by decide]
  try grind
theorem q_dd_3_3_11 {F : xM} (hR : F 0 3 = 3) : p_det (p_Dm F 52) 3 = p_det (p_M F 11) 3 := by
  rw [q_det3, q_det3]
  simp [p_Dm, p_M, p_ce, hR, show x_nb 11 0 = 0 from by decide, show x_nb 11 1 = 1 from by decide, show x_nb 11 2 = 3 from by decide, show x_nb 52 0 = 2 from by decide, show x_nb 52 1 = 4 from by decide, show x_nb 52 2 = 5 from by decide]
  try grind
theorem q_dd_3_3_13 {F : xM} (hR : F 0 3 = 3) : p_det (p_Dm F 50) 3 = - p_det (p_M F 13) 3 := by
  rw [q_det3, q_det3]
  simp [p_Dm, p_M, p_ce, hR, show x_nb 13 0 = 0 from by decide, show x_nb 13 1 = 2 from by decide, show x_nb 13 2 = 3 from by decide, show x_nb 50 0 = 1 from by decide, show x_nb 50 1 = 4 from by decide, show x_nb 50 2 = 5 from by decide]
  try grind
theorem q_dd_3_3_14 {F : xM} (hR : F 0 3 = 3) : p_det (p_Dm F 49) 3 = p_det (p_M F 14) 3 := by
  rw [q_det3, q_det3]
  simp [p_Dm, p_M, p_ce, hR, show x_nb 14 0 = 1 from by decide, show x_nb 14 1 = 2 from by decide, show x_nb 14 2 = 3 from by decide, show x_nb 49 0 = 0 from by decide, show x_nb 49 1 = 4 from by decide, show x_nb 49 2 = 5 from by decide]
  try grind
theorem q_dd_3_3_19 {F : xM} (hR : F 0 3 = 3) : p_det (p_Dm F 44) 3 = - p_det (p_M F 19) 3 := by
  rw [q_det3, q_det3]
  simp [p_Dm, p_M, p_ce, hR, show x_nb 19 0 = 0 from by decide, show x_nb 19 1 = 1 from by decide, show x_nb 19 2 = 4 from by decide, show x_nb 44 0 = 2 from by decide, show x_nb 44 1 = 3 from by decide, show x_nb 44 2 = 5 from by decide]
  try grind
theorem q_dd_3_3_21 {F : xM} (hR : F 0 3 = 3) : p_det (p_Dm F 42) 3 = p_det (p_M F 21) 3 := by
  rw [q_det3, q_det3]
  simp [p_Dm, p_M, p_ce, hR, show x_nb 21 0 = 0 from by decide, show x_nb 21 1 = 2 from by decide, show x_nb 21 2 = 4 from by decide, show x_nb 42 0 = 1 from by decide, show x_nb 42 1 = 3 from by decide, show x_nb 42 2 = 5 from by decide]
  try grind
theorem q_dd_3_3_22 {F : xM} (hR : F 0 3 = 3) : p_det (p_Dm F 41) 3 = - p_det (p_M F 22) 3 := by
  rw [q_det3, q_det3]
  simp [p_Dm, p_M, p_ce, hR, show x_nb 22 0 = 1 from by decide, show x_nb 22 1 = 2 from by decide, show x_nb 22 2 = 4 from by decide, show x_nb 41 0 = 0 from by decide, show x_nb 41 1 = 3 from by decide, show x_nb 41 2 = 5 from by decide]
  try grind
theorem q_dd_3_3_25 {F : xM} (hR : F 0 3 = 3) : p_det (p_Dm F 38) 3 = p_det (p_M F 25) 3 := by
  rw [q_det3, q_det3]
  simp [p_Dm, p_M, p_ce, hR, show x_nb 25 0 = 0 from by decide, show x_nb 25 1 = 3 from by decide, show x_nb 25 2 = 4 from by decide, show x_nb 38 0 = 1 from by decide, show x_nb 38 1 = 2 from by decide, show x_nb 38 2 = 5 from by decide]
  try grind
theorem q_dd_3_3_26 {F : xM} (hR : F 0 3 = 3) : p_det (p_Dm F 37) 3 = - p_det (p_M F 26) 3 := by
  rw [q_det3, q_det3]
  simp [p_Dm, p_M, p_ce, hR, show x_nb 26 0 = 1 from by decide, show x_nb 26 1 = 3 from by decide, show x_nb 26 2 = 4 from by decide, show x_nb 37 0 = 0 from by decide, show x_nb 37 1 = 2 from by decide, show x_nb 37 2 = 5 from by decide]
  try grind
theorem q_dd_3_3_28 {F : xM} (hR : F 0 3 = 3) : p_det (p_Dm F 35) 3 = p_det (p_M F 28) 3 := by
  rw [q_det3, q_det3]
  simp [p_Dm, p_M, p_ce, hR, show x_nb 28 0 = 2 from by decide, show x_nb 28 1 = 3 from by decide, show x_nb 28 2 = 4 from by decide, show x_nb 35 0 = 0 from by decide, show x_nb 35 1 = 1 from by decide, show x_nb 35 2 = 5 from by decide]
  try grind
theorem q_dd_3_3_35 {F : xM} (hR : F 0 3 = 3) : p_det (p_Dm F 28) 3 = p_det (p_M F 35) 3 := by
  rw [q_det3, q_det3]
  simp [p_Dm, p_M, p_ce, hR, show x_nb 35 0 = 0 from by decide, show x_nb 35 1 = 1 from by decide, show x_nb 35 2 = 5 from by decide, show x_nb 28 0 = 2 from by decide, show x_nb 28 1 = 3 from by decide, show x_nb 28 2 = 4 from by decide]
  try grind
theorem q_dd_3_3_37 {F : xM} (hR : F 0 3 = 3) : p_det (p_Dm F 26) 3 = - p_det (p_M F 37) 3 := by
  rw [q_det3, q_det3]
  simp [p_Dm, p_M, p_ce, hR, show x_nb 37 0 = 0 from by decide, show x_nb 37 1 = 2 from by decide, show x_nb 37 2 = 5 from by decide, show x_nb 26 0 = 1 from by decide, show x_nb 26 1 = 3 from by decide, show x_nb 26 2 = 4 from by decide]
  try grind
theorem q_dd_3_3_38 {F : xM} (hR : F 0 3 = 3) : p_det (p_Dm F 25) 3 = p_det (p_M F 38) 3 := by
  rw [q_det3, q_det3]
  simp [p_Dm, p_M, p_ce, hR, show x_nb 38 0 = 1 from by decide, show x_nb 38 1 = 2 from by decide, show x_nb 38 2 = 5 from by decide, show x_nb 25 0 = 0 from by decide, show x_nb 25 1 = 3 from by decide, show x_nb 25 2 = 4 from by decide]
  try grind
theorem q_dd_3_3_41 {F : xM} (hR : F 0 3 = 3) : p_det (p_Dm F 22) 3 = - p_det (p_M F 41) 3 := by
  rw [q_det3, q_det3]
  simp [p_Dm, p_M, p_ce, hR, show x_nb 41 0 = 0 from by decide, show x_nb 41 1 = 3 from by decide, show x_nb 41 2 = 5 from by decide, show x_nb 22 0 = 1 from by decide, show x_nb 22 1 = 2 from by decide, show x_nb 22 2 = 4 from by decide]
  try grind
theorem q_dd_3_3_42 {F : xM} (hR : F 0 3 = 3) : p_det (p_Dm F 21) 3 = p_det (p_M F 42) 3 := by
  rw [q_det3, q_det3]
  simp [p_Dm, p_M, p_ce, hR, show x_nb 42 0 = 1 from by decide, show x_nb 42 1 = 3 from by decide, show x_nb 42 2 = 5 from by decide, show x_nb 21 0 = 0 from by decide, show x_nb 21 1 = 2 from by decide, show x_nb 21 2 = 4 from by decide]
  try grind
theorem q_dd_3_3_44 {F : xM} (hR : F 0 3 = 3) : p_det (p_Dm F 19) 3 = - p_det (p_M F 44) 3 := by
  rw [q_det3, q_det3]
  simp [p_Dm, p_M, p_ce, hR, show x_nb 44 0 = 2 from by decide, show x_nb 44 1 = 3 from by decide, show x_nb 44 2 = 5 from by decide, show x_nb 19 0 = 0 from by decide, show x_nb 19 1 = 1 from by decide, show x_nb 19 2 = 4 from by decide]
  try grind
theorem q_dd_3_3_49 {F : xM} (hR : F 0 3 = 3) : p_det (p_Dm F 14) 3 = p_det (p_M F 49) 3 := by
  rw [q_det3, q_det3]
  simp [p_Dm, p_M, p_ce, hR, show x_nb 49 0 = 0 from by decide, show x_nb 49 1 = 4 from by decide, show x_nb 49 2 = 5 from by decide, show x_nb 14 0 = 1 from by decide, show x_nb 14 1 = 2 from by decide, show x_nb 14 2 = 3 from by decide]
  try grind
theorem q_dd_3_3_50 {F : xM} (hR : F 0 3 = 3) : p_det (p_Dm F 13) 3 = - p_det (p_M F 50) 3 := by
  rw [q_det3, q_det3]
  simp [p_Dm, p_M, p_ce, hR, show x_nb 50 0 = 1 from by decide, show x_nb 50 1 = 4 from by decide, show x_nb 50 2 = 5 from by decide, show x_nb 13 0 = 0 from by decide, show x_nb 13 1 = 2 from by decide, show x_nb 13 2 = 3 from by decide]
  try grind
theorem q_dd_3_3_52 {F : xM} (hR : F 0 3 = 3) : p_det (p_Dm F 11) 3 = p_det (p_M F 52) 3 := by
  rw [q_det3, q_det3]
  simp [p_Dm, p_M, p_ce, hR, show x_nb 52 0 = 2 from by decide, show x_nb 52 1 = 4 from by decide, show x_nb 52 2 = 5 from by decide, show x_nb 11 0 = 0 from by decide, show x_nb 11 1 = 1 from by decide, show x_nb 11 2 = 3 from by decide]
  try grind
theorem q_dd_3_3_56 {F : xM} (hR : F 0 3 = 3) : p_det (p_Dm F 7) 3 = p_det (p_M F 56) 3 := by
  rw [q_det3, q_det3]
  simp [p_Dm, p_M, p_ce, hR, show x_nb 56 0 = 3 from by decide, show x_nb 56 1 = 4 from by decide, show x_nb 56 2 = 5 from by decide, show x_nb 7 0 = 0 from by decide, show x_nb 7 1 = 1 from by decide, show x_nb 7 2 = 2 from by decide]
  try grind
theorem q_dd_4_1_1 {F : xM} (hR : F 0 3 = 4) : p_det (p_Dm F 30) 4 = - p_det (p_M F 1) 1 := by
  rw [q_det4, q_det1]
  simp [p_Dm, p_M, p_ce, hR, show x_nb 1 0 = 0 from by decide, show x_nb 30 0 = 1 from by decide, show x_nb 30 1 = 2 from by decide, show x_nb 30 2 = 3 from by decide, show x_nb 30 3 = 4 from by decide]
  try grind
theorem q_dd_4_1_2 {F : xM} (hR : F 0 3 = 4) : p_det (p_Dm F 29) 4 = p_det (p_M F 2) 1 := by
  rw [q_det4, q_det1]
  simp [p_Dm, p_M, p_ce, hR, show x_nb 2 0 = 1 from by decide, show x_nb 29 0 = 0 from by decide, show x_nb 29 1 = 2 from by decide, show x_nb 29 2 = 3 from by decide, show x_nb 29 3 = 4 from by decide]
  try grind
theorem q_dd_4_1_4 {F : xM} (hR : F 0 3 = 4) : p_det (p_Dm F 27) 4 = - p_det (p_M F 4) 1 := by
  rw [q_det4, q_det1]
  simp [p_Dm, p_M, p_ce, hR, show x_nb 4 0 = 2 from by decide, show x_nb 27 0 = 0 from by decide, show x_nb 27 1 = 1 from by decide, show x_nb 27 2 = 3 from by decide, show x_nb 27 3 = 4 from by decide]
  try grind
theorem q_dd_4_1_8 {F : xM} (hR : F 0 3 = 4) : p_det (p_Dm F 23) 4 = p_det (p_M F 8) 1 := by
  rw [q_det4, q_det1]
  simp [p_Dm, p_M, p_ce, hR, show x_nb 8 0 = 3 from by decide, show x_nb 23 0 = 0 from by decide, show x_nb 23 1 = 1 from by decide, show x_nb 23 2 = 2 from by decide, show x_nb 23 3 = 4 from by decide]
  try grind
theorem q_dd_4_1_16 {F : xM} (hR : F 0 3 = 4) : p_det (p_Dm F 15) 4 = p_det (p_M F 16) 1 := by
  rw [q_det4, q_det1]
  simp [p_Dm, p_M, p_ce, hR, show x_nb 16 0 = 4 from by decide, show x_nb 15 0 = 0 from by decide, show x_nb 15 1 = 1 from by decide, show x_nb 15 2 = 2 from by decide, show x_nb 15 3 = 3 from by decide]
  try grind
theorem q_dd_4_2_3 {F : xM} (hR : F 0 3 = 4) : p_det (p_Dm F 60) 4 = p_det (p_M F 3) 2 := by
  rw [q_det4, q_det2]
  simp [p_Dm, p_M, p_ce, hR, show x_nb 3 0 = 0 from by decide, show x_nb 3 1 = 1 from by decide, show x_nb 60 0 = 2 from by decide, show x_nb 60 1 = 3 from by decide, show x_nb 60 2 = 4 from by decide, show x_nb 60 3 = 5 from by decide]
  try grind
theorem q_dd_4_2_5 {F : xM} (hR : F 0 3 = 4) : p_det (p_Dm F 58) 4 = - p_det (p_M F 5) 2 := by
  rw [q_det4, q_det2]
  simp [p_Dm, p_M, p_ce, hR, show x_nb 5 0 = 0 from by decide, show x_nb 5 1 = 2 from by decide, show x_nb 58 0 = 1 from by decide, show x_nb 58 1 = 3 from by decide, show x_nb 58 2 = 4 from by decide, show x_nb 58 3 = 5 from by decide]
  try grind
theorem q_dd_4_2_6 {F : xM} (hR : F 0 3 = 4) : p_det (p_Dm F 57) 4 = p_det (p_M F 6) 2 := by
  rw [q_det4, q_det2]
  simp [p_Dm, p_M, p_ce, hR, show x_nb 6 0 = 1 from by decide, show x_nb 6 1 = 2 from by decide, show x_nb 57 0 = 0 from by decide, show x_nb 57 1 = 3 from by decide, show x_nb 57 2 = 4 from by decide, show x_nb 57 3 = 5 from by decide]
  try grind
theorem q_dd_4_2_9 {F : xM} (hR : F 0 3 = 4) : p_det (p_Dm F 54) 4 = p_det (p_M F 9) 2 := by
  rw [q_det4, q_det2]
  simp [p_Dm, p_M, p_ce, hR, show x_nb 9 0 = 0 from by decide, show x_nb 9 1 = 3 from by decide, show x_nb 54 0 = 1 from by decide, show x_nb 54 1 = 2 from by decide, show x_nb 54 2 = 4 from by decide, show x_nb 54 3 = 5 from by decide]
  try grind
theorem q_dd_4_2_10 {F : xM} (hR : F 0 3 = 4) : p_det (p_Dm F 53) 4 = - p_det (p_M F 10) 2 := by
  rw [q_det4, q_det2]
  simp [p_Dm, p_M, p_ce, hR, show x_nb 10 0 = 1 from by decide, show x_nb 10 1 = 3 from by decide, show x_nb 53 0 = 0 from by decide, show x_nb 53 1 = 2 from by decide, show x_nb 53 2 = 4 from by decide, show x_nb 53 3 = 5 from by decide]
  try grind
theorem q_dd_4_2_12 {F : xM} (hR : F 0 3 = 4) : p_det (p_Dm F 51) 4 = p_det (p_M F 12) 2 := by
  rw [q_det4, q_det2]
  simp [p_Dm, p_M, p_ce, hR, show x_nb 12 0 = 2 from by decide, show x_nb 12 1 = 3 from by decide, show x_nb 51 0 = 0 from by decide, show x_nb 51 1 = 1 from by decide, show x_nb 51 2 = 4 from by decide, show x_nb 51 3 = 5 from by decide]
  try grind
theorem q_dd_4_2_17 {F : xM} (hR : F 0 3 = 4) : p_det (p_Dm F 46) 4 = p_det (p_M F 17) 2 := by
  rw [q_det4, q_det2]
  simp [p_Dm, p_M, p_ce, hR, show x_nb 17 0 = 0 from by decide, show x_nb 17 1 = 4 from by decide, show x_nb 46 0 = 1 from by decide, show x_nb 46 1 = 2 from by decide, show x_nb 46 2 = 3 from by decide, show x_nb 46 3 = 5 from by decide]
  try grind
theorem q_dd_4_2_18 {F : xM} (hR : F 0 3 = 4) : p_det (p_Dm F 45) 4 = - p_det (p_M F 18) 2 := by
  rw [q_det4, q_det2]
  simp [p_Dm, p_M, p_ce, hR, show x_nb 18 0 = 1 from by decide, show x_nb 18 1 = 4 from by decide, show x_nb 45 0 = 0 from by decide, show x_nb 45 1 = 2 from by decide, show x_nb 45 2 = 3 from by decide, show x_nb 45 3 = 5 from by decide]
  try grind
theorem q_dd_4_2_20 {F : xM} (hR : F 0 3 = 4) : p_det (p_Dm F 43) 4 = p_det (p_M F 20) 2 := by
  rw [q_det4, q_det2]
  simp [p_Dm, p_M, p_ce, hR, show x_nb 20 0 = 2 from by decide, show x_nb 20 1 = 4 from by decide, show x_nb 43 0 = 0 from by decide, show x_nb 43 1 = 1 from by decide, show x_nb 43 2 = 3 from by decide, show x_nb 43 3 = 5 from by decide]
  try grind
theorem q_dd_4_2_24 {F : xM} (hR : F 0 3 = 4) : p_det (p_Dm F 39) 4 = - p_det (p_M F 24) 2 := by
  rw [q_det4, q_det2]
  simp [p_Dm, p_M, p_ce, hR, show x_nb 24 0 = 3 from by decide, show x_nb 24 1 = 4 from by decide, show x_nb 39 0 = 0 from by decide, show x_nb 39 1 = 1 from by decide, show x_nb 39 2 = 2 from by decide, show x_nb 39 3 = 5 from by decide]
  try grind
theorem q_dd_4_2_33 {F : xM} (hR : F 0 3 = 4) : p_det (p_Dm F 30) 4 = - p_det (p_M F 33) 2 := by
  rw [q_det4, q_det2]
  simp [p_Dm, p_M, p_ce, hR, show x_nb 33 0 = 0 from by decide, show x_nb 33 1 = 5 from by decide, show x_nb 30 0 = 1 from by decide, show x_nb 30 1 = 2 from by decide, show x_nb 30 2 = 3 from by decide, show x_nb 30 3 = 4 from by decide]
  try grind
theorem q_dd_4_2_34 {F : xM} (hR : F 0 3 = 4) : p_det (p_Dm F 29) 4 = p_det (p_M F 34) 2 := by
  rw [q_det4, q_det2]
  simp [p_Dm, p_M, p_ce, hR, show x_nb 34 0 = 1 from by decide, show x_nb 34 1 = 5 from by decide, show x_nb 29 0 = 0 from by decide, show x_nb 29 1 = 2 from by decide, show x_nb 29 2 = 3 from by decide, show x_nb 29 3 = 4 from by decide]
  try grind
theorem q_dd_4_2_36 {F : xM} (hR : F 0 3 = 4) : p_det (p_Dm F 27) 4 = - p_det (p_M F 36) 2 := by
  rw [q_det4, q_det2]
  simp [p_Dm, p_M, p_ce, hR, show x_nb 36 0 = 2 from by decide, show x_nb 36 1 = 5 from by decide, show x_nb 27 0 = 0 from by decide, show x_nb 27 1 = 1 from by decide, show x_nb 27 2 = 3 from by decide, show x_nb 27 3 = 4 from by decide]
  try grind
theorem q_dd_4_2_40 {F : xM} (hR : F 0 3 = 4) : p_det (p_Dm F 23) 4 = p_det (p_M F 40) 2 := by
  rw [q_det4, q_det2]
  simp [p_Dm, p_M, p_ce, hR, show x_nb 40 0 = 3 from by decide, show x_nb 40 1 = 5 from by decide, show x_nb 23 0 = 0 from by decide, show x_nb 23 1 = 1 from by decide, show x_nb 23 2 = 2 from by decide, show x_nb 23 3 = 4 from by decide]
  try grind
theorem q_dd_4_2_48 {F : xM} (hR : F 0 3 = 4) : p_det (p_Dm F 15) 4 = p_det (p_M F 48) 2 := by
  rw [q_det4, q_det2]
  simp [p_Dm, p_M, p_ce, hR, show x_nb 48 0 = 4 from by decide, show x_nb 48 1 = 5 from by decide, show x_nb 15 0 = 0 from by decide, show x_nb 15 1 = 1 from by decide, show x_nb 15 2 = 2 from by decide, show x_nb 15 3 = 3 from by decide]
  try grind
theorem q_dd_4_3_7 {F : xM} (hR : F 0 3 = 4) : p_det (p_Dm F 120) 4 = - p_det (p_M F 7) 3 := by
  rw [q_det4, q_det3]
  simp [p_Dm, p_M, p_ce, hR, show x_nb 7 0 = 0 from by decide, show x_nb 7 1 = 1 from by decide, show x_nb 7 2 = 2 from by decide, show x_nb 120 0 = 3 from by decide, show x_nb 120 1 = 4 from by decide, show x_nb 120 2 = 5 from by decide, show x_nb 120 3 = 6 from by decide]
  try grind
theorem q_dd_4_3_11 {F : xM} (hR : F 0 3 = 4) : p_det (p_Dm F 116) 4 = p_det (p_M F 11) 3 := by
  rw [q_det4, q_det3]
  simp [p_Dm, p_M, p_ce, hR, show x_nb 11 0 = 0 from by decide, show x_nb 11 1 = 1 from by decide, show x_nb 11 2 = 3 from by decide, show x_nb 116 0 = 2 from by decide, show x_nb 116 1 = 4 from by decide, show x_nb 116 2 = 5 from by decide, show x_nb 116 3 = 6 from by decide]
  try grind
theorem q_dd_4_3_13 {F : xM} (hR : F 0 3 = 4) : p_det (p_Dm F 114) 4 = - p_det (p_M F 13) 3 := by
  rw [q_det4, q_det3]
  simp [p_Dm, p_M, p_ce, hR, show x_nb 13 0 = 0 from by decide, show x_nb 13 1 = 2 from by decide, show x_nb 13 2 = 3 from by decide, show x_nb 114 0 = 1 from by decide, show x_nb 114 1 = 4 from by decide, show x_nb 114 2 = 5 from by decide, show x_nb 114 3 = 6 from by decide]
  try grind
theorem q_dd_4_3_14 {F : xM} (hR : F 0 3 = 4) : p_det (p_Dm F 113) 4 = p_det (p_M F 14) 3 := by
  rw [q_det4, q_det3]
  simp [p_Dm, p_M, p_ce, hR, show x_nb 14 0 = 1 from by decide, show x_nb 14 1 = 2 from by decide, show x_nb 14 2 = 3 from by decide, show x_nb 113 0 = 0 from by decide, show x_nb 113 1 = 4 from by decide, show x_nb 113 2 = 5 from by decide, show x_nb 113 3 = 6 from by decide]
  try grind
theorem q_dd_4_3_19 {F : xM} (hR : F 0 3 = 4) : p_det (p_Dm F 108) 4 = p_det (p_M F 19) 3 := by
  rw [q_det4, q_det3]
  simp [p_Dm, p_M, p_ce, hR, show x_nb 19 0 = 0 from by decide, show x_nb 19 1 = 1 from by decide, show x_nb 19 2 = 4 from by decide, show x_nb 108 0 = 2 from by decide, show x_nb 108 1 = 3 from by decide, show x_nb 108 2 = 5 from by decide, show x_nb 108 3 = 6 from by decide]
  try grind
theorem q_dd_4_3_21 {F : xM} (hR : F 0 3 = 4) : p_det (p_Dm F 106) 4 = - p_det (p_M F 21) 3 := by
  rw [q_det4, q_det3]
  simp [p_Dm, p_M, p_ce, hR, show x_nb 21 0 = 0 from by decide, show x_nb 21 1 = 2 from by decide, show x_nb 21 2 = 4 from by decide, show x_nb 106 0 = 1 from by decide, show x_nb 106 1 = 3 from by decide, show x_nb 106 2 = 5 from by decide, show x_nb 106 3 = 6 from by decide]
  try grind
theorem q_dd_4_3_22 {F : xM} (hR : F 0 3 = 4) : p_det (p_Dm F 105) 4 = p_det (p_M F 22) 3 := by
  rw [q_det4, q_det3]
  simp [p_Dm, p_M, p_ce, hR, show x_nb 22 0 = 1 from by decide, show x_nb 22 1 = 2 from by decide, show x_nb 22 2 = 4 from by decide, show x_nb 105 0 = 0 from by decide, show x_nb 105 1 = 3 from by decide, show x_nb 105 2 = 5 from by decide, show x_nb 105 3 = 6 from by decide]
  try grind
theorem q_dd_4_3_25 {F : xM} (hR : F 0 3 = 4) : p_det (p_Dm F 102) 4 = p_det (p_M F 25) 3 := by
  rw [q_det4, q_det3]
  simp [p_Dm, p_M, p_ce, hR, show x_nb 25 0 = 0 from by decide, show x_nb 25 1 = 3 from by decide, show x_nb 25 2 = 4 from by decide, show x_nb 102 0 = 1 from by decide, show x_nb 102 1 = 2 from by decide, show x_nb 102 2 = 5 from by decide, show x_nb 102 3 = 6 from by decide]
  try grind
theorem q_dd_4_3_26 {F : xM} (hR : F 0 3 = 4) : p_det (p_Dm F 101) 4 = - p_det (p_M F 26) 3 := by
  rw [q_det4, q_det3]
  simp [p_Dm, p_M, p_ce, hR, show x_nb 26 0 = 1 from by decide, show x_nb 26 1 = 3 from by decide, show x_nb 26 2 = 4 from by decide, show x_nb 101 0 = 0 from by decide, show x_nb 101 1 = 2 from by decide, show x_nb 101 2 = 5 from by decide, show x_nb 101 3 = 6 from by decide]
  try grind
theorem q_dd_4_3_28 {F : xM} (hR : F 0 3 = 4) : p_det (p_Dm F 99) 4 = p_det (p_M F 28) 3 := by
  rw [q_det4, q_det3]
  simp [p_Dm, p_M, p_ce, hR, show x_nb 28 0 = 2 from by decide, show x_nb 28 1 = 3 from by decide, show x_nb 28 2 = 4 from by decide, show x_nb 99 0 = 0 from by decide, show x_nb 99 1 = 1 from by decide, show x_nb 99 2 = 5 from by decide, show x_nb 99 3 = 6 from by decide]
  try grind
theorem q_dd_4_3_35 {F : xM} (hR : F 0 3 = 4) : p_det (p_Dm F 92) 4 = - p_det (p_M F 35) 3 := by
  rw [q_det4, q_det3]
  simp [p_Dm, p_M, p_ce, hR, show x_nb 35 0 = 0 from by decide, show x_nb 35 1 = 1 from by decide, show x_nb 35 2 = 5 from by decide, show x_nb 92 0 = 2 from by decide, show x_nb 92 1 = 3 from by decide, show x_nb 92 2 = 4 from by decide, show x_nb 92 3 = 6 from by decide]
  try grind
theorem q_dd_4_3_37 {F : xM} (hR : F 0 3 = 4) : p_det (p_Dm F 90) 4 = p_det (p_M F 37) 3 := by
  rw [q_det4, q_det3]
  simp [p_Dm, p_M, p_ce, hR, show x_nb 37 0 = 0 from by decide, show x_nb 37 1 = 2 from by decide, show x_nb 37 2 = 5 from by decide, show x_nb 90 0 = 1 from by decide, show x_nb 90 1 = 3 from by decide, show x_nb 90 2 = 4 from by decide, show x_nb 90 3 = 6 from by decide]
  try grind
theorem q_dd_4_3_38 {F : xM} (hR : F 0 3 = 4) : p_det (p_Dm F 89) 4 = - p_det (p_M F 38) 3 := by
  rw [q_det4, q_det3]
  simp [p_Dm, p_M, p_ce, hR, show x_nb 38 0 = 1 from by decide, show x_nb 38 1 = 2 from by decide, show x_nb 38 2 = 5 from by decide, show x_nb 89 0 = 0 from by decide, show x_nb 89 1 = 3 from by decide, show x_nb 89 2 = 4 from by decide, show x_nb 89 3 = 6 from by decide]
  try grind
theorem q_dd_4_3_41 {F : xM} (hR : F 0 3 = 4) : p_det (p_Dm F 86) 4 = - p_det (p_M F 41) 3 := by
  rw [q_det4, q_det3]
  simp [p_Dm, p_M, p_ce, hR, show x_nb 41 0 = 0 from by decide, show x_nb 41 1 = 3 from by decide, show x_nb 41 2 = 5 from by decide, show x_nb 86 0 = 1 from by decide, show x_nb 86 1 = 2 from by decide, show x_nb 86 2 = 4 from by decide, show x_nb 86 3 = 6 from by decide]
  try grind
theorem q_dd_4_3_42 {F : xM} (hR : F 0 3 = 4) : p_det (p_Dm F 85) 4 = p_det (p_M F 42) 3 := by
  rw [q_det4, q_det3]
  simp [p_Dm, p_M, p_ce, hR, show x_nb 42 0 = 1 from by decide, show x_nb 42 1 = 3 from by decide, show x_nb 42 2 = 5 from by decide, show x_nb 85 0 = 0 from by decide, show x_nb 85 1 = 2 from by decide, show x_nb 85 2 = 4 from by decide, show x_nb 85 3 = 6 from by decide]
  try grind
theorem q_dd_4_3_44 {F : xM} (hR : F 0 3 = 4) : p_det (p_Dm F 83) 4 = - p_det (p_M F 44) 3 := by
  rw [q_det4, q_det3]
  simp [p_Dm, p_M, p_ce, hR, show x_nb 44 0 = 2 from by decide, show x_nb 44 1 = 3 from by decide, show x_nb 44 2 = 5 from by decide, show x_nb 83 0 = 0 from by decide, show x_nb 83 1 = 1 from by decide, show x_nb 83 2 = 4 from by decide, show x_nb 83 3 = 6 from by decide]
  try grind
theorem q_dd_4_3_49 {F : xM} (hR : F 0 3 = 4) : p_det (p_Dm F 78) 4 = - p_det (p_M F 49) 3 := by
  rw [q_det4, q_det3]
  simp [p_Dm, p_M, p_ce, hR, show x_nb 49 0 = 0 from by decide, show x_nb 49 1 = 4 from by decide, show x_nb 49 2 = 5 from by decide, show x_nb 78 0 = 1 from by decide, show x_nb 78 1 = 2 from by decide, show x_nb 78 2 = 3 from by decide, show x_nb 78 3 = 6 from by decide]
  try grind
theorem q_dd_4_3_50 {F : xM} (hR : F 0 3 = 4) : p_det (p_Dm F 77) 4 = p_det (p_M F 50) 3 := by
  rw [q_det4, q_det3]
  simp [p_Dm, p_M, p_ce, hR, show x_nb 50 0 = 1 from by decide, show x_nb 50 1 = 4 from by decide, show x_nb 50 2 = 5 from by decide, show x_nb 77 0 = 0 from by decide, show x_nb 77 1 = 2 from by decide, show x_nb 77 2 = 3 from by decide, show x_nb 77 3 = 6 from by decide]
  try grind
theorem q_dd_4_3_52 {F : xM} (hR : F 0 3 = 4) : p_det (p_Dm F 75) 4 = - p_det (p_M F 52) 3 := by
  rw [q_det4, q_det3]
  simp [p_Dm, p_M, p_ce, hR, show x_nb 52 0 = 2 from by decide, show x_nb 52 1 = 4 from by decide, show x_nb 52 2 = 5 from by decide, show x_nb 75 0 = 0 from by decide, show x_nb 75 1 = 1 from by decide, show x_nb 75 2 = 3 from by decide, show x_nb 75 3 = 6 from by decide]
  try grind
theorem q_dd_4_3_56 {F : xM} (hR : F 0 3 = 4) : p_det (p_Dm F 71) 4 = p_det (p_M F 56) 3 := by
  rw [q_det4, q_det3]
  simp [p_Dm, p_M, p_ce, hR, show x_nb 56 0 = 3 from by decide, show x_nb 56 1 = 4 from by decide, show x_nb 56 2 = 5 from by decide, show x_nb 71 0 = 0 from by decide, show x_nb 71 1 = 1 from by decide, show x_nb 71 2 = 2 from by decide, show x_nb 71 3 = 6 from by decide]
  try grind
theorem q_dd_4_3_67 {F : xM} (hR : F 0 3 = 4) : p_det (p_Dm F 60) 4 = p_det (p_M F 67) 3 := by
  rw [q_det4, q_det3]
  simp [p_Dm, p_M, p_ce, hR, show x_nb 67 0 = 0 from by decide, show x_nb 67 1 = 1 from by decide, show x_nb 67 2 = 6 from by decide, show x_nb 60 0 = 2 from by decide, show x_nb 60 1 = 3 from by decide, show x_nb 60 2 = 4 from by decide, show x_nb 60 3 = 5 from by decide]
  try grind
theorem q_dd_4_3_69 {F : xM} (hR : F 0 3 = 4) : p_det (p_Dm F 58) 4 = - p_det (p_M F 69) 3 := by
  rw [q_det4, q_det3]
  simp [p_Dm, p_M, p_ce, hR, show x_nb 69 0 = 0 from by decide, show x_nb 69 1 = 2 from by decide, show x_nb 69 2 = 6 from by decide, show x_nb 58 0 = 1 from by decide, show x_nb 58 1 = 3 from by decide, show x_nb 58 2 = 4 from by decide, show x_nb 58 3 = 5 from by decide]
  try grind
theorem q_dd_4_3_70 {F : xM} (hR : F 0 3 = 4) : p_det (p_Dm F 57) 4 = p_det (p_M F 70) 3 := by
  rw [q_det4, q_det3]
  simp [p_Dm, p_M, p_ce, hR, show x_nb 70 0 = 1 from by decide, show x_nb 70 1 = 2 from by decide, show x_nb 70 2 = 6 from by decide, show x_nb 57 0 = 0 from by decide, show x_nb 57 1 = 3 from by decide, show x_nb 57 2 = 4 from by decide, show x_nb 57 3 = 5 from by decide]
  try grind
theorem q_dd_4_3_73 {F : xM} (hR : F 0 3 = 4) : p_det (p_Dm F 54) 4 = p_det (p_M F 73) 3 := by
  rw [q_det4, q_det3]
  simp [p_Dm, p_M, p_ce, hR, show x_nb 73 0 = 0 from by decide, show x_nb 73 1 = 3 from by decide, show x_nb 73 2 = 6 from by decide, show x_nb 54 0 = 1 from by decide, show x_nb 54 1 = 2 from by decide, show x_nb 54 2 = 4 from by decide, show x_nb 54 3 = 5 from by decide]
  try grind
theorem q_dd_4_3_74 {F : xM} (hR : F 0 3 = 4) : p_det (p_Dm F 53) 4 = - p_det (p_M F 74) 3 := by
  rw [q_det4, q_det3]
  simp [p_Dm, p_M, p_ce, hR, show x_nb 74 0 = 1 from by decide, show x_nb 74 1 = 3 from by decide, show x_nb 74 2 = 6 from by decide, show x_nb 53 0 = 0 from by decide, show x_nb 53 1 = 2 from by decide, show x_nb 53 2 = 4 from by decide, show x_nb 53 3 = 5 from by decide]
  try grind
theorem q_dd_4_3_76 {F : xM} (hR : F 0 3 = 4) : p_det (p_Dm F 51) 4 = p_det (p_M F 76) 3 := by
  rw [q_det4, q_det3]
  simp [p_Dm, p_M, p_ce, hR, show x_nb 76 0 = 2 from by decide, show x_nb 76 1 = 3 from by decide, show x_nb 76 2 = 6 from by decide, show x_nb 51 0 = 0 from by decide, show x_nb 51 1 = 1 from by decide, show x_nb 51 2 = 4 from by decide, show x_nb 51 3 = 5 from by decide]
  try grind
theorem q_dd_4_3_81 {F : xM} (hR : F 0 3 = 4) : p_det (p_Dm F 46) 4 = p_det (p_M F 81) 3 := by
  rw [q_det4, q_det3]
  simp [p_Dm, p_M, p_ce, hR, show x_nb 81 0 = 0 from by decide, show x_nb 81 1 = 4 from by decide, show x_nb 81 2 = 6 from by decide, show x_nb 46 0 = 1 from by decide, show x_nb 46 1 = 2 from by decide, show x_nb 46 2 = 3 from by decide, show x_nb 46 3 = 5 from by decide]
  try grind
theorem q_dd_4_3_82 {F : xM} (hR : F 0 3 = 4) : p_det (p_Dm F 45) 4 = - p_det (p_M F 82) 3 := by
  rw [q_det4, q_det3]
  simp [p_Dm, p_M, p_ce, hR, show x_nb 82 0 = 1 from by decide, show x_nb 82 1 = 4 from by decide, show x_nb 82 2 = 6 from by decide, show x_nb 45 0 = 0 from by decide, show x_nb 45 1 = 2 from by decide, show x_nb 45 2 = 3 from by decide, show x_nb 45 3 = 5 from by decide]
  try grind
theorem q_dd_4_3_84 {F : xM} (hR : F 0 3 = 4) : p_det (p_Dm F 43) 4 = p_det (p_M F 84) 3 := by
  rw [q_det4, q_det3]
  simp [p_Dm, p_M, p_ce, hR, show x_nb 84 0 = 2 from by decide, show x_nb 84 1 = 4 from by decide, show x_nb 84 2 = 6 from by decide, show x_nb 43 0 = 0 from by decide, show x_nb 43 1 = 1 from by decide, show x_nb 43 2 = 3 from by decide, show x_nb 43 3 = 5 from by decide]
  try grind
theorem q_dd_4_3_88 {F : xM} (hR : F 0 3 = 4) : p_det (p_Dm F 39) 4 = - p_det (p_M F 88) 3 := by
  rw [q_det4, q_det3]
  simp [p_Dm, p_M, p_ce, hR, show x_nb 88 0 = 3 from by decide, show x_nb 88 1 = 4 from by decide, show x_nb 88 2 = 6 from by decide, show x_nb 39 0 = 0 from by decide, show x_nb 39 1 = 1 from by decide, show x_nb 39 2 = 2 from by decide, show x_nb 39 3 = 5 from by decide]
  try grind
theorem q_dd_4_3_97 {F : xM} (hR : F 0 3 = 4) : p_det (p_Dm F 30) 4 = - p_det (p_M F 97) 3 := by
  rw [q_det4, q_det3]
  simp [p_Dm, p_M, p_ce, hR, show x_nb 97 0 = 0 from by decide, show x_nb 97 1 = 5 from by decide, show x_nb 97 2 = 6 from by decide, show x_nb 30 0 = 1 from by decide, show x_nb 30 1 = 2 from by decide, show x_nb 30 2 = 3 from by decide, show x_nb 30 3 = 4 from by decide]
  try grind
theorem q_dd_4_3_98 {F : xM} (hR : F 0 3 = 4) : p_det (p_Dm F 29) 4 = p_det (p_M F 98) 3 := by
  rw [q_det4, q_det3]
  simp [p_Dm, p_M, p_ce, hR, show x_nb 98 0 = 1 from by decide, show x_nb 98 1 = 5 from by decide, show x_nb 98 2 = 6 from by decide, show x_nb 29 0 = 0 from by decide, show x_nb 29 1 = 2 from by decide, show x_nb 29 2 = 3 from by decide, show x_nb 29 3 = 4 from by decide]
  try grind
theorem q_dd_4_3_100 {F : xM} (hR : F 0 3 = 4) : p_det (p_Dm F 27) 4 = - p_det (p_M F 100) 3 := by
  rw [q_det4, q_det3]
  simp [p_Dm, p_M, p_ce, hR, show x_nb 100 0 = 2 from by decide, show x_nb 100 1 = 5 from by decide, show x_nb 100 2 = 6 from by decide, show x_nb 27 0 = 0 from by decide, show x_nb 27 1 = 1 from by decide, show x_nb 27 2 = 3 from by decide, show x_nb 27 3 = 4 from by decide]
  try grind
theorem q_dd_4_3_104 {F : xM} (hR : F 0 3 = 4) : p_det (p_Dm F 23) 4 = p_det (p_M F 104) 3 := by
  rw [q_det4, q_det3]
  simp [p_Dm, p_M, p_ce, hR, show x_nb 104 0 = 3 from by decide, show x_nb 104 1 = 5 from by decide, show x_nb 104 2 = 6 from by decide, show x_nb 23 0 = 0 from by decide, show x_nb 23 1 = 1 from by decide, show x_nb 23 2 = 2 from by decide, show x_nb 23 3 = 4 from by decide]
  try grind
theorem q_dd_4_3_112 {F : xM} (hR : F 0 3 = 4) : p_det (p_Dm F 15) 4 = p_det (p_M F 112) 3 := by
  rw [q_det4, q_det3]
  simp [p_Dm, p_M, p_ce, hR, show x_nb 112 0 = 4 from by decide, show x_nb 112 1 = 5 from by decide, show x_nb 112 2 = 6 from by decide, show x_nb 15 0 = 0 from by decide, show x_nb 15 1 = 1 from by decide, show x_nb 15 2 = 2 from by decide, show x_nb 15 3 = 3 from by decide]
  try grind
theorem q_ddl_1_1 {s : Nat} (hs : s < 4) (hc : x_cn s 7 = 1) : s = 1 ∨ s = 2 := by
  have h := x_all1 (P := fun s => !(decide (x_cn s 7 = 1)) || decide (s = 1 ∨ s = 2)) 4 (by decide +kernel) s hs
  simp only [hc, decide_true, Bool.not_true, Bool.false_or, decide_eq_true_eq] at h
  exact h
theorem q_dda_1_1 {F : xM} (hR : F 0 3 = 1) {s : Nat} (hs : s < 4) (hc : x_cn s 7 = 1) : p_det (p_Dm F (4 - 1 - s)) 1 = p_det (p_M F s) 1 ∨ p_det (p_Dm F (4 - 1 - s)) 1 = - p_det (p_M F s) 1 := by
  rcases q_ddl_1_1 hs hc with e | e
  · subst e; exact Or.inl (q_dd_1_1_1 hR)
  · subst e; exact Or.inl (q_dd_1_1_2 hR)
theorem q_ddl_1_2 {s : Nat} (hs : s < 8) (hc : x_cn s 7 = 2) : s = 3 ∨ s = 5 ∨ s = 6 := by
  have h := x_all1 (P := fun s => !(decide (x_cn s 7 = 2)) || decide (s = 3 ∨ s = 5 ∨ s = 6)) 8 (by decide +kernel) s hs
  simp only [hc, decide_true, Bool.not_true, Bool.false_or, decide_eq_true_eq] at h
  exact h
theorem q_dda_1_2 {F : xM} (hR : F 0 3 = 1) {s : Nat} (hs : s < 8) (hc : x_cn s 7 = 2) : p_det (p_Dm F (8 - 1 - s)) 1 = p_det (p_M F s) 2 ∨ p_det (p_Dm F (8 - 1 - s)) 1 = - p_det (p_M F s) 2 := by
  rcases q_ddl_1_2 hs hc with e | e | e
  · subst e; exact Or.inr (q_dd_1_2_3 hR)
  · subst e; exact Or.inl (q_dd_1_2_5 hR)
  · subst e; exact Or.inl (q_dd_1_2_6 hR)
theorem q_ddl_1_3 {s : Nat} (hs : s < 16) (hc : x_cn s 7 = 3) : s = 7 ∨ s = 11 ∨ s = 13 ∨ s = 14 := by
  have h := x_all1 (P := fun s => !(decide (x_cn s 7 = 3)) || decide (s = 7 ∨ s = 11 ∨ s = 13 ∨ s = 14)) 16 (by decide +kernel) s hs
  simp only [hc, decide_true, Bool.not_true, Bool.false_or, decide_eq_true_eq] at h
  exact h
theorem q_dda_1_3 {F : xM} (hR : F 0 3 = 1) {s : Nat} (hs : s < 16) (hc : x_cn s 7 = 3) : p_det (p_Dm F (16 - 1 - s)) 1 = p_det (p_M F s) 3 ∨ p_det (p_Dm F (16 - 1 - s)) 1 = - p_det (p_M F s) 3 := by
  rcases q_ddl_1_3 hs hc with e | e | e | e
  · subst e; exact Or.inl (q_dd_1_3_7 hR)
  · subst e; exact Or.inr (q_dd_1_3_11 hR)
  · subst e; exact Or.inl (q_dd_1_3_13 hR)
  · subst e; exact Or.inl (q_dd_1_3_14 hR)
theorem q_ddl_2_1 {s : Nat} (hs : s < 8) (hc : x_cn s 7 = 1) : s = 1 ∨ s = 2 ∨ s = 4 := by
  have h := x_all1 (P := fun s => !(decide (x_cn s 7 = 1)) || decide (s = 1 ∨ s = 2 ∨ s = 4)) 8 (by decide +kernel) s hs
  simp only [hc, decide_true, Bool.not_true, Bool.false_or, decide_eq_true_eq] at h
  exact h
theorem q_dda_2_1 {F : xM} (hR : F 0 3 = 2) {s : Nat} (hs : s < 8) (hc : x_cn s 7 = 1) : p_det (p_Dm F (8 - 1 - s)) 2 = p_det (p_M F s) 1 ∨ p_det (p_Dm F (8 - 1 - s)) 2 = - p_det (p_M F s) 1 := by
  rcases q_ddl_2_1 hs hc with e | e | e
  · subst e; exact Or.inr (q_dd_2_1_1 hR)
  · subst e; exact Or.inl (q_dd_2_1_2 hR)
  · subst e; exact Or.inl (q_dd_2_1_4 hR)
theorem q_ddl_2_2 {s : Nat} (hs : s < 16) (hc : x_cn s 7 = 2) : s = 3 ∨ s = 5 ∨ s = 6 ∨ s = 9 ∨ s = 10 ∨ s = 12 := by
  have h := x_all1 (P := fun s => !(decide (x_cn s 7 = 2)) || decide (s = 3 ∨ s = 5 ∨ s = 6 ∨ s = 9 ∨ s = 10 ∨ s = 12)) 16 (by decide +kernel) s hs
  simp only [hc, decide_true, Bool.not_true, Bool.false_or, decide_eq_true_eq] at h
  exact h
theorem q_dda_2_2 {F : xM} (hR : F 0 3 = 2) {s : Nat} (hs : s < 16) (hc : x_cn s 7 = 2) : p_det (p_Dm F (16 - 1 - s)) 2 = p_det (p_M F s) 2 ∨ p_det (p_Dm F (16 - 1 - s)) 2 = - p_det (p_M F s) 2 := by
  rcases q_ddl_2_2 hs hc with e | e | e | e | e | e
  · subst e; exact Or.inl (q_dd_2_2_3 hR)
  · subst e; exact Or.inl (q_dd_2_2_5 hR)
  · subst e; exact Or.inr (q_dd_2_2_6 hR)
  · subst e; exact Or.inr (q_dd_2_2_9 hR)
  · subst e; exact Or.inl (q_dd_2_2_10 hR)
  · subst e; exact Or.inl (q_dd_2_2_12 hR)
theorem q_ddl_2_3 {s : Nat} (hs : s < 32) (hc : x_cn s 7 = 3) : s = 7 ∨ s = 11 ∨ s = 13 ∨ s = 14 ∨ s = 19 ∨ s = 21 ∨ s = 22 ∨ s = 25 ∨ s = 26 ∨ s = 28 := by
  have h := x_all1 (P := fun s => !(decide (x_cn s 7 = 3)) || decide (s = 7 ∨ s = 11 ∨ s = 13 ∨ s = 14 ∨ s = 19 ∨ s = 21 ∨ s = 22 ∨ s = 25 ∨ s = 26 ∨ s = 28)) 32 (by decide +kernel) s hs
  simp only [hc, decide_true, Bool.not_true, Bool.false_or, decide_eq_true_eq] at h
  exact h
theorem q_dda_2_3 {F : xM} (hR : F 0 3 = 2) {s : Nat} (hs : s < 32) (hc : x_cn s 7 = 3) : p_det (p_Dm F (32 - 1 - s)) 2 = p_det (p_M F s) 3 ∨ p_det (p_Dm F (32 - 1 - s)) 2 = - p_det (p_M F s) 3 := by
  rcases q_ddl_2_3 hs hc with e | e | e | e | e | e | e | e | e | e
  · subst e; exact Or.inl (q_dd_2_3_7 hR)
  · subst e; exact Or.inr (q_dd_2_3_11 hR)
  · subst e; exact Or.inr (q_dd_2_3_13 hR)
  · subst e; exact Or.inl (q_dd_2_3_14 hR)
  · subst e; exact Or.inl (q_dd_2_3_19 hR)
  · subst e; exact Or.inl (q_dd_2_3_21 hR)
  · subst e; exact Or.inr (q_dd_2_3_22 hR)
  · subst e; exact Or.inr (q_dd_2_3_25 hR)
  · subst e; exact Or.inl (q_dd_2_3_26 hR)
  · subst e; exact Or.inl (q_dd_2_3_28 hR)
theorem q_ddl_3_1 {s : Nat} (hs : s < 16) (hc : x_cn s 7 = 1) : s = 1 ∨ s = 2 ∨ s = 4 ∨ s = 8 := by
  have h := x_all1 (P := fun s => !(decide (x_cn s 7 = 1)) || decide (s = 1 ∨ s = 2 ∨ s = 4 ∨ s = 8)) 16 (by decide +kernel) s hs
  simp only [hc, decide_true, Bool.not_true, Bool.false_or, decide_eq_true_eq] at h
  exact h
theorem q_dda_3_1 {F : xM} (hR : F 0 3 = 3) {s : Nat} (hs : s < 16) (hc : x_cn s 7 = 1) : p_det (p_Dm F (16 - 1 - s)) 3 = p_det (p_M F s) 1 ∨ p_det (p_Dm F (16 - 1 - s)) 3 = - p_det (p_M F s) 1 := by
  rcases q_ddl_3_1 hs hc with e | e | e | e
  · subst e; exact Or.inl (q_dd_3_1_1 hR)
  · subst e; exact Or.inr (q_dd_3_1_2 hR)
  · subst e; exact Or.inl (q_dd_3_1_4 hR)
  · subst e; exact Or.inl (q_dd_3_1_8 hR)
theorem q_ddl_3_2 {s : Nat} (hs : s < 32) (hc : x_cn s 7 = 2) : s = 3 ∨ s = 5 ∨ s = 6 ∨ s = 9 ∨ s = 10 ∨ s = 12 ∨ s = 17 ∨ s = 18 ∨ s = 20 ∨ s = 24 := by
  have h := x_all1 (P := fun s => !(decide (x_cn s 7 = 2)) || decide (s = 3 ∨ s = 5 ∨ s = 6 ∨ s = 9 ∨ s = 10 ∨ s = 12 ∨ s = 17 ∨ s = 18 ∨ s = 20 ∨ s = 24)) 32 (by decide +kernel) s hs
  simp only [hc, decide_true, Bool.not_true, Bool.false_or, decide_eq_true_eq] at h
  exact h
theorem q_dda_3_2 {F : xM} (hR : F 0 3 = 3) {s : Nat} (hs : s < 32) (hc : x_cn s 7 = 2) : p_det (p_Dm F (32 - 1 - s)) 3 = p_det (p_M F s) 2 ∨ p_det (p_Dm F (32 - 1 - s)) 3 = - p_det (p_M F s) 2 := by
  rcases q_ddl_3_2 hs hc with e | e | e | e | e | e | e | e | e | e
  · subst e; exact Or.inl (q_dd_3_2_3 hR)
  · subst e; exact Or.inr (q_dd_3_2_5 hR)
  · subst e; exact Or.inl (q_dd_3_2_6 hR)
  · subst e; exact Or.inr (q_dd_3_2_9 hR)
  · subst e; exact Or.inl (q_dd_3_2_10 hR)
  · subst e; exact Or.inr (q_dd_3_2_12 hR)
  · subst e; exact Or.inl (q_dd_3_2_17 hR)
  · subst e; exact Or.inr (q_dd_3_2_18 hR)
  · subst e; exact Or.inl (q_dd_3_2_20 hR)
  · subst e; exact Or.inl (q_dd_3_2_24 hR)
theorem q_ddl_3_3 {s : Nat} (hs : s < 64) (hc : x_cn s 7 = 3) : s = 7 ∨ s = 11 ∨ s = 13 ∨ s = 14 ∨ s = 19 ∨ s = 21 ∨ s = 22 ∨ s = 25 ∨ s = 26 ∨ s = 28 ∨ s = 35 ∨ s = 37 ∨ s = 38 ∨ s = 41 ∨ s = 42 ∨ s = 44 ∨ s = 49 ∨ s = 50 ∨ s = 52 ∨ s = 56 := by
  have h := x_all1 (P := fun s => !(decide (x_cn s 7 = 3)) || decide (s = 7 ∨ s = 11 ∨ s = 13 ∨ s = 14 ∨ s = 19 ∨ s = 21 ∨ s = 22 ∨ s = 25 ∨ s = 26 ∨ s = 28 ∨ s = 35 ∨ s = 37 ∨ s = 38 ∨ s = 41 ∨ s = 42 ∨ s = 44 ∨ s = 49 ∨ s = 50 ∨ s = 52 ∨ s = 56)) 64 (by decide +kernel) s hs
  simp only [hc, decide_true, Bool.not_true, Bool.false_or, decide_eq_true_eq] at h
  exact h
theorem q_dda_3_3 {F : xM} (hR : F 0 3 = 3) {s : Nat} (hs : s < 64) (hc : x_cn s 7 = 3) : p_det (p_Dm F (64 - 1 - s)) 3 = p_det (p_M F s) 3 ∨ p_det (p_Dm F (64 - 1 - s)) 3 = - p_det (p_M F s) 3 := by
  rcases q_ddl_3_3 hs hc with e | e | e | e | e | e | e | e | e | e | e | e | e | e | e | e | e | e | e | e
  · subst e; exact Or.inl (q_dd_3_3_7 hR)
  · subst e; exact Or.inl (q_dd_3_3_11 hR)
  · subst e; exact Or.inr (q_dd_3_3_13 hR)
  · subst e; exact Or.inl (q_dd_3_3_14 hR)
  · subst e; exact Or.inr (q_dd_3_3_19 hR)
  · subst e; exact Or.inl (q_dd_3_3_21 hR)
  · subst e; exact Or.inr (q_dd_3_3_22 hR)
  · subst e; exact Or.inl (q_dd_3_3_25 hR)
  · subst e; exact Or.inr (q_dd_3_3_26 hR)
  · subst e; exact Or.inl (q_dd_3_3_28 hR)
  · subst e; exact Or.inl (q_dd_3_3_35 hR)
  · subst e; exact Or.inr (q_dd_3_3_37 hR)
  · subst e; exact Or.inl (q_dd_3_3_38 hR)
  · subst e; exact Or.inr (q_dd_3_3_41 hR)
  · subst e; exact Or.inl (q_dd_3_3_42 hR)
  · subst e; exact Or.inr (q_dd_3_3_44 hR)
  · subst e; exact Or.inl (q_dd_3_3_49 hR)
  · subst e; exact Or.inr (q_dd_3_3_50 hR)
  · subst e; exact Or.inl (q_dd_3_3_52 hR)
  · subst e; exact Or.inl (q_dd_3_3_56 hR)
theorem q_ddl_4_1 {s : Nat} (hs : s < 32) (hc : x_cn s 7 = 1) : s = 1 ∨ s = 2 ∨ s = 4 ∨ s = 8 ∨ s = 16 := by
  have h := x_all1 (P := fun s => !(decide (x_cn s 7 = 1)) || decide (s = 1 ∨ s = 2 ∨ s = 4 ∨ s = 8 ∨ s = 16)) 32 (by decide +kernel) s hs
  simp only [hc, decide_true, Bool.not_true, Bool.false_or, decide_eq_true_eq] at h
  exact h
theorem q_dda_4_1 {F : xM} (hR : F 0 3 = 4) {s : Nat} (hs : s < 32) (hc : x_cn s 7 = 1) : p_det (p_Dm F (32 - 1 - s)) 4 = p_det (p_M F s) 1 ∨ p_det (p_Dm F (32 - 1 - s)) 4 = - p_det (p_M F s) 1 := by
  rcases q_ddl_4_1 hs hc with e | e | e | e | e
  · subst e; exact Or.inr (q_dd_4_1_1 hR)
  · subst e; exact Or.inl (q_dd_4_1_2 hR)
  · subst e; exact Or.inr (q_dd_4_1_4 hR)
  · subst e; exact Or.inl (q_dd_4_1_8 hR)
  · subst e; exact Or.inl (q_dd_4_1_16 hR)
theorem q_ddl_4_2 {s : Nat} (hs : s < 64) (hc : x_cn s 7 = 2) : s = 3 ∨ s = 5 ∨ s = 6 ∨ s = 9 ∨ s = 10 ∨ s = 12 ∨ s = 17 ∨ s = 18 ∨ s = 20 ∨ s = 24 ∨ s = 33 ∨ s = 34 ∨ s = 36 ∨ s = 40 ∨ s = 48 := by
  have h := x_all1 (P := fun s => !(decide (x_cn s 7 = 2)) || decide (s = 3 ∨ s = 5 ∨ s = 6 ∨ s = 9 ∨ s = 10 ∨ s = 12 ∨ s = 17 ∨ s = 18 ∨ s = 20 ∨ s = 24 ∨ s = 33 ∨ s = 34 ∨ s = 36 ∨ s = 40 ∨ s = 48)) 64 (by decide +kernel) s hs
  simp only [hc, decide_true, Bool.not_true, Bool.false_or, decide_eq_true_eq] at h
  exact h
theorem q_dda_4_2 {F : xM} (hR : F 0 3 = 4) {s : Nat} (hs : s < 64) (hc : x_cn s 7 = 2) : p_det (p_Dm F (64 - 1 - s)) 4 = p_det (p_M F s) 2 ∨ p_det (p_Dm F (64 - 1 - s)) 4 = - p_det (p_M F s) 2 := by
  rcases q_ddl_4_2 hs hc with e | e | e | e | e | e | e | e | e | e | e | e | e | e | e
  · subst e; exact Or.inl (q_dd_4_2_3 hR)
  · subst e; exact Or.inr (q_dd_4_2_5 hR)
  · subst e; exact Or.inl (q_dd_4_2_6 hR)
  · subst e; exact Or.inl (q_dd_4_2_9 hR)
  · subst e; exact Or.inr (q_dd_4_2_10 hR)
  · subst e; exact Or.inl (q_dd_4_2_12 hR)
  · subst e; exact Or.inl (q_dd_4_2_17 hR)
  · subst e; exact Or.inr (q_dd_4_2_18 hR)
  · subst e; exact Or.inl (q_dd_4_2_20 hR)
  · subst e; exact Or.inr (q_dd_4_2_24 hR)
  · subst e; exact Or.inr (q_dd_4_2_33 hR)
  · subst e; exact Or.inl (q_dd_4_2_34 hR)
  · subst e; exact Or.inr (q_dd_4_2_36 hR)
  · subst e; exact Or.inl (q_dd_4_2_40 hR)
  · subst e; exact Or.inl (q_dd_4_2_48 hR)
theorem q_ddl_4_3 {s : Nat} (hs : s < 128) (hc : x_cn s 7 = 3) : s = 7 ∨ s = 11 ∨ s = 13 ∨ s = 14 ∨ s = 19 ∨ s = 21 ∨ s = 22 ∨ s = 25 ∨ s = 26 ∨ s = 28 ∨ s = 35 ∨ s = 37 ∨ s = 38 ∨ s = 41 ∨ s = 42 ∨ s = 44 ∨ s = 49 ∨ s = 50 ∨ s = 52 ∨ s = 56 ∨ s = 67 ∨ s = 69 ∨ s = 70 ∨ s = 73 ∨ s = 74 ∨ s = 76 ∨ s = 81 ∨ s = 82 ∨ s = 84 ∨ s = 88 ∨ s = 97 ∨ s = 98 ∨ s = 100 ∨ s = 104 ∨ s = 112 := by
  have h := x_all1 (P := fun s => !(decide (x_cn s 7 = 3)) || decide (s = 7 ∨ s = 11 ∨ s = 13 ∨ s = 14 ∨ s = 19 ∨ s = 21 ∨ s = 22 ∨ s = 25 ∨ s = 26 ∨ s = 28 ∨ s = 35 ∨ s = 37 ∨ s = 38 ∨ s = 41 ∨ s = 42 ∨ s = 44 ∨ s = 49 ∨ s = 50 ∨ s = 52 ∨ s = 56 ∨ s = 67 ∨ s = 69 ∨ s = 70 ∨ s = 73 ∨ s = 74 ∨ s = 76 ∨ s = 81 ∨ s = 82 ∨ s = 84 ∨ s = 88 ∨ s = 97 ∨ s = 98 ∨ s = 100 ∨ s = 104 ∨ s = 112)) 128 (by decide +kernel) s hs
  simp only [hc, decide_true, Bool.not_true, Bool.false_or, decide_eq_true_eq] at h
  exact h
theorem q_dda_4_3 {F : xM} (hR : F 0 3 = 4) {s : Nat} (hs : s < 128) (hc : x_cn s 7 = 3) : p_det (p_Dm F (128 - 1 - s)) 4 = p_det (p_M F s) 3 ∨ p_det (p_Dm F (128 - 1 - s)) 4 = - p_det (p_M F s) 3 := by
  rcases q_ddl_4_3 hs hc with e | e | e | e | e | e | e | e | e | e | e | e | e | e | e | e | e | e | e | e | e | e | e | e | e | e | e | e | e | e | e | e | e | e | e
  · subst e; exact Or.inr (q_dd_4_3_7 hR)
  · subst e; exact Or.inl (q_dd_4_3_11 hR)
  · subst e; exact Or.inr (q_dd_4_3_13 hR)
  · subst e; exact Or.inl (q_dd_4_3_14 hR)
  · subst e; exact Or.inl (q_dd_4_3_19 hR)
  · subst e; exact Or.inr (q_dd_4_3_21 hR)
  · subst e; exact Or.inl (q_dd_4_3_22 hR)
  · subst e; exact Or.inl (q_dd_4_3_25 hR)
  · subst e; exact Or.inr (q_dd_4_3_26 hR)
  · subst e; exact Or.inl (q_dd_4_3_28 hR)
  · subst e; exact Or.inr (q_dd_4_3_35 hR)
  · subst e; exact Or.inl (q_dd_4_3_37 hR)
  · subst e; exact Or.inr (q_dd_4_3_38 hR)
  · subst e; exact Or.inr (q_dd_4_3_41 hR)
  · subst e; exact Or.inl (q_dd_4_3_42 hR)
  · subst e; exact Or.inr (q_dd_4_3_44 hR)
  · subst e; exact Or.inr (q_dd_4_3_49 hR)
  · subst e; exact Or.inl (q_dd_4_3_50 hR)
  · subst e; exact Or.inr (q_dd_4_3_52 hR)
  · subst e; exact Or.inl (q_dd_4_3_56 hR)
  · subst e; exact Or.inl (q_dd_4_3_67 hR)
  · subst e; exact Or.inr (q_dd_4_3_69 hR)
  · subst e; exact Or.inl (q_dd_4_3_70 hR)
  · subst e; exact Or.inl (q_dd_4_3_73 hR)
  · subst e; exact Or.inr (q_dd_4_3_74 hR)
  · subst e; exact Or.inl (q_dd_4_3_76 hR)
  · subst e; exact Or.inl (q_dd_4_3_81 hR)
  · subst e; exact Or.inr (q_dd_4_3_82 hR)
  · subst e; exact Or.inl (q_dd_4_3_84 hR)
  · subst e; exact Or.inr (q_dd_4_3_88 hR)
  · subst e; exact Or.inr (q_dd_4_3_97 hR)
  · subst e; exact Or.inl (q_dd_4_3_98 hR)
  · subst e; exact Or.inr (q_dd_4_3_100 hR)
  · subst e; exact Or.inl (q_dd_4_3_104 hR)
  · subst e; exact Or.inl (q_dd_4_3_112 hR)
theorem q_dual_det {F : xM} (hF : p_wf F) {s : Nat} (hs : s < 2 ^ p_pr F) (hp : (x_cn s 7 : Int) = F 0 2) {R : Nat} (hR : F 0 3 = R) : p_det (p_Dm F (2 ^ p_pr F - 1 - s)) R = p_d3 (p_C F s) ∨ p_det (p_Dm F (2 ^ p_pr F - 1 - s)) R = - p_d3 (p_C F s) := by
  have hg := hF.2.2.1
  have hr := hF.2.2.2.1
  obtain ⟨G, hG⟩ : ∃ G : Nat, F 0 2 = G := ⟨(F 0 2).toNat, by omega⟩
  rw [← p_M_d3 hF s hG]
  have hpr : p_pr F = R + G := by unfold p_pr; omega
  rw [hpr] at hs ⊢
  have hc : x_cn s 7 = G := by omega
  have r4 : R = 1 ∨ R = 2 ∨ R = 3 ∨ R = 4 := by omega
  have g3 : G = 1 ∨ G = 2 ∨ G = 3 := by omega
  rcases r4 with e | e | e | e <;> rcases g3 with e2 | e2 | e2 <;> subst e <;> subst e2
  · exact q_dda_1_1 hR hs hc
  · exact q_dda_1_2 hR hs hc
  · exact q_dda_1_3 hR hs hc
  · exact q_dda_2_1 hR hs hc
  · exact q_dda_2_2 hR hs hc
  · exact q_dda_2_3 hR hs hc
  · exact q_dda_3_1 hR hs hc
  · exact q_dda_3_2 hR hs hc
  · exact q_dda_3_3 hR hs hc
  · exact q_dda_4_1 hR hs hc
  · exact q_dda_4_2 hR hs hc
  · exact q_dda_4_3 hR hs hc
