/-! There are prices: printed by tools/gen_dex.py, the end by hand -/
theorem q_dx_1_1_a {F : xM} (hR : F 0 3 = 1) (hG : F 0 2 = 1) : p_d3 (p_C F 2) ≠ 0 := by
  have n0 : x_nb 2 0 = 1 := by decide
  have n1 : x_nb 2 1 = 7 := by decide
  have n2 : x_nb 2 2 = 7 := by decide
  simp [p_d3, p_C, p_ce, hR, hG, n0, n1, n2]
theorem q_dx_1_1_0 {F : xM} (hR : F 0 3 = 1) (hG : F 0 2 = 1) (h0 : 1 ≤ F 2 0) : p_d3 (p_C F 1) ≠ 0 := by
  have n0 : x_nb 1 0 = 0 := by decide
  have n1 : x_nb 1 1 = 7 := by decide
  have n2 : x_nb 1 2 = 7 := by decide
  simp [p_d3, p_C, p_ce, hR, hG, n0, n1, n2]
  try omega
theorem q_dx_1_2_a {F : xM} (hR : F 0 3 = 1) (hG : F 0 2 = 2) : p_d3 (p_C F 6) ≠ 0 := by
  have n0 : x_nb 6 0 = 1 := by decide
  have n1 : x_nb 6 1 = 2 := by decide
  have n2 : x_nb 6 2 = 7 := by decide
  simp [p_d3, p_C, p_ce, hR, hG, n0, n1, n2]
theorem q_dx_1_2_0 {F : xM} (hR : F 0 3 = 1) (hG : F 0 2 = 2) (h0 : 1 ≤ F 2 0) : p_d3 (p_C F 5) ≠ 0 := by
  have n0 : x_nb 5 0 = 0 := by decide
  have n1 : x_nb 5 1 = 2 := by decide
  have n2 : x_nb 5 2 = 7 := by decide
  simp [p_d3, p_C, p_ce, hR, hG, n0, n1, n2]
  try omega
theorem q_dx_1_2_1 {F : xM} (hR : F 0 3 = 1) (hG : F 0 2 = 2) (h0 : 1 ≤ F 2 1) : p_d3 (p_C F 3) ≠ 0 := by
  have n0 : x_nb 3 0 = 0 := by decide
  have n1 : x_nb 3 1 = 1 := by decide
  have n2 : x_nb 3 2 = 7 := by decide
  simp [p_d3, p_C, p_ce, hR, hG, n0, n1, n2]
  try omega
theorem q_dx_1_3_a {F : xM} (hR : F 0 3 = 1) (hG : F 0 2 = 3) : p_d3 (p_C F 14) ≠ 0 := by
  have n0 : x_nb 14 0 = 1 := by decide
  have n1 : x_nb 14 1 = 2 := by decide
  have n2 : x_nb 14 2 = 3 := by decide
  simp [p_d3, p_C, p_ce, hR, hG, n0, n1, n2]
theorem q_dx_1_3_0 {F : xM} (hR : F 0 3 = 1) (hG : F 0 2 = 3) (h0 : 1 ≤ F 2 0) : p_d3 (p_C F 13) ≠ 0 := by
  have n0 : x_nb 13 0 = 0 := by decide
  have n1 : x_nb 13 1 = 2 := by decide
  have n2 : x_nb 13 2 = 3 := by decide
  simp [p_d3, p_C, p_ce, hR, hG, n0, n1, n2]
  try omega
theorem q_dx_1_3_1 {F : xM} (hR : F 0 3 = 1) (hG : F 0 2 = 3) (h0 : 1 ≤ F 2 1) : p_d3 (p_C F 11) ≠ 0 := by
  have n0 : x_nb 11 0 = 0 := by decide
  have n1 : x_nb 11 1 = 1 := by decide
  have n2 : x_nb 11 2 = 3 := by decide
  simp [p_d3, p_C, p_ce, hR, hG, n0, n1, n2]
  try omega
theorem q_dx_1_3_2 {F : xM} (hR : F 0 3 = 1) (hG : F 0 2 = 3) (h0 : 1 ≤ F 2 2) : p_d3 (p_C F 7) ≠ 0 := by
  have n0 : x_nb 7 0 = 0 := by decide
  have n1 : x_nb 7 1 = 1 := by decide
  have n2 : x_nb 7 2 = 2 := by decide
  simp [p_d3, p_C, p_ce, hR, hG, n0, n1, n2]
  try omega
theorem q_dx_2_1_a {F : xM} (hR : F 0 3 = 2) (hG : F 0 2 = 1) : p_d3 (p_C F 4) ≠ 0 := by
  have n0 : x_nb 4 0 = 2 := by decide
  have n1 : x_nb 4 1 = 7 := by decide
  have n2 : x_nb 4 2 = 7 := by decide
  simp [p_d3, p_C, p_ce, hR, hG, n0, n1, n2]
theorem q_dx_2_1_0 {F : xM} (hR : F 0 3 = 2) (hG : F 0 2 = 1) (h0 : 1 ≤ F 2 0) : p_d3 (p_C F 1) ≠ 0 := by
  have n0 : x_nb 1 0 = 0 := by decide
  have n1 : x_nb 1 1 = 7 := by decide
  have n2 : x_nb 1 2 = 7 := by decide
  simp [p_d3, p_C, p_ce, hR, hG, n0, n1, n2]
  try omega
theorem q_dx_2_2_a {F : xM} (hR : F 0 3 = 2) (hG : F 0 2 = 2) : p_d3 (p_C F 12) ≠ 0 := by
  have n0 : x_nb 12 0 = 2 := by decide
  have n1 : x_nb 12 1 = 3 := by decide
  have n2 : x_nb 12 2 = 7 := by decide
  simp [p_d3, p_C, p_ce, hR, hG, n0, n1, n2]
theorem q_dx_2_2_0 {F : xM} (hR : F 0 3 = 2) (hG : F 0 2 = 2) (h0 : 1 ≤ F 2 0) : p_d3 (p_C F 9) ≠ 0 := by
  have n0 : x_nb 9 0 = 0 := by decide
  have n1 : x_nb 9 1 = 3 := by decide
  have n2 : x_nb 9 2 = 7 := by decide
  simp [p_d3, p_C, p_ce, hR, hG, n0, n1, n2]
  try omega
theorem q_dx_2_2_1 {F : xM} (hR : F 0 3 = 2) (hG : F 0 2 = 2) (h0 : 1 ≤ F 2 1) : p_d3 (p_C F 5) ≠ 0 := by
  have n0 : x_nb 5 0 = 0 := by decide
  have n1 : x_nb 5 1 = 2 := by decide
  have n2 : x_nb 5 2 = 7 := by decide
  simp [p_d3, p_C, p_ce, hR, hG, n0, n1, n2]
  try omega
theorem q_dx_2_3_a {F : xM} (hR : F 0 3 = 2) (hG : F 0 2 = 3) : p_d3 (p_C F 28) ≠ 0 := by
  have n0 : x_nb 28 0 = 2 := by decide
  have n1 : x_nb 28 1 = 3 := by decide
  have n2 : x_nb 28 2 = 4 := by decide
  simp [p_d3, p_C, p_ce, hR, hG, n0, n1, n2]
theorem q_dx_2_3_0 {F : xM} (hR : F 0 3 = 2) (hG : F 0 2 = 3) (h0 : 1 ≤ F 2 0) : p_d3 (p_C F 25) ≠ 0 := by
  have n0 : x_nb 25 0 = 0 := by decide
  have n1 : x_nb 25 1 = 3 := by decide
  have n2 : x_nb 25 2 = 4 := by decide
  simp [p_d3, p_C, p_ce, hR, hG, n0, n1, n2]
  try omega
theorem q_dx_2_3_1 {F : xM} (hR : F 0 3 = 2) (hG : F 0 2 = 3) (h0 : 1 ≤ F 2 1) : p_d3 (p_C F 21) ≠ 0 := by
  have n0 : x_nb 21 0 = 0 := by decide
  have n1 : x_nb 21 1 = 2 := by decide
  have n2 : x_nb 21 2 = 4 := by decide
  simp [p_d3, p_C, p_ce, hR, hG, n0, n1, n2]
  try omega
theorem q_dx_2_3_2 {F : xM} (hR : F 0 3 = 2) (hG : F 0 2 = 3) (h0 : 1 ≤ F 2 2) : p_d3 (p_C F 13) ≠ 0 := by
  have n0 : x_nb 13 0 = 0 := by decide
  have n1 : x_nb 13 1 = 2 := by decide
  have n2 : x_nb 13 2 = 3 := by decide
  simp [p_d3, p_C, p_ce, hR, hG, n0, n1, n2]
  try omega
theorem q_dx_3_1_a {F : xM} (hR : F 0 3 = 3) (hG : F 0 2 = 1) : p_d3 (p_C F 8) ≠ 0 := by
  have n0 : x_nb 8 0 = 3 := by decide
  have n1 : x_nb 8 1 = 7 := by decide
  have n2 : x_nb 8 2 = 7 := by decide
  simp [p_d3, p_C, p_ce, hR, hG, n0, n1, n2]
theorem q_dx_3_1_0 {F : xM} (hR : F 0 3 = 3) (hG : F 0 2 = 1) (h0 : 1 ≤ F 2 0) : p_d3 (p_C F 1) ≠ 0 := by
  have n0 : x_nb 1 0 = 0 := by decide
  have n1 : x_nb 1 1 = 7 := by decide
  have n2 : x_nb 1 2 = 7 := by decide
  simp [p_d3, p_C, p_ce, hR, hG, n0, n1, n2]
  try omega
theorem q_dx_3_2_a {F : xM} (hR : F 0 3 = 3) (hG : F 0 2 = 2) : p_d3 (p_C F 24) ≠ 0 := by
  have n0 : x_nb 24 0 = 3 := by decide
  have n1 : x_nb 24 1 = 4 := by decide
  have n2 : x_nb 24 2 = 7 := by decide
  simp [p_d3, p_C, p_ce, hR, hG, n0, n1, n2]
theorem q_dx_3_2_0 {F : xM} (hR : F 0 3 = 3) (hG : F 0 2 = 2) (h0 : 1 ≤ F 2 0) : p_d3 (p_C F 17) ≠ 0 := by
  have n0 : x_nb 17 0 = 0 := by decide
  have n1 : x_nb 17 1 = 4 := by decide
  have n2 : x_nb 17 2 = 7 := by decide
  simp [p_d3, p_C, p_ce, hR, hG, n0, n1, n2]
  try omega
theorem q_dx_3_2_1 {F : xM} (hR : F 0 3 = 3) (hG : F 0 2 = 2) (h0 : 1 ≤ F 2 1) : p_d3 (p_C F 9) ≠ 0 := by
  have n0 : x_nb 9 0 = 0 := by decide
  have n1 : x_nb 9 1 = 3 := by decide
  have n2 : x_nb 9 2 = 7 := by decide
  simp [p_d3, p_C, p_ce, hR, hG, n0, n1, n2]
  try omega
theorem q_dx_3_3_a {F : xM} (hR : F 0 3 = 3) (hG : F 0 2 = 3) : p_d3 (p_C F 56) ≠ 0 := by
  have n0 : x_nb 56 0 = 3 := by decide
  have n1 : x_nb 56 1 = 4 := by decide
  have n2 : x_nb 56 2 = 5 := by decide
  simp [p_d3, p_C, p_ce, hR, hG, n0, n1, n2]
theorem q_dx_3_3_0 {F : xM} (hR : F 0 3 = 3) (hG : F 0 2 = 3) (h0 : 1 ≤ F 2 0) : p_d3 (p_C F 49) ≠ 0 := by
  have n0 : x_nb 49 0 = 0 := by decide
  have n1 : x_nb 49 1 = 4 := by decide
  have n2 : x_nb 49 2 = 5 := by decide
  simp [p_d3, p_C, p_ce, hR, hG, n0, n1, n2]
  try omega
theorem q_dx_3_3_1 {F : xM} (hR : F 0 3 = 3) (hG : F 0 2 = 3) (h0 : 1 ≤ F 2 1) : p_d3 (p_C F 41) ≠ 0 := by
  have n0 : x_nb 41 0 = 0 := by decide
  have n1 : x_nb 41 1 = 3 := by decide
  have n2 : x_nb 41 2 = 5 := by decide
  simp [p_d3, p_C, p_ce, hR, hG, n0, n1, n2]
  try omega
theorem q_dx_3_3_2 {F : xM} (hR : F 0 3 = 3) (hG : F 0 2 = 3) (h0 : 1 ≤ F 2 2) : p_d3 (p_C F 25) ≠ 0 := by
  have n0 : x_nb 25 0 = 0 := by decide
  have n1 : x_nb 25 1 = 3 := by decide
  have n2 : x_nb 25 2 = 4 := by decide
  simp [p_d3, p_C, p_ce, hR, hG, n0, n1, n2]
  try omega
theorem q_dx_4_1_a {F : xM} (hR : F 0 3 = 4) (hG : F 0 2 = 1) : p_d3 (p_C F 16) ≠ 0 := by
  have n0 : x_nb 16 0 = 4 := by decide
  have n1 : x_nb 16 1 = 7 := by decide
  have n2 : x_nb 16 2 = 7 := by decide
  simp [p_d3, p_C, p_ce, hR, hG, n0, n1, n2]
theorem q_dx_4_1_0 {F : xM} (hR : F 0 3 = 4) (hG : F 0 2 = 1) (h0 : 1 ≤ F 2 0) : p_d3 (p_C F 1) ≠ 0 := by
  have n0 : x_nb 1 0 = 0 := by decide
  have n1 : x_nb 1 1 = 7 := by decide
  have n2 : x_nb 1 2 = 7 := by decide
  simp [p_d3, p_C, p_ce, hR, hG, n0, n1, n2]
  try omega
theorem q_dx_4_2_a {F : xM} (hR : F 0 3 = 4) (hG : F 0 2 = 2) : p_d3 (p_C F 48) ≠ 0 := by
  have n0 : x_nb 48 0 = 4 := by decide
  have n1 : x_nb 48 1 = 5 := by decide
  have n2 : x_nb 48 2 = 7 := by decide
  simp [p_d3, p_C, p_ce, hR, hG, n0, n1, n2]
theorem q_dx_4_2_0 {F : xM} (hR : F 0 3 = 4) (hG : F 0 2 = 2) (h0 : 1 ≤ F 2 0) : p_d3 (p_C F 33) ≠ 0 := by
  have n0 : x_nb 33 0 = 0 := by decide
  have n1 : x_nb 33 1 = 5 := by decide
  have n2 : x_nb 33 2 = 7 := by decide
  simp [p_d3, p_C, p_ce, hR, hG, n0, n1, n2]
  try omega
theorem q_dx_4_2_1 {F : xM} (hR : F 0 3 = 4) (hG : F 0 2 = 2) (h0 : 1 ≤ F 2 1) : p_d3 (p_C F 17) ≠ 0 := by
  have n0 : x_nb 17 0 = 0 := by decide
  have n1 : x_nb 17 1 = 4 := by decide
  have n2 : x_nb 17 2 = 7 := by decide
  simp [p_d3, p_C, p_ce, hR, hG, n0, n1, n2]
  try omega
theorem q_dx_4_3_a {F : xM} (hR : F 0 3 = 4) (hG : F 0 2 = 3) : p_d3 (p_C F 112) ≠ 0 := by
  have n0 : x_nb 112 0 = 4 := by decide
  have n1 : x_nb 112 1 = 5 := by decide
  have n2 : x_nb 112 2 = 6 := by decide
  simp [p_d3, p_C, p_ce, hR, hG, n0, n1, n2]
theorem q_dx_4_3_0 {F : xM} (hR : F 0 3 = 4) (hG : F 0 2 = 3) (h0 : 1 ≤ F 2 0) : p_d3 (p_C F 97) ≠ 0 := by
  have n0 : x_nb 97 0 = 0 := by decide
  have n1 : x_nb 97 1 = 5 := by decide
  have n2 : x_nb 97 2 = 6 := by decide
  simp [p_d3, p_C, p_ce, hR, hG, n0, n1, n2]
  try omega
theorem q_dx_4_3_1 {F : xM} (hR : F 0 3 = 4) (hG : F 0 2 = 3) (h0 : 1 ≤ F 2 1) : p_d3 (p_C F 81) ≠ 0 := by
  have n0 : x_nb 81 0 = 0 := by decide
  have n1 : x_nb 81 1 = 4 := by decide
  have n2 : x_nb 81 2 = 6 := by decide
  simp [p_d3, p_C, p_ce, hR, hG, n0, n1, n2]
  try omega
theorem q_dx_4_3_2 {F : xM} (hR : F 0 3 = 4) (hG : F 0 2 = 3) (h0 : 1 ≤ F 2 2) : p_d3 (p_C F 49) ≠ 0 := by
  have n0 : x_nb 49 0 = 0 := by decide
  have n1 : x_nb 49 1 = 4 := by decide
  have n2 : x_nb 49 2 = 5 := by decide
  simp [p_d3, p_C, p_ce, hR, hG, n0, n1, n2]
  try omega
theorem q_dexA {F : xM} (hF : p_wf F) : ∃ s, s < 2 ^ p_pr F ∧ (x_cn s 7 : Int) = F 0 2 ∧ p_d3 (p_C F s) ≠ 0 ∧ ∀ r : Nat, (r : Int) < F 0 3 → s / 2 ^ r % 2 = 0 := by
  have hg := hF.2.2.1
  have hr := hF.2.2.2.1
  have c1 : F 0 3 = 1 ∨ F 0 3 = 2 ∨ F 0 3 = 3 ∨ F 0 3 = 4 := by omega
  have c2 : F 0 2 = 1 ∨ F 0 2 = 2 ∨ F 0 2 = 3 := by omega
  rcases c1 with hR | hR | hR | hR <;> rcases c2 with hG | hG | hG
  · have ep : p_pr F = 2 := by unfold p_pr; rw [hR, hG]; rfl
    rw [ep, hR, hG]
    refine ⟨2, by decide, by decide, q_dx_1_1_a hR hG, fun r h => ?_⟩
    have e : r = 0 := by omega
    subst e; decide
  · have ep : p_pr F = 3 := by unfold p_pr; rw [hR, hG]; rfl
    rw [ep, hR, hG]
    refine ⟨6, by decide, by decide, q_dx_1_2_a hR hG, fun r h => ?_⟩
    have e : r = 0 := by omega
    subst e; decide
  · have ep : p_pr F = 4 := by unfold p_pr; rw [hR, hG]; rfl
    rw [ep, hR, hG]
    refine ⟨14, by decide, by decide, q_dx_1_3_a hR hG, fun r h => ?_⟩
    have e : r = 0 := by omega
    subst e; decide
  · have ep : p_pr F = 3 := by unfold p_pr; rw [hR, hG]; rfl
    rw [ep, hR, hG]
    refine ⟨4, by decide, by decide, q_dx_2_1_a hR hG, fun r h => ?_⟩
    have : r = 0 ∨ r = 1 := by omega
    rcases this with e | e <;> subst e <;> decide
  · have ep : p_pr F = 4 := by unfold p_pr; rw [hR, hG]; rfl
    rw [ep, hR, hG]
    refine ⟨12, by decide, by decide, q_dx_2_2_a hR hG, fun r h => ?_⟩
    have : r = 0 ∨ r = 1 := by omega
    rcases this with e | e <;> subst e <;> decide
  · have ep : p_pr F = 5 := by unfold p_pr; rw [hR, hG]; rfl
    rw [ep, hR, hG]
    refine ⟨28, by decide, by decide, q_dx_2_3_a hR hG, fun r h => ?_⟩
    have : r = 0 ∨ r = 1 := by omega
    rcases this with e | e <;> subst e <;> decide
  · have ep : p_pr F = 4 := by unfold p_pr; rw [hR, hG]; rfl
    rw [ep, hR, hG]
    refine ⟨8, by decide, by decide, q_dx_3_1_a hR hG, fun r h => ?_⟩
    have : r = 0 ∨ r = 1 ∨ r = 2 := by omega
    rcases this with e | e | e <;> subst e <;> decide
  · have ep : p_pr F = 5 := by unfold p_pr; rw [hR, hG]; rfl
    rw [ep, hR, hG]
    refine ⟨24, by decide, by decide, q_dx_3_2_a hR hG, fun r h => ?_⟩
    have : r = 0 ∨ r = 1 ∨ r = 2 := by omega
    rcases this with e | e | e <;> subst e <;> decide
  · have ep : p_pr F = 6 := by unfold p_pr; rw [hR, hG]; rfl
    rw [ep, hR, hG]
    refine ⟨56, by decide, by decide, q_dx_3_3_a hR hG, fun r h => ?_⟩
    have : r = 0 ∨ r = 1 ∨ r = 2 := by omega
    rcases this with e | e | e <;> subst e <;> decide
  · have ep : p_pr F = 5 := by unfold p_pr; rw [hR, hG]; rfl
    rw [ep, hR, hG]
    refine ⟨16, by decide, by decide, q_dx_4_1_a hR hG, fun r h => ?_⟩
    have : r = 0 ∨ r = 1 ∨ r = 2 ∨ r = 3 := by omega
    rcases this with e | e | e | e <;> subst e <;> decide
  · have ep : p_pr F = 6 := by unfold p_pr; rw [hR, hG]; rfl
    rw [ep, hR, hG]
    refine ⟨48, by decide, by decide, q_dx_4_2_a hR hG, fun r h => ?_⟩
    have : r = 0 ∨ r = 1 ∨ r = 2 ∨ r = 3 := by omega
    rcases this with e | e | e | e <;> subst e <;> decide
  · have ep : p_pr F = 7 := by unfold p_pr; rw [hR, hG]; rfl
    rw [ep, hR, hG]
    refine ⟨112, by decide, by decide, q_dx_4_3_a hR hG, fun r h => ?_⟩
    have : r = 0 ∨ r = 1 ∨ r = 2 ∨ r = 3 := by omega
    rcases this with e | e | e | e <;> subst e <;> decide
theorem q_dexB {F : xM} (hF : p_wf F) {j : Int} (hj : 0 ≤ j ∧ j < F 0 2) : ∃ s, s < 2 ^ p_pr F ∧ (x_cn s 7 : Int) = F 0 2 ∧ p_d3 (p_C F s) ≠ 0 ∧ (∀ r : Nat, 1 ≤ r → (r : Int) < F 0 3 → s / 2 ^ r % 2 = 0) ∧ s / 2 ^ 0 % 2 = 1 ∧ s / 2 ^ (F 0 3 + j).toNat % 2 = 0 := by
  have hg := hF.2.2.1
  have hr := hF.2.2.2.1
  have hN := hF.2.2.2.2.2.2.1
  have c1 : F 0 3 = 1 ∨ F 0 3 = 2 ∨ F 0 3 = 3 ∨ F 0 3 = 4 := by omega
  have c2 : (F 0 2 = 1 ∧ j = 0) ∨ (F 0 2 = 2 ∧ j = 0) ∨ (F 0 2 = 2 ∧ j = 1) ∨ (F 0 2 = 3 ∧ j = 0) ∨ (F 0 2 = 3 ∧ j = 1) ∨ (F 0 2 = 3 ∧ j = 2) := by omega
  rcases c1 with hR | hR | hR | hR <;> rcases c2 with ⟨hG, ej⟩ | ⟨hG, ej⟩ | ⟨hG, ej⟩ | ⟨hG, ej⟩ | ⟨hG, ej⟩ | ⟨hG, ej⟩
  · have ep : p_pr F = 2 := by unfold p_pr; rw [hR, hG]; rfl
    rw [ep, hR, hG, ej]
    refine ⟨1, by decide, by decide, q_dx_1_1_0 hR hG (hN 0 (by omega) (by omega)), fun r h1 h => ?_, by decide, by decide⟩
    · omega
  · have ep : p_pr F = 3 := by unfold p_pr; rw [hR, hG]; rfl
    rw [ep, hR, hG, ej]
    refine ⟨5, by decide, by decide, q_dx_1_2_0 hR hG (hN 0 (by omega) (by omega)), fun r h1 h => ?_, by decide, by decide⟩
    · omega
  · have ep : p_pr F = 3 := by unfold p_pr; rw [hR, hG]; rfl
    rw [ep, hR, hG, ej]
    refine ⟨3, by decide, by decide, q_dx_1_2_1 hR hG (hN 1 (by omega) (by omega)), fun r h1 h => ?_, by decide, by decide⟩
    · omega
  · have ep : p_pr F = 4 := by unfold p_pr; rw [hR, hG]; rfl
    rw [ep, hR, hG, ej]
    refine ⟨13, by decide, by decide, q_dx_1_3_0 hR hG (hN 0 (by omega) (by omega)), fun r h1 h => ?_, by decide, by decide⟩
    · omega
  · have ep : p_pr F = 4 := by unfold p_pr; rw [hR, hG]; rfl
    rw [ep, hR, hG, ej]
    refine ⟨11, by decide, by decide, q_dx_1_3_1 hR hG (hN 1 (by omega) (by omega)), fun r h1 h => ?_, by decide, by decide⟩
    · omega
  · have ep : p_pr F = 4 := by unfold p_pr; rw [hR, hG]; rfl
    rw [ep, hR, hG, ej]
    refine ⟨7, by decide, by decide, q_dx_1_3_2 hR hG (hN 2 (by omega) (by omega)), fun r h1 h => ?_, by decide, by decide⟩
    · omega
  · have ep : p_pr F = 3 := by unfold p_pr; rw [hR, hG]; rfl
    rw [ep, hR, hG, ej]
    refine ⟨1, by decide, by decide, q_dx_2_1_0 hR hG (hN 0 (by omega) (by omega)), fun r h1 h => ?_, by decide, by decide⟩
    · have e : r = 1 := by omega
      subst e; decide
  · have ep : p_pr F = 4 := by unfold p_pr; rw [hR, hG]; rfl
    rw [ep, hR, hG, ej]
    refine ⟨9, by decide, by decide, q_dx_2_2_0 hR hG (hN 0 (by omega) (by omega)), fun r h1 h => ?_, by decide, by decide⟩
    · have e : r = 1 := by omega
      subst e; decide
  · have ep : p_pr F = 4 := by unfold p_pr; rw [hR, hG]; rfl
    rw [ep, hR, hG, ej]
    refine ⟨5, by decide, by decide, q_dx_2_2_1 hR hG (hN 1 (by omega) (by omega)), fun r h1 h => ?_, by decide, by decide⟩
    · have e : r = 1 := by omega
      subst e; decide
  · have ep : p_pr F = 5 := by unfold p_pr; rw [hR, hG]; rfl
    rw [ep, hR, hG, ej]
    refine ⟨25, by decide, by decide, q_dx_2_3_0 hR hG (hN 0 (by omega) (by omega)), fun r h1 h => ?_, by decide, by decide⟩
    · have e : r = 1 := by omega
      subst e; decide
  · have ep : p_pr F = 5 := by unfold p_pr; rw [hR, hG]; rfl
    rw [ep, hR, hG, ej]
    refine ⟨21, by decide, by decide, q_dx_2_3_1 hR hG (hN 1 (by omega) (by omega)), fun r h1 h => ?_, by decide, by decide⟩
    · have e : r = 1 := by omega
      subst e; decide
  · have ep : p_pr F = 5 := by unfold p_pr; rw [hR, hG]; rfl
    rw [ep, hR, hG, ej]
    refine ⟨13, by decide, by decide, q_dx_2_3_2 hR hG (hN 2 (by omega) (by omega)), fun r h1 h => ?_, by decide, by decide⟩
    · have e : r = 1 := by omega
      subst e; decide
  · have ep : p_pr F = 4 := by unfold p_pr; rw [hR, hG]; rfl
    rw [ep, hR, hG, ej]
    refine ⟨1, by decide, by decide, q_dx_3_1_0 hR hG (hN 0 (by omega) (by omega)), fun r h1 h => ?_, by decide, by decide⟩
    · have : r = 1 ∨ r = 2 := by omega
      rcases this with e | e <;> subst e <;> decide
  · have ep : p_pr F = 5 := by unfold p_pr; rw [hR, hG]; rfl
    rw [ep, hR, hG, ej]
    refine ⟨17, by decide, by decide, q_dx_3_2_0 hR hG (hN 0 (by omega) (by omega)), fun r h1 h => ?_, by decide, by decide⟩
    · have : r = 1 ∨ r = 2 := by omega
      rcases this with e | e <;> subst e <;> decide
  · have ep : p_pr F = 5 := by unfold p_pr; rw [hR, hG]; rfl
    rw [ep, hR, hG, ej]
    refine ⟨9, by decide, by decide, q_dx_3_2_1 hR hG (hN 1 (by omega) (by omega)), fun r h1 h => ?_, by decide, by decide⟩
    · have : r = 1 ∨ r = 2 := by omega
      rcases this with e | e <;> subst e <;> decide
  · have ep : p_pr F = 6 := by unfold p_pr; rw [hR, hG]; rfl
    rw [ep, hR, hG, ej]
    refine ⟨49, by decide, by decide, q_dx_3_3_0 hR hG (hN 0 (by omega) (by omega)), fun r h1 h => ?_, by decide, by decide⟩
    · have : r = 1 ∨ r = 2 := by omega
      rcases this with e | e <;> subst e <;> decide
  · have ep : p_pr F = 6 := by unfold p_pr; rw [hR, hG]; rfl
    rw [ep, hR, hG, ej]
    refine ⟨41, by decide, by decide, q_dx_3_3_1 hR hG (hN 1 (by omega) (by omega)), fun r h1 h => ?_, by decide, by decide⟩
    · have : r = 1 ∨ r = 2 := by omega
      rcases this with e | e <;> subst e <;> decide
  · have ep : p_pr F = 6 := by unfold p_pr; rw [hR, hG]; rfl
    rw [ep, hR, hG, ej]
    refine ⟨25, by decide, by decide, q_dx_3_3_2 hR hG (hN 2 (by omega) (by omega)), fun r h1 h => ?_, by decide, by decide⟩
    · have : r = 1 ∨ r = 2 := by omega
      rcases this with e | e <;> subst e <;> decide
  · have ep : p_pr F = 5 := by unfold p_pr; rw [hR, hG]; rfl
    rw [ep, hR, hG, ej]
    refine ⟨1, by decide, by decide, q_dx_4_1_0 hR hG (hN 0 (by omega) (by omega)), fun r h1 h => ?_, by decide, by decide⟩
    · have : r = 1 ∨ r = 2 ∨ r = 3 := by omega
      rcases this with e | e | e <;> subst e <;> decide
  · have ep : p_pr F = 6 := by unfold p_pr; rw [hR, hG]; rfl
    rw [ep, hR, hG, ej]
    refine ⟨33, by decide, by decide, q_dx_4_2_0 hR hG (hN 0 (by omega) (by omega)), fun r h1 h => ?_, by decide, by decide⟩
    · have : r = 1 ∨ r = 2 ∨ r = 3 := by omega
      rcases this with e | e | e <;> subst e <;> decide
  · have ep : p_pr F = 6 := by unfold p_pr; rw [hR, hG]; rfl
    rw [ep, hR, hG, ej]
    refine ⟨17, by decide, by decide, q_dx_4_2_1 hR hG (hN 1 (by omega) (by omega)), fun r h1 h => ?_, by decide, by decide⟩
    · have : r = 1 ∨ r = 2 ∨ r = 3 := by omega
      rcases this with e | e | e <;> subst e <;> decide
  · have ep : p_pr F = 7 := by unfold p_pr; rw [hR, hG]; rfl
    rw [ep, hR, hG, ej]
    refine ⟨97, by decide, by decide, q_dx_4_3_0 hR hG (hN 0 (by omega) (by omega)), fun r h1 h => ?_, by decide, by decide⟩
    · have : r = 1 ∨ r = 2 ∨ r = 3 := by omega
      rcases this with e | e | e <;> subst e <;> decide
  · have ep : p_pr F = 7 := by unfold p_pr; rw [hR, hG]; rfl
    rw [ep, hR, hG, ej]
    refine ⟨81, by decide, by decide, q_dx_4_3_1 hR hG (hN 1 (by omega) (by omega)), fun r h1 h => ?_, by decide, by decide⟩
    · have : r = 1 ∨ r = 2 ∨ r = 3 := by omega
      rcases this with e | e | e <;> subst e <;> decide
  · have ep : p_pr F = 7 := by unfold p_pr; rw [hR, hG]; rfl
    rw [ep, hR, hG, ej]
    refine ⟨49, by decide, by decide, q_dx_4_3_2 hR hG (hN 2 (by omega) (by omega)), fun r h1 h => ?_, by decide, by decide⟩
    · have : r = 1 ∨ r = 2 ∨ r = 3 := by omega
      rcases this with e | e | e <;> subst e <;> decide
theorem q_sm_one {h : Int → Int} : ∀ n : Nat, 1 ≤ n → (∀ r : Int, 1 ≤ r → r < n → h r = 0) → x_sm h n = h 0 := by
  intro n
  induction n with
  | zero => intro w; omega
  | succ n ih =>
    intro w hz
    show x_sm h n + h n = h 0
    by_cases e : n = 0
    · rw [e]
      show (0 : Int) + h ((0 : Nat) : Int) = h 0
      rw [Int.zero_add]
      rfl
    · rw [ih (by omega) (fun r a b => hz r a (by omega)), hz n (by omega) (by omega), Int.add_zero]
theorem q_mx_ex {b c : Int → Int} : ∀ n : Nat, 1 ≤ n → (∀ k : Int, 0 ≤ k → k < n → 0 < b k) → ∃ k : Int, (0 ≤ k ∧ k < n) ∧ ∀ j : Int, 0 ≤ j → j < n → c j * b k ≤ c k * b j := by
  intro n h1 hb
  obtain ⟨k, hk, hm⟩ := q_min_ex (b := fun k => b k) (c := fun k => - c k) n h1 (fun k hk => hb k (by omega) (by omega))
  refine ⟨k, by omega, fun j j1 j2 => ?_⟩
  have := hm j.toNat (by omega)
  try dsimp only at this
  rw [show ((j.toNat : Nat) : Int) = j by omega, Int.neg_mul, Int.neg_mul] at this
  omega
theorem p_dok_ex {F : xM} (hF : p_wf F) (p q : Int) : ∃ s, s < 2 ^ p_pr F ∧ p_dok F p q s := by
  have hg := hF.2.2.1
  have hr := hF.2.2.2.1
  have hN := hF.2.2.2.2.2.2.1
  have ep : ((p_pr F : Nat) : Int) = F 0 3 + F 0 2 := by unfold p_pr; omega
  have h7 := (p_pr_le hF).1
  have gsl : ∀ (Y : Int → Int) (g : Int), (∀ r, 1 ≤ r → r < F 0 3 → Y r = 0) → p_gs F Y g = Y 0 * F 2 g := by
    intro Y g hY
    unfold p_gs
    rw [q_sm_one _ (by omega) (fun r a b => ?_)]
    · show Y 0 * F 2 (3 * 0 + g) = _
      rw [Int.mul_zero, Int.zero_add]
    · show Y r * _ = 0
      rw [hY r a (by omega), Int.zero_mul]
  by_cases hall : ∀ j, 0 ≤ j → j < F 0 2 → p_du F p q j ≤ 0
  · obtain ⟨s, h1, h2, h3, h4⟩ := q_dexA hF
    have hb := p_b_pos h3
    refine ⟨s, h1, h2, h3, (p_fea hF h1 h2).mpr (fun i hi hbit => ⟨fun a => ?_, fun a => ?_⟩)⟩
    · have := h4 i a
      omega
    · have e := p_dual_eq hF (p := p) (q := q) h1 h2 (g := i - F 0 3) (by omega)
      rw [show (F 0 3 + ((i : Int) - F 0 3)).toNat = i by omega, if_pos hbit, gsl _ _ (fun r a b => by unfold p_Y; rw [if_neg (by have := h4 r.toNat (by omega); omega)])] at e
      have y0 : p_Y F p q s 0 = 0 := by
        unfold p_Y
        rw [if_neg (by have := h4 0 (by omega); show ¬ s / 2 ^ 0 % 2 = 1; omega)]
      rw [y0, Int.zero_mul, Int.zero_add] at e
      rw [e]
      have := Int.mul_le_mul_of_nonneg_right (hall ((i : Int) - F 0 3) (by omega) (by omega)) (Int.le_of_lt hb)
      omega
  · obtain ⟨j, ⟨j1, j2⟩, hmx⟩ := q_mx_ex (b := fun k => F 2 k) (c := fun k => p_du F p q k) (F 0 2).toNat (by omega) (fun k a b => by have := hN k a (by omega); omega)
    have hmx' : ∀ g, 0 ≤ g → g < F 0 2 → p_du F p q g * F 2 j ≤ p_du F p q j * F 2 g := fun g a b => hmx g a (by omega)
    have hpos : 0 < p_du F p q j := by
      apply Classical.byContradiction
      intro hc
      refine hall (fun g a b => ?_)
      have m1 := hmx' g a b
      have n1 := hN g a (by omega)
      have n2 := hN j (by omega) (by omega)
      have m2 : p_du F p q j * F 2 g ≤ 0 := by
        have := Int.mul_le_mul_of_nonneg_right (show p_du F p q j ≤ 0 by omega) (show 0 ≤ F 2 g by omega)
        omega
      apply Classical.byContradiction
      intro hd
      have m3 := Int.mul_pos (show 0 < p_du F p q g by omega) (show 0 < F 2 j by omega)
      omega
    obtain ⟨s, h1, h2, h3, h4, h5, h6⟩ := q_dexB hF (j := j) ⟨j1, by omega⟩
    have hb := p_b_pos h3
    have n2 := hN j (by omega) (by omega)
    have gs : ∀ g, p_gs F (p_Y F p q s) g = p_Y F p q s 0 * F 2 g := fun g => gsl _ _ (fun r a b => by unfold p_Y; rw [if_neg (by have := h4 r.toNat (by omega) (by omega); omega)])
    have e := p_dual_eq hF (p := p) (q := q) h1 h2 (g := j) (by omega)
    rw [if_neg (by omega), gs, Int.add_zero] at e
    have yp : 0 < p_Y F p q s 0 := by
      apply Classical.byContradiction
      intro hc
      have m1 := Int.mul_pos hpos hb
      have m2 := Int.mul_le_mul_of_nonneg_right (show p_Y F p q s 0 ≤ 0 by omega) (show 0 ≤ F 2 j by omega)
      omega
    refine ⟨s, h1, h2, h3, (p_fea hF h1 h2).mpr (fun i hi hbit => ⟨fun a => ?_, fun a => ?_⟩)⟩
    · by_cases e0 : i = 0
      · have : p_Y F p q s 0 = p_W F p q s (x_cn s 0) := by
          unfold p_Y
          exact if_pos h5
        rw [e0, ← this]
        omega
      · have := h4 i (by omega) a
        omega
    · have e2 := p_dual_eq hF (p := p) (q := q) h1 h2 (g := i - F 0 3) (by omega)
      rw [show (F 0 3 + ((i : Int) - F 0 3)).toNat = i by omega, if_pos hbit, gs] at e2
      have m1 := hmx' ((i : Int) - F 0 3) (by omega) (by omega)
      generalize p_W F p q s (x_cn s i) = W at *
      generalize p_Y F p q s 0 = Y at *
      generalize p_b (p_C F s) = b at *
      generalize p_du F p q ((i : Int) - F 0 3) = d1 at *
      generalize p_du F p q j = d2 at *
      generalize F 2 ((i : Int) - F 0 3) = N1 at *
      generalize F 2 j = N2 at *
      apply Classical.byContradiction
      intro hc
      have m2 := Int.mul_pos (show 0 < W by omega) (show 0 < N2 by omega)
      have m3 := Int.mul_le_mul_of_nonneg_right m1 (Int.le_of_lt hb)
      have m4 : W * N2 = d1 * N2 * b - d2 * N1 * b := by
        have : (Y * N1 + W) * N2 = d1 * b * N2 := by rw [e2]
        grind
      omega
