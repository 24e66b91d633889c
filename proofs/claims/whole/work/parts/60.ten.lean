/-! There is a plan; there are at most ten -/
theorem p_T_mono (F : xM) {s t : Nat} (h : s ≤ t) : (p_T F s).1 ≤ (p_T F t).1 := by
  induction h with
  | refl => exact Nat.le_refl _
  | step hk ih =>
    rename_i k
    refine Nat.le_trans ih ?_
    show (p_T F k).1 ≤ (p_if (p_new F k (p_T F k)) ((p_T F k).1 + 1, p_put (p_T F k).2 (p_pos (p_T F k).2 (p_en F k) (p_T F k).1) (p_en F k)) (p_T F k)).1
    by_cases c : p_new F k (p_T F k)
    · rw [p_if_t c]; exact Nat.le_succ _
    · rw [p_if_f c]; exact Nat.le_refl _
theorem x_all3 {P : Nat → Nat → Nat → Bool} (a b c : Nat) (h : (List.range a).all (fun r => (List.range b).all (fun g => (List.range c).all (P r g))) = true) : ∀ r, r < a → ∀ g, g < b → ∀ i, i < c → P r g i = true := by
  intro r hr g hg i hi
  exact List.all_eq_true.mp (List.all_eq_true.mp (List.all_eq_true.mp h r (List.mem_range.mpr hr)) g (List.mem_range.mpr hg)) i (List.mem_range.mpr hi)
theorem x_s0_cn {R G : Nat} (hR : R < 5) (hG : G < 4) : x_cn ((2 ^ G - 1) * 2 ^ R) 7 = G ∧ (2 ^ G - 1) * 2 ^ R < 2 ^ (R + G) := of_decide_eq_true (x_all2 (P := fun R G => decide (x_cn ((2 ^ G - 1) * 2 ^ R) 7 = G ∧ (2 ^ G - 1) * 2 ^ R < 2 ^ (R + G))) 5 4 (by decide +kernel) R hR G hG)
theorem x_s0_nb {R G i : Nat} (hR : R < 5) (hG : G < 4) (hi : i < 3) (h : i < G) : x_nb ((2 ^ G - 1) * 2 ^ R) i = R + i := by
  have q := x_all3 (P := fun R G i => !(decide (i < G)) || decide (x_nb ((2 ^ G - 1) * 2 ^ R) i = R + i)) 5 4 3 (by decide +kernel) R hR G hG i hi
  simp only [h, decide_true, Bool.not_true, Bool.false_or, decide_eq_true_eq] at q
  exact q
theorem p_one_ok : p_one := by
  intro F hF
  have hg := hF.2.2.1
  have hr := hF.2.2.2.1
  obtain ⟨G, hG⟩ : ∃ G : Nat, F 0 2 = G := ⟨(F 0 2).toNat, by omega⟩
  obtain ⟨R, hR⟩ : ∃ R : Nat, F 0 3 = R := ⟨(F 0 3).toNat, by omega⟩
  obtain ⟨c1, c2⟩ := x_s0_cn (R := R) (G := G) (by omega) (by omega)
  generalize hs : (2 ^ G - 1) * 2 ^ R = s at *
  have hC : ∀ k, 0 ≤ k → k < 9 → p_C F s k = (fun k : Int => if k / 3 = k % 3 then 1 else 0) k := by
    intro k k1 k2
    unfold p_C
    dsimp only
    by_cases c : k / 3 < F 0 2 ∧ k % 3 < F 0 2
    · rw [if_pos c]
      have nb := x_s0_nb (R := R) (G := G) (i := (k / 3).toNat) (by omega) (by omega) (by omega) (by omega)
      rw [hs] at nb
      rw [nb]
      unfold p_ce
      rw [if_pos (by omega)]
      exact x_ite_cg (by omega) _ _
    · rw [if_neg c]
  have hRR : ∀ k, 0 ≤ k → k < 3 → p_R F s k = (fun _ : Int => (0 : Int)) k := by
    intro k k1 k2
    unfold p_R
    dsimp only
    by_cases c : k < F 0 2
    · rw [if_pos c]
      have nb := x_s0_nb (R := R) (G := G) (i := k.toNat) (by omega) (by omega) (by omega) (by omega)
      rw [hs] at nb
      rw [nb]
      unfold p_ri
      rw [if_pos (by omega)]
    · rw [if_neg c]
  have d1 : p_d3 (p_C F s) = 1 := by
    rw [p_d3_cg hC]
    decide
  have hx : ∀ c, 0 ≤ c → c < 3 → p_x (p_C F s) (p_R F s) c = 0 := by
    intro c a b
    rw [p_x_cg c hC hRR]
    have : c = 0 ∨ c = 1 ∨ c = 2 := by omega
    rcases this with e | e | e <;> subst e <;> decide
  have hb : p_b (p_C F s) = 1 := by
    unfold p_b
    rw [d1]
    decide
  have hok : p_ok F s := by
    refine ⟨by rw [c1]; exact hG.symm, by rw [d1]; decide, fun g a b => ?_, fun r a b => ?_⟩
    · rw [hx g a (by omega)]; exact Int.le_refl _
    · have : p_sum F (p_x (p_C F s) (p_R F s)) r = 0 := by
        unfold p_sum
        refine x_sm_zero _ (fun i a b => ?_)
        rw [hx i a (by omega), Int.mul_zero]
      rw [this, hb, Int.mul_one]
      exact (hF.2.2.2.2.2.2.2 r a (by omega)).1
  have hpr : p_pr F = R + G := by unfold p_pr; omega
  unfold p_n
  have mono := p_T_mono F (s := s + 1) (t := 2 ^ p_pr F) (by rw [hpr]; omega)
  refine Nat.le_trans ?_ mono
  show 1 ≤ (p_if (p_new F s (p_T F s)) ((p_T F s).1 + 1, p_put (p_T F s).2 (p_pos (p_T F s).2 (p_en F s) (p_T F s).1) (p_en F s)) (p_T F s)).1
  by_cases c : p_new F s (p_T F s)
  · rw [p_if_t c]
    show 1 ≤ (p_T F s).1 + 1
    omega
  · rw [p_if_f c]
    apply Classical.byContradiction
    intro h0
    exact c ⟨hok, fun k a b => by omega⟩
/-- the edges of a corner -/
def q_K0 (C : Int → Int) : Int := 1000000000000 * (C 4 * C 8 - C 5 * C 7) + 1000000 * (C 5 * C 6 - C 3 * C 8) + (C 3 * C 7 - C 4 * C 6)
def q_K1 (C : Int → Int) : Int := 1000000000000 * (C 2 * C 7 - C 1 * C 8) + 1000000 * (C 0 * C 8 - C 2 * C 6) + (C 1 * C 6 - C 0 * C 7)
def q_K2 (C : Int → Int) : Int := 1000000000000 * (C 1 * C 5 - C 2 * C 4) + 1000000 * (C 2 * C 3 - C 0 * C 5) + (C 0 * C 4 - C 1 * C 3)
theorem q_edge (C y : Int → Int) : p_d3 C * (1000000000000 * y 0 + 1000000 * y 1 + y 2) = q_K0 C * (C 0 * y 0 + C 1 * y 1 + C 2 * y 2) + q_K1 C * (C 3 * y 0 + C 4 * y 1 + C 5 * y 2) + q_K2 C * (C 6 * y 0 + C 7 * y 1 + C 8 * y 2) := by
  unfold p_d3 q_K0 q_K1 q_K2
  grind
theorem q_K_ne {C : Int → Int} (hc : ∀ k, 0 ≤ k → k < 9 → -3 ≤ C k ∧ C k ≤ 3) (hd : p_d3 C ≠ 0) : q_K0 C ≠ 0 ∧ q_K1 C ≠ 0 ∧ q_K2 C ≠ 0 := by
  have b : ∀ i j k h : Int, 0 ≤ i → i < 9 → 0 ≤ j → j < 9 → 0 ≤ k → k < 9 → 0 ≤ h → h < 9 → -18 ≤ C i * C j - C k * C h ∧ C i * C j - C k * C h ≤ 18 := by
    intro i j k h i1 i2 j1 j2 k1 k2 h1 h2
    have m1 := x_mb (A := 3) (B := 3) (hc i i1 i2) (hc j j1 j2)
    have m2 := x_mb (A := 3) (B := 3) (hc k k1 k2) (hc h h1 h2)
    omega
  refine ⟨fun w => hd ?_, fun w => hd ?_, fun w => hd ?_⟩
  · unfold q_K0 at w
    have a1 := b 4 8 5 7 (by omega) (by omega) (by omega) (by omega) (by omega) (by omega) (by omega) (by omega)
    have a2 := b 5 6 3 8 (by omega) (by omega) (by omega) (by omega) (by omega) (by omega) (by omega) (by omega)
    have a3 := b 3 7 4 6 (by omega) (by omega) (by omega) (by omega) (by omega) (by omega) (by omega) (by omega)
    have z1 : C 4 * C 8 - C 5 * C 7 = 0 := by omega
    have z2 : C 5 * C 6 - C 3 * C 8 = 0 := by omega
    have z3 : C 3 * C 7 - C 4 * C 6 = 0 := by omega
    unfold p_d3
    rw [z1, z2, z3]; omega
  · unfold q_K1 at w
    have a1 := b 2 7 1 8 (by omega) (by omega) (by omega) (by omega) (by omega) (by omega) (by omega) (by omega)
    have a2 := b 0 8 2 6 (by omega) (by omega) (by omega) (by omega) (by omega) (by omega) (by omega) (by omega)
    have a3 := b 1 6 0 7 (by omega) (by omega) (by omega) (by omega) (by omega) (by omega) (by omega) (by omega)
    have z1 : C 2 * C 7 - C 1 * C 8 = 0 := by omega
    have z2 : C 0 * C 8 - C 2 * C 6 = 0 := by omega
    have z3 : C 1 * C 6 - C 0 * C 7 = 0 := by omega
    have e : p_d3 C = C 3 * (C 2 * C 7 - C 1 * C 8) + C 4 * (C 0 * C 8 - C 2 * C 6) + C 5 * (C 1 * C 6 - C 0 * C 7) := by unfold p_d3; grind
    rw [e, z1, z2, z3]; omega
  · unfold q_K2 at w
    have a1 := b 1 5 2 4 (by omega) (by omega) (by omega) (by omega) (by omega) (by omega) (by omega) (by omega)
    have a2 := b 2 3 0 5 (by omega) (by omega) (by omega) (by omega) (by omega) (by omega) (by omega) (by omega)
    have a3 := b 0 4 1 3 (by omega) (by omega) (by omega) (by omega) (by omega) (by omega) (by omega) (by omega)
    have z1 : C 1 * C 5 - C 2 * C 4 = 0 := by omega
    have z2 : C 2 * C 3 - C 0 * C 5 = 0 := by omega
    have z3 : C 0 * C 4 - C 1 * C 3 = 0 := by omega
    have e : p_d3 C = C 6 * (C 1 * C 5 - C 2 * C 4) + C 7 * (C 2 * C 3 - C 0 * C 5) + C 8 * (C 0 * C 4 - C 1 * C 3) := by unfold p_d3; grind
    rw [e, z1, z2, z3]; omega
/-- signs: three numbers, two of one sign -/
theorem q_two {d k0 k1 k2 : Int} (hd : d ≠ 0) (h0 : k0 ≠ 0) (h1 : k1 ≠ 0) (h2 : k2 ≠ 0) {g : Int} (hg : g = 1 ∨ g = 2 ∨ g = 3) : ∃ (i : Int) (sg : Int), 0 ≤ i ∧ i < g ∧ (sg = 1 ∨ sg = -1) ∧ ∀ (y0 y1 y2 X : Int), 0 ≤ y0 → 0 ≤ y1 → 0 ≤ y2 → (i = 0 → y0 = 0) → (i = 1 → y1 = 0) → (i = 2 → y2 = 0) → (g ≤ 1 → y1 = 0) → (g ≤ 2 → y2 = 0) → d * X = k0 * y0 + k1 * y1 + k2 * y2 → 0 ≤ sg * X := by
  -- a sum of numbers of one sign
  have one : ∀ (e a b : Int), (e = 1 ∨ e = -1) → 0 < e * (d * a) → 0 < e * (d * b) → ∀ (y z X : Int), 0 ≤ y → 0 ≤ z → d * X = a * y + b * z → 0 ≤ e * X := by
    intro e a b he ha hb y z X hy hz hX
    have h1 := Int.mul_nonneg (Int.le_of_lt ha) hy
    have h2 := Int.mul_nonneg (Int.le_of_lt hb) hz
    have dd : 0 < d * d := by
      rcases Int.lt_or_gt_of_ne hd with w | w
      · exact Int.mul_pos_of_neg_of_neg w w
      · exact Int.mul_pos w w
    refine q_mnn dd ?_
    have : d * d * (e * X) = e * (d * a) * y + e * (d * b) * z := by
      have : d * d * (e * X) = e * d * (d * X) := by grind
      rw [this, hX]; grind
    omega
  have sgn : ∀ a : Int, a ≠ 0 → 0 < 1 * (d * a) ∨ 0 < -1 * (d * a) := by
    intro a ha
    have : d * a ≠ 0 := fun w => by rcases Int.mul_eq_zero.mp w with q | q <;> omega
    omega
  rcases hg with e | e | e
  · refine ⟨0, 1, by omega, by omega, Or.inl rfl, fun y0 y1 y2 X a b c z0 z1 z2 g1 g2 hX => ?_⟩
    rw [z0 rfl, g1 (by omega), g2 (by omega)] at hX
    have : X = 0 := by
      have h3 : d * X = 0 := by rw [hX]; omega
      exact (Int.mul_eq_zero.mp h3).resolve_left hd
    omega
  · rcases sgn k1 h1 with w | w
    · refine ⟨0, 1, by omega, by omega, Or.inl rfl, fun y0 y1 y2 X a b c z0 z1 z2 g1 g2 hX => one 1 k1 k1 (Or.inl rfl) w w y1 0 X b (by omega) (by rw [hX, z0 rfl, g2 (by omega)]; omega)⟩
    · refine ⟨0, -1, by omega, by omega, Or.inr rfl, fun y0 y1 y2 X a b c z0 z1 z2 g1 g2 hX => one (-1) k1 k1 (Or.inr rfl) w w y1 0 X b (by omega) (by rw [hX, z0 rfl, g2 (by omega)]; omega)⟩
  · rcases sgn k1 h1 with w1 | w1
    · rcases sgn k2 h2 with w2 | w2
      · exact ⟨0, 1, by omega, by omega, Or.inl rfl, fun y0 y1 y2 X a b c z0 z1 z2 g1 g2 hX => one 1 k1 k2 (Or.inl rfl) w1 w2 y1 y2 X b c (by rw [hX, z0 rfl]; omega)⟩
      · rcases sgn k0 h0 with w0 | w0
        · exact ⟨2, 1, by omega, by omega, Or.inl rfl, fun y0 y1 y2 X a b c z0 z1 z2 g1 g2 hX => one 1 k0 k1 (Or.inl rfl) w0 w1 y0 y1 X a b (by rw [hX, z2 rfl]; omega)⟩
        · exact ⟨1, -1, by omega, by omega, Or.inr rfl, fun y0 y1 y2 X a b c z0 z1 z2 g1 g2 hX => one (-1) k0 k2 (Or.inr rfl) w0 w2 y0 y2 X a c (by rw [hX, z1 rfl]; omega)⟩
    · rcases sgn k2 h2 with w2 | w2
      · rcases sgn k0 h0 with w0 | w0
        · exact ⟨1, 1, by omega, by omega, Or.inl rfl, fun y0 y1 y2 X a b c z0 z1 z2 g1 g2 hX => one 1 k0 k2 (Or.inl rfl) w0 w2 y0 y2 X a c (by rw [hX, z1 rfl]; omega)⟩
        · exact ⟨2, -1, by omega, by omega, Or.inr rfl, fun y0 y1 y2 X a b c z0 z1 z2 g1 g2 hX => one (-1) k0 k1 (Or.inr rfl) w0 w1 y0 y1 X a b (by rw [hX, z2 rfl]; omega)⟩
      · exact ⟨0, -1, by omega, by omega, Or.inr rfl, fun y0 y1 y2 X a b c z0 z1 z2 g1 g2 hX => one (-1) k1 k2 (Or.inr rfl) w1 w2 y1 y2 X b c (by rw [hX, z0 rfl]; omega)⟩
