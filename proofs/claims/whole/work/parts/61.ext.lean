/-! Each corner is the first or the last in one of its pairs -/
theorem p_dot_eq {F : xM} (hF : p_wf F) (X : Int → Int) (i : Nat) (hi : i < p_pr F) : ((i : Int) < F 0 3 → p_dot F X i = p_sum F X i ∧ p_ri F i = F 3 i) ∧ (F 0 3 ≤ (i : Int) → p_dot F X i = X (i - F 0 3) ∧ p_ri F i = 0) := by
  have hg := hF.2.2.1
  have hr := hF.2.2.2.1
  unfold p_pr at hi
  refine ⟨fun c => ⟨?_, ?_⟩, fun c => ⟨?_, ?_⟩⟩
  · unfold p_dot p_sum
    refine x_sm_cg _ (fun g g1 g2 => ?_)
    show p_ce F i g * X g = F 2 (3 * i + g) * X g
    unfold p_ce
    rw [if_neg (by omega)]
  · unfold p_ri
    rw [if_neg (by omega)]
  · unfold p_dot
    rw [← x_sm_one (X := X) (i - F 0 3) (F 0 2).toNat (by omega) (by omega)]
    refine x_sm_cg _ (fun g g1 g2 => ?_)
    show p_ce F i g * X g = (if (i : Int) - F 0 3 = g then 1 else 0) * X g
    unfold p_ce
    rw [if_pos (by omega)]
  · unfold p_ri
    rw [if_pos c]
theorem p_ext {F : xM} (hF : p_wf F) {s : Nat} (hs : s < 2 ^ p_pr F) (hok : p_ok F s) : ∃ (i : Nat) (sg : Int), (i : Int) < F 0 2 ∧ (sg = 1 ∨ sg = -1) ∧ ∀ s', s' < 2 ^ p_pr F → p_ok F s' → p_tgt F (p_x (p_C F s') (p_R F s')) (p_b (p_C F s')) (x_nb s i) = true → 0 ≤ sg * (p_v (p_en F s') * p_en F s 3 - p_v (p_en F s) * p_en F s' 3) := by
  have hg := hF.2.2.1
  have hr := hF.2.2.2.1
  have h7 := p_pr_le hF
  obtain ⟨k0, k1, k2⟩ := q_K_ne (p_C_bd hF (s := s) (by omega) hok.1) hok.2.1
  have hb := p_b_pos hok.2.1
  have sg_ne : ∀ (i : Nat) (K : Int), K ≠ 0 → K * (if (x_nb s i : Int) < F 0 3 then -1 else 1) ≠ 0 := by
    intro i K hK
    split <;> omega
  obtain ⟨i, sg, i1, i2, i3, i4⟩ := q_two hok.2.1 (sg_ne 0 _ k0) (sg_ne 1 _ k1) (sg_ne 2 _ k2) (g := F 0 2) (by omega)
  refine ⟨i.toNat, sg, by omega, i3, fun s' hs' hok' htg => ?_⟩
  have hb' := p_b_pos hok'.2.1
  -- a line of the square at the difference
  have line : ∀ j : Int, 0 ≤ j → j < 3 → p_C F s (3 * j) * (p_x (p_C F s') (p_R F s') 0 * p_b (p_C F s) - p_x (p_C F s) (p_R F s) 0 * p_b (p_C F s')) + p_C F s (3 * j + 1) * (p_x (p_C F s') (p_R F s') 1 * p_b (p_C F s) - p_x (p_C F s) (p_R F s) 1 * p_b (p_C F s')) + p_C F s (3 * j + 2) * (p_x (p_C F s') (p_R F s') 2 * p_b (p_C F s) - p_x (p_C F s) (p_R F s) 2 * p_b (p_C F s')) = if j < F 0 2 then p_b (p_C F s) * (p_dot F (p_x (p_C F s') (p_R F s')) (x_nb s j.toNat) - p_ri F (x_nb s j.toNat) * p_b (p_C F s')) else 0 := by
    intro j j1 j2
    have l1 := p_line hF (p_x_hi hF s) s j j1 j2
    have l2 := p_line hF (p_x_hi hF s') s j j1 j2
    have e : p_C F s (3 * j) * (p_x (p_C F s') (p_R F s') 0 * p_b (p_C F s) - p_x (p_C F s) (p_R F s) 0 * p_b (p_C F s')) + p_C F s (3 * j + 1) * (p_x (p_C F s') (p_R F s') 1 * p_b (p_C F s) - p_x (p_C F s) (p_R F s) 1 * p_b (p_C F s')) + p_C F s (3 * j + 2) * (p_x (p_C F s') (p_R F s') 2 * p_b (p_C F s) - p_x (p_C F s) (p_R F s) 2 * p_b (p_C F s')) = (p_C F s (3 * j) * p_x (p_C F s') (p_R F s') 0 + p_C F s (3 * j + 1) * p_x (p_C F s') (p_R F s') 1 + p_C F s (3 * j + 2) * p_x (p_C F s') (p_R F s') 2) * p_b (p_C F s) - (p_C F s (3 * j) * p_x (p_C F s) (p_R F s) 0 + p_C F s (3 * j + 1) * p_x (p_C F s) (p_R F s) 1 + p_C F s (3 * j + 2) * p_x (p_C F s) (p_R F s) 2) * p_b (p_C F s') := by grind
    rw [e, l1, l2]
    by_cases c : j < F 0 2
    · rw [if_pos c, if_pos c, if_pos c, p_x_cramer hF s j j1 c]
      grind
    · rw [if_neg c, if_neg c, if_neg c]; omega
  -- its sign
  have sgn : ∀ j : Int, 0 ≤ j → j < F 0 2 → 0 ≤ (if (x_nb s j.toNat : Int) < F 0 3 then -1 else 1) * (p_b (p_C F s) * (p_dot F (p_x (p_C F s') (p_R F s')) (x_nb s j.toNat) - p_ri F (x_nb s j.toNat) * p_b (p_C F s'))) ∧ (p_tgt F (p_x (p_C F s') (p_R F s')) (p_b (p_C F s')) (x_nb s j.toNat) = true → (if (x_nb s j.toNat : Int) < F 0 3 then -1 else 1) * (p_b (p_C F s) * (p_dot F (p_x (p_C F s') (p_R F s')) (x_nb s j.toNat) - p_ri F (x_nb s j.toNat) * p_b (p_C F s'))) = 0) := by
    intro j j1 j2
    obtain ⟨o1, -⟩ := p_own hF hs hok.1 j1 j2
    obtain ⟨de1, de2⟩ := p_dot_eq hF (p_x (p_C F s') (p_R F s')) (x_nb s j.toNat) o1
    refine ⟨?_, fun w => ?_⟩
    · by_cases c : (x_nb s j.toNat : Int) < F 0 3
      · rw [if_pos c, (de1 c).1, (de1 c).2]
        have := hok'.2.2.2 (x_nb s j.toNat) (by omega) c
        have := Int.mul_nonneg (Int.le_of_lt hb) (show 0 ≤ F 3 (x_nb s j.toNat) * p_b (p_C F s') - p_sum F (p_x (p_C F s') (p_R F s')) (x_nb s j.toNat) by omega)
        have e : -1 * (p_b (p_C F s) * (p_sum F (p_x (p_C F s') (p_R F s')) (x_nb s j.toNat) - F 3 (x_nb s j.toNat) * p_b (p_C F s'))) = p_b (p_C F s) * (F 3 (x_nb s j.toNat) * p_b (p_C F s') - p_sum F (p_x (p_C F s') (p_R F s')) (x_nb s j.toNat)) := by grind
        rw [e]; exact this
      · rw [if_neg c, (de2 (by omega)).1, (de2 (by omega)).2]
        have o1' : x_nb s j.toNat < (F 0 3 + F 0 2).toNat := o1
        have := hok'.2.2.1 ((x_nb s j.toNat : Int) - F 0 3) (by omega) (by omega)
        have := Int.mul_nonneg (Int.le_of_lt hb) this
        have e : 1 * (p_b (p_C F s) * (p_x (p_C F s') (p_R F s') ((x_nb s j.toNat : Int) - F 0 3) - 0 * p_b (p_C F s'))) = p_b (p_C F s) * p_x (p_C F s') (p_R F s') ((x_nb s j.toNat : Int) - F 0 3) := by grind
        rw [e]; exact this
    · rw [(p_tgt_dot hF o1).mp w, Int.sub_self, Int.mul_zero, Int.mul_zero]
  have ed := q_edge (p_C F s) (fun c => p_x (p_C F s') (p_R F s') c * p_b (p_C F s) - p_x (p_C F s) (p_R F s) c * p_b (p_C F s'))
  have l0 := line 0 (by omega) (by omega)
  have l1 := line 1 (by omega) (by omega)
  have l2 := line 2 (by omega) (by omega)
  simp at l0 l1 l2
  try dsimp only at ed
  rw [l0, l1, l2] at ed
  have ev : 1000000000000 * (p_x (p_C F s') (p_R F s') 0 * p_b (p_C F s) - p_x (p_C F s) (p_R F s) 0 * p_b (p_C F s')) + 1000000 * (p_x (p_C F s') (p_R F s') 1 * p_b (p_C F s) - p_x (p_C F s) (p_R F s) 1 * p_b (p_C F s')) + (p_x (p_C F s') (p_R F s') 2 * p_b (p_C F s) - p_x (p_C F s) (p_R F s) 2 * p_b (p_C F s')) = p_v (p_en F s') * p_en F s 3 - p_v (p_en F s) * p_en F s' 3 := by
    unfold p_v
    rw [p_en_lo F s 0 (by omega), p_en_lo F s 1 (by omega), p_en_lo F s 2 (by omega), p_en_lo F s' 0 (by omega), p_en_lo F s' 1 (by omega), p_en_lo F s' 2 (by omega), p_en_3, p_en_3]
    grind
  rw [ev] at ed
  -- the three weights
  have wt : ∀ j : Int, 0 ≤ j → j < 3 → 0 ≤ (if (x_nb s j.toNat : Int) < F 0 3 then -1 else 1) * (if j < F 0 2 then p_b (p_C F s) * (p_dot F (p_x (p_C F s') (p_R F s')) (x_nb s j.toNat) - p_ri F (x_nb s j.toNat) * p_b (p_C F s')) else 0) ∧ (i = j → (if (x_nb s j.toNat : Int) < F 0 3 then -1 else 1) * (if j < F 0 2 then p_b (p_C F s) * (p_dot F (p_x (p_C F s') (p_R F s')) (x_nb s j.toNat) - p_ri F (x_nb s j.toNat) * p_b (p_C F s')) else 0) = 0) ∧ (F 0 2 ≤ j → (if (x_nb s j.toNat : Int) < F 0 3 then -1 else 1) * (if j < F 0 2 then p_b (p_C F s) * (p_dot F (p_x (p_C F s') (p_R F s')) (x_nb s j.toNat) - p_ri F (x_nb s j.toNat) * p_b (p_C F s')) else 0) = 0) := by
    intro j j1 j2
    by_cases c : j < F 0 2
    · rw [if_pos (c := j < F 0 2) c]
      obtain ⟨a1, a2⟩ := sgn j j1 c
      exact ⟨a1, fun e => a2 (by rw [← e]; exact htg), fun e => by omega⟩
    · rw [if_neg (c := j < F 0 2) c, Int.mul_zero]
      exact ⟨Int.le_refl _, fun _ => rfl, fun _ => rfl⟩
  have w0 := wt 0 (by omega) (by omega)
  have w1 := wt 1 (by omega) (by omega)
  have w2 := wt 2 (by omega) (by omega)
  refine i4 _ _ _ _ w0.1 w1.1 w2.1 w0.2.1 w1.2.1 w2.2.1 (fun e => w1.2.2 (by omega)) (fun e => w2.2.2 (by omega)) ?_
  have sq : ∀ (K y : Int) (c : Prop) [Decidable c], K * y = K * (if c then -1 else 1) * ((if c then -1 else 1) * y) := by
    intro K y c _
    split <;> grind
  rw [ed]
  have s0 := sq (q_K0 (p_C F s)) (if (0 : Int) < F 0 2 then p_b (p_C F s) * (p_dot F (p_x (p_C F s') (p_R F s')) (x_nb s (0 : Int).toNat) - p_ri F (x_nb s (0 : Int).toNat) * p_b (p_C F s')) else 0) ((x_nb s 0 : Int) < F 0 3)
  have s1 := sq (q_K1 (p_C F s)) (if (1 : Int) < F 0 2 then p_b (p_C F s) * (p_dot F (p_x (p_C F s') (p_R F s')) (x_nb s (1 : Int).toNat) - p_ri F (x_nb s (1 : Int).toNat) * p_b (p_C F s')) else 0) ((x_nb s 1 : Int) < F 0 3)
  have s2 := sq (q_K2 (p_C F s)) (if (2 : Int) < F 0 2 then p_b (p_C F s) * (p_dot F (p_x (p_C F s') (p_R F s')) (x_nb s (2 : Int).toNat) - p_ri F (x_nb s (2 : Int).toNat) * p_b (p_C F s')) else 0) ((x_nb s 2 : Int) < F 0 3)
  exact congr (congrArg HAdd.hAdd (congr (congrArg HAdd.hAdd s0) s1)) s2
