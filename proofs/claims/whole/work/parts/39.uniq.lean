/-! Cramer; a plan is the only one that is tight where it is -/
theorem p_rc_at (C R : Int → Int) (c k : Int) : p_rc C R c k = if k % 3 = c then R (k / 3) else C k := rfl
theorem p_cramer (C R : Int → Int) (i : Int) (hi : 0 ≤ i) (hi2 : i < 3) : C (3 * i) * p_d3 (p_rc C R 0) + C (3 * i + 1) * p_d3 (p_rc C R 1) + C (3 * i + 2) * p_d3 (p_rc C R 2) = R i * p_d3 C := by
  have : i = 0 ∨ i = 1 ∨ i = 2 := by omega
  rcases this with q | q | q <;> subst q <;> simp [p_d3, p_rc] <;> grind
theorem p_ker {C y : Int → Int} (hd : p_d3 C ≠ 0) (h : ∀ i, 0 ≤ i → i < 3 → C (3 * i) * y 0 + C (3 * i + 1) * y 1 + C (3 * i + 2) * y 2 = 0) : ∀ c, 0 ≤ c → c < 3 → y c = 0 := by
  have h0 := h 0 (by omega) (by omega)
  have h1 := h 1 (by omega) (by omega)
  have h2 := h 2 (by omega) (by omega)
  simp at h0 h1 h2
  have e0 : p_d3 C * y 0 = 0 := by
    have : p_d3 C * y 0 = (C 4 * C 8 - C 5 * C 7) * (C 0 * y 0 + C 1 * y 1 + C 2 * y 2) - (C 1 * C 8 - C 2 * C 7) * (C 3 * y 0 + C 4 * y 1 + C 5 * y 2) + (C 1 * C 5 - C 2 * C 4) * (C 6 * y 0 + C 7 * y 1 + C 8 * y 2) := by
      unfold p_d3; grind
    rw [this, h0, h1, h2]; simp
  have e1 : p_d3 C * y 1 = 0 := by
    have : p_d3 C * y 1 = (C 5 * C 6 - C 3 * C 8) * (C 0 * y 0 + C 1 * y 1 + C 2 * y 2) + (C 0 * C 8 - C 2 * C 6) * (C 3 * y 0 + C 4 * y 1 + C 5 * y 2) + (C 2 * C 3 - C 0 * C 5) * (C 6 * y 0 + C 7 * y 1 + C 8 * y 2) := by
      unfold p_d3; grind
    rw [this, h0, h1, h2]; simp
  have e2 : p_d3 C * y 2 = 0 := by
    have : p_d3 C * y 2 = (C 3 * C 7 - C 4 * C 6) * (C 0 * y 0 + C 1 * y 1 + C 2 * y 2) + (C 1 * C 6 - C 0 * C 7) * (C 3 * y 0 + C 4 * y 1 + C 5 * y 2) + (C 0 * C 4 - C 1 * C 3) * (C 6 * y 0 + C 7 * y 1 + C 8 * y 2) := by
      unfold p_d3; grind
    rw [this, h0, h1, h2]; simp
  intro c c1 c2
  have : c = 0 ∨ c = 1 ∨ c = 2 := by omega
  rcases this with q | q | q <;> subst q
  · exact (Int.mul_eq_zero.mp e0).resolve_left hd
  · exact (Int.mul_eq_zero.mp e1).resolve_left hd
  · exact (Int.mul_eq_zero.mp e2).resolve_left hd
def p_dot (F : xM) (X : Int → Int) (i : Int) : Int := x_sm (fun g => p_ce F i g * X g) (F 0 2).toNat
theorem x_sm_zero {h : Int → Int} (n : Nat) (e : ∀ i : Int, 0 ≤ i → i < n → h i = 0) : x_sm h n = 0 := by
  induction n with
  | zero => rfl
  | succ n ih => unfold x_sm; rw [ih (fun i a b => e i a (by omega)), e n (by omega) (by omega)]; rfl
theorem x_sm_one {X : Int → Int} (t : Int) (n : Nat) (h0 : 0 ≤ t) (h1 : t < n) : x_sm (fun g => (if t = g then 1 else 0) * X g) n = X t := by
  induction n with
  | zero => omega
  | succ n ih =>
    unfold x_sm
    by_cases c : t = n
    · rw [x_sm_zero n (fun i a b => by show (if t = i then (1 : Int) else 0) * X i = 0; rw [if_neg (by omega), Int.zero_mul])]
      show 0 + (if t = (n : Int) then (1 : Int) else 0) * X n = X t
      rw [if_pos c, c]; omega
    · rw [ih (by omega)]
      show X t + (if t = (n : Int) then (1 : Int) else 0) * X n = X t
      rw [if_neg c]; omega
theorem p_tgt_dot {F : xM} (hF : p_wf F) {X : Int → Int} {b : Int} {i : Nat} (hi : i < p_pr F) : p_tgt F X b i = true ↔ p_dot F X i = p_ri F i * b := by
  have hg := hF.2.2.1
  have hr := hF.2.2.2.1
  unfold p_pr at hi
  unfold p_tgt p_dot p_ri
  by_cases c : (i : Int) < F 0 3
  · rw [if_pos c, if_neg (by omega), decide_eq_true_iff]
    have : x_sm (fun g => p_ce F i g * X g) (F 0 2).toNat = p_sum F X i := by
      unfold p_sum
      refine x_sm_cg _ (fun g g1 g2 => ?_)
      show p_ce F i g * X g = F 2 (3 * i + g) * X g
      unfold p_ce
      rw [if_neg (by omega)]
    rw [this]
  · rw [if_neg c, if_pos (by omega), decide_eq_true_iff]
    have : x_sm (fun g => p_ce F i g * X g) (F 0 2).toNat = X (i - F 0 3) := by
      rw [← x_sm_one (X := X) (i - F 0 3) (F 0 2).toNat (by omega) (by omega)]
      refine x_sm_cg _ (fun g g1 g2 => ?_)
      show p_ce F i g * X g = (if (i : Int) - F 0 3 = g then 1 else 0) * X g
      unfold p_ce
      rw [if_pos (by omega)]
    rw [this, Int.zero_mul]
/-- a line of the square is its pair's -/
theorem p_line {F : xM} (hF : p_wf F) {X : Int → Int} (hX : ∀ c, F 0 2 ≤ c → c < 3 → X c = 0) (s : Nat) (i : Int) (hi : 0 ≤ i) (hi2 : i < 3) : p_C F s (3 * i) * X 0 + p_C F s (3 * i + 1) * X 1 + p_C F s (3 * i + 2) * X 2 = if i < F 0 2 then p_dot F X (x_nb s i.toNat) else 0 := by
  have hg := hF.2.2.1
  have ev : ∀ j, 0 ≤ j → j < 3 → p_C F s (3 * i + j) = if i < F 0 2 ∧ j < F 0 2 then p_ce F (x_nb s i.toNat) j else if i = j then 1 else 0 := by
    intro j j1 j2
    unfold p_C
    rw [show (3 * i + j) / 3 = i by omega, show (3 * i + j) % 3 = j by omega]
  have e0 := ev 0 (by omega) (by omega)
  rw [Int.add_zero] at e0
  rw [e0, ev 1 (by omega) (by omega), ev 2 (by omega) (by omega)]
  by_cases c : i < F 0 2
  · rw [if_pos c]
    unfold p_dot
    have : F 0 2 = 1 ∨ F 0 2 = 2 ∨ F 0 2 = 3 := by omega
    rcases this with q | q | q
    · rw [q, hX 1 (by omega) (by omega), hX 2 (by omega) (by omega), if_pos (by omega)]
      simp [x_sm]
    · rw [q, hX 2 (by omega) (by omega), if_pos (by omega), if_pos (by omega)]
      simp [x_sm]
    · rw [q, if_pos (by omega), if_pos (by omega), if_pos (by omega)]
      simp [x_sm]
  · rw [if_neg c, if_neg (c := i < F 0 2 ∧ 0 < F 0 2) (by omega), if_neg (c := i < F 0 2 ∧ 1 < F 0 2) (by omega), if_neg (c := i < F 0 2 ∧ 2 < F 0 2) (by omega)]
    have hXi := hX i (by omega) hi2
    have : i = 0 ∨ i = 1 ∨ i = 2 := by omega
    rcases this with q | q | q <;> subst q <;> simp <;> exact hXi
theorem p_x_cramer {F : xM} (hF : p_wf F) (s : Nat) (i : Int) (hi : 0 ≤ i) (hi2 : i < F 0 2) : p_dot F (p_x (p_C F s) (p_R F s)) (x_nb s i.toNat) = p_ri F (x_nb s i.toNat) * p_b (p_C F s) := by
  have hg := hF.2.2.1
  have h1 := p_line hF (p_x_hi hF s) s i hi (by omega)
  rw [if_pos hi2] at h1
  rw [← h1]
  have h2 := p_cramer (p_C F s) (p_R F s) i hi (by omega)
  have h3 : p_R F s i = p_ri F (x_nb s i.toNat) := by unfold p_R; rw [if_pos hi2]
  rw [h3] at h2
  unfold p_x p_b
  generalize p_sg (p_d3 (p_C F s)) = g
  generalize p_d3 (p_rc (p_C F s) (p_R F s) 0) = x0 at *
  generalize p_d3 (p_rc (p_C F s) (p_R F s) 1) = x1 at *
  generalize p_d3 (p_rc (p_C F s) (p_R F s) 2) = x2 at *
  grind
theorem p_own {F : xM} (hF : p_wf F) {s : Nat} (hs : s < 2 ^ p_pr F) (hp : (x_cn s 7 : Int) = F 0 2) {i : Int} (hi : 0 ≤ i) (hi2 : i < F 0 2) : x_nb s i.toNat < p_pr F ∧ p_tgt F (p_x (p_C F s) (p_R F s)) (p_b (p_C F s)) (x_nb s i.toNat) = true := by
  have h7 := p_pr_le hF
  obtain ⟨q1, q2, q3⟩ := x_cn_nb (s := s) (l := i.toNat) (by omega) (by omega)
  have hlt : x_nb s i.toNat < p_pr F := by
    apply Classical.byContradiction
    intro hn
    have : 2 ^ p_pr F ≤ 2 ^ (x_nb s i.toNat) := Nat.pow_le_pow_right (by omega) (by omega)
    rw [Nat.div_eq_of_lt (by omega)] at q2
    omega
  exact ⟨hlt, (p_tgt_dot hF hlt).mpr (p_x_cramer hF s i hi hi2)⟩
theorem p_tS_bit {F : xM} {X X' : Int → Int} {b b' : Int} (h : p_tS F X b = p_tS F X' b') {i : Nat} (hi : i < p_pr F) : p_tgt F X b i = p_tgt F X' b' i := by
  have h1 := x_set_bit (p_tgt F X b) (p_pr F) i hi
  have h2 := x_set_bit (p_tgt F X' b') (p_pr F) i hi
  unfold p_tS at h
  rw [h, h2] at h1
  cases e1 : p_tgt F X b i <;> cases e2 : p_tgt F X' b' i <;> simp [e1, e2] at h1 ⊢
/-- tight where another is: the same plan -/
theorem p_uniq {F : xM} (hF : p_wf F) {s : Nat} (hs : s < 2 ^ p_pr F) (hp : (x_cn s 7 : Int) = F 0 2) (hd : p_d3 (p_C F s) ≠ 0) {X' : Int → Int} {b' : Int} (hz : ∀ c, F 0 2 ≤ c → c < 3 → X' c = 0) (ht : p_tS F (p_x (p_C F s) (p_R F s)) (p_b (p_C F s)) = p_tS F X' b') : ∀ c, 0 ≤ c → c < 3 → p_x (p_C F s) (p_R F s) c * b' = X' c * p_b (p_C F s) := by
  have hg := hF.2.2.1
  have key := p_ker (C := p_C F s) (y := fun c => p_x (p_C F s) (p_R F s) c * b' - X' c * p_b (p_C F s)) hd (fun i i1 i2 => ?_)
  · intro c c1 c2
    have := key c c1 c2
    have h2 : p_x (p_C F s) (p_R F s) c * b' - X' c * p_b (p_C F s) = 0 := this
    omega
  · have l1 := p_line hF (p_x_hi hF s) s i i1 i2
    have l2 := p_line hF hz s i i1 i2
    have l3 : (if i < F 0 2 then p_dot F (p_x (p_C F s) (p_R F s)) (x_nb s i.toNat) else 0) * b' = (if i < F 0 2 then p_dot F X' (x_nb s i.toNat) else 0) * p_b (p_C F s) := by
      by_cases c : i < F 0 2
      · rw [if_pos c, if_pos c]
        obtain ⟨o1, o2⟩ := p_own hF hs hp i1 c
        have o3 := o2
        rw [p_tS_bit ht o1] at o3
        rw [(p_tgt_dot hF o1).mp o2, (p_tgt_dot hF o1).mp o3]
        grind
      · rw [if_neg c, if_neg c]; omega
    rw [← l1, ← l2] at l3
    show p_C F s (3 * i) * (p_x (p_C F s) (p_R F s) 0 * b' - X' 0 * p_b (p_C F s)) + p_C F s (3 * i + 1) * (p_x (p_C F s) (p_R F s) 1 * b' - X' 1 * p_b (p_C F s)) + p_C F s (3 * i + 2) * (p_x (p_C F s) (p_R F s) 2 * b' - X' 2 * p_b (p_C F s)) = 0
    grind
