/-! The reference's prices are the class's -/
theorem x_cbit {s d j : Nat} (hd : d < 8) (hs : s < 2 ^ d) (hj : j < d) : (2 ^ d - 1 - s) / 2 ^ j % 2 = 1 ↔ ¬ s / 2 ^ j % 2 = 1 := by
  have h2 : (2 : Nat) ^ d ≤ 2 ^ 7 := Nat.pow_le_pow_right (by omega) (by omega)
  have h := x_all3 (P := fun d s j => !(decide (s < 2 ^ d ∧ j < d)) || decide ((2 ^ d - 1 - s) / 2 ^ j % 2 = 1 ↔ ¬ s / 2 ^ j % 2 = 1)) 8 128 8 (by decide +kernel) d hd s (by omega) j (by omega)
  simp only [hs, hj, and_self, decide_true, Bool.not_true, Bool.false_or, decide_eq_true_eq] at h
  exact h
theorem x_ccn {s d : Nat} (hd : d < 8) (hs : s < 2 ^ d) : x_cn (2 ^ d - 1 - s) 7 + x_cn s 7 = d ∧ 2 ^ d - 1 - s < 2 ^ d := by
  have h2 : (2 : Nat) ^ d ≤ 2 ^ 7 := Nat.pow_le_pow_right (by omega) (by omega)
  have h := x_all2 (P := fun d s => !(decide (s < 2 ^ d)) || decide (x_cn (2 ^ d - 1 - s) 7 + x_cn s 7 = d ∧ 2 ^ d - 1 - s < 2 ^ d)) 8 128 (by decide +kernel) d hd s (by omega)
  simp only [hs, decide_true, Bool.not_true, Bool.false_or, decide_eq_true_eq] at h
  exact h
theorem q_rp_cg {B : Int → Int → Int} {v v' : Int → Int} {n : Nat} (h : ∀ i : Nat, i < n → v i = v' i) (c : Int) : p_det (p_rp B v c) n = p_det (p_rp B v' c) n := p_det_cg (fun i j hi hj => by
  unfold p_rp
  split
  · exact h i hi
  · rfl)
theorem q_multi_1_0 (B : Int → Int → Int) (y : Int → Int) : p_det (p_rp B (fun i => x_sm (fun j => B i j * y j) 1) 0) 1 = p_det B 1 * y 0 := by
  rw [q_det1, q_det1]
  simp [p_rp, x_sm]
  try grind
theorem q_scale_1_0 (B : Int → Int → Int) (v : Int → Int) (b : Int) : p_det (p_rp B (fun i => v i * b) 0) 1 = p_det (p_rp B v 0) 1 * b := by
  rw [q_det1, q_det1]
  simp [p_rp]
  try grind
theorem q_multi_2_0 (B : Int → Int → Int) (y : Int → Int) : p_det (p_rp B (fun i => x_sm (fun j => B i j * y j) 2) 0) 2 = p_det B 2 * y 0 := by
  rw [q_det2, q_det2]
  simp [p_rp, x_sm]
  try grind
theorem q_scale_2_0 (B : Int → Int → Int) (v : Int → Int) (b : Int) : p_det (p_rp B (fun i => v i * b) 0) 2 = p_det (p_rp B v 0) 2 * b := by
  rw [q_det2, q_det2]
  simp [p_rp]
  try grind
theorem q_multi_2_1 (B : Int → Int → Int) (y : Int → Int) : p_det (p_rp B (fun i => x_sm (fun j => B i j * y j) 2) 1) 2 = p_det B 2 * y 1 := by
  rw [q_det2, q_det2]
  simp [p_rp, x_sm]
  try grind
theorem q_scale_2_1 (B : Int → Int → Int) (v : Int → Int) (b : Int) : p_det (p_rp B (fun i => v i * b) 1) 2 = p_det (p_rp B v 1) 2 * b := by
  rw [q_det2, q_det2]
  simp [p_rp]
  try grind
theorem q_multi_3_0 (B : Int → Int → Int) (y : Int → Int) : p_det (p_rp B (fun i => x_sm (fun j => B i j * y j) 3) 0) 3 = p_det B 3 * y 0 := by
  rw [q_det3, q_det3]
  simp [p_rp, x_sm]
  try grind
theorem q_scale_3_0 (B : Int → Int → Int) (v : Int → Int) (b : Int) : p_det (p_rp B (fun i => v i * b) 0) 3 = p_det (p_rp B v 0) 3 * b := by
  rw [q_det3, q_det3]
  simp [p_rp]
  try grind
theorem q_multi_3_1 (B : Int → Int → Int) (y : Int → Int) : p_det (p_rp B (fun i => x_sm (fun j => B i j * y j) 3) 1) 3 = p_det B 3 * y 1 := by
  rw [q_det3, q_det3]
  simp [p_rp, x_sm]
  try grind
theorem q_scale_3_1 (B : Int → Int → Int) (v : Int → Int) (b : Int) : p_det (p_rp B (fun i => v i * b) 1) 3 = p_det (p_rp B v 1) 3 * b := by
  rw [q_det3, q_det3]
  simp [p_rp]
  try grind
theorem q_multi_3_2 (B : Int → Int → Int) (y : Int → Int) : p_det (p_rp B (fun i => x_sm (fun j => B i j * y j) 3) 2) 3 = p_det B 3 * y 2 := by
  rw [q_det3, q_det3]
  simp [p_rp, x_sm]
  try grind
theorem q_scale_3_2 (B : Int → Int → Int) (v : Int → Int) (b : Int) : p_det (p_rp B (fun i => v i * b) 2) 3 = p_det (p_rp B v 2) 3 * b := by
  rw [q_det3, q_det3]
  simp [p_rp]
  try grind
theorem q_multi_4_0 (B : Int → Int → Int) (y : Int → Int) : p_det (p_rp B (fun i => x_sm (fun j => B i j * y j) 4) 0) 4 = p_det B 4 * y 0 := by
  rw [q_det4, q_det4]
  simp [p_rp, x_sm]
  try grind
theorem q_scale_4_0 (B : Int → Int → Int) (v : Int → Int) (b : Int) : p_det (p_rp B (fun i => v i * b) 0) 4 = p_det (p_rp B v 0) 4 * b := by
  rw [q_det4, q_det4]
  simp [p_rp]
  try grind
theorem q_multi_4_1 (B : Int → Int → Int) (y : Int → Int) : p_det (p_rp B (fun i => x_sm (fun j => B i j * y j) 4) 1) 4 = p_det B 4 * y 1 := by
  rw [q_det4, q_det4]
  simp [p_rp, x_sm]
  try grind
theorem q_scale_4_1 (B : Int → Int → Int) (v : Int → Int) (b : Int) : p_det (p_rp B (fun i => v i * b) 1) 4 = p_det (p_rp B v 1) 4 * b := by
  rw [q_det4, q_det4]
  simp [p_rp]
  try grind
theorem q_multi_4_2 (B : Int → Int → Int) (y : Int → Int) : p_det (p_rp B (fun i => x_sm (fun j => B i j * y j) 4) 2) 4 = p_det B 4 * y 2 := by
  rw [q_det4, q_det4]
  simp [p_rp, x_sm]
  try grind
theorem q_scale_4_2 (B : Int → Int → Int) (v : Int → Int) (b : Int) : p_det (p_rp B (fun i => v i * b) 2) 4 = p_det (p_rp B v 2) 4 * b := by
  rw [q_det4, q_det4]
  simp [p_rp]
  try grind
theorem q_multi_4_3 (B : Int → Int → Int) (y : Int → Int) : p_det (p_rp B (fun i => x_sm (fun j => B i j * y j) 4) 3) 4 = p_det B 4 * y 3 := by
  rw [q_det4, q_det4]
  simp [p_rp, x_sm]
  try grind
theorem q_scale_4_3 (B : Int → Int → Int) (v : Int → Int) (b : Int) : p_det (p_rp B (fun i => v i * b) 3) 4 = p_det (p_rp B v 3) 4 * b := by
  rw [q_det4, q_det4]
  simp [p_rp]
  try grind
theorem q_cramer {B : Int → Int → Int} {y v : Int → Int} {b : Int} {n : Nat} (h1 : 1 ≤ n) (h4 : n ≤ 4) (h : ∀ i : Nat, i < n → x_sm (fun j => B i j * y j) n = v i * b) {c : Int} (hc : 0 ≤ c ∧ c < n) : p_det (p_rp B v c) n * b = p_det B n * y c := by
  have e := q_rp_cg (B := B) (v := fun i => x_sm (fun j => B i j * y j) n) (v' := fun i => v i * b) h c
  have hn : n = 1 ∨ n = 2 ∨ n = 3 ∨ n = 4 := by omega
  have hc4 : c = 0 ∨ c = 1 ∨ c = 2 ∨ c = 3 := by omega
  rcases hn with a | a | a | a <;> subst a <;> rcases hc4 with d | d | d | d <;> subst d
  · rw [q_multi_1_0, q_scale_1_0] at e; exact e.symm
  · omega
  · omega
  · omega
  · rw [q_multi_2_0, q_scale_2_0] at e; exact e.symm
  · rw [q_multi_2_1, q_scale_2_1] at e; exact e.symm
  · omega
  · omega
  · rw [q_multi_3_0, q_scale_3_0] at e; exact e.symm
  · rw [q_multi_3_1, q_scale_3_1] at e; exact e.symm
  · rw [q_multi_3_2, q_scale_3_2] at e; exact e.symm
  · omega
  · rw [q_multi_4_0, q_scale_4_0] at e; exact e.symm
  · rw [q_multi_4_1, q_scale_4_1] at e; exact e.symm
  · rw [q_multi_4_2, q_scale_4_2] at e; exact e.symm
  · rw [q_multi_4_3, q_scale_4_3] at e; exact e.symm
/-- prices that are tight in all pairs outside of s -/
theorem q_lines {F : xM} (hF : p_wf F) {p q : Int} {s : Nat} (hs : s < 2 ^ p_pr F) (hp : (x_cn s 7 : Int) = F 0 2) {R : Nat} (hR : F 0 3 = R) {Y : Int → Int} {b : Int} (ht : ∀ j : Nat, j < p_pr F → ¬ s / 2 ^ j % 2 = 1 → p_dtg F p q Y b j = true) {c : Int} (hc : 0 ≤ c ∧ c < R) : p_det (p_rp (p_Dm F (2 ^ p_pr F - 1 - s)) (p_Dr F p q (2 ^ p_pr F - 1 - s)) c) R * b = p_det (p_Dm F (2 ^ p_pr F - 1 - s)) R * Y c := by
  have hg := hF.2.2.1
  have hr := hF.2.2.2.1
  have h7 := p_pr_le hF
  obtain ⟨c1, c2⟩ := x_ccn (s := s) (d := p_pr F) (by omega) hs
  have hpr : (p_pr F : Int) = F 0 3 + F 0 2 := by unfold p_pr; omega
  refine q_cramer (by omega) (by omega) (fun i hi => ?_) hc
  obtain ⟨n1, n2, n3⟩ := x_cn_nb (s := 2 ^ p_pr F - 1 - s) (l := i) (by omega) (by omega)
  have nlt : x_nb (2 ^ p_pr F - 1 - s) i < p_pr F := by
    apply Classical.byContradiction
    intro hn
    have : 2 ^ p_pr F ≤ 2 ^ (x_nb (2 ^ p_pr F - 1 - s) i) := Nat.pow_le_pow_right (by omega) (by omega)
    rw [Nat.div_eq_of_lt (by omega)] at n2
    exact absurd n2 (by decide)
  have tg := ht _ nlt ((x_cbit (by omega) hs nlt).mp n2)
  unfold p_dtg at tg
  unfold p_Dm p_Dr
  rw [Int.toNat_natCast]
  generalize x_nb (2 ^ p_pr F - 1 - s) i = j at *
  by_cases d : (j : Int) < F 0 3
  · rw [if_pos d] at tg
    have y0 := of_decide_eq_true tg
    rw [if_pos d, Int.zero_mul]
    have : x_sm (fun r => (if (j : Int) = r then 1 else 0) * Y r) R = Y j := x_sm_one (X := Y) j R (by omega) (by omega)
    exact Eq.trans (x_sm_cg _ (fun r r1 r2 => by rw [if_pos d])) (this.trans y0)
  · rw [if_neg d] at tg
    have y0 := of_decide_eq_true tg
    rw [if_neg d, ← y0]
    unfold p_gs
    rw [hR, Int.toNat_natCast]
    refine x_sm_cg _ (fun r r1 r2 => ?_)
    rw [hR] at d
    rw [if_neg d]
    exact Int.mul_comm _ _
theorem q_own {F : xM} (hF : p_wf F) {p q : Int} {s : Nat} (hs : s < 2 ^ p_pr F) (hp : (x_cn s 7 : Int) = F 0 2) : ∀ j : Nat, j < p_pr F → ¬ s / 2 ^ j % 2 = 1 → p_dtg F p q (p_Y F p q s) (p_b (p_C F s)) j = true := by
  intro j hj hb
  rw [p_dtg_eq hF hs hp hj]
  exact decide_eq_true (fun w => absurd w hb)
theorem q_b_det {F : xM} (hF : p_wf F) {s : Nat} (hs : s < 2 ^ p_pr F) (hp : (x_cn s 7 : Int) = F 0 2) {R : Nat} (hR : F 0 3 = R) : p_det (p_Dm F (2 ^ p_pr F - 1 - s)) R * p_sg (p_det (p_Dm F (2 ^ p_pr F - 1 - s)) R) = p_b (p_C F s) ∧ (p_det (p_Dm F (2 ^ p_pr F - 1 - s)) R = 0 ↔ p_d3 (p_C F s) = 0) := by
  unfold p_b p_sg
  rcases q_dual_det hF hs hp hR with e | e
  · rw [e]; exact ⟨rfl, Iff.rfl⟩
  · rw [e]
    refine ⟨?_, by omega⟩
    by_cases c : p_d3 (p_C F s) < 0
    · rw [if_pos c, if_neg (by omega)]; omega
    · by_cases d : p_d3 (p_C F s) = 0
      · rw [d]; decide
      · rw [if_neg c, if_pos (by omega)]; omega
theorem q_ref_Y {F : xM} (hF : p_wf F) {p q : Int} {s : Nat} (hs : s < 2 ^ p_pr F) (hp : (x_cn s 7 : Int) = F 0 2) (hd : p_d3 (p_C F s) ≠ 0) {R : Nat} (hR : F 0 3 = R) {c : Int} (hc : 0 ≤ c ∧ c < R) : p_det (p_rp (p_Dm F (2 ^ p_pr F - 1 - s)) (p_Dr F p q (2 ^ p_pr F - 1 - s)) c) R * p_sg (p_det (p_Dm F (2 ^ p_pr F - 1 - s)) R) = p_Y F p q s c := by
  have l1 := q_lines hF hs hp hR (q_own hF (p := p) (q := q) hs hp) hc
  obtain ⟨b1, b2⟩ := q_b_det hF hs hp hR
  have hb := p_b_pos hd
  refine Int.eq_of_mul_eq_mul_right (a := p_b (p_C F s)) (by omega) ?_
  have e1 : p_det (p_rp (p_Dm F (2 ^ p_pr F - 1 - s)) (p_Dr F p q (2 ^ p_pr F - 1 - s)) c) R * p_sg (p_det (p_Dm F (2 ^ p_pr F - 1 - s)) R) * p_b (p_C F s) = p_det (p_rp (p_Dm F (2 ^ p_pr F - 1 - s)) (p_Dr F p q (2 ^ p_pr F - 1 - s)) c) R * p_b (p_C F s) * p_sg (p_det (p_Dm F (2 ^ p_pr F - 1 - s)) R) := by grind
  rw [e1, l1, ← b1]
  grind
theorem x_sm_lin {h g : Int → Int} {a b : Int} (n : Nat) (e : ∀ i : Int, 0 ≤ i → i < n → h i * a = g i * b) : x_sm h n * a = x_sm g n * b := by
  rw [x_sm_mul, x_sm_mul]
  exact x_sm_cg _ e
/-- the same prices are tight in the same pairs, and the other way round -/
theorem q_tau {F : xM} (hF : p_wf F) {p q : Int} {s s' : Nat} (hs : s < 2 ^ p_pr F) (hs' : s' < 2 ^ p_pr F) (h : p_dok F p q s) (h' : p_dok F p q s') : p_eqp F p q s s' ↔ p_tau F p q s = p_tau F p q s' := by
  have hg := hF.2.2.1
  have hr := hF.2.2.2.1
  have hb := p_b_pos h.2.1
  have hb' := p_b_pos h'.2.1
  obtain ⟨R, hR⟩ : ∃ R : Nat, F 0 3 = R := ⟨(F 0 3).toNat, by omega⟩
  constructor
  · intro he
    unfold p_tau p_dtS
    refine x_set_cg _ (fun i hi => ?_)
    unfold p_pr at hi
    unfold p_dtg
    by_cases c : (i : Int) < F 0 3
    · rw [if_pos c, if_pos c]
      have e := he i (by omega) c
      refine decide_eq_decide.mpr ⟨fun w => ?_, fun w => ?_⟩
      · rw [w, Int.zero_mul] at e
        exact (Int.mul_eq_zero.mp e.symm).resolve_right (by omega)
      · rw [w, Int.zero_mul] at e
        exact (Int.mul_eq_zero.mp e).resolve_right (by omega)
    · rw [if_neg c, if_neg c]
      have e : p_gs F (p_Y F p q s) (i - F 0 3) * p_b (p_C F s') = p_gs F (p_Y F p q s') (i - F 0 3) * p_b (p_C F s) := by
        unfold p_gs
        refine x_sm_lin _ (fun r r1 r2 => ?_)
        have := he r r1 (by omega)
        show p_Y F p q s r * F 2 (3 * r + (i - F 0 3)) * p_b (p_C F s') = p_Y F p q s' r * F 2 (3 * r + (i - F 0 3)) * p_b (p_C F s)
        grind
      refine decide_eq_decide.mpr ⟨fun w => ?_, fun w => ?_⟩
      · refine Int.eq_of_mul_eq_mul_right (a := p_b (p_C F s)) (by omega) ?_
        rw [← e, w]; grind
      · refine Int.eq_of_mul_eq_mul_right (a := p_b (p_C F s')) (by omega) ?_
        rw [e, w]; grind
  · intro he r r1 r2
    have ht : ∀ j : Nat, j < p_pr F → ¬ s / 2 ^ j % 2 = 1 → p_dtg F p q (p_Y F p q s') (p_b (p_C F s')) j = true := by
      intro j hj hbit
      have o := q_own hF (p := p) (q := q) hs h.1 j hj hbit
      have h1 := x_set_bit (p_dtg F p q (p_Y F p q s) (p_b (p_C F s))) (p_pr F) j hj
      have h2 := x_set_bit (p_dtg F p q (p_Y F p q s') (p_b (p_C F s'))) (p_pr F) j hj
      unfold p_tau p_dtS at he
      rw [he, h2, o] at h1
      cases e : p_dtg F p q (p_Y F p q s') (p_b (p_C F s')) j
      · rw [e] at h1; exact absurd h1 (by decide)
      · rfl
    have l1 := q_lines hF hs h.1 hR (q_own hF (p := p) (q := q) hs h.1) (c := r) (by omega)
    have l2 := q_lines hF hs h.1 hR ht (c := r) (by omega)
    obtain ⟨-, b2⟩ := q_b_det hF hs h.1 hR
    have dn : p_det (p_Dm F (2 ^ p_pr F - 1 - s)) R ≠ 0 := fun w => h.2.1 (b2.mp w)
    refine Int.eq_of_mul_eq_mul_left dn ?_
    generalize p_det (p_Dm F (2 ^ p_pr F - 1 - s)) R = d at *
    generalize p_det (p_rp (p_Dm F (2 ^ p_pr F - 1 - s)) (p_Dr F p q (2 ^ p_pr F - 1 - s)) r) R = x at *
    have e1 : d * (p_Y F p q s r * p_b (p_C F s')) = d * p_Y F p q s r * p_b (p_C F s') := by grind
    have e2 : d * (p_Y F p q s' r * p_b (p_C F s)) = d * p_Y F p q s' r * p_b (p_C F s) := by grind
    rw [e1, e2, ← l1, ← l2]
    grind
