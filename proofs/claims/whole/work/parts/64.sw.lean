/-! The square's weights -/
def p_du (F : xM) (p q j : Int) : Int := F 1 j * q - p_fe F p q * F 1 (3 + j)
def p_Cw (F : xM) (s : Nat) : Int → Int := fun k => if k / 3 < F 0 2 ∧ k % 3 < F 0 2 then p_ce F (x_nb s (k % 3).toNat) (k / 3) else if k / 3 = k % 3 then 1 else 0
def p_Rw (F : xM) (p q : Int) : Int → Int := fun g => if g < F 0 2 then p_du F p q g else 0
def p_partw (F : xM) (s : Nat) (t j : Int) : Int → Int := fun k => if (k % 3 < t ∧ k / 3 < F 0 2) ∨ (k % 3 = t ∧ k / 3 < j) then p_ce F (x_nb s (k % 3).toNat) (k / 3) else if k / 3 = k % 3 ∧ F 0 2 ≤ k / 3 then 1 else 0
theorem p_du_bd {F : xM} (hF : p_wf F) {p q : Int} (hpq : p_tm p q) {j : Int} (hj : 0 ≤ j ∧ j < 3) : -1148000000 ≤ p_du F p q j ∧ p_du F p q j ≤ 1148000000 := by
  have ht := hF.2.2.2.2.1 j hj.1 hj.2
  have hfe := p_fe_bd hF hpq
  have hq := hpq.2.2
  have m1 := x_mb (a := F 1 j) (b := q) (A := 20) (B := 4000000) (by omega) (by omega)
  have m2 := x_mb (a := p_fe F p q) (b := F 1 (3 + j)) (A := 356000000) (B := 3) (by omega) (by omega)
  unfold p_du
  omega
theorem p_Cw_d {F : xM} (s : Nat) : p_d3 (p_Cw F s) = p_d3 (p_C F s) := by
  have e : ∀ i j : Int, 0 ≤ i → i < 3 → 0 ≤ j → j < 3 → p_Cw F s (3 * i + j) = p_C F s (3 * j + i) := by
    intro i j a b c d
    unfold p_Cw p_C
    rw [show (3 * i + j) / 3 = i by omega, show (3 * i + j) % 3 = j by omega, show (3 * j + i) / 3 = j by omega, show (3 * j + i) % 3 = i by omega]
    by_cases w : i < F 0 2 ∧ j < F 0 2
    · rw [if_pos w, if_pos (by omega)]
    · rw [if_neg w, if_neg (c := j < F 0 2 ∧ i < F 0 2) (by omega)]
      exact x_ite_cg (by omega) _ _
  have e0 := e 0 0 (by omega) (by omega) (by omega) (by omega)
  have e1 := e 0 1 (by omega) (by omega) (by omega) (by omega)
  have e2 := e 0 2 (by omega) (by omega) (by omega) (by omega)
  have e3 := e 1 0 (by omega) (by omega) (by omega) (by omega)
  have e4 := e 1 1 (by omega) (by omega) (by omega) (by omega)
  have e5 := e 1 2 (by omega) (by omega) (by omega) (by omega)
  have e6 := e 2 0 (by omega) (by omega) (by omega) (by omega)
  have e7 := e 2 1 (by omega) (by omega) (by omega) (by omega)
  have e8 := e 2 2 (by omega) (by omega) (by omega) (by omega)
  simp at e0 e1 e2 e3 e4 e5 e6 e7 e8
  unfold p_d3
  rw [e0, e1, e2, e3, e4, e5, e6, e7, e8]
  grind
section SW
variable {l : Launch} {E : xE} {Q : Option xV → xM → Prop}
theorem c_leftAbove (w g p q : Int) {M : xM} (hF : p_wf (x_F M w)) (hpq : p_tm p q) (hg : 0 ≤ g ∧ g < 3) (h : Q (some (1, p_du (x_F M w) p q g)) M) : x_Ev l E (1, 0, 0) m_X1_leftAbove 0 [(11, w), (0, g), (1, p_fe (x_F M w) p q), (5, 0), (1, q), (5, 0)] [] M Q := by
  have b := p_du_bd hF hpq hg
  refine u_X1_leftAbove_0 w g _ q ?_
  rw [x_w_id (x := 0 + g) (by omega) (by omega), x_w_id (x := 3 + g) (by omega) (by omega), Int.zero_add, ← x_F1 M w, ← x_F1 M w, x_W_s1, x_W_s2]
  refine ⟨by omega, by omega, ?_⟩
  have e : x_W (x_F M w 1 g * q - p_fe (x_F M w) p q * x_F M w 1 (3 + g)) = p_du (x_F M w) p q g := x_W_id (x := p_du (x_F M w) p q g) (by omega) (by omega)
  rw [e]; exact h
theorem c_sW_58 {w to fe : Int} (hw : 9 ≤ w ∧ w ≤ 32) {M0 : xM} (hF : p_wf (x_F M0 w)) {s i : Nat} (hs : s < 128) (hi : i < 7) (hb : s / 2 ^ i % 2 = 1) (ht : (x_cn s i : Int) < x_F M0 w 0 2)
    (h : ∀ M1 : xM, (∀ k, 0 ≤ k → k < 9 → M1 37 k = p_partw (x_F M0 w) s (x_cn s i + 1) 0 k) → (∀ a, a ≠ 37 → M1 a = M0 a ∨ a = 38) → (∀ k, 0 ≤ k → k < 3 → M1 38 k = 0) → x_Ev l E (3, 0, 0) m_X8_solveWeights 28 [(18, 36), (11, w), (0, (s : Int)), (12, to), (1, fe), (5, 0), (0, (x_cn s i : Int) + 1), (0, (i : Int) + 1), (5, 0)] [] M1 Q) :
    ∀ (n : Nat) (j : Int) (M : xM), x_F M0 w 0 2 - j ≤ n → 0 ≤ j → j ≤ x_F M0 w 0 2 → (∀ k, 0 ≤ k → k < 9 → M 37 k = p_partw (x_F M0 w) s (x_cn s i) j k) → (∀ a, a ≠ 37 → M a = M0 a ∨ a = 38) → (∀ k, 0 ≤ k → k < 3 → M 38 k = 0) → x_Ev l E (3, 0, 0) m_X8_solveWeights 58 [(18, 36), (11, w), (0, (s : Int)), (12, to), (1, fe), (5, 0), (0, (x_cn s i : Int)), (0, (i : Int)), (0, j)] [] M Q := by
  obtain ⟨-, -, hg, hr, -, -, -, -⟩ := hF
  have hn := x_nb_cn hs hi hb
  have fa : ∀ {M : xM}, (∀ a, a ≠ 37 → M a = M0 a ∨ a = 38) → ∀ a, a ≠ 37 → a ≠ 38 → M a = M0 a := fun q a a1 a2 => (q a a1).resolve_right a2
  intro n
  induction n with
  | zero =>
    intro j M hn' hj hj2 h1 h3 h4
    have e : M w = M0 w := fa h3 w (by omega) (by omega)
    have ej : j = x_F M0 w 0 2 := by omega
    refine u_X8_solveWeights_58 w s to fe (x_cn s i) i j ⟨fun c => ?_, fun c => ?_⟩
    · intro v hv v2 hv2
      rw [x_w_id (by omega) (by omega)] at hv hv2
      subst hv hv2
      refine h M (fun k k1 k2 => ?_) h3 h4
      rw [h1 k k1 k2]
      unfold p_partw
      exact x_ite_cg (by omega) _ _
    · rw [e, ← x_F0 M0 w] at c
      omega
  | succ n ih =>
    intro j M hn' hj hj2 h1 h3 h4
    have e : M w = M0 w := fa h3 w (by omega) (by omega)
    by_cases hjg : j = x_F M0 w 0 2
    · exact ih j M (by omega) hj hj2 h1 h3 h4
    refine u_X8_solveWeights_58 w s to fe (x_cn s i) i j ⟨fun c => ?_, fun c => ?_⟩
    · rw [e, ← x_F0 M0 w] at c
      omega
    · have eF : p_ce (x_F M w) i j = p_ce (x_F M0 w) i j := by
        rw [x_F_eq (fun a a1 a2 => fa h3 a (by omega) (by omega))]
      refine c_cellOf w i j (by omega) (by omega) hj (by omega) (by rw [e, ← x_F0 M0 w]; exact hr) ⟨_, rfl, ?_⟩
      rw [x_ix hj (by omega) (by omega) (by omega), eF]
      refine ⟨by omega, ?_⟩
      intro M1 hM1 v hv
      rw [x_w_id (by omega) (by omega)] at hv
      subst hM1 hv
      refine ih (j + 1) _ (by omega) (by omega) (by omega) ?_ ?_ ?_
      · intro k k1 k2
        unfold p_partw
        by_cases c2 : k = 3 * j + (x_cn s i : Int)
        · subst c2
          rw [x_wr_eq, if_pos (by omega), show (3 * j + (x_cn s i : Int)) / 3 = j by omega, show (3 * j + (x_cn s i : Int)) % 3 = (x_cn s i : Int) by omega, Int.toNat_natCast, hn]
        · rw [x_wr_ne _ _ (by omega), h1 k k1 k2]
          unfold p_partw
          exact x_ite_cg (by omega) _ _
      · intro a a1
        rw [x_wr_fr _ _ _ a1]; exact h3 a a1
      · intro k k1 k2
        rw [x_wr_ne _ _ (by omega)]; exact h4 k k1 k2
theorem c_solveWeights {w to p q : Int} (hw : 9 ≤ w ∧ w ≤ 32) (hto : to < 36 ∨ 39 < to) {M0 : xM} (hF : p_wf (x_F M0 w)) (hpq : p_tm p q) (ht0 : M0 to 0 = p) (ht1 : M0 to 1 = q) {s : Nat} (hs : s < 128) (hp : (x_cn s 7 : Int) = x_F M0 w 0 2) (hp2 : (s : Nat) < 2 ^ (x_F M0 w 0 3 + x_F M0 w 0 2).toNat)
    (h0 : p_d3 (p_C (x_F M0 w) s) = 0 → ∀ M1 : xM, (∀ a, a < 36 ∨ 39 < a → M1 a = M0 a) → Q (some (0, 0)) M1) (h : p_d3 (p_C (x_F M0 w) s) ≠ 0 → ∀ M1 : xM, p_sol (p_Cw (x_F M0 w) s) (p_Rw (x_F M0 w) p q) M0 M1 → Q (some (0, 1)) M1) :
    x_Ev l E (3, 0, 0) m_X8_solveWeights 0 [(18, 36), (11, w), (0, (s : Int)), (12, to), (5, 0), (5, 0), (5, 0), (5, 0), (5, 0)] [] M0 Q := by
  have hF' := hF
  obtain ⟨-, -, hg, hr, -, hnb, -, -⟩ := hF'
  have fa : ∀ {M : xM}, (∀ a, a ≠ 37 → M a = M0 a ∨ a = 38) → ∀ a, a ≠ 37 → a ≠ 38 → M a = M0 a := fun q a a1 a2 => (q a a1).resolve_right a2
  have cb : ∀ k, 0 ≤ k → k < 9 → -3 ≤ p_Cw (x_F M0 w) s k ∧ p_Cw (x_F M0 w) s k ≤ 3 := by
    intro k k1 k2
    unfold p_Cw
    split
    · unfold p_ce
      split
      · split <;> omega
      · exact hnb _ (by omega) (by omega)
    · split <;> omega
  have rb : ∀ k, 0 ≤ k → k < 3 → -1148000000 ≤ p_Rw (x_F M0 w) p q k ∧ p_Rw (x_F M0 w) p q k ≤ 1148000000 := by
    intro k k1 k2
    unfold p_Rw
    split
    · exact p_du_bd hF hpq ⟨k1, k2⟩
    · omega
  -- the right side, then the solving
  have rt : ∀ (n : Nat) (t g : Int) (M : xM), x_F M0 w 0 2 - g ≤ n → 0 ≤ g → g ≤ x_F M0 w 0 2 → (∀ k, 0 ≤ k → k < 9 → M 37 k = p_Cw (x_F M0 w) s k) → (∀ a, a ≠ 37 → M a = M0 a ∨ a = 38) → (∀ k, 0 ≤ k → k < 3 → M 38 k = if k < g then p_du (x_F M0 w) p q k else 0) → x_Ev l E (3, 0, 0) m_X8_solveWeights 105 [(18, 36), (11, w), (0, (s : Int)), (12, to), (1, p_fe (x_F M0 w) p q), (5, 0), (0, t), (0, g), (5, 0)] [] M Q := by
    intro n
    induction n with
    | zero =>
      intro t g M hn hg1 hg2 h1 h3 h4
      have e : M w = M0 w := fa h3 w (by omega) (by omega)
      refine u_X8_solveWeights_105 w s to _ t g ⟨fun _ => ?_, fun c => ?_⟩
      · have f2 : ∀ k, 0 ≤ k → k < 3 → M 38 k = p_Rw (x_F M0 w) p q k := by
          intro k k1 k2
          rw [h4 k k1 k2]
          unfold p_Rw
          exact x_ite_cg (by omega) _ _
        have b3 := p_C_d cb
        refine c_solve ?_ ?_ ?_ ?_
        · rw [p_d3_cg h1]; omega
        · intro c c1 c2
          rw [p_d3_cg (p_rc_cg h1 f2)]
          have := p_rc_bd (B := 1148000000) (R := p_Rw (x_F M0 w) p q) cb rb c1 c2
          omega
        · intro hd M1 hM1
          refine ⟨0, rfl, Or.inl rfl, h0 (by rw [← p_Cw_d, ← p_d3_cg h1]; exact hd) M1 (fun a ha => (hM1 a ha).trans (fa h3 a (by omega) (by omega)))⟩
        · intro hd M1 q1 q2 q3
          refine ⟨1, rfl, Or.inr rfl, h (by rw [← p_Cw_d, ← p_d3_cg h1]; exact hd) M1 ⟨?_, ?_, ?_⟩⟩
          · rw [q1, p_b_cg h1]
          · intro c c1 c2
            rw [q2 c c1 c2, p_x_cg c h1 f2]
          · intro a ha
            rw [q3 a ha]; exact fa h3 a (by omega) (by omega)
      · rw [e, ← x_F0 M0 w] at c
        omega
    | succ n ih =>
      intro t g M hn hg1 hg2 h1 h3 h4
      by_cases hgg : g = x_F M0 w 0 2
      · exact ih t g M (by omega) hg1 hg2 h1 h3 h4
      have e : M w = M0 w := fa h3 w (by omega) (by omega)
      have xF : x_F M w = x_F M0 w := x_F_eq (fun a a1 a2 => fa h3 a (by omega) (by omega))
      refine u_X8_solveWeights_105 w s to _ t g ⟨fun c => ?_, fun c => ?_⟩
      · rw [e, ← x_F0 M0 w] at c
        omega
      · have eto : M to 1 = q := by rw [fa h3 to (by omega) (by omega)]; exact ht1
        rw [eto]
        have hl := c_leftAbove (l := l) (E := E) w g p q (M := M) (by rw [xF]; exact hF) hpq (by omega) (Q := fun r zM3 => ∃ zr4, r = some (1, zr4) ∧ ((0 : Int) ≤ g ∧ g < 3) ∧ ∀ zM5 : xM, zM5 = x_wr zM3 38 g zr4 → ∀ zv6 : Int, zv6 = x_w (g + 1) → x_Ev l E (3, 0, 0) m_X8_solveWeights 105 [(18, 36), (11, w), (0, (s : Int)), (12, to), (1, p_fe (x_F M0 w) p q), (5, 0), (0, t), (0, zv6), (5, 0)] [] zM5 Q) ⟨_, rfl, by omega, ?_⟩
        · rw [xF] at hl
          exact hl
        · rw [xF]
          intro M1 hM1 v hv
          rw [x_w_id (by omega) (by omega)] at hv
          subst hM1 hv
          refine ih t (g + 1) _ (by omega) (by omega) (by omega) (fun k k1 k2 => ?_) (fun a a1 => ?_) (fun k k1 k2 => ?_)
          · rw [x_wr_ne _ _ (by omega)]; exact h1 k k1 k2
          · by_cases a8 : a = 38
            · exact Or.inr a8
            · left
              rw [x_wr_fr _ _ _ a8]; exact fa h3 a a1 a8
          · by_cases c2 : k = g
            · rw [c2, x_wr_eq, if_pos (by omega)]
            · rw [x_wr_ne _ _ (by omega), h4 k k1 k2]
              exact x_ite_cg (by omega) _ _
  have fin : ∀ (i : Nat) (M : xM), (x_cn s i : Int) = x_F M0 w 0 2 → (∀ k, 0 ≤ k → k < 9 → M 37 k = p_partw (x_F M0 w) s (x_cn s i) 0 k) → (∀ a, a ≠ 37 → M a = M0 a ∨ a = 38) → (∀ k, 0 ≤ k → k < 3 → M 38 k = 0) → x_Ev l E (3, 0, 0) m_X8_solveWeights 105 [(18, 36), (11, w), (0, (s : Int)), (12, to), (1, p_fe (x_F M0 w) p q), (5, 0), (0, (x_cn s i : Int)), (0, 0), (5, 0)] [] M Q := by
    intro i M hi h1 h3 h4
    refine rt 3 _ 0 M (by omega) (by omega) (by omega) (fun k k1 k2 => ?_) h3 (fun k k1 k2 => ?_)
    · rw [h1 k k1 k2]
      unfold p_partw p_Cw
      by_cases c : k / 3 < x_F M0 w 0 2 ∧ k % 3 < x_F M0 w 0 2
      · rw [if_pos c, if_pos (by omega)]
      · rw [if_neg c, if_neg (c := (k % 3 < ((x_cn s i : Nat) : Int) ∧ k / 3 < x_F M0 w 0 2) ∨ (k % 3 = ((x_cn s i : Nat) : Int) ∧ k / 3 < 0)) (by omega)]
        exact x_ite_cg (by omega) _ _
    · rw [h4 k k1 k2, if_neg (by omega)]
  have main : ∀ (n i : Nat) (M : xM), 7 - i ≤ n → i ≤ 7 → (∀ k, 0 ≤ k → k < 9 → M 37 k = p_partw (x_F M0 w) s (x_cn s i) 0 k) → (∀ a, a ≠ 37 → M a = M0 a ∨ a = 38) → (∀ k, 0 ≤ k → k < 3 → M 38 k = 0) → x_Ev l E (3, 0, 0) m_X8_solveWeights 28 [(18, 36), (11, w), (0, (s : Int)), (12, to), (1, p_fe (x_F M0 w) p q), (5, 0), (0, (x_cn s i : Int)), (0, (i : Int)), (5, 0)] [] M Q := by
    intro n
    induction n with
    | zero =>
      intro i M hn hi h1 h3 h4
      have ei : i = 7 := by omega
      subst ei
      have e : M w = M0 w := fa h3 w (by omega) (by omega)
      refine u_X8_solveWeights_28 w s to _ _ _ (c_pairs w (by rw [e, ← x_F0 M0 w]; exact hg) (by rw [e, ← x_F0 M0 w]; exact hr) ⟨_, rfl, fun c => fin 7 M hp h1 h3 h4, fun c => ⟨fun d => fin 7 M hp h1 h3 h4, fun d => ?_⟩⟩)
      rw [e, ← x_F0 M0 w] at d
      omega
    | succ n ih =>
      intro i M hn hi h1 h3 h4
      by_cases h7 : i = 7
      · exact ih i M (by omega) hi h1 h3 h4
      have e : M w = M0 w := fa h3 w (by omega) (by omega)
      have hm := x_cn_le s hi
      refine u_X8_solveWeights_28 w s to _ _ _ (c_pairs w (by rw [e, ← x_F0 M0 w]; exact hg) (by rw [e, ← x_F0 M0 w]; exact hr) ⟨_, rfl, fun c => fin i M ?_ h1 h3 h4, fun c => ⟨fun d => fin i M ?_ h1 h3 h4, fun d => ?_⟩⟩)
      · rw [e, ← x_F0 M0 w 2, ← x_F0 M0 w 3] at c
        have e2 := x_cn_hi hp2 (j := 7) (by omega)
        have e3 := x_cn_hi hp2 (j := i) (by omega)
        omega
      · rw [e, ← x_F0 M0 w] at d
        omega
      · rw [x_bit (by omega) (by omega)]
        refine ⟨fun b => ?_, fun b => ?_⟩
        · intro v hv
          rw [x_w_id (by omega) (by omega)] at hv
          subst hv
          have e4 : x_cn s (i + 1) = x_cn s i := by
            show x_cn s i + s / 2 ^ i % 2 = x_cn s i
            omega
          have := ih (i + 1) M (by omega) (by omega) (by rw [e4]; exact h1) h3 h4
          rw [e4] at this
          exact this
        · have hb : s / 2 ^ i % 2 = 1 := by omega
          have e4 : x_cn s (i + 1) = x_cn s i + 1 := by
            show x_cn s i + s / 2 ^ i % 2 = x_cn s i + 1
            omega
          refine c_sW_58 hw hF hs (by omega) hb (by rw [e, ← x_F0 M0 w] at d; omega) ?_ 3 0 M (by omega) (by omega) (by omega) h1 h3 h4
          intro M1 q1 q2 q3
          have := ih (i + 1) M1 (by omega) (by omega) (by rw [e4]; exact q1) q2 q3
          rw [e4] at this
          exact this
  refine u_X8_solveWeights_0 w s to (c_clear _ (fun M1 q1 q2 q3 => ⟨rfl, ?_⟩))
  have xF1 : x_F M1 w = x_F M0 w := x_F_eq (fun a a1 a2 => q3 a (by omega) (by omega))
  rw [q3 to (by omega) (by omega), ht0, ht1]
  refine c_feels w p q (by rw [xF1]; exact hF) hpq ⟨_, rfl, ?_⟩
  rw [xF1]
  have z : x_cn s 0 = 0 := rfl
  refine main 7 0 M1 (by omega) (by omega) (fun k k1 k2 => ?_) (fun a a1 => ?_) q2
  · rw [q1 k k1 k2]
    unfold p_partw
    rw [if_neg (c := (k % 3 < ((x_cn s 0 : Nat) : Int) ∧ k / 3 < x_F M0 w 0 2) ∨ (k % 3 = ((x_cn s 0 : Nat) : Int) ∧ k / 3 < 0)) (by omega), x_F0]
  · by_cases a8 : a = 38
    · exact Or.inr a8
    · exact Or.inl (q3 a a1 a8)
end SW
