/-! The square's amounts -/
def p_part (F : xM) (s : Nat) (t j : Int) : Int → Int := fun k => if (k / 3 < t ∧ k % 3 < F 0 2) ∨ (k / 3 = t ∧ k % 3 < j) then p_ce F (x_nb s (k / 3).toNat) (k % 3) else if k / 3 = k % 3 ∧ F 0 2 ≤ k / 3 then 1 else 0
def p_partR (F : xM) (s : Nat) (t : Int) : Int → Int := fun k => if k < t then p_ri F (x_nb s k.toNat) else 0
section SA
variable {l : Launch} {E : xE} {Q : Option xV → xM → Prop}
theorem c_sA_42 {w : Int} (hw : 9 ≤ w ∧ w ≤ 32) {M0 : xM} (hF : p_wf (x_F M0 w)) {s i : Nat} (hs : s < 128) (hi : i < 7) (hb : s / 2 ^ i % 2 = 1) (ht : (x_cn s i : Int) < x_F M0 w 0 2)
    (h : ∀ M1 : xM, (∀ k, 0 ≤ k → k < 9 → M1 37 k = p_part (x_F M0 w) s (x_cn s i + 1) 0 k) → (∀ k, 0 ≤ k → k < 3 → M1 38 k = p_partR (x_F M0 w) s (x_cn s i + 1) k) → (∀ a, a ≠ 37 → a ≠ 38 → M1 a = M0 a) → x_Ev l E (3, 0, 0) m_X8_solveAmounts 13 [(18, 36), (11, w), (0, (s : Int)), (0, (x_cn s i : Int) + 1), (0, (i : Int) + 1), (5, 0)] [] M1 Q) :
    ∀ (n : Nat) (j : Int) (M : xM), x_F M0 w 0 2 - j ≤ n → 0 ≤ j → j ≤ x_F M0 w 0 2 → (∀ k, 0 ≤ k → k < 9 → M 37 k = p_part (x_F M0 w) s (x_cn s i) j k) → (∀ k, 0 ≤ k → k < 3 → M 38 k = p_partR (x_F M0 w) s (x_cn s i) k) → (∀ a, a ≠ 37 → a ≠ 38 → M a = M0 a) → x_Ev l E (3, 0, 0) m_X8_solveAmounts 42 [(18, 36), (11, w), (0, (s : Int)), (0, (x_cn s i : Int)), (0, (i : Int)), (0, j)] [] M Q := by
  obtain ⟨-, -, hg, hr, -, -, -, -⟩ := hF
  have hn := x_nb_cn hs hi hb
  intro n
  induction n with
  | zero =>
    intro j M hn' hj hj2 h1 h2 h3
    have e : M w = M0 w := h3 w (by omega) (by omega)
    have e3 : M (w + 3) = M0 (w + 3) := h3 _ (by omega) (by omega)
    have ej : j = x_F M0 w 0 2 := by omega
    have fin : ∀ M1 : xM, M1 = x_wr M 38 (x_cn s i) (p_ri (x_F M0 w) i) → x_Ev l E (3, 0, 0) m_X8_solveAmounts 13 [(18, 36), (11, w), (0, (s : Int)), (0, (x_cn s i : Int) + 1), (0, (i : Int) + 1), (5, 0)] [] M1 Q := by
      intro M1 hM1
      subst hM1
      refine h _ ?_ ?_ ?_
      · intro k k1 k2
        rw [x_wr_fr _ _ _ (by omega), h1 k k1 k2]
        unfold p_part
        exact x_ite_cg (by omega) _ _
      · intro k k1 k2
        unfold p_partR
        by_cases c : k = (x_cn s i : Int)
        · subst c
          rw [x_wr_eq, if_pos (by omega), Int.toNat_natCast, hn]
        · rw [x_wr_ne _ _ (by omega), h2 k k1 k2]
          unfold p_partR
          exact x_ite_cg (by omega) _ _
      · intro a a1 a2
        rw [x_wr_fr _ _ _ a2]; exact h3 a a1 a2
    refine u_X8_solveAmounts_42 w s (x_cn s i) i j ⟨fun c => ⟨fun d => ⟨by omega, ?_⟩, fun d => ⟨?_, by omega, ?_⟩⟩, fun c => ?_⟩
    · intro M1 hM1 v hv v2 hv2
      rw [x_w_id (by omega) (by omega)] at hv hv2
      subst hv hv2
      refine fin M1 ?_
      rw [hM1]
      unfold p_ri
      rw [if_pos (by rw [x_F0, ← e]; exact d)]
    · rw [e, ← x_F0 M0 w] at d
      omega
    · intro M1 hM1 v hv v2 hv2
      rw [x_w_id (by omega) (by omega)] at hv hv2
      subst hv hv2
      refine fin M1 ?_
      rw [hM1, e3]
      unfold p_ri
      rw [if_neg (by rw [x_F0, ← e]; exact d), x_F3]
    · rw [e, ← x_F0 M0 w] at c
      omega
  | succ n ih =>
    intro j M hn' hj hj2 h1 h2 h3
    have e : M w = M0 w := h3 w (by omega) (by omega)
    by_cases hjg : j = x_F M0 w 0 2
    · exact ih j M (by omega) hj hj2 h1 h2 h3
    refine u_X8_solveAmounts_42 w s (x_cn s i) i j ⟨fun c => ?_, fun c => ?_⟩
    · rw [e, ← x_F0 M0 w] at c
      omega
    · have eF : p_ce (x_F M w) i j = p_ce (x_F M0 w) i j := by
        rw [x_F_eq (fun a a1 a2 => h3 a (by omega) (by omega))]
      refine c_cellOf w i j (by omega) (by omega) hj (by omega) (by rw [e, ← x_F0 M0 w]; exact hr) ⟨_, rfl, ?_⟩
      rw [x_ix (by omega) (by omega) hj (by omega), eF]
      refine ⟨by omega, ?_⟩
      intro M1 hM1 v hv
      rw [x_w_id (by omega) (by omega)] at hv
      subst hM1 hv
      refine ih (j + 1) _ (by omega) (by omega) (by omega) ?_ ?_ ?_
      · intro k k1 k2
        unfold p_part
        by_cases c2 : k = 3 * (x_cn s i : Int) + j
        · subst c2
          rw [x_wr_eq, if_pos (by omega), show (3 * (x_cn s i : Int) + j) / 3 = (x_cn s i : Int) by omega, show (3 * (x_cn s i : Int) + j) % 3 = j by omega, Int.toNat_natCast, hn]
        · rw [x_wr_ne _ _ (by omega), h1 k k1 k2]
          unfold p_part
          exact x_ite_cg (by omega) _ _
      · intro k k1 k2
        rw [x_wr_fr _ _ _ (by omega)]; exact h2 k k1 k2
      · intro a a1 a2
        rw [x_wr_fr _ _ _ a1]; exact h3 a a1 a2
theorem p_C_bd {F : xM} (hF : p_wf F) {s : Nat} (hs : s < 128) (hp : (x_cn s 7 : Int) = F 0 2) : ∀ k, 0 ≤ k → k < 9 → -3 ≤ p_C F s k ∧ p_C F s k ≤ 3 := by
  obtain ⟨-, -, hg, hr, -, hn, -, -⟩ := hF
  intro k k1 k2
  unfold p_C
  split
  · unfold p_ce
    split
    · split <;> omega
    · exact hn _ (by omega) (by omega)
  · split <;> omega
theorem p_R_bd {F : xM} (hF : p_wf F) {s : Nat} : ∀ k, 0 ≤ k → k < 3 → 0 ≤ p_R F s k ∧ p_R F s k ≤ 20 := by
  obtain ⟨-, -, hg, hr, -, -, -, hn⟩ := hF
  intro k k1 k2
  unfold p_R
  split
  · unfold p_ri
    split
    · omega
    · exact hn _ (by omega) (by omega)
  · omega
theorem p_rc_bd {C R : Int → Int} {c B : Int} (hc : ∀ k, 0 ≤ k → k < 9 → -3 ≤ C k ∧ C k ≤ 3) (hr : ∀ k, 0 ≤ k → k < 3 → -B ≤ R k ∧ R k ≤ B) (h0 : 0 ≤ c) (h3 : c < 3) : -(54 * B) ≤ p_d3 (p_rc C R c) ∧ p_d3 (p_rc C R c) ≤ 54 * B := by
  have hb := hr 0 (by omega) (by omega)
  have key : ∀ k, 0 ≤ k → k < 9 → (k % 3 = c → -B ≤ p_rc C R c k ∧ p_rc C R c k ≤ B) ∧ (k % 3 ≠ c → -3 ≤ p_rc C R c k ∧ p_rc C R c k ≤ 3) := by
    intro k k1 k2
    unfold p_rc
    refine ⟨fun e => ?_, fun e => ?_⟩
    · rw [if_pos e]; exact hr _ (by omega) (by omega)
    · rw [if_neg e]; exact hc k k1 k2
  have : c = 0 ∨ c = 1 ∨ c = 2 := by omega
  rcases this with e | e | e
  · have := p_d3_bd (A := B) (B := 3) (D := 3) (fun k k1 k2 k3 => (key k k1 k2).1 (by omega)) (fun k k1 k2 k3 => (key k k1 k2).2 (by omega)) (fun k k1 k2 k3 => (key k k1 k2).2 (by omega))
    omega
  · have := p_d3_bd (A := 3) (B := B) (D := 3) (fun k k1 k2 k3 => (key k k1 k2).2 (by omega)) (fun k k1 k2 k3 => (key k k1 k2).1 (by omega)) (fun k k1 k2 k3 => (key k k1 k2).2 (by omega))
    omega
  · have := p_d3_bd (A := 3) (B := 3) (D := B) (fun k k1 k2 k3 => (key k k1 k2).2 (by omega)) (fun k k1 k2 k3 => (key k k1 k2).2 (by omega)) (fun k k1 k2 k3 => (key k k1 k2).1 (by omega))
    omega
theorem p_C_d {C : Int → Int} (hc : ∀ k, 0 ≤ k → k < 9 → -3 ≤ C k ∧ C k ≤ 3) : -162 ≤ p_d3 C ∧ p_d3 C ≤ 162 := by
  have := p_d3_bd (C := C) (A := 3) (B := 3) (D := 3) (fun k k1 k2 _ => hc k k1 k2) (fun k k1 k2 _ => hc k k1 k2) (fun k k1 k2 _ => hc k k1 k2)
  omega
/-- what solveAmounts and solveWeights leave -/
def p_sol (C R : Int → Int) (M M1 : xM) : Prop := M1 36 3 = p_b C ∧ (∀ c, 0 ≤ c → c < 3 → M1 39 c = p_x C R c) ∧ ∀ a, a < 36 ∨ 39 < a → M1 a = M a
theorem c_sA_13 {w : Int} (hw : 9 ≤ w ∧ w ≤ 32) {M0 : xM} (hF : p_wf (x_F M0 w)) {s : Nat} (hs : s < 128) (hp : (x_cn s 7 : Int) = x_F M0 w 0 2) (hp2 : (s : Nat) < 2 ^ (x_F M0 w 0 3 + x_F M0 w 0 2).toNat)
    (h0 : p_d3 (p_C (x_F M0 w) s) = 0 → ∀ M1 : xM, (∀ a, a < 36 ∨ 39 < a → M1 a = M0 a) → Q (some (0, 0)) M1) (h : p_d3 (p_C (x_F M0 w) s) ≠ 0 → ∀ M1 : xM, p_sol (p_C (x_F M0 w) s) (p_R (x_F M0 w) s) M0 M1 → Q (some (0, 1)) M1) :
    ∀ (n i : Nat) (M : xM), 7 - i ≤ n → i ≤ 7 → (∀ k, 0 ≤ k → k < 9 → M 37 k = p_part (x_F M0 w) s (x_cn s i) 0 k) → (∀ k, 0 ≤ k → k < 3 → M 38 k = p_partR (x_F M0 w) s (x_cn s i) k) → (∀ a, a ≠ 37 → a ≠ 38 → M a = M0 a) → x_Ev l E (3, 0, 0) m_X8_solveAmounts 13 [(18, 36), (11, w), (0, (s : Int)), (0, (x_cn s i : Int)), (0, (i : Int)), (5, 0)] [] M Q := by
  have hF' := hF
  obtain ⟨-, -, hg, hr, -, -, -, -⟩ := hF'
  have fin : ∀ (i : Nat) (M : xM), (x_cn s i : Int) = x_F M0 w 0 2 → (∀ k, 0 ≤ k → k < 9 → M 37 k = p_part (x_F M0 w) s (x_cn s i) 0 k) → (∀ k, 0 ≤ k → k < 3 → M 38 k = p_partR (x_F M0 w) s (x_cn s i) k) → (∀ a, a ≠ 37 → a ≠ 38 → M a = M0 a) → x_Ev l E (2, 0, 0) m_X8_solve 0 [(18, 36), (5, 0), (5, 0), (5, 0)] [] M (fun r zM3 => ∃ zr4, r = some (0, zr4) ∧ (zr4 = 0 ∨ zr4 = 1) ∧ Q (some (0, zr4)) zM3) := by
    intro i M hi h1 h2 h3
    have f1 : ∀ k, 0 ≤ k → k < 9 → M 37 k = p_C (x_F M0 w) s k := by
      intro k k1 k2
      rw [h1 k k1 k2]
      unfold p_part p_C
      by_cases c : k / 3 < x_F M0 w 0 2 ∧ k % 3 < x_F M0 w 0 2
      · rw [if_pos c, if_pos (by omega)]
      · rw [if_neg c, if_neg (c := (k / 3 < ((x_cn s i : Nat) : Int) ∧ k % 3 < x_F M0 w 0 2) ∨ (k / 3 = ((x_cn s i : Nat) : Int) ∧ k % 3 < 0)) (by omega)]
        exact x_ite_cg (by omega) _ _
    have f2 : ∀ k, 0 ≤ k → k < 3 → M 38 k = p_R (x_F M0 w) s k := by
      intro k k1 k2
      rw [h2 k k1 k2]
      unfold p_partR p_R
      rw [hi]
    have b1 := p_C_bd hF hs hp
    have b2 := p_R_bd hF (s := s)
    have b3 := p_C_d b1
    refine c_solve ?_ ?_ ?_ ?_
    · rw [p_d3_cg f1]; omega
    · intro c c1 c2
      rw [p_d3_cg (p_rc_cg f1 f2)]
      have := p_rc_bd (B := 20) (R := p_R (x_F M0 w) s) b1 (fun k k1 k2 => by have := b2 k k1 k2; omega) c1 c2
      omega
    · intro hd M1 hM1
      refine ⟨0, rfl, Or.inl rfl, h0 (by rw [← p_d3_cg f1]; exact hd) M1 (fun a ha => (hM1 a ha).trans (h3 a (by omega) (by omega)))⟩
    · intro hd M1 q1 q2 q3
      refine ⟨1, rfl, Or.inr rfl, h (by rw [← p_d3_cg f1]; exact hd) M1 ⟨?_, ?_, ?_⟩⟩
      · rw [q1, p_b_cg f1]
      · intro c c1 c2
        rw [q2 c c1 c2, p_x_cg c f1 f2]
      · intro a ha
        rw [q3 a ha]; exact h3 a (by omega) (by omega)
  intro n
  induction n with
  | zero =>
    intro i M hn hi h1 h2 h3
    have ei : i = 7 := by omega
    subst ei
    have e : M w = M0 w := h3 w (by omega) (by omega)
    refine u_X8_solveAmounts_13 w s _ _ (c_pairs w (by rw [e, ← x_F0 M0 w]; exact hg) (by rw [e, ← x_F0 M0 w]; exact hr) ⟨_, rfl, fun c => fin 7 M hp h1 h2 h3, fun c => ⟨fun d => fin 7 M hp h1 h2 h3, fun d => ?_⟩⟩)
    rw [e, ← x_F0 M0 w] at d
    omega
  | succ n ih =>
    intro i M hn hi h1 h2 h3
    by_cases h7 : i = 7
    · exact ih i M (by omega) hi h1 h2 h3
    have e : M w = M0 w := h3 w (by omega) (by omega)
    have hm := x_cn_le s hi
    refine u_X8_solveAmounts_13 w s _ _ (c_pairs w (by rw [e, ← x_F0 M0 w]; exact hg) (by rw [e, ← x_F0 M0 w]; exact hr) ⟨_, rfl, fun c => fin i M ?_ h1 h2 h3, fun c => ⟨fun d => fin i M ?_ h1 h2 h3, fun d => ?_⟩⟩)
    · rw [e, ← x_F0 M0 w 2, ← x_F0 M0 w 3] at c
      have e2 := x_cn_hi hp2 (j := 7) (by omega)
      have e3 := x_cn_hi hp2 (j := i) (by omega)
      omega
    · rw [e, ← x_F0 M0 w] at d
      omega
    · rw [x_bit (by omega) (by omega)]
      refine ⟨fun b => ?_, fun b => ?_⟩
      · intro v hv
        rw [x_w_id (by omega) (by omega)] at hv
        subst hv
        have e4 : x_cn s (i + 1) = x_cn s i := by
          show x_cn s i + s / 2 ^ i % 2 = x_cn s i
          omega
        have := ih (i + 1) M (by omega) (by omega) (by rw [e4]; exact h1) (by rw [e4]; exact h2) h3
        rw [e4] at this
        exact this
      · have hb : s / 2 ^ i % 2 = 1 := by omega
        have e4 : x_cn s (i + 1) = x_cn s i + 1 := by
          show x_cn s i + s / 2 ^ i % 2 = x_cn s i + 1
          omega
        refine c_sA_42 hw hF hs (by omega) hb (by rw [e, ← x_F0 M0 w] at d; omega) ?_ 3 0 M (by omega) (by omega) (by omega) h1 h2 h3
        intro M1 q1 q2 q3
        have := ih (i + 1) M1 (by omega) (by omega) (by rw [e4]; exact q1) (by rw [e4]; exact q2) q3
        rw [e4] at this
        exact this
theorem c_solveAmounts {w : Int} (hw : 9 ≤ w ∧ w ≤ 32) {M : xM} (hF : p_wf (x_F M w)) {s : Nat} (hs : s < 128) (hp : (x_cn s 7 : Int) = x_F M w 0 2) (hp2 : (s : Nat) < 2 ^ (x_F M w 0 3 + x_F M w 0 2).toNat)
    (h0 : p_d3 (p_C (x_F M w) s) = 0 → ∀ M1 : xM, (∀ a, a < 36 ∨ 39 < a → M1 a = M a) → Q (some (0, 0)) M1) (h : p_d3 (p_C (x_F M w) s) ≠ 0 → ∀ M1 : xM, p_sol (p_C (x_F M w) s) (p_R (x_F M w) s) M M1 → Q (some (0, 1)) M1) :
    x_Ev l E (3, 0, 0) m_X8_solveAmounts 0 [(18, 36), (11, w), (0, (s : Int)), (5, 0), (5, 0), (5, 0)] [] M Q := by
  refine u_X8_solveAmounts_0 w s (c_clear _ (fun M1 q1 q2 q3 => ⟨rfl, ?_⟩))
  have := c_sA_13 (l := l) (E := E) (Q := Q) hw hF hs hp hp2 h0 h 7 0 M1 (by omega) (by omega) ?_ ?_ q3
  · exact this
  · intro k k1 k2
    rw [q1 k k1 k2]
    unfold p_part
    have z : x_cn s 0 = 0 := rfl
    rw [if_neg (c := (k / 3 < ((x_cn s 0 : Nat) : Int) ∧ k % 3 < x_F M w 0 2) ∨ (k / 3 = ((x_cn s 0 : Nat) : Int) ∧ k % 3 < 0)) (by omega), x_F0]
  · intro k k1 k2
    rw [q2 k k1 k2]
    unfold p_partR
    have z : x_cn s 0 = 0 := rfl
    rw [if_neg (by omega)]
end SA
