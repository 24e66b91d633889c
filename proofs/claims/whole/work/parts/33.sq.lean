/-! Contracts of the square -/
section SQ
variable {l : Launch} {E : xE} {Q : Option xV → xM → Prop}
theorem c_clear_16 (g : Int) {M0 : xM} (h : ∀ M1 : xM, (∀ k, 0 ≤ k → k < 9 → M1 37 k = if k / 3 = k % 3 ∧ g ≤ k / 3 then 1 else 0) → (∀ k, 0 ≤ k → k < 3 → M1 38 k = 0) → (∀ a, a ≠ 37 → a ≠ 38 → M1 a = M0 a) → Q none M1) :
    ∀ (n : Nat) (i j : Int) (M : xM), 4 * (3 - i) - j < n → 0 ≤ i → i < 3 → 0 ≤ j → j ≤ 3 → (∀ k, 0 ≤ k → k < 3 * i + j → M 37 k = if k / 3 = k % 3 ∧ g ≤ k / 3 then 1 else 0) → (∀ k, 0 ≤ k → k ≤ i → M 38 k = 0) → (∀ a, a ≠ 37 → a ≠ 38 → M a = M0 a) → x_Ev l E (1, 0, 0) m_X8_clear 16 [(18, 36), (0, g), (0, i), (0, j)] [] M Q := by
  intro n
  induction n with
  | zero => intro i j M hn; omega
  | succ n ih =>
    intro i j M hn hi hi2 hj hj2 h1 h2 h3
    refine u_X8_clear_16 g i j ⟨fun c => ?_, fun c => ?_⟩
    · intro v hv
      rw [x_w_id (by omega) (by omega)] at hv
      subst hv
      refine u_X8_clear_2 g (i + 1) ⟨fun d => ?_, fun d => ⟨by omega, ?_⟩⟩
      · exact h M (fun k a b => h1 k a (by omega)) (fun k a b => h2 k a (by omega)) h3
      · intro M1 hM1
        subst hM1
        refine ih (i + 1) 0 _ (by omega) (by omega) (by omega) (by omega) (by omega) ?_ ?_ ?_
        · intro k k1 k2
          rw [x_wr_ne M 0 (by omega)]
          exact h1 k k1 (by omega)
        · intro k k1 k2
          by_cases e : k = i + 1
          · subst e; exact x_wr_eq ..
          · rw [x_wr_ne M 0 (by omega)]; exact h2 k k1 (by omega)
        · intro a a1 a2
          rw [x_wr_fr M _ _ a2]; exact h3 a a1 a2
    · have hx : x_w (x_w (i * 3) + j) = 3 * i + j := x_ix hi (by omega) hj (by omega)
      rw [hx]
      refine ⟨fun c2 => ⟨by omega, ?_⟩, fun c2 => ⟨fun c3 => ⟨by omega, ?_⟩, fun c3 => ⟨by omega, ?_⟩⟩⟩
      all_goals
        intro M1 hM1 v hv
        rw [x_w_id (by omega) (by omega)] at hv
        subst hM1 hv
        refine ih i (j + 1) _ (by omega) hi hi2 (by omega) (by omega) ?_ ?_ ?_
        · intro k k1 k2
          by_cases e : k = 3 * i + j
          · subst e; rw [x_wr_eq]
            first | rw [if_pos (by omega)] | rw [if_neg (by omega)]
          · rw [x_wr_ne M _ (by omega)]; exact h1 k k1 (by omega)
        · intro k k1 k2
          rw [x_wr_ne M _ (by omega)]; exact h2 k k1 k2
        · intro a a1 a2
          rw [x_wr_fr M _ _ a1]; exact h3 a a1 a2
theorem c_clear (g : Int) {M : xM} (h : ∀ M1 : xM, (∀ k, 0 ≤ k → k < 9 → M1 37 k = if k / 3 = k % 3 ∧ g ≤ k / 3 then 1 else 0) → (∀ k, 0 ≤ k → k < 3 → M1 38 k = 0) → (∀ a, a ≠ 37 → a ≠ 38 → M1 a = M a) → Q none M1) : x_Ev l E (1, 0, 0) m_X8_clear 0 [(18, 36), (0, g), (5, 0), (5, 0)] [] M Q := by
  refine u_X8_clear_0 g (u_X8_clear_2 g 0 ⟨fun c => absurd c (by omega), fun c => ⟨by omega, ?_⟩⟩)
  intro M1 hM1
  subst hM1
  refine c_clear_16 g h 13 0 0 _ (by omega) (by omega) (by omega) (by omega) (by omega) (fun k k1 k2 => by omega) ?_ ?_
  · intro k k1 k2
    have e : k = 0 := by omega
    subst e; exact x_wr_eq ..
  · intro a a1 a2
    exact x_wr_fr M _ _ a2
theorem c_measure {M : xM} (h : Q (some (1, x_W (p_d3 (M 37)))) M) : x_Ev l E (1, 0, 0) m_X8_measure 0 [(18, 36)] [] M Q := by
  refine u_X8_measure_0 ?_
  simp only [x_W_a1, x_W_a2, x_W_s1, x_W_s2, x_W_m1, x_W_m2]
  exact h
theorem c_turn_2 (c : Int) (hc : 0 ≤ c) (hc2 : c < 3) {M0 : xM} (h : ∀ M1 : xM, (∀ k, 0 ≤ k → k < 9 → M1 37 k = p_rc (M0 37) (M0 38) c k) → (∀ k, 0 ≤ k → k < 3 → M1 38 k = M0 37 (3 * k + c)) → (∀ a, a ≠ 37 → a ≠ 38 → M1 a = M0 a) → Q none M1) :
    ∀ (n : Nat) (i : Int) (M : xM), 3 - i ≤ n → 0 ≤ i → i ≤ 3 → (∀ k, 0 ≤ k → k < 9 → M 37 k = if k % 3 = c ∧ k / 3 < i then M0 38 (k / 3) else M0 37 k) → (∀ k, 0 ≤ k → k < 3 → M 38 k = if k < i then M0 37 (3 * k + c) else M0 38 k) → (∀ a, a ≠ 37 → a ≠ 38 → M a = M0 a) → x_Ev l E (1, 0, 0) m_X8_turnColumn 2 [(18, 36), (0, c), (0, i), (5, 0), (5, 0)] [] M Q := by
  intro n
  induction n with
  | zero =>
    intro i M hn hi hi2 h1 h2 h3
    refine u_X8_turnColumn_2 c i ⟨fun d => ?_, fun d => absurd hn (by omega)⟩
    refine h M ?_ ?_ h3
    · intro k k1 k2
      rw [h1 k k1 k2]
      unfold p_rc
      by_cases e : k % 3 = c
      · rw [if_pos ⟨e, by omega⟩, if_pos e]
      · rw [if_neg (fun q => e q.1), if_neg e]
    · intro k k1 k2
      rw [h2 k k1 k2, if_pos (by omega)]
  | succ n ih =>
    intro i M hn hi hi2 h1 h2 h3
    by_cases hi3 : 3 ≤ i
    · exact ih i M (by omega) hi hi2 h1 h2 h3
    refine u_X8_turnColumn_2 c i ⟨fun d => absurd d hi3, fun d => ?_⟩
    · have hx : x_w (x_w (i * 3) + c) = 3 * i + c := x_ix hi (by omega) hc (by omega)
      rw [hx]
      refine ⟨by omega, ?_⟩
      intro v hv
      refine ⟨by omega, by omega, ?_⟩
      intro M1 hM1
      refine ⟨by omega, ?_⟩
      intro M2 hM2 v4 hv4
      rw [x_w_id (by omega) (by omega)] at hv4
      subst hM2 hM1 hv hv4
      refine ih (i + 1) _ (by omega) (by omega) (by omega) ?_ ?_ ?_
      · intro k k1 k2
        rw [x_wr_ne _ _ (by omega)]
        by_cases e : k = 3 * i + c
        · subst e
          rw [x_wr_eq, if_pos (by omega), h2 i (by omega) (by omega), if_neg (by omega)]
          congr 1; omega
        · rw [x_wr_ne _ _ (by omega), h1 k k1 k2]
          by_cases e2 : k % 3 = c ∧ k / 3 < i
          · rw [if_pos e2, if_pos (by omega)]
          · rw [if_neg e2, if_neg (by omega)]
      · intro k k1 k2
        by_cases e : k = i
        · subst e
          rw [x_wr_eq, if_pos (by omega), h1 _ (by omega) (by omega), if_neg (by omega)]
        · rw [x_wr_ne _ _ (by omega), x_wr_ne _ _ (by omega), h2 k k1 k2]
          by_cases e2 : k < i
          · rw [if_pos e2, if_pos (by omega)]
          · rw [if_neg e2, if_neg (by omega)]
      · intro a a1 a2
        rw [x_wr_fr _ _ _ a2, x_wr_fr _ _ _ a1]; exact h3 a a1 a2
theorem c_turn (c : Int) (hc : 0 ≤ c) (hc2 : c < 3) {M : xM} (h : ∀ M1 : xM, (∀ k, 0 ≤ k → k < 9 → M1 37 k = p_rc (M 37) (M 38) c k) → (∀ k, 0 ≤ k → k < 3 → M1 38 k = M 37 (3 * k + c)) → (∀ a, a ≠ 37 → a ≠ 38 → M1 a = M a) → Q none M1) : x_Ev l E (1, 0, 0) m_X8_turnColumn 0 [(18, 36), (0, c), (5, 0), (5, 0), (5, 0)] [] M Q := by
  refine u_X8_turnColumn_0 c (c_turn_2 c hc hc2 h 3 0 M (by omega) (by omega) (by omega) ?_ ?_ (fun _ _ _ => rfl))
  · intro k k1 k2
    rw [if_neg (by omega)]
  · intro k k1 k2
    rw [if_neg (by omega)]
/-- the square after its solving -/
theorem c_solve_38 {M0 : xM} (hd : p_d3 (M0 37) ≠ 0) (hb0 : -1000000000000000000 ≤ p_d3 (M0 37) ∧ p_d3 (M0 37) ≤ 1000000000000000000) (hb : ∀ c, 0 ≤ c → c < 3 → -1000000000000000000 ≤ p_d3 (p_rc (M0 37) (M0 38) c) ∧ p_d3 (p_rc (M0 37) (M0 38) c) ≤ 1000000000000000000) (h : ∀ M1 : xM, M1 36 3 = p_b (M0 37) → (∀ c, 0 ≤ c → c < 3 → M1 39 c = p_x (M0 37) (M0 38) c) → (∀ a, a < 36 ∨ 39 < a → M1 a = M0 a) → Q (some (0, 1)) M1) :
    ∀ (n : Nat) (c : Int) (M : xM), 3 - c ≤ n → 0 ≤ c → c ≤ 3 → M 36 3 = p_d3 (M0 37) → (∀ k, 0 ≤ k → k < 9 → M 37 k = M0 37 k) → (∀ k, 0 ≤ k → k < 3 → M 38 k = M0 38 k) → (∀ k, 0 ≤ k → k < c → M 39 k = p_x (M0 37) (M0 38) k) → (∀ a, a < 36 ∨ 39 < a → M a = M0 a) → x_Ev l E (2, 0, 0) m_X8_solve 38 [(18, 36), (1, p_sg (p_d3 (M0 37))), (5, 0), (0, c)] [] M Q := by
  have hsg : p_sg (p_d3 (M0 37)) = 1 ∨ p_sg (p_d3 (M0 37)) = -1 := by unfold p_sg; split <;> omega
  intro n
  induction n with
  | zero =>
    intro c M hn hc hc2 h0 h1 h2 h3 h4
    refine u_X8_solve_38 _ c ⟨fun d => ?_, fun d => absurd hn (by omega)⟩
    intro M1 hM1
    subst hM1
    refine h _ ?_ ?_ ?_
    · rw [x_wr_eq, h0]
      unfold p_b
      rcases hsg with e | e <;> rw [e] <;> exact x_W_id (by omega) (by omega)
    · intro k k1 k2
      rw [x_wr_ne _ _ (by omega)]; exact h3 k k1 (by omega)
    · intro a ha
      rw [x_wr_fr _ _ _ (by omega)]; exact h4 a ha
  | succ n ih =>
    intro c M hn hc hc2 h0 h1 h2 h3 h4
    by_cases hc3 : 3 ≤ c
    · exact ih c M (by omega) hc hc2 h0 h1 h2 h3 h4
    refine u_X8_solve_38 _ c ⟨fun d => absurd d hc3, fun d => ?_⟩
    refine c_turn c hc (by omega) (fun M1 f1 f2 f3 => ⟨rfl, c_measure ⟨_, rfl, by omega, ?_⟩⟩)
    have hdd : p_d3 (M1 37) = p_d3 (p_rc (M0 37) (M0 38) c) := p_d3_cg (fun k k1 k2 => (f1 k k1 k2).trans (p_rc_cg h1 h2 k k1 k2))
    intro M2 hM2
    subst hM2
    refine c_turn c hc (by omega) (fun M3 g1 g2 g3 => ⟨rfl, ?_⟩)
    intro v hv
    rw [x_w_id (by omega) (by omega)] at hv
    subst hv
    refine ih (c + 1) M3 (by omega) (by omega) (by omega) ?_ ?_ ?_ ?_ ?_
    · rw [g3 36 (by omega) (by omega), x_wr_ne _ _ (by omega), f3 36 (by omega) (by omega)]; exact h0
    · intro k k1 k2
      rw [g1 k k1 k2]
      unfold p_rc
      split
      · rw [x_wr_ne _ _ (by omega), f2 _ (by omega) (by omega), ← h1 k k1 k2]
        congr 1; omega
      · rw [x_wr_ne _ _ (by omega), f1 k k1 k2, ← h1 k k1 k2]
        unfold p_rc
        rw [if_neg (by assumption)]
    · intro k k1 k2
      rw [g2 k k1 k2, x_wr_ne _ _ (by omega), f1 _ (by omega) (by omega), ← h2 k k1 k2]
      unfold p_rc
      rw [if_pos (by omega)]
      congr 1; omega
    · intro k k1 k2
      rw [g3 39 (by omega) (by omega)]
      by_cases e : k = c
      · subst e
        rw [x_wr_eq, x_W_m1, hdd]
        have := hb k k1 (by omega)
        unfold p_x
        rcases hsg with e | e <;> rw [e] <;> exact x_W_id (by omega) (by omega)
      · rw [x_wr_ne _ _ (by omega), f3 39 (by omega) (by omega)]; exact h3 k k1 (by omega)
    · intro a ha
      rw [g3 a (by omega) (by omega), x_wr_fr _ _ _ (by omega), f3 a (by omega) (by omega)]; exact h4 a ha
theorem c_solve {M : xM} (hb0 : -1000000000000000000 ≤ p_d3 (M 37) ∧ p_d3 (M 37) ≤ 1000000000000000000) (hb : ∀ c, 0 ≤ c → c < 3 → -1000000000000000000 ≤ p_d3 (p_rc (M 37) (M 38) c) ∧ p_d3 (p_rc (M 37) (M 38) c) ≤ 1000000000000000000) (h0 : p_d3 (M 37) = 0 → ∀ M1 : xM, (∀ a, a < 36 ∨ 39 < a → M1 a = M a) → Q (some (0, 0)) M1) (h : p_d3 (M 37) ≠ 0 → ∀ M1 : xM, M1 36 3 = p_b (M 37) → (∀ c, 0 ≤ c → c < 3 → M1 39 c = p_x (M 37) (M 38) c) → (∀ a, a < 36 ∨ 39 < a → M1 a = M a) → Q (some (0, 1)) M1) : x_Ev l E (2, 0, 0) m_X8_solve 0 [(18, 36), (5, 0), (5, 0), (5, 0)] [] M Q := by
  refine u_X8_solve_0 (c_measure ⟨_, rfl, ?_⟩)
  intro M1 hM1
  rw [x_W_id (by omega) (by omega)] at hM1
  have e3 : M1 36 3 = p_d3 (M 37) := by rw [hM1]; exact x_wr_eq ..
  have ef : ∀ a, a ≠ 36 → M1 a = M a := fun a ha => by rw [hM1]; exact x_wr_fr _ _ _ ha
  rw [e3]
  have key : p_d3 (M 37) ≠ 0 → x_Ev l E (2, 0, 0) m_X8_solve 38 [(18, 36), (1, p_sg (p_d3 (M 37))), (5, 0), (0, 0)] [] M1 Q := by
    intro hd
    have e37 := ef 37 (by omega)
    have e38 := ef 38 (by omega)
    have hd' : p_d3 (M1 37) ≠ 0 := by rw [e37]; exact hd
    have hk := c_solve_38 (l := l) (E := E) (Q := Q) (M0 := M1) hd' (by rw [e37]; exact hb0) (by rw [e37, e38]; exact hb) (by
      rw [e37, e38]
      intro M2 q1 q2 q3
      exact h hd M2 q1 q2 (fun a ha => (q3 a ha).trans (ef a (by omega)))) 3 0 M1 (by omega) (by omega) (by omega) (by rw [e3, e37]) (fun _ _ _ => rfl) (fun _ _ _ => rfl) (fun k k1 k2 => by omega) (fun _ _ => rfl)
    rw [e37] at hk
    exact hk
  refine ⟨fun c => ⟨fun d => ?_, fun d => ?_⟩, fun c => h0 c M1 (fun a ha => ef a (by omega))⟩
  · have hk := key c
    unfold p_sg at hk
    rw [if_neg (by omega)] at hk
    exact hk
  · have hk := key c
    unfold p_sg at hk
    rw [if_pos (by omega)] at hk
    exact hk
theorem c_pairs (w : Int) {M : xM} (h2 : 1 ≤ M w 2 ∧ M w 2 ≤ 3) (h3 : 1 ≤ M w 3 ∧ M w 3 ≤ 4) (h : Q (some (0, M w 3 + M w 2)) M) : x_Ev l E (1, 0, 0) m_X1_pairs 0 [(11, w)] [] M Q := by
  refine u_X1_pairs_0 w ?_
  rw [x_w_id (by omega) (by omega)]
  exact h
theorem c_cellOf (w i g : Int) {M : xM} (hi : 0 ≤ i) (hi2 : i < 8) (hg : 0 ≤ g) (hg2 : g < 3) (h3 : 1 ≤ M w 3 ∧ M w 3 ≤ 4) (h : Q (some (1, p_ce (x_F M w) i g)) M) : x_Ev l E (1, 0, 0) m_X8_cellOf 0 [(11, w), (0, i), (0, g)] [] M Q := by
  unfold p_ce at h
  rw [x_F0, x_F2] at h
  refine u_X8_cellOf_0 w i g ⟨fun c => ?_, fun c => ?_⟩
  · rw [if_pos c] at h
    rw [x_w_id (by omega) (by omega)]
    refine ⟨fun d => ?_, fun d => ?_⟩
    · rw [if_neg d] at h; exact h
    · rw [if_pos d] at h; exact h
  · rw [if_neg c] at h
    rw [x_ix hi (by omega) hg (by omega)]
    exact ⟨by omega, h⟩
end SQ
