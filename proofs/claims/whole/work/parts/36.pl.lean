/-! Contracts of the plans' table -/
theorem x_who (f : Int) : 9 + 4 * ((49 + 9 * f - 49) / 9) = 9 + 4 * f := by omega
section PL
variable {l : Launch} {E : xE} {Q : Option xV → xM → Prop}
theorem c_tp_121 {f : Int} {M : xM} {R G : Nat} (hR : M (9 + 4 * f) 3 = R) (hG : M (9 + 4 * f) 2 = G) (hR4 : 1 ≤ R ∧ R ≤ 4) (hG3 : 1 ≤ G ∧ G ≤ 3)
    (hr : ∀ r, 0 ≤ r → r < (R : Int) → p_sum (x_F M (9 + 4 * f)) (M 39) r ≤ x_F M (9 + 4 * f) 3 r * M 36 3)
    (h1 : p_may (x_F M (9 + 4 * f)) (M 39) (M 36 3) → Q (some (0, (p_tS (x_F M (9 + 4 * f)) (M 39) (M 36 3) : Int))) M) (h0 : ¬ p_may (x_F M (9 + 4 * f)) (M 39) (M 36 3) → Q (some (0, -1)) M) :
    ∀ (n j : Nat), G - j ≤ n → j ≤ G → (∀ g, 0 ≤ g → g < (j : Int) → 0 ≤ M 39 g) → x_Ev l E (1, 0, 0) m_X4_tightPairs 121 [(14, 49 + 9 * f), (0, (x_set (p_tgt (x_F M (9 + 4 * f)) (M 39) (M 36 3)) (R + j) : Int)), (0, (j : Int)), (5, 0), (5, 0), (5, 0), (5, 0)] [] M Q := by
  intro n
  induction n with
  | zero =>
    intro j hn hj hx
    have ej : j = G := by omega
    subst ej
    refine u_X4_tightPairs_121 (49 + 9 * f) _ _ ?_
    rw [x_who]
    refine ⟨fun c => ?_, fun c => absurd (by omega) c⟩
    have hp : p_may (x_F M (9 + 4 * f)) (M 39) (M 36 3) := by
      refine ⟨fun g g1 g2 => hx g g1 ?_, fun r r1 r2 => hr r r1 ?_⟩
      · rw [x_F0] at g2; omega
      · rw [x_F0] at r2; omega
    have hq := h1 hp
    unfold p_tS p_pr at hq
    rw [x_F0, x_F0, hR, hG, show ((R : Int) + (j : Int)).toNat = R + j by omega] at hq
    exact hq
  | succ n ih =>
    intro j hn hj hx
    by_cases hj2 : j = G
    · exact ih j (by omega) hj hx
    refine u_X4_tightPairs_121 (49 + 9 * f) _ _ ?_
    rw [x_who]
    refine ⟨fun c => by omega, fun c => ⟨by omega, fun d => ⟨by omega, fun e => ?_, fun e => ?_⟩, fun d => ?_⟩⟩
    · intro v hv v2 hv2
      have e1 : p_tgt (x_F M (9 + 4 * f)) (M 39) (M 36 3) (R + j) = false := by
        unfold p_tgt
        rw [x_F0, hR, if_neg (by omega), show ((R + j : Nat) : Int) - R = j by omega]
        exact decide_eq_false e
      have lt := x_set_lt (p_tgt (x_F M (9 + 4 * f)) (M 39) (M 36 3)) (R + j)
      have lt2 : 2 ^ (R + j) ≤ 2 ^ 7 := Nat.pow_le_pow_right (by omega) (by omega)
      rw [x_or0 (by omega)] at hv
      rw [x_w_id (by omega) (by omega)] at hv2
      subst hv hv2
      have := ih (j + 1) (by omega) (by omega) (fun g g1 g2 => by
        by_cases eg : g = j
        · rw [eg]; exact d
        · exact hx g g1 (by omega))
      rw [show R + (j + 1) = R + j + 1 by omega] at this
      unfold x_set at this
      rw [e1] at this
      exact this
    · intro v hv v2 hv2
      have e1 : p_tgt (x_F M (9 + 4 * f)) (M 39) (M 36 3) (R + j) = true := by
        unfold p_tgt
        rw [x_F0, hR, if_neg (by omega), show ((R + j : Nat) : Int) - R = j by omega]
        exact decide_eq_true e
      have lt := x_set_lt (p_tgt (x_F M (9 + 4 * f)) (M 39) (M 36 3)) (R + j)
      rw [hR, x_w_id (by omega) (by omega), show (R : Int) + (j : Int) = ((R + j : Nat) : Int) by omega, x_or (by omega) lt] at hv
      rw [x_w_id (by omega) (by omega)] at hv2
      subst hv hv2
      have := ih (j + 1) (by omega) (by omega) (fun g g1 g2 => by
        by_cases eg : g = j
        · rw [eg]; exact d
        · exact hx g g1 (by omega))
      rw [show R + (j + 1) = R + j + 1 by omega] at this
      unfold x_set at this
      rw [e1] at this
      exact this
    · refine h0 (fun q => ?_)
      exact d (q.1 j (by omega) (by rw [x_F0]; omega))
theorem c_tp_20 {f : Int} {M : xM} {G : Nat} (hF : p_wf (x_F M (9 + 4 * f))) (hG : M (9 + 4 * f) 2 = G) (hX : ∀ c, 0 ≤ c → c < 3 → -1080 ≤ M 39 c ∧ M 39 c ≤ 1080) (hb : 0 < M 36 3 ∧ M 36 3 ≤ 162) {i : Nat} (hi : i < 4) {t : Int}
    (h1 : p_sum (x_F M (9 + 4 * f)) (M 39) i < x_F M (9 + 4 * f) 3 i * M 36 3 → x_Ev l E (1, 0, 0) m_X4_tightPairs 4 [(14, 49 + 9 * f), (0, x_ior t 0), (0, (i : Int) + 1), (5, 0), (5, 0), (5, 0), (5, 0)] [] M Q)
    (h2 : p_sum (x_F M (9 + 4 * f)) (M 39) i = x_F M (9 + 4 * f) 3 i * M 36 3 → x_Ev l E (1, 0, 0) m_X4_tightPairs 4 [(14, 49 + 9 * f), (0, x_ior t (x_ishl 1 i)), (0, (i : Int) + 1), (5, 0), (5, 0), (5, 0), (5, 0)] [] M Q)
    (h0 : x_F M (9 + 4 * f) 3 i * M 36 3 < p_sum (x_F M (9 + 4 * f)) (M 39) i → Q (some (0, -1)) M) :
    ∀ (n j : Nat), G - j ≤ n → j ≤ G → x_Ev l E (1, 0, 0) m_X4_tightPairs 20 [(14, 49 + 9 * f), (0, t), (0, (i : Int)), (1, x_sm (fun g => x_F M (9 + 4 * f) 2 (3 * (i : Int) + g) * M 39 g) j), (5, 0), (0, (j : Int)), (5, 0)] [] M Q := by
  have hF' := hF
  obtain ⟨-, -, hg, hr4, -, hnb, -, hbd⟩ := hF'
  rw [x_F0] at hg hr4
  have hB : ∀ j : Nat, j ≤ G → -(j * 3240 : Int) ≤ x_sm (fun g => x_F M (9 + 4 * f) 2 (3 * (i : Int) + g) * M 39 g) j ∧ x_sm (fun g => x_F M (9 + 4 * f) 2 (3 * (i : Int) + g) * M 39 g) j ≤ j * 3240 := by
    intro j hj
    refine x_sm_bd j (fun g g1 g2 => ?_)
    exact x_mb (A := 3) (B := 1080) (hnb _ (by omega) (by omega)) (hX g g1 (by omega))
  intro n
  induction n with
  | zero =>
    intro j hn hj
    have ej : j = G := by omega
    have eS : p_sum (x_F M (9 + 4 * f)) (M 39) i = x_sm (fun g => x_F M (9 + 4 * f) 2 (3 * (i : Int) + g) * M 39 g) j := by
      unfold p_sum
      rw [x_F0, hG, ej]
      rfl
    rw [← eS]
    refine u_X4_tightPairs_20 (49 + 9 * f) _ _ _ _ ?_
    rw [x_who]
    have eb := hbd i (by omega) (by omega)
    have em := x_mb (A := 20) (B := 162) (a := x_F M (9 + 4 * f) 3 i) (b := M 36 3) (by omega) (by omega)
    refine ⟨fun c => ⟨by omega, ?_⟩, fun c => absurd (by omega) c⟩
    intro v hv
    have ev : v = x_F M (9 + 4 * f) 3 i * M 36 3 := by rw [hv, ← x_F3 M (9 + 4 * f)]; exact x_W_id (by omega) (by omega)
    refine ⟨fun d => ⟨fun e => ?_, fun e => ?_⟩, fun d => h0 (by omega)⟩
    · intro v2 hv2 v3 hv3
      rw [x_w_id (by omega) (by omega)] at hv3
      subst hv2 hv3
      exact h1 (by omega)
    · intro v2 hv2 v3 hv3
      rw [x_w_id (by omega) (by omega)] at hv3
      subst hv2 hv3
      exact h2 (by omega)
  | succ n ih =>
    intro j hn hj
    by_cases hj2 : j = G
    · exact ih j (by omega) hj
    refine u_X4_tightPairs_20 (49 + 9 * f) _ _ _ _ ?_
    rw [x_who, x_ix (by omega) (by omega) (by omega) (by omega)]
    refine ⟨fun c => by omega, fun c => ⟨by omega, by omega, ?_⟩⟩
    intro v hv v2 hv2
    rw [x_w_id (by omega) (by omega)] at hv2
    have b1 := hB (j + 1) (by omega)
    rw [x_W_a2, ← x_F2 M (9 + 4 * f)] at hv
    have ev : v = x_sm (fun g => x_F M (9 + 4 * f) 2 (3 * (i : Int) + g) * M 39 g) (j + 1) := by
      rw [hv]
      exact x_W_id (x := x_sm (fun g => x_F M (9 + 4 * f) 2 (3 * (i : Int) + g) * M 39 g) (j + 1)) (by omega) (by omega)
    subst ev hv2
    exact ih (j + 1) (by omega) (by omega)
theorem c_tightPairs {f : Int} {M : xM} (hF : p_wf (x_F M (9 + 4 * f))) (hX : ∀ c, 0 ≤ c → c < 3 → -1080 ≤ M 39 c ∧ M 39 c ≤ 1080) (hb : 0 < M 36 3 ∧ M 36 3 ≤ 162)
    (h1 : p_may (x_F M (9 + 4 * f)) (M 39) (M 36 3) → Q (some (0, (p_tS (x_F M (9 + 4 * f)) (M 39) (M 36 3) : Int))) M) (h0 : ¬ p_may (x_F M (9 + 4 * f)) (M 39) (M 36 3) → Q (some (0, -1)) M) :
    x_Ev l E (1, 0, 0) m_X4_tightPairs 0 [(14, 49 + 9 * f), (5, 0), (5, 0), (5, 0), (5, 0), (5, 0), (5, 0)] [] M Q := by
  have hF' := hF
  obtain ⟨-, -, hg, hr4, -, hnb, -, hbd⟩ := hF'
  rw [x_F0] at hg hr4
  obtain ⟨R, hR⟩ : ∃ R : Nat, M (9 + 4 * f) 3 = R := ⟨(M (9 + 4 * f) 3).toNat, by omega⟩
  obtain ⟨G, hG⟩ : ∃ G : Nat, M (9 + 4 * f) 2 = G := ⟨(M (9 + 4 * f) 2).toNat, by omega⟩
  have main : ∀ (n i : Nat), R - i ≤ n → i ≤ R → (∀ r, 0 ≤ r → r < (i : Int) → p_sum (x_F M (9 + 4 * f)) (M 39) r ≤ x_F M (9 + 4 * f) 3 r * M 36 3) → x_Ev l E (1, 0, 0) m_X4_tightPairs 4 [(14, 49 + 9 * f), (0, (x_set (p_tgt (x_F M (9 + 4 * f)) (M 39) (M 36 3)) i : Int)), (0, (i : Int)), (5, 0), (5, 0), (5, 0), (5, 0)] [] M Q := by
    intro n
    induction n with
    | zero =>
      intro i hn hi hx
      have ei : i = R := by omega
      subst ei
      refine u_X4_tightPairs_4 (49 + 9 * f) _ _ ?_
      rw [x_who]
      exact ⟨fun c => c_tp_121 hR hG (by omega) (by omega) hx h1 h0 3 0 (by omega) (by omega) (fun g g1 g2 => by omega), fun c => absurd (by omega) c⟩
    | succ n ih =>
      intro i hn hi hx
      by_cases hi2 : i = R
      · exact ih i (by omega) hi hx
      have lt := x_set_lt (p_tgt (x_F M (9 + 4 * f)) (M 39) (M 36 3)) i
      have lt2 : 2 ^ i ≤ 2 ^ 7 := Nat.pow_le_pow_right (by omega) (by omega)
      refine u_X4_tightPairs_4 (49 + 9 * f) _ _ ?_
      rw [x_who]
      refine ⟨fun c => by omega, fun c => c_tp_20 hF hG hX hb (by omega) (fun q => ?_) (fun q => ?_) (fun q => h0 (fun q2 => ?_)) 3 0 (by omega) (by omega)⟩
      · have e1 : p_tgt (x_F M (9 + 4 * f)) (M 39) (M 36 3) i = false := by
          unfold p_tgt
          rw [x_F0, hR, if_pos (by omega)]
          exact decide_eq_false (by omega)
        have := ih (i + 1) (by omega) (by omega) (fun r r1 r2 => by
          by_cases er : r = i
          · rw [er]; omega
          · exact hx r r1 (by omega))
        unfold x_set at this
        rw [e1] at this
        rw [x_or0 (by omega)]
        exact this
      · have e1 : p_tgt (x_F M (9 + 4 * f)) (M 39) (M 36 3) i = true := by
          unfold p_tgt
          rw [x_F0, hR, if_pos (by omega)]
          exact decide_eq_true (by omega)
        have := ih (i + 1) (by omega) (by omega) (fun r r1 r2 => by
          by_cases er : r = i
          · rw [er]; omega
          · exact hx r r1 (by omega))
        unfold x_set at this
        rw [e1] at this
        rw [x_or (by omega) lt]
        exact this
      · have := q2.2 i (by omega) (by rw [x_F0]; omega)
        omega
  exact u_X4_tightPairs_0 (49 + 9 * f) (main R 0 (by omega) (by omega) (fun r r1 r2 => by omega))
theorem c_isOneOf {a n v : Int} {M : xM} (hn : n ≤ 10) (h1 : (∃ k, 0 ≤ k ∧ k < n ∧ M a k = v) → Q (some (0, 1)) M) (h0 : (∀ k, 0 ≤ k → k < n → M a k ≠ v) → Q (some (0, 0)) M) : x_Ev l E (1, 0, 0) m_X10_isOneOf 0 [(110, a), (0, n), (0, v), (5, 0)] [] M Q := by
  have main : ∀ (m : Nat) (k : Int), n - k ≤ m → 0 ≤ k → (∀ j, 0 ≤ j → j < k → M a j ≠ v) → x_Ev l E (1, 0, 0) m_X10_isOneOf 2 [(110, a), (0, n), (0, v), (0, k)] [] M Q := by
    intro m
    induction m with
    | zero =>
      intro k hm hk hx
      exact u_X10_isOneOf_2 a n v k ⟨fun c => h0 (fun j j1 j2 => hx j j1 (by omega)), fun c => by omega⟩
    | succ m ih =>
      intro k hm hk hx
      refine u_X10_isOneOf_2 a n v k ⟨fun c => h0 (fun j j1 j2 => hx j j1 (by omega)), fun c => ⟨fun d => by omega, fun d => ⟨by omega, fun e => ?_, fun e => h1 ⟨k, hk, by omega, e⟩⟩⟩⟩
      intro z hz
      rw [x_w_id (by omega) (by omega)] at hz
      subst hz
      refine ih (k + 1) (by omega) (by omega) (fun j j1 j2 => ?_)
      by_cases ej : j = k
      · rw [ej]; exact e
      · exact hx j j1 (by omega)
  exact u_X10_isOneOf_0 a n v (main n.toNat 0 (by omega) (by omega) (fun j j1 j2 => by omega))
theorem c_isBehind {f k : Int} {M : xM} {e e' : Int → Int} (hG : 1 ≤ M (9 + 4 * f) 2 ∧ M (9 + 4 * f) 2 ≤ 3) (hk : 0 ≤ k) (hk2 : k < 10) (he : p_eb e) (he' : p_eb e') (hz : ∀ c, M (9 + 4 * f) 2 ≤ c → c < 3 → e c = 0 ∧ e' c = 0) (h39 : ∀ c, 0 ≤ c → c < 3 → M 39 c = e c) (h36 : M 36 3 = e 3) (ha : ∀ c, 0 ≤ c → c < 3 → M (49 + 9 * f + 1) (3 * k + c) = e' c) (hb : M (49 + 9 * f + 2) k = e' 3)
    (h1 : p_lt e e' → Q (some (0, 1)) M) (h0 : ¬ p_lt e e' → Q (some (0, 0)) M) : x_Ev l E (1, 0, 0) m_X4_isBehind 0 [(14, 49 + 9 * f), (0, k), (5, 0), (5, 0), (5, 0), (5, 0), (5, 0)] [] M Q := by
  obtain ⟨x1, x2⟩ := p_lex he he'
  have main : ∀ (m : Nat) (j : Int), M (9 + 4 * f) 2 - j ≤ m → 0 ≤ j → j ≤ M (9 + 4 * f) 2 → (∀ c, 0 ≤ c → c < j → e c * e' 3 - e' c * e 3 = 0) → x_Ev l E (1, 0, 0) m_X4_isBehind 2 [(14, 49 + 9 * f), (0, k), (0, j), (5, 0), (5, 0), (5, 0), (5, 0)] [] M Q := by
    intro m
    induction m with
    | zero =>
      intro j hm hj hj2 hx
      refine u_X4_isBehind_2 (49 + 9 * f) k j ?_
      rw [x_who]
      refine ⟨fun c => h0 ?_, fun c => by omega⟩
      have t : ∀ c, 0 ≤ c → c < 3 → e c * e' 3 - e' c * e 3 = 0 := by
        intro c c1 c2
        by_cases q : c < j
        · exact hx c c1 q
        · have := hz c (by omega) c2
          rw [this.1, this.2]; omega
      have t0 := t 0 (by omega) (by omega)
      have t1 := t 1 (by omega) (by omega)
      have t2 := t 2 (by omega) (by omega)
      unfold p_lt
      omega
    | succ m ih =>
      intro j hm hj hj2 hx
      by_cases hjg : j = M (9 + 4 * f) 2
      · exact ih j (by omega) hj hj2 hx
      refine u_X4_isBehind_2 (49 + 9 * f) k j ?_
      rw [x_who, x_ix hk (by omega) hj (by omega), ha j hj (by omega), h36, h39 j hj (by omega), hb]
      have b1 := x_mb (A := 1080) (B := 162) (he.1 j hj (by omega)) (b := e' 3) ⟨by have := he'.2.1; omega, he'.2.2⟩
      have b2 := x_mb (A := 1080) (B := 162) (he'.1 j hj (by omega)) (b := e 3) ⟨by have := he.2.1; omega, he.2.2⟩
      refine ⟨fun c => by omega, fun c => ⟨by omega, ?_⟩⟩
      intro v hv
      refine ⟨by omega, by omega, ?_⟩
      intro v2 hv2
      rw [x_W_id (by omega) (by omega)] at hv hv2
      subst hv hv2
      refine ⟨fun d => ?_, fun d => ⟨fun d2 => h0 ?_, fun d2 => h1 ?_⟩⟩
      · intro v3 hv3
        rw [x_w_id (by omega) (by omega)] at hv3
        subst hv3
        refine ih (j + 1) (by omega) (by omega) (by omega) (fun c c1 c2 => ?_)
        by_cases q : c = j
        · rw [q]; omega
        · exact hx c c1 (by omega)
      · unfold p_lt
        have t0 := x2 0 (by omega) (by omega)
        have t1 := x2 1 (by omega) (by omega)
        have t2 := x2 2 (by omega) (by omega)
        have : j = 0 ∨ j = 1 ∨ j = 2 := by omega
        rcases this with q | q | q
        · subst q; omega
        · subst q
          have := hx 0 (by omega) (by omega)
          omega
        · subst q
          have := hx 0 (by omega) (by omega)
          have := hx 1 (by omega) (by omega)
          omega
      · unfold p_lt
        have t0 := x2 0 (by omega) (by omega)
        have t1 := x2 1 (by omega) (by omega)
        have t2 := x2 2 (by omega) (by omega)
        have : j = 0 ∨ j = 1 ∨ j = 2 := by omega
        rcases this with q | q | q
        · subst q; omega
        · subst q
          have := hx 0 (by omega) (by omega)
          omega
        · subst q
          have := hx 0 (by omega) (by omega)
          have := hx 1 (by omega) (by omega)
          omega
  exact u_X4_isBehind_0 (49 + 9 * f) k (main 3 0 (by omega) (by omega) (by omega) (fun c c1 c2 => by omega))
end PL
