/-! The class's prices -/
theorem x_or2 {v i : Nat} (hv : v < 128) (hi : i < 7) (hb : v / 2 ^ i % 2 = 0) : x_ior v (x_ishl 1 i) = ((v + 2 ^ i : Nat) : Int) := by
  have h := x_all2 (P := fun v i => !(decide (v / 2 ^ i % 2 = 0)) || decide (x_ior (v : Int) (x_ishl 1 (i : Int)) = ((v + 2 ^ i : Nat) : Int))) 128 7 (by decide +kernel) v hv i hi
  simp only [hb, decide_true, Bool.not_true, Bool.false_or, decide_eq_true_eq] at h
  exact h
theorem x_set_upd {P P' : Nat → Bool} {i : Nat} : ∀ n : Nat, i < n → P i = false → P' i = true → (∀ j, j ≠ i → P j = P' j) → x_set P' n = x_set P n + 2 ^ i := by
  intro n
  induction n with
  | zero => intro h; omega
  | succ n ih =>
    intro hi h0 h1 hj
    by_cases e : i = n
    · subst e
      rw [x_set_t h1, x_set_f h0, x_set_cg i (fun j hj' => hj j (by omega))]
    · have := ih (by omega) h0 h1 hj
      cases c : P n
      · rw [x_set_f c, x_set_f (by rw [← hj n (by omega)]; exact c)]; exact this
      · rw [x_set_t c, x_set_t (by rw [← hj n (by omega)]; exact c)]; omega
theorem x_cmpl {s d : Nat} (hd : d < 8) (hs : s < 2 ^ d) : 2 ^ d - 1 - s = x_set (fun j => decide (¬ s / 2 ^ j % 2 = 1)) d := by
  have h2 : (2 : Nat) ^ d ≤ 2 ^ 7 := Nat.pow_le_pow_right (by omega) (by omega)
  have h := x_all2 (P := fun d s => !(decide (s < 2 ^ d)) || decide (2 ^ d - 1 - s = x_set (fun j => decide (¬ s / 2 ^ j % 2 = 1)) d)) 8 128 (by decide +kernel) d hd s (by omega)
  simp only [hs, decide_true, Bool.not_true, Bool.false_or, decide_eq_true_eq] at h
  exact h
/-- the table of prices: from which sets -/
def p_prow (M : xM) (k : Int) (F : xM) (Y : Int → Int) (b : Int) (t : Nat) : Prop := (∀ r, 0 ≤ r → r < 4 → M 77 (4 * k + r) = if r < F 0 3 then Y r else 0) ∧ M 78 k = b ∧ M 79 k = t ∧ M 80 k = p_co F Y
def p_ptab (M : xM) (F : xM) (p q : Int) (n : Nat) (S : Nat → Nat) : Prop := M 76 1 = n ∧ ∀ k : Nat, k < n → p_prow M k F (p_Y F p q (S k)) (p_b (p_C F (S k))) (p_tau F p q (S k))
/-- the sets' corners, each once -/
def p_pset (F : xM) (p q : Int) (N n : Nat) (S : Nat → Nat) : Prop := (∀ k, k < n → S k < N ∧ p_dok F p q (S k)) ∧ (∀ i j, i < n → j < n → p_tau F p q (S i) = p_tau F p q (S j) → i = j) ∧ ∀ s, s < N → p_dok F p q s → ∃ k, k < n ∧ p_tau F p q (S k) = p_tau F p q s
theorem p_co_bd {F : xM} (hF : p_wf F) {Y : Int → Int} {n : Nat} (hn : n ≤ 4) (hY : ∀ r, 0 ≤ r → r < 7 → -61992000000 ≤ Y r ∧ Y r ≤ 61992000000) : -4959360000000 ≤ x_sm (fun r => Y r * F 3 r) n ∧ x_sm (fun r => Y r * F 3 r) n ≤ 4959360000000 := by
  have := x_sm_bd (h := fun r => Y r * F 3 r) (B := 1239840000000) n (fun r r1 r2 => by
    have := hF.2.2.2.2.2.2.2 r r1 (by omega)
    exact x_mb (A := 61992000000) (B := 20) (hY r r1 (by omega)) (by omega))
  have h4 : (n : Int) * 1239840000000 ≤ 4959360000000 := by omega
  omega
section CP
variable {l : Launch} {E : xE} {Q : Option xV → xM → Prop}
theorem c_isOneOf2 {a n v : Int} {M : xM} (hn : n ≤ 35) (h1 : (∃ k, 0 ≤ k ∧ k < n ∧ M a k = v) → Q (some (0, 1)) M) (h0 : (∀ k, 0 ≤ k → k < n → M a k ≠ v) → Q (some (0, 0)) M) : x_Ev l E (1, 0, 0) m_X10_isOneOf 0 [(113, a), (0, n), (0, v), (5, 0)] [] M Q := by
  have main : ∀ (m : Nat) (k : Int), n - k ≤ m → 0 ≤ k → (∀ j, 0 ≤ j → j < k → M a j ≠ v) → x_Ev l E (1, 0, 0) m_X10_isOneOf 2 [(113, a), (0, n), (0, v), (0, k)] [] M Q := by
    intro m
    induction m with
    | zero =>
      intro k hm hk hx
      exact u_X10_isOneOf_2_v2 a n v k ⟨fun c => h0 (fun j j1 j2 => hx j j1 (by omega)), fun c => by omega⟩
    | succ m ih =>
      intro k hm hk hx
      refine u_X10_isOneOf_2_v2 a n v k ⟨fun c => h0 (fun j j1 j2 => hx j j1 (by omega)), fun c => ⟨fun d => by omega, fun d => ⟨by omega, fun e => ?_, fun e => h1 ⟨k, hk, by omega, e⟩⟩⟩⟩
      intro z hz
      rw [x_w_id (by omega) (by omega)] at hz
      subst hz
      refine ih (k + 1) (by omega) (by omega) (fun j j1 j2 => ?_)
      by_cases ej : j = k
      · rw [ej]; exact e
      · exact hx j j1 (by omega)
  exact u_X10_isOneOf_0_v2 a n v (main n.toNat 0 (by omega) (by omega) (fun j j1 j2 => by omega))
theorem c_ptight {w p q : Int} {M : xM} (hF : p_wf (x_F M w)) {s : Nat} (hs : s < 2 ^ p_pr (x_F M w)) (hp : (x_cn s 7 : Int) = x_F M w 0 2) (hW : ∀ i, 0 ≤ i → i < 3 → M 39 i = p_W (x_F M w) p q s i)
    (h1 : p_arep (x_F M w) p q (p_Y (x_F M w) p q s) (p_b (p_C (x_F M w) s)) → Q (some (0, (p_tau (x_F M w) p q s : Int))) M) (h0 : ¬ p_arep (x_F M w) p q (p_Y (x_F M w) p q s) (p_b (p_C (x_F M w) s)) → Q (some (0, -1)) M) : x_Ev l E (2, 0, 0) m_X5_tightPairs 0 [(15, 76), (11, w), (0, (s : Int)), (5, 0), (5, 0), (5, 0), (5, 0), (5, 0)] [] M Q := by
  have hgd := hF.2.2.1
  have hr := hF.2.2.2.1
  have h7 := p_pr_le hF
  have hg' : 1 ≤ M w 2 ∧ M w 2 ≤ 3 := by rw [← x_F0 M w]; exact hgd
  have hr' : 1 ≤ M w 3 ∧ M w 3 ≤ 4 := by rw [← x_F0 M w]; exact hr
  have epr : M w 3 + M w 2 = ((p_pr (x_F M w) : Nat) : Int) := by rw [← x_F0 M w 2, ← x_F0 M w 3]; unfold p_pr; omega
  rw [p_fea hF hs hp] at h1 h0
  generalize hFF : x_F M w = F at *
  have hrow : M w 3 = F 0 3 := by rw [← hFF, x_F0]
  have main : ∀ (n i : Nat), p_pr F - i ≤ n → i ≤ p_pr F → (∀ j : Nat, j < i → s / 2 ^ j % 2 = 1 → ((j : Int) < F 0 3 → 0 ≤ p_W F p q s (x_cn s j)) ∧ (F 0 3 ≤ (j : Int) → p_W F p q s (x_cn s j) ≤ 0)) → x_Ev l E (2, 0, 0) m_X5_tightPairs 19 [(15, 76), (11, w), (0, (s : Int)), (0, (x_set (fun j => decide (s / 2 ^ j % 2 = 1 → (j < i ∧ p_W F p q s (x_cn s j) = 0))) (p_pr F) : Int)), (0, (x_cn s i : Int)), (0, (i : Int)), (5, 0), (5, 0)] [] M Q := by
    have fin : ∀ (i : Nat), i ≤ p_pr F → (∀ j : Nat, i ≤ j → j < p_pr F → ¬ s / 2 ^ j % 2 = 1) → (∀ j : Nat, j < i → s / 2 ^ j % 2 = 1 → ((j : Int) < F 0 3 → 0 ≤ p_W F p q s (x_cn s j)) ∧ (F 0 3 ≤ (j : Int) → p_W F p q s (x_cn s j) ≤ 0)) → Q (some (0, (x_set (fun j => decide (s / 2 ^ j % 2 = 1 → (j < i ∧ p_W F p q s (x_cn s j) = 0))) (p_pr F) : Int))) M := by
      intro i hi hno hok
      have hq := h1 (fun j hj hb => by
        by_cases c : j < i
        · exact hok j c hb
        · exact absurd hb (hno j (by omega) hj))
      have e : p_tau F p q s = x_set (fun j => decide (s / 2 ^ j % 2 = 1 → (j < i ∧ p_W F p q s (x_cn s j) = 0))) (p_pr F) := by
        unfold p_tau p_dtS
        refine x_set_cg _ (fun j hj => ?_)
        rw [p_dtg_eq hF hs hp hj]
        refine decide_eq_decide.mpr ⟨fun w b => ⟨?_, w b⟩, fun w b => (w b).2⟩
        apply Classical.byContradiction
        intro c
        exact hno j (by omega) hj b
      rw [e] at hq
      exact hq
    intro n
    induction n with
    | zero =>
      intro i hn hi hok
      have ei : i = p_pr F := by omega
      refine u_X5_tightPairs_19 w s _ _ i (c_pairs w hg' hr' ⟨_, rfl, fun c => fin i hi (fun j a b => by omega) hok, fun c => by omega⟩)
    | succ n ih =>
      intro i hn hi hok
      by_cases hip : i = p_pr F
      · exact ih i (by omega) hi hok
      have hc7 := x_cn_le s (i := i) (j := 7) (by omega)
      refine u_X5_tightPairs_19 w s _ _ i (c_pairs w hg' hr' ⟨_, rfl, fun c => by omega, fun c => ⟨fun c3 => fin i hi (fun j a b hb => ?_) hok, fun c3 => ?_⟩⟩)
      · have h3 : x_cn s (j + 1) = x_cn s j + s / 2 ^ j % 2 := rfl
        have h4 := x_cn_le s (i := j + 1) (j := 7) (by omega)
        have h5 := x_cn_le s (i := i) (j := j) a
        omega
      · rw [x_bit (by omega) (by omega), hrow]
        have lt := x_set_lt (fun j => decide (s / 2 ^ j % 2 = 1 → (j < i ∧ p_W F p q s (x_cn s j) = 0))) (p_pr F)
        refine ⟨fun hb => ?_, fun hb => ⟨by omega, ?_⟩⟩
        · have b0 : ¬ s / 2 ^ i % 2 = 1 := by omega
          intro v hv
          rw [x_w_id (by omega) (by omega)] at hv
          subst hv
          have e4 : x_cn s (i + 1) = x_cn s i := by
            show x_cn s i + s / 2 ^ i % 2 = x_cn s i
            omega
          have nx := ih (i + 1) (by omega) (by omega) (fun j hj hb' => by
            by_cases e : j = i
            · rw [e] at hb'; exact absurd hb' b0
            · exact hok j (by omega) hb')
          have es : x_set (fun j => decide (s / 2 ^ j % 2 = 1 → (j < i + 1 ∧ p_W F p q s (x_cn s j) = 0))) (p_pr F) = x_set (fun j => decide (s / 2 ^ j % 2 = 1 → (j < i ∧ p_W F p q s (x_cn s j) = 0))) (p_pr F) := by
            refine x_set_cg _ (fun j hj => decide_eq_decide.mpr ⟨fun w b => ⟨?_, (w b).2⟩, fun w b => ⟨by have := (w b).1; omega, (w b).2⟩⟩)
            by_cases e : j = i
            · rw [e] at b; exact absurd b b0
            · have := (w b).1; omega
          rw [e4, es] at nx
          exact nx
        · have b1 : s / 2 ^ i % 2 = 1 := by omega
          have e4 : x_cn s (i + 1) = x_cn s i + 1 := by
            show x_cn s i + s / 2 ^ i % 2 = x_cn s i + 1
            omega
          have bit0 : x_set (fun j => decide (s / 2 ^ j % 2 = 1 → (j < i ∧ p_W F p q s (x_cn s j) = 0))) (p_pr F) / 2 ^ i % 2 = 0 := by
            rw [x_set_bit _ _ _ (by omega), if_neg (by
              intro w
              have := (of_decide_eq_true w b1).1
              omega)]
          intro v4 hv4
          rw [hW _ (by omega) (by omega)] at hv4
          subst hv4
          -- the two ways on
          have skip : ((i : Int) < F 0 3 → 0 ≤ p_W F p q s (x_cn s i)) → (F 0 3 ≤ (i : Int) → p_W F p q s (x_cn s i) ≤ 0) → ¬ p_W F p q s (x_cn s i) = 0 → ∀ zv5 : Int, zv5 = (x_ior (x_set (fun j => decide (s / 2 ^ j % 2 = 1 → (j < i ∧ p_W F p q s (x_cn s j) = 0))) (p_pr F) : Int) 0) → ∀ zv6 : Int, zv6 = x_w ((x_cn s i : Int) + 1) → ∀ zv7 : Int, zv7 = x_w ((i : Int) + 1) → x_Ev l E (2, 0, 0) m_X5_tightPairs 19 [(15, 76), (11, w), (0, (s : Int)), (0, zv5), (0, zv6), (0, zv7), (5, 0), (5, 0)] [] M Q := by
            intro k1 k2 k3 v5 hv5 v6 hv6 v7 hv7
            rw [x_or0 (by omega)] at hv5
            rw [x_w_id (by omega) (by omega)] at hv6 hv7
            subst hv5 hv6 hv7
            have nx := ih (i + 1) (by omega) (by omega) (fun j hj hb' => by
              by_cases e : j = i
              · rw [e]; exact ⟨k1, k2⟩
              · exact hok j (by omega) hb')
            have es : x_set (fun j => decide (s / 2 ^ j % 2 = 1 → (j < i + 1 ∧ p_W F p q s (x_cn s j) = 0))) (p_pr F) = x_set (fun j => decide (s / 2 ^ j % 2 = 1 → (j < i ∧ p_W F p q s (x_cn s j) = 0))) (p_pr F) := by
              refine x_set_cg _ (fun j hj => decide_eq_decide.mpr ⟨fun w b => ⟨?_, (w b).2⟩, fun w b => ⟨by have := (w b).1; omega, (w b).2⟩⟩)
              by_cases e : j = i
              · rw [e] at w b; exact absurd (w b).2 k3
              · have := (w b).1; omega
            rw [e4, es] at nx
            exact nx
          have add : p_W F p q s (x_cn s i) = 0 → ∀ zv5 : Int, zv5 = (x_ior (x_set (fun j => decide (s / 2 ^ j % 2 = 1 → (j < i ∧ p_W F p q s (x_cn s j) = 0))) (p_pr F) : Int) (x_ishl 1 i)) → ∀ zv6 : Int, zv6 = x_w ((x_cn s i : Int) + 1) → ∀ zv7 : Int, zv7 = x_w ((i : Int) + 1) → x_Ev l E (2, 0, 0) m_X5_tightPairs 19 [(15, 76), (11, w), (0, (s : Int)), (0, zv5), (0, zv6), (0, zv7), (5, 0), (5, 0)] [] M Q := by
            intro k3 v5 hv5 v6 hv6 v7 hv7
            rw [x_or2 (by omega) (by omega) bit0] at hv5
            rw [x_w_id (by omega) (by omega)] at hv6 hv7
            subst hv5 hv6 hv7
            have nx := ih (i + 1) (by omega) (by omega) (fun j hj hb' => by
              by_cases e : j = i
              · rw [e, k3]; exact ⟨fun _ => Int.le_refl _, fun _ => Int.le_refl _⟩
              · exact hok j (by omega) hb')
            have es : x_set (fun j => decide (s / 2 ^ j % 2 = 1 → (j < i + 1 ∧ p_W F p q s (x_cn s j) = 0))) (p_pr F) = x_set (fun j => decide (s / 2 ^ j % 2 = 1 → (j < i ∧ p_W F p q s (x_cn s j) = 0))) (p_pr F) + 2 ^ i := by
              refine x_set_upd (i := i) _ (by omega) (decide_eq_false (fun w => ?_)) (decide_eq_true (fun _ => ⟨by omega, k3⟩)) (fun j hj => decide_eq_decide.mpr ⟨fun w b => ⟨by have := (w b).1; omega, (w b).2⟩, fun w b => ⟨by have := (w b).1; omega, (w b).2⟩⟩)
              have := (w b1).1
              omega
            rw [e4, es] at nx
            exact nx
          have bad : ¬ ((i : Int) < F 0 3 → 0 ≤ p_W F p q s (x_cn s i)) ∨ ¬ (F 0 3 ≤ (i : Int) → p_W F p q s (x_cn s i) ≤ 0) → Q (some (0, -1)) M := by
            intro hb
            refine h0 (fun w => ?_)
            obtain ⟨a1, a2⟩ := w i (by omega) b1
            rcases hb with z | z
            · exact z a1
            · exact z a2
          refine ⟨fun cr => ⟨fun d => ⟨fun z => skip (fun k => by omega) (fun _ => d) z, fun z => add z⟩, fun d => bad (Or.inr (fun z => d (z cr)))⟩, fun cr => ⟨fun d => ⟨fun z => skip (fun _ => d) (fun k => by omega) z, fun z => add z⟩, fun d => bad (Or.inl (fun z => d (z (by omega))))⟩⟩
  refine u_X5_tightPairs_0 w s (c_pairs w hg' hr' ⟨_, rfl, ?_⟩)
  intro v hv
  rw [epr, x_out (by omega) hs, x_cmpl (by omega) hs] at hv
  subst hv
  have st := main (p_pr F) 0 (by omega) (by omega) (fun j hj => by omega)
  have es : x_set (fun j => decide (s / 2 ^ j % 2 = 1 → (j < 0 ∧ p_W F p q s (x_cn s j) = 0))) (p_pr F) = x_set (fun j => decide (¬ s / 2 ^ j % 2 = 1)) (p_pr F) := x_set_cg _ (fun j hj => decide_eq_decide.mpr ⟨fun w b => absurd (w b).1 (by omega), fun w b => absurd b w⟩)
  rw [es] at st
  exact st
end CP
