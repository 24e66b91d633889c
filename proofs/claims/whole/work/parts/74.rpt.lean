/-! The reference's table of prices -/
section RY
variable {l : Launch} {E : xE} {Q : Option xV → xM → Prop}
theorem c_laysDual {f : Int} (hf : 0 ≤ f ∧ f < 3) {M0 : xM} {F : xM} (hF : p_wf F) (hR : p_RF M0 f F) {p q : Int} (hpq : p_tm p q) (hT : p_RT M0 p q) {s : Nat} (hs : s < 2 ^ p_pr F) {n : Nat} (hn : F 0 3 = n) (hp : x_cn s 7 = n)
    (h : ∀ M1 : xM, M1 103 17 = n → (∀ i j : Nat, i < n → j < n → M1 (143 + i) j = p_Dm F s i j) → (∀ i : Nat, i < n → M1 147 i = p_Dr F p q s i) → p_rs M0 M1 → Q none M1) : x_Ev l E (3, 0, 0) m_X11_laysDual 0 [(21, 103), (0, f), (0, (s : Int)), (5, 0), (5, 0)] [] M0 Q := by
  have h7 := p_pr_le hF
  have hg := hF.2.2.1
  have hr := hF.2.2.2.1
  have hpr : ((p_pr F : Nat) : Int) = F 0 3 + F 0 2 := by unfold p_pr; omega
  have rf : ∀ {M : xM}, p_rs M0 M → p_RF M f F := fun w => p_RF_fr hf hF hR (fun a a1 a2 => p_rs_f w (by omega) (by omega))
  have rt : ∀ {M : xM}, p_rs M0 M → p_RT M p q := fun q => ⟨by rw [q 103 9 (by omega) (by omega)]; exact hT.1, by rw [q 103 10 (by omega) (by omega)]; exact hT.2⟩
  have main : ∀ (m i : Nat) (M : xM), p_pr F - i ≤ m → i ≤ p_pr F → M 103 17 = x_cn s i → (∀ a j : Nat, a < x_cn s i → j < n → M (143 + a) j = p_Dm F s a j) → (∀ a : Nat, a < x_cn s i → M 147 a = p_Dr F p q s a) → p_rs M0 M → x_Ev l E (3, 0, 0) m_X11_laysDual 7 [(21, 103), (0, f), (0, (s : Int)), (0, (i : Int)), (5, 0)] [] M Q := by
    have fin : ∀ (i : Nat) (M : xM), i = p_pr F → M 103 17 = x_cn s i → (∀ a j : Nat, a < x_cn s i → j < n → M (143 + a) j = p_Dm F s a j) → (∀ a : Nat, a < x_cn s i → M 147 a = p_Dr F p q s a) → p_rs M0 M → Q none M := by
      intro i M hi h1 h2 h3 h4
      have e : x_cn s i = n := by rw [hi, ← x_cn_hi hs (j := 7) (by omega), hp]
      rw [e] at h1 h2 h3
      exact h M h1 h2 h3 h4
    intro m
    induction m with
    | zero =>
      intro i M hm hi h1 h2 h3 h4
      exact u_X11_laysDual_7 f s i (c_Rpairs hf hF (rf h4) ⟨_, rfl, fun _ => fin i M (by omega) h1 h2 h3 h4, fun w => absurd (by omega) w⟩)
    | succ m ih =>
      intro i M hm hi h1 h2 h3 h4
      by_cases hip : i = p_pr F
      · exact ih i M (by omega) hi h1 h2 h3 h4
      refine u_X11_laysDual_7 f s i (c_Rpairs hf hF (rf h4) ⟨_, rfl, fun w => by omega, fun w => ?_⟩)
      rw [x_bit (by omega) (by omega)]
      refine ⟨fun hb => ?_, fun hb => ?_⟩
      · have hb1 : s / 2 ^ i % 2 = 1 := by omega
        have hnb := x_nb_cn (s := s) (by omega) (by omega) hb1
        have e4 : x_cn s (i + 1) = x_cn s i + 1 := by
          show x_cn s i + s / 2 ^ i % 2 = x_cn s i + 1
          omega
        have hcl : x_cn s i < n := by
          have := x_cn_le s (i := i + 1) (j := 7) (by omega)
          omega
        have inner : ∀ (m' : Nat) (j : Nat) (M : xM), n - j ≤ m' → j ≤ n → M 103 17 = x_cn s i → (∀ a b : Nat, a < x_cn s i → b < n → M (143 + a) b = p_Dm F s a b) → (∀ b : Nat, b < j → M (143 + x_cn s i) b = p_Dm F s (x_cn s i) b) → (∀ a : Nat, a < x_cn s i → M 147 a = p_Dr F p q s a) → p_rs M0 M → x_Ev l E (3, 0, 0) m_X11_laysDual 30 [(21, 103), (0, f), (0, (s : Int)), (0, (i : Int)), (0, (j : Int))] [] M Q := by
          have fin2 : ∀ (j : Nat) (M : xM), j = n → M 103 17 = x_cn s i → (∀ a b : Nat, a < x_cn s i → b < n → M (143 + a) b = p_Dm F s a b) → (∀ b : Nat, b < j → M (143 + x_cn s i) b = p_Dm F s (x_cn s i) b) → (∀ a : Nat, a < x_cn s i → M 147 a = p_Dr F p q s a) → p_rs M0 M → ∀ zM1 : xM, zM1 = x_wr M 147 (M 103 17) (p_Dr F p q s (x_cn s i)) → ∀ zM2 : xM, zM2 = x_wr zM1 103 17 (x_w ((zM1 103 17) + 1)) → ∀ zv3 : Int, zv3 = x_w ((i : Int) + 1) → x_Ev l E (3, 0, 0) m_X11_laysDual 7 [(21, 103), (0, f), (0, (s : Int)), (0, zv3), (5, 0)] [] zM2 Q := by
            intro j M hj g1 g2 g3 g4 g5 M1 hM1 M2 hM2 v hv
            rw [x_w_id (by omega) (by omega)] at hv
            subst hv
            rw [g1] at hM1
            have fr : ∀ a k, ¬ (a = 147 ∧ k = (x_cn s i : Int)) → ¬ (a = 103 ∧ k = 17) → M2 a k = M a k := by
              intro a k q1 q2
              rw [hM2, x_wr_ne _ _ q2, hM1, x_wr_ne _ _ q1]
            refine ih (i + 1) M2 (by omega) (by omega) ?_ ?_ ?_ ?_
            · rw [hM2, x_wr_eq, hM1, x_wr_ne _ _ (by omega), g1, e4, x_w_id (by omega) (by omega)]
              omega
            · intro a b ha hb
              rw [fr _ _ (by omega) (by omega)]
              by_cases e : a = x_cn s i
              · rw [e]; exact g3 b (by omega)
              · exact g2 a b (by omega) hb
            · intro a ha
              by_cases e : a = x_cn s i
              · rw [e, hM2, x_wr_ne _ _ (by omega), hM1, x_wr_eq]
              · rw [fr _ _ (by omega) (by omega)]; exact g4 a (by omega)
            · intro a k q1 q2
              rw [fr a k (by omega) (by omega)]; exact g5 a k q1 q2
          intro m'
          induction m' with
          | zero =>
            intro j M hm' hj g1 g2 g3 g4 g5
            have hRM := rf g5
            have f2 := fin2 j M (by omega) g1 g2 g3 g4 g5
            unfold p_Dr at f2
            rw [Int.toNat_natCast, hnb] at f2
            refine u_X11_laysDual_30 f s i j ⟨by omega, fun w => ⟨by omega, fun q2 => ⟨by omega, ?_⟩, fun q2 => ⟨by omega, ?_⟩⟩, fun w => absurd (by rw [hRM.2.2.2.1]; omega) w⟩
            · rw [hRM.2.2.2.1] at q2
              rw [if_neg (by omega)] at f2
              rw [hRM.2.2.2.1, x_w_id (by omega) (by omega)]
              refine c_due hf hF hRM hpq (rt g5) (by omega) ⟨_, rfl, by omega, ?_⟩
              exact f2
            · rw [hRM.2.2.2.1] at q2
              rw [if_pos (by omega)] at f2
              exact f2
          | succ m' im =>
            intro j M hm' hj g1 g2 g3 g4 g5
            by_cases hjn : j = n
            · exact im j M (by omega) hj g1 g2 g3 g4 g5
            have hRM := rf g5
            have step : ∀ zM : xM, zM = x_wr M (142 + 1 + 1 * (M 103 17)) j (p_Dm F s (x_cn s i) j) → ∀ zv : Int, zv = x_w ((j : Int) + 1) → x_Ev l E (3, 0, 0) m_X11_laysDual 30 [(21, 103), (0, f), (0, (s : Int)), (0, (i : Int)), (0, zv)] [] zM Q := by
              intro M1 hM1 v hv
              rw [x_w_id (by omega) (by omega)] at hv
              rw [g1, show 142 + 1 + 1 * (x_cn s i : Int) = 143 + x_cn s i by omega] at hM1
              subst hv hM1
              refine im (j + 1) _ (by omega) (by omega) ?_ ?_ ?_ ?_ ?_
              · rw [x_wr_ne _ _ (by omega)]; exact g1
              · intro a b ha hb
                rw [x_wr_ne _ _ (by omega)]; exact g2 a b ha hb
              · intro b hb
                by_cases e : b = j
                · rw [e, x_wr_eq]
                · rw [x_wr_ne _ _ (by omega)]; exact g3 b (by omega)
              · intro a ha
                rw [x_wr_ne _ _ (by omega)]; exact g4 a ha
              · intro a k q1 q2
                rw [x_wr_ne _ _ (by omega)]; exact g5 a k q1 q2
            unfold p_Dm at step
            rw [Int.toNat_natCast, hnb] at step
            refine u_X11_laysDual_30 f s i j ⟨by omega, fun w => by rw [hRM.2.2.2.1] at w; omega, fun w => ⟨by omega, by omega, fun q2 => ?_, fun q2 => ⟨fun q3 => ⟨by omega, ?_⟩, fun q3 => ⟨by omega, ?_⟩⟩⟩⟩
            · rw [hRM.2.2.2.1] at q2
              rw [if_neg (by omega)] at step
              rw [hRM.2.2.2.1, x_w_id (by omega) (by omega), show (121 + 1 + 5 * f) + 1 + 1 * (j : Int) = 123 + 5 * f + j by omega, hRM.2.2.2.2.2.1 j ((i : Int) - F 0 3) (by omega) (by omega) (by omega) (by omega)]
              exact ⟨by omega, by omega, by omega, by omega, by omega, step⟩
            · rw [hRM.2.2.2.1] at q2
              rw [if_pos (by omega), if_neg q3] at step
              exact step
            · rw [hRM.2.2.2.1] at q2
              rw [if_pos (by omega), if_pos q3] at step
              exact step
        exact inner n 0 M (by omega) (by omega) h1 h2 (fun b hb => by omega) h3 h4
      · have e4 : x_cn s (i + 1) = x_cn s i := by
          show x_cn s i + s / 2 ^ i % 2 = x_cn s i
          omega
        intro v hv
        rw [x_w_id (by omega) (by omega)] at hv
        subst hv
        exact ih (i + 1) M (by omega) (by omega) (by rw [e4]; exact h1) (by rw [e4]; exact h2) (by rw [e4]; exact h3) h4
  refine u_X11_laysDual_0 f s ?_
  intro M1 hM1
  subst hM1
  refine main (p_pr F) 0 _ (by omega) (by omega) (x_wr_eq ..) (fun a j ha => absurd ha (Nat.not_lt_zero a)) (fun a ha => absurd ha (Nat.not_lt_zero a)) (fun a k q1 q2 => ?_)
  exact x_wr_ne _ _ q1
/-- cells of the reference's prices -/
def p_rpc (a k : Int) : Prop := (a = 103 ∧ k = 33) ∨ (285 ≤ a ∧ a ≤ 326)
theorem c_takesPrices {f : Int} (hf : 0 ≤ f ∧ f < 3) {M0 : xM} {F : xM} (hF : p_wf F) (hR : p_RF M0 f F) {p q : Int} (hpq : p_tm p q) (hT : p_RT M0 p q) {n : Nat} (hn : n < 39) {S : Nat → Nat} (ht : p_rptab M0 F p q n S) (hS : ∀ k, k < n → S k < 2 ^ p_pr F ∧ p_dok F p q (S k)) {s : Nat} (hs : s < 2 ^ p_pr F) (hok : p_dok F p q s) (hY : ∀ r, 0 ≤ r → r < F 0 3 → M0 148 r = p_Y F p q s r)
    (hold : (∃ k, k < n ∧ p_eqp F p q s (S k)) → Q none M0)
    (h : (∀ k, k < n → ¬ p_eqp F p q s (S k)) → ∀ M1 : xM, p_rptab M1 F p q (n + 1) (fun k => if k = n then s else S k) → (∀ a k, ¬ p_rpc a k → M1 a k = M0 a k) → Q none M1) : x_Ev l E (4, 0, 0) m_X11_takesPrices 0 [(21, 103), (0, f), (1, p_b (p_C F s)), (5, 0), (5, 0), (5, 0), (5, 0)] [] M0 Q := by
  have hg := hF.2.2.1
  have hr := hF.2.2.2.1
  have h7 := p_pr_le hF
  have bs : ∀ {s' : Nat}, s' < 2 ^ p_pr F → p_dok F p q s' → 0 < p_b (p_C F s') ∧ p_b (p_C F s') ≤ 162 := by
    intro s' w1 w2
    have := p_b_pos w2.2.1
    have := p_C_d (p_C_bd hF (s := s') (by omega) w2.1)
    have := p_b_abs (p_C F s')
    omega
  have hb := bs hs hok
  have yb := p_Y_bd hF hpq hs hok.1
  -- the new entry
  have wr : (∀ k, k < n → ¬ p_eqp F p q s (S k)) → x_Ev l E (4, 0, 0) m_X11_takesPrices 91 [(21, 103), (0, f), (1, p_b (p_C F s)), (5, 0), (0, 0), (5, 0), (5, 0)] [] M0 Q := by
    intro hno
    have main : ∀ (m : Nat) (r : Int) (M : xM), F 0 3 - r ≤ m → 0 ≤ r → r ≤ F 0 3 → (∀ i, 0 ≤ i → i < r → M (285 + (n : Int)) i = p_Y F p q s i) → (∀ a k, a ≠ 285 + (n : Int) → M a k = M0 a k) → x_Ev l E (4, 0, 0) m_X11_takesPrices 91 [(21, 103), (0, f), (1, p_b (p_C F s)), (5, 0), (0, r), (5, 0), (5, 0)] [] M Q := by
      intro m
      induction m with
      | zero =>
        intro r M hm hr1 hr2 g1 g2
        have rf : p_RF M f F := p_RF_fr hf hF hR (fun a a1 a2 => by funext k; exact g2 a k (by omega))
        have e33 : M 103 33 = n := by rw [g2 103 33 (by omega)]; exact ht.1
        refine u_X11_takesPrices_91 f _ r ⟨by omega, fun _ => ?_, fun w => absurd (by rw [rf.2.2.2.1]; omega) w⟩
        rw [e33]
        refine ⟨by omega, ?_⟩
        intro M1 hM1
        have f1 : ∀ a, a ≠ 325 → M1 a = M a := fun a ha => by rw [hM1]; exact x_wr_fr _ _ _ ha
        have rf1 : p_RF M1 f F := p_RF_fr hf hF rf (fun a a1 a2 => f1 a (by omega))
        have rt1 : p_RT M1 p q := ⟨by rw [f1 103 (by omega), g2 103 9 (by omega)]; exact hT.1, by rw [f1 103 (by omega), g2 103 10 (by omega)]; exact hT.2⟩
        have y1 : ∀ i, 0 ≤ i → i < F 0 3 → M1 148 i = p_Y F p q s i := fun i a c => by rw [f1 148 (by omega), g2 148 i (by omega)]; exact hY i a c
        refine c_tightDual hf hF rf1 hpq rt1 (fun i a c => by rw [y1 i a c]; exact yb i a (by omega)) hb ⟨_, rfl, ?_⟩
        rw [p_dtS_cg y1, f1 103 (by omega), e33]
        refine ⟨by omega, ?_⟩
        intro M2 hM2 M3 hM3
        have e33' : M2 103 33 = n := by rw [hM2, x_wr_ne _ _ (by omega), f1 103 (by omega)]; exact e33
        rw [e33', x_w_id (by omega) (by omega)] at hM3
        have fr : ∀ a k : Int, ¬ (a = 103 ∧ k = 33) → ¬ (a = 326 ∧ k = n) → ¬ (a = 325 ∧ k = n) → M3 a k = M a k := fun a k w1 w2 w3 => by rw [hM3, x_wr_ne _ _ w1, hM2, x_wr_ne _ _ w2, hM1, x_wr_ne _ _ w3]
        refine h hno M3 ⟨by rw [hM3, x_wr_eq]; omega, fun k hk => ?_⟩ (fun a k w => ?_)
        · by_cases e : k = n
          · dsimp only
            rw [if_pos e, e]
            refine ⟨fun i a c => ?_, ?_, ?_⟩
            · rw [fr _ _ (by omega) (by omega) (by omega)]; exact g1 i a (by omega)
            · rw [hM3, x_wr_ne _ _ (by omega), hM2, x_wr_ne _ _ (by omega), hM1, x_wr_eq]
            · rw [hM3, x_wr_ne _ _ (by omega), hM2, x_wr_eq]; rfl
          · dsimp only
            rw [if_neg e]
            obtain ⟨t1, t2, t3⟩ := ht.2 k (by omega)
            refine ⟨fun i a c => ?_, ?_, ?_⟩
            · rw [fr _ _ (by omega) (by omega) (by omega), g2 _ _ (by omega)]; exact t1 i a c
            · rw [fr _ _ (by omega) (by omega) (by omega), g2 _ _ (by omega)]; exact t2
            · rw [fr _ _ (by omega) (by omega) (by omega), g2 _ _ (by omega)]; exact t3
        · unfold p_rpc at w
          rw [fr a k (by omega) (by omega) (by omega)]; exact g2 a k (by omega)
      | succ m ih =>
        intro r M hm hr1 hr2 g1 g2
        by_cases er : r = F 0 3
        · exact ih r M (by omega) hr1 hr2 g1 g2
        have rf : p_RF M f F := p_RF_fr hf hF hR (fun a a1 a2 => by funext k; exact g2 a k (by omega))
        have e33 : M 103 33 = n := by rw [g2 103 33 (by omega)]; exact ht.1
        refine u_X11_takesPrices_91 f _ r ⟨by omega, fun w => by rw [rf.2.2.2.1] at w; omega, fun w => ?_⟩
        rw [e33, show 284 + 1 + 1 * (n : Int) = 285 + n by omega, g2 148 r (by omega), hY r hr1 (by omega)]
        refine ⟨by omega, by omega, by omega, ?_⟩
        intro M1 hM1 v hv
        rw [x_w_id (by omega) (by omega)] at hv
        subst hv hM1
        refine ih (r + 1) _ (by omega) (by omega) (by omega) (fun i a c => ?_) (fun a k w => ?_)
        · by_cases e : i = r
          · rw [e, x_wr_eq]
          · rw [x_wr_ne _ _ (by omega)]; exact g1 i a (by omega)
        · rw [x_wr_ne _ _ (by omega)]; exact g2 a k w
    exact main 4 0 M0 (by omega) (by omega) (by omega) (fun i a c => by omega) (fun _ _ _ => rfl)
  have main : ∀ (m k : Nat), n - k ≤ m → k ≤ n → (∀ j, j < k → ¬ p_eqp F p q s (S j)) → x_Ev l E (4, 0, 0) m_X11_takesPrices 3 [(21, 103), (0, f), (1, p_b (p_C F s)), (5, 0), (0, (k : Int)), (5, 0), (5, 0)] [] M0 Q := by
    intro m
    induction m with
    | zero =>
      intro k hm hk hx
      exact u_X11_takesPrices_3 f _ k ⟨fun _ => wr (fun j hj => hx j (by omega)), fun w => absurd (by rw [ht.1]; omega) w⟩
    | succ m ih =>
      intro k hm hk hx
      by_cases ek : k = n
      · exact ih k (by omega) hk hx
      obtain ⟨t1, t2, t3⟩ := ht.2 k (by omega)
      obtain ⟨u1, u2⟩ := hS k (by omega)
      have ub := bs u1 u2
      have uy := p_Y_bd hF hpq u1 u2.1
      refine u_X11_takesPrices_3 f _ k ⟨fun w => by rw [ht.1] at w; omega, fun w => ?_⟩
      have inner : ∀ (m' : Nat) (r : Int) (v : Int), F 0 3 - r ≤ m' → 0 ≤ r → r ≤ F 0 3 → ((v = 1 ∧ ∀ i, 0 ≤ i → i < r → p_Y F p q s i * p_b (p_C F (S k)) = p_Y F p q (S k) i * p_b (p_C F s)) ∨ (v = 0 ∧ ¬ p_eqp F p q s (S k))) → x_Ev l E (4, 0, 0) m_X11_takesPrices 18 [(21, 103), (0, f), (1, p_b (p_C F s)), (5, 0), (0, (k : Int)), (0, v), (0, r)] [] M0 Q := by
        intro m'
        induction m' with
        | zero =>
          intro r v hm' hr1 hr2 hv
          refine u_X11_takesPrices_18 f _ k v r ⟨by omega, fun _ => ⟨fun v0 => ?_, fun v0 => ?_⟩, fun w => absurd (by rw [hR.2.2.2.1]; omega) w⟩
          · intro z hz
            rw [x_w_id (by omega) (by omega)] at hz
            subst hz
            refine ih (k + 1) (by omega) (by omega) (fun j hj => ?_)
            by_cases e : j = k
            · rw [e]
              exact (hv.resolve_left (fun w => by omega)).2
            · exact hx j (by omega)
          · exact hold ⟨k, by omega, fun i a c => (hv.resolve_right (fun w => v0 w.1)).2 i a (by omega)⟩
        | succ m' im =>
          intro r v hm' hr1 hr2 hv
          by_cases er : r = F 0 3
          · exact im r v (by omega) hr1 hr2 hv
          have y1 := yb r hr1 (by omega)
          have y2 := uy r hr1 (by omega)
          have m1 := x_mb (a := p_Y F p q s r) (b := p_b (p_C F (S k))) (A := 61992000000) (B := 162) (by omega) (by omega)
          have m2 := x_mb (a := p_Y F p q (S k) r) (b := p_b (p_C F s)) (A := 61992000000) (B := 162) (by omega) (by omega)
          refine u_X11_takesPrices_18 f _ k v r ⟨by omega, fun w => by rw [hR.2.2.2.1] at w; omega, fun w => ⟨by omega, by omega, by omega, by omega, ?_⟩⟩
          rw [show 284 + 1 + 1 * (k : Int) = 285 + k by omega, hY r hr1 (by omega), t2, t1 r hr1 (by omega), x_W_id (by omega) (by omega), x_W_id (by omega) (by omega)]
          have v01 : v = 0 ∨ v = 1 := by rcases hv with w | w <;> omega
          refine ⟨fun d => ?_, fun d => ?_⟩
          · intro z hz z2 hz2
            rw [x_w_id (by omega) (by omega)] at hz2
            have ez : z = 0 := by
              rw [hz]
              rcases v01 with e | e <;> rw [e] <;> decide
            rw [ez, hz2]
            exact im (r + 1) 0 (by omega) (by omega) (by omega) (Or.inr ⟨rfl, fun w => d (w r hr1 (by omega))⟩)
          · intro z hz z2 hz2
            rw [x_w_id (by omega) (by omega)] at hz2
            have ez : z = v := by
              rw [hz]
              rcases v01 with e | e <;> rw [e] <;> decide
            rw [ez, hz2]
            refine im (r + 1) v (by omega) (by omega) (by omega) ?_
            rcases hv with ⟨w1, w2⟩ | w
            · refine Or.inl ⟨w1, fun i a c => ?_⟩
              by_cases e : i = r
              · rw [e]; exact d
              · exact w2 i a (by omega)
            · exact Or.inr w
      exact inner 4 0 1 (by omega) (by omega) (by omega) (Or.inl ⟨rfl, fun i a c => by omega⟩)
  exact u_X11_takesPrices_0 f _ (main n 0 (by omega) (by omega) (fun j hj => by omega))
end RY
