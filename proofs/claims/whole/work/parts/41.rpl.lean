/-! The reference's plans -/
def p_RF (M : xM) (f : Int) (F : xM) : Prop := M 104 f = F 0 0 ∧ M 105 f = F 0 1 ∧ M 106 f = F 0 2 ∧ M 107 f = F 0 3 ∧ (∀ w g, 0 ≤ w → w < 3 → 0 ≤ g → g < 3 → M (110 + 4 * f + w) g = F 1 (3 * w + g)) ∧ (∀ i j, 0 ≤ i → i < F 0 3 → 0 ≤ j → j < F 0 2 → M (123 + 5 * f + i) j = F 2 (3 * i + j)) ∧ ∀ i, 0 ≤ i → i < F 0 3 → M (138 + f) i = F 3 i
theorem p_RF_fr {M M1 : xM} {f : Int} {F : xM} (hf : 0 ≤ f ∧ f < 3) (hF : p_wf F) (h : p_RF M f F) (h1 : ∀ a, 104 ≤ a → a < 142 → M1 a = M a) : p_RF M1 f F := by
  have hg := hF.2.2.1
  have hr := hF.2.2.2.1
  obtain ⟨q0, q1, q2, q3, q4, q5, q6⟩ := h
  refine ⟨?_, ?_, ?_, ?_, ?_, ?_, ?_⟩
  · rw [h1 _ (by omega) (by omega)]; exact q0
  · rw [h1 _ (by omega) (by omega)]; exact q1
  · rw [h1 _ (by omega) (by omega)]; exact q2
  · rw [h1 _ (by omega) (by omega)]; exact q3
  · intro w g a b c d
    rw [h1 _ (by omega) (by omega)]; exact q4 w g a b c d
  · intro i j a b c d
    rw [h1 _ (by omega) (by omega)]; exact q5 i j a b c d
  · intro i a b
    rw [h1 _ (by omega) (by omega)]; exact q6 i a b
def p_M (F : xM) (s : Nat) : Int → Int → Int := fun i j => p_ce F (x_nb s i.toNat) j
def p_MR (F : xM) (s : Nat) : Int → Int := fun i => p_ri F (x_nb s i.toNat)
theorem p_det_d3 {C : Int → Int → Int} {K : Int → Int} {n : Nat} (h1 : 1 ≤ n) (h3 : n ≤ 3) (h : ∀ i j : Int, 0 ≤ i → i < 3 → 0 ≤ j → j < 3 → K (3 * i + j) = if i < n ∧ j < n then C i j else if i = j then 1 else 0) : p_det C n = p_d3 K := by
  have k0 := h 0 0 (by omega) (by omega) (by omega) (by omega)
  have k1 := h 0 1 (by omega) (by omega) (by omega) (by omega)
  have k2 := h 0 2 (by omega) (by omega) (by omega) (by omega)
  have k3 := h 1 0 (by omega) (by omega) (by omega) (by omega)
  have k4 := h 1 1 (by omega) (by omega) (by omega) (by omega)
  have k5 := h 1 2 (by omega) (by omega) (by omega) (by omega)
  have k6 := h 2 0 (by omega) (by omega) (by omega) (by omega)
  have k7 := h 2 1 (by omega) (by omega) (by omega) (by omega)
  have k8 := h 2 2 (by omega) (by omega) (by omega) (by omega)
  have : n = 1 ∨ n = 2 ∨ n = 3 := by omega
  rcases this with q | q | q <;> subst q <;> simp at k0 k1 k2 k3 k4 k5 k6 k7 k8 <;> unfold p_d3 <;> rw [k0, k1, k2, k3, k4, k5, k6, k7, k8] <;> simp [p_det, p_D, p_dl] <;> grind
theorem p_M_d3 {F : xM} (hF : p_wf F) (s : Nat) {n : Nat} (hn : F 0 2 = n) : p_det (p_M F s) n = p_d3 (p_C F s) := by
  have hg := hF.2.2.1
  refine p_det_d3 (by omega) (by omega) (fun i j a b c d => ?_)
  unfold p_C p_M
  rw [show (3 * i + j) / 3 = i by omega, show (3 * i + j) % 3 = j by omega, hn]
theorem p_M_rc {F : xM} (hF : p_wf F) (s : Nat) {n : Nat} (hn : F 0 2 = n) {c : Int} (hc : 0 ≤ c) (hc2 : c < n) : p_det (p_rp (p_M F s) (p_MR F s) c) n = p_d3 (p_rc (p_C F s) (p_R F s) c) := by
  have hg := hF.2.2.1
  refine p_det_d3 (by omega) (by omega) (fun i j a b c' d => ?_)
  unfold p_rc p_rp p_C p_M p_MR p_R
  rw [show (3 * i + j) / 3 = i by omega, show (3 * i + j) % 3 = j by omega, hn]
  by_cases e : j = c
  · rw [if_pos e]
    by_cases e2 : i < n
    · rw [if_pos e2, if_pos (by omega), if_pos e]
    · rw [if_neg e2, if_neg (by omega), if_neg (by omega)]
  · rw [if_neg e]
    by_cases e2 : i < n ∧ j < n
    · rw [if_pos e2, if_pos e2, if_neg e]
    · rw [if_neg e2, if_neg e2]
theorem p_sum_cgg {F : xM} {X X' : Int → Int} (h : ∀ c, 0 ≤ c → c < F 0 2 → X c = X' c) (r : Int) : p_sum F X r = p_sum F X' r := by
  unfold p_sum
  exact x_sm_cg _ (fun i a b => by show F 2 (3 * r + i) * X i = F 2 (3 * r + i) * X' i; rw [h i a (by omega)])
theorem p_may_cgg {F : xM} {X X' : Int → Int} {b : Int} (h : ∀ c, 0 ≤ c → c < F 0 2 → X c = X' c) : p_may F X b ↔ p_may F X' b := by
  unfold p_may
  constructor
  · intro ⟨q1, q2⟩
    exact ⟨fun g a c => by rw [← h g a c]; exact q1 g a c, fun r a c => by rw [← p_sum_cgg h]; exact q2 r a c⟩
  · intro ⟨q1, q2⟩
    exact ⟨fun g a c => by rw [h g a c]; exact q1 g a c, fun r a c => by rw [p_sum_cgg h]; exact q2 r a c⟩
theorem p_tS_cgg {F : xM} {X X' : Int → Int} {b : Int} (hF : p_wf F) (h : ∀ c, 0 ≤ c → c < F 0 2 → X c = X' c) : p_tS F X b = p_tS F X' b := by
  have hg := hF.2.2.1
  have hr := hF.2.2.2.1
  unfold p_tS
  refine x_set_cg _ (fun i hi => ?_)
  unfold p_pr at hi
  unfold p_tgt
  rw [p_sum_cgg h]
  split
  · rfl
  · rw [h _ (by omega) (by omega)]
section RP
variable {l : Launch} {E : xE} {Q : Option xV → xM → Prop}
theorem c_Rpairs {f : Int} (hf : 0 ≤ f ∧ f < 3) {M : xM} {F : xM} (hF : p_wf F) (hR : p_RF M f F) (h : Q (some (0, ((p_pr F : Nat) : Int))) M) : x_Ev l E (1, 0, 0) m_X11_pairs 0 [(21, 103), (0, f)] [] M Q := by
  have hg := hF.2.2.1
  have hr := hF.2.2.2.1
  refine u_X11_pairs_0 f ⟨by omega, by omega, ?_⟩
  rw [hR.2.2.1, hR.2.2.2.1, x_w_id (by omega) (by omega), show F 0 3 + F 0 2 = ((p_pr F : Nat) : Int) by unfold p_pr; omega]
  exact h
/-- what the reference's solving may change -/
def p_rs (M M1 : xM) : Prop := ∀ a k, ¬ (a = 103 ∧ k = 17) → ¬ (143 ≤ a ∧ a ≤ 148) → M1 a k = M a k
theorem p_rs_f {M M1 : xM} (h : p_rs M M1) {a : Int} (h1 : a ≠ 103) (h2 : a < 143 ∨ 148 < a) : M1 a = M a := by
  funext k
  exact h a k (by omega) (by omega)
theorem c_laysPrimal {f : Int} (hf : 0 ≤ f ∧ f < 3) {M0 : xM} {F : xM} (hF : p_wf F) (hR : p_RF M0 f F) {s : Nat} (hs : s < 2 ^ p_pr F) {n : Nat} (hn : F 0 2 = n) (hp : x_cn s 7 = n)
    (h : ∀ M1 : xM, M1 103 17 = n → (∀ i j : Nat, i < n → j < n → M1 (143 + i) j = p_M F s i j) → (∀ i : Nat, i < n → M1 147 i = p_MR F s i) → p_rs M0 M1 → Q none M1) : x_Ev l E (2, 0, 0) m_X11_laysPrimal 0 [(21, 103), (0, f), (0, (s : Int)), (5, 0), (5, 0)] [] M0 Q := by
  have h7 := p_pr_le hF
  have hg := hF.2.2.1
  have hr := hF.2.2.2.1
  have hpr : ((p_pr F : Nat) : Int) = F 0 3 + F 0 2 := by unfold p_pr; omega
  have rf : ∀ {M : xM}, p_rs M0 M → p_RF M f F := fun q => p_RF_fr hf hF hR (fun a a1 a2 => p_rs_f q (by omega) (by omega))
  have main : ∀ (m i : Nat) (M : xM), p_pr F - i ≤ m → i ≤ p_pr F → M 103 17 = x_cn s i → (∀ a j : Nat, a < x_cn s i → j < n → M (143 + a) j = p_M F s a j) → (∀ a : Nat, a < x_cn s i → M 147 a = p_MR F s a) → p_rs M0 M → x_Ev l E (2, 0, 0) m_X11_laysPrimal 7 [(21, 103), (0, f), (0, (s : Int)), (0, (i : Int)), (5, 0)] [] M Q := by
    have fin : ∀ (i : Nat) (M : xM), i = p_pr F → M 103 17 = x_cn s i → (∀ a j : Nat, a < x_cn s i → j < n → M (143 + a) j = p_M F s a j) → (∀ a : Nat, a < x_cn s i → M 147 a = p_MR F s a) → p_rs M0 M → Q none M := by
      intro i M hi h1 h2 h3 h4
      have e : x_cn s i = n := by rw [hi, ← x_cn_hi hs (j := 7) (by omega), hp]
      rw [e] at h1 h2 h3
      exact h M h1 h2 h3 h4
    intro m
    induction m with
    | zero =>
      intro i M hm hi h1 h2 h3 h4
      exact u_X11_laysPrimal_7 f s i (c_Rpairs hf hF (rf h4) ⟨_, rfl, fun _ => fin i M (by omega) h1 h2 h3 h4, fun q => absurd (by omega) q⟩)
    | succ m ih =>
      intro i M hm hi h1 h2 h3 h4
      by_cases hip : i = p_pr F
      · exact ih i M (by omega) hi h1 h2 h3 h4
      refine u_X11_laysPrimal_7 f s i (c_Rpairs hf hF (rf h4) ⟨_, rfl, fun q => by omega, fun q => ?_⟩)
      rw [x_bit (by omega) (by omega)]
      refine ⟨fun hb => ?_, fun hb => ?_⟩
      · have hb1 : s / 2 ^ i % 2 = 1 := by omega
        have hnb := x_nb_cn (s := s) (by omega) (by omega) hb1
        have e4 : x_cn s (i + 1) = x_cn s i + 1 := by
          show x_cn s i + s / 2 ^ i % 2 = x_cn s i + 1
          omega
        have hcl : x_cn s i < n := by
          have := x_cn_le s (i := i + 1) (j := 7) (by omega)
          omega
        have inner : ∀ (m' : Nat) (j : Nat) (M : xM), n - j ≤ m' → j ≤ n → M 103 17 = x_cn s i → (∀ a b : Nat, a < x_cn s i → b < n → M (143 + a) b = p_M F s a b) → (∀ b : Nat, b < j → M (143 + x_cn s i) b = p_ce F i b) → (∀ a : Nat, a < x_cn s i → M 147 a = p_MR F s a) → p_rs M0 M → x_Ev l E (2, 0, 0) m_X11_laysPrimal 30 [(21, 103), (0, f), (0, (s : Int)), (0, (i : Int)), (0, (j : Int))] [] M Q := by
          have fin2 : ∀ (j : Nat) (M : xM), j = n → M 103 17 = x_cn s i → (∀ a b : Nat, a < x_cn s i → b < n → M (143 + a) b = p_M F s a b) → (∀ b : Nat, b < j → M (143 + x_cn s i) b = p_ce F i b) → (∀ a : Nat, a < x_cn s i → M 147 a = p_MR F s a) → p_rs M0 M → ∀ zM1 : xM, zM1 = x_wr M 147 (M 103 17) (p_ri F i) → ∀ zM2 : xM, zM2 = x_wr zM1 103 17 (x_w ((zM1 103 17) + 1)) → ∀ zv3 : Int, zv3 = x_w ((i : Int) + 1) → x_Ev l E (2, 0, 0) m_X11_laysPrimal 7 [(21, 103), (0, f), (0, (s : Int)), (0, zv3), (5, 0)] [] zM2 Q := by
            intro j M hj g1 g2 g3 g4 g5 M1 hM1 M2 hM2 v hv
            rw [x_w_id (by omega) (by omega)] at hv
            subst hv
            rw [g1] at hM1
            have fr : ∀ a k, ¬ (a = 147 ∧ k = (x_cn s i : Int)) → ¬ (a = 103 ∧ k = 17) → M2 a k = M a k := by
              intro a k q1 q2
              rw [hM2, x_wr_ne _ _ q2, hM1, x_wr_ne _ _ q1]
            refine ih (i + 1) M2 (by omega) (by omega) ?_ ?_ ?_ ?_
            · rw [hM2, x_wr_eq, hM1, x_wr_ne _ _ (by omega), g1, e4, x_w_id (by omega) (by omega)]
              omega
            · intro a b ha hb
              rw [fr _ _ (by omega) (by omega)]
              by_cases e : a = x_cn s i
              · rw [e, g3 b (by omega)]
                unfold p_M
                rw [Int.toNat_natCast, hnb]
              · exact g2 a b (by omega) hb
            · intro a ha
              by_cases e : a = x_cn s i
              · rw [e, hM2, x_wr_ne _ _ (by omega), hM1, x_wr_eq]
                unfold p_MR
                rw [Int.toNat_natCast, hnb]
              · rw [fr _ _ (by omega) (by omega)]; exact g4 a (by omega)
            · intro a k q1 q2
              rw [fr a k (by omega) (by omega)]; exact g5 a k q1 q2
          intro m'
          induction m' with
          | zero =>
            intro j M hm' hj g1 g2 g3 g4 g5
            have hRM := rf g5
            have f2 := fin2 j M (by omega) g1 g2 g3 g4 g5
            unfold p_ri at f2
            refine u_X11_laysPrimal_30 f s i j ⟨by omega, fun q => ⟨by omega, fun q2 => ⟨by omega, ?_⟩, fun q2 => ⟨by omega, ?_, by omega, ?_⟩⟩, fun q => absurd (by rw [hRM.2.2.1]; omega) q⟩
            · rw [if_pos (by rw [← hRM.2.2.2.1]; exact q2)] at f2
              exact f2
            · rw [hRM.2.2.2.1] at q2; omega
            · rw [hRM.2.2.2.1] at q2
              rw [if_neg (by omega)] at f2
              rw [show 137 + 1 + 1 * f = 138 + f by omega, hRM.2.2.2.2.2.2 i (by omega) (by omega)]
              exact f2
          | succ m' im =>
            intro j M hm' hj g1 g2 g3 g4 g5
            by_cases hjn : j = n
            · exact im j M (by omega) hj g1 g2 g3 g4 g5
            have hRM := rf g5
            have step : ∀ zM : xM, zM = x_wr M (142 + 1 + 1 * (M 103 17)) j (p_ce F i j) → ∀ zv : Int, zv = x_w ((j : Int) + 1) → x_Ev l E (2, 0, 0) m_X11_laysPrimal 30 [(21, 103), (0, f), (0, (s : Int)), (0, (i : Int)), (0, zv)] [] zM Q := by
              intro M1 hM1 v hv
              rw [x_w_id (by omega) (by omega)] at hv
              rw [g1, show 142 + 1 + 1 * (x_cn s i : Int) = 143 + x_cn s i by omega] at hM1
              subst hv hM1
              refine im (j + 1) _ (by omega) (by omega) ?_ ?_ ?_ ?_ ?_
              · rw [x_wr_ne _ _ (by omega)]; exact g1
              · intro a b ha hb
                rw [x_wr_ne _ _ (by omega)]; exact g2 a b ha hb
              · intro b hb
                by_cases e : b = j
                · rw [e, x_wr_eq]
                · rw [x_wr_ne _ _ (by omega)]; exact g3 b (by omega)
              · intro a ha
                rw [x_wr_ne _ _ (by omega)]; exact g4 a ha
              · intro a k q1 q2
                rw [x_wr_ne _ _ (by omega)]; exact g5 a k q1 q2
            unfold p_ce at step
            refine u_X11_laysPrimal_30 f s i j ⟨by omega, fun q => by rw [hRM.2.2.1] at q; omega, fun q => ⟨by omega, by omega, fun q2 => ⟨by omega, fun q3 => ⟨by omega, ?_⟩, fun q3 => ⟨by omega, ?_⟩⟩, fun q2 => ⟨by omega, ?_, by omega, by omega, ?_⟩⟩⟩
            · rw [hRM.2.2.2.1] at q2 q3
              rw [x_w_id (by omega) (by omega)] at q3
              rw [if_pos q2, if_neg q3] at step
              exact step
            · rw [hRM.2.2.2.1] at q2 q3
              rw [x_w_id (by omega) (by omega)] at q3
              rw [if_pos q2, if_pos q3] at step
              exact step
            · rw [hRM.2.2.2.1] at q2; omega
            · rw [hRM.2.2.2.1] at q2
              rw [if_neg q2] at step
              rw [show (121 + 1 + 5 * f) + 1 + 1 * (i : Int) = 123 + 5 * f + i by omega, hRM.2.2.2.2.2.1 i j (by omega) (by omega) (by omega) (by omega)]
              exact step
        exact inner n 0 M (by omega) (by omega) h1 h2 (fun b hb => by omega) h3 h4
      · have e4 : x_cn s (i + 1) = x_cn s i := by
          show x_cn s i + s / 2 ^ i % 2 = x_cn s i
          omega
        intro v hv
        rw [x_w_id (by omega) (by omega)] at hv
        subst hv
        exact ih (i + 1) M (by omega) (by omega) (by rw [e4]; exact h1) (by rw [e4]; exact h2) (by rw [e4]; exact h3) h4
  refine u_X11_laysPrimal_0 f s ?_
  intro M1 hM1
  subst hM1
  refine main (p_pr F) 0 _ (by omega) (by omega) (x_wr_eq ..) (fun a j ha => absurd ha (Nat.not_lt_zero a)) (fun a ha => absurd ha (Nat.not_lt_zero a)) (fun a k q1 q2 => ?_)
  exact x_wr_ne _ _ q1
theorem c_rowSum {f : Int} (hf : 0 ≤ f ∧ f < 3) {M : xM} {F : xM} (hF : p_wf F) (hR : p_RF M f F) {B : Int} (hB : 0 ≤ B ∧ B ≤ 1000000000000) (hX : ∀ c, 0 ≤ c → c < F 0 2 → -B ≤ M 148 c ∧ M 148 c ≤ B) {i : Int} (hi : 0 ≤ i) (hi2 : i < F 0 3) (h : Q (some (1, p_sum F (M 148) i)) M) : x_Ev l E (1, 0, 0) m_X11_rowSum 0 [(21, 103), (0, f), (0, i), (5, 0), (5, 0), (5, 0)] [] M Q := by
  have hg := hF.2.2.1
  have hr := hF.2.2.2.1
  obtain ⟨G, hG⟩ : ∃ G : Nat, F 0 2 = G := ⟨(F 0 2).toNat, by omega⟩
  have hb : ∀ j : Nat, j ≤ G → -(j * (3 * B)) ≤ x_sm (fun g => F 2 (3 * i + g) * M 148 g) j ∧ x_sm (fun g => F 2 (3 * i + g) * M 148 g) j ≤ j * (3 * B) := by
    intro j hj
    exact x_sm_bd j (fun g g1 g2 => x_mb (hF.2.2.2.2.2.1 _ (by omega) (by omega)) (hX g g1 (by omega)))
  have hb2 : ∀ j : Nat, j ≤ G → (j : Int) * (3 * B) ≤ 3 * (3 * B) := fun j hj => Int.mul_le_mul_of_nonneg_right (by omega) (by omega)
  have main : ∀ (m j : Nat), G - j ≤ m → j ≤ G → x_Ev l E (1, 0, 0) m_X11_rowSum 5 [(21, 103), (0, f), (0, i), (1, x_sm (fun g => F 2 (3 * i + g) * M 148 g) j), (5, 0), (0, (j : Int))] [] M Q := by
    intro m
    induction m with
    | zero =>
      intro j hm hj
      have ej : j = G := by omega
      refine u_X11_rowSum_5 f i _ j ⟨by omega, fun q => ?_, fun q => absurd (by rw [hR.2.2.1]; omega) q⟩
      unfold p_sum at h
      rw [hG, Int.toNat_natCast, ← ej] at h
      exact h
    | succ m ih =>
      intro j hm hj
      by_cases hjG : j = G
      · exact ih j (by omega) hj
      refine u_X11_rowSum_5 f i _ j ⟨by omega, fun q => by rw [hR.2.2.1] at q; omega, fun q => ⟨by omega, by omega, by omega, by omega, ?_⟩⟩
      rw [show (121 + 1 + 5 * f) + 1 + 1 * i = 123 + 5 * f + i by omega, hR.2.2.2.2.2.1 i j hi hi2 (by omega) (by omega)]
      intro v hv v2 hv2
      rw [x_w_id (by omega) (by omega)] at hv2
      have b1 := hb (j + 1) (by omega)
      have b2 := hb2 (j + 1) (by omega)
      rw [x_W_a2, Int.mul_comm (M 148 j)] at hv
      have ev : v = x_sm (fun g => F 2 (3 * i + g) * M 148 g) (j + 1) := by
        rw [hv]
        exact x_W_id (x := x_sm (fun g => F 2 (3 * i + g) * M 148 g) (j + 1)) (by omega) (by omega)
      subst ev hv2
      exact ih (j + 1) (by omega) (by omega)
  exact u_X11_rowSum_0 f i (main G 0 (by omega) (by omega))
theorem c_mayChoose {f : Int} (hf : 0 ≤ f ∧ f < 3) {M : xM} {F : xM} (hF : p_wf F) (hR : p_RF M f F) (hX : ∀ c, 0 ≤ c → c < F 0 2 → -1080 ≤ M 148 c ∧ M 148 c ≤ 1080) {b : Int} (hb : 0 < b ∧ b ≤ 162) (h1 : p_may F (M 148) b → Q (some (0, 1)) M) (h0 : ¬ p_may F (M 148) b → Q (some (0, 0)) M) : x_Ev l E (2, 0, 0) m_X11_mayChoose 0 [(21, 103), (0, f), (1, b), (5, 0), (5, 0)] [] M Q := by
  have hg := hF.2.2.1
  have hr := hF.2.2.2.1
  have main2 : (∀ g, 0 ≤ g → g < F 0 2 → 0 ≤ M 148 g) → ∀ (m : Nat) (i : Int), F 0 3 - i ≤ m → 0 ≤ i → i ≤ F 0 3 → (∀ r, 0 ≤ r → r < i → p_sum F (M 148) r ≤ F 3 r * b) → x_Ev l E (2, 0, 0) m_X11_mayChoose 37 [(21, 103), (0, f), (1, b), (5, 0), (0, i)] [] M Q := by
    intro hpos m
    induction m with
    | zero =>
      intro i hm hi hi2 hx
      refine u_X11_mayChoose_37 f b i ⟨by omega, fun q => h1 ⟨hpos, fun r r1 r2 => hx r r1 (by omega)⟩, fun q => absurd (by rw [hR.2.2.2.1]; omega) q⟩
    | succ m ih =>
      intro i hm hi hi2 hx
      by_cases hir : i = F 0 3
      · exact ih i (by omega) hi hi2 hx
      have em := x_mb (A := 20) (B := 162) (a := F 3 i) (b := b) (by have := hF.2.2.2.2.2.2.2 i hi (by omega); omega) (by omega)
      refine u_X11_mayChoose_37 f b i ⟨by omega, fun q => by rw [hR.2.2.2.1] at q; omega, fun q => ?_⟩
      refine c_rowSum hf hF hR (B := 1080) (by omega) hX hi (by omega) ⟨_, rfl, by omega, by omega, ?_⟩
      rw [show 137 + 1 + 1 * f = 138 + f by omega, hR.2.2.2.2.2.2 i hi (by omega), x_W_id (by omega) (by omega)]
      refine ⟨fun d => ?_, fun d => h0 (fun w => d (w.2 i hi (by omega)))⟩
      intro v hv
      rw [x_w_id (by omega) (by omega)] at hv
      subst hv
      refine ih (i + 1) (by omega) (by omega) (by omega) (fun r r1 r2 => ?_)
      by_cases e : r = i
      · rw [e]; exact d
      · exact hx r r1 (by omega)
  have main : ∀ (m : Nat) (j : Int), F 0 2 - j ≤ m → 0 ≤ j → j ≤ F 0 2 → (∀ g, 0 ≤ g → g < j → 0 ≤ M 148 g) → x_Ev l E (2, 0, 0) m_X11_mayChoose 3 [(21, 103), (0, f), (1, b), (5, 0), (0, j)] [] M Q := by
    intro m
    induction m with
    | zero =>
      intro j hm hj hj2 hx
      refine u_X11_mayChoose_3 f b j ⟨by omega, fun q => main2 (fun g a b => hx g a (by omega)) 4 0 (by omega) (by omega) (by omega) (fun r a b => by omega), fun q => absurd (by rw [hR.2.2.1]; omega) q⟩
    | succ m ih =>
      intro j hm hj hj2 hx
      by_cases hjg : j = F 0 2
      · exact ih j (by omega) hj hj2 hx
      refine u_X11_mayChoose_3 f b j ⟨by omega, fun q => by rw [hR.2.2.1] at q; omega, fun q => ⟨by omega, fun d => ?_, fun d => h0 (fun w => d (w.1 j hj (by omega)))⟩⟩
      intro v hv
      rw [x_w_id (by omega) (by omega)] at hv
      subst hv
      refine ih (j + 1) (by omega) (by omega) (by omega) (fun g g1 g2 => ?_)
      by_cases e : g = j
      · rw [e]; exact d
      · exact hx g g1 (by omega)
  exact u_X11_mayChoose_0 f b (main 3 0 (by omega) (by omega) (by omega) (fun g a b => by omega))
theorem c_tightPrimal {f : Int} (hf : 0 ≤ f ∧ f < 3) {M : xM} {F : xM} (hF : p_wf F) (hR : p_RF M f F) (hX : ∀ c, 0 ≤ c → c < F 0 2 → -1080 ≤ M 148 c ∧ M 148 c ≤ 1080) {b : Int} (hb : 0 < b ∧ b ≤ 162) (h : Q (some (0, (p_tS F (M 148) b : Int))) M) : x_Ev l E (2, 0, 0) m_X11_tightPrimal 0 [(21, 103), (0, f), (1, b), (5, 0), (5, 0), (5, 0)] [] M Q := by
  have hg := hF.2.2.1
  have hr := hF.2.2.2.1
  obtain ⟨G, hG⟩ : ∃ G : Nat, F 0 2 = G := ⟨(F 0 2).toNat, by omega⟩
  obtain ⟨R, hRR⟩ : ∃ R : Nat, F 0 3 = R := ⟨(F 0 3).toNat, by omega⟩
  have hlt := x_set_lt (p_tgt F (M 148) b)
  have main2 : ∀ (m j : Nat), G - j ≤ m → j ≤ G → x_Ev l E (2, 0, 0) m_X11_tightPrimal 62 [(21, 103), (0, f), (1, b), (5, 0), (0, (x_set (p_tgt F (M 148) b) (R + j) : Int)), (0, (j : Int))] [] M Q := by
    intro m
    induction m with
    | zero =>
      intro j hm hj
      have ej : j = G := by omega
      refine u_X11_tightPrimal_62 f b _ j ⟨by omega, fun q => ?_, fun q => absurd (by rw [hR.2.2.1]; omega) q⟩
      unfold p_tS p_pr at h
      rw [hG, hRR, show ((R : Int) + (G : Int)).toNat = R + j by omega] at h
      exact h
    | succ m ih =>
      intro j hm hj
      by_cases hjG : j = G
      · exact ih j (by omega) hj
      have lt := hlt (R + j)
      have lt2 : 2 ^ (R + j) ≤ 2 ^ 7 := Nat.pow_le_pow_right (by omega) (by omega)
      have next := ih (j + 1) (by omega) (by omega)
      rw [show R + (j + 1) = R + j + 1 by omega] at next
      unfold x_set at next
      refine u_X11_tightPrimal_62 f b _ j ⟨by omega, fun q => by rw [hR.2.2.1] at q; omega, fun q => ⟨by omega, fun d => ?_, fun d => ⟨by omega, ?_⟩⟩⟩
      · have e1 : p_tgt F (M 148) b (R + j) = false := by
          unfold p_tgt
          rw [hRR, if_neg (by omega), show ((R + j : Nat) : Int) - R = j by omega]
          exact decide_eq_false d
        intro v hv v2 hv2
        rw [x_or0 (by omega)] at hv
        rw [x_w_id (by omega) (by omega)] at hv2
        subst hv hv2
        rw [e1] at next
        exact next
      · have e1 : p_tgt F (M 148) b (R + j) = true := by
          unfold p_tgt
          rw [hRR, if_neg (by omega), show ((R + j : Nat) : Int) - R = j by omega]
          exact decide_eq_true d
        intro v hv v2 hv2
        rw [hR.2.2.2.1, hRR, x_w_id (by omega) (by omega), show (R : Int) + (j : Int) = ((R + j : Nat) : Int) by omega, x_or (by omega) lt] at hv
        rw [x_w_id (by omega) (by omega)] at hv2
        subst hv hv2
        rw [e1] at next
        exact next
  have main : ∀ (m i : Nat), R - i ≤ m → i ≤ R → x_Ev l E (2, 0, 0) m_X11_tightPrimal 6 [(21, 103), (0, f), (1, b), (5, 0), (0, (x_set (p_tgt F (M 148) b) i : Int)), (0, (i : Int))] [] M Q := by
    intro m
    induction m with
    | zero =>
      intro i hm hi
      have ei : i = R := by omega
      subst ei
      exact u_X11_tightPrimal_6 f b _ _ ⟨by omega, fun q => main2 G 0 (by omega) (by omega), fun q => absurd (by rw [hR.2.2.2.1]; omega) q⟩
    | succ m ih =>
      intro i hm hi
      by_cases hiR : i = R
      · exact ih i (by omega) hi
      have em := x_mb (A := 20) (B := 162) (a := F 3 i) (b := b) (by have := hF.2.2.2.2.2.2.2 i (by omega) (by omega); omega) (by omega)
      have lt := hlt i
      have lt2 : 2 ^ i ≤ 2 ^ 7 := Nat.pow_le_pow_right (by omega) (by omega)
      have next := ih (i + 1) (by omega) (by omega)
      unfold x_set at next
      refine u_X11_tightPrimal_6 f b _ _ ⟨by omega, fun q => by rw [hR.2.2.2.1] at q; omega, fun q => ?_⟩
      refine c_rowSum hf hF hR (B := 1080) (by omega) hX (by omega) (by omega) ⟨_, rfl, by omega, by omega, ?_⟩
      rw [show 137 + 1 + 1 * f = 138 + f by omega, hR.2.2.2.2.2.2 i (by omega) (by omega), x_W_id (by omega) (by omega)]
      refine ⟨fun d => ?_, fun d => ?_⟩
      · have e1 : p_tgt F (M 148) b i = false := by
          unfold p_tgt
          rw [hRR, if_pos (by omega)]
          exact decide_eq_false d
        intro v hv v2 hv2
        rw [x_or0 (by omega)] at hv
        rw [x_w_id (by omega) (by omega)] at hv2
        subst hv hv2
        rw [e1] at next
        exact next
      · have e1 : p_tgt F (M 148) b i = true := by
          unfold p_tgt
          rw [hRR, if_pos (by omega)]
          exact decide_eq_true d
        intro v hv v2 hv2
        rw [x_or (by omega) lt] at hv
        rw [x_w_id (by omega) (by omega)] at hv2
        subst hv hv2
        rw [e1] at next
        exact next
  exact u_X11_tightPrimal_0 f b (main R 0 (by omega) (by omega))
end RP
