/-! The reference's prices -/
theorem p_gs_cg {F : xM} {Y Y' : Int → Int} (h : ∀ r, 0 ≤ r → r < F 0 3 → Y r = Y' r) (j : Int) : p_gs F Y j = p_gs F Y' j := by
  unfold p_gs
  exact x_sm_cg _ (fun r r1 r2 => by rw [h r r1 (by omega)])
theorem p_arep_cg {F : xM} {p q b : Int} {Y Y' : Int → Int} (h : ∀ r, 0 ≤ r → r < F 0 3 → Y r = Y' r) : p_arep F p q Y b ↔ p_arep F p q Y' b := by
  unfold p_arep
  constructor
  · intro ⟨a1, a2⟩
    exact ⟨fun r r1 r2 => by rw [← h r r1 r2]; exact a1 r r1 r2, fun j j1 j2 => by rw [← p_gs_cg h]; exact a2 j j1 j2⟩
  · intro ⟨a1, a2⟩
    exact ⟨fun r r1 r2 => by rw [h r r1 r2]; exact a1 r r1 r2, fun j j1 j2 => by rw [p_gs_cg h]; exact a2 j j1 j2⟩
theorem p_dtS_cg {F : xM} {p q b : Int} {Y Y' : Int → Int} (h : ∀ r, 0 ≤ r → r < F 0 3 → Y r = Y' r) : p_dtS F p q Y b = p_dtS F p q Y' b := by
  unfold p_dtS
  refine x_set_cg _ (fun i hi => ?_)
  unfold p_dtg
  by_cases c : (i : Int) < F 0 3
  · rw [if_pos c, if_pos c, h i (by omega) c]
  · rw [if_neg c, if_neg c, p_gs_cg h]
def p_rptab (M : xM) (F : xM) (p q : Int) (n : Nat) (S : Nat → Nat) : Prop := M 103 33 = n ∧ ∀ k : Nat, k < n → (∀ r, 0 ≤ r → r < F 0 3 → M (285 + (k : Int)) r = p_Y F p q (S k) r) ∧ M 325 k = p_b (p_C F (S k)) ∧ M 326 k = p_tau F p q (S k)
/-- the reference's term -/
def p_RT (M : xM) (p q : Int) : Prop := M 103 9 = p ∧ M 103 10 = q
section RD
variable {l : Launch} {E : xE} {Q : Option xV → xM → Prop}
theorem c_due {f : Int} (hf : 0 ≤ f ∧ f < 3) {M : xM} {F : xM} (hF : p_wf F) (hR : p_RF M f F) {p q : Int} (hpq : p_tm p q) (hT : p_RT M p q) {j : Int} (hj : 0 ≤ j ∧ j < 3) (h : Q (some (1, p_du F p q j)) M) : x_Ev l E (2, 0, 0) m_X11_due 0 [(21, 103), (0, f), (0, j)] [] M Q := by
  have b := p_du_bd hF hpq hj
  refine u_X11_due_0 f j ⟨by omega, by omega, c_Rtwice hf hR.1 ⟨_, rfl, c_Rmore hf hR.1 hR.2.1 ⟨_, rfl, by omega, by omega, ?_⟩⟩⟩
  have g0 := hR.2.2.2.2.1 0 j (by omega) (by omega) hj.1 hj.2
  have g1 := hR.2.2.2.2.1 1 j (by omega) (by omega) hj.1 hj.2
  rw [show (108 + 1 + 4 * f) + 1 + 1 * 0 = 110 + 4 * f + 0 by omega, g0, show (108 + 1 + 4 * f) + 1 + 1 * 1 = 110 + 4 * f + 1 by omega, g1, hT.1, hT.2, show 3 * 0 + j = j by omega, show 3 * 1 + j = 3 + j by omega, x_W_s1, x_W_s2, x_W_a1, x_W_a2]
  have e : x_W (F 1 j * q - x_W (p_tw F * p + p_ex F * q) * F 1 (3 + j)) = p_du F p q j := by
    rw [← x_W_s2, x_W_m1, x_W_s2]
    exact x_W_id (x := p_du F p q j) (by omega) (by omega)
  rw [e]; exact h
theorem c_goodSum {f : Int} (hf : 0 ≤ f ∧ f < 3) {M : xM} {F : xM} (hF : p_wf F) (hR : p_RF M f F) (hY : ∀ r, 0 ≤ r → r < F 0 3 → -61992000000 ≤ M 148 r ∧ M 148 r ≤ 61992000000) {j : Int} (hj : 0 ≤ j) (hj2 : j < F 0 2) (h : Q (some (1, p_gs F (M 148) j)) M) : x_Ev l E (1, 0, 0) m_X11_goodSum 0 [(21, 103), (0, f), (0, j), (5, 0), (5, 0), (5, 0)] [] M Q := by
  have hg := hF.2.2.1
  have hr := hF.2.2.2.1
  obtain ⟨R, hRR⟩ : ∃ R : Nat, F 0 3 = R := ⟨(F 0 3).toNat, by omega⟩
  have hb : ∀ i : Nat, i ≤ R → -(i * 185976000000 : Int) ≤ x_sm (fun r => M 148 r * F 2 (3 * r + j)) i ∧ x_sm (fun r => M 148 r * F 2 (3 * r + j)) i ≤ i * 185976000000 := by
    intro i hi
    refine x_sm_bd i (fun r r1 r2 => ?_)
    have := hF.2.2.2.2.2.1 (3 * r + j) (by omega) (by omega)
    exact x_mb (A := 61992000000) (B := 3) (hY r r1 (by omega)) (by omega)
  have main : ∀ (m i : Nat), R - i ≤ m → i ≤ R → x_Ev l E (1, 0, 0) m_X11_goodSum 5 [(21, 103), (0, f), (0, j), (1, x_sm (fun r => M 148 r * F 2 (3 * r + j)) i), (5, 0), (0, (i : Int))] [] M Q := by
    intro m
    induction m with
    | zero =>
      intro i hm hi
      have ei : i = R := by omega
      refine u_X11_goodSum_5 f j _ i ⟨by omega, fun _ => ?_, fun w => absurd (by rw [hR.2.2.2.1]; omega) w⟩
      unfold p_gs at h
      rw [hRR, Int.toNat_natCast, ← ei] at h
      exact h
    | succ m ih =>
      intro i hm hi
      by_cases e : i = R
      · exact ih i (by omega) hi
      refine u_X11_goodSum_5 f j _ i ⟨by omega, fun w => by rw [hR.2.2.2.1] at w; omega, fun w => ⟨by omega, by omega, by omega, by omega, ?_⟩⟩
      rw [show (121 + 1 + 5 * f) + 1 + 1 * (i : Int) = 123 + 5 * f + i by omega, hR.2.2.2.2.2.1 i j (by omega) (by omega) hj hj2]
      intro v hv v2 hv2
      rw [x_w_id (by omega) (by omega)] at hv2
      have b1 := hb (i + 1) (by omega)
      rw [x_W_a2] at hv
      have ev : v = x_sm (fun r => M 148 r * F 2 (3 * r + j)) (i + 1) := by
        rw [hv]
        exact x_W_id (x := x_sm (fun r => M 148 r * F 2 (3 * r + j)) (i + 1)) (by omega) (by omega)
      subst ev hv2
      exact ih (i + 1) (by omega) (by omega)
  exact u_X11_goodSum_0 f j (main R 0 (by omega) (by omega))
theorem p_dub {F : xM} (hF : p_wf F) {p q : Int} (hpq : p_tm p q) {b : Int} (hb : 0 < b ∧ b ≤ 162) {j : Int} (hj : 0 ≤ j ∧ j < 3) : -185976000000 ≤ p_du F p q j * b ∧ p_du F p q j * b ≤ 185976000000 := by
  have := p_du_bd hF hpq hj
  have := x_mb (a := p_du F p q j) (b := b) (A := 1148000000) (B := 162) (by omega) (by omega)
  omega
theorem c_arePrices {f : Int} (hf : 0 ≤ f ∧ f < 3) {M : xM} {F : xM} (hF : p_wf F) (hR : p_RF M f F) {p q : Int} (hpq : p_tm p q) (hT : p_RT M p q) (hY : ∀ r, 0 ≤ r → r < F 0 3 → -61992000000 ≤ M 148 r ∧ M 148 r ≤ 61992000000) {b : Int} (hb : 0 < b ∧ b ≤ 162) (h1 : p_arep F p q (M 148) b → Q (some (0, 1)) M) (h0 : ¬ p_arep F p q (M 148) b → Q (some (0, 0)) M) : x_Ev l E (3, 0, 0) m_X11_arePrices 0 [(21, 103), (0, f), (1, b), (5, 0), (5, 0)] [] M Q := by
  have hg := hF.2.2.1
  have hr := hF.2.2.2.1
  have main2 : (∀ r, 0 ≤ r → r < F 0 3 → 0 ≤ M 148 r) → ∀ (m : Nat) (j : Int), F 0 2 - j ≤ m → 0 ≤ j → j ≤ F 0 2 → (∀ i, 0 ≤ i → i < j → p_du F p q i * b ≤ p_gs F (M 148) i) → x_Ev l E (3, 0, 0) m_X11_arePrices 37 [(21, 103), (0, f), (1, b), (5, 0), (0, j)] [] M Q := by
    intro hpos m
    induction m with
    | zero =>
      intro j hm hj hj2 hx
      exact u_X11_arePrices_37 f b j ⟨by omega, fun _ => h1 ⟨hpos, fun i a c => hx i a (by omega)⟩, fun w => absurd (by rw [hR.2.2.1]; omega) w⟩
    | succ m ih =>
      intro j hm hj hj2 hx
      by_cases e : j = F 0 2
      · exact ih j (by omega) hj hj2 hx
      have db := p_dub hF hpq hb (j := j) (by omega)
      refine u_X11_arePrices_37 f b j ⟨by omega, fun w => by rw [hR.2.2.1] at w; omega, fun w => ?_⟩
      refine c_goodSum hf hF hR hY hj (by omega) ⟨_, rfl, c_due hf hF hR hpq hT (by omega) ⟨_, rfl, ?_⟩⟩
      rw [x_W_id (by omega) (by omega)]
      refine ⟨fun d => ?_, fun d => h0 (fun w => d (w.2 j hj (by omega)))⟩
      intro v hv
      rw [x_w_id (by omega) (by omega)] at hv
      subst hv
      refine ih (j + 1) (by omega) (by omega) (by omega) (fun i a c => ?_)
      by_cases e2 : i = j
      · rw [e2]; exact d
      · exact hx i a (by omega)
  have main : ∀ (m : Nat) (r : Int), F 0 3 - r ≤ m → 0 ≤ r → r ≤ F 0 3 → (∀ i, 0 ≤ i → i < r → 0 ≤ M 148 i) → x_Ev l E (3, 0, 0) m_X11_arePrices 3 [(21, 103), (0, f), (1, b), (5, 0), (0, r)] [] M Q := by
    intro m
    induction m with
    | zero =>
      intro r hm hr1 hr2 hx
      exact u_X11_arePrices_3 f b r ⟨by omega, fun _ => main2 (fun i a c => hx i a (by omega)) 3 0 (by omega) (by omega) (by omega) (fun i a c => by omega), fun w => absurd (by rw [hR.2.2.2.1]; omega) w⟩
    | succ m ih =>
      intro r hm hr1 hr2 hx
      by_cases e : r = F 0 3
      · exact ih r (by omega) hr1 hr2 hx
      refine u_X11_arePrices_3 f b r ⟨by omega, fun w => by rw [hR.2.2.2.1] at w; omega, fun w => ⟨by omega, fun d => ?_, fun d => h0 (fun w => d (w.1 r hr1 (by omega)))⟩⟩
      intro v hv
      rw [x_w_id (by omega) (by omega)] at hv
      subst hv
      refine ih (r + 1) (by omega) (by omega) (by omega) (fun i a c => ?_)
      by_cases e2 : i = r
      · rw [e2]; exact d
      · exact hx i a (by omega)
  exact u_X11_arePrices_0 f b (main 4 0 (by omega) (by omega) (by omega) (fun i a c => by omega))
theorem c_tightDual {f : Int} (hf : 0 ≤ f ∧ f < 3) {M : xM} {F : xM} (hF : p_wf F) (hR : p_RF M f F) {p q : Int} (hpq : p_tm p q) (hT : p_RT M p q) (hY : ∀ r, 0 ≤ r → r < F 0 3 → -61992000000 ≤ M 148 r ∧ M 148 r ≤ 61992000000) {b : Int} (hb : 0 < b ∧ b ≤ 162) (h : Q (some (0, (p_dtS F p q (M 148) b : Int))) M) : x_Ev l E (3, 0, 0) m_X11_tightDual 0 [(21, 103), (0, f), (1, b), (5, 0), (5, 0), (5, 0)] [] M Q := by
  have hg := hF.2.2.1
  have hr := hF.2.2.2.1
  obtain ⟨G, hG⟩ : ∃ G : Nat, F 0 2 = G := ⟨(F 0 2).toNat, by omega⟩
  obtain ⟨R, hRR⟩ : ∃ R : Nat, F 0 3 = R := ⟨(F 0 3).toNat, by omega⟩
  have hlt := x_set_lt (p_dtg F p q (M 148) b)
  have main2 : ∀ (m j : Nat), G - j ≤ m → j ≤ G → x_Ev l E (3, 0, 0) m_X11_tightDual 51 [(21, 103), (0, f), (1, b), (5, 0), (0, (x_set (p_dtg F p q (M 148) b) (R + j) : Int)), (0, (j : Int))] [] M Q := by
    intro m
    induction m with
    | zero =>
      intro j hm hj
      have ej : j = G := by omega
      refine u_X11_tightDual_51 f b _ j ⟨by omega, fun _ => ?_, fun w => absurd (by rw [hR.2.2.1]; omega) w⟩
      unfold p_dtS p_pr at h
      rw [hG, hRR, show ((R : Int) + (G : Int)).toNat = R + j by omega] at h
      exact h
    | succ m ih =>
      intro j hm hj
      by_cases hjG : j = G
      · exact ih j (by omega) hj
      have db := p_dub hF hpq hb (j := (j : Int)) (by omega)
      have lt := hlt (R + j)
      have lt2 : 2 ^ (R + j) ≤ 2 ^ 7 := Nat.pow_le_pow_right (by omega) (by omega)
      have next := ih (j + 1) (by omega) (by omega)
      rw [show R + (j + 1) = R + j + 1 by omega] at next
      refine u_X11_tightDual_51 f b _ j ⟨by omega, fun w => by rw [hR.2.2.1] at w; omega, fun w => ?_⟩
      refine c_goodSum hf hF hR hY (by omega) (by omega) ⟨_, rfl, c_due hf hF hR hpq hT (by omega) ⟨_, rfl, ?_⟩⟩
      rw [x_W_id (by omega) (by omega)]
      refine ⟨fun d => ?_, fun d => ⟨by omega, ?_⟩⟩
      · have e1 : p_dtg F p q (M 148) b (R + j) = false := by
          unfold p_dtg
          rw [hRR, if_neg (by omega), show ((R + j : Nat) : Int) - R = j by omega]
          exact decide_eq_false d
        intro v hv v2 hv2
        rw [x_or0 (by omega)] at hv
        rw [x_w_id (by omega) (by omega)] at hv2
        subst hv hv2
        rw [x_set_f e1] at next
        exact next
      · have e1 : p_dtg F p q (M 148) b (R + j) = true := by
          unfold p_dtg
          rw [hRR, if_neg (by omega), show ((R + j : Nat) : Int) - R = j by omega]
          exact decide_eq_true d
        intro v hv v2 hv2
        rw [hR.2.2.2.1, hRR, x_w_id (by omega) (by omega), show (R : Int) + (j : Int) = ((R + j : Nat) : Int) by omega, x_or (by omega) lt] at hv
        rw [x_w_id (by omega) (by omega)] at hv2
        subst hv hv2
        rw [x_set_t e1] at next
        exact next
  have main : ∀ (m i : Nat), R - i ≤ m → i ≤ R → x_Ev l E (3, 0, 0) m_X11_tightDual 6 [(21, 103), (0, f), (1, b), (5, 0), (0, (x_set (p_dtg F p q (M 148) b) i : Int)), (0, (i : Int))] [] M Q := by
    intro m
    induction m with
    | zero =>
      intro i hm hi
      have ei : i = R := by omega
      subst ei
      exact u_X11_tightDual_6 f b _ _ ⟨by omega, fun _ => main2 G 0 (by omega) (by omega), fun w => absurd (by rw [hR.2.2.2.1]; omega) w⟩
    | succ m ih =>
      intro i hm hi
      by_cases hiR : i = R
      · exact ih i (by omega) hi
      have lt := hlt i
      have lt2 : 2 ^ i ≤ 2 ^ 7 := Nat.pow_le_pow_right (by omega) (by omega)
      have next := ih (i + 1) (by omega) (by omega)
      refine u_X11_tightDual_6 f b _ _ ⟨by omega, fun w => by rw [hR.2.2.2.1] at w; omega, fun w => ⟨by omega, fun d => ?_, fun d => ?_⟩⟩
      · have e1 : p_dtg F p q (M 148) b i = false := by
          unfold p_dtg
          rw [hRR, if_pos (by omega)]
          exact decide_eq_false d
        intro v hv v2 hv2
        rw [x_or0 (by omega)] at hv
        rw [x_w_id (by omega) (by omega)] at hv2
        subst hv hv2
        rw [x_set_f e1] at next
        exact next
      · have e1 : p_dtg F p q (M 148) b i = true := by
          unfold p_dtg
          rw [hRR, if_pos (by omega)]
          exact decide_eq_true d
        intro v hv v2 hv2
        rw [x_or (by omega) lt] at hv
        rw [x_w_id (by omega) (by omega)] at hv2
        subst hv hv2
        rw [x_set_t e1] at next
        exact next
  exact u_X11_tightDual_0 f b (main R 0 (by omega) (by omega))
theorem c_solves0 {M0 : xM} {C : Int → Int → Int} {n : Nat} (hn : n ≤ 4) (hsz : M0 103 17 = n) (hC : ∀ i j : Nat, i < n → j < n → M0 (143 + i) j = C i j) (hd : p_det C n = 0) (h : Q (some (1, 0)) M0) : x_Ev l E (8, 0, 0) m_X11_solves 0 [(21, 103), (5, 0), (5, 0), (5, 0)] [] M0 Q := by
  refine u_X11_solves_0 (c_det0 hn hsz hC ⟨_, rfl, ?_⟩)
  rw [hd]
  exact ⟨fun q => absurd (by decide) q, fun _ => h⟩
end RD
