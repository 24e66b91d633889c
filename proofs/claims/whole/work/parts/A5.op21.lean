/-! image, back: reference -/
noncomputable def p_cp (M : xM) (l0 l1 c i j : Int) : xM := fun a k => p_if ((l1 + 1 ≤ a ∧ 0 ≤ k ∧ k < c) ∧ (a < l1 + 1 + i ∨ (a = l1 + 1 + i ∧ k < j))) (M (a - l1 + l0) k) (M a k)
section P21
variable {l : Launch} {E : xE} {Q : Option xV → xM → Prop} {A M : xM}
theorem p_cp_0 {l0 l1 c : Int} : p_cp M l0 l1 c 0 0 = M := by
  funext a k
  unfold p_cp
  rw [p_if_f (by omega)]
theorem p_cp_n {l0 l1 c i : Int} : p_cp M l0 l1 c i c = p_cp M l0 l1 c (i + 1) 0 := by
  funext a k
  unfold p_cp
  by_cases h : (l1 + 1 ≤ a ∧ 0 ≤ k ∧ k < c) ∧ (a < l1 + 1 + i ∨ (a = l1 + 1 + i ∧ k < c))
  · rw [p_if_t h, p_if_t (by omega)]
  · rw [p_if_f h, p_if_f (by omega)]
theorem p_cp_s {l0 l1 c R i j : Int} (hd : l0 + R ≤ l1 ∨ l1 + R ≤ l0) (hi : 0 ≤ i ∧ i < R) (hj : 0 ≤ j ∧ j < c) : x_wr (p_cp M l0 l1 c i j) (l1 + 1 + 1 * i) j (p_cp M l0 l1 c i j (l0 + 1 + 1 * i) j) = p_cp M l0 l1 c i (j + 1) := by
  funext a k
  by_cases h : a = l1 + 1 + 1 * i ∧ k = j
  · rw [h.1, h.2, x_wr_eq]
    unfold p_cp
    rw [p_if_f (by omega), p_if_t (by omega), show l1 + 1 + 1 * i - l1 + l0 = l0 + 1 + 1 * i by omega]
  · rw [x_wr_ne _ _ h]
    unfold p_cp
    by_cases h2 : (l1 + 1 ≤ a ∧ 0 ≤ k ∧ k < c) ∧ (a < l1 + 1 + i ∨ (a = l1 + 1 + i ∧ k < j))
    · rw [p_if_t h2, p_if_t (by omega)]
    · rw [p_if_f h2, p_if_f (by omega)]
theorem p_cp_in {l0 l1 c R i k : Int} (hi : 0 ≤ i ∧ i < R) (hk : 0 ≤ k ∧ k < c) : p_cp M l0 l1 c R 0 (l1 + 1 + i) k = M (l0 + 1 + i) k := by
  unfold p_cp
  rw [p_if_t (by omega), show l1 + 1 + i - l1 + l0 = l0 + 1 + i by omega]
theorem p_cp_o {l0 l1 c R a k : Int} (h : ¬ (l1 + 1 ≤ a ∧ a < l1 + 1 + R)) : p_cp M l0 l1 c R 0 a k = M a k := by
  unfold p_cp
  rw [p_if_f (by omega)]
theorem c_cop124 {l0 l1 : Int} (hd : l0 + 3 ≤ l1 ∨ l1 + 3 ≤ l0) (h : Q none (p_cp M l0 l1 4 3 0)) : x_Ev l E (1, 0, 0) m_X11_copies 0 [(124, l0), (124, l1), (5, 0), (5, 0)] [] M Q := by
  have inner : ∀ (m : Nat) (i j : Int), 4 - j ≤ m → 0 ≤ i → i < 3 → 0 ≤ j → j ≤ 4 → x_Ev l E (1, 0, 0) m_X11_copies 2 [(124, l0), (124, l1), (0, i + 1), (5, 0)] [] (p_cp M l0 l1 4 (i + 1) 0) Q → x_Ev l E (1, 0, 0) m_X11_copies 10 [(124, l0), (124, l1), (0, i), (0, j)] [] (p_cp M l0 l1 4 i j) Q := by
    intro m
    induction m with
    | zero =>
      intro i j hm i0 i1 j0 j1 K
      have ej : j = 4 := by omega
      refine u_X11_copies_10 l0 l1 i j ⟨by omega, fun _ v hv => ?_, fun z => by omega⟩
      rw [x_w_id (by omega) (by omega)] at hv
      rw [hv, ej, p_cp_n]; exact K
    | succ m ih =>
      intro i j hm i0 i1 j0 j1 K
      by_cases ej : j = 4
      · exact ih i j (by omega) i0 i1 j0 j1 K
      refine u_X11_copies_10 l0 l1 i j ⟨by omega, fun z => by omega, fun z => ⟨by omega, by omega, by omega, by omega, fun M2 h2 v hv => ?_⟩⟩
      rw [x_w_id (by omega) (by omega)] at hv
      rw [hv, h2, p_cp_s hd ⟨i0, i1⟩ (by omega)]
      exact ih i (j + 1) (by omega) i0 i1 (by omega) (by omega) K
  have outer : ∀ (m : Nat) (i : Int), 3 - i ≤ m → 0 ≤ i → i ≤ 3 → x_Ev l E (1, 0, 0) m_X11_copies 2 [(124, l0), (124, l1), (0, i), (5, 0)] [] (p_cp M l0 l1 4 i 0) Q := by
    intro m
    induction m with
    | zero =>
      intro i hm i0 i1
      have ei : i = 3 := by omega
      refine u_X11_copies_2 l0 l1 i ⟨fun _ => ?_, fun z => by omega⟩
      rw [ei]; exact h
    | succ m ih =>
      intro i hm i0 i1
      by_cases ei : i = 3
      · exact ih i (by omega) i0 i1
      refine u_X11_copies_2 l0 l1 i ⟨fun z => by omega, fun z => ?_⟩
      exact inner 4 i 0 (by omega) i0 (by omega) (by omega) (by omega) (ih (i + 1) (by omega) (by omega) (by omega))
  have := outer 3 0 (by omega) (by omega) (by omega)
  rw [p_cp_0] at this
  exact u_X11_copies_0 l0 l1 this
theorem c_cop120 {l0 l1 : Int} (hd : l0 + 3 ≤ l1 ∨ l1 + 3 ≤ l0) (h : Q none (p_cp M l0 l1 3 3 0)) : x_Ev l E (1, 0, 0) m_X11_copies 0 [(120, l0), (120, l1), (5, 0), (5, 0)] [] M Q := by
  have inner : ∀ (m : Nat) (i j : Int), 3 - j ≤ m → 0 ≤ i → i < 3 → 0 ≤ j → j ≤ 3 → x_Ev l E (1, 0, 0) m_X11_copies 2 [(120, l0), (120, l1), (0, i + 1), (5, 0)] [] (p_cp M l0 l1 3 (i + 1) 0) Q → x_Ev l E (1, 0, 0) m_X11_copies 10 [(120, l0), (120, l1), (0, i), (0, j)] [] (p_cp M l0 l1 3 i j) Q := by
    intro m
    induction m with
    | zero =>
      intro i j hm i0 i1 j0 j1 K
      have ej : j = 3 := by omega
      refine u_X11_copies_10_v2 l0 l1 i j ⟨by omega, fun _ v hv => ?_, fun z => by omega⟩
      rw [x_w_id (by omega) (by omega)] at hv
      rw [hv, ej, p_cp_n]; exact K
    | succ m ih =>
      intro i j hm i0 i1 j0 j1 K
      by_cases ej : j = 3
      · exact ih i j (by omega) i0 i1 j0 j1 K
      refine u_X11_copies_10_v2 l0 l1 i j ⟨by omega, fun z => by omega, fun z => ⟨by omega, by omega, by omega, by omega, fun M2 h2 v hv => ?_⟩⟩
      rw [x_w_id (by omega) (by omega)] at hv
      rw [hv, h2, p_cp_s hd ⟨i0, i1⟩ (by omega)]
      exact ih i (j + 1) (by omega) i0 i1 (by omega) (by omega) K
  have outer : ∀ (m : Nat) (i : Int), 3 - i ≤ m → 0 ≤ i → i ≤ 3 → x_Ev l E (1, 0, 0) m_X11_copies 2 [(120, l0), (120, l1), (0, i), (5, 0)] [] (p_cp M l0 l1 3 i 0) Q := by
    intro m
    induction m with
    | zero =>
      intro i hm i0 i1
      have ei : i = 3 := by omega
      refine u_X11_copies_2_v2 l0 l1 i ⟨fun _ => ?_, fun z => by omega⟩
      rw [ei]; exact h
    | succ m ih =>
      intro i hm i0 i1
      by_cases ei : i = 3
      · exact ih i (by omega) i0 i1
      refine u_X11_copies_2_v2 l0 l1 i ⟨fun z => by omega, fun z => ?_⟩
      exact inner 3 i 0 (by omega) i0 (by omega) (by omega) (by omega) (ih (i + 1) (by omega) (by omega) (by omega))
  have := outer 3 0 (by omega) (by omega) (by omega)
  rw [p_cp_0] at this
  exact u_X11_copies_0_v2 l0 l1 this
theorem c_cop122 {l0 l1 : Int} (hd : l0 + 4 ≤ l1 ∨ l1 + 4 ≤ l0) (h : Q none (p_cp M l0 l1 3 4 0)) : x_Ev l E (1, 0, 0) m_X11_copies 0 [(122, l0), (122, l1), (5, 0), (5, 0)] [] M Q := by
  have inner : ∀ (m : Nat) (i j : Int), 3 - j ≤ m → 0 ≤ i → i < 4 → 0 ≤ j → j ≤ 3 → x_Ev l E (1, 0, 0) m_X11_copies 2 [(122, l0), (122, l1), (0, i + 1), (5, 0)] [] (p_cp M l0 l1 3 (i + 1) 0) Q → x_Ev l E (1, 0, 0) m_X11_copies 10 [(122, l0), (122, l1), (0, i), (0, j)] [] (p_cp M l0 l1 3 i j) Q := by
    intro m
    induction m with
    | zero =>
      intro i j hm i0 i1 j0 j1 K
      have ej : j = 3 := by omega
      refine u_X11_copies_10_v3 l0 l1 i j ⟨by omega, fun _ v hv => ?_, fun z => by omega⟩
      rw [x_w_id (by omega) (by omega)] at hv
      rw [hv, ej, p_cp_n]; exact K
    | succ m ih =>
      intro i j hm i0 i1 j0 j1 K
      by_cases ej : j = 3
      · exact ih i j (by omega) i0 i1 j0 j1 K
      refine u_X11_copies_10_v3 l0 l1 i j ⟨by omega, fun z => by omega, fun z => ⟨by omega, by omega, by omega, by omega, fun M2 h2 v hv => ?_⟩⟩
      rw [x_w_id (by omega) (by omega)] at hv
      rw [hv, h2, p_cp_s hd ⟨i0, i1⟩ (by omega)]
      exact ih i (j + 1) (by omega) i0 i1 (by omega) (by omega) K
  have outer : ∀ (m : Nat) (i : Int), 4 - i ≤ m → 0 ≤ i → i ≤ 4 → x_Ev l E (1, 0, 0) m_X11_copies 2 [(122, l0), (122, l1), (0, i), (5, 0)] [] (p_cp M l0 l1 3 i 0) Q := by
    intro m
    induction m with
    | zero =>
      intro i hm i0 i1
      have ei : i = 4 := by omega
      refine u_X11_copies_2_v3 l0 l1 i ⟨fun _ => ?_, fun z => by omega⟩
      rw [ei]; exact h
    | succ m ih =>
      intro i hm i0 i1
      by_cases ei : i = 4
      · exact ih i (by omega) i0 i1
      refine u_X11_copies_2_v3 l0 l1 i ⟨fun z => by omega, fun z => ?_⟩
      exact inner 3 i 0 (by omega) i0 (by omega) (by omega) (by omega) (ih (i + 1) (by omega) (by omega) (by omega))
  have := outer 4 0 (by omega) (by omega) (by omega)
  rw [p_cp_0] at this
  exact u_X11_copies_0_v3 l0 l1 this
theorem p_RI_k {A' M1 : xM} (hA : p_WF A) (hR : p_RI A M) (hA' : ∀ a k, ¬ (21 ≤ a ∧ a ≤ 35) → ¬ (a = 5 ∧ k = 2) → A' a k = A a k) (hM : ∀ a k, ¬ (a = 103 ∧ (k = 51 ∨ k = 52)) → ¬ (556 ≤ a ∧ a < 593) → M1 a k = M a k) (e : M1 103 51 = A' 5 2) (K : p_KI A' M1) : p_RI A' M1 := by
  have w0 := hA.1.1
  have wp := hA.2.2.2.1
  obtain ⟨⟨a0, a1, a2, a3, a4, a5, a6⟩, q2, q3, ⟨q4, q5⟩, q6, q7, q8, q9⟩ := hR
  refine ⟨⟨?_, ?_, ?_, ?_, ?_, ?_, ?_⟩, fun f hf => ?_, fun i i1 i2 => ?_, ⟨?_, fun i d i1 i2 d1 d2 => ?_⟩, fun s s1 s2 => ?_, fun i i1 i2 => ?_, e, fun _ => K⟩
  · rw [hA' _ _ (by omega) (by omega), hM _ _ (by omega) (by omega)]; exact a0
  · rw [hA' _ _ (by omega) (by omega), hM _ _ (by omega) (by omega)]; exact a1
  · rw [hA' _ _ (by omega) (by omega), hM _ _ (by omega) (by omega)]; exact a2
  · rw [hA' _ _ (by omega) (by omega), hM _ _ (by omega) (by omega)]; exact a3
  · rw [hA' _ _ (by omega) (by omega), hM _ _ (by omega) (by omega)]; exact a4
  · rw [hA' _ _ (by omega) (by omega), hM _ _ (by omega) (by omega)]; exact a5
  · rw [hA' _ _ (by omega) (by omega), hM _ _ (by omega) (by omega)]; exact a6
  · rw [hA' 6 0 (by omega) (by omega)] at hf
    rw [p_Fs_cg (A := A) (A' := A') (fun b b1 b2 => by funext j; exact hA' b j (by omega) (by omega)) (by omega)]
    exact p_RF_fr (by omega) (hA.1.2.2.2.2.2.2.2 f hf) (q2 f hf) (fun a b1 b2 => by funext k; exact hM a k (by omega) (by omega))
  · rw [hM _ _ (by omega) (by omega), hA' _ _ (by omega) (by omega)]; exact q3 i i1 i2
  · rw [hM _ _ (by omega) (by omega), hA' _ _ (by omega) (by omega)]; exact q4
  · rw [hA' 5 12 (by omega) (by omega)] at i2
    rw [hM _ _ (by omega) (by omega), hA' _ _ (by omega) (by omega)]; exact q5 i d i1 i2 d1 d2
  · obtain ⟨b1, b2, b3⟩ := q6 s s1 s2
    rw [hM _ _ (by omega) (by omega), hM _ _ (by omega) (by omega), hA' _ _ (by omega) (by omega), hA' _ _ (by omega) (by omega)]
    refine ⟨b1, b2, fun i i1 i2 => ?_⟩
    rw [hM _ _ (by omega) (by omega), hA' _ _ (by omega) (by omega)]; exact b3 i i1 i2
  · rw [hM _ _ (by omega) (by omega), hM _ _ (by omega) (by omega), hM _ _ (by omega) (by omega), hA' _ _ (by omega) (by omega), hA' _ _ (by omega) (by omega), hA' _ _ (by omega) (by omega)]
    exact q7 i i1 i2
theorem p_RI_b {A' M1 : xM} (hA : p_WF A) (hR : p_RI A M) (hA' : ∀ a k, ¬ (6 ≤ a ∧ a ≤ 20) → A' a k = A a k) (hM : ∀ a k, ¬ (a = 103 ∧ (k = 0 ∨ (8 ≤ k ∧ k ≤ 13))) → ¬ (104 ≤ a ∧ a ≤ 140) → M1 a k = M a k) (e : M1 103 0 = A' 6 0 ∧ M1 103 8 = A' 6 1 ∧ M1 103 9 = A' 7 0 ∧ M1 103 10 = A' 7 1 ∧ M1 103 11 = A' 6 4 ∧ M1 103 12 = A' 6 2 ∧ M1 103 13 = A' 6 3) (F : ∀ f : Nat, (f : Int) < A' 6 0 → p_RF M1 f (p_Fs A' f)) : p_RI A' M1 := by
  have w0 := hA.1.1
  have wp := hA.2.2.2.1
  obtain ⟨-, q2, q3, ⟨q4, q5⟩, q6, q7, q8, q9⟩ := hR
  refine ⟨e, F, fun i i1 i2 => ?_, ⟨?_, fun i d i1 i2 d1 d2 => ?_⟩, fun s s1 s2 => ?_, fun i i1 i2 => ?_, ?_, fun w => ?_⟩
  · rw [hM _ _ (by omega) (by omega), hA' _ _ (by omega)]; exact q3 i i1 i2
  · rw [hM _ _ (by omega) (by omega), hA' _ _ (by omega)]; exact q4
  · rw [hA' 5 12 (by omega)] at i2
    rw [hM _ _ (by omega) (by omega), hA' _ _ (by omega)]; exact q5 i d i1 i2 d1 d2
  · obtain ⟨b1, b2, b3⟩ := q6 s s1 s2
    rw [hM _ _ (by omega) (by omega), hM _ _ (by omega) (by omega), hA' _ _ (by omega), hA' _ _ (by omega)]
    refine ⟨b1, b2, fun i i1 i2 => ?_⟩
    rw [hM _ _ (by omega) (by omega), hA' _ _ (by omega)]; exact b3 i i1 i2
  · rw [hM _ _ (by omega) (by omega), hM _ _ (by omega) (by omega), hM _ _ (by omega) (by omega), hA' _ _ (by omega), hA' _ _ (by omega), hA' _ _ (by omega)]
    exact q7 i i1 i2
  · rw [hM _ _ (by omega) (by omega), hA' _ _ (by omega)]; exact q8
  · rw [hA' _ _ (by omega)] at w
    exact p_KI_fr hA (q9 w) (fun c c1 c2 => by funext d; exact hA' c d (by omega)) (fun e f w => hM e f (by omega) (by omega))
def p_cI (M' M : xM) (g : Int) : Prop := M' (556 + g) 0 = M 104 g ∧ M' (556 + g) 1 = M 105 g ∧ M' (556 + g) 2 = M 106 g ∧ M' (556 + g) 3 = M 107 g ∧ (∀ w k, 0 ≤ w → w < 3 → 0 ≤ k → k < 3 → M' (561 + 4 * g + w) k = M (110 + 4 * g + w) k) ∧ ∀ i j, 0 ≤ i → i < 4 → 0 ≤ j → j < 3 → M' (574 + 5 * g + i) j = M (123 + 5 * g + i) j
theorem r_image (hA : p_WF A) (hR : p_RI A M) (h : ∀ M1, p_RI (o_image A).2 M1 → p_rfr M M1 → Q (some (0, (o_image A).1)) M1) : x_Ev l E (2, 0, 0) m_X11_image 0 [(21, 103), (5, 0)] [] M Q := by
  have w0 := hA.1.1
  refine u_X11_image_0 (fun M1 h1 M2 h2 => ?_)
  have f2 : ∀ a k, ¬ (a = 103 ∧ (k = 51 ∨ k = 52)) → M2 a k = M a k := fun a k q => by rw [h2, x_wr_ne _ _ (by omega), h1, x_wr_ne _ _ (by omega)]
  have f51 : M2 103 51 = 1 := by rw [h2, x_wr_ne _ _ (by omega), h1, x_wr_eq]
  have f52 : M2 103 52 = M 103 0 := by rw [h2, x_wr_eq, h1, x_wr_ne _ _ (by omega)]
  have main : ∀ (m : Nat) (f : Int) (M' : xM), 3 - f ≤ m → 0 ≤ f → f ≤ 3 → (∀ a k, ¬ (556 ≤ a ∧ a ≤ 587) → M' a k = M2 a k) → (∀ g, 0 ≤ g → g < f → p_cI M' M g) → x_Ev l E (2, 0, 0) m_X11_image 15 [(21, 103), (0, f)] [] M' Q := by
    intro m
    induction m with
    | zero =>
      intro f M' hm f0 f1 fr T
      have ef : f = 3 := by omega
      refine u_X11_image_15 f ⟨fun _ => c_cop124 (by omega) ⟨rfl, fun N2 e2 N3 e3 N4 e4 N5 e5 N6 e6 N7 e7 => ?_⟩, fun z => by omega⟩
      have g7 : ∀ a k, a ≠ 592 → N7 a k = p_cp M' 137 588 4 3 0 a k := fun a k q => by rw [e7, x_wr_ne _ _ (by omega), e6, x_wr_ne _ _ (by omega), e5, x_wr_ne _ _ (by omega), e4, x_wr_ne _ _ (by omega), e3, x_wr_ne _ _ (by omega), e2, x_wr_ne _ _ (by omega)]
      have g8 : ∀ a k, ¬ (556 ≤ a ∧ a < 593) → N7 a k = M2 a k := fun a k q => by rw [g7 a k (by omega), p_cp_o (by omega)]; exact fr a k (by omega)
      have g9 : ∀ a k, 556 ≤ a → a ≤ 587 → N7 a k = M' a k := fun a k q1 q2 => by rw [g7 a k (by omega), p_cp_o (by omega)]
      have gr : ∀ i k, 0 ≤ i → i < 3 → 0 ≤ k → k < 4 → N7 (589 + i) k = M (138 + i) k := fun i k i1 i2 k1 k2 => by
        have t := p_cp_in (M := M') (l0 := 137) (l1 := 588) (c := 4) (R := 3) (i := i) (k := k) (by omega) (by omega)
        rw [g7 _ _ (by omega), show (589 : Int) + i = 588 + 1 + i by omega, t, fr _ _ (by omega), f2 _ _ (by omega), show (137 : Int) + 1 + i = 138 + i by omega]
      have v0 : N7 592 0 = M 103 8 := by rw [e7, x_wr_ne _ _ (by omega), e6, x_wr_ne _ _ (by omega), e5, x_wr_ne _ _ (by omega), e4, x_wr_ne _ _ (by omega), e3, x_wr_ne _ _ (by omega), e2, x_wr_eq, p_cp_o (by omega), fr _ _ (by omega), f2 _ _ (by omega)]
      have v1 : N7 592 1 = M 103 9 := by rw [e7, x_wr_ne _ _ (by omega), e6, x_wr_ne _ _ (by omega), e5, x_wr_ne _ _ (by omega), e4, x_wr_ne _ _ (by omega), e3, x_wr_eq, e2, x_wr_ne _ _ (by omega), p_cp_o (by omega), fr _ _ (by omega), f2 _ _ (by omega)]
      have v2 : N7 592 2 = M 103 10 := by rw [e7, x_wr_ne _ _ (by omega), e6, x_wr_ne _ _ (by omega), e5, x_wr_ne _ _ (by omega), e4, x_wr_eq, e3, x_wr_ne _ _ (by omega), e2, x_wr_ne _ _ (by omega), p_cp_o (by omega), fr _ _ (by omega), f2 _ _ (by omega)]
      have v3 : N7 592 3 = M 103 11 := by rw [e7, x_wr_ne _ _ (by omega), e6, x_wr_ne _ _ (by omega), e5, x_wr_eq, e4, x_wr_ne _ _ (by omega), e3, x_wr_ne _ _ (by omega), e2, x_wr_ne _ _ (by omega), p_cp_o (by omega), fr _ _ (by omega), f2 _ _ (by omega)]
      have v4 : N7 592 4 = M 103 12 := by rw [e7, x_wr_ne _ _ (by omega), e6, x_wr_eq, e5, x_wr_ne _ _ (by omega), e4, x_wr_ne _ _ (by omega), e3, x_wr_ne _ _ (by omega), e2, x_wr_ne _ _ (by omega), p_cp_o (by omega), fr _ _ (by omega), f2 _ _ (by omega)]
      have v5 : N7 592 5 = M 103 13 := by rw [e7, x_wr_eq, e6, x_wr_ne _ _ (by omega), e5, x_wr_ne _ _ (by omega), e4, x_wr_ne _ _ (by omega), e3, x_wr_ne _ _ (by omega), e2, x_wr_ne _ _ (by omega), p_cp_o (by omega), fr _ _ (by omega), f2 _ _ (by omega)]
      have hR0 := hR
      obtain ⟨⟨a0, a1, a2, a3, a4, a5, a6⟩, q2, -⟩ := hR
      have i0 : p_img A 21 0 = A 6 0 := by unfold p_img; rw [x_wr_ne _ _ (by omega)]; exact p_tak_0 (by omega)
      have i1 : ∀ k, 0 ≤ k → k ≤ 4 → p_img A 21 k = A 6 k := fun k k1 k2 => by unfold p_img; rw [x_wr_ne _ _ (by omega)]; exact p_tak_0 ⟨k1, k2⟩
      have i2 : ∀ k, k = 0 ∨ k = 1 → p_img A 22 k = A 7 k := fun k q => by unfold p_img; rw [x_wr_ne _ _ (by omega)]; exact p_tak_1 (o := 21) (q := 6) q
      refine h N7 (p_RI_k (A' := p_img A) hA hR0 (fun a k q1 q2 => ?_) (fun a k q1 q2 => ?_) ?_ ⟨?_, ?_, ?_, ?_, ?_, ?_, ?_, fun g hg => ?_⟩) ?_
      · unfold p_img
        rw [x_wr_ne _ _ q2, p_tak_o (by omega) (by omega)]
      · rw [g8 a k q2]; exact f2 a k q1
      · rw [g8 _ _ (by omega), f51]; unfold p_img; rw [x_wr_eq]
      · rw [g8 _ _ (by omega), f52, i0]; exact a0
      · rw [v0, i1 _ (by omega) (by omega)]; exact a1
      · rw [v1, i2 _ (by omega)]; exact a2
      · rw [v2, i2 _ (by omega)]; exact a3
      · rw [v3, i1 _ (by omega) (by omega)]; exact a4
      · rw [v4, i1 _ (by omega) (by omega)]; exact a5
      · rw [v5, i1 _ (by omega) (by omega)]; exact a6
      · rw [i0] at hg
        obtain ⟨r0, r1, r2, r3, r4, r5, r6⟩ := q2 g hg
        obtain ⟨t0, t1, t2, t3, t4, t5⟩ := T g (by omega) (by omega)
        have wf : p_wf (p_Fs A g) := hA.1.2.2.2.2.2.2.2 g hg
        have hg2 := wf.2.2.1
        have hr2 := wf.2.2.2.1
        have ir : ∀ j k, p_ir j k → x_F (p_img A) (24 + 4 * (g : Int)) j k = p_Fs A g j k := fun j k q => by
          have t := p_tak_F (A := A) (n := A 6 0) (o := 21) (q := 6) (f := g) (by omega) j k q
          rw [show (21 : Int) + 3 + 4 * (g : Int) = 24 + 4 * (g : Int) by omega, show (6 : Int) + 3 + 4 * (g : Int) = 9 + 4 * (g : Int) by omega] at t
          rw [show x_F (p_img A) (24 + 4 * (g : Int)) = x_F (p_tak A (A 6 0) 21 6) (24 + 4 * (g : Int)) from x_F_eq (fun a b1 b2 => by unfold p_img; exact x_wr_fr _ _ _ (by omega))]
          exact t
        have z0 : ∀ k, 0 ≤ k → k < 4 → x_F (p_img A) (24 + 4 * (g : Int)) 0 k = p_Fs A g 0 k := fun k k1 k2 => ir 0 k (Or.inl ⟨rfl, k1, k2⟩)
        refine ⟨?_, ?_, ?_, ?_, fun w k b1 b2 b3 b4 => ?_, fun i j b1 b2 b3 b4 => ?_, fun i b1 b2 => ?_⟩
        · rw [z0 _ (by omega) (by omega), g9 _ _ (by omega) (by omega), t0]; exact r0
        · rw [z0 _ (by omega) (by omega), g9 _ _ (by omega) (by omega), t1]; exact r1
        · rw [z0 _ (by omega) (by omega), g9 _ _ (by omega) (by omega), t2]; exact r2
        · rw [z0 _ (by omega) (by omega), g9 _ _ (by omega) (by omega), t3]; exact r3
        · rw [ir 1 _ (Or.inr (Or.inl ⟨rfl, by omega, by omega⟩)), g9 _ _ (by omega) (by omega), t4 w k b1 b2 b3 b4]; exact r4 w k b1 b2 b3 b4
        · rw [z0 _ (by omega) (by omega)] at b2 b4
          rw [ir 2 _ (Or.inr (Or.inr (Or.inl ⟨rfl, by omega, by omega⟩))), g9 _ _ (by omega) (by omega), t5 i j b1 (by omega) b3 (by omega)]; exact r5 i j b1 b2 b3 b4
        · rw [z0 _ (by omega) (by omega)] at b2
          rw [ir 3 _ (Or.inr (Or.inr (Or.inr ⟨rfl, by omega, by omega⟩))), gr _ _ (by omega) (by omega) (by omega) (by omega)]; exact r6 i b1 b2
      · exact p_rfr_o (fun a k q => by rw [g8 a k (by omega)]; exact f2 a k (by omega))
    | succ m ih =>
      intro f M' hm f0 f1 fr T
      by_cases ef : f = 3
      · exact ih f M' (by omega) f0 f1 fr T
      refine u_X11_image_15 f ⟨fun z => by omega, fun z => ⟨by omega, by omega, fun N8 e8 => ⟨by omega, by omega, fun N9 e9 => ⟨by omega, by omega, fun N10 e10 => ⟨by omega, by omega, fun N11 e11 => ⟨by omega, by omega, c_cop120 (by omega) ⟨rfl, by omega, by omega, c_cop122 (by omega) ⟨rfl, fun v hv => ?_⟩⟩⟩⟩⟩⟩⟩⟩
      rw [x_w_id (by omega) (by omega)] at hv
      rw [hv]
      have o11 : ∀ a k, a ≠ 556 + f → N11 a k = M' a k := fun a k q => by rw [e11, x_wr_ne _ _ (by omega), e10, x_wr_ne _ _ (by omega), e9, x_wr_ne _ _ (by omega), e8, x_wr_ne _ _ (by omega)]
      have src : ∀ a k, 104 ≤ a → a ≤ 140 → M' a k = M a k := fun a k b1 b2 => by rw [fr a k (by omega)]; exact f2 a k (by omega)
      refine ih (f + 1) _ (by omega) (by omega) (by omega) (fun a k q => ?_) (fun g g0 g1 => ?_)
      · rw [p_cp_o (by omega), p_cp_o (by omega), o11 a k (by omega)]; exact fr a k q
      · by_cases eg : g = f
        · rw [eg]
          refine ⟨?_, ?_, ?_, ?_, fun w k b1 b2 b3 b4 => ?_, fun i j b1 b2 b3 b4 => ?_⟩
          · rw [p_cp_o (by omega), p_cp_o (by omega), show 556 + f = 555 + 1 + 1 * f by omega, e11, x_wr_ne _ _ (by omega), e10, x_wr_ne _ _ (by omega), e9, x_wr_ne _ _ (by omega), e8, x_wr_eq]; exact src _ _ (by omega) (by omega)
          · rw [p_cp_o (by omega), p_cp_o (by omega), show 556 + f = 555 + 1 + 1 * f by omega, e11, x_wr_ne _ _ (by omega), e10, x_wr_ne _ _ (by omega), e9, x_wr_eq, e8, x_wr_ne _ _ (by omega)]; exact src _ _ (by omega) (by omega)
          · rw [p_cp_o (by omega), p_cp_o (by omega), show 556 + f = 555 + 1 + 1 * f by omega, e11, x_wr_ne _ _ (by omega), e10, x_wr_eq, e9, x_wr_ne _ _ (by omega), e8, x_wr_ne _ _ (by omega)]; exact src _ _ (by omega) (by omega)
          · rw [p_cp_o (by omega), p_cp_o (by omega), show 556 + f = 555 + 1 + 1 * f by omega, e11, x_wr_eq, e10, x_wr_ne _ _ (by omega), e9, x_wr_ne _ _ (by omega), e8, x_wr_ne _ _ (by omega)]; exact src _ _ (by omega) (by omega)
          · rw [p_cp_o (by omega), show 561 + 4 * f + w = 559 + 1 + 4 * f + 1 + w by omega, p_cp_in ⟨b1, b2⟩ ⟨b3, b4⟩, o11 _ _ (by omega), show 108 + 1 + 4 * f + 1 + w = 110 + 4 * f + w by omega]; exact src _ _ (by omega) (by omega)
          · rw [show 574 + 5 * f + i = 572 + 1 + 5 * f + 1 + i by omega, p_cp_in ⟨b1, b2⟩ ⟨b3, b4⟩, p_cp_o (by omega), o11 _ _ (by omega), show 121 + 1 + 5 * f + 1 + i = 123 + 5 * f + i by omega]; exact src _ _ (by omega) (by omega)
        · obtain ⟨t0, t1, t2, t3, t4, t5⟩ := T g g0 (by omega)
          refine ⟨?_, ?_, ?_, ?_, fun w k b1 b2 b3 b4 => ?_, fun i j b1 b2 b3 b4 => ?_⟩
          · rw [p_cp_o (by omega), p_cp_o (by omega), o11 _ _ (by omega)]; exact t0
          · rw [p_cp_o (by omega), p_cp_o (by omega), o11 _ _ (by omega)]; exact t1
          · rw [p_cp_o (by omega), p_cp_o (by omega), o11 _ _ (by omega)]; exact t2
          · rw [p_cp_o (by omega), p_cp_o (by omega), o11 _ _ (by omega)]; exact t3
          · rw [p_cp_o (by omega), p_cp_o (by omega), o11 _ _ (by omega)]; exact t4 w k b1 b2 b3 b4
          · rw [p_cp_o (by omega), p_cp_o (by omega), o11 _ _ (by omega)]; exact t5 i j b1 b2 b3 b4
  exact main 3 0 M2 (by omega) (by omega) (by omega) (fun _ _ _ => rfl) (fun g g0 g1 => by omega)
def p_cB (M' M : xM) (g : Int) : Prop := M' 104 g = M (556 + g) 0 ∧ M' 105 g = M (556 + g) 1 ∧ M' 106 g = M (556 + g) 2 ∧ M' 107 g = M (556 + g) 3 ∧ (∀ w k, 0 ≤ w → w < 3 → 0 ≤ k → k < 3 → M' (110 + 4 * g + w) k = M (561 + 4 * g + w) k) ∧ ∀ i j, 0 ≤ i → i < 4 → 0 ≤ j → j < 3 → M' (123 + 5 * g + i) j = M (574 + 5 * g + i) j
theorem r_back (hA : p_WF A) (hR : p_RI A M) (h : ∀ M1, p_RI (o_back A).2 M1 → p_rfr M M1 → Q (some (0, (o_back A).1)) M1) : x_Ev l E (2, 0, 0) m_X11_back 0 [(21, 103), (5, 0)] [] M Q := by
  have w0 := hA.2.1.1
  have w52 := hA.2.2.1
  have e51 := hR.2.2.2.2.2.2.1
  unfold o_back at h
  refine u_X11_back_0 ⟨fun c M2 h2 => ?_, fun c => ?_⟩
  · have c1 : A 5 2 = 1 := by omega
    rw [p_if_t c1] at h
    have hR0 := hR
    obtain ⟨k0, k1, k2, k3, k4, k5, k6, k7⟩ := hR.2.2.2.2.2.2.2 c1
    have f2 : ∀ a k, ¬ (a = 103 ∧ k = 0) → M2 a k = M a k := fun a k q => by rw [h2, x_wr_ne _ _ (by omega)]
    have f20 : M2 103 0 = A 21 0 := by rw [h2, x_wr_eq]; exact k0
    have main : ∀ (m : Nat) (f : Int) (M' : xM), 3 - f ≤ m → 0 ≤ f → f ≤ 3 → (∀ a k, ¬ (104 ≤ a ∧ a ≤ 136) → M' a k = M2 a k) → (∀ g, 0 ≤ g → g < f → p_cB M' M g) → x_Ev l E (2, 0, 0) m_X11_back 23 [(21, 103), (0, f)] [] M' Q := by
      intro m
      induction m with
      | zero =>
        intro f M' hm f0 f1 fr T
        have ef : f = 3 := by omega
        refine u_X11_back_23 f ⟨fun _ => c_cop124 (by omega) ⟨rfl, fun N2 e2 N3 e3 N4 e4 N5 e5 N6 e6 N7 e7 => ?_⟩, fun z => by omega⟩
        have g7 : ∀ a k, ¬ (a = 103 ∧ 8 ≤ k ∧ k ≤ 13) → N7 a k = p_cp M' 588 137 4 3 0 a k := fun a k q => by rw [e7, x_wr_ne _ _ (by omega), e6, x_wr_ne _ _ (by omega), e5, x_wr_ne _ _ (by omega), e4, x_wr_ne _ _ (by omega), e3, x_wr_ne _ _ (by omega), e2, x_wr_ne _ _ (by omega)]
        have g8 : ∀ a k, ¬ (a = 103 ∧ 8 ≤ k ∧ k ≤ 13) → ¬ (104 ≤ a ∧ a ≤ 140) → N7 a k = M2 a k := fun a k q q2 => by rw [g7 a k q, p_cp_o (by omega)]; exact fr a k (by omega)
        have g9 : ∀ a k, 104 ≤ a → a ≤ 136 → N7 a k = M' a k := fun a k q1 q2 => by rw [g7 a k (by omega), p_cp_o (by omega)]
        have gr : ∀ i k, 0 ≤ i → i < 3 → 0 ≤ k → k < 4 → N7 (138 + i) k = M (589 + i) k := fun i k i1 i2 k1 k2 => by
          have t := p_cp_in (M := M') (l0 := 588) (l1 := 137) (c := 4) (R := 3) (i := i) (k := k) (by omega) (by omega)
          rw [g7 _ _ (by omega), show (138 : Int) + i = 137 + 1 + i by omega, t, fr _ _ (by omega), f2 _ _ (by omega), show (588 : Int) + 1 + i = 589 + i by omega]
        have v0 : N7 103 8 = x_w (M 592 0) := by rw [e7, x_wr_ne _ _ (by omega), e6, x_wr_ne _ _ (by omega), e5, x_wr_ne _ _ (by omega), e4, x_wr_ne _ _ (by omega), e3, x_wr_ne _ _ (by omega), e2, x_wr_eq, p_cp_o (by omega), fr _ _ (by omega), f2 _ _ (by omega)]
        have v1 : N7 103 9 = M 592 1 := by rw [e7, x_wr_ne _ _ (by omega), e6, x_wr_ne _ _ (by omega), e5, x_wr_ne _ _ (by omega), e4, x_wr_ne _ _ (by omega), e3, x_wr_eq, e2, x_wr_ne _ _ (by omega), p_cp_o (by omega), fr _ _ (by omega), f2 _ _ (by omega)]
        have v2 : N7 103 10 = M 592 2 := by rw [e7, x_wr_ne _ _ (by omega), e6, x_wr_ne _ _ (by omega), e5, x_wr_ne _ _ (by omega), e4, x_wr_eq, e3, x_wr_ne _ _ (by omega), e2, x_wr_ne _ _ (by omega), p_cp_o (by omega), fr _ _ (by omega), f2 _ _ (by omega)]
        have v3 : N7 103 11 = M 592 3 := by rw [e7, x_wr_ne _ _ (by omega), e6, x_wr_ne _ _ (by omega), e5, x_wr_eq, e4, x_wr_ne _ _ (by omega), e3, x_wr_ne _ _ (by omega), e2, x_wr_ne _ _ (by omega), p_cp_o (by omega), fr _ _ (by omega), f2 _ _ (by omega)]
        have v4 : N7 103 12 = x_w (M 592 4) := by rw [e7, x_wr_ne _ _ (by omega), e6, x_wr_eq, e5, x_wr_ne _ _ (by omega), e4, x_wr_ne _ _ (by omega), e3, x_wr_ne _ _ (by omega), e2, x_wr_ne _ _ (by omega), p_cp_o (by omega), fr _ _ (by omega), f2 _ _ (by omega)]
        have v5 : N7 103 13 = x_w (M 592 5) := by rw [e7, x_wr_eq, e6, x_wr_ne _ _ (by omega), e5, x_wr_ne _ _ (by omega), e4, x_wr_ne _ _ (by omega), e3, x_wr_ne _ _ (by omega), e2, x_wr_ne _ _ (by omega), p_cp_o (by omega), fr _ _ (by omega), f2 _ _ (by omega)]
        obtain ⟨b1, b2, b3, b4, b5, b6, b7, b8⟩ := hA.2.1
        have i0 : ∀ k, 0 ≤ k → k ≤ 4 → p_tak A (A 21 0) 6 21 6 k = A 21 k := fun k z1 z2 => p_tak_0 ⟨z1, z2⟩
        have i2 : ∀ k, k = 0 ∨ k = 1 → p_tak A (A 21 0) 6 21 7 k = A 22 k := fun k q => p_tak_1 (o := 6) (q := 21) q
        have r0 : N7 103 0 = A 21 0 := by rw [g8 _ _ (by omega) (by omega)]; exact f20
        rw [r0]
        refine h N7 (p_RI_b (A' := p_tak A (A 21 0) 6 21) hA hR0 (fun a k q1 => p_tak_o (by omega) (by omega)) (fun a k q1 q2 => ?_) ⟨?_, ?_, ?_, ?_, ?_, ?_, ?_⟩ (fun g hg => ?_)) ?_
        · rw [g8 a k (by omega) q2]; exact f2 a k (by omega)
        · rw [r0, i0 _ (by omega) (by omega)]
        · rw [v0, i0 _ (by omega) (by omega), k1]; exact x_w_id (by omega) (by omega)
        · rw [v1, i2 _ (by omega)]; exact k2
        · rw [v2, i2 _ (by omega)]; exact k3
        · rw [v3, i0 _ (by omega) (by omega)]; exact k4
        · rw [v4, i0 _ (by omega) (by omega), k5]; exact x_w_id (by omega) (by omega)
        · rw [v5, i0 _ (by omega) (by omega), k6]; exact x_w_id (by omega) (by omega)
        · rw [i0 _ (by omega) (by omega)] at hg
          obtain ⟨r0, r1, r2, r3, r4, r5, r6⟩ := k7 g hg
          obtain ⟨t0, t1, t2, t3, t4, t5⟩ := T g (by omega) (by omega)
          have wf : p_wf (x_F A (24 + 4 * (g : Int))) := by
            have := b8 g hg
            rw [show (21 : Int) + 3 + 4 * (g : Int) = 24 + 4 * (g : Int) by omega] at this
            exact this
          have hg2 := wf.2.2.1
          have hr2 := wf.2.2.2.1
          have ir : ∀ j k, p_ir j k → p_Fs (p_tak A (A 21 0) 6 21) g j k = x_F A (24 + 4 * (g : Int)) j k := fun j k q => by
            have t := p_tak_F (A := A) (n := A 21 0) (o := 6) (q := 21) (f := g) (by omega) j k q
            rw [show (21 : Int) + 3 + 4 * (g : Int) = 24 + 4 * (g : Int) by omega, show (6 : Int) + 3 + 4 * (g : Int) = 9 + 4 * (g : Int) by omega] at t
            exact t
          have z0 : ∀ k, 0 ≤ k → k < 4 → p_Fs (p_tak A (A 21 0) 6 21) g 0 k = x_F A (24 + 4 * (g : Int)) 0 k := fun k k1 k2 => ir 0 k (Or.inl ⟨rfl, k1, k2⟩)
          refine ⟨?_, ?_, ?_, ?_, fun w k b1 b2 b3 b4 => ?_, fun i j b1 b2 b3 b4 => ?_, fun i b1 b2 => ?_⟩
          · rw [z0 _ (by omega) (by omega), g9 _ _ (by omega) (by omega), t0]; exact r0
          · rw [z0 _ (by omega) (by omega), g9 _ _ (by omega) (by omega), t1]; exact r1
          · rw [z0 _ (by omega) (by omega), g9 _ _ (by omega) (by omega), t2]; exact r2
          · rw [z0 _ (by omega) (by omega), g9 _ _ (by omega) (by omega), t3]; exact r3
          · rw [ir 1 _ (Or.inr (Or.inl ⟨rfl, by omega, by omega⟩)), g9 _ _ (by omega) (by omega), t4 w k b1 b2 b3 b4]; exact r4 w k b1 b2 b3 b4
          · rw [z0 _ (by omega) (by omega)] at b2 b4
            rw [ir 2 _ (Or.inr (Or.inr (Or.inl ⟨rfl, by omega, by omega⟩))), g9 _ _ (by omega) (by omega), t5 i j b1 (by omega) b3 (by omega)]; exact r5 i j b1 b2 b3 b4
          · rw [z0 _ (by omega) (by omega)] at b2
            rw [ir 3 _ (Or.inr (Or.inr (Or.inr ⟨rfl, by omega, by omega⟩))), gr _ _ (by omega) (by omega) (by omega) (by omega)]; exact r6 i b1 b2
        · exact p_rfr_o (fun a k q => by rw [g8 a k (by omega) (by omega)]; exact f2 a k (by omega))
      | succ m ih =>
        intro f M' hm f0 f1 fr T
        by_cases ef : f = 3
        · exact ih f M' (by omega) f0 f1 fr T
        refine u_X11_back_23 f ⟨fun z => by omega, fun z => ⟨by omega, by omega, fun N8 e8 => ⟨by omega, by omega, fun N9 e9 => ⟨by omega, by omega, fun N10 e10 => ⟨by omega, by omega, fun N11 e11 => ⟨by omega, by omega, c_cop120 (by omega) ⟨rfl, by omega, by omega, c_cop122 (by omega) ⟨rfl, fun v hv => ?_⟩⟩⟩⟩⟩⟩⟩⟩
        rw [x_w_id (by omega) (by omega)] at hv
        rw [hv]
        have o11 : ∀ a k, ¬ (104 ≤ a ∧ a ≤ 107 ∧ k = f) → N11 a k = M' a k := fun a k q => by rw [e11, x_wr_ne _ _ (by omega), e10, x_wr_ne _ _ (by omega), e9, x_wr_ne _ _ (by omega), e8, x_wr_ne _ _ (by omega)]
        have src : ∀ a k, 556 ≤ a → M' a k = M a k := fun a k b1 => by rw [fr a k (by omega)]; exact f2 a k (by omega)
        refine ih (f + 1) _ (by omega) (by omega) (by omega) (fun a k q => ?_) (fun g g0 g1 => ?_)
        · rw [p_cp_o (by omega), p_cp_o (by omega), o11 a k (by omega)]; exact fr a k q
        · by_cases eg : g = f
          · rw [eg]
            refine ⟨?_, ?_, ?_, ?_, fun w k b1 b2 b3 b4 => ?_, fun i j b1 b2 b3 b4 => ?_⟩
            · rw [p_cp_o (by omega), p_cp_o (by omega), show 556 + f = 555 + 1 + 1 * f by omega, e11, x_wr_ne _ _ (by omega), e10, x_wr_ne _ _ (by omega), e9, x_wr_ne _ _ (by omega), e8, x_wr_eq]; exact src _ _ (by omega)
            · rw [p_cp_o (by omega), p_cp_o (by omega), show 556 + f = 555 + 1 + 1 * f by omega, e11, x_wr_ne _ _ (by omega), e10, x_wr_ne _ _ (by omega), e9, x_wr_eq, e8, x_wr_ne _ _ (by omega)]; exact src _ _ (by omega)
            · rw [p_cp_o (by omega), p_cp_o (by omega), show 556 + f = 555 + 1 + 1 * f by omega, e11, x_wr_ne _ _ (by omega), e10, x_wr_eq, e9, x_wr_ne _ _ (by omega), e8, x_wr_ne _ _ (by omega)]; exact src _ _ (by omega)
            · rw [p_cp_o (by omega), p_cp_o (by omega), show 556 + f = 555 + 1 + 1 * f by omega, e11, x_wr_eq, e10, x_wr_ne _ _ (by omega), e9, x_wr_ne _ _ (by omega), e8, x_wr_ne _ _ (by omega)]; exact src _ _ (by omega)
            · rw [p_cp_o (by omega), show 110 + 4 * f + w = 108 + 1 + 4 * f + 1 + w by omega, p_cp_in ⟨b1, b2⟩ ⟨b3, b4⟩, o11 _ _ (by omega), show 559 + 1 + 4 * f + 1 + w = 561 + 4 * f + w by omega]; exact src _ _ (by omega)
            · rw [show 123 + 5 * f + i = 121 + 1 + 5 * f + 1 + i by omega, p_cp_in ⟨b1, b2⟩ ⟨b3, b4⟩, p_cp_o (by omega), o11 _ _ (by omega), show 572 + 1 + 5 * f + 1 + i = 574 + 5 * f + i by omega]; exact src _ _ (by omega)
          · obtain ⟨t0, t1, t2, t3, t4, t5⟩ := T g g0 (by omega)
            refine ⟨?_, ?_, ?_, ?_, fun w k b1 b2 b3 b4 => ?_, fun i j b1 b2 b3 b4 => ?_⟩
            · rw [p_cp_o (by omega), p_cp_o (by omega), o11 _ _ (by omega)]; exact t0
            · rw [p_cp_o (by omega), p_cp_o (by omega), o11 _ _ (by omega)]; exact t1
            · rw [p_cp_o (by omega), p_cp_o (by omega), o11 _ _ (by omega)]; exact t2
            · rw [p_cp_o (by omega), p_cp_o (by omega), o11 _ _ (by omega)]; exact t3
            · rw [p_cp_o (by omega), p_cp_o (by omega), o11 _ _ (by omega)]; exact t4 w k b1 b2 b3 b4
            · rw [p_cp_o (by omega), p_cp_o (by omega), o11 _ _ (by omega)]; exact t5 i j b1 b2 b3 b4
    exact main 3 0 M2 (by omega) (by omega) (by omega) (fun _ _ _ => rfl) (fun g g0 g1 => by omega)
  · rw [p_if_f (by omega)] at h
    exact r_tl hA hR (by omega) (fun M1 a b => ⟨_, rfl, h M1 a b⟩)
end P21
