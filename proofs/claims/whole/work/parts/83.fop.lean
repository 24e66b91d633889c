/-! Calls that change followers -/
theorem p_ctab_fr {M M1 : xM} {P : Int} {n : Nat} {T : Int → Int → Int} (h : p_tab M P n T) (h0 : M1 P 2 = M P 2) (h1 : M1 (P + 1) = M (P + 1)) (h2 : M1 (P + 2) = M (P + 2)) (h3 : M1 (P + 3) = M (P + 3)) : p_tab M1 P n T := ⟨by rw [h0]; exact h.1, fun k a b => p_row_fr h1 h2 h3 (h.2 k a b)⟩
theorem p_sums_fr {M M1 : xM} {P : Int} {n : Nat} {F : xM} {T : Int → Int → Int} (h : p_sums M P n F T) (h4 : M1 (P + 4) = M (P + 4)) (h5 : M1 (P + 5) = M (P + 5)) (h6 : M1 (P + 6) = M (P + 6)) : p_sums M1 P n F T := fun k a b => by rw [h4, h5, h6]; exact h k a b
theorem p_CI_F {A A' M M1 : xM} {f : Int} (hA : p_WF A) (hC : p_CI A M) (hf : 0 ≤ f ∧ f < 3) (hA' : ∀ a k, ¬ (9 + 4 * f ≤ a ∧ a ≤ 12 + 4 * f) → ¬ (a = 6 ∧ k = 0) → A' a k = A a k) (hn : 0 ≤ A' 6 0 ∧ A' 6 0 ≤ 3) (hg : ∀ g : Int, 0 ≤ g → g < A' 6 0 → g ≠ f → g < A 6 0) (h6 : M1 6 0 = A' 6 0) (hM : ∀ a k, 9 + 4 * f ≤ a → a ≤ 12 + 4 * f → M1 a k = A' a k) (hfr : ∀ a k, ¬ p_cs a k → ¬ (9 + 4 * f ≤ a ∧ a ≤ 12 + 4 * f) → ¬ (49 + 9 * f ≤ a ∧ a ≤ 57 + 9 * f) → ¬ (a = 6 ∧ k = 0) → M1 a k = M a k) (ht : f < A' 6 0 → p_wf (p_Fs A' f.toNat) ∧ p_tab M1 (49 + 9 * f) (p_n (p_Fs A' f.toNat)) (p_TT (p_Fs A' f.toNat)) ∧ p_sums M1 (49 + 9 * f) (p_n (p_Fs A' f.toNat)) (p_Fs A' f.toNat) (p_TT (p_Fs A' f.toNat))) : p_CI A' M1 := by
  obtain ⟨q1, q2, q3, q4, q5, q6, q7, q8⟩ := hC
  have w0 := hA.1.1
  have ea : ∀ b j, 544 ≤ b → A' b j = A b j := fun b j w => hA' b j (by omega) (by omega)
  have ns : ∀ {a k : Int}, a < 36 ∨ 88 ≤ a → a ≠ 101 → ¬ p_cs a k := fun {a k} w1 w2 => by unfold p_cs p_stc; omega
  have em : ∀ b j, (88 ≤ b ∧ b ≤ 100) ∨ 102 ≤ b → M1 b j = M b j := fun b j w => hfr b j (ns (by omega) (by omega)) (by omega) (by omega) (by omega)
  have tp : x_tp M1 = x_tp M := x_tp_eq (hfr (-1) 0 (by unfold p_cs p_stc; omega) (by omega) (by omega) (by omega))
  have tg : ∀ b, x_tag M1 b = x_tag M b := x_tag_eq (fun k => hfr (-2) k (by unfold p_cs p_stc; omega) (by omega) (by omega) (by omega))
  refine ⟨fun b j b1 b2 => ?_, ?_, ?_, fun j => ?_, fun j => ?_, ⟨by rw [h6]; omega, by omega, fun g hg' => ?_⟩, ⟨fun s s1 s2 => ?_, fun s t s1 s2 t1 t2 => ?_⟩, fun i i1 i2 => ?_⟩
  · by_cases c : 9 + 4 * f ≤ b ∧ b ≤ 12 + 4 * f
    · exact hM b j c.1 c.2
    · by_cases c2 : b = 6 ∧ j = 0
      · rw [c2.1, c2.2]; exact h6
      · rw [hfr b j (ns (by omega) (by omega)) c (by omega) c2, hA' b j c c2]; exact q1 b j b1 b2
  · rw [hfr 5 2 (ns (by omega) (by omega)) (by omega) (by omega) (by omega), hA' 5 2 (by omega) (by omega)]; exact q2
  · rw [hfr 5 12 (ns (by omega) (by omega)) (by omega) (by omega) (by omega), hA' 5 12 (by omega) (by omega)]; exact q3
  · rw [em _ _ (by omega), hA' 100 j (by omega) (by omega)]; exact q4 j
  · rw [em _ _ (by omega), hA' 102 j (by omega) (by omega)]; exact q5 j
  · by_cases e : (g : Int) = f
    · have e2 : g = f.toNat := by omega
      obtain ⟨t1, t2, t3⟩ := ht (by omega)
      rw [e, e2]
      refine ⟨t1, ?_, t2, t3⟩
      show x_F M1 (9 + 4 * f) = x_F A' (9 + 4 * ((f.toNat : Nat) : Int))
      rw [show ((f.toNat : Nat) : Int) = f by omega]
      exact x_F_eq (fun a a1 a2 => by funext k; exact hM a k a1 (by omega))
    · have hgA := hg g (by omega) (by omega) e
      obtain ⟨t1, t2, t3, t4⟩ := q6.2.2 g (by omega)
      have eF : p_Fs A' g = p_Fs A g := x_F_eq (fun a a1 a2 => by funext k; exact hA' a k (by omega) (by omega))
      have et : ∀ i, 1 ≤ i → i ≤ 6 → M1 (49 + 9 * (g : Int) + i) = M (49 + 9 * (g : Int) + i) := by
        intro i i1 i2
        funext k
        exact hfr _ k (by unfold p_cs p_stc; omega) (by omega) (by omega) (by omega)
      rw [eF]
      refine ⟨t1, ?_, p_ctab_fr t3 (hfr _ _ (by unfold p_cs p_stc; omega) (by omega) (by omega) (by omega)) (et 1 (by omega) (by omega)) (et 2 (by omega) (by omega)) (et 3 (by omega) (by omega)), p_sums_fr t4 (et 4 (by omega) (by omega)) (et 5 (by omega) (by omega)) (et 6 (by omega) (by omega))⟩
      rw [← t2]
      exact x_F_eq (fun a a1 a2 => by funext k; exact hfr a k (ns (by omega) (by omega)) (by omega) (by omega) (by omega))
  · rw [ea _ _ (by omega), ea _ _ (by omega), em _ _ (by omega)]
    rcases q7.1 s s1 s2 with w | ⟨w1, w2, w3⟩
    · exact Or.inl w
    · have hr := w2
      obtain ⟨r1, r2, -⟩ := w2
      refine Or.inr ⟨w1, p_r16_fr hr (by rw [tp]; exact Nat.le_refl _) (fun b _ => tg b) (em _ _ (by omega)) (em _ _ (by omega)), fun i i1 i2 => ?_⟩
      rw [em _ _ (by omega), ea _ _ (by omega)]; exact w3 i i1 i2
  · rw [em _ _ (by omega), em _ _ (by omega), ea _ _ (by omega), ea _ _ (by omega)]; exact q7.2 s t s1 s2 t1 t2
  · obtain ⟨w1, w2, w3, w4⟩ := q8 i i1 i2
    rw [em _ 0 (by omega), em _ 1 (by omega), em _ 2 (by omega), ea _ _ (by omega), ea _ _ (by omega), ea _ _ (by omega)]
    refine ⟨w1, w2, w3, fun w => ?_⟩
    have hr := w4 w
    have hr' := hr
    obtain ⟨r1, r2, -⟩ := hr'
    exact p_r16_fr hr (by rw [tp]; exact Nat.le_refl _) (fun b _ => tg b) (em _ _ (by omega)) (em _ _ (by omega))
theorem p_RI_F {A A' M M1 : xM} {f : Int} (hA : p_WF A) (hR : p_RI A M) (hf : 0 ≤ f ∧ f < 3) (hA' : ∀ a k, ¬ (9 + 4 * f ≤ a ∧ a ≤ 12 + 4 * f) → ¬ (a = 6 ∧ k = 0) → A' a k = A a k) (hn : 0 ≤ A' 6 0 ∧ A' 6 0 ≤ 3) (hg : ∀ g : Int, 0 ≤ g → g < A' 6 0 → g ≠ f → g < A 6 0) (h0 : M1 103 0 = A' 6 0) (hfr : ∀ a k, ¬ p_rsc a k → ¬ p_rF f a k → ¬ (a = 103 ∧ k = 0) → M1 a k = M a k) (hF : f < A' 6 0 → p_RF M1 f (p_Fs A' f.toNat)) : p_RI A' M1 := by
  obtain ⟨⟨a0, a1, a2, a3, a4, a5, a6⟩, q2, q3, ⟨q4, q5⟩, q6, q7, q8, q9⟩ := hR
  have w0 := hA.1.1
  have wp := hA.2.2.2.1
  have ea : ∀ c d, c < 9 ∨ 21 ≤ c → ¬ (c = 6 ∧ d = 0) → A' c d = A c d := fun c d w w2 => hA' c d (by omega) w2
  have em : ∀ e k, (e = 103 ∧ ((1 ≤ k ∧ k < 15) ∨ 40 ≤ k)) ∨ e = 141 ∨ (334 ≤ e ∧ e ≠ 551) → M1 e k = M e k := fun e k w => hfr e k (by unfold p_rsc; omega) (by unfold p_rF; omega) (by omega)
  refine ⟨⟨h0, ?_, ?_, ?_, ?_, ?_, ?_⟩, fun g hg' => ?_, fun i i1 i2 => ?_, ⟨?_, fun i d i1 i2 d1 d2 => ?_⟩, fun s s1 s2 => ?_, fun i i1 i2 => ?_, ?_, fun w => ?_⟩
  · rw [em _ _ (by omega), ea _ _ (by omega) (by omega)]; exact a1
  · rw [em _ _ (by omega), ea _ _ (by omega) (by omega)]; exact a2
  · rw [em _ _ (by omega), ea _ _ (by omega) (by omega)]; exact a3
  · rw [em _ _ (by omega), ea _ _ (by omega) (by omega)]; exact a4
  · rw [em _ _ (by omega), ea _ _ (by omega) (by omega)]; exact a5
  · rw [em _ _ (by omega), ea _ _ (by omega) (by omega)]; exact a6
  · by_cases e : (g : Int) = f
    · have e2 : g = f.toNat := by omega
      have := hF (by omega)
      rw [e, e2]; exact this
    · have hgA := hg g (by omega) hg' e
      have eF : p_Fs A' g = p_Fs A g := x_F_eq (fun a a1 a2 => by funext k; exact hA' a k (by omega) (by omega))
      have wf : p_wf (p_Fs A g) := hA.1.2.2.2.2.2.2.2 g hgA
      have hgd := wf.2.2.1
      have hr := wf.2.2.2.1
      obtain ⟨r0, r1, r2, r3, r4, r5, r6⟩ := q2 g hgA
      have ee : ∀ b k, p_rF g b k → M1 b k = M b k := fun b k w => hfr b k (by unfold p_rF at w; unfold p_rsc; omega) (by unfold p_rF at w ⊢; omega) (by unfold p_rF at w; omega)
      rw [eF]
      refine ⟨?_, ?_, ?_, ?_, fun w g' b1 b2 b3 b4 => ?_, fun i d b1 b2 b3 b4 => ?_, fun i b1 b2 => ?_⟩
      · rw [ee _ _ (by unfold p_rF; omega)]; exact r0
      · rw [ee _ _ (by unfold p_rF; omega)]; exact r1
      · rw [ee _ _ (by unfold p_rF; omega)]; exact r2
      · rw [ee _ _ (by unfold p_rF; omega)]; exact r3
      · rw [ee _ _ (by unfold p_rF; omega)]; exact r4 w g' b1 b2 b3 b4
      · rw [ee _ _ (by unfold p_rF; omega)]; exact r5 i d b1 b2 b3 b4
      · rw [ee _ _ (by unfold p_rF; omega)]; exact r6 i b1 b2
  · rw [em _ _ (by omega), ea _ _ (by omega) (by omega)]; exact q3 i i1 i2
  · rw [em _ _ (by omega), ea _ _ (by omega) (by omega)]; exact q4
  · rw [ea 5 12 (by omega) (by omega)] at i2
    rw [em _ _ (by omega), ea _ _ (by omega) (by omega)]; exact q5 i d i1 i2 d1 d2
  · obtain ⟨b1, b2, b3⟩ := q6 s s1 s2
    rw [em _ _ (by omega), em _ _ (by omega), ea _ _ (by omega) (by omega), ea _ _ (by omega) (by omega)]
    refine ⟨b1, b2, fun i i1 i2 => ?_⟩
    rw [em _ _ (by omega), ea _ _ (by omega) (by omega)]; exact b3 i i1 i2
  · rw [em _ _ (by omega), em _ _ (by omega), em _ _ (by omega), ea _ _ (by omega) (by omega), ea _ _ (by omega) (by omega), ea _ _ (by omega) (by omega)]
    exact q7 i i1 i2
  · rw [em _ _ (by omega), ea _ _ (by omega) (by omega)]; exact q8
  · rw [ea _ _ (by omega) (by omega)] at w
    exact p_KI_fr hA (q9 w) (fun c c1 c2 => by funext d; exact ea c d (by omega) (by omega)) (fun e k w => em e k (by omega))
theorem p_WF_F {A A' : xM} {f : Int} (hA : p_WF A) (hf : 0 ≤ f ∧ f < 3) (hA' : ∀ a k, ¬ (9 + 4 * f ≤ a ∧ a ≤ 12 + 4 * f) → ¬ (a = 6 ∧ k = 0) → A' a k = A a k) (hn : 0 ≤ A' 6 0 ∧ A' 6 0 ≤ 3) (hg : ∀ g : Int, 0 ≤ g → g < A' 6 0 → g ≠ f → g < A 6 0) (hlt : f < A' 6 0) (hw : p_wf (p_Fs A' f.toNat)) : p_WF A' := by
  obtain ⟨⟨w1, w2, w3, w4, w5, w6, w7, w8⟩, k, h1, h2, h3, h4, h5⟩ := hA
  have e : ∀ c d, c < 9 ∨ 21 ≤ c → ¬ (c = 6 ∧ d = 0) → A' c d = A c d := fun c d w q => hA' c d (by omega) q
  refine ⟨⟨hn, ?_, ?_, ?_, ?_, ?_, ?_, fun g hg' => ?_⟩, ?_, ?_, ?_, fun s s1 s2 => ?_, fun i i1 i2 => ?_, fun g g1 g2 => ?_⟩
  · rw [e _ _ (by omega) (by omega)]; exact w2
  · rw [e _ _ (by omega) (by omega)]; exact w3
  · rw [e _ _ (by omega) (by omega)]; exact w4
  · rw [e _ _ (by omega) (by omega)]; exact w5
  · rw [e _ _ (by omega) (by omega), e _ _ (by omega) (by omega), e _ _ (by omega) (by omega)]; exact w6
  · rw [e _ _ (by omega) (by omega)]; exact w7
  · by_cases c : (g : Int) = f
    · have e2 : g = f.toNat := by omega
      have := hw
      unfold p_Fs at this
      rw [e2, show (6 : Int) + 3 + 4 * ((f.toNat : Nat) : Int) = 9 + 4 * ((f.toNat : Nat) : Int) by omega]
      exact this
    · rw [show x_F A' (6 + 3 + 4 * (g : Int)) = x_F A (6 + 3 + 4 * (g : Int)) from x_F_eq (fun a a1 a2 => by funext k; exact hA' a k (by omega) (by omega))]
      exact w8 g (hg g (by omega) hg' c)
  · obtain ⟨k1, k2, k3, k4, k5, k6, k7, k8⟩ := k
    refine ⟨?_, ?_, ?_, ?_, ?_, ?_, ?_, fun g hg' => ?_⟩
    · rw [e _ _ (by omega) (by omega)]; exact k1
    · rw [e _ _ (by omega) (by omega)]; exact k2
    · rw [e _ _ (by omega) (by omega)]; exact k3
    · rw [e _ _ (by omega) (by omega)]; exact k4
    · rw [e _ _ (by omega) (by omega)]; exact k5
    · rw [e _ _ (by omega) (by omega), e _ _ (by omega) (by omega), e _ _ (by omega) (by omega)]; exact k6
    · rw [e _ _ (by omega) (by omega)]; exact k7
    · rw [e _ _ (by omega) (by omega)] at hg'
      rw [show x_F A' (21 + 3 + 4 * (g : Int)) = x_F A (21 + 3 + 4 * (g : Int)) from x_F_eq (fun a a1 a2 => by funext k; exact e a k (by omega) (by omega))]
      exact k8 g hg'
  · rw [e _ _ (by omega) (by omega)]; exact h1
  · rw [e _ _ (by omega) (by omega)]; exact h2
  · obtain ⟨s3, s4, s5, s6⟩ := h3 s s1 s2
    rw [e _ _ (by omega) (by omega), e _ _ (by omega) (by omega)]
    refine ⟨s3, s4, s5, fun i i1 i2 => ?_⟩
    rw [e _ _ (by omega) (by omega)]; exact s6 i i1 i2
  · rw [e _ _ (by omega) (by omega), e _ _ (by omega) (by omega), e _ _ (by omega) (by omega)]; exact h4 i i1 i2
  · by_cases c : g = f
    · rw [c]
      refine ⟨fun k k1 k2 => ?_, fun k k1 k2 => ?_⟩
      · have := hw.2.2.2.2.2.1 k k1 k2
        rw [p_Fs2 A' hf.1] at this
        exact this
      · have := hw.2.2.2.2.2.2.2 k k1 k2
        rw [p_Fs3 A' hf.1] at this
        exact this
    · refine ⟨fun k k1 k2 => ?_, fun k k1 k2 => ?_⟩
      · rw [hA' _ _ (by omega) (by omega)]; exact (h5 g g1 g2).1 k k1 k2
      · rw [hA' _ _ (by omega) (by omega)]; exact (h5 g g1 g2).2 k k1 k2
