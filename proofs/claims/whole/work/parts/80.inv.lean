/-! The abstract state, and how class and reference hold it -/
def p_wfW (A : xM) (o : Int) : Prop := (0 ≤ A o 0 ∧ A o 0 ≤ 3) ∧ (1 ≤ A o 1 ∧ A o 1 ≤ 40) ∧ (0 ≤ A o 2 ∧ A o 2 ≤ 9999) ∧ (-2147483648 ≤ A o 3 ∧ A o 3 < 2147483648) ∧ (-9223372036854775808 ≤ A o 4 ∧ A o 4 < 9223372036854775808) ∧ (0 ≤ A (o + 1) 0 ∧ A (o + 1) 0 ≤ A o 1 * A (o + 1) 1) ∧ (1 ≤ A (o + 1) 1 ∧ A (o + 1) 1 ≤ 4000000) ∧ ∀ f : Nat, (f : Int) < A o 0 → p_wf (x_F A (o + 3 + 4 * f))
/-- numbers and bounds of followers that may have gone -/
def p_old (A : xM) : Prop := ∀ f : Int, 0 ≤ f → f < 3 → (∀ k, 0 ≤ k → k < 12 → -3 ≤ A (9 + 4 * f + 2) k ∧ A (9 + 4 * f + 2) k ≤ 3) ∧ ∀ k, 0 ≤ k → k < 4 → 0 ≤ A (9 + 4 * f + 3) k ∧ A (9 + 4 * f + 3) k ≤ 20
def p_WF (A : xM) : Prop := p_wfW A 6 ∧ p_wfW A 21 ∧ (A 5 2 = 0 ∨ A 5 2 = 1) ∧ (0 ≤ A 5 12 ∧ A 5 12 ≤ 28) ∧ (∀ s, 0 ≤ s → s < 4 → (-1 ≤ A 544 s ∧ A 544 s ≤ 2) ∧ (0 ≤ A 545 s ∧ A 545 s ≤ 40) ∧ (A 544 s < 0 → A 545 s = 0) ∧ ∀ i, 0 ≤ i → i < 40 → -9223372036854775808 ≤ A (547 + s) i ∧ A (547 + s) i < 9223372036854775808) ∧ (∀ i, 0 ≤ i → i < 10 → (0 ≤ A 552 i ∧ A 552 i ≤ 3) ∧ (A 552 i = 1 ∨ A 552 i = 3 → 0 ≤ A 553 i) ∧ (-2147483648 ≤ A 553 i ∧ A 553 i < 2147483648) ∧ (-1 ≤ A 554 i ∧ A 554 i ≤ 2) ∧ (A 552 i = 3 → 0 ≤ A 554 i)) ∧ p_old A
/-- the class's cells that only pass -/
def p_cs (a k : Int) : Prop := (36 ≤ a ∧ a ≤ 48) ∨ p_stc a k ∨ (76 ≤ a ∧ a ≤ 87) ∨ a = 101
def p_r16 (M : xM) (r sort size : Int) : Prop := 593 ≤ r ∧ r.toNat + 1 < x_tp M ∧ x_tag M r.toNat = 16 ∧ x_tag M (r.toNat + 1) = 190 ∧ M r 0 = sort ∧ M r 1 = size
def p_sh (A M : xM) : Prop := (∀ s, 0 ≤ s → s < 4 → (A 544 s < 0 ∧ M 88 s = -1) ∨ (0 ≤ A 544 s ∧ p_r16 M (M 88 s) (A 544 s) (A 545 s) ∧ ∀ i, 0 ≤ i → i < A 545 s → M (M 88 s + 1) i = A (547 + s) i)) ∧ ∀ s t, 0 ≤ s → s < 4 → 0 ≤ t → t < 4 → s ≠ t → 0 ≤ A 544 s → 0 ≤ A 544 t → M 88 s ≠ M 88 t
def p_sp (A M : xM) : Prop := ∀ i, 0 ≤ i → i < 10 → M (90 + i) 0 = A 552 i ∧ (A 552 i = 1 ∨ A 552 i = 2 → M (90 + i) 1 = A 553 i) ∧ (A 552 i ≠ 3 → M (90 + i) 2 = -1) ∧ (A 552 i = 3 → p_r16 M (M (90 + i) 2) (A 554 i) (A 553 i))
def p_Fs (A : xM) (f : Nat) : xM := x_F A (9 + 4 * (f : Int))
def p_CI (A M : xM) : Prop := (∀ a k, 6 ≤ a → a ≤ 35 → M a k = A a k) ∧ M 5 2 = A 5 2 ∧ M 5 12 = A 5 12 ∧ (∀ k, M 100 k = A 100 k) ∧ (∀ k, M 102 k = A 102 k) ∧ p_CW M (p_Fs A) (A 6 0).toNat ∧ p_sh A M ∧ p_sp A M
/-- followers as an image keeps them, in the reference -/
def p_KF (M : xM) (f : Int) (F : xM) : Prop := M (556 + f) 0 = F 0 0 ∧ M (556 + f) 1 = F 0 1 ∧ M (556 + f) 2 = F 0 2 ∧ M (556 + f) 3 = F 0 3 ∧ (∀ w g, 0 ≤ w → w < 3 → 0 ≤ g → g < 3 → M (561 + 4 * f + w) g = F 1 (3 * w + g)) ∧ (∀ i j, 0 ≤ i → i < F 0 3 → 0 ≤ j → j < F 0 2 → M (574 + 5 * f + i) j = F 2 (3 * i + j)) ∧ ∀ i, 0 ≤ i → i < F 0 3 → M (589 + f) i = F 3 i
def p_KI (A M : xM) : Prop := M 103 52 = A 21 0 ∧ M 592 0 = A 21 1 ∧ M 592 1 = A 22 0 ∧ M 592 2 = A 22 1 ∧ M 592 3 = A 21 4 ∧ M 592 4 = A 21 2 ∧ M 592 5 = A 21 3 ∧ ∀ f : Nat, (f : Int) < A 21 0 → p_KF M f (x_F A (24 + 4 * (f : Int)))
def p_RI (A M : xM) : Prop := (M 103 0 = A 6 0 ∧ M 103 8 = A 6 1 ∧ M 103 9 = A 7 0 ∧ M 103 10 = A 7 1 ∧ M 103 11 = A 6 4 ∧ M 103 12 = A 6 2 ∧ M 103 13 = A 6 3) ∧ (∀ f : Nat, (f : Int) < A 6 0 → p_RF M f (p_Fs A f)) ∧ (∀ k, 0 ≤ k → k < 8 → M 141 k = A 102 k) ∧ (M 103 42 = A 5 12 ∧ ∀ k i, 0 ≤ k → k < A 5 12 → 0 ≤ i → i < 6 → M (334 + k) i = A 100 (6 * k + i)) ∧ (∀ s, 0 ≤ s → s < 4 → M 544 s = A 544 s ∧ M 545 s = A 545 s ∧ ∀ i, 0 ≤ i → i < A 545 s → M (547 + s) i = A (547 + s) i) ∧ (∀ i, 0 ≤ i → i < 10 → M 552 i = A 552 i ∧ (A 552 i ≠ 0 → M 553 i = A 553 i) ∧ (A 552 i = 3 → M 554 i = A 554 i)) ∧ M 103 51 = A 5 2 ∧ (A 5 2 = 1 → p_KI A M)
/-- the reference's cells that only pass -/
def p_rsc (a k : Int) : Prop := (a = 103 ∧ ((15 ≤ k ∧ k ≤ 17) ∨ k = 25 ∨ (28 ≤ k ∧ k ≤ 33) ∨ (37 ≤ k ∧ k ≤ 39))) ∨ (142 ≤ a ∧ a ≤ 333) ∨ a = 551
/-- what the class does to a memory: not in the reference's cells -/
def p_cfr (M M1 : xM) : Prop := ∀ a k, 103 ≤ a → a < 593 → M1 a k = M a k
/-- what the reference does: not in the class's -/
def p_rfr (M M1 : xM) : Prop := x_tp M ≤ x_tp M1 ∧ (∀ a, a < x_tp M → x_tag M1 a = x_tag M a) ∧ (∀ a k, 0 ≤ a → a < 103 → M1 a k = M a k) ∧ ∀ a k, 593 ≤ a → a.toNat < x_tp M → M1 a k = M a k
theorem p_r16_fr {M M1 : xM} {r sort size : Int} (h : p_r16 M r sort size) (ht : x_tp M ≤ x_tp M1) (hg : ∀ a, a < x_tp M → x_tag M1 a = x_tag M a) (h0 : M1 r 0 = M r 0) (h1 : M1 r 1 = M r 1) : p_r16 M1 r sort size := by
  obtain ⟨q1, q2, q3, q4, q5, q6⟩ := h
  exact ⟨q1, by omega, by rw [hg _ (by omega)]; exact q3, by rw [hg _ (by omega)]; exact q4, h0.trans q5, h1.trans q6⟩
theorem p_CI_fr {A M M1 : xM} (h : p_CI A M) (ht : x_tp M ≤ x_tp M1) (hg : ∀ a, a < x_tp M → x_tag M1 a = x_tag M a) (h1 : ∀ a k, 0 ≤ a → a < 103 → ¬ p_cs a k → M1 a k = M a k) (h2 : ∀ a k, 593 ≤ a → a.toNat < x_tp M → M1 a k = M a k) : p_CI A M1 := by
  obtain ⟨q1, q2, q3, q4, q5, q6, q7, q8⟩ := h
  have ns : ∀ {a k : Int}, a < 36 ∨ 88 ≤ a → a ≠ 101 → ¬ p_cs a k := fun {a k} w1 w2 => by unfold p_cs p_stc; omega
  have e88 : ∀ s, M1 88 s = M 88 s := fun s => h1 88 s (by omega) (by omega) (ns (by omega) (by omega))
  have e9 : ∀ i k, 0 ≤ i → i < 10 → M1 (90 + i) k = M (90 + i) k := fun i k a b => h1 _ k (by omega) (by omega) (ns (by omega) (by omega))
  refine ⟨fun a k a1 a2 => ?_, ?_, ?_, fun k => ?_, fun k => ?_, ?_, ⟨fun s s1 s2 => ?_, fun s t s1 s2 t1 t2 => ?_⟩, fun i i1 i2 => ?_⟩
  · rw [h1 a k (by omega) (by omega) (ns (by omega) (by omega))]; exact q1 a k a1 a2
  · rw [h1 5 2 (by omega) (by omega) (ns (by omega) (by omega))]; exact q2
  · rw [h1 5 12 (by omega) (by omega) (ns (by omega) (by omega))]; exact q3
  · rw [h1 100 k (by omega) (by omega) (ns (by omega) (by omega))]; exact q4 k
  · rw [h1 102 k (by omega) (by omega) (ns (by omega) (by omega))]; exact q5 k
  · exact p_CW_fr q6 (fun a k a1 a2 a3 a4 => h1 a k (by omega) (by omega) (fun w => by
      unfold p_cs at w
      rcases w with w | w | w | w
      · exact a3 w
      · exact a4 w
      · omega
      · omega))
  · rw [e88]
    rcases q7.1 s s1 s2 with w | ⟨w1, w2, w3⟩
    · exact Or.inl w
    · have hr := w2
      obtain ⟨r1, r2, -⟩ := w2
      refine Or.inr ⟨w1, p_r16_fr hr ht hg (h2 _ _ (by omega) (by omega)) (h2 _ _ (by omega) (by omega)), fun i i1 i2 => ?_⟩
      rw [h2 _ _ (by omega) (by omega)]; exact w3 i i1 i2
  · rw [e88, e88]; exact q7.2 s t s1 s2 t1 t2
  · obtain ⟨w1, w2, w3, w4⟩ := q8 i i1 i2
    rw [e9 i 0 i1 i2, e9 i 1 i1 i2, e9 i 2 i1 i2]
    refine ⟨w1, w2, w3, fun w => ?_⟩
    have hr := w4 w
    have hr' := hr
    obtain ⟨r1, r2, -⟩ := hr'
    exact p_r16_fr hr ht hg (h2 _ _ (by omega) (by omega)) (h2 _ _ (by omega) (by omega))
theorem p_CI_rfr {A M M1 : xM} (h : p_CI A M) (hf : p_rfr M M1) : p_CI A M1 := p_CI_fr h hf.1 hf.2.1 (fun a k a1 a2 _ => hf.2.2.1 a k a1 a2) hf.2.2.2
theorem p_RI_fr {A M M1 : xM} (hA : p_WF A) (h : p_RI A M) (h1 : ∀ a k, 103 ≤ a → a < 593 → ¬ p_rsc a k → M1 a k = M a k) : p_RI A M1 := by
  obtain ⟨⟨a0, a1, a2, a3, a4, a5, a6⟩, q2, q3, ⟨q4, q5⟩, q6, q7, q8, q9⟩ := h
  have nr : ∀ {a k : Int}, (a = 103 ∧ (k < 15 ∨ (40 ≤ k))) ∨ (104 ≤ a ∧ a < 142) ∨ (334 ≤ a ∧ a ≠ 551) → ¬ p_rsc a k := fun {a k} w => by unfold p_rsc; omega
  have wm := hA.1
  refine ⟨⟨?_, ?_, ?_, ?_, ?_, ?_, ?_⟩, fun f hf => ?_, fun k k1 k2 => ?_, ⟨?_, fun k i k1 k2 i1 i2 => ?_⟩, fun s s1 s2 => ?_, fun i i1 i2 => ?_, ?_, fun w => ?_⟩
  · rw [h1 _ _ (by omega) (by omega) (nr (by omega))]; exact a0
  · rw [h1 _ _ (by omega) (by omega) (nr (by omega))]; exact a1
  · rw [h1 _ _ (by omega) (by omega) (nr (by omega))]; exact a2
  · rw [h1 _ _ (by omega) (by omega) (nr (by omega))]; exact a3
  · rw [h1 _ _ (by omega) (by omega) (nr (by omega))]; exact a4
  · rw [h1 _ _ (by omega) (by omega) (nr (by omega))]; exact a5
  · rw [h1 _ _ (by omega) (by omega) (nr (by omega))]; exact a6
  · have := wm.1
    exact p_RF_fr (by omega) (wm.2.2.2.2.2.2.2 f hf) (q2 f hf) (fun a b1 b2 => by funext k; exact h1 a k (by omega) (by omega) (nr (by omega)))
  · rw [h1 _ _ (by omega) (by omega) (nr (by omega))]; exact q3 k k1 k2
  · rw [h1 _ _ (by omega) (by omega) (nr (by omega))]; exact q4
  · have := hA.2.2.2.1
    rw [h1 _ _ (by omega) (by omega) (nr (by omega))]; exact q5 k i k1 k2 i1 i2
  · obtain ⟨b1, b2, b3⟩ := q6 s s1 s2
    refine ⟨?_, ?_, fun i i1 i2 => ?_⟩
    · rw [h1 _ _ (by omega) (by omega) (nr (by omega))]; exact b1
    · rw [h1 _ _ (by omega) (by omega) (nr (by omega))]; exact b2
    · rw [h1 _ _ (by omega) (by omega) (nr (by omega))]; exact b3 i i1 i2
  · obtain ⟨b1, b2, b3⟩ := q7 i i1 i2
    refine ⟨?_, fun w => ?_, fun w => ?_⟩
    · rw [h1 _ _ (by omega) (by omega) (nr (by omega))]; exact b1
    · rw [h1 _ _ (by omega) (by omega) (nr (by omega))]; exact b2 w
    · rw [h1 _ _ (by omega) (by omega) (nr (by omega))]; exact b3 w
  · rw [h1 _ _ (by omega) (by omega) (nr (by omega))]; exact q8
  · obtain ⟨c0, c1, c2, c3, c4, c5, c6, c7⟩ := q9 w
    have e : ∀ a k, 556 ≤ a → a < 593 → M1 a k = M a k := fun a k w1 w2 => h1 a k (by omega) (by omega) (nr (by omega))
    refine ⟨?_, ?_, ?_, ?_, ?_, ?_, ?_, fun f hf => ?_⟩
    · rw [h1 _ _ (by omega) (by omega) (nr (by omega))]; exact c0
    · rw [e _ _ (by omega) (by omega)]; exact c1
    · rw [e _ _ (by omega) (by omega)]; exact c2
    · rw [e _ _ (by omega) (by omega)]; exact c3
    · rw [e _ _ (by omega) (by omega)]; exact c4
    · rw [e _ _ (by omega) (by omega)]; exact c5
    · rw [e _ _ (by omega) (by omega)]; exact c6
    · have wk := hA.2.1
      have w1 := wk.1
      have wf := wk.2.2.2.2.2.2.2 f hf
      have hg := wf.2.2.1
      have hr := wf.2.2.2.1
      obtain ⟨d0, d1, d2, d3, d4, d5, d6⟩ := c7 f hf
      rw [show (21 : Int) + 3 + 4 * (f : Int) = 24 + 4 * f by omega] at hg hr
      refine ⟨?_, ?_, ?_, ?_, fun w g b1 b2 b3 b4 => ?_, fun i j b1 b2 b3 b4 => ?_, fun i b1 b2 => ?_⟩
      · rw [e _ _ (by omega) (by omega)]; exact d0
      · rw [e _ _ (by omega) (by omega)]; exact d1
      · rw [e _ _ (by omega) (by omega)]; exact d2
      · rw [e _ _ (by omega) (by omega)]; exact d3
      · rw [e _ _ (by omega) (by omega)]; exact d4 w g b1 b2 b3 b4
      · rw [e _ _ (by omega) (by omega)]; exact d5 i j b1 b2 b3 b4
      · rw [e _ _ (by omega) (by omega)]; exact d6 i b1 b2
theorem x_tp_eq {M M1 : xM} (h : M1 (-1) 0 = M (-1) 0) : x_tp M1 = x_tp M := by
  unfold x_tp
  rw [h]
theorem x_tag_eq {M M1 : xM} (h : ∀ k, M1 (-2) k = M (-2) k) (a : Nat) : x_tag M1 a = x_tag M a := by
  unfold x_tag
  rw [h]
theorem p_CI_sc {A M M1 : xM} (h : p_CI A M) (hfr : ∀ a k, ¬ p_cs a k → M1 a k = M a k) : p_CI A M1 :=
  p_CI_fr h (by rw [x_tp_eq (hfr (-1) 0 (by unfold p_cs p_stc; omega))]; exact Nat.le_refl _) (fun a _ => x_tag_eq (fun k => hfr (-2) k (by unfold p_cs p_stc; omega)) a) (fun a k _ _ w => hfr a k w) (fun a k w _ => hfr a k (by unfold p_cs p_stc; omega))
theorem p_RI_sc {A M M1 : xM} (hA : p_WF A) (h : p_RI A M) (hfr : ∀ a k, ¬ p_rsc a k → M1 a k = M a k) : p_RI A M1 := p_RI_fr hA h (fun a k _ _ w => hfr a k w)
theorem p_cfr_sc {M M1 : xM} (hfr : ∀ a k, ¬ p_cs a k → M1 a k = M a k) : p_cfr M M1 := fun a k w _ => hfr a k (by unfold p_cs p_stc; omega)
theorem p_rfr_sc {M M1 : xM} (hfr : ∀ a k, ¬ p_rsc a k → M1 a k = M a k) : p_rfr M M1 :=
  ⟨by rw [x_tp_eq (hfr (-1) 0 (by unfold p_rsc; omega))]; exact Nat.le_refl _, fun a _ => x_tag_eq (fun k => hfr (-2) k (by unfold p_rsc; omega)) a, fun a k w1 w2 => hfr a k (by unfold p_rsc; omega), fun a k w _ => hfr a k (by unfold p_rsc; omega)⟩
theorem p_cfr_tr {M M1 M2 : xM} (h : p_cfr M M1) (h' : p_cfr M1 M2) : p_cfr M M2 := fun a k w1 w2 => (h' a k w1 w2).trans (h a k w1 w2)
theorem p_rfr_tr {M M1 M2 : xM} (h : p_rfr M M1) (h' : p_rfr M1 M2) : p_rfr M M2 :=
  ⟨by have := h.1; have := h'.1; omega, fun a w => (h'.2.1 a (by have := h.1; omega)).trans (h.2.1 a w), fun a k w1 w2 => (h'.2.2.1 a k w1 w2).trans (h.2.2.1 a k w1 w2), fun a k w1 w2 => (h'.2.2.2 a k w1 (by have := h.1; omega)).trans (h.2.2.2 a k w1 w2)⟩
theorem p_cfr_rf (M : xM) : p_cfr M M := fun _ _ _ _ => rfl
theorem p_rfr_rf (M : xM) : p_rfr M M := ⟨Nat.le_refl _, fun _ _ => rfl, fun _ _ _ _ => rfl, fun _ _ _ _ => rfl⟩
theorem p_cfr_w {M : xM} {a k v : Int} (ha : a < 103 ∨ 593 ≤ a) : p_cfr M (x_wr M a k v) := fun b j w1 w2 => x_wr_ne _ _ (by omega)
theorem p_rfr_w {M : xM} {a k v : Int} (ha : 103 ≤ a ∧ a < 593) : p_rfr M (x_wr M a k v) := ⟨by rw [x_tp_wr _ _ _ (by omega)]; exact Nat.le_refl _, fun b _ => x_tag_wr _ _ _ (by omega) b, fun b j w1 w2 => x_wr_ne _ _ (by omega), fun b j w1 w2 => x_wr_ne _ _ (by omega)⟩
theorem x_wr_sm {A M : xM} {a k v b j : Int} (h : M b j = A b j) : x_wr M a k v b j = x_wr A a k v b j := by
  by_cases c : b = a ∧ j = k
  · rw [c.1, c.2, x_wr_eq, x_wr_eq]
  · rw [x_wr_ne _ _ c, x_wr_ne _ _ c]; exact h
theorem p_Fs_cg {A A' : xM} (h : ∀ a, 9 ≤ a → a ≤ 20 → A' a = A a) {f : Nat} (hf : f < 3) : p_Fs A' f = p_Fs A f := x_F_eq (fun a a1 a2 => h a (by omega) (by omega))
theorem p_CW_fr2 {M M1 : xM} {Fs Fs' : Nat → xM} {m : Nat} (h : p_CW M Fs m) (hF : ∀ f, f < m → Fs' f = Fs f) (h0 : M1 6 0 = M 6 0) (hfr : ∀ a k, (9 ≤ a ∧ a ≤ 20) ∨ (49 ≤ a ∧ a ≤ 75) → ¬ p_stc a k → M1 a k = M a k) : p_CW M1 Fs' m := by
  obtain ⟨h1, h2, h3⟩ := h
  have g : p_CW (fun a k => if (a = 6 ∧ k = 0) ∨ (9 ≤ a ∧ a ≤ 20) ∨ (49 ≤ a ∧ a ≤ 75) then M1 a k else M a k) Fs m := p_CW_fr ⟨h1, h2, h3⟩ (fun a k a1 a2 a3 a4 => by
    by_cases c : (a = 6 ∧ k = 0) ∨ (9 ≤ a ∧ a ≤ 20) ∨ (49 ≤ a ∧ a ≤ 75)
    · rw [if_pos c]
      rcases c with c | c
      · rw [c.1, c.2]; exact h0
      · exact hfr a k c a4
    · rw [if_neg c])
  refine ⟨h0.trans h1, h2, fun f hf => ?_⟩
  obtain ⟨g1, g2, g3, g4⟩ := g.2.2 f hf
  rw [hF f hf]
  have e : ∀ a, (9 ≤ a ∧ a ≤ 20) ∨ (49 ≤ a ∧ a ≤ 75) → (fun (a : Int) (k : Int) => if (a = 6 ∧ k = 0) ∨ (9 ≤ a ∧ a ≤ 20) ∨ (49 ≤ a ∧ a ≤ 75) then M1 a k else M a k) a = M1 a := by
    intro a w
    funext k
    exact if_pos (Or.inr w)
  refine ⟨g1, ?_, ?_, ?_⟩
  · rw [← g2]
    exact (x_F_eq (fun a a1 a2 => e a (by omega))).symm
  · obtain ⟨t1, t2⟩ := g3
    rw [e _ (by omega)] at t1
    refine ⟨t1, fun k k1 k2 => ?_⟩
    exact p_row_fr (e _ (by omega)).symm (e _ (by omega)).symm (e _ (by omega)).symm (t2 k k1 k2)
  · intro k k1 k2
    have := g4 k k1 k2
    rw [e _ (by omega), e _ (by omega), e _ (by omega)] at this
    exact this
theorem p_CI_w {A M : xM} {a k v : Int} (hA : p_WF A) (h : p_CI A M) (hc : (a = 6 ∧ k ≠ 0) ∨ a = 7 ∨ (21 ≤ a ∧ a ≤ 35) ∨ (a = 5 ∧ (k = 2 ∨ k = 12)) ∨ a = 100 ∨ a = 102) : p_CI (x_wr A a k v) (x_wr M a k v) := by
  obtain ⟨q1, q2, q3, q4, q5, q6, q7, q8⟩ := h
  have w0 := hA.1.1
  have ea : ∀ b j, 544 ≤ b → x_wr A a k v b j = A b j := fun b j w => x_wr_ne _ _ (by omega)
  have em : ∀ b j, (88 ≤ b ∧ b < 100) ∨ 593 ≤ b → x_wr M a k v b j = M b j := fun b j w => x_wr_ne _ _ (by omega)
  have ec : x_wr A a k v 6 0 = A 6 0 := x_wr_ne _ _ (by omega)
  refine ⟨fun b j b1 b2 => x_wr_sm (q1 b j b1 b2), x_wr_sm q2, x_wr_sm q3, fun j => x_wr_sm (q4 j), fun j => x_wr_sm (q5 j), ?_, ⟨fun s s1 s2 => ?_, fun s t s1 s2 t1 t2 => ?_⟩, fun i i1 i2 => ?_⟩
  · rw [ec]
    exact p_CW_fr2 q6 (fun f hf => p_Fs_cg (fun b b1 b2 => by funext j; exact x_wr_ne _ _ (by omega)) (by omega)) (x_wr_ne _ _ (by omega)) (fun b j w _ => x_wr_ne _ _ (by omega))
  · rw [ea _ _ (by omega), ea _ _ (by omega), em _ _ (by omega)]
    rcases q7.1 s s1 s2 with w | ⟨w1, w2, w3⟩
    · exact Or.inl w
    · have hr := w2
      obtain ⟨r1, r2, -⟩ := w2
      refine Or.inr ⟨w1, p_r16_fr hr (by rw [x_tp_wr _ _ _ (by omega)]; exact Nat.le_refl _) (fun b _ => x_tag_wr _ _ _ (by omega) b) (em _ _ (by omega)) (em _ _ (by omega)), fun i i1 i2 => ?_⟩
      rw [em _ _ (by omega), ea _ _ (by omega)]; exact w3 i i1 i2
  · rw [em _ _ (by omega), em _ _ (by omega), ea _ _ (by omega), ea _ _ (by omega)]; exact q7.2 s t s1 s2 t1 t2
  · obtain ⟨w1, w2, w3, w4⟩ := q8 i i1 i2
    rw [em _ 0 (by omega), em _ 1 (by omega), em _ 2 (by omega), ea _ _ (by omega), ea _ _ (by omega), ea _ _ (by omega)]
    refine ⟨w1, w2, w3, fun w => ?_⟩
    have hr := w4 w
    have hr' := hr
    obtain ⟨r1, r2, -⟩ := hr'
    exact p_r16_fr hr (by rw [x_tp_wr _ _ _ (by omega)]; exact Nat.le_refl _) (fun b _ => x_tag_wr _ _ _ (by omega) b) (em _ _ (by omega)) (em _ _ (by omega))
theorem p_KF_fr {M M1 : xM} {f : Int} (hf : 0 ≤ f ∧ f < 3) {F : xM} (hF : p_wf F) (h : p_KF M f F) (e : ∀ a k, 556 ≤ a → a < 593 → M1 a k = M a k) : p_KF M1 f F := by
  have hg := hF.2.2.1
  have hr := hF.2.2.2.1
  obtain ⟨d0, d1, d2, d3, d4, d5, d6⟩ := h
  refine ⟨?_, ?_, ?_, ?_, fun w g b1 b2 b3 b4 => ?_, fun i j b1 b2 b3 b4 => ?_, fun i b1 b2 => ?_⟩
  · rw [e _ _ (by omega) (by omega)]; exact d0
  · rw [e _ _ (by omega) (by omega)]; exact d1
  · rw [e _ _ (by omega) (by omega)]; exact d2
  · rw [e _ _ (by omega) (by omega)]; exact d3
  · rw [e _ _ (by omega) (by omega)]; exact d4 w g b1 b2 b3 b4
  · rw [e _ _ (by omega) (by omega)]; exact d5 i j b1 b2 b3 b4
  · rw [e _ _ (by omega) (by omega)]; exact d6 i b1 b2
theorem p_KI_fr {A A' M M1 : xM} (hA : p_WF A) (h : p_KI A M) (ea : ∀ a, 21 ≤ a → a ≤ 35 → A' a = A a) (em : ∀ a k, (a = 103 ∧ k = 52) ∨ (556 ≤ a ∧ a < 593) → M1 a k = M a k) : p_KI A' M1 := by
  obtain ⟨c0, c1, c2, c3, c4, c5, c6, c7⟩ := h
  have wk := hA.2.1
  have w1 := wk.1
  unfold p_KI
  rw [ea 21 (by omega) (by omega), ea 22 (by omega) (by omega), em _ _ (by omega), em _ _ (by omega), em _ _ (by omega), em _ _ (by omega), em _ _ (by omega), em _ _ (by omega), em _ _ (by omega)]
  refine ⟨c0, c1, c2, c3, c4, c5, c6, fun f hf => ?_⟩
  have wf := wk.2.2.2.2.2.2.2 f hf
  rw [show (21 : Int) + 3 + 4 * (f : Int) = 24 + 4 * f by omega] at wf
  rw [show x_F A' (24 + 4 * (f : Int)) = x_F A (24 + 4 * (f : Int)) from x_F_eq (fun a a1 a2 => ea a (by omega) (by omega))]
  exact p_KF_fr (by omega) wf (c7 f hf) (fun a k w1 w2 => em a k (by omega))
theorem p_RI_w {A M : xM} {a k b j v : Int} (hA : p_WF A) (h : p_RI A M) (hc : (a = 6 ∧ k = 1 ∧ b = 103 ∧ j = 8) ∨ (a = 7 ∧ k = 0 ∧ b = 103 ∧ j = 9) ∨ (a = 7 ∧ k = 1 ∧ b = 103 ∧ j = 10) ∨ (a = 6 ∧ k = 4 ∧ b = 103 ∧ j = 11) ∨ (a = 6 ∧ k = 2 ∧ b = 103 ∧ j = 12) ∨ (a = 6 ∧ k = 3 ∧ b = 103 ∧ j = 13) ∨ (a = 102 ∧ 0 ≤ k ∧ k < 8 ∧ b = 141 ∧ j = k)) : p_RI (x_wr A a k v) (x_wr M b j v) := by
  obtain ⟨⟨a0, a1, a2, a3, a4, a5, a6⟩, q2, q3, ⟨q4, q5⟩, q6, q7, q8, q9⟩ := h
  have w0 := hA.1.1
  have wp := hA.2.2.2.1
  have pr : ∀ {c d e f : Int}, M e f = A c d → ((c = a ∧ d = k) ↔ (e = b ∧ f = j)) → x_wr M b j v e f = x_wr A a k v c d := by
    intro c d e f h1 h2
    by_cases w : c = a ∧ d = k
    · have w2 := h2.mp w
      rw [w.1, w.2, w2.1, w2.2, x_wr_eq, x_wr_eq]
    · rw [x_wr_ne _ _ w, x_wr_ne _ _ (fun q => w (h2.mpr q))]; exact h1
  have ea : ∀ c d, (8 ≤ c ∧ c ≠ 102) ∨ c = 5 ∨ (c = 6 ∧ d = 0) → x_wr A a k v c d = A c d := fun c d w => x_wr_ne _ _ (by omega)
  have em : ∀ e f, (104 ≤ e ∧ e ≠ 141) ∨ (e = 103 ∧ (f = 0 ∨ 14 ≤ f)) → x_wr M b j v e f = M e f := fun e f w => x_wr_ne _ _ (by omega)
  have ef : ∀ f : Nat, f < 3 → p_Fs (x_wr A a k v) f = p_Fs A f := fun f hf => p_Fs_cg (fun c c1 c2 => by funext d; exact ea c d (by omega)) hf
  refine ⟨⟨pr a0 (by omega), pr a1 (by omega), pr a2 (by omega), pr a3 (by omega), pr a4 (by omega), pr a5 (by omega), pr a6 (by omega)⟩, fun f hf => ?_, fun i i1 i2 => pr (q3 i i1 i2) (by omega), ⟨pr q4 (by omega), fun i d i1 i2 d1 d2 => ?_⟩, fun s s1 s2 => ?_, fun i i1 i2 => ?_, pr q8 (by omega), fun w => ?_⟩
  · rw [ea 6 0 (by omega)] at hf
    rw [ef f (by omega)]
    obtain ⟨r0, r1, r2, r3, r4, r5, r6⟩ := q2 f hf
    have wf : p_wf (p_Fs A f) := hA.1.2.2.2.2.2.2.2 f hf
    have hg := wf.2.2.1
    have hr := wf.2.2.2.1
    refine ⟨?_, ?_, ?_, ?_, fun w g b1 b2 b3 b4 => ?_, fun i d b1 b2 b3 b4 => ?_, fun i b1 b2 => ?_⟩
    · rw [em _ _ (by omega)]; exact r0
    · rw [em _ _ (by omega)]; exact r1
    · rw [em _ _ (by omega)]; exact r2
    · rw [em _ _ (by omega)]; exact r3
    · rw [em _ _ (by omega)]; exact r4 w g b1 b2 b3 b4
    · rw [em _ _ (by omega)]; exact r5 i d b1 b2 b3 b4
    · rw [em _ _ (by omega)]; exact r6 i b1 b2
  · rw [ea 5 12 (by omega)] at i2
    rw [em _ _ (by omega), ea _ _ (by omega)]; exact q5 i d i1 i2 d1 d2
  · obtain ⟨b1, b2, b3⟩ := q6 s s1 s2
    rw [em _ _ (by omega), em _ _ (by omega), ea _ _ (by omega), ea _ _ (by omega)]
    refine ⟨b1, b2, fun i i1 i2 => ?_⟩
    rw [em _ _ (by omega), ea _ _ (by omega)]; exact b3 i i1 i2
  · rw [em _ _ (by omega), em _ _ (by omega), em _ _ (by omega), ea _ _ (by omega), ea _ _ (by omega), ea _ _ (by omega)]
    exact q7 i i1 i2
  · rw [ea _ _ (by omega)] at w
    exact p_KI_fr hA (q9 w) (fun c c1 c2 => by funext d; exact ea c d (by omega)) (fun e f w => em e f (by omega))
