/-! write, item, copy; sheet of the reference -/
theorem x_i2b_rg (x : Int) : -2147483648 ≤ x_i2b x ∧ x_i2b x < 2147483648 := x_rgI _
noncomputable def p_cut (sort v : Int) : Int := if sort = 0 then x_i2b (x_w v) else if sort = 1 then x_w v else v
theorem p_cut_rg {sort v : Int} (hv : -9223372036854775808 ≤ v ∧ v < 9223372036854775808) : -9223372036854775808 ≤ p_cut sort v ∧ p_cut sort v < 9223372036854775808 := by
  have h1 := x_i2b_rg (x_w v)
  have h2 : -2147483648 ≤ x_w v ∧ x_w v < 2147483648 := x_w_rg v
  unfold p_cut
  by_cases c : sort = 0
  · rw [if_pos c]; omega
  · rw [if_neg c]
    by_cases d : sort = 1
    · rw [if_pos d]; omega
    · rw [if_neg d]; exact hv
/-- sheets and spots alone -/
def p_wsh (A : xM) : Prop := ∀ s, 0 ≤ s → s < 4 → (-1 ≤ A 544 s ∧ A 544 s ≤ 2) ∧ (0 ≤ A 545 s ∧ A 545 s ≤ 40) ∧ (A 544 s < 0 → A 545 s = 0) ∧ ∀ i, 0 ≤ i → i < 40 → -9223372036854775808 ≤ A (547 + s) i ∧ A (547 + s) i < 9223372036854775808
def p_wsp (A : xM) : Prop := ∀ i, 0 ≤ i → i < 10 → (0 ≤ A 552 i ∧ A 552 i ≤ 3) ∧ (A 552 i = 1 ∨ A 552 i = 3 → 0 ≤ A 553 i) ∧ (-2147483648 ≤ A 553 i ∧ A 553 i < 2147483648) ∧ (-1 ≤ A 554 i ∧ A 554 i ≤ 2) ∧ (A 552 i = 3 → 0 ≤ A 554 i)
section P17
variable {l : Launch} {E : xE} {Q : Option xV → xM → Prop} {A M : xM}
theorem p_WF_s {A' : xM} (hA : p_WF A) (hA' : ∀ a k, a < 544 → A' a k = A a k) (h1 : p_wsh A') (h2 : p_wsp A') : p_WF A' := by
  have e : ∀ a, a < 544 → A' a = A a := fun a h => by funext k; exact hA' a k h
  have w : ∀ o, o = 6 ∨ o = 21 → p_wfW A o → p_wfW A' o := by
    intro o ho hw
    unfold p_wfW at *
    rw [e o (by omega), e (o + 1) (by omega)]
    refine ⟨hw.1, hw.2.1, hw.2.2.1, hw.2.2.2.1, hw.2.2.2.2.1, hw.2.2.2.2.2.1, hw.2.2.2.2.2.2.1, fun f hf => ?_⟩
    have hn := hw.1
    rw [show x_F A' (o + 3 + 4 * (f : Int)) = x_F A (o + 3 + 4 * (f : Int)) from x_F_eq (fun a a1 a2 => e a (by omega))]
    exact hw.2.2.2.2.2.2.2 f hf
  refine ⟨w 6 (by omega) hA.1, w 21 (by omega) hA.2.1, ?_, ?_, h1, h2, fun f f1 f2 => ?_⟩
  · rw [e 5 (by omega)]; exact hA.2.2.1
  · rw [e 5 (by omega)]; exact hA.2.2.2.1
  · rw [e (9 + 4 * f + 2) (by omega), e (9 + 4 * f + 3) (by omega)]; exact hA.2.2.2.2.2.2 f f1 f2
theorem p_CI_s {A' M1 : xM} (hA : p_WF A) (hC : p_CI A M) (hA' : ∀ a k, a < 544 → A' a k = A a k) (hM : ∀ a k, 0 ≤ a → a < 88 ∨ (100 ≤ a ∧ a < 103) → M1 a k = M a k) (h1 : p_sh A' M1) (h2 : p_sp A' M1) : p_CI A' M1 := by
  have w0 := hA.1.1
  obtain ⟨q1, q2, q3, q4, q5, q6, q7, q8⟩ := hC
  refine ⟨fun b j c1 c2 => ?_, ?_, ?_, fun j => ?_, fun j => ?_, ?_, h1, h2⟩
  · rw [hM b j (by omega) (by omega), hA' b j (by omega)]; exact q1 b j c1 c2
  · rw [hM _ _ (by omega) (by omega), hA' _ _ (by omega)]; exact q2
  · rw [hM _ _ (by omega) (by omega), hA' _ _ (by omega)]; exact q3
  · rw [hM _ _ (by omega) (by omega), hA' _ _ (by omega)]; exact q4 j
  · rw [hM _ _ (by omega) (by omega), hA' _ _ (by omega)]; exact q5 j
  · rw [hA' 6 0 (by omega)]
    exact p_CW_fr2 q6 (fun f hf => p_Fs_cg (fun b b1 b2 => by funext j; exact hA' b j (by omega)) (by omega)) (hM 6 0 (by omega) (by omega)) (fun b j w _ => hM b j (by omega) (by omega))
theorem p_RI_s {A' M1 : xM} (hA : p_WF A) (hR : p_RI A M) (hA' : ∀ a k, a < 544 → A' a k = A a k) (hM : ∀ a k, 103 ≤ a → a < 544 ∨ (555 ≤ a ∧ a < 593) → M1 a k = M a k) (h1 : ∀ s, 0 ≤ s → s < 4 → M1 544 s = A' 544 s ∧ M1 545 s = A' 545 s ∧ ∀ i, 0 ≤ i → i < A' 545 s → M1 (547 + s) i = A' (547 + s) i) (h2 : ∀ i, 0 ≤ i → i < 10 → M1 552 i = A' 552 i ∧ (A' 552 i ≠ 0 → M1 553 i = A' 553 i) ∧ (A' 552 i = 3 → M1 554 i = A' 554 i)) : p_RI A' M1 := by
  have w0 := hA.1.1
  have wp := hA.2.2.2.1
  obtain ⟨⟨a0, a1, a2, a3, a4, a5, a6⟩, q2, q3, ⟨q4, q5⟩, q6, q7, q8, q9⟩ := hR
  refine ⟨⟨?_, ?_, ?_, ?_, ?_, ?_, ?_⟩, fun f hf => ?_, fun i i1 i2 => ?_, ⟨?_, fun i d i1 i2 d1 d2 => ?_⟩, h1, h2, ?_, fun w => ?_⟩
  · rw [hA' _ _ (by omega), hM _ _ (by omega) (by omega)]; exact a0
  · rw [hA' _ _ (by omega), hM _ _ (by omega) (by omega)]; exact a1
  · rw [hA' _ _ (by omega), hM _ _ (by omega) (by omega)]; exact a2
  · rw [hA' _ _ (by omega), hM _ _ (by omega) (by omega)]; exact a3
  · rw [hA' _ _ (by omega), hM _ _ (by omega) (by omega)]; exact a4
  · rw [hA' _ _ (by omega), hM _ _ (by omega) (by omega)]; exact a5
  · rw [hA' _ _ (by omega), hM _ _ (by omega) (by omega)]; exact a6
  · rw [hA' 6 0 (by omega)] at hf
    rw [p_Fs_cg (A := A) (A' := A') (fun b b1 b2 => by funext j; exact hA' b j (by omega)) (by omega)]
    exact p_RF_fr (by omega) (hA.1.2.2.2.2.2.2.2 f hf) (q2 f hf) (fun a b1 b2 => by funext k; exact hM a k (by omega) (by omega))
  · rw [hM _ _ (by omega) (by omega), hA' _ _ (by omega)]; exact q3 i i1 i2
  · rw [hM _ _ (by omega) (by omega), hA' _ _ (by omega)]; exact q4
  · rw [hA' 5 12 (by omega)] at i2
    rw [hM _ _ (by omega) (by omega), hA' _ _ (by omega)]; exact q5 i d i1 i2 d1 d2
  · rw [hM _ _ (by omega) (by omega), hA' _ _ (by omega)]; exact q8
  · rw [hA' _ _ (by omega)] at w
    exact p_KI_fr hA (q9 w) (fun c c1 c2 => by funext d; exact hA' c d (by omega)) (fun e f w => hM e f (by omega) (by omega))
/-- a row's cells: the row, then its numbers -/
theorem p_r16_ne {r s : Int} {a b c d : Int} (h : p_r16 M r a b) (h' : p_r16 M s c d) : r ≠ s + 1 := by
  intro e
  have t1 := h.2.2.1
  have t2 := h'.2.2.2.1
  have r1 := h.1
  have s1 := h'.1
  rw [show r.toNat = s.toNat + 1 by omega, t2] at t1
  omega
noncomputable def o_write (A : xM) (s i v : Int) : Int × xM := p_if (0 ≤ s ∧ s < 4) (p_if (A 544 s < 0) (p_err A 5) (p_if (0 ≤ i ∧ i < A 545 s) (1, x_wr A (547 + s) i (p_cut (A 544 s) v)) (p_err A 0))) (p_err A 0)
/-- the numbers of a sheet's row change in both -/
theorem p_sh_n {A' M1 : xM} {s : Int} (hA : p_WF A) (hC : p_CI A M) (hs : 0 ≤ s ∧ s < 4) (h5 : 0 ≤ A 544 s) (hA' : ∀ a k, a ≠ 547 + s → A' a k = A a k) (hM : ∀ a k, a ≠ M 88 s + 1 → M1 a k = M a k) (e : ∀ i, 0 ≤ i → i < A 545 s → M1 (M 88 s + 1) i = A' (547 + s) i) : p_CI A' M1 ∧ p_cfr M M1 := by
  have q7 := hC.2.2.2.2.2.2.1
  have q8 := hC.2.2.2.2.2.2.2
  have own : p_r16 M (M 88 s) (A 544 s) (A 545 s) := by
    rcases q7.1 s hs.1 hs.2 with w | ⟨w1, w2, w3⟩
    · omega
    · exact w2
  have o1 := own.1
  have tp : x_tp M1 = x_tp M := x_tp_eq (hM _ _ (by omega))
  have tg : ∀ b, x_tag M1 b = x_tag M b := fun b => x_tag_eq (fun k => hM _ _ (by omega)) b
  refine ⟨p_CI_s hA hC (fun a k q => hA' a k (by omega)) (fun a k q1 q2 => hM a k (by omega)) ⟨fun t t1 t2 => ?_, fun t u t1 t2 u1 u2 => ?_⟩ (fun i i1 i2 => ?_), fun a k q1 q2 => hM a k (by omega)⟩
  · rw [hA' 544 t (by omega), hA' 545 t (by omega), hM 88 t (by omega)]
    rcases q7.1 t t1 t2 with w | ⟨w1, w2, w3⟩
    · exact Or.inl w
    · have hr := w2
      obtain ⟨r1, r2, -⟩ := w2
      refine Or.inr ⟨w1, p_r16_fr hr (by rw [tp]; exact Nat.le_refl _) (fun b _ => tg b) (hM _ _ (p_r16_ne hr own)) (hM _ _ (p_r16_ne hr own)), fun i i1 i2 => ?_⟩
      by_cases et : t = s
      · rw [et] at i2 ⊢
        exact e i i1 i2
      · have := q7.2 t s t1 t2 hs.1 hs.2 et w1 h5
        rw [hM _ _ (by omega), hA' _ _ (by omega)]; exact w3 i i1 i2
  · rw [hM _ _ (by omega), hM _ _ (by omega), hA' _ _ (by omega), hA' _ _ (by omega)]; exact q7.2 t u t1 t2 u1 u2
  · obtain ⟨w1, w2, w3, w4⟩ := q8 i i1 i2
    rw [hM _ 0 (by omega), hM _ 1 (by omega), hM _ 2 (by omega), hA' _ _ (by omega), hA' _ _ (by omega), hA' _ _ (by omega)]
    refine ⟨w1, w2, w3, fun w => ?_⟩
    have hr := w4 w
    exact p_r16_fr hr (by rw [tp]; exact Nat.le_refl _) (fun b _ => tg b) (hM _ _ (p_r16_ne hr own)) (hM _ _ (p_r16_ne hr own))
theorem k_lk (hA : p_WF A) (hC : p_CI A M) {s i : Int} (hs : 0 ≤ s ∧ s < 4) (h5 : 0 ≤ A 544 s) (h1 : ¬ (0 ≤ i ∧ i < A 545 s) → Q (some (0, 1)) M) (h0 : 0 ≤ i ∧ i < A 545 s → Q (some (0, 0)) M) : x_Ev l E (1, 0, 0) m_X6_lacks 0 [(9, M 88 s), (0, i)] [] M Q := by
  have ws := hA.2.2.2.2.1 s hs.1 hs.2
  rcases hC.2.2.2.2.2.2.1.1 s hs.1 hs.2 with w | ⟨w1, w2, w3⟩
  · omega
  obtain ⟨r1, r2, r3, r4, r5, r6⟩ := w2
  refine u_X6_lacks_0 _ i ?_
  rw [show M 88 s + 1 - 1 = M 88 s by omega, r6]
  exact ⟨fun c => h1 (by omega), fun c => ⟨by omega, by omega, fun d => h0 (by omega), fun d => h1 (by omega)⟩⟩
theorem k_88 (hC : p_CI A M) {s : Int} (hs : 0 ≤ s ∧ s < 4) : (M 88 s < 0 ↔ A 544 s < 0) ∧ (0 ≤ A 544 s → 593 ≤ M 88 s) := by
  rcases hC.2.2.2.2.2.2.1.1 s hs.1 hs.2 with w | ⟨w1, w2, w3⟩
  · omega
  · have := w2.1
    omega
theorem k_write (hA : p_WF A) (hC : p_CI A M) {s i v : Int} (h : ∀ M1, p_CI (o_write A s i v).2 M1 → p_cfr M M1 → Q (some (0, (o_write A s i v).1)) M1) : x_Ev l E (2, 0, 0) m_X10_write 0 [(20, 5), (0, s), (0, i), (1, v), (5, 0), (5, 0)] [] M Q := by
  unfold o_write at h
  refine u_X10_write_0 s i v (k_NS (fun c => x_n1 (by omega) ?_) (fun c => x_n0 ⟨by omega, ?_⟩))
  · rw [p_if_f c] at h
    exact k_tl hA hC (by omega) (fun M1 a b => ⟨_, rfl, h M1 a b⟩)
  rw [p_if_t c] at h
  obtain ⟨z1, z2⟩ := k_88 hC c
  refine ⟨fun d => ?_, fun d => ?_⟩
  · rw [p_if_f (by omega)] at h
    have h5 : 0 ≤ A 544 s := by omega
    refine ⟨by omega, k_lk hA hC c h5 (fun e => x_n1 (by omega) ?_) (fun e => x_n0 ⟨by omega, ?_⟩)⟩
    · rw [p_if_f e] at h
      exact k_tl hA hC (by omega) (fun M1 a b => ⟨_, rfl, h M1 a b⟩)
    · rw [p_if_t e] at h
      rcases hC.2.2.2.2.2.2.1.1 s c.1 c.2 with w | ⟨w1, w2, w3⟩
      · omega
      obtain ⟨r1, r2, r3, r4, r5, r6⟩ := w2
      have fin : ∀ (x : Int) (M1 : xM), x = p_cut (A 544 s) v → M1 = x_wr M (M 88 s + 1) i x → Q (some (0, 1)) M1 := by
        intro x M1 hx hM1
        obtain ⟨g1, g2⟩ := p_sh_n (A' := x_wr A (547 + s) i (p_cut (A 544 s) v)) (M1 := M1) hA hC c h5 (fun a k q => x_wr_ne _ _ (by omega)) (fun a k q => by rw [hM1]; exact x_wr_ne _ _ (by omega)) (fun j j1 j2 => by
          by_cases ej : j = i
          · rw [ej, hM1, x_wr_eq, x_wr_eq, hx]
          · rw [hM1, x_wr_ne _ _ (by omega), x_wr_ne _ _ (by omega)]; exact w3 j j1 j2)
        exact h M1 g1 g2
      refine u_X6_put_0 _ i v ?_
      rw [show M 88 s + 1 - 1 = M 88 s by omega, r6, r5]
      refine ⟨by omega, by omega, fun k0 => ⟨by omega, fun k1 => ⟨by omega, fun M1 hM1 => ⟨rfl, fin _ M1 ?_ hM1⟩⟩, fun k1 => ⟨by omega, fun M1 hM1 => ⟨rfl, fin _ M1 ?_ hM1⟩⟩⟩, fun k0 => ⟨by omega, fun M1 hM1 => ⟨rfl, fin _ M1 ?_ hM1⟩⟩⟩
      · unfold p_cut
        rw [if_neg k0, if_neg k1]
      · unfold p_cut
        rw [if_neg k0, if_pos k1]
      · unfold p_cut
        rw [if_pos k0]
  · rw [p_if_t (by omega)] at h
    exact k_tl hA hC (by omega) (fun M1 a b => ⟨_, rfl, h M1 a b⟩)
theorem r_wn (hA : p_WF A) (hR : p_RI A M) {s i : Int} (h1 : (0 ≤ s ∧ s < 4) → 0 ≤ A 544 s → (0 ≤ i ∧ i < A 545 s) → Q (some (0, -1)) M) (h2 : (0 ≤ s ∧ s < 4) → 0 ≤ A 544 s → ¬ (0 ≤ i ∧ i < A 545 s) → Q (some (0, 0)) M) (h3 : (0 ≤ s ∧ s < 4) → A 544 s < 0 → Q (some (0, 5)) M) (h4 : ¬ (0 ≤ s ∧ s < 4) → Q (some (0, 0)) M) : x_Ev l E (3, 0, 0) m_X11_whyNot 0 [(21, 103), (0, s), (0, i)] [] M Q := by
  refine u_X11_whyNot_0 s i (r_Sh (fun c => x_y1 (by omega) ⟨by omega, ?_⟩) (fun c => x_y0 (h4 c)))
  have ws := hA.2.2.2.2.1 s c.1 c.2
  obtain ⟨e1, e2, -⟩ := hR.2.2.2.2.1 s c.1 c.2
  rw [e1, e2, x_w_id (by omega) (by omega)]
  exact ⟨fun d => ⟨by omega, r_in (fun g => x_y1 (by omega) (h1 c d (by omega))) (fun g => x_y0 (h2 c d (by omega)))⟩, fun d => h3 c (by omega)⟩
theorem r_cell {A' M1 : xM} {s : Int} (hA : p_WF A) (hR : p_RI A M) (hs : 0 ≤ s ∧ s < 4) (hA' : ∀ a k, a ≠ 547 + s → A' a k = A a k) (hM : ∀ a k, a ≠ 547 + s → a ≠ 551 → M1 a k = M a k) (e : ∀ i, 0 ≤ i → i < A 545 s → M1 (547 + s) i = A' (547 + s) i) : p_RI A' M1 := by
  have q6 := hR.2.2.2.2.1
  have q7 := hR.2.2.2.2.2.1
  refine p_RI_s hA hR (fun a k q => hA' a k (by omega)) (fun a k q1 q2 => hM a k (by omega) (by omega)) (fun t t1 t2 => ?_) (fun i i1 i2 => ?_)
  · obtain ⟨b1, b2, b3⟩ := q6 t t1 t2
    rw [hM _ _ (by omega) (by omega), hM _ _ (by omega) (by omega), hA' _ _ (by omega), hA' _ _ (by omega)]
    refine ⟨b1, b2, fun i i1 i2 => ?_⟩
    by_cases et : t = s
    · rw [et] at i2 ⊢
      exact e i i1 i2
    · rw [hM _ _ (by omega) (by omega), hA' _ _ (by omega)]; exact b3 i i1 i2
  · rw [hM _ _ (by omega) (by omega), hM _ _ (by omega) (by omega), hM _ _ (by omega) (by omega), hA' _ _ (by omega), hA' _ _ (by omega), hA' _ _ (by omega)]
    exact q7 i i1 i2
theorem r_write (hA : p_WF A) (hR : p_RI A M) {s i v : Int} (h : ∀ M1, p_RI (o_write A s i v).2 M1 → p_rfr M M1 → Q (some (0, (o_write A s i v).1)) M1) : x_Ev l E (4, 0, 0) m_X11_write 0 [(21, 103), (0, s), (0, i), (1, v), (5, 0), (5, 0)] [] M Q := by
  unfold o_write at h
  refine u_X11_write_0 s i v (r_wn hA hR (fun c d e => ?_) (fun c d e => ?_) (fun c d => ?_) (fun c => ?_))
  · rw [p_if_t c, p_if_f (by omega), p_if_t e] at h
    have ws := hA.2.2.2.2.1 s c.1 c.2
    refine ⟨_, rfl, fun _ => ⟨by omega, by omega, ?_⟩, fun z => absurd (by omega) z⟩
    have fin : ∀ (x : Int) (M1 : xM), x = p_cut (A 544 s) v → M1 = x_wr M (546 + 1 + 1 * s) i x → Q (some (0, 1)) M1 := by
      intro x M1 hx hM1
      rw [show 546 + 1 + 1 * s = 547 + s by omega] at hM1
      refine h M1 (r_cell (A' := x_wr A (547 + s) i (p_cut (A 544 s) v)) hA hR c (fun a k q => x_wr_ne _ _ (by omega)) (fun a k q _ => by rw [hM1]; exact x_wr_ne _ _ (by omega)) (fun j j1 j2 => ?_)) (by rw [hM1]; exact p_rfr_w (by omega))
      by_cases ej : j = i
      · rw [ej, hM1, x_wr_eq, x_wr_eq, hx]
      · rw [hM1, x_wr_ne _ _ (by omega), x_wr_ne _ _ (by omega)]; exact (hR.2.2.2.2.1 s c.1 c.2).2.2 j j1 j2
    rw [(hR.2.2.2.2.1 s c.1 c.2).1]
    refine ⟨fun k0 => ⟨by omega, fun k1 => ⟨by omega, fun M1 hM1 => fin _ M1 ?_ hM1⟩, fun k1 => ⟨by omega, fun M1 hM1 => fin _ M1 ?_ hM1⟩⟩, fun k0 => ⟨by omega, fun M1 hM1 => fin _ M1 ?_ hM1⟩⟩
    · unfold p_cut
      rw [if_neg k0, if_neg k1]
    · unfold p_cut
      rw [if_neg k0, if_pos k1]
    · unfold p_cut
      rw [if_pos k0]
  · rw [p_if_t c, p_if_f (by omega), p_if_f e] at h
    exact ⟨_, rfl, fun z => by omega, fun _ => r_tl hA hR (by omega) (fun M1 a b => ⟨_, rfl, h M1 a b⟩)⟩
  · rw [p_if_t c, p_if_t d] at h
    exact ⟨_, rfl, fun z => by omega, fun _ => r_tl hA hR (by omega) (fun M1 a b => ⟨_, rfl, h M1 a b⟩)⟩
  · rw [p_if_f c] at h
    exact ⟨_, rfl, fun z => by omega, fun _ => r_tl hA hR (by omega) (fun M1 a b => ⟨_, rfl, h M1 a b⟩)⟩
theorem wf_write (hA : p_WF A) {s i v : Int} (hv : -9223372036854775808 ≤ v ∧ v < 9223372036854775808) : p_WF (o_write A s i v).2 := by
  unfold o_write
  by_cases c : 0 ≤ s ∧ s < 4
  · rw [p_if_t c]
    by_cases d : A 544 s < 0
    · rw [p_if_t d]; exact wf_tl hA 5
    · rw [p_if_f d]
      by_cases e : 0 ≤ i ∧ i < A 545 s
      · rw [p_if_t e]
        refine p_WF_s (A' := x_wr A (547 + s) i (p_cut (A 544 s) v)) hA (fun a k q => x_wr_ne _ _ (by omega)) (fun t t1 t2 => ?_) (fun j j1 j2 => ?_)
        · obtain ⟨g1, g2, g3, g4⟩ := hA.2.2.2.2.1 t t1 t2
          rw [x_wr_ne _ _ (by omega), x_wr_ne _ _ (by omega)]
          refine ⟨g1, g2, g3, fun j j1 j2 => ?_⟩
          by_cases q : 547 + t = 547 + s ∧ j = i
          · rw [q.1, q.2, x_wr_eq]; exact p_cut_rg hv
          · rw [x_wr_ne _ _ q]; exact g4 j j1 j2
        · rw [x_wr_ne _ _ (by omega), x_wr_ne _ _ (by omega), x_wr_ne _ _ (by omega)]; exact hA.2.2.2.2.2.1 j j1 j2
      · rw [p_if_f e]; exact wf_tl hA 0
  · rw [p_if_f c]; exact wf_tl hA 0
noncomputable def o_item (A : xM) (s i : Int) : Int × xM := p_if (0 ≤ s ∧ s < 4) (p_if (A 544 s < 0) (p_erL A 5) (p_if (0 ≤ i ∧ i < A 545 s) (A (547 + s) i, A) (p_erL A 0))) (p_erL A 0)
theorem k_item (hA : p_WF A) (hC : p_CI A M) {s i : Int} (h : ∀ M1, p_CI (o_item A s i).2 M1 → p_cfr M M1 → Q (some (1, (o_item A s i).1)) M1) : x_Ev l E (2, 0, 0) m_X10_item 0 [(20, 5), (0, s), (0, i), (5, 0)] [] M Q := by
  unfold o_item at h
  refine u_X10_item_0 s i (k_NS (fun c => x_n1 (by omega) ?_) (fun c => x_n0 ⟨by omega, ?_⟩))
  · rw [p_if_f c] at h
    exact k_tL hA hC (by omega) (fun M1 a b => ⟨_, rfl, h M1 a b⟩)
  rw [p_if_t c] at h
  obtain ⟨z1, z2⟩ := k_88 hC c
  refine ⟨fun d => ?_, fun d => ?_⟩
  · rw [p_if_f (by omega)] at h
    have h5 : 0 ≤ A 544 s := by omega
    refine ⟨by omega, k_lk hA hC c h5 (fun e => x_n1 (by omega) ?_) (fun e => x_n0 ⟨by omega, ?_⟩)⟩
    · rw [p_if_f e] at h
      exact k_tL hA hC (by omega) (fun M1 a b => ⟨_, rfl, h M1 a b⟩)
    · rw [p_if_t e] at h
      rcases hC.2.2.2.2.2.2.1.1 s c.1 c.2 with w | ⟨w1, w2, w3⟩
      · omega
      obtain ⟨r1, r2, r3, r4, r5, r6⟩ := w2
      rw [show M 88 s + 1 - 1 = M 88 s by omega, r6, w3 i e.1 e.2]
      exact ⟨by omega, h M hC (p_cfr_rf M)⟩
  · rw [p_if_t (by omega)] at h
    exact k_tL hA hC (by omega) (fun M1 a b => ⟨_, rfl, h M1 a b⟩)
theorem r_item (hA : p_WF A) (hR : p_RI A M) {s i : Int} (h : ∀ M1, p_RI (o_item A s i).2 M1 → p_rfr M M1 → Q (some (1, (o_item A s i).1)) M1) : x_Ev l E (4, 0, 0) m_X11_item 0 [(21, 103), (0, s), (0, i), (5, 0)] [] M Q := by
  unfold o_item at h
  refine u_X11_item_0 s i (r_wn hA hR (fun c d e => ?_) (fun c d e => ?_) (fun c d => ?_) (fun c => ?_))
  · rw [p_if_t c, p_if_f (by omega), p_if_t e] at h
    have ws := hA.2.2.2.2.1 s c.1 c.2
    refine ⟨_, rfl, fun _ => ⟨by omega, by omega, ?_⟩, fun z => absurd (by omega) z⟩
    rw [show 546 + 1 + 1 * s = 547 + s by omega, (hR.2.2.2.2.1 s c.1 c.2).2.2 i e.1 e.2]
    exact h M hR (p_rfr_rf M)
  · rw [p_if_t c, p_if_f (by omega), p_if_f e] at h
    exact ⟨_, rfl, fun z => by omega, fun _ => r_tL hA hR (by omega) (fun M1 a b => ⟨_, rfl, h M1 a b⟩)⟩
  · rw [p_if_t c, p_if_t d] at h
    exact ⟨_, rfl, fun z => by omega, fun _ => r_tL hA hR (by omega) (fun M1 a b => ⟨_, rfl, h M1 a b⟩)⟩
  · rw [p_if_f c] at h
    exact ⟨_, rfl, fun z => by omega, fun _ => r_tL hA hR (by omega) (fun M1 a b => ⟨_, rfl, h M1 a b⟩)⟩
theorem wf_item (hA : p_WF A) (s i : Int) : p_WF (o_item A s i).2 := by
  unfold o_item
  by_cases c : 0 ≤ s ∧ s < 4
  · rw [p_if_t c]
    by_cases d : A 544 s < 0
    · rw [p_if_t d]; exact wf_tl hA 5
    · rw [p_if_f d]
      by_cases e : 0 ≤ i ∧ i < A 545 s
      · rw [p_if_t e]; exact hA
      · rw [p_if_f e]; exact wf_tl hA 0
  · rw [p_if_f c]; exact wf_tl hA 0
noncomputable def o_copy (A : xM) (s i t j n : Int) : Int × xM := p_if ((0 ≤ s ∧ s < 4) ∧ 0 ≤ t ∧ t < 4) (p_if (A 544 s < 0 ∨ A 544 t < 0) (p_err A 5) (p_if (A 544 s = A 544 t) (p_if ((0 ≤ i ∧ 0 ≤ j ∧ 0 ≤ n) ∧ i + n ≤ A 545 s ∧ j + n ≤ A 545 t) (n, x_cpy A (547 + s) i (547 + t) j n) (p_err A 0)) (p_err A 2))) (p_err A 0)
theorem k_copy (hA : p_WF A) (hC : p_CI A M) {s i t j n : Int} (hi : -2147483648 ≤ i ∧ i < 2147483648) (hj : -2147483648 ≤ j ∧ j < 2147483648) (h : ∀ M1, p_CI (o_copy A s i t j n).2 M1 → p_cfr M M1 → Q (some (0, (o_copy A s i t j n).1)) M1) : x_Ev l E (2, 0, 0) m_X10_copy 0 [(20, 5), (0, s), (0, i), (0, t), (0, j), (0, n), (5, 0), (5, 0)] [] M Q := by
  unfold o_copy at h
  have bad : ¬ ((0 ≤ s ∧ s < 4) ∧ 0 ≤ t ∧ t < 4) → x_Ev l E (1, 0, 0) m_X10_tell 0 [(20, 5), (0, 0)] [] M (fun r M3 => ∃ z, r = some (0, z) ∧ Q (some (0, z)) M3) := fun c => by
    rw [p_if_f c] at h
    exact k_tl hA hC (by omega) (fun M1 a b => ⟨_, rfl, h M1 a b⟩)
  refine u_X10_copy_0 s i t j n (k_NS (fun c => x_y1 (by omega) (bad (fun q => c q.1))) (fun c => x_y0 (k_NS (fun d => x_n1 (by omega) (bad (fun q => d q.2))) (fun d => x_n0 ⟨by omega, by omega, ?_⟩))))
  rw [p_if_t ⟨c, d⟩] at h
  obtain ⟨z1, z2⟩ := k_88 hC c
  obtain ⟨y1, y2⟩ := k_88 hC d
  have ws := hA.2.2.2.2.1 s c.1 c.2
  have wt := hA.2.2.2.2.1 t d.1 d.2
  have mis : (A 544 s < 0 ∨ A 544 t < 0) → x_Ev l E (1, 0, 0) m_X10_tell 0 [(20, 5), (0, 5)] [] M (fun r M3 => ∃ z, r = some (0, z) ∧ Q (some (0, z)) M3) := fun c => by
    rw [p_if_t c] at h
    exact k_tl hA hC (by omega) (fun M1 a b => ⟨_, rfl, h M1 a b⟩)
  refine ⟨fun e => mis (by omega), fun e => ⟨fun e2 => ⟨by omega, by omega, ?_⟩, fun e2 => mis (by omega)⟩⟩
  have h5 : 0 ≤ A 544 s := by omega
  have h6 : 0 ≤ A 544 t := by omega
  rw [p_if_f (by omega)] at h
  rcases hC.2.2.2.2.2.2.1.1 s c.1 c.2 with w | ⟨w1, w2, w3⟩
  · omega
  rcases hC.2.2.2.2.2.2.1.1 t d.1 d.2 with v | ⟨v1, v2, v3⟩
  · omega
  obtain ⟨r1, r2, r3, r4, r5, r6⟩ := w2
  obtain ⟨p1, p2, p3, p4, p5, p6⟩ := v2
  rw [r5, p5, show M 88 s + 1 - 1 = M 88 s by omega, show M 88 t + 1 - 1 = M 88 t by omega, r6, p6]
  refine ⟨fun g => ?_, fun g => ?_⟩
  · rw [p_if_t g] at h
    have b2 : ¬ ((0 ≤ i ∧ 0 ≤ j ∧ 0 ≤ n) ∧ i + n ≤ A 545 s ∧ j + n ≤ A 545 t) → x_Ev l E (1, 0, 0) m_X10_tell 0 [(20, 5), (0, 0)] [] M (fun r M3 => ∃ z, r = some (0, z) ∧ Q (some (0, z)) M3) := fun c => by
      rw [p_if_f c] at h
      exact k_tl hA hC (by omega) (fun M1 a b => ⟨_, rfl, h M1 a b⟩)
    refine ⟨fun g1 => b2 (by omega), fun g1 => ⟨fun g2 => b2 (by omega), fun g2 => ⟨fun g3 => b2 (by omega), fun g3 => ⟨by omega, by omega, ?_⟩⟩⟩⟩
    rw [x_w_id (x := A 545 s - i) (by omega) (by omega), x_w_id (x := A 545 t - j) (by omega) (by omega)]
    refine ⟨fun g4 => b2 (by omega), fun g4 => ⟨by omega, by omega, fun g5 => ⟨by omega, by omega, by omega, ?_⟩, fun g5 => b2 (by omega)⟩⟩
    rw [p_if_t (by omega)] at h
    intro M1 hM1
    obtain ⟨x1, x2⟩ := p_sh_n (A' := x_cpy A (547 + s) i (547 + t) j n) (M1 := M1) hA hC d h6 (fun a k q => x_cpy_out _ (by omega)) (fun a k q => by rw [hM1]; exact x_cpy_out _ (by omega)) (fun k k1 k2 => by
      by_cases ck : j ≤ k ∧ k < j + n
      · rw [hM1, x_cpy_in _ ck.1 ck.2, x_cpy_in _ ck.1 ck.2]
        exact w3 _ (by omega) (by omega)
      · rw [hM1, x_cpy_out _ (by omega), x_cpy_out _ (by omega)]; exact v3 k k1 k2)
    exact h M1 x1 x2
  · rw [p_if_f g] at h
    exact k_tl hA hC (by omega) (fun M1 a b => ⟨_, rfl, h M1 a b⟩)
theorem r_copy (hA : p_WF A) (hR : p_RI A M) {s i t j n : Int} (hi : -2147483648 ≤ i ∧ i < 2147483648) (hj : -2147483648 ≤ j ∧ j < 2147483648) (hn : -2147483648 ≤ n ∧ n < 2147483648) (h : ∀ M1, p_RI (o_copy A s i t j n).2 M1 → p_rfr M M1 → Q (some (0, (o_copy A s i t j n).1)) M1) : x_Ev l E (3, 0, 0) m_X11_copy 0 [(21, 103), (0, s), (0, i), (0, t), (0, j), (0, n), (5, 0)] [] M Q := by
  unfold o_copy at h
  have bad : ¬ ((0 ≤ s ∧ s < 4) ∧ 0 ≤ t ∧ t < 4) → x_Ev l E (1, 0, 0) m_X11_finds 0 [(21, 103), (0, 0)] [] M (fun r M3 => ∃ z, r = some (0, z) ∧ Q (some (0, z)) M3) := fun c => by
    rw [p_if_f c] at h
    exact r_tl hA hR (by omega) (fun M1 a b => ⟨_, rfl, h M1 a b⟩)
  refine u_X11_copy_0 s i t j n (r_Sh (fun c => x_n1 (by omega) (r_Sh (fun d => x_y1 (by omega) ⟨by omega, ?_⟩) (fun d => x_y0 (bad (fun q => d q.2))))) (fun c => x_n0 (bad (fun q => c q.1))))
  rw [p_if_t ⟨c, d⟩] at h
  have ws := hA.2.2.2.2.1 s c.1 c.2
  have wt := hA.2.2.2.2.1 t d.1 d.2
  obtain ⟨a1, a2, a3⟩ := hR.2.2.2.2.1 s c.1 c.2
  obtain ⟨b1, b2, b3⟩ := hR.2.2.2.2.1 t d.1 d.2
  have mis : (A 544 s < 0 ∨ A 544 t < 0) → x_Ev l E (1, 0, 0) m_X11_finds 0 [(21, 103), (0, 5)] [] M (fun r M3 => ∃ z, r = some (0, z) ∧ Q (some (0, z)) M3) := fun c => by
    rw [p_if_t c] at h
    exact r_tl hA hR (by omega) (fun M1 a b => ⟨_, rfl, h M1 a b⟩)
  rw [a1, b1, a2, b2]
  refine ⟨fun e => mis (by omega), fun e => ⟨by omega, fun e2 => ⟨by omega, by omega, ?_⟩, fun e2 => mis (by omega)⟩⟩
  rw [p_if_f (by omega)] at h
  refine ⟨fun g => ?_, fun g => ?_⟩
  · rw [p_if_t g] at h
    have bb : ¬ ((0 ≤ i ∧ 0 ≤ j ∧ 0 ≤ n) ∧ i + n ≤ A 545 s ∧ j + n ≤ A 545 t) → x_Ev l E (1, 0, 0) m_X11_finds 0 [(21, 103), (0, 0)] [] M (fun r M3 => ∃ z, r = some (0, z) ∧ Q (some (0, z)) M3) := fun c => by
      rw [p_if_f c] at h
      exact r_tl hA hR (by omega) (fun M1 a b => ⟨_, rfl, h M1 a b⟩)
    rw [x_W_id (x := i + n) (by omega) (by omega), x_W_id (x := j + n) (by omega) (by omega)]
    refine ⟨fun g1 => bb (by omega), fun g1 => ⟨fun g2 => bb (by omega), fun g2 => ⟨fun g3 => bb (by omega), fun g3 => ⟨by omega, fun g4 => bb (by omega), fun g4 => ⟨by omega, fun g5 => ?_, fun g5 => bb (by omega)⟩⟩⟩⟩⟩
    rw [p_if_t (by omega)] at h
    have second : ∀ (m : Nat) (k : Int) (M0 M' : xM), n - k ≤ m → 0 ≤ k → k ≤ n → (∀ a x, a ≠ 551 → M0 a x = M a x) → (∀ x, 0 ≤ x → x < n → M0 551 x = A (547 + s) (i + x)) → (∀ a x, a ≠ 547 + t → M' a x = M0 a x) → (∀ x, ¬ (j ≤ x ∧ x < j + k) → M' (547 + t) x = M (547 + t) x) → (∀ x, j ≤ x → x < j + k → M' (547 + t) x = A (547 + s) (i + (x - j))) → x_Ev l E (3, 0, 0) m_X11_copy 157 [(21, 103), (0, s), (0, i), (0, t), (0, j), (0, n), (0, k)] [] M' Q := by
      intro m
      induction m with
      | zero =>
        intro k M0 M' hm k0 k1 f0 f1 f2 f3 f4
        refine u_X11_copy_157 s i t j n k ⟨fun _ => ?_, fun z => by omega⟩
        refine h M' (r_cell (A' := x_cpy A (547 + s) i (547 + t) j n) hA hR d (fun a x q => x_cpy_out _ (by omega)) (fun a x q1 q2 => by rw [f2 a x q1, f0 a x q2]) (fun x x1 x2 => ?_)) (p_rfr_o (fun a x q => by rw [f2 a x (by omega), f0 a x (by omega)]))
        by_cases cx : j ≤ x ∧ x < j + n
        · rw [x_cpy_in _ cx.1 cx.2]; exact f4 x cx.1 (by omega)
        · rw [x_cpy_out _ (by omega), f3 x (by omega)]; exact b3 x x1 x2
      | succ m ih =>
        intro k M0 M' hm k0 k1 f0 f1 f2 f3 f4
        by_cases ek : k = n
        · exact ih k M0 M' (by omega) k0 k1 f0 f1 f2 f3 f4
        refine u_X11_copy_157 s i t j n k ⟨fun z => by omega, fun z => ⟨by omega, by omega, ?_⟩⟩
        rw [show 546 + 1 + 1 * t = 547 + t by omega, x_w_id (x := j + k) (by omega) (by omega), f2 551 k (by omega), f1 k k0 (by omega)]
        refine ⟨by omega, ?_⟩
        intro M1 hM1 v hv
        rw [x_w_id (by omega) (by omega)] at hv
        rw [hv]
        refine ih (k + 1) M0 M1 (by omega) (by omega) (by omega) f0 f1 (fun a x q => by rw [hM1, x_wr_ne _ _ (by omega)]; exact f2 a x q) (fun x q => by rw [hM1, x_wr_ne _ _ (by omega)]; exact f3 x (by omega)) (fun x x1 x2 => ?_)
        by_cases ex : x = j + k
        · rw [ex, hM1, x_wr_eq, show j + k - j = k by omega]
        · rw [hM1, x_wr_ne _ _ (by omega)]; exact f4 x x1 (by omega)
    have first : ∀ (m : Nat) (k : Int) (M' : xM), n - k ≤ m → 0 ≤ k → k ≤ n → (∀ a x, a ≠ 551 → M' a x = M a x) → (∀ x, 0 ≤ x → x < k → M' 551 x = A (547 + s) (i + x)) → x_Ev l E (3, 0, 0) m_X11_copy 123 [(21, 103), (0, s), (0, i), (0, t), (0, j), (0, n), (0, k)] [] M' Q := by
      intro m
      induction m with
      | zero =>
        intro k M' hm k0 k1 f0 f1
        refine u_X11_copy_123 s i t j n k ⟨fun _ => ?_, fun z => by omega⟩
        exact second n.toNat 0 M' M' (by omega) (by omega) (by omega) f0 (fun x x1 x2 => f1 x x1 (by omega)) (fun _ _ _ => rfl) (fun x q => f0 _ _ (by omega)) (fun x x1 x2 => by omega)
      | succ m ih =>
        intro k M' hm k0 k1 f0 f1
        by_cases ek : k = n
        · exact ih k M' (by omega) k0 k1 f0 f1
        refine u_X11_copy_123 s i t j n k ⟨fun z => by omega, fun z => ⟨by omega, ?_⟩⟩
        rw [show 546 + 1 + 1 * s = 547 + s by omega, x_w_id (x := i + k) (by omega) (by omega), f0 _ _ (by omega), a3 (i + k) (by omega) (by omega)]
        refine ⟨by omega, by omega, ?_⟩
        intro M1 hM1 v hv
        rw [x_w_id (by omega) (by omega)] at hv
        rw [hv]
        refine ih (k + 1) M1 (by omega) (by omega) (by omega) (fun a x q => by rw [hM1, x_wr_ne _ _ (by omega)]; exact f0 a x q) (fun x x1 x2 => ?_)
        by_cases ex : x = k
        · rw [ex, hM1, x_wr_eq]
        · rw [hM1, x_wr_ne _ _ (by omega)]; exact f1 x x1 (by omega)
    exact first n.toNat 0 M (by omega) (by omega) (by omega) (fun _ _ _ => rfl) (fun x x1 x2 => by omega)
  · rw [p_if_f g] at h
    exact r_tl hA hR (by omega) (fun M1 a b => ⟨_, rfl, h M1 a b⟩)
theorem wf_copy (hA : p_WF A) (s i t j n : Int) : p_WF (o_copy A s i t j n).2 := by
  unfold o_copy
  by_cases c : (0 ≤ s ∧ s < 4) ∧ 0 ≤ t ∧ t < 4
  · rw [p_if_t c]
    by_cases d : A 544 s < 0 ∨ A 544 t < 0
    · rw [p_if_t d]; exact wf_tl hA 5
    · rw [p_if_f d]
      by_cases e : A 544 s = A 544 t
      · rw [p_if_t e]
        by_cases g : (0 ≤ i ∧ 0 ≤ j ∧ 0 ≤ n) ∧ i + n ≤ A 545 s ∧ j + n ≤ A 545 t
        · rw [p_if_t g]
          have ws := hA.2.2.2.2.1 s c.1.1 c.1.2
          refine p_WF_s (A' := x_cpy A (547 + s) i (547 + t) j n) hA (fun a k q => x_cpy_out _ (by omega)) (fun x x1 x2 => ?_) (fun x x1 x2 => ?_)
          · obtain ⟨g1, g2, g3, g4⟩ := hA.2.2.2.2.1 x x1 x2
            rw [x_cpy_out _ (by omega), x_cpy_out _ (by omega)]
            refine ⟨g1, g2, g3, fun k k1 k2 => ?_⟩
            by_cases q : x = t ∧ j ≤ k ∧ k < j + n
            · rw [q.1, x_cpy_in _ q.2.1 q.2.2]; exact ws.2.2.2 _ (by omega) (by omega)
            · rw [x_cpy_out _ (by omega)]; exact g4 k k1 k2
          · rw [x_cpy_out _ (by omega), x_cpy_out _ (by omega), x_cpy_out _ (by omega)]; exact hA.2.2.2.2.2.1 x x1 x2
        · rw [p_if_f g]; exact wf_tl hA 0
      · rw [p_if_f e]; exact wf_tl hA 2
  · rw [p_if_f c]; exact wf_tl hA 0
end P17
