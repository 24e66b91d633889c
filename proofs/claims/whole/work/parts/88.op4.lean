/-! loosen, rowOf, most, term, termOf -/
theorem p_drop_ne {A : xM} {w row a k : Int} (h : ¬ (w ≤ a ∧ a ≤ w + 3)) : p_drop A w row a k = A a k := by
  unfold p_drop
  rw [x_wr_ne _ _ (by omega)]
  unfold p_dro
  rw [if_neg (by omega), if_neg (by omega)]
theorem p_drop_sm {A M : xM} {w row a k : Int} (hw : ∀ a k, w ≤ a → a ≤ w + 3 → M a k = A a k) (ha : w ≤ a) (ha2 : a ≤ w + 3) : p_drop M w row a k = p_drop A w row a k := by
  unfold p_drop
  rw [hw w 3 (by omega) (by omega)]
  refine x_wr_sm ?_
  unfold p_dro
  rw [hw a (k + 3) ha ha2, hw a (k + 1) ha ha2, hw a k ha ha2]
theorem p_drop_3 {A : xM} {w row : Int} : p_drop A w row w 3 = A w 3 - 1 := x_wr_eq ..
theorem p_drop_0 {A : xM} {w row k : Int} (hk : k ≠ 3) : p_drop A w row w k = A w k := by
  unfold p_drop
  rw [x_wr_ne _ _ (by omega)]
  unfold p_dro
  rw [if_neg (by omega), if_neg (by omega)]
theorem p_drop_1 {A : xM} {w row k : Int} : p_drop A w row (w + 1) k = A (w + 1) k := by
  unfold p_drop
  rw [x_wr_ne _ _ (by omega)]
  unfold p_dro
  rw [if_neg (by omega), if_neg (by omega)]
theorem p_drop_2 {A : xM} {w row k : Int} : p_drop A w row (w + 2) k = if 3 * row ≤ k ∧ k < 3 * (A w 3 - 1) then A (w + 2) (k + 3) else A (w + 2) k := by
  unfold p_drop
  rw [x_wr_ne _ _ (by omega)]
  unfold p_dro
  by_cases c : 3 * row ≤ k ∧ k < 3 * (A w 3 - 1)
  · rw [if_pos c, if_pos (by omega)]
  · rw [if_neg c, if_neg (by omega), if_neg (by omega)]
theorem p_drop_b {A : xM} {w row k : Int} : p_drop A w row (w + 3) k = if row ≤ k ∧ k < A w 3 - 1 then A (w + 3) (k + 1) else A (w + 3) k := by
  unfold p_drop
  rw [x_wr_ne _ _ (by omega)]
  unfold p_dro
  by_cases c : row ≤ k ∧ k < A w 3 - 1
  · rw [if_neg (by omega), if_pos c, if_pos (by omega)]
  · rw [if_neg (by omega), if_neg c, if_neg (by omega)]
section O4
variable {l : Launch} {E : xE} {Q : Option xV → xM → Prop} {A M : xM}
theorem p_drop_wf (hA : p_WF A) {f : Int} (hf : 0 ≤ f ∧ f < A 6 0) {row : Int} (hr : 1 ≤ row ∧ row < A (9 + 4 * f) 3) : p_wf (p_Fs (p_drop A (9 + 4 * f) row) f.toNat) := by
  have w := p_WF_f hA hf
  have gd := p_gd hA hf
  have hn := w.2.2.2.2.2.1
  have hm := w.2.2.2.2.2.2.1
  have hbb := w.2.2.2.2.2.2.2
  refine p_wf_R w (fun k q => ?_) ?_ ?_ (fun k k1 k2 => ?_) (fun k k1 k2 => ?_) (fun k k1 k2 => ?_)
  · rw [p_Fs0 _ hf.1, p_Fs0 A hf.1, p_drop_0 q]
  · rw [p_Fs0 _ hf.1, p_drop_3]; omega
  · funext k
    rw [p_Fs1 _ hf.1, p_Fs1 A hf.1, p_drop_1]
  · rw [p_Fs2 _ hf.1, p_drop_2]
    by_cases c : 3 * row ≤ k ∧ k < 3 * (A (9 + 4 * f) 3 - 1)
    · have := hn (k + 3) (by omega) (by omega)
      rw [p_Fs2 A hf.1] at this
      rw [if_pos c]; exact this
    · have := hn k k1 k2
      rw [p_Fs2 A hf.1] at this
      rw [if_neg c]; exact this
  · have := hm k k1 k2
    rw [p_Fs2 A hf.1] at this
    rw [p_Fs2 _ hf.1, p_drop_2, if_neg (by omega)]; exact this
  · rw [p_Fs3 _ hf.1, p_drop_b]
    by_cases c : row ≤ k ∧ k < A (9 + 4 * f) 3 - 1
    · have := hbb (k + 1) (by omega) (by omega)
      rw [p_Fs3 A hf.1] at this
      rw [if_pos c]; exact this
    · have := hbb k k1 k2
      rw [p_Fs3 A hf.1] at this
      rw [if_neg c]; exact this
theorem wf_drop (hA : p_WF A) {f : Int} (hf : 0 ≤ f ∧ f < A 6 0) {row : Int} (hr : 1 ≤ row ∧ row < A (9 + 4 * f) 3) : p_WF (p_drop A (9 + 4 * f) row) := by
  have w0 := hA.1.1
  have e6 : p_drop A (9 + 4 * f) row 6 0 = A 6 0 := p_drop_ne (by omega)
  exact p_WF_F (A' := p_drop A (9 + 4 * f) row) (f := f) hA (by omega) (fun a k q1 q2 => p_drop_ne (by omega)) (by omega) (fun x _ q _ => by omega) (by omega) (p_drop_wf hA hf hr)
theorem r_out (hA : p_WF A) (hR : p_RI A M) {f : Int} (hf : 0 ≤ f ∧ f < A 6 0) {row : Int} (hr : 1 ≤ row ∧ row < A (9 + 4 * f) 3) {R : Int} (eR : R = A (9 + 4 * f) 3) {M1 : xM} (t1 : M1 107 f = R - 1) (t2 : ∀ i j, 0 ≤ i → i < R - 1 → 0 ≤ j → j < 3 → M1 (123 + 5 * f + i) j = M (123 + 5 * f + (if i < row then i else i + 1)) j) (t3 : ∀ i, 0 ≤ i → i < R - 1 → M1 (138 + f) i = M (138 + f) (if i < row then i else i + 1)) (t4 : ∀ a k, ¬ p_rF f a k → M1 a k = M a k) (t5 : ∀ a k, a ≠ 107 → a < 123 → M1 a k = M a k) : p_RI (p_drop A (9 + 4 * f) row) M1 := by
  have w0 := hA.1.1
  have gd := p_gd hA hf
  obtain ⟨⟨r0, r1, r2, r3, r4, r5, r6⟩, wf⟩ := p_RI_f hA hR hf
  rw [p_Fs0 A hf.1] at r5 r6
  rw [p_Fs0 A hf.1] at r5
  rw [eR] at t1 t2 t3
  refine r_rows hA hR hf (fun a k q => p_drop_ne (by omega)) (fun k q => p_drop_0 q) (fun k => p_drop_1) (by rw [p_drop_3]; omega) (fun a k q1 q2 q3 _ => ?_) (by rw [p_drop_3]; exact t1) (fun i j i1 i2 j1 j2 => ?_) (fun i i1 i2 => ?_)
  · by_cases c : p_rF f a k
    · unfold p_rF at c
      exact t5 a k (by omega) (by omega)
    · exact t4 a k c
  · rw [p_drop_3] at i2
    rw [t2 i j i1 i2 j1 (by omega), p_drop_2]
    by_cases c : i < row
    · have := r5 i j i1 (by omega) j1 j2
      rw [p_Fs2 A hf.1] at this
      rw [if_pos c, if_neg (by omega)]; exact this
    · have := r5 (i + 1) j (by omega) (by omega) j1 j2
      rw [p_Fs2 A hf.1] at this
      rw [if_neg c, if_pos (by omega), this, show 3 * (i + 1) + j = 3 * i + j + 3 by omega]
  · rw [p_drop_3] at i2
    rw [t3 i i1 i2, p_drop_b]
    by_cases c : i < row
    · have := r6 i i1 (by omega)
      rw [p_Fs3 A hf.1] at this
      rw [if_pos c, if_neg (by omega)]; exact this
    · have := r6 (i + 1) (by omega) (by omega)
      rw [p_Fs3 A hf.1] at this
      rw [if_neg c, if_pos (by omega)]; exact this
theorem k_loosen (hA : p_WF A) (hC : p_CI A M) {f r : Int} (h : ∀ M1, p_CI (o_loosen A f r).2 M1 → p_cfr M M1 → Q (some (0, (o_loosen A f r).1)) M1) : x_Ev l E (5, 0, 0) m_X10_loosen 0 [(20, 5), (0, f), (0, r)] [] M Q := by
  unfold o_loosen at h
  have w0 := hA.1.1
  have bad : ¬ (((0 ≤ f ∧ f < A 6 0) ∧ 0 ≤ r ∧ r < A (9 + 4 * f) 3) ∧ r ≠ 0) → x_Ev l E (1, 0, 0) m_X10_tell 0 [(20, 5), (0, 0)] [] M (fun r M3 => ∃ z, r = some (0, z) ∧ Q (some (0, z)) M3) := fun c => by
    rw [p_if_f c] at h
    exact k_tl hA hC (by omega) (fun M1 a b => ⟨_, rfl, h M1 a b⟩)
  refine u_X10_loosen_0 f r (k_NR hA hC (fun c => x_y1 (by omega) (bad (fun q => c q.1))) (fun c => x_y0 ⟨fun d => ?_, fun d => bad (fun q => q.2 d)⟩))
  have gd := p_gd hA c.1
  rw [p_if_t ⟨c, d⟩] at h
  rw [show 8 + 1 + 4 * f = 9 + 4 * f by omega, show 41 + 8 + 9 * f = 49 + 9 * f by omega]
  have e3 : M (9 + 4 * f) 3 = A (9 + 4 * f) 3 := hC.1 _ _ (by omega) (by omega)
  refine ⟨by omega, c_dropRow (by omega) (by omega) ⟨rfl, by omega, ?_⟩⟩
  refine k_find hA hC (A' := p_drop A (9 + 4 * f) r) c.1 (fun a k q => p_drop_ne (by omega)) (fun a k q1 q2 => p_drop_sm (fun a k q3 q4 => hC.1 a k (by omega) (by omega)) q1 (by omega)) (fun a k q => p_drop_ne (by omega)) (p_drop_wf hA c.1 (by omega)) (fun M1 a1 _ a2 a3 => ⟨rfl, by omega, ?_⟩)
  rw [a3 _ _ (by omega) (by omega), p_drop_3, e3]
  exact h M1 a1 a2
theorem wf_loosen (hA : p_WF A) (f r : Int) : p_WF (o_loosen A f r).2 := by
  unfold o_loosen
  by_cases c : ((0 ≤ f ∧ f < A 6 0) ∧ 0 ≤ r ∧ r < A (9 + 4 * f) 3) ∧ r ≠ 0
  · rw [p_if_t c]
    exact wf_drop hA c.1.1 (by omega)
  · rw [p_if_f c]; exact wf_tl hA 0
theorem r_loosen (hA : p_WF A) (hR : p_RI A M) {f r : Int} (h : ∀ M1, p_RI (o_loosen A f r).2 M1 → p_rfr M M1 → Q (some (0, (o_loosen A f r).1)) M1) : x_Ev l E (4, 0, 0) m_X11_loosen 0 [(21, 103), (0, f), (0, r)] [] M Q := by
  unfold o_loosen at h
  have w0 := hA.1.1
  have bad : ¬ (((0 ≤ f ∧ f < A 6 0) ∧ 0 ≤ r ∧ r < A (9 + 4 * f) 3) ∧ r ≠ 0) → x_Ev l E (1, 0, 0) m_X11_finds 0 [(21, 103), (0, 0)] [] M (fun r M3 => ∃ z, r = some (0, z) ∧ Q (some (0, z)) M3) := fun c => by
    rw [p_if_f c] at h
    exact r_tl hA hR (by omega) (fun M1 a b => ⟨_, rfl, h M1 a b⟩)
  refine u_X11_loosen_0 f r (r_Row hA hR (fun c => x_n1 (by omega) ⟨fun d => ?_, fun d => bad (fun q => q.2 d)⟩) (fun c => x_n0 (bad (fun q => c q.1))))
  have gd := p_gd hA c.1
  rw [p_if_t ⟨c, d⟩] at h
  have r3 := (p_RI_f hA hR c.1).1.2.2.2.1
  rw [p_Fs0 A c.1.1] at r3
  refine c_takesOut (R := A (9 + 4 * f) 3) (by omega) r3 (by omega) (by omega) (fun M1 t1 t2 t3 t4 t5 => ⟨rfl, by omega, ?_⟩)
  rw [t1]
  exact h M1 (r_out hA hR c.1 (by omega) rfl t1 t2 t3 t4 t5) (p_rfr_o (fun a k q => t4 a k (by unfold p_rF; omega)))
theorem k_rowOf (hA : p_WF A) (hC : p_CI A M) {f r w : Int} (h : ∀ M1, p_CI (o_rowOf A f r w).2 M1 → p_cfr M M1 → Q (some (0, (o_rowOf A f r w).1)) M1) : x_Ev l E (3, 0, 0) m_X10_rowOf 0 [(20, 5), (0, f), (0, r), (0, w), (5, 0)] [] M Q := by
  unfold o_rowOf at h
  have w0 := hA.1.1
  have bad : ¬ (((0 ≤ f ∧ f < A 6 0) ∧ 0 ≤ r ∧ r < A (9 + 4 * f) 3) ∧ (0 ≤ w ∧ w ≤ 3) ∧ (w < 3 → w < A (9 + 4 * f) 2)) → x_Ev l E (1, 0, 0) m_X10_tell 0 [(20, 5), (0, 0)] [] M (fun r M3 => ∃ z, r = some (0, z) ∧ Q (some (0, z)) M3) := fun c => by
    rw [p_if_f c] at h
    exact k_tl hA hC (by omega) (fun M1 a b => ⟨_, rfl, h M1 a b⟩)
  refine u_X10_rowOf_0 f r w (k_NR hA hC (fun c => x_y1 (by omega) (bad (fun q => c q.1))) (fun c => x_y0 ⟨fun d => bad (fun q => by omega), fun d => ⟨fun d2 => ⟨by omega, fun d3 => ?_, fun d3 => ?_⟩, fun d2 => bad (fun q => by omega)⟩⟩))
  · have gd := p_gd hA c.1
    rw [show 8 + 1 + 4 * f = 9 + 4 * f by omega, hC.1 (9 + 4 * f) 2 (by omega) (by omega)]
    refine ⟨fun d4 => ?_, fun d4 => bad (fun q => d4 (q.2.2 (by omega)))⟩
    rw [p_if_t ⟨c, by omega, fun _ => d4⟩, if_neg d3] at h
    rw [x_ix (by omega) (by omega) (by omega) (by omega), hC.1 _ _ (by omega) (by omega)]
    exact ⟨by omega, h M hC (p_cfr_rf M)⟩
  · have gd := p_gd hA c.1
    rw [p_if_t ⟨c, by omega, fun q => by omega⟩, if_pos d3] at h
    rw [show 8 + 1 + 4 * f = 9 + 4 * f by omega, hC.1 _ _ (by omega) (by omega)]
    exact ⟨by omega, h M hC (p_cfr_rf M)⟩
theorem r_rowOf (hA : p_WF A) (hR : p_RI A M) {f r w : Int} (h : ∀ M1, p_RI (o_rowOf A f r w).2 M1 → p_rfr M M1 → Q (some (0, (o_rowOf A f r w).1)) M1) : x_Ev l E (4, 0, 0) m_X11_rowOf 0 [(21, 103), (0, f), (0, r), (0, w)] [] M Q := by
  unfold o_rowOf at h
  have w0 := hA.1.1
  have bad : ¬ (((0 ≤ f ∧ f < A 6 0) ∧ 0 ≤ r ∧ r < A (9 + 4 * f) 3) ∧ (0 ≤ w ∧ w ≤ 3) ∧ (w < 3 → w < A (9 + 4 * f) 2)) → x_Ev l E (1, 0, 0) m_X11_finds 0 [(21, 103), (0, 0)] [] M (fun r M3 => ∃ z, r = some (0, z) ∧ Q (some (0, z)) M3) := fun c => by
    rw [p_if_f c] at h
    exact r_tl hA hR (by omega) (fun M1 a b => ⟨_, rfl, h M1 a b⟩)
  refine u_X11_rowOf_0 f r w (r_Row hA hR (fun c => x_n1 (by omega) (r_in (fun d => x_n1 (by omega) ⟨fun d3 => ⟨fun d4 => by omega, fun d4 => ?_⟩, fun d3 => ⟨by omega, ?_⟩⟩) (fun d => x_n0 (bad (fun q => d q.2.1))))) (fun c => x_n0 (bad (fun q => c q.1))))
  · have gd := p_gd hA c.1
    have r6 := (p_RI_f hA hR c.1).1.2.2.2.2.2.2
    rw [p_Fs0 A c.1.1] at r6
    rw [p_if_t ⟨c, d, fun q => by omega⟩, if_pos d4] at h
    rw [show 137 + 1 + 1 * f = 138 + f by omega, r6 r c.2.1 c.2.2, p_Fs3 A c.1.1]
    exact ⟨by omega, by omega, h M hR (p_rfr_rf M)⟩
  · have gd := p_gd hA c.1
    have r2 := (p_RI_f hA hR c.1).1.2.2.1
    have r5 := (p_RI_f hA hR c.1).1.2.2.2.2.2.1
    rw [p_Fs0 A c.1.1] at r2 r5
    rw [p_Fs0 A c.1.1] at r5
    rw [r2]
    refine ⟨fun d4 => ⟨by omega, by omega, by omega, ?_⟩, fun d4 => bad (fun q => d4 (q.2.2 (by omega)))⟩
    rw [p_if_t ⟨c, d, fun _ => d4⟩, if_neg (by omega)] at h
    rw [show 121 + 1 + 5 * f + 1 + 1 * r = 123 + 5 * f + r by omega, r5 r w c.2.1 c.2.2 (by omega) d4, p_Fs2 A c.1.1]
    exact h M hR (p_rfr_rf M)
theorem wf_rowOf (hA : p_WF A) (f r w : Int) : p_WF (o_rowOf A f r w).2 := by
  unfold o_rowOf
  by_cases c : ((0 ≤ f ∧ f < A 6 0) ∧ 0 ≤ r ∧ r < A (9 + 4 * f) 3) ∧ (0 ≤ w ∧ w ≤ 3) ∧ (w < 3 → w < A (9 + 4 * f) 2)
  · rw [p_if_t c]; exact hA
  · rw [p_if_f c]; exact wf_tl hA 0
/-- the term, MOST, ROUND, z, LEDGER alone -/
theorem p_WF_6 {A' : xM} (hA : p_WF A) (hA' : ∀ a k, ¬ (a = 6 ∧ 1 ≤ k ∧ k ≤ 4) → a ≠ 7 → A' a k = A a k) (h1 : 1 ≤ A' 6 1 ∧ A' 6 1 ≤ 40) (h2 : 0 ≤ A' 6 2 ∧ A' 6 2 ≤ 9999) (h3 : -2147483648 ≤ A' 6 3 ∧ A' 6 3 < 2147483648) (h4 : -9223372036854775808 ≤ A' 6 4 ∧ A' 6 4 < 9223372036854775808) (h5 : 0 ≤ A' 7 0 ∧ A' 7 0 ≤ A' 6 1 * A' 7 1) (h6 : 1 ≤ A' 7 1 ∧ A' 7 1 ≤ 4000000) : p_WF A' := by
  obtain ⟨⟨w1, w2, w3, w4, w5, w6, w7, w8⟩, kk, g1, g2, g3, g4, g5⟩ := hA
  have e : ∀ a, 8 ≤ a → A' a = A a := fun a h => by funext k; exact hA' a k (by omega) (by omega)
  refine ⟨⟨?_, h1, h2, h3, h4, h5, h6, fun g hg => ?_⟩, ?_, ?_, ?_, fun s s1 s2 => ?_, fun i i1 i2 => ?_, fun f f1 f2 => ?_⟩
  · rw [hA' _ _ (by omega) (by omega)]; exact w1
  · rw [hA' _ _ (by omega) (by omega)] at hg
    rw [show x_F A' (6 + 3 + 4 * (g : Int)) = x_F A (6 + 3 + 4 * (g : Int)) from x_F_eq (fun a a1 a2 => e a (by omega))]
    exact w8 g hg
  · unfold p_wfW at *
    rw [e 21 (by omega), e (21 + 1) (by omega)]
    refine ⟨kk.1, kk.2.1, kk.2.2.1, kk.2.2.2.1, kk.2.2.2.2.1, kk.2.2.2.2.2.1, kk.2.2.2.2.2.2.1, fun g hg => ?_⟩
    rw [show x_F A' (21 + 3 + 4 * (g : Int)) = x_F A (21 + 3 + 4 * (g : Int)) from x_F_eq (fun a a1 a2 => e a (by omega))]
    exact kk.2.2.2.2.2.2.2 g hg
  · rw [hA' _ _ (by omega) (by omega)]; exact g1
  · rw [hA' _ _ (by omega) (by omega)]; exact g2
  · rw [e 544 (by omega), e 545 (by omega), e (547 + s) (by omega)]; exact g3 s s1 s2
  · rw [e 552 (by omega), e 553 (by omega), e 554 (by omega)]; exact g4 i i1 i2
  · rw [e (9 + 4 * f + 2) (by omega), e (9 + 4 * f + 3) (by omega)]; exact g5 f f1 f2
theorem p_W_tm (hA : p_WF A) : p_tm (A 7 0) (A 7 1) ∧ (1 ≤ A 6 1 ∧ A 6 1 ≤ 40) ∧ A 7 0 ≤ A 6 1 * A 7 1 := by
  obtain ⟨w1, w2, w3, w4, w5, w6, w7, w8⟩ := hA.1
  have w6' : 0 ≤ A 7 0 ∧ A 7 0 ≤ A 6 1 * A 7 1 := w6
  have w7' : 1 ≤ A 7 1 ∧ A 7 1 ≤ 4000000 := w7
  have hb := x_mb (a := A 6 1) (b := A 7 1) (A := 40) (B := 4000000) (by omega) (by omega)
  exact ⟨⟨by omega, by omega, by omega, by omega⟩, w2, w6'.2⟩
noncomputable def o_most (A : xM) (v : Int) : Int × xM := p_if (1 ≤ v ∧ v ≤ 40) (p_if (A 7 0 ≤ v * A 7 1) (A 6 1, x_wr A 6 1 v) (p_err A 4)) (p_err A 0)
noncomputable def o_term (A : xM) (a b : Int) : Int × xM := p_if ((1 ≤ b ∧ b ≤ 2000000) ∧ 0 ≤ a ∧ a ≤ A 6 1 * b) (1, x_wr (x_wr A 7 0 (p_nu a b)) 7 1 (p_de a b)) (p_err A 0)
noncomputable def o_termOf (A : xM) (p : Int) : Int × xM := p_if (0 ≤ p ∧ p ≤ 1) (if p = 0 then A 7 0 else A 7 1, A) (p_erL A 0)
theorem x_mW {v b : Int} (hv : 1 ≤ v ∧ v ≤ 40) (hb : 1 ≤ b ∧ b ≤ 4000000) : x_W (v * b) = v * b := by
  have := x_mb (a := v) (b := b) (A := 40) (B := 4000000) (by omega) (by omega)
  exact x_W_id (by omega) (by omega)
theorem k_most (hA : p_WF A) (hC : p_CI A M) {v : Int} (h : ∀ M1, p_CI (o_most A v).2 M1 → p_cfr M M1 → Q (some (0, (o_most A v).1)) M1) : x_Ev l E (2, 0, 0) m_X10_most 0 [(20, 5), (0, v), (5, 0)] [] M Q := by
  unfold o_most at h
  have w7 := (p_W_tm hA).1
  have bad : ¬ (1 ≤ v ∧ v ≤ 40) → x_Ev l E (1, 0, 0) m_X10_tell 0 [(20, 5), (0, 0)] [] M (fun r M3 => ∃ z, r = some (0, z) ∧ Q (some (0, z)) M3) := fun c => by
    rw [p_if_f c] at h
    exact k_tl hA hC (by omega) (fun M1 a b => ⟨_, rfl, h M1 a b⟩)
  refine u_X10_most_0 v ⟨fun c => bad (by omega), fun c => ⟨fun d => ?_, fun d => bad (by omega)⟩⟩
  rw [p_if_t (by omega)] at h
  rw [hC.1 7 0 (by omega) (by omega), hC.1 7 1 (by omega) (by omega), x_mW (by omega) ⟨w7.2.2.1, w7.2.2.2⟩]
  refine ⟨fun e => ?_, fun e => ?_⟩
  · rw [p_if_t e] at h
    intro z hz M1 hM1
    rw [hC.1 6 1 (by omega) (by omega)] at hz
    rw [hz, hM1]
    exact h _ (p_CI_w hA hC (by omega)) (p_cfr_w (by omega))
  · rw [p_if_f e] at h
    exact k_tl hA hC (by omega) (fun M1 a b => ⟨_, rfl, h M1 a b⟩)
theorem r_most (hA : p_WF A) (hR : p_RI A M) {v : Int} (h : ∀ M1, p_RI (o_most A v).2 M1 → p_rfr M M1 → Q (some (0, (o_most A v).1)) M1) : x_Ev l E (2, 0, 0) m_X11_most 0 [(21, 103), (0, v), (5, 0)] [] M Q := by
  unfold o_most at h
  have w7 := (p_W_tm hA).1
  refine u_X11_most_0 v (r_in (fun c => x_y1 (by omega) ?_) (fun c => x_y0 ?_))
  · rw [p_if_t c] at h
    rw [hR.1.2.2.1, hR.1.2.2.2.1, x_mW c ⟨w7.2.2.1, w7.2.2.2⟩]
    refine ⟨fun e => ?_, fun e => ?_⟩
    · rw [p_if_t e] at h
      intro z hz M1 hM1
      rw [hR.1.2.1] at hz
      rw [hz, hM1]
      exact h _ (p_RI_w hA hR (by omega)) (p_rfr_w (by omega))
    · rw [p_if_f e] at h
      exact r_tl hA hR (by omega) (fun M1 a b => ⟨_, rfl, h M1 a b⟩)
  · rw [p_if_f c] at h
    exact r_tl hA hR (by omega) (fun M1 a b => ⟨_, rfl, h M1 a b⟩)
theorem wf_most (hA : p_WF A) (v : Int) : p_WF (o_most A v).2 := by
  unfold o_most
  by_cases c : 1 ≤ v ∧ v ≤ 40
  · rw [p_if_t c]
    by_cases e : A 7 0 ≤ v * A 7 1
    · rw [p_if_t e]
      obtain ⟨w1, w2, w3, w4, w5, w6, w7, w8⟩ := hA.1
      have n : ∀ a k, ¬ (a = 6 ∧ k = 1) → x_wr A 6 1 v a k = A a k := fun a k q => x_wr_ne _ _ q
      refine p_WF_6 (A' := x_wr A 6 1 v) hA (fun a k q1 q2 => n a k (by omega)) (by rw [x_wr_eq]; exact c) (by rw [n _ _ (by omega)]; exact w3) (by rw [n _ _ (by omega)]; exact w4) (by rw [n _ _ (by omega)]; exact w5) ?_ (by rw [n _ _ (by omega)]; exact w7)
      rw [x_wr_eq, n 7 0 (by omega), n 7 1 (by omega)]
      exact ⟨w6.1, e⟩
    · rw [p_if_f e]; exact wf_tl hA 4
  · rw [p_if_f c]; exact wf_tl hA 0
theorem c_putX {t a b : Int} (ha : -9000000000000000000 ≤ a ∧ a ≤ 9000000000000000000) (hb : 0 < b ∧ b < 562949953421312) (h : Q none (x_wr (x_wr M t 0 (p_nu a b)) t 1 (p_de a b))) : x_Ev l E (2, 0, 0) m_X2_put 0 [(12, t), (1, a), (5, 0), (1, b), (5, 0), (5, 0), (5, 0)] [] M Q := by
  have hg := p_g_pos (a := a) hb.1
  have hd := p_de_pos (a := a) hb.1
  have hd2 := p_de_le (a := a) hb.1
  have hn := p_nu_bd (B := 9000000000000000000) hb.1 ha
  have t1 : a.tdiv (p_g a b) = p_nu a b := x_tdiv_ex (p_nu_mul a b) hg
  have t2 : b.tdiv (p_g a b) = p_de a b := x_tdiv_ex (p_de_mul a b) hg
  refine u_X2_put_0 t a b (c_gcd ha (by omega) ⟨_, rfl, fun c => by omega, fun _ => ⟨by omega, ?_⟩⟩)
  rw [t1, t2, x_W_id (by omega) (by omega), x_W_id (by omega) (by omega)]
  intro M1 hM1
  refine ⟨by omega, ?_⟩
  intro M2 hM2
  rw [hM2, hM1]
  exact h
theorem c_takeX {t o : Int} (ho : t ≠ o) (h : Q none (x_wr (x_wr M t 0 (M o 0)) t 1 (M o 1))) : x_Ev l E (1, 0, 0) m_X2_take 0 [(12, t), (12, o)] [] M Q := by
  refine u_X2_take_0 t o ?_
  intro M1 hM1 M2 hM2
  have e1 : M1 o 1 = M o 1 := by rw [hM1, x_wr_ne _ _ (by omega)]
  rw [e1] at hM2
  rw [hM2, hM1]
  exact h
/-- the term, MOST, ROUND, z, LEDGER: both hold them -/
theorem p_CI_6 {A' M1 : xM} (hA : p_WF A) (hC : p_CI A M) (hA' : ∀ a k, ¬ (a = 6 ∧ 1 ≤ k ∧ k ≤ 4) → a ≠ 7 → A' a k = A a k) (hM : ∀ a k, ¬ (a = 6 ∧ 1 ≤ k ∧ k ≤ 4) → a ≠ 7 → ¬ p_cs a k → M1 a k = M a k) (e6 : ∀ k, 1 ≤ k → k ≤ 4 → M1 6 k = A' 6 k) (e7 : ∀ k, M1 7 k = A' 7 k) : p_CI A' M1 := by
  have w0 := hA.1.1
  obtain ⟨M2, hm, q1, q2, q3, q4, q5, q6, q7, q8⟩ : ∃ M2 : xM, (∀ a k, ¬ ((a = 6 ∧ 1 ≤ k ∧ k ≤ 4) ∨ a = 7) → M2 a k = M1 a k) ∧ p_CI A M2 := ⟨fun a k => if (a = 6 ∧ 1 ≤ k ∧ k ≤ 4) ∨ a = 7 then M a k else M1 a k, fun a k q => if_neg q, p_CI_sc hC (fun a k q => by
    by_cases c : (a = 6 ∧ 1 ≤ k ∧ k ≤ 4) ∨ a = 7
    · rw [if_pos c]
    · rw [if_neg c]; exact hM a k (by omega) (by omega) q)⟩
  have ea : ∀ b j, b ≠ 6 → b ≠ 7 → A' b j = A b j := fun b j w w2 => hA' b j (by omega) w2
  have em : ∀ b j, b ≠ 6 → b ≠ 7 → M1 b j = M2 b j := fun b j w w2 => (hm b j (by omega)).symm
  have tp : x_tp M1 = x_tp M2 := x_tp_eq (em _ _ (by omega) (by omega))
  have tg : ∀ b, x_tag M1 b = x_tag M2 b := fun b => x_tag_eq (fun k => em _ _ (by omega) (by omega)) b
  refine ⟨fun b j c1 c2 => ?_, ?_, ?_, fun j => ?_, fun j => ?_, ?_, ⟨fun s s1 s2 => ?_, fun s t s1 s2 t1 t2 => ?_⟩, fun i i1 i2 => ?_⟩
  · by_cases c : b = 6 ∧ 1 ≤ j ∧ j ≤ 4
    · rw [c.1]; exact e6 j c.2.1 c.2.2
    · by_cases c' : b = 7
      · rw [c']; exact e7 j
      · rw [← hm b j (by omega), hA' b j c c']; exact q1 b j c1 c2
  · rw [ea _ _ (by omega) (by omega), em _ _ (by omega) (by omega)]; exact q2
  · rw [ea _ _ (by omega) (by omega), em _ _ (by omega) (by omega)]; exact q3
  · rw [ea _ _ (by omega) (by omega), em _ _ (by omega) (by omega)]; exact q4 j
  · rw [ea _ _ (by omega) (by omega), em _ _ (by omega) (by omega)]; exact q5 j
  · rw [hA' 6 0 (by omega) (by omega)]
    exact p_CW_fr2 q6 (fun f hf => p_Fs_cg (fun b b1 b2 => by funext j; exact ea b j (by omega) (by omega)) (by omega)) (hm 6 0 (by omega)).symm (fun b j w _ => em b j (by omega) (by omega))
  · rw [ea _ _ (by omega) (by omega), ea _ _ (by omega) (by omega), em _ _ (by omega) (by omega)]
    rcases q7.1 s s1 s2 with w | ⟨w1, w2, w3⟩
    · exact Or.inl w
    · have hr := w2
      obtain ⟨r1, r2, -⟩ := w2
      refine Or.inr ⟨w1, p_r16_fr hr (by rw [tp]; exact Nat.le_refl _) (fun b _ => tg b) (em _ _ (by omega) (by omega)) (em _ _ (by omega) (by omega)), fun i i1 i2 => ?_⟩
      rw [em _ _ (by omega) (by omega), ea _ _ (by omega) (by omega)]; exact w3 i i1 i2
  · rw [em _ _ (by omega) (by omega), em _ _ (by omega) (by omega), ea _ _ (by omega) (by omega), ea _ _ (by omega) (by omega)]; exact q7.2 s t s1 s2 t1 t2
  · obtain ⟨w1, w2, w3, w4⟩ := q8 i i1 i2
    rw [em _ 0 (by omega) (by omega), em _ 1 (by omega) (by omega), em _ 2 (by omega) (by omega), ea _ _ (by omega) (by omega), ea _ _ (by omega) (by omega), ea _ _ (by omega) (by omega)]
    refine ⟨w1, w2, w3, fun w => ?_⟩
    have hr := w4 w
    have hr' := hr
    obtain ⟨r1, r2, -⟩ := hr'
    exact p_r16_fr hr (by rw [tp]; exact Nat.le_refl _) (fun b _ => tg b) (em _ _ (by omega) (by omega)) (em _ _ (by omega) (by omega))
theorem p_RI_6 {A' M1 : xM} (hA : p_WF A) (hR : p_RI A M) (hA' : ∀ a k, ¬ (a = 6 ∧ 1 ≤ k ∧ k ≤ 4) → a ≠ 7 → A' a k = A a k) (hM : ∀ a k, ¬ (a = 103 ∧ 8 ≤ k ∧ k ≤ 13) → ¬ p_rsc a k → M1 a k = M a k) (e : M1 103 8 = A' 6 1 ∧ M1 103 9 = A' 7 0 ∧ M1 103 10 = A' 7 1 ∧ M1 103 11 = A' 6 4 ∧ M1 103 12 = A' 6 2 ∧ M1 103 13 = A' 6 3) : p_RI A' M1 := by
  have w0 := hA.1.1
  have wp := hA.2.2.2.1
  obtain ⟨M2, hm, ⟨a0, a1, a2, a3, a4, a5, a6⟩, q2, q3, ⟨q4, q5⟩, q6, q7, q8, q9⟩ : ∃ M2 : xM, (∀ a k, ¬ (a = 103 ∧ 8 ≤ k ∧ k ≤ 13) → M2 a k = M1 a k) ∧ p_RI A M2 := ⟨fun a k => if a = 103 ∧ 8 ≤ k ∧ k ≤ 13 then M a k else M1 a k, fun a k q => if_neg q, p_RI_sc hA hR (fun a k q => by
    by_cases c : a = 103 ∧ 8 ≤ k ∧ k ≤ 13
    · rw [if_pos c]
    · rw [if_neg c]; exact hM a k c q)⟩
  have ea : ∀ b j, b ≠ 6 → b ≠ 7 → A' b j = A b j := fun b j w w2 => hA' b j (by omega) w2
  have em : ∀ b j, ¬ (b = 103 ∧ 8 ≤ j ∧ j ≤ 13) → M1 b j = M2 b j := fun b j w => (hm b j w).symm
  have e60 : A' 6 0 = A 6 0 := hA' 6 0 (by omega) (by omega)
  refine ⟨⟨?_, e.1, e.2.1, e.2.2.1, e.2.2.2.1, e.2.2.2.2.1, e.2.2.2.2.2⟩, fun f hf => ?_, fun i i1 i2 => ?_, ⟨?_, fun i d i1 i2 d1 d2 => ?_⟩, fun s s1 s2 => ?_, fun i i1 i2 => ?_, ?_, fun w => ?_⟩
  · rw [e60, em _ _ (by omega)]; exact a0
  · rw [e60] at hf
    rw [p_Fs_cg (A := A) (A' := A') (fun b b1 b2 => by funext j; exact ea b j (by omega) (by omega)) (by omega)]
    exact p_RF_fr (by omega) (hA.1.2.2.2.2.2.2.2 f hf) (q2 f hf) (fun a b1 b2 => by funext k; exact em a k (by omega))
  · rw [em _ _ (by omega), ea _ _ (by omega) (by omega)]; exact q3 i i1 i2
  · rw [em _ _ (by omega), ea _ _ (by omega) (by omega)]; exact q4
  · rw [ea 5 12 (by omega) (by omega)] at i2
    rw [em _ _ (by omega), ea _ _ (by omega) (by omega)]; exact q5 i d i1 i2 d1 d2
  · obtain ⟨b1, b2, b3⟩ := q6 s s1 s2
    rw [em _ _ (by omega), em _ _ (by omega), ea _ _ (by omega) (by omega), ea _ _ (by omega) (by omega)]
    refine ⟨b1, b2, fun i i1 i2 => ?_⟩
    rw [em _ _ (by omega), ea _ _ (by omega) (by omega)]; exact b3 i i1 i2
  · rw [em _ _ (by omega), em _ _ (by omega), em _ _ (by omega), ea _ _ (by omega) (by omega), ea _ _ (by omega) (by omega), ea _ _ (by omega) (by omega)]
    exact q7 i i1 i2
  · rw [em _ _ (by omega), ea _ _ (by omega) (by omega)]; exact q8
  · rw [ea _ _ (by omega) (by omega)] at w
    exact p_KI_fr hA (q9 w) (fun c c1 c2 => by funext d; exact ea c d (by omega) (by omega)) (fun e f w => em e f (by omega))
/-- the term alone -/
theorem p_w7_ne {p q a k : Int} (h : a ≠ 7) : x_wr (x_wr A 7 0 p) 7 1 q a k = A a k := by rw [x_wr_ne _ _ (by omega), x_wr_ne _ _ (by omega)]
theorem p_w7_0 {p q : Int} : x_wr (x_wr A 7 0 p) 7 1 q 7 0 = p := by rw [x_wr_ne _ _ (by omega), x_wr_eq]
theorem wf_7 {p q : Int} (hA : p_WF A) (h5 : 0 ≤ p ∧ p ≤ A 6 1 * q) (h6 : 1 ≤ q ∧ q ≤ 4000000) : p_WF (x_wr (x_wr A 7 0 p) 7 1 q) := by
  obtain ⟨w1, w2, w3, w4, w5, w6, w7, w8⟩ := hA.1
  refine p_WF_6 hA (fun a k _ q2 => p_w7_ne q2) ?_ ?_ ?_ ?_ ?_ ?_
  · rw [p_w7_ne (by omega)]; exact w2
  · rw [p_w7_ne (by omega)]; exact w3
  · rw [p_w7_ne (by omega)]; exact w4
  · rw [p_w7_ne (by omega)]; exact w5
  · rw [p_w7_0, x_wr_eq, p_w7_ne (a := 6) (by omega)]; exact h5
  · rw [x_wr_eq]; exact h6
theorem p_CI_7 {p q : Int} {M1 : xM} (hA : p_WF A) (hC : p_CI A M) (hM : ∀ a k, a ≠ 7 → ¬ p_cs a k → M1 a k = M a k) (e7 : ∀ k, M1 7 k = x_wr (x_wr M 7 0 p) 7 1 q 7 k) : p_CI (x_wr (x_wr A 7 0 p) 7 1 q) M1 := p_CI_6 hA hC (fun a k _ q2 => p_w7_ne q2) (fun a k _ q2 q3 => hM a k q2 q3) (fun k k1 k2 => by rw [hM 6 k (by omega) (by unfold p_cs p_stc; omega), p_w7_ne (by omega)]; exact hC.1 6 k (by omega) (by omega)) (fun k => by rw [e7]; exact x_wr_sm (x_wr_sm (hC.1 7 k (by omega) (by omega))))
theorem p_RI_7 {p q : Int} {M1 : xM} (hA : p_WF A) (hR : p_RI A M) (hM : ∀ a k, ¬ (a = 103 ∧ (k = 9 ∨ k = 10)) → ¬ p_rsc a k → M1 a k = M a k) (e9 : M1 103 9 = p) (e10 : M1 103 10 = q) : p_RI (x_wr (x_wr A 7 0 p) 7 1 q) M1 := by
  obtain ⟨a0, a1, a2, a3, a4, a5, a6⟩ := hR.1
  have nr : ∀ k : Int, k < 15 → ¬ p_rsc 103 k := fun k w => by unfold p_rsc; omega
  refine p_RI_6 hA hR (fun a k _ q2 => p_w7_ne q2) (fun a k q2 q3 => hM a k (by omega) q3) ⟨?_, ?_, ?_, ?_, ?_, ?_⟩
  · rw [p_w7_ne (by omega), hM _ _ (by omega) (nr _ (by omega))]; exact a1
  · rw [p_w7_0]; exact e9
  · rw [x_wr_eq]; exact e10
  · rw [p_w7_ne (by omega), hM _ _ (by omega) (nr _ (by omega))]; exact a4
  · rw [p_w7_ne (by omega), hM _ _ (by omega) (nr _ (by omega))]; exact a5
  · rw [p_w7_ne (by omega), hM _ _ (by omega) (nr _ (by omega))]; exact a6
theorem p_red_le {a b m : Int} (hb : 0 < b) (ha : 0 ≤ a) (h : a ≤ m * b) : 0 ≤ p_nu a b ∧ p_nu a b ≤ m * p_de a b := by
  have g := p_g_pos (a := a) hb
  have e1 := p_nu_mul a b
  have e2 := p_de_mul a b
  constructor
  · exact q_mnn g (by rw [Int.mul_comm, e1]; exact ha)
  · refine Int.le_of_mul_le_mul_right (a := p_g a b) ?_ g
    rw [e1, Int.mul_assoc, e2]; exact h
theorem k_term (hA : p_WF A) (hC : p_CI A M) {a b : Int} (h : ∀ M1, p_CI (o_term A a b).2 M1 → p_cfr M M1 → Q (some (0, (o_term A a b).1)) M1) : x_Ev l E (3, 0, 0) m_X10_term 0 [(20, 5), (1, a), (5, 0), (1, b), (5, 0)] [] M Q := by
  unfold o_term at h
  obtain ⟨w7, w1, -⟩ := p_W_tm hA
  have bad : ¬ ((1 ≤ b ∧ b ≤ 2000000) ∧ 0 ≤ a ∧ a ≤ A 6 1 * b) → x_Ev l E (1, 0, 0) m_X10_tell 0 [(20, 5), (0, 0)] [] M (fun r M3 => ∃ z, r = some (0, z) ∧ Q (some (0, z)) M3) := fun c => by
    rw [p_if_f c] at h
    exact k_tl hA hC (by omega) (fun M1 a b => ⟨_, rfl, h M1 a b⟩)
  refine u_X10_term_0 a b ⟨fun c => bad (by omega), fun c => ⟨fun d => bad (by omega), fun d => ⟨fun e => bad (by omega), fun e => ?_⟩⟩⟩
  rw [hC.1 6 1 (by omega) (by omega), x_mW w1 (by omega)]
  refine ⟨fun g => ?_, fun g => bad (fun q => g q.2.2)⟩
  have hb := x_mb (a := A 6 1) (b := b) (A := 40) (B := 4000000) (by omega) (by omega)
  rw [p_if_t ⟨by omega, by omega, g⟩] at h
  exact c_putX (by omega) (by omega) ⟨rfl, h _ (p_CI_7 hA hC (fun a k q _ => p_w7_ne q) (fun k => rfl)) (fun a k q1 q2 => p_w7_ne (by omega))⟩
theorem r_term (hA : p_WF A) (hR : p_RI A M) {a b : Int} (h : ∀ M1, p_RI (o_term A a b).2 M1 → p_rfr M M1 → Q (some (0, (o_term A a b).1)) M1) : x_Ev l E (3, 0, 0) m_X11_term 0 [(21, 103), (1, a), (5, 0), (1, b), (5, 0)] [] M Q := by
  unfold o_term at h
  obtain ⟨w7, w1, -⟩ := p_W_tm hA
  have bad : ¬ ((1 ≤ b ∧ b ≤ 2000000) ∧ 0 ≤ a ∧ a ≤ A 6 1 * b) → x_Ev l E (1, 0, 0) m_X11_finds 0 [(21, 103), (0, 0)] [] M (fun r M3 => ∃ z, r = some (0, z) ∧ Q (some (0, z)) M3) := fun c => by
    rw [p_if_f c] at h
    exact r_tl hA hR (by omega) (fun M1 a b => ⟨_, rfl, h M1 a b⟩)
  refine u_X11_term_0 a b (r_in (fun c => x_n1 (by omega) ⟨fun e => bad (by omega), fun e => ?_⟩) (fun c => x_n0 (bad (fun q => c q.1))))
  rw [hR.1.2.1, x_mW w1 (by omega)]
  refine ⟨fun g => ?_, fun g => bad (fun q => g q.2.2)⟩
  have hb := x_mb (a := A 6 1) (b := b) (A := 40) (B := 4000000) (by omega) (by omega)
  rw [p_if_t ⟨c, by omega, g⟩] at h
  refine c_part (Or.inl rfl) (by omega) (by omega) ⟨_, rfl, ?_⟩
  intro M1 hM1
  refine c_part (Or.inr rfl) (by omega) (by omega) ⟨_, rfl, ?_⟩
  intro M2 hM2
  rw [if_pos rfl] at hM1
  rw [if_neg (by omega)] at hM2
  refine h M2 (p_RI_7 hA hR (fun x k q _ => ?_) ?_ ?_) (p_rfr_o (fun x k q => ?_))
  · rw [hM2, x_wr_ne _ _ (by omega), hM1, x_wr_ne _ _ (by omega)]
  · rw [hM2, x_wr_ne _ _ (by omega), hM1, x_wr_eq]
  · rw [hM2, x_wr_eq]
  · rw [hM2, x_wr_ne _ _ (by omega), hM1, x_wr_ne _ _ (by omega)]
theorem wf_term (hA : p_WF A) (a b : Int) : p_WF (o_term A a b).2 := by
  unfold o_term
  by_cases c : (1 ≤ b ∧ b ≤ 2000000) ∧ 0 ≤ a ∧ a ≤ A 6 1 * b
  · rw [p_if_t c]
    have := p_de_le (a := a) (b := b) (by omega)
    have := p_de_pos (a := a) (b := b) (by omega)
    exact wf_7 hA (p_red_le (by omega) c.2.1 c.2.2) (by omega)
  · rw [p_if_f c]; exact wf_tl hA 0
theorem k_termOf (hA : p_WF A) (hC : p_CI A M) {p : Int} (h : ∀ M1, p_CI (o_termOf A p).2 M1 → p_cfr M M1 → Q (some (1, (o_termOf A p).1)) M1) : x_Ev l E (2, 0, 0) m_X10_termOf 0 [(20, 5), (0, p)] [] M Q := by
  unfold o_termOf at h
  refine u_X10_termOf_0 p (k_NP (fun c => x_n1 (by omega) ?_) (fun c => x_n0 ?_))
  · rw [p_if_f c] at h
    exact k_tL hA hC (by omega) (fun M1 a b => ⟨_, rfl, h M1 a b⟩)
  · rw [p_if_t c] at h
    refine c_side (by omega) ⟨_, rfl, ?_⟩
    rw [hC.1 7 0 (by omega) (by omega), hC.1 7 1 (by omega) (by omega)]
    exact h M hC (p_cfr_rf M)
theorem r_termOf (hA : p_WF A) (hR : p_RI A M) {p : Int} (h : ∀ M1, p_RI (o_termOf A p).2 M1 → p_rfr M M1 → Q (some (1, (o_termOf A p).1)) M1) : x_Ev l E (3, 0, 0) m_X11_termOf 0 [(21, 103), (0, p)] [] M Q := by
  unfold o_termOf at h
  refine u_X11_termOf_0 p (r_Part (fun c => x_n1 (by omega) ?_) (fun c => x_n0 ?_))
  · rw [p_if_t c] at h
    rw [hR.1.2.2.1, hR.1.2.2.2.1]
    refine ⟨fun d => ?_, fun d => ?_⟩
    · rw [if_neg d] at h; exact h M hR (p_rfr_rf M)
    · rw [if_pos d] at h; exact h M hR (p_rfr_rf M)
  · rw [p_if_f c] at h
    exact r_tL hA hR (by omega) (fun M1 a b => ⟨_, rfl, h M1 a b⟩)
theorem wf_termOf (hA : p_WF A) (p : Int) : p_WF (o_termOf A p).2 := by
  unfold o_termOf
  by_cases c : 0 ≤ p ∧ p ≤ 1
  · rw [p_if_t c]; exact hA
  · rw [p_if_f c]; exact wf_tl hA 0
end O4
