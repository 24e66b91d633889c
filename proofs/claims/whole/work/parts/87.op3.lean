/-! budget, bind, loosen, rowOf -/
theorem p_wf_R {F F' : xM} (hF : p_wf F) (h0 : ∀ k, k ≠ 3 → F' 0 k = F 0 k) (h3 : 1 ≤ F' 0 3 ∧ F' 0 3 ≤ 4) (e1 : F' 1 = F 1) (hn : ∀ k, 0 ≤ k → k < 12 → -3 ≤ F' 2 k ∧ F' 2 k ≤ 3) (hm : ∀ k, 0 ≤ k → k < 3 → 1 ≤ F' 2 k) (hb : ∀ k, 0 ≤ k → k < 4 → 0 ≤ F' 3 k ∧ F' 3 k ≤ 20) : p_wf F' := by
  unfold p_wf at *
  rw [h0 0 (by omega), h0 1 (by omega), h0 2 (by omega), e1]
  exact ⟨hF.1, hF.2.1, hF.2.2.1, h3, hF.2.2.2.2.1, hn, hm, hb⟩
theorem p_dig {code base least j : Int} (hc : 0 ≤ code) (h : base = 3 ∧ least = 1 ∨ base = 7 ∧ least = -3) : (-3 ≤ (if j = 2 then code % base + least else if j = 1 then code / base % base + least else code / base / base % base + least) ∧ (if j = 2 then code % base + least else if j = 1 then code / base % base + least else code / base / base % base + least) ≤ 3) ∧ (base = 3 → 1 ≤ (if j = 2 then code % base + least else if j = 1 then code / base % base + least else code / base / base % base + least)) := by
  by_cases c : j = 2
  · simp only [if_pos c]
    rcases h with ⟨e1, e2⟩ | ⟨e1, e2⟩ <;> rw [e1, e2] <;> omega
  · by_cases d : j = 1
    · simp only [if_neg c, if_pos d]
      rcases h with ⟨e1, e2⟩ | ⟨e1, e2⟩ <;> rw [e1, e2] <;> omega
    · simp only [if_neg c, if_neg d]
      rcases h with ⟨e1, e2⟩ | ⟨e1, e2⟩ <;> rw [e1, e2] <;> omega
theorem p_rfr_o {M M1 : xM} (h : ∀ a k, ¬ (103 ≤ a ∧ a < 593) → M1 a k = M a k) : p_rfr M M1 := ⟨by rw [x_tp_eq (h (-1) 0 (by omega))]; exact Nat.le_refl _, fun a _ => x_tag_eq (fun k => h (-2) k (by omega)) a, fun a k q1 q2 => h a k (by omega), fun a k q1 q2 => h a k (by omega)⟩
noncomputable def o_budget (A : xM) (f n b : Int) : Int × xM := p_if ((0 ≤ f ∧ f < A 6 0) ∧ (0 ≤ n ∧ n ≤ 26) ∧ 0 ≤ b ∧ b ≤ 20) (A (9 + 4 * f + 3) 0, p_fill A (9 + 4 * f) 0 n 3 1 b) (p_err A 0)
noncomputable def o_bind (A : xM) (f n b : Int) : Int × xM := p_if ((0 ≤ f ∧ f < A 6 0) ∧ (0 ≤ n ∧ n ≤ 342) ∧ 0 ≤ b ∧ b ≤ 20) (p_if (A (9 + 4 * f) 3 < 4) (A (9 + 4 * f) 3, x_wr (p_fill A (9 + 4 * f) (A (9 + 4 * f) 3) n 7 (-3) b) (9 + 4 * f) 3 (A (9 + 4 * f) 3 + 1)) (p_err A 1)) (p_err A 0)
noncomputable def o_loosen (A : xM) (f r : Int) : Int × xM := p_if (((0 ≤ f ∧ f < A 6 0) ∧ 0 ≤ r ∧ r < A (9 + 4 * f) 3) ∧ r ≠ 0) (A (9 + 4 * f) 3 - 1, p_drop A (9 + 4 * f) r) (p_err A 0)
noncomputable def o_rowOf (A : xM) (f r w : Int) : Int × xM := p_if (((0 ≤ f ∧ f < A 6 0) ∧ 0 ≤ r ∧ r < A (9 + 4 * f) 3) ∧ (0 ≤ w ∧ w ≤ 3) ∧ (w < 3 → w < A (9 + 4 * f) 2)) (if w = 3 then A (9 + 4 * f + 3) r else A (9 + 4 * f + 2) (3 * r + w), A) (p_err A 0)
section O3
variable {l : Launch} {E : xE} {Q : Option xV → xM → Prop} {A M : xM}
theorem p_fill_wf (hA : p_WF A) {f : Int} (hf : 0 ≤ f ∧ f < A 6 0) {row code base least bound : Int} (hr : 0 ≤ row ∧ row < 4) (hc : 0 ≤ code) (hbs : (base = 3 ∧ least = 1) ∨ (base = 7 ∧ least = -3 ∧ 1 ≤ row)) (hb : 0 ≤ bound ∧ bound ≤ 20) {A' : xM} (hA' : ∀ a k, ¬ (a = 9 + 4 * f ∧ k = 3) → A' a k = p_fill A (9 + 4 * f) row code base least bound a k) (h3 : 1 ≤ A' (9 + 4 * f) 3 ∧ A' (9 + 4 * f) 3 ≤ 4) : p_wf (p_Fs A' f.toNat) := by
  have w := p_WF_f hA hf
  have hn := w.2.2.2.2.2.1
  have hm := w.2.2.2.2.2.2.1
  have hbb := w.2.2.2.2.2.2.2
  have dg : ∀ j : Int, _ := fun j => p_dig (j := j) hc (show base = 3 ∧ least = 1 ∨ base = 7 ∧ least = -3 by omega)
  refine p_wf_R w (fun k q => ?_) ?_ ?_ (fun k k1 k2 => ?_) (fun k k1 k2 => ?_) (fun k k1 k2 => ?_)
  · rw [p_Fs0 A' hf.1, p_Fs0 A hf.1, hA' _ _ (by omega), p_fill_ne (by omega) (by omega)]
  · rw [p_Fs0 A' hf.1]; exact h3
  · funext k
    rw [p_Fs1 A' hf.1, p_Fs1 A hf.1, hA' _ _ (by omega), p_fill_ne (by omega) (by omega)]
  · have hnk := hn k k1 k2
    rw [p_Fs2 A hf.1] at hnk
    rw [p_Fs2 A' hf.1, hA' _ _ (by omega)]
    by_cases c : 3 * row ≤ k ∧ k < 3 * row + 3
    · have := p_fill_n (A := A) (w := 9 + 4 * f) (row := row) (code := code) (base := base) (least := least) (bound := bound) (j := k - 3 * row) (by omega)
      rw [show 3 * row + (k - 3 * row) = k by omega] at this
      rw [this]
      exact (dg _).1
    · rw [p_fill_ne (by omega) (by omega)]; exact hnk
  · have hnk := hm k k1 k2
    rw [p_Fs2 A hf.1] at hnk
    rw [p_Fs2 A' hf.1, hA' _ _ (by omega)]
    by_cases c : 3 * row ≤ k ∧ k < 3 * row + 3
    · have := p_fill_n (A := A) (w := 9 + 4 * f) (row := row) (code := code) (base := base) (least := least) (bound := bound) (j := k - 3 * row) (by omega)
      rw [show 3 * row + (k - 3 * row) = k by omega] at this
      rw [this]
      exact (dg _).2 (by omega)
    · rw [p_fill_ne (by omega) (by omega)]; exact hnk
  · have hnk := hbb k k1 k2
    rw [p_Fs3 A hf.1] at hnk
    rw [p_Fs3 A' hf.1, hA' _ _ (by omega)]
    by_cases c : k = row
    · rw [c, p_fill_b]; exact hb
    · rw [p_fill_ne (by omega) (by omega)]; exact hnk
/-- the reference's rows of a follower -/
theorem r_rows (hA : p_WF A) (hR : p_RI A M) {f : Int} (hf : 0 ≤ f ∧ f < A 6 0) {A' M1 : xM} (hA' : ∀ a k, ¬ (9 + 4 * f ≤ a ∧ a ≤ 12 + 4 * f) → A' a k = A a k) (h0 : ∀ k, k ≠ 3 → A' (9 + 4 * f) k = A (9 + 4 * f) k) (h1 : ∀ k, A' (9 + 4 * f + 1) k = A (9 + 4 * f + 1) k) (h3 : 1 ≤ A' (9 + 4 * f) 3 ∧ A' (9 + 4 * f) 3 ≤ 4) (hM : ∀ a k, ¬ (a = 107 ∧ k = f) → ¬ (123 + 5 * f ≤ a ∧ a ≤ 126 + 5 * f) → a ≠ 138 + f → ¬ p_rsc a k → M1 a k = M a k) (e3 : M1 107 f = A' (9 + 4 * f) 3) (en : ∀ i j, 0 ≤ i → i < A' (9 + 4 * f) 3 → 0 ≤ j → j < A (9 + 4 * f) 2 → M1 (123 + 5 * f + i) j = A' (9 + 4 * f + 2) (3 * i + j)) (eb : ∀ i, 0 ≤ i → i < A' (9 + 4 * f) 3 → M1 (138 + f) i = A' (9 + 4 * f + 3) i) : p_RI A' M1 := by
  have w0 := hA.1.1
  obtain ⟨⟨r0, r1, r2, r3, r4, r5, r6⟩, wf⟩ := p_RI_f hA hR hf
  have e6 : A' 6 0 = A 6 0 := hA' _ _ (by omega)
  refine p_RI_F hA hR (f := f) (by omega) (fun a k q1 q2 => hA' a k q1) (by omega) (fun x _ q _ => by omega) (by rw [hM _ _ (by omega) (by omega) (by omega) (by unfold p_rsc; omega), e6]; exact hR.1.1) (fun a k q1 q2 q3 => hM a k (by unfold p_rF at q2; omega) (by unfold p_rF at q2; omega) (by unfold p_rF at q2; omega) q1) (fun _ => ?_)
  have g0 : ∀ k, p_Fs A' f.toNat 0 k = A' (9 + 4 * f) k := p_Fs0 A' hf.1
  rw [p_Fs0 A hf.1] at r0 r1 r2
  refine ⟨?_, ?_, ?_, ?_, fun w g q1 q2 q3 q4 => ?_, fun i j q1 q2 q3 q4 => ?_, fun i q1 q2 => ?_⟩
  · rw [g0, h0 _ (by omega), hM _ _ (by omega) (by omega) (by omega) (by unfold p_rsc; omega)]; exact r0
  · rw [g0, h0 _ (by omega), hM _ _ (by omega) (by omega) (by omega) (by unfold p_rsc; omega)]; exact r1
  · rw [g0, h0 _ (by omega), hM _ _ (by omega) (by omega) (by omega) (by unfold p_rsc; omega)]; exact r2
  · rw [g0]; exact e3
  · have := r4 w g q1 q2 q3 q4
    rw [p_Fs1 A hf.1] at this
    rw [p_Fs1 A' hf.1, h1, hM _ _ (by omega) (by omega) (by omega) (by unfold p_rsc; omega)]; exact this
  · rw [g0] at q2 q4
    rw [h0 _ (by omega)] at q4
    rw [p_Fs2 A' hf.1]; exact en i j q1 q2 q3 q4
  · rw [g0] at q2
    rw [p_Fs3 A' hf.1]; exact eb i q1 q2
theorem r_fill (hA : p_WF A) (hR : p_RI A M) {f : Int} (hf : 0 ≤ f ∧ f < A 6 0) {row code base least bound : Int} (hr : 0 ≤ row ∧ row < 4) {A' M1 : xM} (hA' : ∀ a k, ¬ (a = 9 + 4 * f ∧ k = 3) → A' a k = p_fill A (9 + 4 * f) row code base least bound a k) (h3 : 1 ≤ A' (9 + 4 * f) 3 ∧ A' (9 + 4 * f) 3 ≤ 4) (hrr : ∀ i, 0 ≤ i → i < A' (9 + 4 * f) 3 → i ≠ row → i < A (9 + 4 * f) 3) (e3 : M1 107 f = A' (9 + 4 * f) 3) (n1 : ∀ j, 0 ≤ j → j < A (9 + 4 * f) 2 → M1 (123 + 5 * f + row) j = (if j = 2 then code % base + least else if j = 1 then code / base % base + least else code / base / base % base + least)) (nb : M1 (138 + f) row = bound) (hM : ∀ a k, ¬ (a = 107 ∧ k = f) → a ≠ 123 + 5 * f + row → ¬ (a = 138 + f ∧ k = row) → M1 a k = M a k) : p_RI A' M1 := by
  have w0 := hA.1.1
  obtain ⟨⟨r0, r1, r2, r3, r4, r5, r6⟩, wf⟩ := p_RI_f hA hR hf
  have gd := p_gd hA hf
  rw [p_Fs0 A hf.1] at r5 r6
  rw [p_Fs0 A hf.1] at r5
  refine r_rows hA hR hf (fun a k q => ?_) (fun k q => ?_) (fun k => ?_) h3 (fun a k q1 q2 q3 _ => hM a k q1 (by omega) (by omega)) e3 (fun i j i1 i2 j1 j2 => ?_) (fun i i1 i2 => ?_)
  · rw [hA' _ _ (by omega), p_fill_ne (by omega) (by omega)]
  · rw [hA' _ _ (by omega), p_fill_ne (by omega) (by omega)]
  · rw [hA' _ _ (by omega), p_fill_ne (by omega) (by omega)]
  · rw [hA' _ _ (by omega)]
    by_cases c : i = row
    · rw [c, p_fill_n (by omega)]; exact n1 j j1 j2
    · have := r5 i j i1 (hrr i i1 i2 c) j1 j2
      rw [p_Fs2 A hf.1] at this
      rw [p_fill_ne (by omega) (by omega), hM _ _ (by omega) (by omega) (by omega)]; exact this
  · rw [hA' _ _ (by omega)]
    by_cases c : i = row
    · rw [c, p_fill_b]; exact nb
    · have := r6 i i1 (hrr i i1 i2 c)
      rw [p_Fs3 A hf.1] at this
      rw [p_fill_ne (by omega) (by omega), hM _ _ (by omega) (by omega) (by omega)]; exact this
theorem k_budget (hA : p_WF A) (hC : p_CI A M) {f n b : Int} (h : ∀ M1, p_CI (o_budget A f n b).2 M1 → p_cfr M M1 → Q (some (0, (o_budget A f n b).1)) M1) : x_Ev l E (5, 0, 0) m_X10_budget 0 [(20, 5), (0, f), (0, n), (0, b), (5, 0)] [] M Q := by
  unfold o_budget at h
  have w0 := hA.1.1
  have bad : ¬ ((0 ≤ f ∧ f < A 6 0) ∧ (0 ≤ n ∧ n ≤ 26) ∧ 0 ≤ b ∧ b ≤ 20) → x_Ev l E (1, 0, 0) m_X10_tell 0 [(20, 5), (0, 0)] [] M (fun r M3 => ∃ z, r = some (0, z) ∧ Q (some (0, z)) M3) := fun c => by
    rw [p_if_f c] at h
    exact k_tl hA hC (by omega) (fun M1 a b => ⟨_, rfl, h M1 a b⟩)
  refine u_X10_budget_0 f n b (k_NF hC (fun c => x_y1 (by omega) (bad (fun q => c q.1))) (fun c => x_y0 ⟨fun d => bad (by omega), fun d => ⟨fun d2 => bad (by omega), fun d2 => k_NB (fun e => x_n1 (by omega) (bad (fun q => e q.2.2))) (fun e => x_n0 ?_)⟩⟩))
  have gd := p_gd hA c
  rw [p_if_t ⟨c, by omega, e⟩] at h
  rw [show 8 + 1 + 4 * f = 9 + 4 * f by omega, show 41 + 8 + 9 * f = 49 + 9 * f by omega]
  refine ⟨by omega, ?_⟩
  intro v hv
  rw [hC.1 _ _ (by omega) (by omega)] at hv
  rw [hv]
  refine ⟨by omega, c_fillRow (by omega) (by omega) (by omega) (by omega) ⟨rfl, by omega, ?_⟩⟩
  exact k_find hA hC (A' := p_fill A (9 + 4 * f) 0 n 3 1 b) c (fun a k q => p_fill_ne (by omega) (by omega)) (fun a k q1 q2 => p_fill_sm (hC.1 a k (by omega) (by omega))) (fun a k q => p_fill_ne (by omega) (by omega)) (p_fill_wf hA c (by omega) (by omega) (Or.inl ⟨rfl, rfl⟩) e (fun _ _ _ => rfl) (by rw [p_fill_ne (by omega) (by omega)]; exact gd.2)) (fun M1 a1 _ a2 _ => ⟨rfl, h M1 a1 a2⟩)
theorem wf_budget (hA : p_WF A) (f n b : Int) : p_WF (o_budget A f n b).2 := by
  unfold o_budget
  have w0 := hA.1.1
  by_cases c : (0 ≤ f ∧ f < A 6 0) ∧ (0 ≤ n ∧ n ≤ 26) ∧ 0 ≤ b ∧ b ≤ 20
  · rw [p_if_t c]
    have gd := p_gd hA c.1
    have e6 : p_fill A (9 + 4 * f) 0 n 3 1 b 6 0 = A 6 0 := p_fill_ne (by omega) (by omega)
    exact p_WF_F (A' := p_fill A (9 + 4 * f) 0 n 3 1 b) (f := f) hA (by omega) (fun a k q1 q2 => p_fill_ne (by omega) (by omega)) (by omega) (fun x _ q _ => by omega) (by omega) (p_fill_wf hA c.1 (by omega) (by omega) (Or.inl ⟨rfl, rfl⟩) c.2.2 (fun _ _ _ => rfl) (by rw [p_fill_ne (by omega) (by omega)]; exact gd.2))
  · rw [p_if_f c]; exact wf_tl hA 0
theorem r_budget (hA : p_WF A) (hR : p_RI A M) {f n b : Int} (h : ∀ M1, p_RI (o_budget A f n b).2 M1 → p_rfr M M1 → Q (some (0, (o_budget A f n b).1)) M1) : x_Ev l E (3, 0, 0) m_X11_budget 0 [(21, 103), (0, f), (0, n), (0, b), (5, 0)] [] M Q := by
  unfold o_budget at h
  have w0 := hA.1.1
  have bad : ¬ ((0 ≤ f ∧ f < A 6 0) ∧ (0 ≤ n ∧ n ≤ 26) ∧ 0 ≤ b ∧ b ≤ 20) → x_Ev l E (1, 0, 0) m_X11_finds 0 [(21, 103), (0, 0)] [] M (fun r M3 => ∃ z, r = some (0, z) ∧ Q (some (0, z)) M3) := fun c => by
    rw [p_if_f c] at h
    exact r_tl hA hR (by omega) (fun M1 a b => ⟨_, rfl, h M1 a b⟩)
  refine u_X11_budget_0 f n b (r_F hA hR (fun c => x_n1 (by omega) (r_in (fun d => x_n1 (by omega) (r_in (fun e => x_y1 (by omega) ?_) (fun e => x_y0 (bad (fun q => e q.2.2))))) (fun d => x_n0 (bad (fun q => d q.2.1))))) (fun c => x_n0 (bad (fun q => c q.1))))
  have gd := p_gd hA c
  obtain ⟨rf, wf⟩ := p_RI_f hA hR c
  rw [p_if_t ⟨c, d, e⟩] at h
  refine ⟨by omega, ?_⟩
  intro v hv
  have r2 := rf.2.2.1
  have r3 := rf.2.2.2.1
  have r6 := rf.2.2.2.2.2.2
  rw [p_Fs0 A c.1] at r2 r3 r6
  rw [show 137 + 1 + 1 * f = 138 + f by omega] at hv ⊢
  rw [r6 0 (by omega) (by omega), p_Fs3 A c.1] at hv
  refine c_numbers (by omega) (by omega) (by omega) (by omega) (by omega) (by rw [r2]; exact gd.1) (fun M1 n1 n2 => ⟨rfl, by omega, ?_⟩)
  rw [r2] at n1
  intro M2 hM2
  rw [hv]
  refine h M2 (r_fill (A' := p_fill A (9 + 4 * f) 0 n 3 1 b) hA hR c (by omega) (fun _ _ _ => rfl) (by rw [p_fill_ne (by omega) (by omega)]; exact gd.2) (fun i i1 i2 _ => by rw [p_fill_ne (by omega) (by omega)] at i2; exact i2) ?_ (fun j j1 j2 => ?_) ?_ (fun a k q1 q2 q3 => ?_)) (p_rfr_o (fun a k q => ?_))
  · rw [p_fill_ne (by omega) (by omega), hM2, x_wr_ne _ _ (by omega), n2 _ _ (by omega)]; exact r3
  · rw [hM2, x_wr_ne _ _ (by omega)]; exact n1 j j1 j2
  · rw [hM2, x_wr_eq]
  · rw [hM2, x_wr_ne _ _ (by omega), n2 _ _ (by omega)]
  · rw [hM2, x_wr_ne _ _ (by omega), n2 _ _ (by omega)]
theorem p_bind_wf (hA : p_WF A) {f n b : Int} (c : 0 ≤ f ∧ f < A 6 0) (hn : 0 ≤ n) (e : 0 ≤ b ∧ b ≤ 20) (h4 : A (9 + 4 * f) 3 < 4) : p_wf (p_Fs (x_wr (p_fill A (9 + 4 * f) (A (9 + 4 * f) 3) n 7 (-3) b) (9 + 4 * f) 3 (A (9 + 4 * f) 3 + 1)) f.toNat) := by
  have gd := p_gd hA c
  exact p_fill_wf hA c (row := A (9 + 4 * f) 3) (by omega) hn (Or.inr ⟨rfl, rfl, by omega⟩) e (fun a k q => x_wr_ne _ _ (by omega)) (by rw [x_wr_eq]; omega)
theorem k_bind (hA : p_WF A) (hC : p_CI A M) {f n b : Int} (h : ∀ M1, p_CI (o_bind A f n b).2 M1 → p_cfr M M1 → Q (some (0, (o_bind A f n b).1)) M1) : x_Ev l E (5, 0, 0) m_X10_bind 0 [(20, 5), (0, f), (0, n), (0, b), (5, 0), (5, 0)] [] M Q := by
  unfold o_bind at h
  have w0 := hA.1.1
  have bad : ¬ ((0 ≤ f ∧ f < A 6 0) ∧ (0 ≤ n ∧ n ≤ 342) ∧ 0 ≤ b ∧ b ≤ 20) → x_Ev l E (1, 0, 0) m_X10_tell 0 [(20, 5), (0, 0)] [] M (fun r M3 => ∃ z, r = some (0, z) ∧ Q (some (0, z)) M3) := fun c => by
    rw [p_if_f c] at h
    exact k_tl hA hC (by omega) (fun M1 a b => ⟨_, rfl, h M1 a b⟩)
  refine u_X10_bind_0 f n b (k_NF hC (fun c => x_y1 (by omega) (bad (fun q => c q.1))) (fun c => x_y0 ⟨fun d => bad (by omega), fun d => ⟨fun d2 => bad (by omega), fun d2 => k_NB (fun e => x_n1 (by omega) (bad (fun q => e q.2.2))) (fun e => x_n0 ?_)⟩⟩))
  have gd := p_gd hA c
  rw [p_if_t ⟨c, by omega, e⟩] at h
  rw [show 8 + 1 + 4 * f = 9 + 4 * f by omega, show 41 + 8 + 9 * f = 49 + 9 * f by omega, hC.1 (9 + 4 * f) 3 (by omega) (by omega)]
  refine ⟨by omega, fun d3 => ?_, fun d3 => ?_⟩
  · rw [p_if_t d3] at h
    intro v hv
    rw [hv]
    refine c_fillRow (by omega) (by omega) (by omega) (by omega) ⟨rfl, ?_⟩
    intro M1 hM1
    rw [p_fill_ne (by omega) (by omega), hC.1 (9 + 4 * f) 3 (by omega) (by omega), x_w_id (by omega) (by omega)] at hM1
    rw [hM1]
    refine ⟨by omega, ?_⟩
    exact k_find hA hC (A' := x_wr (p_fill A (9 + 4 * f) (A (9 + 4 * f) 3) n 7 (-3) b) (9 + 4 * f) 3 (A (9 + 4 * f) 3 + 1)) c (fun a k q => by rw [x_wr_ne _ _ (by omega), p_fill_ne (by omega) (by omega)]) (fun a k q1 q2 => x_wr_sm (p_fill_sm (hC.1 a k (by omega) (by omega)))) (fun a k q => by rw [x_wr_ne _ _ (by omega), p_fill_ne (by omega) (by omega)]) (p_bind_wf hA c (by omega) e d3) (fun M1 a1 _ a2 _ => ⟨rfl, h M1 a1 a2⟩)
  · rw [p_if_f d3] at h
    exact k_tl hA hC (by omega) (fun M1 a b => ⟨_, rfl, h M1 a b⟩)
theorem wf_bind (hA : p_WF A) (f n b : Int) : p_WF (o_bind A f n b).2 := by
  unfold o_bind
  have w0 := hA.1.1
  by_cases c : (0 ≤ f ∧ f < A 6 0) ∧ (0 ≤ n ∧ n ≤ 342) ∧ 0 ≤ b ∧ b ≤ 20
  · rw [p_if_t c]
    have gd := p_gd hA c.1
    by_cases d : A (9 + 4 * f) 3 < 4
    · rw [p_if_t d]
      have e6 : x_wr (p_fill A (9 + 4 * f) (A (9 + 4 * f) 3) n 7 (-3) b) (9 + 4 * f) 3 (A (9 + 4 * f) 3 + 1) 6 0 = A 6 0 := by rw [x_wr_ne _ _ (by omega), p_fill_ne (by omega) (by omega)]
      exact p_WF_F (A' := x_wr (p_fill A (9 + 4 * f) (A (9 + 4 * f) 3) n 7 (-3) b) (9 + 4 * f) 3 (A (9 + 4 * f) 3 + 1)) (f := f) hA (by omega) (fun a k q1 q2 => by rw [x_wr_ne _ _ (by omega), p_fill_ne (by omega) (by omega)]) (by omega) (fun x _ q _ => by omega) (by omega) (p_bind_wf hA c.1 (by omega) c.2.2 d)
    · rw [p_if_f d]; exact wf_tl hA 1
  · rw [p_if_f c]; exact wf_tl hA 0
theorem r_bind (hA : p_WF A) (hR : p_RI A M) {f n b : Int} (h : ∀ M1, p_RI (o_bind A f n b).2 M1 → p_rfr M M1 → Q (some (0, (o_bind A f n b).1)) M1) : x_Ev l E (3, 0, 0) m_X11_bind 0 [(21, 103), (0, f), (0, n), (0, b)] [] M Q := by
  unfold o_bind at h
  have w0 := hA.1.1
  have bad : ¬ ((0 ≤ f ∧ f < A 6 0) ∧ (0 ≤ n ∧ n ≤ 342) ∧ 0 ≤ b ∧ b ≤ 20) → x_Ev l E (1, 0, 0) m_X11_finds 0 [(21, 103), (0, 0)] [] M (fun r M3 => ∃ z, r = some (0, z) ∧ Q (some (0, z)) M3) := fun c => by
    rw [p_if_f c] at h
    exact r_tl hA hR (by omega) (fun M1 a b => ⟨_, rfl, h M1 a b⟩)
  refine u_X11_bind_0 f n b (r_F hA hR (fun c => x_n1 (by omega) (r_in (fun d => x_n1 (by omega) (r_in (fun e => x_y1 (by omega) ?_) (fun e => x_y0 (bad (fun q => e q.2.2))))) (fun d => x_n0 (bad (fun q => d q.2.1))))) (fun c => x_n0 (bad (fun q => c q.1))))
  have gd := p_gd hA c
  obtain ⟨rf, wf⟩ := p_RI_f hA hR c
  rw [p_if_t ⟨c, d, e⟩] at h
  have r2 := rf.2.2.1
  have r3 := rf.2.2.2.1
  rw [p_Fs0 A c.1] at r2 r3
  rw [r3, show 137 + 1 + 1 * f = 138 + f by omega]
  refine ⟨by omega, fun d3 => ⟨by omega, ?_⟩, fun d3 => ?_⟩
  · rw [p_if_t (by omega)] at h
    refine c_numbers (by omega) (by omega) (by omega) (by omega) (by omega) (by rw [r2]; exact gd.1) (fun M1 n1 n2 => ⟨rfl, by omega, by omega, ?_⟩)
    rw [r2] at n1
    have e7 : M1 107 f = A (9 + 4 * f) 3 := by rw [n2 _ _ (by omega)]; exact r3
    rw [e7]
    refine ⟨by omega, ?_⟩
    intro M2 hM2
    refine ⟨by omega, by omega, ?_⟩
    intro M3 hM3
    rw [show M2 107 f = A (9 + 4 * f) 3 by rw [hM2, x_wr_ne _ _ (by omega)]; exact e7, x_w_id (by omega) (by omega)] at hM3
    refine ⟨by omega, ?_⟩
    rw [show M3 107 f = A (9 + 4 * f) 3 + 1 by rw [hM3, x_wr_eq], x_w_id (by omega) (by omega), show A (9 + 4 * f) 3 + 1 - 1 = A (9 + 4 * f) 3 by omega]
    refine h M3 (r_fill (row := A (9 + 4 * f) 3) (A' := x_wr (p_fill A (9 + 4 * f) (A (9 + 4 * f) 3) n 7 (-3) b) (9 + 4 * f) 3 (A (9 + 4 * f) 3 + 1)) hA hR c (by omega) (fun a k q => x_wr_ne _ _ (by omega)) (by rw [x_wr_eq]; omega) (fun i i1 i2 q => by rw [x_wr_eq] at i2; omega) ?_ (fun j j1 j2 => ?_) ?_ (fun a k q1 q2 q3 => ?_)) (p_rfr_o (fun a k q => ?_))
    · rw [x_wr_eq, hM3, x_wr_eq]
    · rw [hM3, x_wr_ne _ _ (by omega), hM2, x_wr_ne _ _ (by omega)]; exact n1 j j1 j2
    · rw [hM3, x_wr_ne _ _ (by omega), hM2, x_wr_eq]
    · rw [hM3, x_wr_ne _ _ (by omega), hM2, x_wr_ne _ _ (by omega), n2 _ _ (by omega)]
    · rw [hM3, x_wr_ne _ _ (by omega), hM2, x_wr_ne _ _ (by omega), n2 _ _ (by omega)]
  · rw [p_if_f (by omega)] at h
    exact r_tl hA hR (by omega) (fun M1 a b => ⟨_, rfl, h M1 a b⟩)
end O3
