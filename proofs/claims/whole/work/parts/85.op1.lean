/-! follower, become, good, goodOf -/
noncomputable def o_follower (A : xM) (km g : Int) : Int × xM := p_if ((0 ≤ km ∧ km < 70) ∧ 1 ≤ g ∧ g ≤ 3) (p_if (A 6 0 < 3) (A 6 0, x_wr (p_beg A (9 + 4 * A 6 0) km g) 6 0 (A 6 0 + 1)) (p_err A 1)) (p_err A 0)
noncomputable def o_become (A : xM) (f km : Int) : Int × xM := p_if ((0 ≤ f ∧ f < A 6 0) ∧ 0 ≤ km ∧ km < 70) (A (9 + 4 * f) 0, p_setK A (9 + 4 * f) km) (p_err A 0)
def p_tv (w v : Int) : Prop := (w = 0 → 0 ≤ v ∧ v ≤ 20) ∧ (w = 1 → 0 ≤ v ∧ v ≤ 3) ∧ (w = 2 → -9 ≤ v ∧ v ≤ 9)
noncomputable def o_good (A : xM) (f g w v : Int) : Int × xM := p_if ((((0 ≤ f ∧ f < A 6 0) ∧ 0 ≤ g ∧ g < A (9 + 4 * f) 2) ∧ 0 ≤ w ∧ w ≤ 2) ∧ p_tv w v) (A (9 + 4 * f + 1) (3 * w + g), x_wr A (9 + 4 * f + 1) (3 * w + g) v) (p_err A 0)
noncomputable def o_goodOf (A : xM) (f g w : Int) : Int × xM := p_if (((0 ≤ f ∧ f < A 6 0) ∧ 0 ≤ g ∧ g < A (9 + 4 * f) 2) ∧ 0 ≤ w ∧ w ≤ 2) (A (9 + 4 * f + 1) (3 * w + g), A) (p_err A 0)
theorem p_gd {A : xM} (hA : p_WF A) {f : Int} (hf : 0 ≤ f ∧ f < A 6 0) : (1 ≤ A (9 + 4 * f) 2 ∧ A (9 + 4 * f) 2 ≤ 3) ∧ (1 ≤ A (9 + 4 * f) 3 ∧ A (9 + 4 * f) 3 ≤ 4) := by
  have w := p_WF_f hA hf
  have h2 := w.2.2.1
  have h3 := w.2.2.2.1
  rw [p_Fs0 A hf.1] at h2 h3
  exact ⟨h2, h3⟩
theorem p_setK_ne {A : xM} {w km a k : Int} (h : ¬ (a = w ∧ (k = 0 ∨ k = 1))) : p_setK A w km a k = A a k := by
  unfold p_setK
  rw [x_wr_ne _ _ (by omega), x_wr_ne _ _ (by omega)]
theorem p_setK0 {A : xM} {w km : Int} : p_setK A w km w 0 = km / 10 := by
  unfold p_setK
  rw [x_wr_ne _ _ (by omega), x_wr_eq]
theorem p_setK1 {A : xM} {w km : Int} : p_setK A w km w 1 = km % 10 := by
  unfold p_setK
  rw [x_wr_eq]
theorem p_fill_ne {A : xM} {w row code base least bound a k : Int} (h : ¬ (a = w + 2 ∧ 3 * row ≤ k ∧ k < 3 * row + 3)) (h' : ¬ (a = w + 3 ∧ k = row)) : p_fill A w row code base least bound a k = A a k := by
  unfold p_fill
  rw [x_wr_ne _ _ (by omega), x_wr_ne _ _ (by omega), x_wr_ne _ _ (by omega), x_wr_ne _ _ (by omega)]
theorem p_fill_sm {A M : xM} {w row code base least bound a k : Int} (h : M a k = A a k) : p_fill M w row code base least bound a k = p_fill A w row code base least bound a k := x_wr_sm (x_wr_sm (x_wr_sm (x_wr_sm h)))
theorem p_fill_b {A : xM} {w row code base least bound : Int} : p_fill A w row code base least bound (w + 3) row = bound := by
  unfold p_fill
  rw [x_wr_eq]
theorem p_fill_n {A : xM} {w row code base least bound j : Int} (hj : 0 ≤ j ∧ j < 3) : p_fill A w row code base least bound (w + 2) (3 * row + j) = (if j = 2 then code % base + least else if j = 1 then code / base % base + least else code / base / base % base + least) := by
  unfold p_fill
  have : j = 0 ∨ j = 1 ∨ j = 2 := by omega
  rcases this with e | e | e
  · rw [e, if_neg (by omega), if_neg (by omega), x_wr_ne _ _ (by omega), Int.add_zero, x_wr_eq]
  · rw [e, if_neg (by omega), if_pos rfl, x_wr_ne _ _ (by omega), x_wr_ne _ _ (by omega), x_wr_eq]
  · rw [e, if_pos rfl, x_wr_ne _ _ (by omega), x_wr_ne _ _ (by omega), x_wr_ne _ _ (by omega), x_wr_eq]
theorem p_beg_ne {A : xM} {w km g a k : Int} (h : ¬ (w ≤ a ∧ a ≤ w + 3)) : p_beg A w km g a k = A a k := by
  unfold p_beg
  rw [p_fill_ne (by omega) (by omega)]
  unfold p_ftr
  rw [if_neg (by omega), x_wr_ne _ _ (by omega), x_wr_ne _ _ (by omega), p_setK_ne (by omega)]
theorem p_setK_sm {A M : xM} {w km a k : Int} (h : M a k = A a k) : p_setK M w km a k = p_setK A w km a k := x_wr_sm (x_wr_sm h)
theorem p_ftr_sm {A M : xM} {w n a k : Int} (h : M a k = A a k) : p_ftr M w n a k = p_ftr A w n a k := by
  unfold p_ftr
  rw [h]
theorem p_beg_sm {A M : xM} {w km g a k : Int} (h : M a k = A a k) : p_beg M w km g a k = p_beg A w km g a k := p_fill_sm (p_ftr_sm (x_wr_sm (x_wr_sm (p_setK_sm h))))
theorem p_beg_0 {A : xM} {w km g : Int} : p_beg A w km g w 0 = km / 10 ∧ p_beg A w km g w 1 = km % 10 ∧ p_beg A w km g w 2 = g ∧ p_beg A w km g w 3 = 1 := by
  have e : ∀ k, p_beg A w km g w k = x_wr (x_wr (p_setK A w km) w 2 g) w 3 1 w k := by
    intro k
    unfold p_beg
    rw [p_fill_ne (by omega) (by omega)]
    unfold p_ftr
    rw [if_neg (by omega)]
  refine ⟨?_, ?_, ?_, ?_⟩
  · rw [e, x_wr_ne _ _ (by omega), x_wr_ne _ _ (by omega), p_setK0]
  · rw [e, x_wr_ne _ _ (by omega), x_wr_ne _ _ (by omega), p_setK1]
  · rw [e, x_wr_ne _ _ (by omega), x_wr_eq]
  · rw [e, x_wr_eq]
theorem p_beg_1 {A : xM} {w km g k : Int} (hk : 0 ≤ k ∧ k < 9) : p_beg A w km g (w + 1) k = p_ft k := by
  unfold p_beg
  rw [p_fill_ne (by omega) (by omega)]
  unfold p_ftr
  rw [if_pos ⟨rfl, by omega⟩]
theorem p_beg_2 {A : xM} {w km g k : Int} (hk : 0 ≤ k ∧ k < 3) : p_beg A w km g (w + 2) k = 1 := by
  have := p_fill_n (A := p_ftr (x_wr (x_wr (p_setK A w km) w 2 g) w 3 1) w 9) (w := w) (row := 0) (code := 0) (base := 3) (least := 1) (bound := 10) hk
  rw [show 3 * (0 : Int) + k = k by omega] at this
  unfold p_beg
  rw [this]
  have : k = 0 ∨ k = 1 ∨ k = 2 := by omega
  rcases this with e | e | e <;> rw [e] <;> decide
theorem p_beg_2' {A : xM} {w km g k : Int} (hk : 3 ≤ k) : p_beg A w km g (w + 2) k = A (w + 2) k := by
  unfold p_beg
  rw [p_fill_ne (by omega) (by omega)]
  unfold p_ftr
  rw [if_neg (by omega), x_wr_ne _ _ (by omega), x_wr_ne _ _ (by omega), p_setK_ne (by omega)]
theorem p_beg_3 {A : xM} {w km g : Int} : p_beg A w km g (w + 3) 0 = 10 := p_fill_b
theorem p_beg_3' {A : xM} {w km g k : Int} (hk : k ≠ 0) : p_beg A w km g (w + 3) k = A (w + 3) k := by
  unfold p_beg
  rw [p_fill_ne (by omega) (by omega)]
  unfold p_ftr
  rw [if_neg (by omega), x_wr_ne _ _ (by omega), x_wr_ne _ _ (by omega), p_setK_ne (by omega)]
section O1
variable {l : Launch} {E : xE} {Q : Option xV → xM → Prop} {A M : xM}
theorem k_become (hA : p_WF A) (hC : p_CI A M) {f km : Int} (h : ∀ M1, p_CI (o_become A f km).2 M1 → p_cfr M M1 → Q (some (0, (o_become A f km).1)) M1) : x_Ev l E (2, 0, 0) m_X10_become 0 [(20, 5), (0, f), (0, km), (5, 0)] [] M Q := by
  unfold o_become at h
  have bad : ¬ ((0 ≤ f ∧ f < A 6 0) ∧ 0 ≤ km ∧ km < 70) → x_Ev l E (1, 0, 0) m_X10_tell 0 [(20, 5), (0, 0)] [] M (fun r M3 => ∃ z, r = some (0, z) ∧ Q (some (0, z)) M3) := fun c => by
    rw [p_if_f c] at h
    exact k_tl hA hC (by omega) (fun M1 a b => ⟨_, rfl, h M1 a b⟩)
  refine u_X10_become_0 f km (k_NF hC (fun c => x_y1 (by omega) (bad (fun q => c q.1))) (fun c => x_y0 (k_NK (fun d => x_n1 (by omega) (bad (fun q => d q.2))) (fun d => x_n0 ?_))))
  have w0 := hA.1.1
  rw [p_if_t ⟨c, d⟩] at h
  rw [show 8 + 1 + 4 * f = 9 + 4 * f by omega]
  refine ⟨by omega, ?_⟩
  intro v hv
  rw [hC.1 _ _ (by omega) (by omega)] at hv
  rw [hv]
  refine ⟨by omega, c_setKind d ⟨rfl, h _ (p_CI_K hA hC c (fun a k q => p_setK_ne q) (fun a k q => p_setK_ne q) ?_ ?_ ?_ ?_).1 (fun a k q1 q2 => p_setK_ne (by omega))⟩⟩
  · rw [p_setK0, p_setK0]
  · rw [p_setK1, p_setK1]
  · rw [p_setK0]; omega
  · rw [p_setK1]; omega
theorem r_become (hA : p_WF A) (hR : p_RI A M) {f km : Int} (h : ∀ M1, p_RI (o_become A f km).2 M1 → p_rfr M M1 → Q (some (0, (o_become A f km).1)) M1) : x_Ev l E (3, 0, 0) m_X11_become 0 [(21, 103), (0, f), (0, km), (5, 0)] [] M Q := by
  unfold o_become at h
  have bad : ¬ ((0 ≤ f ∧ f < A 6 0) ∧ 0 ≤ km ∧ km < 70) → x_Ev l E (1, 0, 0) m_X11_finds 0 [(21, 103), (0, 0)] [] M (fun r M3 => ∃ z, r = some (0, z) ∧ Q (some (0, z)) M3) := fun c => by
    rw [p_if_f c] at h
    exact r_tl hA hR (by omega) (fun M1 a b => ⟨_, rfl, h M1 a b⟩)
  refine u_X11_become_0 f km (r_F hA hR (fun c => x_n1 (by omega) (r_in (fun d => x_y1 (by omega) ?_) (fun d => x_y0 (bad (fun q => d (by omega)))))) (fun c => x_n0 (bad (fun q => c q.1))))
  have w0 := hA.1.1
  rw [p_if_t ⟨c, by omega⟩] at h
  refine ⟨by omega, ?_⟩
  intro v hv
  rw [(p_RI_f hA hR c).1.1, p_Fs0 A c.1] at hv
  refine ⟨by omega, ?_⟩
  intro M1 hM1
  refine ⟨by omega, ?_⟩
  intro M2 hM2
  rw [x_td d.1, x_w_id (by omega) (by omega)] at hM1
  rw [x_tm0 d.1, hM1] at hM2
  rw [hv, hM2]
  refine h _ (p_RI_K (A' := p_setK A (9 + 4 * f) km) hA hR c (fun a k q => p_setK_ne q) (fun a k q => ?_) ?_ ?_) (p_rfr_tr (p_rfr_w (by omega)) (p_rfr_w (by omega)))
  · rw [x_wr_ne _ _ (by omega), x_wr_ne _ _ (by omega)]
  · rw [p_setK0, x_wr_ne _ _ (by omega), x_wr_eq]
  · rw [p_setK1, x_wr_eq]
theorem wf_K (hA : p_WF A) {f : Int} {A' : xM} (hf : 0 ≤ f ∧ f < A 6 0) (hA' : ∀ a k, ¬ (a = 9 + 4 * f ∧ (k = 0 ∨ k = 1)) → A' a k = A a k) (b0 : 0 ≤ A' (9 + 4 * f) 0 ∧ A' (9 + 4 * f) 0 ≤ 6) (b1 : 0 ≤ A' (9 + 4 * f) 1 ∧ A' (9 + 4 * f) 1 ≤ 9) : p_WF A' := by
  have w0 := hA.1.1
  have g0 : ∀ k, p_Fs A' f.toNat 0 k = A' (9 + 4 * f) k := p_Fs0 A' hf.1
  have e6 : A' 6 0 = A 6 0 := hA' _ _ (by omega)
  refine p_WF_F hA (f := f) (by omega) (fun a k q1 q2 => hA' a k (by omega)) (by omega) (fun g _ q _ => by omega) (by omega) ?_
  refine p_wf_K (p_WF_f hA hf) (by rw [g0]; exact b0) (by rw [g0]; exact b1) ?_ ?_ ?_ ?_ ?_
  · rw [g0, p_Fs0 A hf.1, hA' _ _ (by omega)]
  · rw [g0, p_Fs0 A hf.1, hA' _ _ (by omega)]
  · funext k; rw [p_Fs1 A' hf.1, p_Fs1 A hf.1, hA' _ _ (by omega)]
  · funext k; rw [p_Fs2 A' hf.1, p_Fs2 A hf.1, hA' _ _ (by omega)]
  · funext k; rw [p_Fs3 A' hf.1, p_Fs3 A hf.1, hA' _ _ (by omega)]
theorem wf_become (hA : p_WF A) (f km : Int) : p_WF (o_become A f km).2 := by
  unfold o_become
  by_cases c : (0 ≤ f ∧ f < A 6 0) ∧ 0 ≤ km ∧ km < 70
  · rw [p_if_t c]
    refine wf_K hA c.1 (fun a k q => p_setK_ne q) ?_ ?_
    · show 0 ≤ p_setK A (9 + 4 * f) km (9 + 4 * f) 0 ∧ p_setK A (9 + 4 * f) km (9 + 4 * f) 0 ≤ 6
      rw [p_setK0]; omega
    · show 0 ≤ p_setK A (9 + 4 * f) km (9 + 4 * f) 1 ∧ p_setK A (9 + 4 * f) km (9 + 4 * f) 1 ≤ 9
      rw [p_setK1]; omega
  · rw [p_if_f c]
    exact wf_tl hA 0
theorem p_beg_wf (hA : p_WF A) {km g : Int} (hk : 0 ≤ km ∧ km < 70) (hg : 1 ≤ g ∧ g ≤ 3) {f : Int} (hf : 0 ≤ f ∧ f < 3) : p_wf (x_F (p_beg A (9 + 4 * f) km g) (9 + 4 * f)) := by
  obtain ⟨b0, b1, b2, b3⟩ := p_beg_0 (A := A) (w := 9 + 4 * f) (km := km) (g := g)
  obtain ⟨hn, hb⟩ := hA.2.2.2.2.2.2 f hf.1 hf.2
  unfold p_wf
  simp only [x_F0, x_F1, x_F2, x_F3]
  rw [b0, b1, b2, b3]
  refine ⟨by omega, by omega, by omega, by omega, fun x x1 x2 => ?_, fun k k1 k2 => ?_, fun k k1 k2 => ?_, fun k k1 k2 => ?_⟩
  · rw [p_beg_1 (by omega), p_beg_1 (by omega), p_beg_1 (by omega)]
    unfold p_ft
    rw [if_pos (by omega), if_neg (by omega), if_pos (by omega), if_neg (by omega), if_neg (by omega)]
    omega
  · by_cases c : k < 3
    · rw [p_beg_2 (by omega)]; omega
    · rw [p_beg_2' (by omega)]; exact hn k k1 k2
  · rw [p_beg_2 (by omega)]; omega
  · by_cases c : k = 0
    · rw [c, p_beg_3]; omega
    · rw [p_beg_3' c]; exact hb k k1 k2
end O1
