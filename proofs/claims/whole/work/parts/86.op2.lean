/-! follower, good, goodOf: class and reference -/
theorem p_dv {a : Int} (ha : 0 ≤ a ∧ a < 70) : (0 ≤ a / 10 ∧ a / 10 ≤ 6) ∧ 0 ≤ a % 10 ∧ a % 10 ≤ 9 := by omega
section O2
variable {l : Launch} {E : xE} {Q : Option xV → xM → Prop} {A M : xM}
theorem p_fol (hA : p_WF A) {km g : Int} (hk : 0 ≤ km ∧ km < 70) (hg : 1 ≤ g ∧ g ≤ 3) (h3 : A 6 0 < 3) : p_wf (p_Fs (x_wr (p_beg A (9 + 4 * A 6 0) km g) 6 0 (A 6 0 + 1)) (A 6 0).toNat) ∧ x_wr (p_beg A (9 + 4 * A 6 0) km g) 6 0 (A 6 0 + 1) 6 0 = A 6 0 + 1 ∧ (∀ a k, ¬ (9 + 4 * A 6 0 ≤ a ∧ a ≤ 12 + 4 * A 6 0) → ¬ (a = 6 ∧ k = 0) → x_wr (p_beg A (9 + 4 * A 6 0) km g) 6 0 (A 6 0 + 1) a k = A a k) ∧ p_Fs (x_wr (p_beg A (9 + 4 * A 6 0) km g) 6 0 (A 6 0 + 1)) (A 6 0).toNat = x_F (p_beg A (9 + 4 * A 6 0) km g) (9 + 4 * A 6 0) := by
  have w0 := hA.1.1
  have e : p_Fs (x_wr (p_beg A (9 + 4 * A 6 0) km g) 6 0 (A 6 0 + 1)) (A 6 0).toNat = x_F (p_beg A (9 + 4 * A 6 0) km g) (9 + 4 * A 6 0) := by
    rw [p_Fs_of w0.1]
    exact x_F_eq (fun a a1 a2 => x_wr_fr _ _ _ (by omega))
  refine ⟨by rw [e]; exact p_beg_wf hA hk hg ⟨w0.1, h3⟩, x_wr_eq .., fun a k q1 q2 => ?_, e⟩
  rw [x_wr_ne _ _ q2, p_beg_ne (by omega)]
theorem k_follower (hA : p_WF A) (hC : p_CI A M) {km g : Int} (h : ∀ M1, p_CI (o_follower A km g).2 M1 → p_cfr M M1 → Q (some (0, (o_follower A km g).1)) M1) : x_Ev l E (5, 0, 0) m_X10_follower 0 [(20, 5), (0, km), (0, g), (5, 0)] [] M Q := by
  unfold o_follower at h
  have w0 := hA.1.1
  have bad : ¬ ((0 ≤ km ∧ km < 70) ∧ 1 ≤ g ∧ g ≤ 3) → x_Ev l E (1, 0, 0) m_X10_tell 0 [(20, 5), (0, 0)] [] M (fun r M3 => ∃ z, r = some (0, z) ∧ Q (some (0, z)) M3) := fun c => by
    rw [p_if_f c] at h
    exact k_tl hA hC (by omega) (fun M1 a b => ⟨_, rfl, h M1 a b⟩)
  refine u_X10_follower_0 km g (k_NK (fun c => x_y1 (by omega) (bad (fun q => c q.1))) (fun c => x_y0 ⟨fun d => bad (by omega), fun d => ⟨fun d2 => ?_, fun d2 => bad (by omega)⟩⟩))
  rw [p_if_t ⟨c, by omega⟩] at h
  rw [hC.1 6 0 (by omega) (by omega)]
  refine ⟨fun d3 => ?_, fun d3 => ?_⟩
  · rw [p_if_t d3] at h
    intro v hv
    rw [hv, show 8 + 1 + 4 * A 6 0 = 9 + 4 * A 6 0 by omega, show 41 + 8 + 9 * A 6 0 = 49 + 9 * A 6 0 by omega]
    obtain ⟨p1, p2, p3, p4⟩ := p_fol hA (g := g) c (by omega) d3
    have ag : ∀ a k, 6 ≤ a → a ≤ 35 → p_beg M (9 + 4 * A 6 0) km g a k = p_beg A (9 + 4 * A 6 0) km g a k := fun a k a1 a2 => p_beg_sm (hC.1 a k a1 a2)
    have xf : x_F (p_beg M (9 + 4 * A 6 0) km g) (9 + 4 * A 6 0) = x_F (p_beg A (9 + 4 * A 6 0) km g) (9 + 4 * A 6 0) := x_F_eq (fun a a1 a2 => by funext k; exact ag a k (by omega) (by omega))
    refine ⟨by omega, c_begin c ⟨rfl, by omega, ?_⟩⟩
    refine c_findAll p_ten_ok (by omega) (by rw [xf, ← p4]; exact p1) (fun M1 s1 s2 s3 => ⟨rfl, ?_⟩)
    rw [xf, ← p4] at s1 s2
    have s4 : ∀ a k, a < 36 ∨ 39 < a → a < 49 + 9 * A 6 0 ∨ 55 + 9 * A 6 0 < a → M1 a k = p_beg M (9 + 4 * A 6 0) km g a k := fun a k q1 q2 => by rw [s3 a q1 (by omega)]
    intro M2 hM2
    have e60 : M1 6 0 = A 6 0 := by rw [s4 _ _ (by omega) (by omega), p_beg_ne (by omega)]; exact hC.1 6 0 (by omega) (by omega)
    rw [e60, x_w_id (by omega) (by omega)] at hM2
    refine h M2 (p_CI_F (A' := x_wr (p_beg A (9 + 4 * A 6 0) km g) 6 0 (A 6 0 + 1)) (f := A 6 0) hA hC ⟨w0.1, d3⟩ p3 (by omega) (fun x _ q _ => by omega) (by rw [hM2, x_wr_eq, p2]) (fun a k q1 q2 => ?_) (fun a k q1 q2 q3 q4 => ?_) (fun _ => ⟨p1, ?_, ?_⟩)) (fun a k q1 q2 => ?_)
    · rw [hM2, x_wr_ne _ _ (by omega), s4 _ _ (by omega) (by omega), x_wr_ne _ _ (by omega)]
      exact ag a k (by omega) (by omega)
    · rw [hM2, x_wr_ne _ _ q4, s4 _ _ (by unfold p_cs at q1; omega) (by omega), p_beg_ne (by omega)]
    · have et : ∀ i, 0 ≤ i → M2 (49 + 9 * A 6 0 + i) = M1 (49 + 9 * A 6 0 + i) := fun i i1 => by rw [hM2]; exact x_wr_fr _ _ _ (by omega)
      exact p_ctab_fr s1 (by rw [hM2]; exact x_wr_ne _ _ (by omega)) (et 1 (by omega)) (et 2 (by omega)) (et 3 (by omega))
    · have et : ∀ i, 0 ≤ i → M2 (49 + 9 * A 6 0 + i) = M1 (49 + 9 * A 6 0 + i) := fun i i1 => by rw [hM2]; exact x_wr_fr _ _ _ (by omega)
      exact p_sums_fr s2 (et 4 (by omega)) (et 5 (by omega)) (et 6 (by omega))
    · rw [hM2, x_wr_ne _ _ (by omega), s4 _ _ (by omega) (by omega), p_beg_ne (by omega)]
  · rw [p_if_f d3] at h
    exact k_tl hA hC (by omega) (fun M1 a b => ⟨_, rfl, h M1 a b⟩)
theorem r_follower (hA : p_WF A) (hR : p_RI A M) {km g : Int} (h : ∀ M1, p_RI (o_follower A km g).2 M1 → p_rfr M M1 → Q (some (0, (o_follower A km g).1)) M1) : x_Ev l E (2, 0, 0) m_X11_follower 0 [(21, 103), (0, km), (0, g), (5, 0), (5, 0)] [] M Q := by
  unfold o_follower at h
  have w0 := hA.1.1
  have bad : ¬ ((0 ≤ km ∧ km < 70) ∧ 1 ≤ g ∧ g ≤ 3) → x_Ev l E (1, 0, 0) m_X11_finds 0 [(21, 103), (0, 0)] [] M (fun r M3 => ∃ z, r = some (0, z) ∧ Q (some (0, z)) M3) := fun c => by
    rw [p_if_f c] at h
    exact r_tl hA hR (by omega) (fun M1 a b => ⟨_, rfl, h M1 a b⟩)
  refine u_X11_follower_0 km g (r_in (fun c => x_n1 (by omega) (r_in (fun d => x_y1 (by omega) ?_) (fun d => x_y0 (bad (fun q => d (by omega)))))) (fun c => x_n0 (bad (fun q => c (by omega)))))
  rw [p_if_t ⟨by omega, by omega⟩] at h
  rw [hR.1.1]
  refine ⟨fun d3 => ?_, fun d3 => ?_⟩
  · rw [p_if_t (by omega)] at h
    have d3' : A 6 0 < 3 := by omega
    obtain ⟨p1, p2, p3, p4⟩ := p_fol hA (km := km) (g := g) (by omega) d d3'
    intro f hf
    refine ⟨by omega, ?_⟩
    intro M1 hM1
    refine ⟨by omega, ?_⟩
    intro M2 hM2
    refine ⟨by omega, ?_⟩
    intro M3 hM3
    refine ⟨by omega, ?_⟩
    intro M4 hM4
    refine ⟨by omega, ?_⟩
    intro M5 hM5
    rw [x_td c.1, x_w_id (by omega) (by omega)] at hM1
    rw [x_tm0 c.1] at hM2
    rw [show 137 + 1 + 1 * f = 138 + f by omega] at hM5
    have e5 : ∀ a k, ¬ (104 ≤ a ∧ a ≤ 107 ∧ k = f) → a ≠ 138 + f → M5 a k = M a k := by
      intro a k q1 q2
      rw [hM5, x_wr_ne _ _ (by omega), hM4, x_wr_ne _ _ (by omega), hM3, x_wr_ne _ _ (by omega), hM2, x_wr_ne _ _ (by omega), hM1, x_wr_ne _ _ (by omega)]
    have f4 : M5 104 f = km / 10 := by rw [hM5, x_wr_ne _ _ (by omega), hM4, x_wr_ne _ _ (by omega), hM3, x_wr_ne _ _ (by omega), hM2, x_wr_ne _ _ (by omega), hM1, x_wr_eq]
    have f5 : M5 105 f = km % 10 := by rw [hM5, x_wr_ne _ _ (by omega), hM4, x_wr_ne _ _ (by omega), hM3, x_wr_ne _ _ (by omega), hM2, x_wr_eq]
    have f6 : M5 106 f = g := by rw [hM5, x_wr_ne _ _ (by omega), hM4, x_wr_ne _ _ (by omega), hM3, x_wr_eq]
    have f7 : M5 107 f = 1 := by rw [hM5, x_wr_ne _ _ (by omega), hM4, x_wr_eq]
    have f8 : M5 (138 + f) 0 = 10 := by rw [hM5, x_wr_eq]
    have main : ∀ (m : Nat) (j : Int) (M' : xM), 3 - j ≤ m → 0 ≤ j → j ≤ 3 → (∀ i, 0 ≤ i → i < j → M' (110 + 4 * f) i = 10 ∧ M' (111 + 4 * f) i = 1 ∧ M' (112 + 4 * f) i = 0 ∧ M' (123 + 5 * f) i = 1) → (∀ a k, ¬ (110 + 4 * f ≤ a ∧ a ≤ 112 + 4 * f) → a ≠ 123 + 5 * f → M' a k = M5 a k) → x_Ev l E (2, 0, 0) m_X11_follower 96 [(21, 103), (0, km), (0, g), (0, f), (0, j)] [] M' Q := by
      intro m
      induction m with
      | zero =>
        intro j M' hm j0 j3 g1 g2
        refine u_X11_follower_96 km g f j ⟨fun _ => ?_, fun q => by omega⟩
        intro M6 hM6
        rw [g2 103 0 (by omega) (by omega), e5 103 0 (by omega) (by omega), hR.1.1, x_w_id (by omega) (by omega)] at hM6
        have e6 : ∀ a k, ¬ (a = 103 ∧ k = 0) → M6 a k = M' a k := fun a k q => by rw [hM6]; exact x_wr_ne _ _ q
        rw [hf]
        refine h M6 (p_RI_F (A' := x_wr (p_beg A (9 + 4 * A 6 0) km g) 6 0 (A 6 0 + 1)) (f := A 6 0) hA hR ⟨w0.1, d3'⟩ p3 (by omega) (fun x _ q _ => by omega) (by rw [hM6, x_wr_eq, p2]) (fun a k q1 q2 q3 => ?_) (fun _ => ?_)) ?_
        · unfold p_rF at q2
          rw [e6 a k q3, g2 a k (by omega) (by omega), e5 a k (by omega) (by omega)]
        · rw [p4]
          obtain ⟨b0, b1, b2, b3⟩ := p_beg_0 (A := A) (w := 9 + 4 * A 6 0) (km := km) (g := g)
          unfold p_RF
          simp only [x_F0, x_F1, x_F2, x_F3]
          rw [b0, b1, b2, b3, ← hf]
          refine ⟨?_, ?_, ?_, ?_, fun w x q1 q2 q3 q4 => ?_, fun i x q1 q2 q3 q4 => ?_, fun i q1 q2 => ?_⟩
          · rw [e6 _ _ (by omega), g2 _ _ (by omega) (by omega)]; exact f4
          · rw [e6 _ _ (by omega), g2 _ _ (by omega) (by omega)]; exact f5
          · rw [e6 _ _ (by omega), g2 _ _ (by omega) (by omega)]; exact f6
          · rw [e6 _ _ (by omega), g2 _ _ (by omega) (by omega)]; exact f7
          · obtain ⟨z0, z1, z2, -⟩ := g1 x q3 (by omega)
            rw [e6 _ _ (by omega), p_beg_1 (by omega)]
            unfold p_ft
            have : w = 0 ∨ w = 1 ∨ w = 2 := by omega
            rcases this with e | e | e
            · rw [e, if_pos (by omega), Int.add_zero]; exact z0
            · rw [e, if_neg (by omega), if_pos (by omega), show 110 + 4 * f + 1 = 111 + 4 * f by omega]; exact z1
            · rw [e, if_neg (by omega), if_neg (by omega), show 110 + 4 * f + 2 = 112 + 4 * f by omega]; exact z2
          · have ei : i = 0 := by omega
            rw [ei, e6 _ _ (by omega), p_beg_2 (by omega), Int.add_zero]
            exact (g1 x q3 (by omega)).2.2.2
          · have ei : i = 0 := by omega
            rw [ei, e6 _ _ (by omega), p_beg_3, g2 _ _ (by omega) (by omega)]; exact f8
        · have all : ∀ a k, ¬ (103 ≤ a ∧ a < 593) → M6 a k = M a k := fun a k q => by rw [e6 a k (by omega), g2 a k (by omega) (by omega), e5 a k (by omega) (by omega)]
          exact ⟨by rw [x_tp_eq (all (-1) 0 (by omega))]; exact Nat.le_refl _, fun a _ => x_tag_eq (fun k => all (-2) k (by omega)) a, fun a k q1 q2 => all a k (by omega), fun a k q1 q2 => all a k (by omega)⟩
      | succ m ih =>
        intro j M' hm j0 j3 g1 g2
        by_cases ej : j = 3
        · exact ih j M' (by omega) j0 j3 g1 g2
        refine u_X11_follower_96 km g f j ⟨fun q => by omega, fun _ => ⟨by omega, by omega, ?_⟩⟩
        intro N1 h1
        refine ⟨by omega, by omega, ?_⟩
        intro N2 h2
        refine ⟨by omega, by omega, ?_⟩
        intro N3 h3
        refine ⟨by omega, by omega, ?_⟩
        intro N4 h4 v hv
        rw [x_w_id (by omega) (by omega)] at hv
        rw [hv]
        refine ih (j + 1) N4 (by omega) (by omega) (by omega) (fun i i1 i2 => ?_) (fun a k q1 q2 => ?_)
        · by_cases ei : i = j
          · rw [ei]
            refine ⟨?_, ?_, ?_, ?_⟩
            · rw [h4, x_wr_ne _ _ (by omega), h3, x_wr_ne _ _ (by omega), h2, x_wr_ne _ _ (by omega), h1, show (108 + 1 + 4 * f) + 1 + 1 * 0 = 110 + 4 * f by omega, x_wr_eq]
            · rw [h4, x_wr_ne _ _ (by omega), h3, x_wr_ne _ _ (by omega), h2, show (108 + 1 + 4 * f) + 1 + 1 * 1 = 111 + 4 * f by omega, x_wr_eq]
            · rw [h4, x_wr_ne _ _ (by omega), h3, show (108 + 1 + 4 * f) + 1 + 1 * 2 = 112 + 4 * f by omega, x_wr_eq]
            · rw [h4, show (121 + 1 + 5 * f) + 1 + 1 * 0 = 123 + 5 * f by omega, x_wr_eq]
          · have e : ∀ a, N4 a i = M' a i := fun a => by rw [h4, x_wr_ne _ _ (by omega), h3, x_wr_ne _ _ (by omega), h2, x_wr_ne _ _ (by omega), h1, x_wr_ne _ _ (by omega)]
            rw [e, e, e, e]
            exact g1 i i1 (by omega)
        · rw [h4, x_wr_ne _ _ (by omega), h3, x_wr_ne _ _ (by omega), h2, x_wr_ne _ _ (by omega), h1, x_wr_ne _ _ (by omega)]
          exact g2 a k q1 q2
    exact main 3 0 M5 (by omega) (by omega) (by omega) (fun i i1 i2 => by omega) (fun _ _ _ _ => rfl)
  · rw [p_if_f (by omega)] at h
    exact r_tl hA hR (by omega) (fun M1 a b => ⟨_, rfl, h M1 a b⟩)
theorem wf_follower (hA : p_WF A) (km g : Int) : p_WF (o_follower A km g).2 := by
  unfold o_follower
  have w0 := hA.1.1
  by_cases c : (0 ≤ km ∧ km < 70) ∧ 1 ≤ g ∧ g ≤ 3
  · rw [p_if_t c]
    by_cases d : A 6 0 < 3
    · rw [p_if_t d]
      obtain ⟨p1, p2, p3, p4⟩ := p_fol hA c.1 c.2 d
      exact p_WF_F (A' := x_wr (p_beg A (9 + 4 * A 6 0) km g) 6 0 (A 6 0 + 1)) (f := A 6 0) hA ⟨w0.1, d⟩ p3 (by omega) (fun x _ q _ => by omega) (by omega) p1
    · rw [p_if_f d]; exact wf_tl hA 1
  · rw [p_if_f c]; exact wf_tl hA 0
theorem x_SC2 {w : Int} (hw : 0 ≤ w ∧ w < 3) (v : Int) : p_tv w v ↔ ¬ v < (x_SC 182).getD w.toNat 0 ∧ v ≤ (x_SC 183).getD w.toNat 0 := by
  have : w = 0 ∨ w = 1 ∨ w = 2 := by omega
  unfold p_tv
  rcases this with e | e | e
  · rw [e, show (x_SC 182).getD (Int.toNat 0) 0 = 0 from rfl, show (x_SC 183).getD (Int.toNat 0) 0 = 20 from rfl]; omega
  · rw [e, show (x_SC 182).getD (Int.toNat 1) 0 = 0 from rfl, show (x_SC 183).getD (Int.toNat 1) 0 = 3 from rfl]; omega
  · rw [e, show (x_SC 182).getD (Int.toNat 2) 0 = -9 from rfl, show (x_SC 183).getD (Int.toNat 2) 0 = 9 from rfl]; omega
theorem k_good (hA : p_WF A) (hC : p_CI A M) {f g w v : Int} (h : ∀ M1, p_CI (o_good A f g w v).2 M1 → p_cfr M M1 → Q (some (0, (o_good A f g w v).1)) M1) : x_Ev l E (4, 0, 0) m_X10_good 0 [(20, 5), (0, f), (0, g), (0, w), (0, v), (5, 0)] [] M Q := by
  unfold o_good at h
  have w0 := hA.1.1
  have bad : ¬ ((((0 ≤ f ∧ f < A 6 0) ∧ 0 ≤ g ∧ g < A (9 + 4 * f) 2) ∧ 0 ≤ w ∧ w ≤ 2) ∧ p_tv w v) → x_Ev l E (1, 0, 0) m_X10_tell 0 [(20, 5), (0, 0)] [] M (fun r M3 => ∃ z, r = some (0, z) ∧ Q (some (0, z)) M3) := fun c => by
    rw [p_if_f c] at h
    exact k_tl hA hC (by omega) (fun M1 a b => ⟨_, rfl, h M1 a b⟩)
  refine u_X10_good_0 f g w v (k_NT hA hC (fun c => x_y1 (by omega) (bad (fun q => c q.1))) (fun c => x_y0 ⟨by omega, fun d => bad (fun q => ((x_SC2 (by omega) v).mp q.2).1 d), fun d => ⟨by omega, fun d2 => ?_, fun d2 => bad (fun q => d2 ((x_SC2 (by omega) v).mp q.2).2)⟩⟩))
  have gd := p_gd hA c.1.1
  have ht : p_tv w v := (x_SC2 (by omega) v).mpr ⟨d, d2⟩
  rw [p_if_t ⟨c, ht⟩] at h
  rw [show x_w (x_w (w * 3) + g) = 3 * w + g by unfold x_w; omega, show 8 + 1 + 4 * f + 1 = 9 + 4 * f + 1 by omega, show 41 + 8 + 9 * f = 49 + 9 * f by omega]
  refine ⟨by omega, by omega, ?_⟩
  intro z hz
  rw [hC.1 _ _ (by omega) (by omega)] at hz
  refine ⟨by omega, by omega, ?_⟩
  intro M1 hM1
  refine ⟨by omega, ?_⟩
  rw [hM1, hz]
  exact k_trait hA hC c.1.1 c.2 (by omega) ht (fun M2 a b _ => ⟨rfl, h M2 a b⟩)
theorem r_good (hA : p_WF A) (hR : p_RI A M) {f g w v : Int} (h : ∀ M1, p_RI (o_good A f g w v).2 M1 → p_rfr M M1 → Q (some (0, (o_good A f g w v).1)) M1) : x_Ev l E (4, 0, 0) m_X11_good 0 [(21, 103), (0, f), (0, g), (0, w), (0, v), (5, 0)] [] M Q := by
  unfold o_good at h
  have w0 := hA.1.1
  have bad : ¬ ((((0 ≤ f ∧ f < A 6 0) ∧ 0 ≤ g ∧ g < A (9 + 4 * f) 2) ∧ 0 ≤ w ∧ w ≤ 2) ∧ p_tv w v) → x_Ev l E (1, 0, 0) m_X11_finds 0 [(21, 103), (0, 0)] [] M (fun r M3 => ∃ z, r = some (0, z) ∧ Q (some (0, z)) M3) := fun c => by
    rw [p_if_f c] at h
    exact r_tl hA hR (by omega) (fun M1 a b => ⟨_, rfl, h M1 a b⟩)
  refine u_X11_good_0 f g w v (r_G hA hR (fun c => x_n1 (by omega) ?_) (fun c => x_n0 (bad (fun q => c q.1.1))))
  have gd := p_gd hA c.1
  have go : (0 ≤ w ∧ w ≤ 2) ∧ p_tv w v → ((0 ≤ f ∧ f < 3) ∧ (0 ≤ w ∧ w < 3) ∧ (0 ≤ g ∧ g < 3) ∧ ∀ zv7 : Int, zv7 = M (108 + 1 + 4 * f + 1 + 1 * w) g → (0 ≤ f ∧ f < 3) ∧ (0 ≤ w ∧ w < 3) ∧ (0 ≤ g ∧ g < 3) ∧ ∀ zM8 : xM, zM8 = x_wr M (108 + 1 + 4 * f + 1 + 1 * w) g v → Q (some (0, zv7)) zM8) := by
    intro d
    rw [p_if_t ⟨⟨c, d.1⟩, d.2⟩] at h
    rw [show 108 + 1 + 4 * f + 1 + 1 * w = 110 + 4 * f + w by omega]
    refine ⟨by omega, by omega, by omega, ?_⟩
    intro z hz
    rw [(p_RI_f hA hR c.1).1.2.2.2.2.1 w g (by omega) (by omega) (by omega) (by omega), p_Fs1 A c.1.1] at hz
    refine ⟨by omega, by omega, by omega, ?_⟩
    intro M1 hM1
    rw [hz, hM1]
    exact h _ (r_trait hA hR c.1 d.1 (by omega)) (p_rfr_w (by omega))
  refine u_X11_isOfGood_0 w v ⟨fun e0 => ⟨fun e1 => ⟨fun e2 => x_y0 (bad (fun q => by omega)), fun e2 => ?_⟩, fun e1 => ?_⟩, fun e0 => ?_⟩
  · exact r_in (fun d => x_n1 (by omega) (x_y1 (by omega) (go ⟨by omega, by unfold p_tv; omega⟩))) (fun d => x_n0 (x_y0 (bad (fun q => d (by unfold p_tv at q; omega)))))
  · exact r_in (fun d => ⟨1, rfl, by omega, x_y1 (by omega) (go ⟨by omega, by unfold p_tv; omega⟩)⟩) (fun d => ⟨0, rfl, by omega, x_y0 (bad (fun q => d (by unfold p_tv at q; omega)))⟩)
  · exact r_in (fun d => ⟨1, rfl, by omega, x_y1 (by omega) (go ⟨by omega, by unfold p_tv; omega⟩)⟩) (fun d => ⟨0, rfl, by omega, x_y0 (bad (fun q => d (by unfold p_tv at q; omega)))⟩)
theorem wf_good (hA : p_WF A) (f g w v : Int) : p_WF (o_good A f g w v).2 := by
  unfold o_good
  by_cases c : (((0 ≤ f ∧ f < A 6 0) ∧ 0 ≤ g ∧ g < A (9 + 4 * f) 2) ∧ 0 ≤ w ∧ w ≤ 2) ∧ p_tv w v
  · rw [p_if_t c]
    have gd := p_gd hA c.1.1.1
    exact (wf_T hA c.1.1.1 c.1.2 (by omega) c.2).2
  · rw [p_if_f c]; exact wf_tl hA 0
theorem k_goodOf (hA : p_WF A) (hC : p_CI A M) {f g w : Int} (h : ∀ M1, p_CI (o_goodOf A f g w).2 M1 → p_cfr M M1 → Q (some (0, (o_goodOf A f g w).1)) M1) : x_Ev l E (4, 0, 0) m_X10_goodOf 0 [(20, 5), (0, f), (0, g), (0, w)] [] M Q := by
  unfold o_goodOf at h
  have w0 := hA.1.1
  refine u_X10_goodOf_0 f g w (k_NT hA hC (fun c => x_n1 (by omega) ?_) (fun c => x_n0 ?_))
  · rw [p_if_f c] at h
    exact k_tl hA hC (by omega) (fun M1 a b => ⟨_, rfl, h M1 a b⟩)
  · have gd := p_gd hA c.1.1
    rw [p_if_t c] at h
    rw [show x_w (x_w (w * 3) + g) = 3 * w + g by unfold x_w; omega, show 8 + 1 + 4 * f + 1 = 9 + 4 * f + 1 by omega, hC.1 _ _ (by omega) (by omega)]
    exact ⟨by omega, by omega, h M hC (p_cfr_rf M)⟩
theorem r_goodOf (hA : p_WF A) (hR : p_RI A M) {f g w : Int} (h : ∀ M1, p_RI (o_goodOf A f g w).2 M1 → p_rfr M M1 → Q (some (0, (o_goodOf A f g w).1)) M1) : x_Ev l E (4, 0, 0) m_X11_goodOf 0 [(21, 103), (0, f), (0, g), (0, w)] [] M Q := by
  unfold o_goodOf at h
  have w0 := hA.1.1
  have bad : ¬ (((0 ≤ f ∧ f < A 6 0) ∧ 0 ≤ g ∧ g < A (9 + 4 * f) 2) ∧ 0 ≤ w ∧ w ≤ 2) → x_Ev l E (1, 0, 0) m_X11_finds 0 [(21, 103), (0, 0)] [] M (fun r M3 => ∃ z, r = some (0, z) ∧ Q (some (0, z)) M3) := fun c => by
    rw [p_if_f c] at h
    exact r_tl hA hR (by omega) (fun M1 a b => ⟨_, rfl, h M1 a b⟩)
  refine u_X11_goodOf_0 f g w (r_G hA hR (fun c => x_n1 (by omega) (r_in (fun d => x_n1 (by omega) ?_) (fun d => x_n0 (bad (fun q => d q.2))))) (fun c => x_n0 (bad (fun q => c q.1))))
  have gd := p_gd hA c.1
  rw [p_if_t ⟨c, d⟩] at h
  rw [show 108 + 1 + 4 * f + 1 + 1 * w = 110 + 4 * f + w by omega, (p_RI_f hA hR c.1).1.2.2.2.2.1 w g (by omega) (by omega) (by omega) (by omega), p_Fs1 A c.1.1]
  exact ⟨by omega, by omega, by omega, h M hR (p_rfr_rf M)⟩
theorem wf_goodOf (hA : p_WF A) (f g w : Int) : p_WF (o_goodOf A f g w).2 := by
  unfold o_goodOf
  by_cases c : ((0 ≤ f ∧ f < A 6 0) ∧ 0 ≤ g ∧ g < A (9 + 4 * f) 2) ∧ 0 ≤ w ∧ w ≤ 2
  · rw [p_if_t c]; exact hA
  · rw [p_if_f c]; exact wf_tl hA 0
end O2
