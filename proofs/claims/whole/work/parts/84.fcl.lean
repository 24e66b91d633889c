/-! Calls that change followers: kind, traits, rows -/
theorem p_tr_F {F F' : xM} (h2 : F' 0 2 = F 0 2) (h1 : F' 1 = F 1) (e : Int → Int) (i : Int) : p_tr F' e i = p_tr F e i := by
  unfold p_tr
  rw [h2, h1]
theorem p_wf_K {F F' : xM} (hF : p_wf F) (h0 : 0 ≤ F' 0 0 ∧ F' 0 0 ≤ 6) (h1 : 0 ≤ F' 0 1 ∧ F' 0 1 ≤ 9) (h2 : F' 0 2 = F 0 2) (h3 : F' 0 3 = F 0 3) (e1 : F' 1 = F 1) (e2 : F' 2 = F 2) (e3 : F' 3 = F 3) : p_wf F' := by
  unfold p_wf at *
  rw [h2, h3, e1, e2, e3]
  exact ⟨h0, h1, hF.2.2.1, hF.2.2.2.1, hF.2.2.2.2.1, hF.2.2.2.2.2.1, hF.2.2.2.2.2.2.1, hF.2.2.2.2.2.2.2⟩
/-- a follower's cells in the class, by its number -/
theorem p_Fs_of {A : xM} {f : Int} (hf : 0 ≤ f) : p_Fs A f.toNat = x_F A (9 + 4 * f) := by
  unfold p_Fs
  rw [show ((f.toNat : Nat) : Int) = f by omega]
theorem p_CI_t {A M : xM} (hA : p_WF A) (hC : p_CI A M) {f : Int} (hf : 0 ≤ f ∧ f < A 6 0) : p_wf (p_Fs A f.toNat) ∧ x_F M (9 + 4 * f) = p_Fs A f.toNat ∧ p_tab M (49 + 9 * f) (p_n (p_Fs A f.toNat)) (p_TT (p_Fs A f.toNat)) ∧ p_sums M (49 + 9 * f) (p_n (p_Fs A f.toNat)) (p_Fs A f.toNat) (p_TT (p_Fs A f.toNat)) := by
  have w0 := hA.1.1
  have := hC.2.2.2.2.2.1.2.2 f.toNat (by omega)
  rw [show ((f.toNat : Nat) : Int) = f by omega] at this
  exact this
/-- kind and m alone -/
theorem p_CI_K {A A' M M1 : xM} {f : Int} (hA : p_WF A) (hC : p_CI A M) (hf : 0 ≤ f ∧ f < A 6 0) (hA' : ∀ a k, ¬ (a = 9 + 4 * f ∧ (k = 0 ∨ k = 1)) → A' a k = A a k) (hM : ∀ a k, ¬ (a = 9 + 4 * f ∧ (k = 0 ∨ k = 1)) → M1 a k = M a k) (e0 : M1 (9 + 4 * f) 0 = A' (9 + 4 * f) 0) (e1 : M1 (9 + 4 * f) 1 = A' (9 + 4 * f) 1) (b0 : 0 ≤ A' (9 + 4 * f) 0 ∧ A' (9 + 4 * f) 0 ≤ 6) (b1 : 0 ≤ A' (9 + 4 * f) 1 ∧ A' (9 + 4 * f) 1 ≤ 9) : p_CI A' M1 ∧ p_WF A' := by
  have w0 := hA.1.1
  obtain ⟨t1, t2, t3, t4⟩ := p_CI_t hA hC hf
  have g0 : ∀ k, p_Fs A' f.toNat 0 k = A' (9 + 4 * f) k := p_Fs0 A' hf.1
  have h2 : p_Fs A' f.toNat 0 2 = p_Fs A f.toNat 0 2 := by rw [g0, p_Fs0 A hf.1, hA' _ _ (by omega)]
  have h3 : p_Fs A' f.toNat 0 3 = p_Fs A f.toNat 0 3 := by rw [g0, p_Fs0 A hf.1, hA' _ _ (by omega)]
  have h1 : p_Fs A' f.toNat 1 = p_Fs A f.toNat 1 := by funext k; rw [p_Fs1 A' hf.1, p_Fs1 A hf.1, hA' _ _ (by omega)]
  have hN : p_Fs A' f.toNat 2 = p_Fs A f.toNat 2 := by funext k; rw [p_Fs2 A' hf.1, p_Fs2 A hf.1, hA' _ _ (by omega)]
  have hB : p_Fs A' f.toNat 3 = p_Fs A f.toNat 3 := by funext k; rw [p_Fs3 A' hf.1, p_Fs3 A hf.1, hA' _ _ (by omega)]
  have wf : p_wf (p_Fs A' f.toNat) := p_wf_K t1 (by rw [g0]; exact b0) (by rw [g0]; exact b1) h2 h3 h1 hN hB
  have e6 : A' 6 0 = A 6 0 := hA' _ _ (by omega)
  refine ⟨p_CI_F hA hC (f := f) (by omega) (fun a k q1 q2 => hA' a k (by omega)) (by omega) (fun g _ q _ => by omega) (by rw [hM _ _ (by omega), e6]; exact hC.1 6 0 (by omega) (by omega)) (fun a k q1 q2 => ?_) (fun a k q1 q2 q3 q4 => hM a k (by omega)) (fun _ => ⟨wf, ?_, ?_⟩), p_WF_F hA (f := f) (by omega) (fun a k q1 q2 => hA' a k (by omega)) (by omega) (fun g _ q _ => by omega) (by omega) wf⟩
  · by_cases c : a = 9 + 4 * f ∧ (k = 0 ∨ k = 1)
    · obtain ⟨c1, c2 | c2⟩ := c
      · rw [c1, c2]; exact e0
      · rw [c1, c2]; exact e1
    · rw [hM a k c, hA' a k c]; exact hC.1 a k (by omega) (by omega)
  · rw [p_n_F h2 h3 hN hB, p_TT_F h2 h3 hN hB]
    have et : ∀ i, 0 ≤ i → M1 (49 + 9 * f + i) = M (49 + 9 * f + i) := fun i i1 => by funext k; exact hM _ k (by omega)
    exact p_ctab_fr t3 (hM _ _ (by omega)) (et 1 (by omega)) (et 2 (by omega)) (et 3 (by omega))
  · rw [p_n_F h2 h3 hN hB, p_TT_F h2 h3 hN hB]
    have et : ∀ i, 0 ≤ i → M1 (49 + 9 * f + i) = M (49 + 9 * f + i) := fun i i1 => by funext k; exact hM _ k (by omega)
    have := p_sums_fr t4 (et 4 (by omega)) (et 5 (by omega)) (et 6 (by omega))
    intro k k1 k2
    rw [p_tr_F h2 h1, p_tr_F h2 h1, p_tr_F h2 h1]
    exact this k k1 k2
theorem p_RI_K {A A' M M1 : xM} {f : Int} (hA : p_WF A) (hR : p_RI A M) (hf : 0 ≤ f ∧ f < A 6 0) (hA' : ∀ a k, ¬ (a = 9 + 4 * f ∧ (k = 0 ∨ k = 1)) → A' a k = A a k) (hM : ∀ a k, ¬ ((a = 104 ∨ a = 105) ∧ k = f) → M1 a k = M a k) (e0 : M1 104 f = A' (9 + 4 * f) 0) (e1 : M1 105 f = A' (9 + 4 * f) 1) : p_RI A' M1 := by
  have w0 := hA.1.1
  obtain ⟨⟨r0, r1, r2, r3, r4, r5, r6⟩, wf⟩ := p_RI_f hA hR hf
  have g0 : ∀ k, p_Fs A' f.toNat 0 k = A' (9 + 4 * f) k := p_Fs0 A' hf.1
  have h2 : p_Fs A' f.toNat 0 2 = p_Fs A f.toNat 0 2 := by rw [g0, p_Fs0 A hf.1, hA' _ _ (by omega)]
  have h3 : p_Fs A' f.toNat 0 3 = p_Fs A f.toNat 0 3 := by rw [g0, p_Fs0 A hf.1, hA' _ _ (by omega)]
  have h1 : p_Fs A' f.toNat 1 = p_Fs A f.toNat 1 := by funext k; rw [p_Fs1 A' hf.1, p_Fs1 A hf.1, hA' _ _ (by omega)]
  have hN : p_Fs A' f.toNat 2 = p_Fs A f.toNat 2 := by funext k; rw [p_Fs2 A' hf.1, p_Fs2 A hf.1, hA' _ _ (by omega)]
  have hB : p_Fs A' f.toNat 3 = p_Fs A f.toNat 3 := by funext k; rw [p_Fs3 A' hf.1, p_Fs3 A hf.1, hA' _ _ (by omega)]
  have e6 : A' 6 0 = A 6 0 := hA' _ _ (by omega)
  refine p_RI_F hA hR (f := f) (by omega) (fun a k q1 q2 => hA' a k (by omega)) (by omega) (fun g _ q _ => by omega) (by rw [hM _ _ (by omega), e6]; exact hR.1.1) (fun a k q1 q2 q3 => hM a k (by unfold p_rF at q2; omega)) (fun _ => ?_)
  refine ⟨by rw [g0]; exact e0, by rw [g0]; exact e1, ?_, ?_, ?_, ?_, ?_⟩
  · rw [h2, hM _ _ (by omega)]; exact r2
  · rw [h3, hM _ _ (by omega)]; exact r3
  · rw [h1]
    intro w g q1 q2 q3 q4
    rw [hM _ _ (by omega)]; exact r4 w g q1 q2 q3 q4
  · rw [h3, h2, hN]
    intro i j q1 q2 q3 q4
    rw [hM _ _ (by omega)]; exact r5 i j q1 q2 q3 q4
  · rw [h3, hB]
    intro i q1 q2
    rw [hM _ _ (by omega)]; exact r6 i q1 q2
/-- a trait alone -/
theorem p_wf_T {F F' : xM} (hF : p_wf F) {w g v : Int} (hw : 0 ≤ w ∧ w ≤ 2) (hg : 0 ≤ g ∧ g < 3) (hv : (w = 0 → 0 ≤ v ∧ v ≤ 20) ∧ (w = 1 → 0 ≤ v ∧ v ≤ 3) ∧ (w = 2 → -9 ≤ v ∧ v ≤ 9)) (h0 : F' 0 = F 0) (e1 : ∀ k, F' 1 k = if k = 3 * w + g then v else F 1 k) (e2 : F' 2 = F 2) (e3 : F' 3 = F 3) : p_wf F' := by
  unfold p_wf at *
  rw [h0, e2, e3]
  refine ⟨hF.1, hF.2.1, hF.2.2.1, hF.2.2.2.1, fun x x1 x2 => ?_, hF.2.2.2.2.2.1, hF.2.2.2.2.2.2.1, hF.2.2.2.2.2.2.2⟩
  obtain ⟨y1, y2, y3⟩ := hF.2.2.2.2.1 x x1 x2
  obtain ⟨v0, v1, v2⟩ := hv
  rw [e1, e1, e1]
  refine ⟨?_, ?_, ?_⟩
  · by_cases c : x = 3 * w + g
    · rw [if_pos c]; exact v0 (by omega)
    · rw [if_neg c]; exact y1
  · by_cases c : 3 + x = 3 * w + g
    · rw [if_pos c]; exact v1 (by omega)
    · rw [if_neg c]; exact y2
  · by_cases c : 6 + x = 3 * w + g
    · rw [if_pos c]; exact v2 (by omega)
    · rw [if_neg c]; exact y3
theorem p_trait {A : xM} {f w g v : Int} (hf : 0 ≤ f) : p_Fs (x_wr A (9 + 4 * f + 1) (3 * w + g) v) f.toNat 0 = p_Fs A f.toNat 0 ∧ (∀ k, p_Fs (x_wr A (9 + 4 * f + 1) (3 * w + g) v) f.toNat 1 k = if k = 3 * w + g then v else p_Fs A f.toNat 1 k) ∧ p_Fs (x_wr A (9 + 4 * f + 1) (3 * w + g) v) f.toNat 2 = p_Fs A f.toNat 2 ∧ p_Fs (x_wr A (9 + 4 * f + 1) (3 * w + g) v) f.toNat 3 = p_Fs A f.toNat 3 := by
  refine ⟨?_, fun k => ?_, ?_, ?_⟩
  · funext k; rw [p_Fs0 _ hf, p_Fs0 _ hf, x_wr_ne _ _ (by omega)]
  · rw [p_Fs1 _ hf, p_Fs1 _ hf]
    by_cases c : k = 3 * w + g
    · rw [if_pos c, c, x_wr_eq]
    · rw [if_neg c, x_wr_ne _ _ (by omega)]
  · funext k; rw [p_Fs2 _ hf, p_Fs2 _ hf, x_wr_ne _ _ (by omega)]
  · funext k; rw [p_Fs3 _ hf, p_Fs3 _ hf, x_wr_ne _ _ (by omega)]
section FC
variable {l : Launch} {E : xE} {Q : Option xV → xM → Prop} {A M : xM}
theorem wf_T (hA : p_WF A) {f w g v : Int} (hf : 0 ≤ f ∧ f < A 6 0) (hw : 0 ≤ w ∧ w ≤ 2) (hg : 0 ≤ g ∧ g < 3) (hv : (w = 0 → 0 ≤ v ∧ v ≤ 20) ∧ (w = 1 → 0 ≤ v ∧ v ≤ 3) ∧ (w = 2 → -9 ≤ v ∧ v ≤ 9)) : p_wf (p_Fs (x_wr A (9 + 4 * f + 1) (3 * w + g) v) f.toNat) ∧ p_WF (x_wr A (9 + 4 * f + 1) (3 * w + g) v) := by
  have w0 := hA.1.1
  obtain ⟨t1, t2, t3, t4⟩ := p_trait (A := A) (w := w) (g := g) (v := v) hf.1
  have wf := p_wf_T (p_WF_f hA hf) hw hg hv t1 t2 t3 t4
  have e6 : x_wr A (9 + 4 * f + 1) (3 * w + g) v 6 0 = A 6 0 := x_wr_ne _ _ (by omega)
  exact ⟨wf, p_WF_F hA (f := f) (by omega) (fun a k q1 q2 => x_wr_ne _ _ (by omega)) (by omega) (fun x _ q _ => by omega) (by omega) wf⟩
theorem k_trait (hA : p_WF A) (hC : p_CI A M) {f w g v : Int} (hf : 0 ≤ f ∧ f < A 6 0) (hw : 0 ≤ w ∧ w ≤ 2) (hg : 0 ≤ g ∧ g < 3) (hv : (w = 0 → 0 ≤ v ∧ v ≤ 20) ∧ (w = 1 → 0 ≤ v ∧ v ≤ 3) ∧ (w = 2 → -9 ≤ v ∧ v ≤ 9)) (h : ∀ M1, p_CI (x_wr A (9 + 4 * f + 1) (3 * w + g) v) M1 → p_cfr M M1 → (∀ a k, ¬ (9 ≤ a ∧ a ≤ 20) → ¬ (49 ≤ a ∧ a ≤ 75) → M1 a k = M a k) → Q none M1) : x_Ev l E (2, 0, 0) m_X4_sumUp 0 [(14, 49 + 9 * f), (5, 0)] [] (x_wr M (9 + 4 * f + 1) (3 * w + g) v) Q := by
  have w0 := hA.1.1
  obtain ⟨t1, t2, t3, t4⟩ := p_CI_t hA hC hf
  obtain ⟨u1, u2, u3, u4⟩ := p_trait (A := A) (w := w) (g := g) (v := v) hf.1
  obtain ⟨wf, -⟩ := wf_T hA hf hw hg hv
  have xf : x_F (x_wr M (9 + 4 * f + 1) (3 * w + g) v) (9 + 4 * f) = p_Fs (x_wr A (9 + 4 * f + 1) (3 * w + g) v) f.toNat := by
    rw [p_Fs_of hf.1]
    exact x_F_eq (fun a a1 a2 => by funext k; exact x_wr_sm (hC.1 a k (by omega) (by omega)))
  have h2 : p_Fs (x_wr A (9 + 4 * f + 1) (3 * w + g) v) f.toNat 0 2 = p_Fs A f.toNat 0 2 := by rw [u1]
  have h3 : p_Fs (x_wr A (9 + 4 * f + 1) (3 * w + g) v) f.toNat 0 3 = p_Fs A f.toNat 0 3 := by rw [u1]
  have et : ∀ i, 0 ≤ i → x_wr M (9 + 4 * f + 1) (3 * w + g) v (49 + 9 * f + i) = M (49 + 9 * f + i) := fun i i1 => by funext k; exact x_wr_ne _ _ (by omega)
  have tab : p_tab (x_wr M (9 + 4 * f + 1) (3 * w + g) v) (49 + 9 * f) (p_n (p_Fs A f.toNat)) (p_TT (p_Fs A f.toNat)) := p_ctab_fr t3 (x_wr_ne _ _ (by omega)) (et 1 (by omega)) (et 2 (by omega)) (et 3 (by omega))
  have e6 : x_wr A (9 + 4 * f + 1) (3 * w + g) v 6 0 = A 6 0 := x_wr_ne _ _ (by omega)
  refine c_sumUp (by omega) (p_n10 p_ten_ok t1) tab (by rw [xf]; exact wf) (p_T_eb t1) (fun M1 s1 s2 => ?_)
  rw [xf] at s1
  have s3 : ∀ a k, a < 49 + 9 * f + 4 ∨ 49 + 9 * f + 6 < a → M1 a k = x_wr M (9 + 4 * f + 1) (3 * w + g) v a k := fun a k q => by rw [s2 a q]
  refine h M1 ?_ (fun a k q1 q2 => by rw [s3 a k (by omega), x_wr_ne _ _ (by omega)]) (fun a k q1 q2 => by rw [s3 a k (by omega), x_wr_ne _ _ (by omega)])
  refine p_CI_F hA hC (f := f) (by omega) (fun a k q1 q2 => x_wr_ne _ _ (by omega)) (by omega) (fun x _ q _ => by omega) ?_ (fun a k q1 q2 => ?_) (fun a k q1 q2 q3 q4 => ?_) (fun _ => ⟨wf, ?_, ?_⟩)
  · rw [s3 _ _ (by omega)]; exact x_wr_sm (hC.1 6 0 (by omega) (by omega))
  · rw [s3 _ _ (by omega)]; exact x_wr_sm (hC.1 a k (by omega) (by omega))
  · rw [s3 _ _ (by omega), x_wr_ne _ _ (by omega)]
  · rw [p_n_F h2 h3 u3 u4, p_TT_F h2 h3 u3 u4]
    exact p_ctab_fr tab (by rw [s3 _ _ (by omega)]) (s2 _ (by omega)) (s2 _ (by omega)) (s2 _ (by omega))
  · rw [p_n_F h2 h3 u3 u4, p_TT_F h2 h3 u3 u4]
    exact s1
theorem r_trait (hA : p_WF A) (hR : p_RI A M) {f w g v : Int} (hf : 0 ≤ f ∧ f < A 6 0) (hw : 0 ≤ w ∧ w ≤ 2) (hg : 0 ≤ g ∧ g < 3) : p_RI (x_wr A (9 + 4 * f + 1) (3 * w + g) v) (x_wr M (110 + 4 * f + w) g v) := by
  have w0 := hA.1.1
  obtain ⟨⟨r0, r1, r2, r3, r4, r5, r6⟩, wf⟩ := p_RI_f hA hR hf
  obtain ⟨u1, u2, u3, u4⟩ := p_trait (A := A) (w := w) (g := g) (v := v) hf.1
  have e6 : x_wr A (9 + 4 * f + 1) (3 * w + g) v 6 0 = A 6 0 := x_wr_ne _ _ (by omega)
  refine p_RI_F hA hR (f := f) (by omega) (fun a k q1 q2 => x_wr_ne _ _ (by omega)) (by omega) (fun x _ q _ => by omega) (by rw [x_wr_ne _ _ (by omega), e6]; exact hR.1.1) (fun a k q1 q2 q3 => x_wr_ne _ _ (by unfold p_rF at q2; omega)) (fun _ => ?_)
  have hg2 := wf.2.2.1
  have hr2 := wf.2.2.2.1
  unfold p_RF
  rw [u1, u3, u4]
  refine ⟨by rw [x_wr_ne _ _ (by omega)]; exact r0, by rw [x_wr_ne _ _ (by omega)]; exact r1, by rw [x_wr_ne _ _ (by omega)]; exact r2, by rw [x_wr_ne _ _ (by omega)]; exact r3, fun w' g' q1 q2 q3 q4 => ?_, fun i j q1 q2 q3 q4 => by rw [x_wr_ne _ _ (by omega)]; exact r5 i j q1 q2 q3 q4, fun i q1 q2 => by rw [x_wr_ne _ _ (by omega)]; exact r6 i q1 q2⟩
  rw [u2]
  by_cases c : w' = w ∧ g' = g
  · rw [c.1, c.2, if_pos rfl, x_wr_eq]
  · rw [if_neg (by omega), x_wr_ne _ _ (by omega)]; exact r4 w' g' q1 q2 q3 q4
/-- rows or all: the plans are found anew -/
theorem k_find (hA : p_WF A) (hC : p_CI A M) {A' M' : xM} {f : Int} (hf : 0 ≤ f ∧ f < A 6 0) (hA' : ∀ a k, ¬ (9 + 4 * f ≤ a ∧ a ≤ 12 + 4 * f) → A' a k = A a k) (hM' : ∀ a k, 9 + 4 * f ≤ a → a ≤ 12 + 4 * f → M' a k = A' a k) (hfr : ∀ a k, ¬ (9 + 4 * f ≤ a ∧ a ≤ 12 + 4 * f) → M' a k = M a k) (wf : p_wf (p_Fs A' f.toNat)) (h : ∀ M1, p_CI A' M1 → p_WF A' → p_cfr M M1 → (∀ a k, ¬ (36 ≤ a ∧ a ≤ 39) → ¬ (49 + 9 * f ≤ a ∧ a ≤ 55 + 9 * f) → M1 a k = M' a k) → Q none M1) : x_Ev l E (4, 0, 0) m_X4_findAll 0 [(14, 49 + 9 * f), (5, 0), (5, 0), (5, 0)] [] M' Q := by
  have w0 := hA.1.1
  have xf : x_F M' (9 + 4 * f) = p_Fs A' f.toNat := by
    rw [p_Fs_of hf.1]
    exact x_F_eq (fun a a1 a2 => by funext k; exact hM' a k a1 (by omega))
  have e6 : A' 6 0 = A 6 0 := hA' _ _ (by omega)
  refine c_findAll p_ten_ok (by omega) (by rw [xf]; exact wf) (fun M1 s1 s2 s3 => ?_)
  rw [xf] at s1 s2
  have s4 : ∀ a k, ¬ (36 ≤ a ∧ a ≤ 39) → ¬ (49 + 9 * f ≤ a ∧ a ≤ 55 + 9 * f) → M1 a k = M' a k := fun a k q1 q2 => by rw [s3 a (by omega) (by omega)]
  refine h M1 ?_ (p_WF_F hA (f := f) (by omega) (fun a k q1 q2 => hA' a k q1) (by omega) (fun x _ q _ => by omega) (by omega) wf) (fun a k q1 q2 => by rw [s4 a k (by omega) (by omega), hfr a k (by omega)]) s4
  refine p_CI_F hA hC (f := f) (by omega) (fun a k q1 q2 => hA' a k q1) (by omega) (fun x _ q _ => by omega) ?_ (fun a k q1 q2 => ?_) (fun a k q1 q2 q3 q4 => ?_) (fun _ => ⟨wf, s1, s2⟩)
  · rw [s4 _ _ (by omega) (by omega), hfr _ _ (by omega), e6]; exact hC.1 6 0 (by omega) (by omega)
  · rw [s4 _ _ (by omega) (by omega)]; exact hM' a k q1 q2
  · rw [s4 a k (by unfold p_cs at q1; omega) (by omega), hfr a k q2]
end FC
