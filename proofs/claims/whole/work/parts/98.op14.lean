/-! without: reference -/
section P14
variable {l : Launch} {E : xE} {Q : Option xV → xM → Prop} {A M : xM}
theorem c_cop0 {f n : Int} (hf : 0 ≤ f ∧ f < 3) (h : ∀ M1 : xM, (∀ i, 0 ≤ i → i < 4 → M1 327 i = M (138 + f) i) → (∀ i j, 0 ≤ i → i < 4 → 0 ≤ j → j < 3 → M1 (329 + i) j = M (123 + 5 * f + i) j) → M1 107 f = n → (∀ a k, ¬ (a = 107 ∧ k = f) → a ≠ 327 → ¬ (329 ≤ a ∧ a ≤ 332) → M1 a k = M a k) → Q none M1) : x_Ev l E (1, 0, 0) m_X11_copiesRows 0 [(21, 103), (0, f), (0, 0), (0, n), (5, 0), (5, 0)] [] M Q := by
  have main : ∀ (m : Nat) (i : Int) (M' : xM), 4 - i ≤ m → 0 ≤ i → i ≤ 4 → (∀ x, 0 ≤ x → x < i → M' 327 x = M (138 + f) x) → (∀ x j, 0 ≤ x → x < i → 0 ≤ j → j < 3 → M' (329 + x) j = M (123 + 5 * f + x) j) → (∀ a k, a ≠ 327 → ¬ (329 ≤ a ∧ a ≤ 332) → M' a k = M a k) → x_Ev l E (1, 0, 0) m_X11_copiesRows 3 [(21, 103), (0, f), (0, 0), (0, n), (0, i), (5, 0)] [] M' Q := by
    intro m
    induction m with
    | zero =>
      intro i M' hm i0 i4 g1 g2 g3
      refine u_X11_copiesRows_3 f 0 n i ⟨fun _ => ⟨by omega, ?_⟩, fun z => by omega⟩
      intro M1 hM1
      refine h M1 (fun x x1 x2 => ?_) (fun x j x1 x2 j1 j2 => ?_) ?_ (fun a k q1 q2 q3 => ?_)
      · rw [hM1, x_wr_ne _ _ (by omega)]; exact g1 x x1 (by omega)
      · rw [hM1, x_wr_ne _ _ (by omega)]; exact g2 x j x1 (by omega) j1 j2
      · rw [hM1, x_wr_eq]
      · rw [hM1, x_wr_ne _ _ q1]; exact g3 a k q2 q3
    | succ m ih =>
      intro i M' hm i0 i4 g1 g2 g3
      by_cases ei : i = 4
      · exact ih i M' (by omega) i0 i4 g1 g2 g3
      refine u_X11_copiesRows_3 f 0 n i ⟨fun z => by omega, fun z => ⟨fun _ => ⟨by omega, by omega, by omega, ?_⟩, fun z2 => absurd rfl z2⟩⟩
      rw [show 137 + 1 + 1 * f = 138 + f by omega, g3 _ _ (by omega) (by omega)]
      intro M2 hM2
      have inner : ∀ (m' : Nat) (j : Int) (M3 : xM), 3 - j ≤ m' → 0 ≤ j → j ≤ 3 → (∀ x, 0 ≤ x → x < j → M3 (329 + i) x = M (123 + 5 * f + i) x) → (∀ a k, a ≠ 329 + i → M3 a k = M2 a k) → x_Ev l E (1, 0, 0) m_X11_copiesRows 51 [(21, 103), (0, f), (0, 0), (0, n), (0, i), (0, j)] [] M3 Q := by
        intro m'
        induction m' with
        | zero =>
          intro j M3 hm' j0 j3 k1 k2
          refine u_X11_copiesRows_51 f 0 n i j ⟨fun _ v hv => ?_, fun z2 => by omega⟩
          rw [x_w_id (by omega) (by omega)] at hv
          rw [hv]
          refine ih (i + 1) M3 (by omega) (by omega) (by omega) (fun x x1 x2 => ?_) (fun x y x1 x2 y1 y2 => ?_) (fun a k q1 q2 => ?_)
          · rw [k2 _ _ (by omega)]
            by_cases ex : x = i
            · rw [ex, hM2, x_wr_eq]
            · rw [hM2, x_wr_ne _ _ (by omega)]; exact g1 x x1 (by omega)
          · by_cases ex : x = i
            · rw [ex]; exact k1 y y1 (by omega)
            · rw [k2 _ _ (by omega), hM2, x_wr_ne _ _ (by omega)]; exact g2 x y x1 (by omega) y1 y2
          · rw [k2 _ _ (by omega), hM2, x_wr_ne _ _ (by omega)]; exact g3 a k q1 q2
        | succ m' im =>
          intro j M3 hm' j0 j3 k1 k2
          by_cases ej : j = 3
          · exact im j M3 (by omega) j0 j3 k1 k2
          refine u_X11_copiesRows_51 f 0 n i j ⟨fun z2 => by omega, fun z2 => ⟨fun _ => ⟨by omega, by omega, by omega, by omega, by omega, ?_⟩, fun z3 => absurd rfl z3⟩⟩
          rw [show 328 + 1 + 1 * i = 329 + i by omega, show 121 + 1 + 5 * f + 1 + 1 * i = 123 + 5 * f + i by omega, k2 _ _ (by omega), hM2, x_wr_ne _ _ (by omega), g3 _ _ (by omega) (by omega)]
          intro M4 hM4 v hv
          rw [x_w_id (by omega) (by omega)] at hv
          rw [hv]
          refine im (j + 1) M4 (by omega) (by omega) (by omega) (fun x x1 x2 => ?_) (fun a k q => ?_)
          · by_cases ex : x = j
            · rw [ex, hM4, x_wr_eq]
            · rw [hM4, x_wr_ne _ _ (by omega)]; exact k1 x x1 (by omega)
          · rw [hM4, x_wr_ne _ _ (by omega)]; exact k2 a k q
      exact inner 3 0 M2 (by omega) (by omega) (by omega) (fun x x1 x2 => by omega) (fun _ _ _ => rfl)
  exact u_X11_copiesRows_0 f 0 n (main 4 0 M (by omega) (by omega) (by omega) (fun x x1 x2 => by omega) (fun x j x1 x2 => by omega) (fun _ _ _ _ => rfl))
theorem c_cop1 {f n : Int} (hf : 0 ≤ f ∧ f < 3) (h : ∀ M1 : xM, (∀ i, 0 ≤ i → i < 4 → M1 (138 + f) i = M 327 i) → (∀ i j, 0 ≤ i → i < 4 → 0 ≤ j → j < 3 → M1 (123 + 5 * f + i) j = M (329 + i) j) → M1 107 f = n → (∀ a k, ¬ (a = 107 ∧ k = f) → a ≠ 138 + f → ¬ (123 + 5 * f ≤ a ∧ a ≤ 126 + 5 * f) → M1 a k = M a k) → Q none M1) : x_Ev l E (1, 0, 0) m_X11_copiesRows 0 [(21, 103), (0, f), (0, 1), (0, n), (5, 0), (5, 0)] [] M Q := by
  have main : ∀ (m : Nat) (i : Int) (M' : xM), 4 - i ≤ m → 0 ≤ i → i ≤ 4 → (∀ x, 0 ≤ x → x < i → M' (138 + f) x = M 327 x) → (∀ x j, 0 ≤ x → x < i → 0 ≤ j → j < 3 → M' (123 + 5 * f + x) j = M (329 + x) j) → (∀ a k, a ≠ 138 + f → ¬ (123 + 5 * f ≤ a ∧ a ≤ 126 + 5 * f) → M' a k = M a k) → x_Ev l E (1, 0, 0) m_X11_copiesRows 3 [(21, 103), (0, f), (0, 1), (0, n), (0, i), (5, 0)] [] M' Q := by
    intro m
    induction m with
    | zero =>
      intro i M' hm i0 i4 g1 g2 g3
      refine u_X11_copiesRows_3 f 1 n i ⟨fun _ => ⟨by omega, ?_⟩, fun z => by omega⟩
      intro M1 hM1
      refine h M1 (fun x x1 x2 => ?_) (fun x j x1 x2 j1 j2 => ?_) ?_ (fun a k q1 q2 q3 => ?_)
      · rw [hM1, x_wr_ne _ _ (by omega)]; exact g1 x x1 (by omega)
      · rw [hM1, x_wr_ne _ _ (by omega)]; exact g2 x j x1 (by omega) j1 j2
      · rw [hM1, x_wr_eq]
      · rw [hM1, x_wr_ne _ _ q1]; exact g3 a k q2 q3
    | succ m ih =>
      intro i M' hm i0 i4 g1 g2 g3
      by_cases ei : i = 4
      · exact ih i M' (by omega) i0 i4 g1 g2 g3
      refine u_X11_copiesRows_3 f 1 n i ⟨fun z => by omega, fun z => ⟨fun z2 => by omega, fun z2 => ⟨by omega, by omega, by omega, ?_⟩⟩⟩
      rw [show 137 + 1 + 1 * f = 138 + f by omega, g3 _ _ (by omega) (by omega)]
      intro M2 hM2
      have inner : ∀ (m' : Nat) (j : Int) (M3 : xM), 3 - j ≤ m' → 0 ≤ j → j ≤ 3 → (∀ x, 0 ≤ x → x < j → M3 (123 + 5 * f + i) x = M (329 + i) x) → (∀ a k, a ≠ 123 + 5 * f + i → M3 a k = M2 a k) → x_Ev l E (1, 0, 0) m_X11_copiesRows 51 [(21, 103), (0, f), (0, 1), (0, n), (0, i), (0, j)] [] M3 Q := by
        intro m'
        induction m' with
        | zero =>
          intro j M3 hm' j0 j3 k1 k2
          refine u_X11_copiesRows_51 f 1 n i j ⟨fun _ v hv => ?_, fun z2 => by omega⟩
          rw [x_w_id (by omega) (by omega)] at hv
          rw [hv]
          refine ih (i + 1) M3 (by omega) (by omega) (by omega) (fun x x1 x2 => ?_) (fun x y x1 x2 y1 y2 => ?_) (fun a k q1 q2 => ?_)
          · rw [k2 _ _ (by omega)]
            by_cases ex : x = i
            · rw [ex, hM2, x_wr_eq]
            · rw [hM2, x_wr_ne _ _ (by omega)]; exact g1 x x1 (by omega)
          · by_cases ex : x = i
            · rw [ex]; exact k1 y y1 (by omega)
            · rw [k2 _ _ (by omega), hM2, x_wr_ne _ _ (by omega)]; exact g2 x y x1 (by omega) y1 y2
          · rw [k2 _ _ (by omega), hM2, x_wr_ne _ _ (by omega)]; exact g3 a k q1 q2
        | succ m' im =>
          intro j M3 hm' j0 j3 k1 k2
          by_cases ej : j = 3
          · exact im j M3 (by omega) j0 j3 k1 k2
          refine u_X11_copiesRows_51 f 1 n i j ⟨fun z2 => by omega, fun z2 => ⟨fun z3 => by omega, fun z3 => ⟨by omega, by omega, by omega, by omega, by omega, ?_⟩⟩⟩
          rw [show 328 + 1 + 1 * i = 329 + i by omega, show 121 + 1 + 5 * f + 1 + 1 * i = 123 + 5 * f + i by omega, k2 (329 + i) j (by omega), hM2, x_wr_ne _ _ (by omega), g3 (329 + i) j (by omega) (by omega)]
          intro M4 hM4 v hv
          rw [x_w_id (by omega) (by omega)] at hv
          rw [hv]
          refine im (j + 1) M4 (by omega) (by omega) (by omega) (fun x x1 x2 => ?_) (fun a k q => ?_)
          · by_cases ex : x = j
            · rw [ex, hM4, x_wr_eq]
            · rw [hM4, x_wr_ne _ _ (by omega)]; exact k1 x x1 (by omega)
          · rw [hM4, x_wr_ne _ _ (by omega)]; exact k2 a k q
      exact inner 3 0 M2 (by omega) (by omega) (by omega) (fun x x1 x2 => by omega) (fun _ _ _ => rfl)
  exact u_X11_copiesRows_0 f 1 n (main 4 0 M (by omega) (by omega) (by omega) (fun x x1 x2 => by omega) (fun x j x1 x2 => by omega) (fun _ _ _ _ => rfl))
theorem r_without (hA : p_WF A) (hR : p_RI A M) {f : Int} (h : ∀ M1, p_RI (o_without A f).2 M1 → p_rfr M M1 → Q (some (0, (o_without A f).1)) M1) : x_Ev l E (11, 0, 0) m_X11_without 0 [(21, 103), (0, f), (5, 0), (5, 0), (5, 0), (5, 0), (5, 0), (5, 0)] [] M Q := by
  unfold o_without at h
  have w0 := hA.1.1
  refine u_X11_without_0 f (r_F hA hR (fun c => x_y1 (by omega) ?_) (fun c => x_y0 ?_))
  · rw [p_if_t c] at h
    have gd := p_gd hA c
    refine r_plans hA hR (fun M1 w2 fr => ⟨rfl, ?_⟩)
    have hR1 := p_RI_sc hA hR fr
    refine r_fb hA hR1 w2 (fun M2 d1 d2 d3 d4 d5 d6 d7 => ⟨rfl, ?_⟩)
    have gb0 := p_gb_of d3 d4
    have e28 : M2 103 28 = p_bsA A (A 6 1) 0 := d5 0 (by omega) (by omega)
    have e29 : M2 103 29 = p_bsA A (A 6 1) 1 := d5 1 (by omega) (by omega)
    rw [e28, e29]
    intro v5 hv5 v6 hv6
    refine ⟨by omega, ?_⟩
    intro v7 hv7
    obtain ⟨⟨-, -, r2, r3, -, r5, r6⟩, -⟩ := p_RI_f hA d1 c
    rw [p_Fs0 A c.1] at r2 r3
    rw [p_Fs0 A c.1] at r5 r6
    rw [p_Fs0 A c.1] at r5
    rw [r3] at hv7
    rw [hv5, hv6, hv7]
    refine c_cop0 (by omega) (fun M3 g1 g2 g3 g4 => ⟨rfl, u_X11_begins_0 ?_⟩)
    intro M4 hM4
    refine ⟨rfl, ?_⟩
    have main : ∀ (m k : Nat) (M' : xM), A (9 + 4 * f) 3 - 1 - k ≤ m → (k : Int) ≤ A (9 + 4 * f) 3 - 1 → p_RI A M' → (∀ g : Nat, (g : Int) < A 6 0 → (g : Int) ≠ f → p_rtab M' g (p_n (p_Fs A g)) (p_TT (p_Fs A g))) → (∀ i, 0 ≤ i → i < A (9 + 4 * f) 3 → M' 327 i = A (9 + 4 * f + 3) i) → (∀ i j, 0 ≤ i → i < A (9 + 4 * f) 3 → 0 ≤ j → j < A (9 + 4 * f) 2 → M' (329 + i) j = A (9 + 4 * f + 2) (3 * i + j)) → p_rfr M M' → p_gs2 (p_wo (p_bsA A (A 6 1)) (p_db A f) k) → p_g39 M' (p_wo (p_bsA A (A 6 1)) (p_db A f) k) → ((p_wo (p_bsA A (A 6 1)) (p_db A f) k).1 < 0 → (p_wo (p_bsA A (A 6 1)) (p_db A f) k).2 = (p_bsA A (A 6 1) 0, p_bsA A (A 6 1) 1)) → (0 ≤ (p_wo (p_bsA A (A 6 1)) (p_db A f) k).1 → p_bsA A (A 6 1) 0 * (p_wo (p_bsA A (A 6 1)) (p_db A f) k).2.2 < (p_wo (p_bsA A (A 6 1)) (p_db A f) k).2.1 * p_bsA A (A 6 1) 1) → x_Ev l E (11, 0, 0) m_X11_without 56 [(21, 103), (0, f), (1, p_bsA A (A 6 1) 0), (5, 0), (1, p_bsA A (A 6 1) 1), (5, 0), (0, A (9 + 4 * f) 3), (0, (k : Int) + 1)] [] M' Q := by
      intro m
      induction m with
      | zero =>
        intro k M' hm hk rI T a1 a2 rf gs g9 s1 s2
        refine u_X11_without_56 f _ _ _ _ ⟨fun _ => ?_, fun z => by omega⟩
        have ek2 : (A (9 + 4 * f) 3 - 1).toNat = k := by omega
        rw [ek2] at h
        rw [g9.1]
        exact h M' rI rf
      | succ m ih =>
        intro k M' hm hk rI T a1 a2 rf gs g9 s1 s2
        by_cases ek : (k : Int) = A (9 + 4 * f) 3 - 1
        · exact ih k M' (by omega) hk rI T a1 a2 rf gs g9 s1 s2
        refine u_X11_without_56 f _ _ _ _ ⟨fun z => by omega, fun z => ?_⟩
        have q3 := (p_RI_f hA rI c).1.2.2.2.1
        rw [p_Fs0 A c.1] at q3
        refine c_takesOut (R := A (9 + 4 * f) 3) (by omega) q3 (by omega) (by omega) (fun N1 t1 t2 t3 t4 t5 => ⟨rfl, ?_⟩)
        have x1 := r_out hA rI c (row := (k : Int) + 1) (by omega) rfl t1 t2 t3 t4 t5
        have wA := wf_drop hA c (row := (k : Int) + 1) (by omega)
        have e60 : p_drop A (9 + 4 * f) ((k : Int) + 1) 6 0 = A 6 0 := p_drop_ne (by omega)
        have e61 : p_drop A (9 + 4 * f) ((k : Int) + 1) 6 1 = A 6 1 := p_drop_ne (by omega)
        have cf' : 0 ≤ f ∧ f < p_drop A (9 + 4 * f) ((k : Int) + 1) 6 0 := by rw [e60]; exact c
        obtain ⟨rfN, wfN⟩ := p_RI_f wA x1 cf'
        refine c_Rplans p_ten_ok (by omega) wfN rfN (fun N2 u1 u2 => ⟨rfl, ?_⟩)
        have fr2 : ∀ a j, ¬ p_rsc a j → N2 a j = N1 a j := fun a j q => u2 a j (by unfold p_rsc at q; omega) (by unfold p_rsc at q; omega) (by unfold p_rsc at q; unfold p_rt; omega)
        have x2 := p_RI_sc wA x1 fr2
        have eFs : ∀ g : Nat, (g : Int) < A 6 0 → (g : Int) ≠ f → p_Fs (p_drop A (9 + 4 * f) ((k : Int) + 1)) g = p_Fs A g := fun g hg hgf => x_F_eq (fun a b1 b2 => by funext j; exact p_drop_ne (by omega))
        have T2 : p_tabs (p_drop A (9 + 4 * f) ((k : Int) + 1)) N2 := by
          intro g hg
          rw [e60] at hg
          by_cases ge : (g : Int) = f
          · have e2 : g = f.toNat := by omega
            rw [ge, e2]; exact u1
          · rw [eFs g hg ge]
            have wg : p_wf (p_Fs A g) := hA.1.2.2.2.2.2.2.2 g hg
            have := p_n10 p_ten_ok wg
            refine p_rtab_fr (by omega) (fun a j q => ?_) (T g hg ge)
            rw [u2 a j (by unfold p_rt at q; omega) (by unfold p_rt at q; omega) (by unfold p_rt at q ⊢; omega)]
            exact t4 a j (by unfold p_rt at q; unfold p_rF; omega)
        refine r_fb wA x2 (p_RW_mk wA x2 T2) (fun N3 y1 y2 y3 y4 y5 y6 y7 => ⟨rfl, ?_⟩)
        rw [e61] at y3 y4 y5
        have gb : p_gb (p_db A f k) := p_gb_of y3 y4
        have as3 : ∀ a j, 327 ≤ a → a ≤ 332 → N3 a j = M' a j := fun a j q1 q2 => by
          rw [y6 a j (by omega) (by omega) (by omega), u2 a j (by omega) (by omega) (by unfold p_rt; omega)]
          exact t4 a j (by unfold p_rF; omega)
        refine c_cop1 (by omega) (fun N4 v1 v2 v3 v4 => ⟨rfl, ?_⟩)
        have rA : p_RI A N4 := by
          refine r_rows (A' := A) wA y1 (f := f) cf' (fun a j q => (p_drop_ne (by omega)).symm) (fun j q => (p_drop_0 q).symm) (fun j => p_drop_1.symm) (by omega) (fun a j q1 q2 q3 _ => v4 a j q1 q3 q2) v3 (fun i j i1 i2 j1 j2 => ?_) (fun i i1 i2 => ?_)
          · rw [p_drop_0 (by omega)] at j2
            rw [v2 i j i1 (by omega) j1 (by omega), as3 _ _ (by omega) (by omega)]
            exact a2 i j i1 i2 j1 j2
          · rw [v1 i i1 (by omega), as3 _ _ (by omega) (by omega)]
            exact a1 i i1 i2
        have rf4 : p_rfr M N4 := p_rfr_tr (p_rfr_tr (p_rfr_tr (p_rfr_tr rf (p_rfr_o (fun a j q => t4 a j (by unfold p_rF; omega)))) (p_rfr_sc fr2)) (p_rfr_sc y7)) (p_rfr_o (fun a j q => v4 a j (by omega) (by omega) (by omega)))
        have T4 : ∀ g : Nat, (g : Int) < A 6 0 → (g : Int) ≠ f → p_rtab N4 g (p_n (p_Fs A g)) (p_TT (p_Fs A g)) := fun g hg hgf => by
          have wg : p_wf (p_Fs A g) := hA.1.2.2.2.2.2.2.2 g hg
          have := p_n10 p_ten_ok wg
          refine p_rtab_fr (by omega) (fun a j q => ?_) (T g hg hgf)
          rw [v4 a j (by unfold p_rt at q; omega) (by unfold p_rt at q; omega) (by unfold p_rt at q; omega), y6 a j (by unfold p_rt at q; omega) (by unfold p_rt at q; omega) (by unfold p_rt at q; omega), u2 a j (by unfold p_rt at q; omega) (by unfold p_rt at q; omega) (by unfold p_rt at q ⊢; omega)]
          exact t4 a j (by unfold p_rt at q; unfold p_rF; omega)
        have as4 : ∀ a j, 327 ≤ a → a ≤ 332 → N4 a j = M' a j := fun a j q1 q2 => by rw [v4 a j (by omega) (by omega) (by omega)]; exact as3 a j q1 q2
        have g94 : p_g39 N4 (p_wo (p_bsA A (A 6 1)) (p_db A f) k) := by
          have z : ∀ j, 37 ≤ j → j ≤ 39 → N4 103 j = M' 103 j := fun j j1 j2 => by
            rw [v4 103 j (by omega) (by omega) (by omega), y6 103 j (by omega) (by omega) (by omega), u2 103 j (by omega) (by omega) (by unfold p_rt; omega)]
            exact t4 103 j (by unfold p_rF; omega)
          refine ⟨by rw [z 39 (by omega) (by omega)]; exact g9.1, fun w => ?_⟩
          rw [z 37 (by omega) (by omega), z 38 (by omega) (by omega)]; exact g9.2 w
        have b28 : N4 103 28 = p_db A f k 0 := by rw [v4 _ _ (by omega) (by omega) (by omega)]; exact y5 0 (by omega) (by omega)
        have b29 : N4 103 29 = p_db A f k 1 := by rw [v4 _ _ (by omega) (by omega) (by omega)]; exact y5 1 (by omega) (by omega)
        obtain ⟨gb1, gb2, gb3⟩ := gb
        obtain ⟨gc1, gc2, gc3⟩ := gb0
        obtain ⟨gs1, gs2, gs3⟩ := gs
        have nx : ∀ (N5 : xM) (v : Int), (∀ a j, ¬ (a = 103 ∧ 37 ≤ j ∧ j ≤ 39) → N5 a j = N4 a j) → p_g39 N5 (p_wo (p_bsA A (A 6 1)) (p_db A f) (k + 1)) → p_gs2 (p_wo (p_bsA A (A 6 1)) (p_db A f) (k + 1)) → ((p_wo (p_bsA A (A 6 1)) (p_db A f) (k + 1)).1 < 0 → (p_wo (p_bsA A (A 6 1)) (p_db A f) (k + 1)).2 = (p_bsA A (A 6 1) 0, p_bsA A (A 6 1) 1)) → (0 ≤ (p_wo (p_bsA A (A 6 1)) (p_db A f) (k + 1)).1 → p_bsA A (A 6 1) 0 * (p_wo (p_bsA A (A 6 1)) (p_db A f) (k + 1)).2.2 < (p_wo (p_bsA A (A 6 1)) (p_db A f) (k + 1)).2.1 * p_bsA A (A 6 1) 1) → v = x_w ((k : Int) + 1 + 1) → x_Ev l E (11, 0, 0) m_X11_without 56 [(21, 103), (0, f), (1, p_bsA A (A 6 1) 0), (5, 0), (1, p_bsA A (A 6 1) 1), (5, 0), (0, A (9 + 4 * f) 3), (0, v)] [] N5 Q := by
          intro N5 v f5 g5 gs5 s5 s6 hv
          rw [x_w_id (by omega) (by omega)] at hv
          rw [hv, show (k : Int) + 1 + 1 = ((k + 1 : Nat) : Int) + 1 by omega]
          have fr5 : ∀ a j, ¬ p_rsc a j → N5 a j = N4 a j := fun a j q => f5 a j (p_n39 q)
          refine ih (k + 1) N5 (by omega) (by omega) (p_RI_sc hA rA fr5) (fun g hg hgf => ?_) (fun i i1 i2 => ?_) (fun i j i1 i2 j1 j2 => ?_) (p_rfr_tr rf4 (p_rfr_sc fr5)) gs5 g5 s5 s6
          · have wg : p_wf (p_Fs A g) := hA.1.2.2.2.2.2.2.2 g hg
            have := p_n10 p_ten_ok wg
            exact p_rtab_fr (by omega) (fun a j q => f5 a j (by unfold p_rt at q; omega)) (T4 g hg hgf)
          · rw [f5 _ _ (by omega), as4 _ _ (by omega) (by omega)]; exact a1 i i1 i2
          · rw [f5 _ _ (by omega), as4 _ _ (by omega) (by omega)]; exact a2 i j i1 i2 j1 j2
        have e1 : p_wo (p_bsA A (A 6 1)) (p_db A f) (k + 1) = p_if (0 < p_cmp (p_db A f k 0 * (p_wo (p_bsA A (A 6 1)) (p_db A f) k).2.2) ((p_wo (p_bsA A (A 6 1)) (p_db A f) k).2.1 * p_db A f k 1)) ((k : Int) + 1, p_db A f k 0, p_db A f k 1) (p_wo (p_bsA A (A 6 1)) (p_db A f) k) := rfl
        rw [b28, b29]
        refine c_compare (by omega) (by omega) (by omega) (by omega) ⟨_, rfl, fun w => ?_, fun w => ?_⟩
        · -- no more than it is: none is taken
          have le0 : p_db A f k 0 * p_bsA A (A 6 1) 1 ≤ p_bsA A (A 6 1) 0 * p_db A f k 1 := by
            have : ¬ 0 < p_cmp (p_db A f k 0 * p_bsA A (A 6 1) 1) (p_bsA A (A 6 1) 0 * p_db A f k 1) := by omega
            rw [p_cmp_pos] at this
            omega
          have same : p_wo (p_bsA A (A 6 1)) (p_db A f) (k + 1) = p_wo (p_bsA A (A 6 1)) (p_db A f) k := by
            rw [e1]
            refine p_if_f ?_ _ _
            rw [p_cmp_pos]
            by_cases sg : (p_wo (p_bsA A (A 6 1)) (p_db A f) k).1 < 0
            · rw [s1 sg]
              show ¬ p_bsA A (A 6 1) 0 * p_db A f k 1 < p_db A f k 0 * p_bsA A (A 6 1) 1
              omega
            · have := q_le_tr gb2 gc2 gs2 le0 (Int.le_of_lt (s2 (by omega)))
              omega
          intro v hv
          refine nx N4 v (fun _ _ _ => rfl) ?_ ?_ ?_ ?_ hv
          · rw [same]; exact g94
          · rw [same]; exact ⟨gs1, gs2, gs3⟩
          · rw [same]; exact s1
          · rw [same]; exact s2
        · have lt0 : p_bsA A (A 6 1) 0 * p_db A f k 1 < p_db A f k 0 * p_bsA A (A 6 1) 1 := by
            have : 0 < p_cmp (p_db A f k 0 * p_bsA A (A 6 1) 1) (p_bsA A (A 6 1) 0 * p_db A f k 1) := by omega
            rw [p_cmp_pos] at this
            exact this
          have same : p_pks (p_wo (p_bsA A (A 6 1)) (p_db A f) k) (p_db A f k) ((k : Int) + 1) = p_wo (p_bsA A (A 6 1)) (p_db A f) (k + 1) := by
            rw [e1]
            unfold p_pks
            by_cases cc : 0 < p_cmp (p_db A f k 0 * (p_wo (p_bsA A (A 6 1)) (p_db A f) k).2.2) ((p_wo (p_bsA A (A 6 1)) (p_db A f) k).2.1 * p_db A f k 1)
            · rw [p_if_t (Or.inr cc), p_if_t cc]
            · have sg : ¬ (p_wo (p_bsA A (A 6 1)) (p_db A f) k).1 < 0 := fun sg => by
                rw [p_cmp_pos, s1 sg] at cc
                exact cc lt0
              rw [p_if_f (not_or.mpr ⟨sg, cc⟩), p_if_f cc]
          refine c_tries (fun _ => ⟨gs1, gs2, gs3⟩) g94 ⟨gb1, gb2, gb3⟩ b28 b29 (fun N5 z1 z2 => ⟨rfl, fun v hv => ?_⟩)
          rw [same] at z1
          refine nx N5 v z2 z1 ?_ ?_ ?_ hv
          · rw [← same]
            unfold p_pks
            by_cases cc : (p_wo (p_bsA A (A 6 1)) (p_db A f) k).1 < 0 ∨ 0 < p_cmp (p_db A f k 0 * (p_wo (p_bsA A (A 6 1)) (p_db A f) k).2.2) ((p_wo (p_bsA A (A 6 1)) (p_db A f) k).2.1 * p_db A f k 1)
            · rw [p_if_t cc]; exact ⟨gb1, gb2, gb3⟩
            · rw [p_if_f cc]; exact ⟨gs1, gs2, gs3⟩
          · rw [← same]
            unfold p_pks
            by_cases cc : (p_wo (p_bsA A (A 6 1)) (p_db A f) k).1 < 0 ∨ 0 < p_cmp (p_db A f k 0 * (p_wo (p_bsA A (A 6 1)) (p_db A f) k).2.2) ((p_wo (p_bsA A (A 6 1)) (p_db A f) k).2.1 * p_db A f k 1)
            · rw [p_if_t cc]
              intro z
              exact absurd z (by show ¬ (k : Int) + 1 < 0; omega)
            · rw [p_if_f cc]; exact s1
          · rw [← same]
            unfold p_pks
            by_cases cc : (p_wo (p_bsA A (A 6 1)) (p_db A f) k).1 < 0 ∨ 0 < p_cmp (p_db A f k 0 * (p_wo (p_bsA A (A 6 1)) (p_db A f) k).2.2) ((p_wo (p_bsA A (A 6 1)) (p_db A f) k).2.1 * p_db A f k 1)
            · rw [p_if_t cc]
              intro _
              exact lt0
            · rw [p_if_f cc]; exact s2
    have f4 : ∀ a j, ¬ (a = 103 ∧ j = 39) → M4 a j = M3 a j := fun a j q => by rw [hM4]; exact x_wr_ne _ _ q
    have fr3 : ∀ a j, ¬ p_rsc a j → M3 a j = M2 a j := fun a j q => by
      by_cases cc : a = 107 ∧ j = f
      · rw [cc.1, cc.2, g3, r3]
      · exact g4 a j cc (fun e => q (by unfold p_rsc; omega)) (fun e => q (by unfold p_rsc; omega))
    have fr4 : ∀ a j, ¬ p_rsc a j → M4 a j = M2 a j := fun a j q => by rw [f4 a j (fun e => q (by unfold p_rsc; omega))]; exact fr3 a j q
    refine main (A (9 + 4 * f) 3).toNat 0 M4 (by omega) (by omega) (p_RI_sc hA d1 fr4) (fun g hg hgf => ?_) (fun i i1 i2 => ?_) (fun i j i1 i2 j1 j2 => ?_) (p_rfr_tr (p_rfr_tr (p_rfr_sc fr) (p_rfr_sc d7)) (p_rfr_sc fr4)) gb0 ⟨by rw [hM4, x_wr_eq]; rfl, fun w => ?_⟩ (fun _ => rfl) (fun w => ?_)
    · have wg : p_wf (p_Fs A g) := hA.1.2.2.2.2.2.2.2 g hg
      have := p_n10 p_ten_ok wg
      refine p_rtab_fr (by omega) (fun a j q => ?_) (p_tabs_of hA d2 g hg)
      rw [f4 a j (by unfold p_rt at q; omega)]
      exact g4 a j (by unfold p_rt at q; omega) (by unfold p_rt at q; omega) (by unfold p_rt at q; omega)
    · rw [f4 _ _ (by omega), g1 i i1 (by omega), r6 i i1 i2, p_Fs3 A c.1]
    · rw [f4 _ _ (by omega), g2 i j i1 (by omega) j1 (by omega), r5 i j i1 i2 j1 j2, p_Fs2 A c.1]
    · exact absurd w (by show ¬ (0 : Int) ≤ -1; omega)
    · exact absurd w (by show ¬ (0 : Int) ≤ -1; omega)
  · rw [p_if_f c] at h
    exact r_tl hA hR (by omega) (fun M1 a b => ⟨_, rfl, h M1 a b⟩)
end P14
