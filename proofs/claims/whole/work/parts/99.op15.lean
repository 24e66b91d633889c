/-! fits -/
noncomputable def p_fv (F : xM) (x : Int) : Int := x_W ((p_gn F (p_ae F x 1 0) x 1).tdiv (p_ae F x 1 0 3))
def p_fit (F : xM) (n : Int) (c : Int → Int) : Prop := ∀ x, 0 ≤ x → x < n → c x = -999 ∨ p_fv F x = c x
noncomputable def p_dec (P : Nat → Prop) (k : Nat) : Bool := @decide (P k) (Classical.propDecidable _)
theorem p_dec_t {P : Nat → Prop} {k : Nat} (h : P k) : p_dec P k = true := @decide_eq_true _ (Classical.propDecidable _) h
theorem p_dec_f {P : Nat → Prop} {k : Nat} (h : ¬ P k) : p_dec P k = false := @decide_eq_false _ (Classical.propDecidable _) h
noncomputable def p_fk (A : xM) (s f : Int) (k : Nat) : Prop := p_fit (p_Fs (x_wr A (9 + 4 * f) 0 k) f.toNat) (A 545 s) (A (547 + s))
noncomputable def o_fits (A : xM) (s f w : Int) : Int × xM := p_if ((0 ≤ s ∧ s < 4) ∧ (0 ≤ f ∧ f < A 6 0) ∧ 0 ≤ w ∧ w ≤ 1) (p_if (A 544 s < 0) (p_err A 5) (if w = 0 then (x_set (p_dec (p_fk A s f)) 7 : Int) else (x_cn (x_set (p_dec (p_fk A s f)) 7) 7 : Int), A)) (p_err A 0)
section P15
variable {l : Launch} {E : xE} {Q : Option xV → xM → Prop} {A M : xM}
theorem k_aa (hA : p_WF A) (hC : p_CI A M) {f s R : Int} (hf : 0 ≤ f ∧ f < A 6 0) (hs : 0 ≤ s ∧ s < 4) (h5 : 0 ≤ A 544 s) (hR : M 88 s = R) (h1 : p_fit (p_Fs A f.toNat) (A 545 s) (A (547 + s)) → ∀ M1, p_CI A M1 → (∀ a k, ¬ p_stc a k → M1 a k = M a k) → Q (some (0, 1)) M1) (h0 : ¬ p_fit (p_Fs A f.toNat) (A 545 s) (A (547 + s)) → ∀ M1, p_CI A M1 → (∀ a k, ¬ p_stc a k → M1 a k = M a k) → Q (some (0, 0)) M1) : x_Ev l E (4, 0, 0) m_X10_answersAs 0 [(20, 5), (14, 49 + 9 * f), (9, R), (5, 0)] [] M Q := by
  have w0 := hA.1.1
  have ws := hA.2.2.2.2.1 s hs.1 hs.2
  have wf := p_WF_f hA hf
  have main : ∀ (m : Nat) (x : Int) (M' : xM), A 545 s - x ≤ m → 0 ≤ x → x ≤ A 545 s → p_CI A M' → (∀ a k, ¬ p_stc a k → M' a k = M a k) → (∀ y, 0 ≤ y → y < x → A (547 + s) y = -999 ∨ p_fv (p_Fs A f.toNat) y = A (547 + s) y) → x_Ev l E (4, 0, 0) m_X10_answersAs 2 [(20, 5), (14, 49 + 9 * f), (9, R), (0, x)] [] M' Q := by
    intro m
    induction m with
    | zero =>
      intro x M' hm x0 x1 cI fr hx
      have e88 : M' 88 s = R := by rw [fr 88 s (by unfold p_stc; omega)]; exact hR
      rcases cI.2.2.2.2.2.2.1.1 s hs.1 hs.2 with w | ⟨w1, w2, w3⟩
      · omega
      rw [e88] at w2 w3
      obtain ⟨r1, r2, r3, r4, r5, r6⟩ := w2
      refine u_X10_answersAs_2 _ R x ⟨by omega, ?_, fun _ => h1 (fun y y1 y2 => hx y y1 (by omega)) M' cI fr, fun z => absurd ?_ z⟩
      · rw [show R + 1 - 1 = R by omega, r6]; omega
      · rw [show R + 1 - 1 = R by omega, r6]; omega
    | succ m ih =>
      intro x M' hm x0 x1 cI fr hx
      by_cases ex : x = A 545 s
      · exact ih x M' (by omega) x0 x1 cI fr hx
      have e88 : M' 88 s = R := by rw [fr 88 s (by unfold p_stc; omega)]; exact hR
      rcases cI.2.2.2.2.2.2.1.1 s hs.1 hs.2 with w | ⟨w1, w2, w3⟩
      · omega
      rw [e88] at w2 w3
      obtain ⟨r1, r2, r3, r4, r5, r6⟩ := w2
      have nx : ∀ (M2 : xM) (v : Int), p_CI A M2 → (∀ a k, ¬ p_stc a k → M2 a k = M a k) → (A (547 + s) x = -999 ∨ p_fv (p_Fs A f.toNat) x = A (547 + s) x) → v = x_w (x + 1) → x_Ev l E (4, 0, 0) m_X10_answersAs 2 [(20, 5), (14, 49 + 9 * f), (9, R), (0, v)] [] M2 Q := by
        intro M2 v z1 z2 z3 hv
        rw [x_w_id (by omega) (by omega)] at hv
        rw [hv]
        refine ih (x + 1) M2 (by omega) (by omega) (by omega) z1 z2 (fun y y1 y2 => ?_)
        by_cases ey : y = x
        · rw [ey]; exact z3
        · exact hx y y1 (by omega)
      refine u_X10_answersAs_2 _ R x ?_
      rw [show R + 1 - 1 = R by omega, r6, w3 x x0 (by omega)]
      refine ⟨by omega, by omega, fun z => by omega, fun z => ⟨by omega, by omega, fun z2 v hv => nx M' v cI fr (Or.inl z2) hv, fun z2 => ?_⟩⟩
      have tm : p_tm x 1 := ⟨x0, by omega, by omega, by omega⟩
      refine k_std hA cI hf tm (fun M2 c1 c2 c3 => ⟨rfl, k_cho hA c1 hf tm (Or.inl rfl) c2 ⟨_, rfl, ?_⟩⟩)
      have hch := p_chb hA hf (p := x) (q := 1) (how := 0) (Or.inl rfl)
      obtain ⟨t1, t2, t3, t4⟩ := p_CI_t hA c1 hf
      have h10 := p_n10 p_ten_ok t1
      obtain ⟨u1, u2, u3⟩ := t3.2 (p_ch (p_Fs A f.toNat) x 1 0) (by omega) (by omega)
      have eb := p_T_eb t1 (p_ch (p_Fs A f.toNat) x 1 0) (by omega) (by omega)
      have eb1 := eb.2.1
      have eb2 := eb.2.2
      have gn := (c2.2.2 (p_ch (p_Fs A f.toNat) x 1 0) (by omega) (by omega)).2
      have fr2 : ∀ a k, ¬ p_stc a k → M2 a k = M a k := fun a k q => by rw [c3 a k q]; exact fr a k q
      refine u_X4_cutGain_0 _ _ ?_
      rw [t3.1, u2, c2.1, gn, Int.mul_one, x_W_id (by omega) (by omega)]
      refine ⟨fun q => by omega, fun q => ⟨fun q2 => by omega, fun q2 => ⟨by omega, fun q3 => ⟨by omega, by omega, q3, _, rfl, ?_⟩, fun q3 => by omega⟩⟩⟩
      have e2 : M2 88 s = R := by rw [fr2 88 s (by unfold p_stc; omega)]; exact hR
      rcases c1.2.2.2.2.2.2.1.1 s hs.1 hs.2 with w | ⟨-, w2', w3'⟩
      · omega
      rw [e2] at w2' w3'
      rw [w2'.2.2.2.2.2, w3' x x0 (by omega)]
      refine ⟨by omega, by omega, fun q3 v hv => nx M2 v c1 fr2 (Or.inr q3) hv, fun q3 => h0 (fun ft => ?_) M2 c1 fr2⟩
      rcases ft x x0 (by omega) with g | g
      · exact z2 g
      · exact q3 g
  exact u_X10_answersAs_0 _ R (main (A 545 s).toNat 0 M (by omega) (by omega) (by omega) hC (fun _ _ _ => rfl) (fun y y1 y2 => by omega))
theorem x_dec7 (P : Nat → Prop) {k : Nat} (hk : k < 7) : (P k → x_ior (x_set (p_dec P) k) (x_ishl 1 k) = (x_set (p_dec P) (k + 1) : Int)) ∧ (¬ P k → (x_set (p_dec P) k : Int) = (x_set (p_dec P) (k + 1) : Int)) ∧ x_set (p_dec P) k < 128 := by
  have lt := x_set_lt (p_dec P) k
  have l7 : 2 ^ k ≤ 2 ^ 7 := Nat.pow_le_pow_right (by omega) (by omega)
  refine ⟨fun h => ?_, fun h => ?_, by omega⟩
  · rw [x_or (by omega) lt, x_set_t (p_dec_t h)]
  · rw [x_set_f (p_dec_f h)]
theorem k_fits (hA : p_WF A) (hC : p_CI A M) {s f w : Int} (h : ∀ M1, p_CI (o_fits A s f w).2 M1 → p_cfr M M1 → Q (some (0, (o_fits A s f w).1)) M1) : x_Ev l E (5, 0, 0) m_X10_fits 0 [(20, 5), (0, s), (0, f), (0, w), (5, 0), (5, 0), (5, 0), (5, 0), (5, 0)] [] M Q := by
  unfold o_fits at h
  have w0 := hA.1.1
  have bad : ¬ ((0 ≤ s ∧ s < 4) ∧ (0 ≤ f ∧ f < A 6 0) ∧ 0 ≤ w ∧ w ≤ 1) → x_Ev l E (1, 0, 0) m_X10_tell 0 [(20, 5), (0, 0)] [] M (fun r M3 => ∃ z, r = some (0, z) ∧ Q (some (0, z)) M3) := fun c => by
    rw [p_if_f c] at h
    exact k_tl hA hC (by omega) (fun M1 a b => ⟨_, rfl, h M1 a b⟩)
  refine u_X10_fits_0 s f w (k_NS (fun c => x_y1 (by omega) (bad (fun q => c q.1))) (fun c => x_y0 (k_NF hC (fun d => x_y1 (by omega) (bad (fun q => d q.2.1))) (fun d => x_y0 ⟨fun e => bad (fun q => by omega), fun e => ⟨fun e2 => ⟨by omega, ?_⟩, fun e2 => bad (fun q => by omega)⟩⟩))))
  rw [p_if_t ⟨c, d, by omega⟩] at h
  have ws := hA.2.2.2.2.1 s c.1 c.2
  rcases hC.2.2.2.2.2.2.1.1 s c.1 c.2 with g | ⟨g1, g2, g3⟩
  · refine ⟨fun z => by omega, fun z => ?_⟩
    rw [p_if_t g.1] at h
    exact k_tl hA hC (by omega) (fun M1 a b => ⟨_, rfl, h M1 a b⟩)
  refine ⟨fun z => ⟨by omega, ?_⟩, fun z => by have := g2.1; omega⟩
  rw [p_if_f (by omega)] at h
  rw [show 8 + 1 + 4 * f = 9 + 4 * f by omega]
  intro v hv
  rw [hC.1 _ _ (by omega) (by omega)] at hv
  rw [hv]
  have kd := p_kd0 hA d
  have main : ∀ (m k : Nat) (u : Int) (M' : xM), 7 - k ≤ m → k ≤ 7 → 0 ≤ u → u ≤ 6 → p_CI (x_wr A (9 + 4 * f) 0 u) M' → p_cfr M M' → M' 88 s = M 88 s → x_Ev l E (5, 0, 0) m_X10_fits 74 [(20, 5), (0, s), (0, f), (0, w), (9, M 88 s), (11, 9 + 4 * f), (0, A (9 + 4 * f) 0), (0, (x_set (p_dec (p_fk A s f)) k : Int)), (0, (k : Int))] [] M' Q := by
    intro m
    induction m with
    | zero =>
      intro k u M' hm hk u0 u1 cI cf e88
      have ek : k = 7 := by omega
      refine u_X10_fits_74 s f w _ _ _ _ k ⟨fun _ => ?_, fun z => by omega⟩
      intro M1 hM1
      have cI1 : p_CI A M1 := by
        have := k_setk hA d ⟨u0, u1⟩ kd cI
        rw [x_wr_id] at this
        rw [hM1]; exact this
      have cf1 : p_cfr M M1 := by rw [hM1]; exact p_cfr_tr cf (p_cfr_w (by omega))
      have lt := x_set_lt (p_dec (p_fk A s f)) 7
      refine ⟨fun z => ?_, fun z => ?_⟩
      · rw [if_neg z] at h
        rw [ek]
        exact c_bitCount _ (by omega) ⟨_, rfl, h M1 cI1 cf1⟩
      · rw [if_pos z] at h
        rw [ek]
        exact h M1 cI1 cf1
    | succ m ih =>
      intro k u M' hm hk u0 u1 cI cf e88
      by_cases ek : k = 7
      · exact ih k u M' (by omega) hk u0 u1 cI cf e88
      refine u_X10_fits_74 s f w _ _ _ _ k ⟨fun z => by omega, fun z => ?_⟩
      intro M4 hM4
      rw [show 41 + 8 + 9 * f = 49 + 9 * f by omega]
      have c4 : p_CI (x_wr A (9 + 4 * f) 0 k) M4 := by rw [hM4]; exact k_setk hA d ⟨u0, u1⟩ (by omega) cI
      have wA := p_setk hA d (u := (k : Int)) (by omega)
      have e6 : x_wr A (9 + 4 * f) 0 k 6 0 = A 6 0 := x_wr_ne _ _ (by omega)
      have e4 : x_wr A (9 + 4 * f) 0 k 544 s = A 544 s := x_wr_ne _ _ (by omega)
      have e5 : x_wr A (9 + 4 * f) 0 k 545 s = A 545 s := x_wr_ne _ _ (by omega)
      have e7 : x_wr A (9 + 4 * f) 0 k (547 + s) = A (547 + s) := x_wr_fr _ _ _ (by omega)
      have cf4 : p_cfr M M4 := by rw [hM4]; exact p_cfr_tr cf (p_cfr_w (by omega))
      have m88 : M4 88 s = M 88 s := by rw [hM4, x_wr_ne _ _ (by omega)]; exact e88
      obtain ⟨o1, o2, o3⟩ := x_dec7 (p_fk A s f) (k := k) (by omega)
      refine ⟨by omega, k_aa wA c4 (by rw [e6]; exact d) c (by rw [e4]; exact g1) m88 (fun ft M5 c5 fr => x_n1 (by omega) ?_) (fun ft M5 c5 fr => x_n0 ?_)⟩
      · rw [e5, e7] at ft
        intro v8 hv8 v9 hv9
        rw [o1 ft] at hv8
        rw [x_w_id (by omega) (by omega)] at hv9
        rw [hv8, hv9]
        exact ih (k + 1) k M5 (by omega) (by omega) (by omega) (by omega) c5 (p_cfr_tr cf4 (p_cfr_sc (fun a j q => fr a j (p_cs_st q)))) (by rw [fr 88 s (by unfold p_stc; omega)]; exact m88)
      · rw [e5, e7] at ft
        intro v9 hv9
        rw [x_w_id (by omega) (by omega)] at hv9
        rw [o2 ft, hv9]
        exact ih (k + 1) k M5 (by omega) (by omega) (by omega) (by omega) c5 (p_cfr_tr cf4 (p_cfr_sc (fun a j q => fr a j (p_cs_st q)))) (by rw [fr 88 s (by unfold p_stc; omega)]; exact m88)
  exact main 7 0 (A (9 + 4 * f) 0) M (by omega) (by omega) kd.1 kd.2 (by rw [x_wr_id]; exact hC) (p_cfr_rf M) rfl
theorem r_Sh {a : Int} (h1 : 0 ≤ a ∧ a < 4 → Q (some (0, 1)) M) (h0 : ¬ (0 ≤ a ∧ a < 4) → Q (some (0, 0)) M) : x_Ev l E (2, 0, 0) m_X11_isSheet 0 [(0, a)] [] M Q :=
  u_X11_isSheet_0 a (r_in (fun c => ⟨1, rfl, by omega, h1 (by omega)⟩) (fun c => ⟨0, rfl, by omega, h0 (by omega)⟩))
theorem r_told (hR : p_RI A M) {s i : Int} (hs : 0 ≤ s ∧ s < 4) (hi : 0 ≤ i ∧ i < 40) (hi2 : i < A 545 s) (h : Q (some (1, A (547 + s) i)) M) : x_Ev l E (1, 0, 0) m_X11_told 0 [(21, 103), (0, s), (0, i)] [] M Q := by
  refine u_X11_told_0 s i ⟨by omega, by omega, ?_⟩
  rw [show 546 + 1 + 1 * s = 547 + s by omega, (hR.2.2.2.2.1 s hs.1 hs.2).2.2 i hi.1 hi2]
  exact h
theorem r_isf (hA : p_WF A) (hR : p_RI A M) {f s : Int} (hf : 0 ≤ f ∧ f < A 6 0) (hs : 0 ≤ s ∧ s < 4) (hS : p_RS M f (p_Fs A f.toNat) (p_n (p_Fs A f.toNat)) (p_TT (p_Fs A f.toNat))) (h1 : p_fit (p_Fs A f.toNat) (A 545 s) (A (547 + s)) → Q (some (0, 1)) M) (h0 : ¬ p_fit (p_Fs A f.toNat) (A 545 s) (A (547 + s)) → Q (some (0, 0)) M) : x_Ev l E (5, 0, 0) m_X11_isFitting 0 [(21, 103), (0, s), (0, f), (5, 0), (5, 0), (5, 0), (5, 0)] [] M Q := by
  have w0 := hA.1.1
  have ws := hA.2.2.2.2.1 s hs.1 hs.2
  have wf := p_WF_f hA hf
  have e545 := (hR.2.2.2.2.1 s hs.1 hs.2).2.1
  have hS' := hS
  obtain ⟨s1, s2, s3, s4, s5⟩ := hS'
  have main : ∀ (m : Nat) (x : Int), A 545 s - x ≤ m → 0 ≤ x → x ≤ A 545 s → (∀ y, 0 ≤ y → y < x → A (547 + s) y = -999 ∨ p_fv (p_Fs A f.toNat) y = A (547 + s) y) → x_Ev l E (5, 0, 0) m_X11_isFitting 2 [(21, 103), (0, s), (0, f), (0, x), (5, 0), (5, 0), (5, 0)] [] M Q := by
    intro m
    induction m with
    | zero =>
      intro x hm x0 x1 hx
      exact u_X11_isFitting_2 s f x ⟨by omega, fun _ => h1 (fun y y1 y2 => hx y y1 (by omega)), fun z => by omega⟩
    | succ m ih =>
      intro x hm x0 x1 hx
      by_cases ex : x = A 545 s
      · exact ih x (by omega) x0 x1 hx
      have nx : ∀ v : Int, (A (547 + s) x = -999 ∨ p_fv (p_Fs A f.toNat) x = A (547 + s) x) → v = x_w (x + 1) → x_Ev l E (5, 0, 0) m_X11_isFitting 2 [(21, 103), (0, s), (0, f), (0, v), (5, 0), (5, 0), (5, 0)] [] M Q := by
        intro v z3 hv
        rw [x_w_id (by omega) (by omega)] at hv
        rw [hv]
        refine ih (x + 1) (by omega) (by omega) (by omega) (fun y y1 y2 => ?_)
        by_cases ey : y = x
        · rw [ey]; exact z3
        · exact hx y y1 (by omega)
      have tm : p_tm x 1 := ⟨x0, by omega, by omega, by omega⟩
      refine u_X11_isFitting_2 s f x ⟨by omega, fun z => by omega, fun z => ?_⟩
      refine c_answer (by omega) wf hS tm (fun j hj => ⟨_, rfl, ?_⟩)
      have ej : j = p_ch (p_Fs A f.toNat) x 1 0 := p_ch_eq wf hj
      have hj1 := hj.1
      obtain ⟨u1, u2, u3⟩ := s2.2 j (by omega) (by omega)
      have eb := s5 j (by omega) (by omega)
      have eb1 := eb.2.1
      have eb2 := eb.2.2
      refine c_Rgain (by omega) wf s1 (by omega) eb ⟨u1, u2, u3⟩ tm ⟨_, rfl, by omega, by omega, ?_⟩
      rw [show 274 + 1 + 1 * f = 275 + f by omega, u2]
      refine ⟨by omega, ?_⟩
      intro v5 hv5
      have ev : v5 = p_fv (p_Fs A f.toNat) x := by
        rw [hv5, ej]; rfl
      refine r_told hR hs (by omega) (by omega) ⟨_, rfl, fun q v hv => nx v (Or.inl q) hv, fun q => r_told hR hs (by omega) (by omega) ⟨_, rfl, fun q2 v hv => nx v (Or.inr (by rw [← ev, ← q2])) hv, fun q2 => h0 (fun ft => ?_)⟩⟩
      rcases ft x x0 (by omega) with g | g
      · exact q g
      · exact q2 (by rw [ev, g])
  exact u_X11_isFitting_0 s f (main (A 545 s).toNat 0 (by omega) (by omega) (by omega) (fun y y1 y2 => by omega))
theorem r_fits (hA : p_WF A) (hR : p_RI A M) {s f w : Int} (h : ∀ M1, p_RI (o_fits A s f w).2 M1 → p_rfr M M1 → Q (some (0, (o_fits A s f w).1)) M1) : x_Ev l E (10, 0, 0) m_X11_fits 0 [(21, 103), (0, s), (0, f), (0, w), (5, 0), (5, 0), (5, 0)] [] M Q := by
  unfold o_fits at h
  have w0 := hA.1.1
  have bad : ¬ ((0 ≤ s ∧ s < 4) ∧ (0 ≤ f ∧ f < A 6 0) ∧ 0 ≤ w ∧ w ≤ 1) → x_Ev l E (1, 0, 0) m_X11_finds 0 [(21, 103), (0, 0)] [] M (fun r M3 => ∃ z, r = some (0, z) ∧ Q (some (0, z)) M3) := fun c => by
    rw [p_if_f c] at h
    exact r_tl hA hR (by omega) (fun M1 a b => ⟨_, rfl, h M1 a b⟩)
  refine u_X11_fits_0 s f w (r_Sh (fun c => x_n1 (by omega) (r_F hA hR (fun d => x_n1 (by omega) (r_in (fun e => x_y1 (by omega) ⟨by omega, ?_⟩) (fun e => x_y0 (bad (fun q => e q.2.2))))) (fun d => x_n0 (bad (fun q => d q.2.1))))) (fun c => x_n0 (bad (fun q => c q.1))))
  rw [p_if_t ⟨c, d, e⟩] at h
  have ws := hA.2.2.2.2.1 s c.1 c.2
  rw [(hR.2.2.2.2.1 s c.1 c.2).1]
  refine ⟨fun g1 => ?_, fun g1 => ?_⟩
  · rw [p_if_f (by omega)] at h
    refine r_pl hA hR d (fun M1 hR1 hS fr => ⟨rfl, by omega, ?_⟩)
    intro v hv
    rw [(p_RI_f hA hR1 d).1.1, p_Fs0 A d.1] at hv
    rw [hv]
    have kd := p_kd0 hA d
    have main : ∀ (m k : Nat) (u : Int) (M' : xM), 7 - k ≤ m → k ≤ 7 → 0 ≤ u → u ≤ 6 → p_RI (x_wr A (9 + 4 * f) 0 u) M' → p_rtab M' f (p_n (p_Fs A f.toNat)) (p_TT (p_Fs A f.toNat)) → p_rfr M M' → x_Ev l E (10, 0, 0) m_X11_fits 65 [(21, 103), (0, s), (0, f), (0, w), (0, A (9 + 4 * f) 0), (0, (x_set (p_dec (p_fk A s f)) k : Int)), (0, (k : Int))] [] M' Q := by
      intro m
      induction m with
      | zero =>
        intro k u M' hm hk u0 u1 rI T rf
        have ek : k = 7 := by omega
        refine u_X11_fits_65 s f w _ _ k ⟨fun _ => ⟨by omega, ?_⟩, fun z => by omega⟩
        intro M3 hM3
        have r3 : p_RI A M3 := by
          have := r_setk hA d ⟨u0, u1⟩ (v := A (9 + 4 * f) 0) rI
          rw [x_wr_id] at this
          rw [hM3]; exact this
        have rf3 : p_rfr M M3 := by rw [hM3]; exact p_rfr_tr rf (p_rfr_w (by omega))
        have lt := x_set_lt (p_dec (p_fk A s f)) 7
        refine ⟨fun z => ?_, fun z => ?_⟩
        · rw [if_neg z] at h
          rw [ek]
          exact c_bitCount _ (by omega) ⟨_, rfl, h M3 r3 rf3⟩
        · rw [if_pos z] at h
          rw [ek]
          exact h M3 r3 rf3
      | succ m ih =>
        intro k u M' hm hk u0 u1 rI T rf
        by_cases ek : k = 7
        · exact ih k u M' (by omega) hk u0 u1 rI T rf
        refine u_X11_fits_65 s f w _ _ k ⟨fun z => by omega, fun z => ⟨by omega, ?_⟩⟩
        intro M4 hM4
        have r4 : p_RI (x_wr A (9 + 4 * f) 0 k) M4 := by rw [hM4]; exact r_setk hA d ⟨u0, u1⟩ rI
        have wA := p_setk hA d (u := (k : Int)) (by omega)
        have e6 : x_wr A (9 + 4 * f) 0 k 6 0 = A 6 0 := x_wr_ne _ _ (by omega)
        have e5 : x_wr A (9 + 4 * f) 0 k 545 s = A 545 s := x_wr_ne _ _ (by omega)
        have e7 : x_wr A (9 + 4 * f) 0 k (547 + s) = A (547 + s) := x_wr_fr _ _ _ (by omega)
        have rf4 : p_rfr M M4 := by rw [hM4]; exact p_rfr_tr rf (p_rfr_w (by omega))
        have wf0 := p_WF_f hA d
        have T4 : p_rtab M4 f (p_n (p_Fs A f.toNat)) (p_TT (p_Fs A f.toNat)) := p_rtab_fr (by have := p_n10 p_ten_ok wf0; omega) (fun a j q => by rw [hM4]; exact x_wr_ne _ _ (by unfold p_rt at q; omega)) T
        obtain ⟨k0, k1, k2, k3⟩ := p_kk (A := A) (A' := x_wr A (9 + 4 * f) 0 k) (f := f.toNat) (fun a j q => x_wr_ne _ _ (by omega)) (by omega)
        have wfk := p_WF_f wA (a := f) (by rw [e6]; exact d)
        have hS4 : p_RS M4 f (p_Fs (x_wr A (9 + 4 * f) 0 k) f.toNat) (p_n (p_Fs (x_wr A (9 + 4 * f) 0 k) f.toNat)) (p_TT (p_Fs (x_wr A (9 + 4 * f) 0 k) f.toNat)) := by
          refine ⟨(p_RI_f wA r4 (by rw [e6]; exact d)).1, ?_, p_one_ok _ wfk, p_n10 p_ten_ok wfk, p_T_eb wfk⟩
          rw [p_n_F (k0 2 (by omega)) (k0 3 (by omega)) k2 k3, p_TT_F (k0 2 (by omega)) (k0 3 (by omega)) k2 k3]
          exact T4
        obtain ⟨o1, o2, o3⟩ := x_dec7 (p_fk A s f) (k := k) (by omega)
        refine r_isf wA r4 (by rw [e6]; exact d) c hS4 (fun ft => x_n1 (by omega) ?_) (fun ft => x_n0 ?_)
        · rw [e5, e7] at ft
          intro v8 hv8 v9 hv9
          rw [o1 ft] at hv8
          rw [x_w_id (by omega) (by omega)] at hv9
          rw [hv8, hv9]
          exact ih (k + 1) k M4 (by omega) (by omega) (by omega) (by omega) r4 T4 rf4
        · rw [e5, e7] at ft
          intro v8 hv8 v9 hv9
          rw [x_or0 (by omega), o2 ft] at hv8
          rw [x_w_id (by omega) (by omega)] at hv9
          rw [hv8, hv9]
          exact ih (k + 1) k M4 (by omega) (by omega) (by omega) (by omega) r4 T4 rf4
    exact main 7 0 (A (9 + 4 * f) 0) M1 (by omega) (by omega) kd.1 kd.2 (by rw [x_wr_id]; exact hR1) hS.2.1 (p_rfr_sc fr)
  · rw [p_if_t (by omega)] at h
    exact r_tl hA hR (by omega) (fun M1 a b => ⟨_, rfl, h M1 a b⟩)
theorem wf_fits (hA : p_WF A) (s f w : Int) : p_WF (o_fits A s f w).2 := by
  unfold o_fits
  by_cases c : (0 ≤ s ∧ s < 4) ∧ (0 ≤ f ∧ f < A 6 0) ∧ 0 ≤ w ∧ w ≤ 1
  · rw [p_if_t c]
    by_cases d : A 544 s < 0
    · rw [p_if_t d]; exact wf_tl hA 5
    · rw [p_if_f d]; exact hA
  · rw [p_if_f c]; exact wf_tl hA 0
end P15
