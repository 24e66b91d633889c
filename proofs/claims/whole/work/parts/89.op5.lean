/-! of, amount, brings, total -/
section O5
variable {l : Launch} {E : xE} {Q : Option xV → xM → Prop} {A M : xM}
theorem p_st_cs {f : Int} {M1 : xM} (hf : 0 ≤ f ∧ f < 3) (s2 : ∀ a, a ≠ 49 + 9 * f → a ≠ 49 + 9 * f + 7 → a ≠ 49 + 9 * f + 8 → M1 a = M a) (s3 : ∀ k, k ≠ 11 → k ≠ 12 → M1 (49 + 9 * f) k = M (49 + 9 * f) k) : ∀ a k, ¬ p_stc a k → M1 a k = M a k := by
  intro a k q
  by_cases c : a = 49 + 9 * f
  · rw [c]
    exact s3 k (fun e => q (by unfold p_stc; omega)) (fun e => q (by unfold p_stc; omega))
  · rw [s2 a c (fun e => q (by unfold p_stc; omega)) (fun e => q (by unfold p_stc; omega))]
theorem p_cs_st {a k : Int} (h : ¬ p_cs a k) : ¬ p_stc a k := fun q => h (Or.inr (Or.inl q))
theorem k_std (hA : p_WF A) (hC : p_CI A M) {f p q : Int} (hf : 0 ≤ f ∧ f < A 6 0) (hpq : p_tm p q) (h : ∀ M1, p_CI A M1 → p_st M1 (49 + 9 * f) (p_n (p_Fs A f.toNat)) (p_Fs A f.toNat) (p_TT (p_Fs A f.toNat)) p q → (∀ a k, ¬ p_stc a k → M1 a k = M a k) → Q none M1) : x_Ev l E (3, 0, 0) m_X4_stand 0 [(14, 49 + 9 * f), (1, p), (5, 0), (1, q), (5, 0), (5, 0), (5, 0), (5, 0), (5, 0), (5, 0)] [] M Q := by
  have w0 := hA.1.1
  obtain ⟨t1, t2, t3, t4⟩ := p_CI_t hA hC hf
  refine c_stand (by omega) t1 t2 (p_n10 p_ten_ok t1) t3 t4 (p_T_eb t1) hpq (fun M1 s1 s2 s3 => ?_)
  have fr := p_st_cs (by omega) s2 s3
  exact h M1 (p_CI_sc hC (fun a k q => fr a k (p_cs_st q))) s1 fr
theorem k_cho (hA : p_WF A) (hC : p_CI A M) {f p q how : Int} (hf : 0 ≤ f ∧ f < A 6 0) (hpq : p_tm p q) (hh : how = 0 ∨ how = 1 ∨ how = 2) (hst : p_st M (49 + 9 * f) (p_n (p_Fs A f.toNat)) (p_Fs A f.toNat) (p_TT (p_Fs A f.toNat)) p q) (h : Q (some (0, (p_ch (p_Fs A f.toNat) p q how : Int))) M) : x_Ev l E (3, 0, 0) m_X4_choose 0 [(14, 49 + 9 * f), (0, how), (5, 0), (5, 0)] [] M Q := by
  have w0 := hA.1.1
  obtain ⟨t1, t2, t3, t4⟩ := p_CI_t hA hC hf
  refine c_choose (by omega) t1 t2 (p_n10 p_ten_ok t1) (p_one_ok _ t1) t3 t4 (p_T_eb t1) hpq hst hh (fun k hk => ?_)
  rw [p_ch_eq t1 hk]
  exact h
theorem k_ans (hA : p_WF A) (hC : p_CI A M) {f : Int} (hf : 0 ≤ f ∧ f < A 6 0) (h : ∀ M1, p_CI A M1 → p_st M1 (49 + 9 * f) (p_n (p_Fs A f.toNat)) (p_Fs A f.toNat) (p_TT (p_Fs A f.toNat)) (A 7 0) (A 7 1) → (∀ a k, ¬ p_stc a k → M1 a k = M a k) → Q (some (0, (p_ch (p_Fs A f.toNat) (A 7 0) (A 7 1) 0 : Int))) M1) : x_Ev l E (4, 0, 0) m_X3_answerOf 0 [(13, 40), (0, f)] [] M Q := by
  have w0 := hA.1.1
  refine u_X3_answerOf_0 f ?_
  rw [show 41 + 8 + 9 * f = 49 + 9 * f by omega, hC.1 7 0 (by omega) (by omega), hC.1 7 1 (by omega) (by omega)]
  exact ⟨by omega, k_std hA hC hf (p_W_tm hA).1 (fun M1 c1 c2 c3 => ⟨rfl, by omega, k_cho hA c1 hf (p_W_tm hA).1 (Or.inl rfl) c2 ⟨_, rfl, h M1 c1 c2 c3⟩⟩)⟩
theorem k_bst (hA : p_WF A) (hC : p_CI A M) {f : Int} (hf : 0 ≤ f ∧ f < A 6 0) (h : ∀ M1, p_CI A M1 → (∀ a k, ¬ p_stc a k → M1 a k = M a k) → Q (some (0, (x_set (p_bst (p_Fs A f.toNat) (p_TT (p_Fs A f.toNat)) (p_n (p_Fs A f.toNat)) (A 7 0) (A 7 1)) (p_n (p_Fs A f.toNat)) : Int))) M1) : x_Ev l E (4, 0, 0) m_X3_bestPlansOf 0 [(13, 40), (0, f)] [] M Q := by
  have w0 := hA.1.1
  refine u_X3_bestPlansOf_0 f ?_
  rw [show 41 + 8 + 9 * f = 49 + 9 * f by omega, hC.1 7 0 (by omega) (by omega), hC.1 7 1 (by omega) (by omega)]
  refine ⟨by omega, k_std hA hC hf (p_W_tm hA).1 (fun M1 c1 c2 c3 => ⟨rfl, by omega, ?_⟩)⟩
  rw [c2.2.1]
  exact h M1 c1 c3
theorem r_pl (hA : p_WF A) (hR : p_RI A M) {f : Int} (hf : 0 ≤ f ∧ f < A 6 0) (h : ∀ M1, p_RI A M1 → p_RS M1 f (p_Fs A f.toNat) (p_n (p_Fs A f.toNat)) (p_TT (p_Fs A f.toNat)) → (∀ a k, ¬ p_rsc a k → M1 a k = M a k) → Q none M1) : x_Ev l E (9, 0, 0) m_X11_plans 0 [(21, 103), (0, f), (5, 0), (5, 0), (5, 0)] [] M Q := by
  have w0 := hA.1.1
  obtain ⟨rf, wf⟩ := p_RI_f hA hR hf
  refine c_Rplans p_ten_ok (by omega) wf rf (fun M1 t1 t2 => ?_)
  have fr : ∀ a k, ¬ p_rsc a k → M1 a k = M a k := fun a k q => t2 a k (by unfold p_rsc at q; omega) (by unfold p_rsc at q; omega) (by unfold p_rsc at q; unfold p_rt; omega)
  have hR1 := p_RI_sc hA hR fr
  exact h M1 hR1 ⟨(p_RI_f hA hR1 hf).1, t1, p_one_ok _ wf, p_n10 p_ten_ok wf, p_T_eb wf⟩ fr
noncomputable def p_ofv (A : xM) (f w : Int) : Int := if w = 0 then A (9 + 4 * f) 0 else if w = 1 then A (9 + 4 * f) 1 else if w = 2 then A (9 + 4 * f) 2 else if w = 3 then A (9 + 4 * f) 3 else if w = 4 then p_n (p_Fs A f.toNat) else if w = 5 then p_ch (p_Fs A f.toNat) (A 7 0) (A 7 1) 0 else x_set (p_bst (p_Fs A f.toNat) (p_TT (p_Fs A f.toNat)) (p_n (p_Fs A f.toNat)) (A 7 0) (A 7 1)) (p_n (p_Fs A f.toNat))
noncomputable def o_of (A : xM) (f w : Int) : Int × xM := p_if ((0 ≤ f ∧ f < A 6 0) ∧ 0 ≤ w ∧ w ≤ 6) (p_ofv A f w, A) (p_err A 0)
theorem p_ofv0 (A : xM) (f : Int) : p_ofv A f 0 = A (9 + 4 * f) 0 ∧ p_ofv A f 1 = A (9 + 4 * f) 1 ∧ p_ofv A f 2 = A (9 + 4 * f) 2 ∧ p_ofv A f 3 = A (9 + 4 * f) 3 ∧ p_ofv A f 4 = p_n (p_Fs A f.toNat) ∧ p_ofv A f 5 = p_ch (p_Fs A f.toNat) (A 7 0) (A 7 1) 0 ∧ p_ofv A f 6 = x_set (p_bst (p_Fs A f.toNat) (p_TT (p_Fs A f.toNat)) (p_n (p_Fs A f.toNat)) (A 7 0) (A 7 1)) (p_n (p_Fs A f.toNat)) := ⟨rfl, rfl, rfl, rfl, rfl, rfl, rfl⟩
theorem k_of (hA : p_WF A) (hC : p_CI A M) {f w : Int} (h : ∀ M1, p_CI (o_of A f w).2 M1 → p_cfr M M1 → Q (some (0, (o_of A f w).1)) M1) : x_Ev l E (5, 0, 0) m_X10_of 0 [(20, 5), (0, f), (0, w), (5, 0)] [] M Q := by
  unfold o_of at h
  have w0 := hA.1.1
  have bad : ¬ ((0 ≤ f ∧ f < A 6 0) ∧ 0 ≤ w ∧ w ≤ 6) → x_Ev l E (1, 0, 0) m_X10_tell 0 [(20, 5), (0, 0)] [] M (fun r M3 => ∃ z, r = some (0, z) ∧ Q (some (0, z)) M3) := fun c => by
    rw [p_if_f c] at h
    exact k_tl hA hC (by omega) (fun M1 a b => ⟨_, rfl, h M1 a b⟩)
  refine u_X10_of_0 f w (k_NF hC (fun c => x_y1 (by omega) (bad (fun q => c q.1))) (fun c => x_y0 ⟨fun d => bad (by omega), fun d => ⟨fun e => ?_, fun e => bad (by omega)⟩⟩))
  rw [p_if_t ⟨c, by omega⟩] at h
  obtain ⟨v0, v1, v2, v3, v4, v5, v6⟩ := p_ofv0 A f
  rw [show 8 + 1 + 4 * f = 9 + 4 * f by omega, show 41 + 8 + 9 * f = 49 + 9 * f by omega]
  refine ⟨by omega, fun g => ?_, fun g => ?_, fun g => ?_, fun g => ?_, fun g => ?_, fun g => ⟨by omega, ?_⟩, fun g => ?_⟩
  · have e6 : w = 6 := by omega
    rw [e6, v6] at h
    exact k_bst hA hC c (fun M1 c1 c2 => ⟨_, rfl, h M1 c1 (p_cfr_sc (fun a k q => c2 a k (p_cs_st q)))⟩)
  · rw [g, v0] at h
    rw [hC.1 _ _ (by omega) (by omega)]; exact h M hC (p_cfr_rf M)
  · rw [g, v1] at h
    rw [hC.1 _ _ (by omega) (by omega)]; exact h M hC (p_cfr_rf M)
  · rw [g, v2] at h
    rw [hC.1 _ _ (by omega) (by omega)]; exact h M hC (p_cfr_rf M)
  · rw [g, v3] at h
    rw [hC.1 _ _ (by omega) (by omega)]; exact h M hC (p_cfr_rf M)
  · rw [g, v4] at h
    rw [p_CI_n hA hC c]; exact h M hC (p_cfr_rf M)
  · rw [g, v5] at h
    exact k_ans hA hC c (fun M1 c1 _ c2 => ⟨_, rfl, h M1 c1 (p_cfr_sc (fun a k q => c2 a k (p_cs_st q)))⟩)
theorem r_of (hA : p_WF A) (hR : p_RI A M) {f w : Int} (h : ∀ M1, p_RI (o_of A f w).2 M1 → p_rfr M M1 → Q (some (0, (o_of A f w).1)) M1) : x_Ev l E (10, 0, 0) m_X11_of 0 [(21, 103), (0, f), (0, w)] [] M Q := by
  unfold o_of at h
  have w0 := hA.1.1
  have bad : ¬ ((0 ≤ f ∧ f < A 6 0) ∧ 0 ≤ w ∧ w ≤ 6) → x_Ev l E (1, 0, 0) m_X11_finds 0 [(21, 103), (0, 0)] [] M (fun r M3 => ∃ z, r = some (0, z) ∧ Q (some (0, z)) M3) := fun c => by
    rw [p_if_f c] at h
    exact r_tl hA hR (by omega) (fun M1 a b => ⟨_, rfl, h M1 a b⟩)
  refine u_X11_of_0 f w (r_F hA hR (fun c => x_n1 (by omega) (r_in (fun d => x_y1 (by omega) ?_) (fun d => x_y0 (bad (fun q => d q.2))))) (fun c => x_n0 (bad (fun q => c q.1))))
  rw [p_if_t ⟨c, d⟩] at h
  obtain ⟨v0, v1, v2, v3, v4, v5, v6⟩ := p_ofv0 A f
  refine r_pl hA hR c (fun M1 hR1 hS fr => ⟨rfl, ?_⟩)
  obtain ⟨⟨r0, r1, r2, r3, -⟩, wf⟩ := p_RI_f hA hR1 c
  rw [p_Fs0 A c.1] at r0 r1 r2 r3
  have hpq := (p_W_tm hA).1
  have fin := p_rfr_sc fr
  rw [hR1.1.2.2.1, hR1.1.2.2.2.1]
  refine ⟨fun g => ?_, fun g => ⟨by omega, ?_⟩, fun g => ⟨by omega, ?_⟩, fun g => ⟨by omega, ?_⟩, fun g => ⟨by omega, ?_⟩, fun g => ⟨by omega, ?_⟩, fun g => ?_⟩
  · have e6 : w = 6 := by omega
    rw [e6, v6] at h
    exact c_bestPlans (by omega) wf hS hpq ⟨_, rfl, h M1 hR1 fin⟩
  · rw [g, v0] at h
    rw [r0]; exact h M1 hR1 fin
  · rw [g, v1] at h
    rw [r1]; exact h M1 hR1 fin
  · rw [g, v2] at h
    rw [r2]; exact h M1 hR1 fin
  · rw [g, v3] at h
    rw [r3]; exact h M1 hR1 fin
  · rw [g, v4] at h
    rw [hS.2.1.1]; exact h M1 hR1 fin
  · rw [g, v5] at h
    exact c_answer (by omega) wf hS hpq (fun j hj => ⟨_, rfl, by rw [p_ch_eq wf hj]; exact h M1 hR1 fin⟩)
theorem wf_of (hA : p_WF A) (f w : Int) : p_WF (o_of A f w).2 := by
  unfold o_of
  by_cases c : (0 ≤ f ∧ f < A 6 0) ∧ 0 ≤ w ∧ w ≤ 6
  · rw [p_if_t c]; exact hA
  · rw [p_if_f c]; exact wf_tl hA 0
/-- a fraction is put and one side of it told -/
theorem k_two {v b p : Int} (hp : p = 0 ∨ p = 1) (hv : -9000000000000000000 ≤ v ∧ v ≤ 9000000000000000000) (hb : 0 < b ∧ b < 562949953421312) (h : ∀ M1, (∀ a k, a ≠ 86 → M1 a k = M a k) → Q (some (1, if p = 0 then p_nu v b else p_de v b)) M1) : x_Ev l E (2, 0, 0) m_X2_put 0 [(12, 86), (1, v), (5, 0), (1, b), (5, 0), (5, 0), (5, 0)] [] M (fun r M1 => r = none ∧ x_Ev l E (1, 0, 0) m_X2_side 0 [(12, 86), (0, p)] [] M1 (fun r M2 => ∃ z, r = some (1, z) ∧ Q (some (1, z)) M2)) := by
  refine c_put hv hb (fun M1 a b c => ⟨rfl, c_side hp ⟨_, rfl, ?_⟩⟩)
  rw [a, b]
  exact h M1 (fun x k q => by rw [c x q])
noncomputable def o_amount (A : xM) (f k g p : Int) : Int × xM := p_if (((0 ≤ f ∧ f < A 6 0) ∧ 0 ≤ g ∧ g < A (9 + 4 * f) 2) ∧ (0 ≤ p ∧ p ≤ 1) ∧ 0 ≤ k ∧ k < p_n (p_Fs A f.toNat)) (if p = 0 then p_nu (p_TT (p_Fs A f.toNat) k g) (p_TT (p_Fs A f.toNat) k 3) else p_de (p_TT (p_Fs A f.toNat) k g) (p_TT (p_Fs A f.toNat) k 3), A) (p_erL A 0)
theorem k_amount (hA : p_WF A) (hC : p_CI A M) {f k g p : Int} (h : ∀ M1, p_CI (o_amount A f k g p).2 M1 → p_cfr M M1 → Q (some (1, (o_amount A f k g p).1)) M1) : x_Ev l E (3, 0, 0) m_X10_amount 0 [(20, 5), (0, f), (0, k), (0, g), (0, p), (5, 0)] [] M Q := by
  unfold o_amount at h
  have w0 := hA.1.1
  have bad : ¬ (((0 ≤ f ∧ f < A 6 0) ∧ 0 ≤ g ∧ g < A (9 + 4 * f) 2) ∧ (0 ≤ p ∧ p ≤ 1) ∧ 0 ≤ k ∧ k < p_n (p_Fs A f.toNat)) → x_Ev l E (1, 0, 0) m_X10_tellLong 0 [(20, 5), (0, 0)] [] M (fun r M3 => ∃ z, r = some (1, z) ∧ Q (some (1, z)) M3) := fun c => by
    rw [p_if_f c] at h
    exact k_tL hA hC (by omega) (fun M1 a b => ⟨_, rfl, h M1 a b⟩)
  refine u_X10_amount_0 f k g p (k_NG hA hC (fun c => x_y1 (by omega) (bad (fun q => c q.1))) (fun c => x_y0 (k_NP (fun d => x_y1 (by omega) (bad (fun q => d q.2.1))) (fun d => x_y0 (k_NPl hA hC (fun e => x_n1 (by omega) (bad (fun q => e ⟨c.1, q.2.2⟩))) (fun e => x_n0 ?_))))))
  have gd := p_gd hA c.1
  obtain ⟨t1, t2, t3, t4⟩ := p_CI_t hA hC c.1
  have h10 := p_n10 p_ten_ok t1
  rw [p_if_t ⟨c, d, e.2⟩] at h
  obtain ⟨u1, u2, u3⟩ := t3.2 k e.2.1 e.2.2
  obtain ⟨eb1, eb2, eb3⟩ := p_T_eb t1 k e.2.1 e.2.2
  have eg := eb1 g c.2.1 (by omega)
  rw [x_ix (by omega) (by omega) (by omega) (by omega), show 41 + 8 + 9 * f = 49 + 9 * f by omega, u1 g (by omega) (by omega), u2]
  exact ⟨by omega, by omega, by omega, k_two (by omega) (by omega) (by omega) (fun M1 fr => h M1 (p_CI_sc hC (fun a k q => fr a k (fun e => q (by unfold p_cs; omega)))) (p_cfr_sc (fun a k q => fr a k (fun e => q (by unfold p_cs; omega)))))⟩
theorem r_amount (hA : p_WF A) (hR : p_RI A M) {f k g p : Int} (h : ∀ M1, p_RI (o_amount A f k g p).2 M1 → p_rfr M M1 → Q (some (1, (o_amount A f k g p).1)) M1) : x_Ev l E (10, 0, 0) m_X11_amount 0 [(21, 103), (0, f), (0, k), (0, g), (0, p)] [] M Q := by
  unfold o_amount at h
  have w0 := hA.1.1
  have bad : ¬ (((0 ≤ f ∧ f < A 6 0) ∧ 0 ≤ g ∧ g < A (9 + 4 * f) 2) ∧ (0 ≤ p ∧ p ≤ 1) ∧ 0 ≤ k ∧ k < p_n (p_Fs A f.toNat)) → ∀ M1, p_RI A M1 → p_rfr M M1 → x_Ev l E (1, 0, 0) m_X11_findsLong 0 [(21, 103), (0, 0)] [] M1 (fun r M3 => ∃ z, r = some (1, z) ∧ Q (some (1, z)) M3) := fun c M1 h1 h2 => by
    rw [p_if_f c] at h
    exact r_tL hA h1 (by omega) (fun M2 a b => ⟨_, rfl, h M2 a (p_rfr_tr h2 b)⟩)
  refine u_X11_amount_0 f k g p (r_G hA hR (fun c => x_n1 (by omega) (r_Part (fun d => x_y1 (by omega) ?_) (fun d => x_y0 (bad (fun q => d q.2.1) M hR (p_rfr_rf M))))) (fun c => x_n0 (bad (fun q => c q.1) M hR (p_rfr_rf M))))
  have gd := p_gd hA c.1
  refine r_pl hA hR c.1 (fun M1 hR1 hS fr => ⟨rfl, by omega, ?_⟩)
  obtain ⟨s1, s2, s3, s4, s5⟩ := hS
  rw [s2.1, x_w_id (by omega) (by omega)]
  refine r_in (fun e => x_y1 (by omega) ?_) (fun e => x_y0 (bad (fun q => e (by omega)) M1 hR1 (p_rfr_sc fr)))
  rw [p_if_t ⟨c, d, by omega⟩] at h
  obtain ⟨u1, u2, u3⟩ := s2.2 k e.1 (by omega)
  obtain ⟨eb1, eb2, eb3⟩ := s5 k e.1 (by omega)
  have eg := eb1 g c.2.1 (by omega)
  rw [show 150 + 1 + 41 * f + 1 + 1 * k = 152 + 41 * f + k by omega, show 274 + 1 + 1 * f = 275 + f by omega, u1 g (by omega) (by omega), u2]
  exact ⟨by omega, by omega, by omega, by omega, by omega, c_part (by omega) (by omega) (by omega) ⟨_, rfl, h M1 hR1 (p_rfr_sc fr)⟩⟩
theorem wf_amount (hA : p_WF A) (f k g p : Int) : p_WF (o_amount A f k g p).2 := by
  unfold o_amount
  by_cases c : ((0 ≤ f ∧ f < A 6 0) ∧ 0 ≤ g ∧ g < A (9 + 4 * f) 2) ∧ (0 ≤ p ∧ p ≤ 1) ∧ 0 ≤ k ∧ k < p_n (p_Fs A f.toNat)
  · rw [p_if_t c]; exact hA
  · rw [p_if_f c]; exact wf_tl hA 0
noncomputable def p_brn (F : xM) (p q j w : Int) : Int := if w = 0 then p_net F (p_TT F j) p q else p_gn F (p_TT F j) p q
noncomputable def o_brings (A : xM) (f k w p : Int) : Int × xM := p_if ((0 ≤ f ∧ f < A 6 0) ∧ (0 ≤ w ∧ w ≤ 1) ∧ (0 ≤ p ∧ p ≤ 1) ∧ -1 ≤ k ∧ k < p_n (p_Fs A f.toNat)) (if p = 0 then p_nu (p_brn (p_Fs A f.toNat) (A 7 0) (A 7 1) (if k = -1 then (p_ch (p_Fs A f.toNat) (A 7 0) (A 7 1) 0 : Int) else k) w) (p_TT (p_Fs A f.toNat) (if k = -1 then (p_ch (p_Fs A f.toNat) (A 7 0) (A 7 1) 0 : Int) else k) 3 * A 7 1) else p_de (p_brn (p_Fs A f.toNat) (A 7 0) (A 7 1) (if k = -1 then (p_ch (p_Fs A f.toNat) (A 7 0) (A 7 1) 0 : Int) else k) w) (p_TT (p_Fs A f.toNat) (if k = -1 then (p_ch (p_Fs A f.toNat) (A 7 0) (A 7 1) 0 : Int) else k) 3 * A 7 1), A) (p_erL A 0)
theorem p_chb (hA : p_WF A) {f : Int} (hf : 0 ≤ f ∧ f < A 6 0) {p q how : Int} (hh : how = 0 ∨ how = 1 ∨ how = 2) : p_ch (p_Fs A f.toNat) p q how < p_n (p_Fs A f.toNat) := (p_ch_is p_ten_ok p_one_ok (p_WF_f hA hf) hh).1
theorem x_162 {e q : Int} (he : 0 < e ∧ e ≤ 162) (hq : 1 ≤ q ∧ q ≤ 4000000) : x_W (e * q) = e * q ∧ 0 < e * q ∧ e * q ≤ 648000000 := by
  have := x_mb (a := e) (b := q) (A := 162) (B := 4000000) (by omega) (by omega)
  have := Int.mul_pos he.1 (show 0 < q by omega)
  exact ⟨x_W_id (by omega) (by omega), by omega, by omega⟩
theorem k_brings (hA : p_WF A) (hC : p_CI A M) {f k w p : Int} (h : ∀ M1, p_CI (o_brings A f k w p).2 M1 → p_cfr M M1 → Q (some (1, (o_brings A f k w p).1)) M1) : x_Ev l E (5, 0, 0) m_X10_brings 0 [(20, 5), (0, f), (0, k), (0, w), (0, p), (5, 0), (5, 0), (5, 0), (5, 0), (5, 0)] [] M Q := by
  unfold o_brings at h
  have w0 := hA.1.1
  have bad : ¬ ((0 ≤ f ∧ f < A 6 0) ∧ (0 ≤ w ∧ w ≤ 1) ∧ (0 ≤ p ∧ p ≤ 1) ∧ -1 ≤ k ∧ k < p_n (p_Fs A f.toNat)) → ∀ M1, p_CI A M1 → p_cfr M M1 → x_Ev l E (1, 0, 0) m_X10_tellLong 0 [(20, 5), (0, 0)] [] M1 (fun r M3 => ∃ z, r = some (1, z) ∧ Q (some (1, z)) M3) := fun c M1 h1 h2 => by
    rw [p_if_f c] at h
    exact k_tL hA h1 (by omega) (fun M2 a b => ⟨_, rfl, h M2 a (p_cfr_tr h2 b)⟩)
  refine u_X10_brings_0 f k w p (k_NF hC (fun c => x_y1 (by omega) (bad (fun q => c q.1) M hC (p_cfr_rf M))) (fun c => x_y0 ⟨fun d => bad (fun q => by omega) M hC (p_cfr_rf M), fun d => ⟨fun d2 => bad (fun q => by omega) M hC (p_cfr_rf M), fun d2 => k_NP (fun e => x_n1 (by omega) (bad (fun q => e q.2.2.1) M hC (p_cfr_rf M))) (fun e => x_n0 (k_ans hA hC c (fun M1 c1 c2 c3 => ⟨_, rfl, ?_⟩)))⟩⟩))
  have fr1 := p_cfr_sc (fun a k q => c3 a k (p_cs_st q))
  obtain ⟨t1, t2, t3, t4⟩ := p_CI_t hA c1 c
  have hpq := (p_W_tm hA).1
  have h10 := p_n10 p_ten_ok t1
  have e71 : M1 7 1 = A 7 1 := c1.1 7 1 (by omega) (by omega)
  rw [show 41 + 8 + 9 * f = 49 + 9 * f by omega]
  have main : ∀ j : Int, 0 ≤ j → j < p_n (p_Fs A f.toNat) → j = (if k = -1 then (p_ch (p_Fs A f.toNat) (A 7 0) (A 7 1) 0 : Int) else k) → -1 ≤ k → k < p_n (p_Fs A f.toNat) → ∀ v : Int, v = p_brn (p_Fs A f.toNat) (A 7 0) (A 7 1) j w → x_Ev l E (2, 0, 0) m_X2_put 0 [(12, 86), (1, v), (5, 0), (1, x_W (M1 (49 + 9 * f + 2) j * M1 7 1)), (5, 0), (5, 0), (5, 0)] [] M1 (fun r M1 => r = none ∧ x_Ev l E (1, 0, 0) m_X2_side 0 [(12, 86), (0, p)] [] M1 (fun r M2 => ∃ z, r = some (1, z) ∧ Q (some (1, z)) M2)) := by
    intro j j1 j2 ej k1 k2 v hv
    rw [p_if_t ⟨c, by omega, e, k1, k2⟩, ← ej, ← hv] at h
    obtain ⟨u1, u2, u3⟩ := t3.2 j j1 j2
    have eb := p_T_eb t1 j j1 j2
    obtain ⟨x1, x2, x3⟩ := x_162 (e := p_TT (p_Fs A f.toNat) j 3) (q := A 7 1) ⟨eb.2.1, eb.2.2⟩ ⟨hpq.2.2.1, hpq.2.2.2⟩
    have b1 := p_net_bd t1 eb hpq
    have b2 := p_gn_bd t1 eb hpq
    rw [u2, e71, x1]
    refine k_two (by omega) ?_ (by omega) (fun M2 fr => h M2 (p_CI_sc c1 (fun a k q => fr a k (fun e => q (by unfold p_cs; omega)))) (p_cfr_tr fr1 (p_cfr_sc (fun a k q => fr a k (fun e => q (by unfold p_cs; omega))))))
    rw [hv]
    unfold p_brn
    by_cases cw : w = 0
    · rw [if_pos cw]; omega
    · rw [if_neg cw]; omega
  have both : ∀ j : Int, j = (if k = -1 then (p_ch (p_Fs A f.toNat) (A 7 0) (A 7 1) 0 : Int) else k) → (¬ (0 ≤ j ∧ j < p_n (p_Fs A f.toNat)) → ¬ (-1 ≤ k ∧ k < p_n (p_Fs A f.toNat))) → (0 ≤ j ∧ j < p_n (p_Fs A f.toNat) → -1 ≤ k ∧ k < p_n (p_Fs A f.toNat)) → x_Ev l E (2, 0, 0) m_X10_isNoPlan 0 [(20, 5), (0, f), (0, j)] [] M1 (fun r zM13 => ∃ zr14, r = some (0, zr14) ∧ (zr14 = 0 → ((0 : Int) ≤ f ∧ (f : Int) < 3) ∧ (¬ w = 0 → ((0 : Int) ≤ j ∧ (j : Int) < 10) ∧ ∀ zv15 : Int, zv15 = (zM13 (49 + 9 * f + 8) j) → ((0 : Int) ≤ j ∧ (j : Int) < 10) ∧ x_Ev l E (2, 0, 0) m_X2_put 0 [(12, 86), (1, zv15), (5, 0), (1, (x_W ((zM13 (49 + 9 * f + 2) j) * (zM13 7 1)))), (5, 0), (5, 0), (5, 0)] [] zM13 (fun r zM16 => r = none ∧ x_Ev l E (1, 0, 0) m_X2_side 0 [(12, 86), (0, p)] [] zM16 (fun r zM17 => ∃ zr18, r = some (1, zr18) ∧ Q (some (1, zr18)) zM17))) ∧ (w = 0 → ((0 : Int) ≤ j ∧ (j : Int) < 10) ∧ ∀ zv19 : Int, zv19 = (zM13 (49 + 9 * f + 7) j) → ((0 : Int) ≤ j ∧ (j : Int) < 10) ∧ x_Ev l E (2, 0, 0) m_X2_put 0 [(12, 86), (1, zv19), (5, 0), (1, (x_W ((zM13 (49 + 9 * f + 2) j) * (zM13 7 1)))), (5, 0), (5, 0), (5, 0)] [] zM13 (fun r zM20 => r = none ∧ x_Ev l E (1, 0, 0) m_X2_side 0 [(12, 86), (0, p)] [] zM20 (fun r zM21 => ∃ zr22, r = some (1, zr22) ∧ Q (some (1, zr22)) zM21)))) ∧ (¬ zr14 = 0 → x_Ev l E (1, 0, 0) m_X10_tellLong 0 [(20, 5), (0, 0)] [] zM13 (fun r zM23 => ∃ zr24, r = some (1, zr24) ∧ Q (some (1, zr24)) zM23))) := by
    intro j ej hno hyes
    refine k_NPl hA c1 (fun g => x_n1 (by omega) (bad (fun q => hno (fun z => g ⟨c, z⟩) q.2.2.2) M1 c1 fr1)) (fun g => x_n0 ⟨by omega, fun cw => ⟨by omega, ?_⟩, fun cw => ⟨by omega, ?_⟩⟩)
    · intro v hv
      have y := hyes g.2
      refine ⟨by omega, main j g.2.1 g.2.2 ej y.1 y.2 v ?_⟩
      rw [hv, (c2.2.2 j g.2.1 g.2.2).2]
      exact (if_neg cw).symm
    · intro v hv
      have y := hyes g.2
      refine ⟨by omega, main j g.2.1 g.2.2 ej y.1 y.2 v ?_⟩
      rw [hv, (c2.2.2 j g.2.1 g.2.2).1]
      exact (if_pos cw).symm
  have hc := p_chb hA c (p := A 7 0) (q := A 7 1) (Or.inl rfl)
  refine ⟨fun g => both k (if_neg g).symm (fun z y => z (by omega)) (fun z => by omega), fun g => both _ (if_pos g).symm (fun z => absurd (by omega) z) (fun z => by omega)⟩
theorem r_brings (hA : p_WF A) (hR : p_RI A M) {f k w p : Int} (h : ∀ M1, p_RI (o_brings A f k w p).2 M1 → p_rfr M M1 → Q (some (1, (o_brings A f k w p).1)) M1) : x_Ev l E (10, 0, 0) m_X11_brings 0 [(21, 103), (0, f), (0, k), (0, w), (0, p), (5, 0)] [] M Q := by
  unfold o_brings at h
  have w0 := hA.1.1
  have bad : ¬ ((0 ≤ f ∧ f < A 6 0) ∧ (0 ≤ w ∧ w ≤ 1) ∧ (0 ≤ p ∧ p ≤ 1) ∧ -1 ≤ k ∧ k < p_n (p_Fs A f.toNat)) → ∀ M1, p_RI A M1 → p_rfr M M1 → x_Ev l E (1, 0, 0) m_X11_findsLong 0 [(21, 103), (0, 0)] [] M1 (fun r M3 => ∃ z, r = some (1, z) ∧ Q (some (1, z)) M3) := fun c M1 h1 h2 => by
    rw [p_if_f c] at h
    exact r_tL hA h1 (by omega) (fun M2 a b => ⟨_, rfl, h M2 a (p_rfr_tr h2 b)⟩)
  refine u_X11_brings_0 f k w p (r_F hA hR (fun c => x_n1 (by omega) (r_in (fun d => x_n1 (by omega) (r_Part (fun e => x_y1 (by omega) (r_pl hA hR c (fun M1 hR1 hS fr => ⟨rfl, by omega, ?_⟩))) (fun e => x_y0 (bad (fun q => e q.2.2.1) M hR (p_rfr_rf M))))) (fun d => x_n0 (bad (fun q => d q.2.1) M hR (p_rfr_rf M))))) (fun c => x_n0 (bad (fun q => c q.1) M hR (p_rfr_rf M))))
  have hS' := hS
  obtain ⟨s1, s2, s3, s4, s5⟩ := hS'
  have wf := p_WF_f hA c
  have hpq := (p_W_tm hA).1
  rw [s2.1, x_w_id (by omega) (by omega)]
  refine r_in (fun g => x_y1 (by omega) ?_) (fun g => x_y0 (bad (fun q => g (by omega)) M1 hR1 (p_rfr_sc fr)))
  rw [p_if_t ⟨c, d, e, g.1, by omega⟩] at h
  rw [hR1.1.2.2.1, hR1.1.2.2.2.1, show 274 + 1 + 1 * f = 275 + f by omega]
  have tail : ∀ j : Int, 0 ≤ j → j < p_n (p_Fs A f.toNat) → j = (if k = -1 then (p_ch (p_Fs A f.toNat) (A 7 0) (A 7 1) 0 : Int) else k) → ∀ v : Int, v = p_brn (p_Fs A f.toNat) (A 7 0) (A 7 1) j w → -4000000000000 ≤ v ∧ v ≤ 4000000000000 → ∃ z : Int, some ((1 : Nat), v) = some (1, z) ∧ ((0 : Int) ≤ f ∧ (f : Int) < 3) ∧ ((0 : Int) ≤ j ∧ (j : Int) < 40) ∧ x_Ev l E (2, 0, 0) m_X11_part 0 [(1, z), (5, 0), (1, (x_W ((M1 (275 + f) j) * A 7 1))), (5, 0), (0, p), (5, 0), (5, 0)] [] M1 (fun r zM16 => ∃ zr17, r = some (1, zr17) ∧ Q (some (1, zr17)) zM16) := by
    intro j j1 j2 ej v hv hb
    rw [← ej, ← hv] at h
    obtain ⟨u1, u2, u3⟩ := s2.2 j j1 j2
    have eb := s5 j j1 j2
    obtain ⟨x1, x2, x3⟩ := x_162 (e := p_TT (p_Fs A f.toNat) j 3) (q := A 7 1) ⟨eb.2.1, eb.2.2⟩ ⟨hpq.2.2.1, hpq.2.2.2⟩
    rw [u2, x1]
    exact ⟨v, rfl, by omega, by omega, c_part (by omega) (by omega) (by omega) ⟨_, rfl, h M1 hR1 (p_rfr_sc fr)⟩⟩
  have both : ∀ j : Int, 0 ≤ j → j < p_n (p_Fs A f.toNat) → j = (if k = -1 then (p_ch (p_Fs A f.toNat) (A 7 0) (A 7 1) 0 : Int) else k) → (¬ w = 0 → x_Ev l E (2, 0, 0) m_X11_gain 0 [(21, 103), (0, f), (0, j), (1, A 7 0), (5, 0), (1, A 7 1), (5, 0)] [] M1 (fun r zM14 => ∃ zr15, r = some (1, zr15) ∧ ((0 : Int) ≤ f ∧ (f : Int) < 3) ∧ ((0 : Int) ≤ j ∧ (j : Int) < 40) ∧ x_Ev l E (2, 0, 0) m_X11_part 0 [(1, zr15), (5, 0), (1, (x_W ((zM14 (275 + f) j) * (zM14 103 10)))), (5, 0), (0, p), (5, 0), (5, 0)] [] zM14 (fun r zM16 => ∃ zr17, r = some (1, zr17) ∧ Q (some (1, zr17)) zM16))) ∧ (w = 0 → x_Ev l E (2, 0, 0) m_X11_net 0 [(21, 103), (0, f), (0, j), (1, A 7 0), (5, 0), (1, A 7 1), (5, 0)] [] M1 (fun r zM18 => ∃ zr19, r = some (1, zr19) ∧ ((0 : Int) ≤ f ∧ (f : Int) < 3) ∧ ((0 : Int) ≤ j ∧ (j : Int) < 40) ∧ x_Ev l E (2, 0, 0) m_X11_part 0 [(1, zr19), (5, 0), (1, (x_W ((zM18 (275 + f) j) * (zM18 103 10)))), (5, 0), (0, p), (5, 0), (5, 0)] [] zM18 (fun r zM20 => ∃ zr21, r = some (1, zr21) ∧ Q (some (1, zr21)) zM20))) := by
    intro j j1 j2 ej
    have eb := s5 j j1 j2
    have b1 := p_net_bd wf eb hpq
    have b2 := p_gn_bd wf eb hpq
    refine ⟨fun cw => c_Rgain (by omega) wf s1 (by omega) eb (s2.2 j j1 j2) hpq ?_, fun cw => c_Rnet (by omega) wf s1 (by omega) eb (s2.2 j j1 j2) hpq ?_⟩
    · rw [hR1.1.2.2.2.1]
      exact tail j j1 j2 ej _ (if_neg cw).symm (by omega)
    · rw [hR1.1.2.2.2.1]
      exact tail j j1 j2 ej _ (if_pos cw).symm (by omega)
  refine ⟨fun k0 => both k k0 (by omega) (if_neg (by omega)).symm, fun k0 => c_answer (by omega) wf hS hpq (fun j hj => ⟨_, rfl, ?_⟩)⟩
  have hj1 := hj.1
  rw [hR1.1.2.2.1, hR1.1.2.2.2.1]
  exact both j (by omega) (by omega) (by rw [if_pos (by omega), p_ch_eq wf hj])
theorem wf_brings (hA : p_WF A) (f k w p : Int) : p_WF (o_brings A f k w p).2 := by
  unfold o_brings
  by_cases c : (0 ≤ f ∧ f < A 6 0) ∧ (0 ≤ w ∧ w ≤ 1) ∧ (0 ≤ p ∧ p ≤ 1) ∧ -1 ≤ k ∧ k < p_n (p_Fs A f.toNat)
  · rw [p_if_t c]; exact hA
  · rw [p_if_f c]; exact wf_tl hA 0
noncomputable def o_total (A : xM) (w p : Int) : Int × xM := p_if ((0 ≤ w ∧ w ≤ 2) ∧ 0 ≤ p ∧ p ≤ 1) (p_if ((w = 1 ∧ A 7 0 = 0) ∨ (w = 2 ∧ A 7 0 = A 6 1 * A 7 1)) (p_erL A 3) (if p = 0 then p_tN (p_Fs A) (A 6 0).toNat (A 7 0) (A 7 1) w else p_tD (p_Fs A) (A 6 0).toNat (A 7 0) (A 7 1) w, A)) (p_erL A 0)
theorem k_tot (hA : p_WF A) (hC : p_CI A M) {p q how to : Int} (hpq : p_tm p q) (hh : how = 0 ∨ how = 1 ∨ how = 2) (hto : p_cs to 0 ∧ p_cs to 1) (hto2 : ∀ k, p_cs to k) (h : ∀ M1, p_CI A M1 → M1 to 0 = p_tN (p_Fs A) (A 6 0).toNat p q how → M1 to 1 = p_tD (p_Fs A) (A 6 0).toNat p q how → (∀ a k, ¬ (a = 40 ∧ k = 7) → ¬ p_stc a k → a ≠ to → M1 a k = M a k) → Q none M1) : x_Ev l E (4, 0, 0) m_X3_standAll 0 [(13, 40), (1, p), (5, 0), (1, q), (5, 0), (5, 0)] [] M (fun r M1 => r = none ∧ x_Ev l E (4, 0, 0) m_X3_addUp 0 [(13, 40), (0, 1), (0, how), (12, to), (5, 0), (5, 0), (5, 0), (5, 0), (5, 0), (5, 0), (5, 0), (5, 0)] [] M1 Q) := by
  refine c_standAll p_ten_ok hC.2.2.2.2.2.1 hpq (fun M1 w1 w2 w3 => ⟨rfl, c_addUp p_ten_ok p_one_ok w1 hpq hh w2 (Or.inr ⟨rfl, rfl, rfl⟩) (fun M2 s1 s2 s3 => ?_)⟩)
  have fr : ∀ a k, ¬ (a = 40 ∧ k = 7) → ¬ p_stc a k → a ≠ to → M2 a k = M a k := fun a k q1 q2 q3 => by rw [s3 a q3]; exact w3 a k q1 q2
  exact h M2 (p_CI_sc hC (fun a k q => fr a k (fun e => q (by unfold p_cs; omega)) (p_cs_st q) (fun e => q (by rw [e]; exact hto2 k)))) s1 s2 fr
theorem k_total (hA : p_WF A) (hC : p_CI A M) {w p : Int} (h : ∀ M1, p_CI (o_total A w p).2 M1 → p_cfr M M1 → Q (some (1, (o_total A w p).1)) M1) : x_Ev l E (5, 0, 0) m_X10_total 0 [(20, 5), (0, w), (0, p), (5, 0)] [] M Q := by
  unfold o_total at h
  obtain ⟨hpq, w1, w7⟩ := p_W_tm hA
  have bad : ¬ ((0 ≤ w ∧ w ≤ 2) ∧ 0 ≤ p ∧ p ≤ 1) → x_Ev l E (1, 0, 0) m_X10_tellLong 0 [(20, 5), (0, 0)] [] M (fun r M3 => ∃ z, r = some (1, z) ∧ Q (some (1, z)) M3) := fun c => by
    rw [p_if_f c] at h
    exact k_tL hA hC (by omega) (fun M1 a b => ⟨_, rfl, h M1 a b⟩)
  refine u_X10_total_0 w p ⟨fun c => bad (by omega), fun c => ⟨fun d => bad (by omega), fun d => k_NP (fun e => x_n1 (by omega) (bad (fun q => e q.2))) (fun e => x_n0 ?_)⟩⟩
  rw [p_if_t ⟨by omega, e⟩] at h
  rw [hC.1 7 0 (by omega) (by omega), hC.1 7 1 (by omega) (by omega), hC.1 6 1 (by omega) (by omega), x_mW w1 ⟨hpq.2.2.1, hpq.2.2.2⟩]
  have bad2 : ((w = 1 ∧ A 7 0 = 0) ∨ (w = 2 ∧ A 7 0 = A 6 1 * A 7 1)) → x_Ev l E (1, 0, 0) m_X10_tellLong 0 [(20, 5), (0, 3)] [] M (fun r M3 => ∃ z, r = some (1, z) ∧ Q (some (1, z)) M3) := fun c => by
    rw [p_if_t c] at h
    exact k_tL hA hC (by omega) (fun M1 a b => ⟨_, rfl, h M1 a b⟩)
  have go : ¬ ((w = 1 ∧ A 7 0 = 0) ∨ (w = 2 ∧ A 7 0 = A 6 1 * A 7 1)) → x_Ev l E (4, 0, 0) m_X3_standAll 0 [(13, 40), (1, A 7 0), (5, 0), (1, A 7 1), (5, 0), (5, 0)] [] M (fun r zM7 => r = none ∧ x_Ev l E (4, 0, 0) m_X3_addUp 0 [(13, 40), (0, 1), (0, w), (12, 86), (5, 0), (5, 0), (5, 0), (5, 0), (5, 0), (5, 0), (5, 0), (5, 0)] [] zM7 (fun r zM8 => r = none ∧ x_Ev l E (1, 0, 0) m_X2_side 0 [(12, 86), (0, p)] [] zM8 (fun r zM9 => ∃ zr10, r = some (1, zr10) ∧ Q (some (1, zr10)) zM9))) := fun c' => by
    rw [p_if_f c'] at h
    refine k_tot hA hC hpq (by omega) ⟨by unfold p_cs; omega, by unfold p_cs; omega⟩ (fun k => by unfold p_cs; omega) (fun M1 c1 c2 c3 c4 => ⟨rfl, c_side (by omega) ⟨_, rfl, ?_⟩⟩)
    rw [c2, c3]
    exact h M1 c1 (p_cfr_sc (fun a k q => c4 a k (fun e => q (by unfold p_cs; omega)) (p_cs_st q) (fun e => q (by unfold p_cs; omega))))
  exact ⟨fun g => ⟨fun g2 => go (by omega), fun g2 => ⟨fun g3 => go (by omega), fun g3 => bad2 (by omega)⟩⟩, fun g => ⟨fun g2 => bad2 (by omega), fun g2 => go (by omega)⟩⟩
theorem r_total (hA : p_WF A) (hR : p_RI A M) {w p : Int} (h : ∀ M1, p_RI (o_total A w p).2 M1 → p_rfr M M1 → Q (some (1, (o_total A w p).1)) M1) : x_Ev l E (11, 0, 0) m_X11_total 0 [(21, 103), (0, w), (0, p)] [] M Q := by
  unfold o_total at h
  obtain ⟨hpq, w1, w7⟩ := p_W_tm hA
  have bad : ¬ ((0 ≤ w ∧ w ≤ 2) ∧ 0 ≤ p ∧ p ≤ 1) → x_Ev l E (1, 0, 0) m_X11_findsLong 0 [(21, 103), (0, 0)] [] M (fun r M3 => ∃ z, r = some (1, z) ∧ Q (some (1, z)) M3) := fun c => by
    rw [p_if_f c] at h
    exact r_tL hA hR (by omega) (fun M1 a b => ⟨_, rfl, h M1 a b⟩)
  refine u_X11_total_0 w p (r_in (fun c => x_n1 (by omega) (r_Part (fun e => x_y1 (by omega) ?_) (fun e => x_y0 (bad (fun q => e q.2))))) (fun c => x_n0 (bad (fun q => c q.1))))
  rw [p_if_t ⟨c, e⟩] at h
  rw [hR.1.2.2.1, hR.1.2.2.2.1, hR.1.2.1, x_mW w1 ⟨hpq.2.2.1, hpq.2.2.2⟩]
  have bad2 : ((w = 1 ∧ A 7 0 = 0) ∨ (w = 2 ∧ A 7 0 = A 6 1 * A 7 1)) → x_Ev l E (1, 0, 0) m_X11_findsLong 0 [(21, 103), (0, 3)] [] M (fun r M3 => ∃ z, r = some (1, z) ∧ Q (some (1, z)) M3) := fun c => by
    rw [p_if_t c] at h
    exact r_tL hA hR (by omega) (fun M1 a b => ⟨_, rfl, h M1 a b⟩)
  have go : ¬ ((w = 1 ∧ A 7 0 = 0) ∨ (w = 2 ∧ A 7 0 = A 6 1 * A 7 1)) → x_Ev l E (10, 0, 0) m_X11_plans_ 0 [(21, 103), (5, 0)] [] M (fun r zM7 => r = none ∧ x_Ev l E (5, 0, 0) m_X11_totals 0 [(21, 103), (1, (zM7 103 9)), (5, 0), (1, (zM7 103 10)), (5, 0), (0, w), (5, 0), (5, 0)] [] zM7 (fun r zM8 => r = none ∧ (¬ p = 0 → Q (some (1, (zM8 103 16))) zM8) ∧ (p = 0 → Q (some (1, (zM8 103 15))) zM8))) := fun c' => by
    rw [p_if_f c'] at h
    refine r_plans hA hR (fun M1 w2 fr => ⟨rfl, ?_⟩)
    have hR1 := p_RI_sc hA hR fr
    rw [hR1.1.2.2.1, hR1.1.2.2.2.1]
    refine c_totals p_ten_ok p_one_ok w2 hpq (by omega) (fun M2 s1 s2 s3 => ⟨rfl, ?_⟩)
    have fr2 : ∀ a k, ¬ p_rsc a k → M2 a k = M a k := fun a k q => by rw [s3 a k (fun e => q (by unfold p_rsc; omega))]; exact fr a k q
    have fin := h M2 (p_RI_sc hA hR fr2) (p_rfr_sc fr2)
    refine ⟨fun g => ?_, fun g => ?_⟩
    · rw [if_neg g] at fin
      rw [s2]; exact fin
    · rw [if_pos g] at fin
      rw [s1]; exact fin
  exact ⟨fun g => ⟨fun g2 => go (by omega), fun g2 => ⟨fun g3 => go (by omega), fun g3 => bad2 (by omega)⟩⟩, fun g => ⟨fun g2 => bad2 (by omega), fun g2 => go (by omega)⟩⟩
theorem wf_total (hA : p_WF A) (w p : Int) : p_WF (o_total A w p).2 := by
  unfold o_total
  by_cases c : (0 ≤ w ∧ w ≤ 2) ∧ 0 ≤ p ∧ p ≤ 1
  · rw [p_if_t c]
    by_cases d : (w = 1 ∧ A 7 0 = 0) ∨ (w = 2 ∧ A 7 0 = A 6 1 * A 7 1)
    · rw [p_if_t d]; exact wf_tl hA 3
    · rw [p_if_f d]; exact hA
  · rw [p_if_f c]; exact wf_tl hA 0
end O5
