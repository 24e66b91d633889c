/-! round, loose -/
noncomputable def p_tc (A : xM) : Int := x_w (x_W ((p_tN (p_Fs A) (A 6 0).toNat (A 7 0) (A 7 1) 0).tdiv (p_tD (p_Fs A) (A 6 0).toNat (A 7 0) (A 7 1) 0)))
theorem p_acc_cg {v : xM → (Int → Int) → Int} {Fs Fs' : Nat → xM} {p q how : Int} : ∀ m : Nat, (∀ f, f < m → Fs' f = Fs f) → p_acc v Fs' p q how m = p_acc v Fs p q how m := by
  intro m
  induction m with
  | zero => intro _; rfl
  | succ m ih =>
    intro h
    unfold p_acc
    rw [ih (fun f hf => h f (by omega)), h m (by omega)]
theorem p_tc_cg {A A' : xM} (h0 : A 6 0 ≤ 3) (e6 : A' 6 0 = A 6 0) (e7 : ∀ k, A' 7 k = A 7 k) (e : ∀ a k, 9 ≤ a → a ≤ 20 → A' a k = A a k) : p_tc A' = p_tc A := by
  have eF : ∀ f, f < (A 6 0).toNat → p_Fs A' f = p_Fs A f := fun f hf => p_Fs_cg (fun a a1 a2 => by funext k; exact e a k a1 a2) (by omega)
  unfold p_tc p_tN p_tD
  rw [e6, e7 0, e7 1, p_acc_cg _ eF]
section P12
variable {l : Launch} {E : xE} {Q : Option xV → xM → Prop} {A M : xM}
theorem k_ct (hA : p_WF A) (hC : p_CI A M) (h : ∀ M1, p_CI A M1 → p_cfr M M1 → (∀ a k, ¬ p_cs a k ∨ a = 86 → M1 a k = M a k) → Q (some (0, p_tc A)) M1) : x_Ev l E (5, 0, 0) m_X3_cutTotal 0 [(13, 40)] [] M Q := by
  have w0 := hA.1.1
  have hpq := (p_W_tm hA).1
  refine u_X3_cutTotal_0 ?_
  rw [hC.1 7 0 (by omega) (by omega), hC.1 7 1 (by omega) (by omega)]
  refine k_tot hA hC hpq (Or.inl rfl) ⟨by unfold p_cs; omega, by unfold p_cs; omega⟩ (fun k => by unfold p_cs; omega) (fun M1 c1 c2 c3 c4 => ⟨rfl, ?_⟩)
  have bd := p_tot_bd p_ten_ok p_one_ok (Fs := p_Fs A) (m := (A 6 0).toNat) (by omega) (fun f hf => hA.1.2.2.2.2.2.2.2 f (by omega)) hpq (how := 0) (Or.inl rfl)
  refine u_X2_cut_0 48 ⟨fun c => by rw [c3] at c; omega, fun c => ⟨by rw [c3]; omega, _, rfl, ?_⟩⟩
  rw [c2, c3]
  refine h M1 c1 (p_cfr_sc (fun a k q => c4 a k (fun e => q (by unfold p_cs; omega)) (p_cs_st q) (fun e => q (by unfold p_cs; omega)))) (fun a k q => ?_)
  rcases q with q | q
  · exact c4 a k (fun e => q (by unfold p_cs; omega)) (p_cs_st q) (fun e => q (by unfold p_cs; omega))
  · exact c4 a k (by omega) (by unfold p_stc; omega) (by omega)
theorem r_ct (hA : p_WF A) (hR : p_RI A M) (h : ∀ M1, p_RI A M1 → p_rfr M M1 → Q (some (0, p_tc A)) M1) : x_Ev l E (11, 0, 0) m_X11_totalCut 0 [(21, 103)] [] M Q := by
  have w0 := hA.1.1
  have hpq := (p_W_tm hA).1
  refine u_X11_totalCut_0 (r_plans hA hR (fun M1 w2 fr => ⟨rfl, ?_⟩))
  have hR1 := p_RI_sc hA hR fr
  rw [hR1.1.2.2.1, hR1.1.2.2.2.1]
  have bd := p_tot_bd p_ten_ok p_one_ok (Fs := p_Fs A) (m := (A 6 0).toNat) (by omega) (fun f hf => hA.1.2.2.2.2.2.2.2 f (by omega)) hpq (how := 0) (Or.inl rfl)
  refine c_totals p_ten_ok p_one_ok w2 hpq (Or.inl rfl) (fun M2 s1 s2 s3 => ⟨rfl, ?_⟩)
  have fr2 : ∀ a k, ¬ p_rsc a k → M2 a k = M a k := fun a k q => by rw [s3 a k (fun e => q (by unfold p_rsc; omega))]; exact fr a k q
  have e1 : M2 103 15 = p_tN (p_Fs A) (A 6 0).toNat (A 7 0) (A 7 1) 0 := s1
  have e2 : M2 103 16 = p_tD (p_Fs A) (A 6 0).toNat (A 7 0) (A 7 1) 0 := s2
  rw [e1, e2]
  exact ⟨by omega, h M2 (p_RI_sc hA hR fr2) (p_rfr_sc fr2)⟩
noncomputable def o_round (A : xM) : Int × xM := p_if (A 6 2 < 9999) (p_if (p_so (A 6 4) (p_tc A)) (p_err A 7) (p_tc A, x_wr (x_wr A 6 4 (x_W (A 6 4 + p_tc A))) 6 2 (A 6 2 + 1))) (p_err A 4)
theorem k_ent (hA : p_WF A) (hC : p_CI A M) (h2 : A 6 2 < 9999) {v : Int} (h1 : ¬ p_so (A 6 4) v → ∀ M1, p_WF (x_wr (x_wr A 6 4 (x_W (A 6 4 + v))) 6 2 (A 6 2 + 1)) → p_CI (x_wr (x_wr A 6 4 (x_W (A 6 4 + v))) 6 2 (A 6 2 + 1)) M1 → p_cfr M M1 → (∀ a k, a ≠ 6 → M1 a k = M a k) → Q (some (0, 1)) M1) (h0 : p_so (A 6 4) v → Q (some (0, 0)) M) : x_Ev l E (2, 0, 0) m_X9_enter 0 [(19, 6), (0, v)] [] M Q := by
  refine u_X9_enter_0 v ?_
  have w2 := hA.1.2.2.1
  have e4 := hC.1 6 4 (by omega) (by omega)
  rw [e4]
  refine k_so (fun c => x_n1 (by omega) (h0 c)) (fun c => x_n0 ?_)
  rw [e4]
  intro M1 hM1 M2 hM2
  have wA := wf_6 hA (k := 4) (v := x_W (A 6 4 + v)) (by omega) (fun e => by omega) (fun e => by omega) (fun _ => x_W_rg _)
  have e2 : M1 6 2 = A 6 2 := by rw [hM1, x_wr_ne _ _ (by omega)]; exact hC.1 6 2 (by omega) (by omega)
  rw [e2, x_w_id (by omega) (by omega)] at hM2
  have c1 : p_CI (x_wr A 6 4 (x_W (A 6 4 + v))) M1 := by rw [hM1]; exact p_CI_w hA hC (by omega)
  have wB := wf_6 wA (k := 2) (v := A 6 2 + 1) (by omega) (fun _ => by omega) (fun e => by omega) (fun e => by omega)
  refine h1 c M2 wB (by rw [hM2]; exact p_CI_w wA c1 (by omega)) ?_ (fun a k q => by rw [hM2, x_wr_ne _ _ (by omega), hM1, x_wr_ne _ _ (by omega)])
  rw [hM2, hM1]
  exact p_cfr_tr (p_cfr_w (by omega)) (p_cfr_w (by omega))
theorem k_round (hA : p_WF A) (hC : p_CI A M) (h : ∀ M1, p_CI (o_round A).2 M1 → p_cfr M M1 → Q (some (0, (o_round A).1)) M1) : x_Ev l E (6, 0, 0) m_X10_round 0 [(20, 5), (5, 0)] [] M Q := by
  unfold o_round at h
  have e2 := hC.1 6 2 (by omega) (by omega)
  refine u_X10_round_0 ?_
  rw [e2]
  refine ⟨fun c => ?_, fun c => ?_⟩
  · rw [p_if_t c] at h
    refine k_ct hA hC (fun M1 c1 c2 _ => ⟨_, rfl, ?_⟩)
    refine k_ent hA c1 c (fun d M2 _ d1 d2 _ => x_n1 (by omega) ?_) (fun d => x_n0 ?_)
    · rw [p_if_f d] at h
      exact h M2 d1 (p_cfr_tr c2 d2)
    · rw [p_if_t d] at h
      exact k_tl hA c1 (by omega) (fun M2 a b => ⟨_, rfl, h M2 a (p_cfr_tr c2 b)⟩)
  · rw [p_if_f c] at h
    exact k_tl hA hC (by omega) (fun M1 a b => ⟨_, rfl, h M1 a b⟩)
theorem r_round (hA : p_WF A) (hR : p_RI A M) (h : ∀ M1, p_RI (o_round A).2 M1 → p_rfr M M1 → Q (some (0, (o_round A).1)) M1) : x_Ev l E (12, 0, 0) m_X11_round 0 [(21, 103), (5, 0)] [] M Q := by
  unfold o_round at h
  have w2 := hA.1.2.2.1
  refine u_X11_round_0 ?_
  rw [hR.1.2.2.2.2.2.1]
  refine ⟨fun c => ?_, fun c => ?_⟩
  · rw [p_if_t (by omega)] at h
    refine r_ct hA hR (fun M1 c1 c2 => ⟨_, rfl, ?_⟩)
    have e11 := c1.1.2.2.2.2.1
    rw [e11]
    refine r_so (fun d => x_n1 (by omega) ?_) (fun d => x_n0 ?_)
    · rw [p_if_t d] at h
      exact r_tl hA c1 (by omega) (fun M2 a b => ⟨_, rfl, h M2 a (p_rfr_tr c2 b)⟩)
    · rw [p_if_f d] at h
      rw [e11]
      intro M2 hM2 M3 hM3
      have e12 : M2 103 12 = A 6 2 := by rw [hM2, x_wr_ne _ _ (by omega)]; exact c1.1.2.2.2.2.2.1
      rw [e12, x_w_id (by omega) (by omega)] at hM3
      have wA := wf_6 hA (k := 4) (v := x_W (A 6 4 + p_tc A)) (by omega) (fun e => by omega) (fun e => by omega) (fun _ => x_W_rg _)
      rw [hM3, hM2]
      exact h _ (p_RI_w wA (p_RI_w hA c1 (by omega)) (by omega)) (p_rfr_tr c2 (p_rfr_tr (p_rfr_w (by omega)) (p_rfr_w (by omega))))
  · rw [p_if_f (by omega)] at h
    exact r_tl hA hR (by omega) (fun M1 a b => ⟨_, rfl, h M1 a b⟩)
theorem wf_round (hA : p_WF A) : p_WF (o_round A).2 := by
  unfold o_round
  have w2 := hA.1.2.2.1
  by_cases c : A 6 2 < 9999
  · rw [p_if_t c]
    by_cases d : p_so (A 6 4) (p_tc A)
    · rw [p_if_t d]; exact wf_tl hA 7
    · rw [p_if_f d]
      exact wf_6 (wf_6 hA (k := 4) (v := x_W (A 6 4 + p_tc A)) (by omega) (fun e => by omega) (fun e => by omega) (fun _ => x_W_rg _)) (by omega) (fun _ => by omega) (fun e => by omega) (fun e => by omega)
  · rw [p_if_f c]; exact wf_tl hA 4
/-- what a draw makes -/
noncomputable def p_dz (A : xM) : Int := x_w (x_w (A 6 3 * 1103515245) + 12345)
noncomputable def p_dt (A : xM) : Int := (x_iushr (p_dz A) 8).tmod (A 6 1 + 1)
noncomputable def p_lz (A : xM) : xM := x_wr (x_wr (x_wr A 6 3 (p_dz A)) 7 0 (p_dt A)) 7 1 1
noncomputable def p_le (A : xM) : xM := x_wr (p_lz A) 6 4 (x_W (A 6 4 + p_tc (p_lz A)))
noncomputable def p_lk (A : xM) : Nat → xM
  | 0 => A
  | k + 1 => p_le (p_lk A k)
theorem p_dt_rg (hA : p_WF A) : 0 ≤ p_dt A ∧ p_dt A ≤ A 6 1 := by
  have w1 := (p_W_tm hA).2.1
  have u := x_ushr_nn (p_dz A)
  unfold p_dt
  rw [x_tm0 u.1]
  have a := Int.emod_nonneg (x_iushr (p_dz A) 8) (show A 6 1 + 1 ≠ 0 by omega)
  have b := Int.emod_lt_of_pos (x_iushr (p_dz A) 8) (show 0 < A 6 1 + 1 by omega)
  omega
theorem p_dz_rg (A : xM) : -2147483648 ≤ p_dz A ∧ p_dz A < 2147483648 := x_w_rg _
theorem wf_lz (hA : p_WF A) : p_WF (p_lz A) := by
  have dt := p_dt_rg hA
  refine wf_7 (wf_6 hA (k := 3) (v := p_dz A) (by omega) (fun e => by omega) (fun _ => p_dz_rg A) (fun e => by omega)) ?_ (by omega)
  rw [x_wr_ne _ _ (by omega)]
  omega
theorem wf_le (hA : p_WF A) : p_WF (p_le A) := wf_6 (wf_lz hA) (by omega) (fun e => by omega) (fun e => by omega) (fun _ => x_W_rg _)
theorem wf_lk (hA : p_WF A) : ∀ k : Nat, p_WF (p_lk A k) := by
  intro k
  induction k with
  | zero => exact hA
  | succ k ih => exact wf_le ih
theorem p_lz_ne {a k : Int} (h : a ≠ 7) (h' : ¬ (a = 6 ∧ k = 3)) : p_lz A a k = A a k := by
  unfold p_lz
  rw [x_wr_ne _ _ (by omega), x_wr_ne _ _ (by omega), x_wr_ne _ _ (by omega)]
theorem p_le_ne {a k : Int} (h : a ≠ 7) (h' : ¬ (a = 6 ∧ (k = 3 ∨ k = 4))) : p_le A a k = A a k := by
  unfold p_le
  rw [x_wr_ne _ _ (by omega), p_lz_ne h (by omega)]
theorem p_lk_ne {a k : Int} (h : a ≠ 7) (h' : ¬ (a = 6 ∧ (k = 3 ∨ k = 4))) : ∀ n : Nat, p_lk A n a k = A a k := by
  intro n
  induction n with
  | zero => rfl
  | succ n ih => show p_le (p_lk A n) a k = A a k; rw [p_le_ne h h']; exact ih
noncomputable def p_lov (A : xM) (k : Nat) : Prop := p_so (p_lk A k 6 4) (p_tc (p_lz (p_lk A k)))
noncomputable def o_loose (A : xM) (n : Int) : Int × xM := p_if (1 ≤ n ∧ n ≤ 20) (p_if (A 6 2 + n ≤ 9999) (p_if (∃ k : Nat, (k : Int) < n ∧ p_lov A k) (p_err A 7) (p_tc (p_lz (p_lk A (n - 1).toNat)), x_wr (p_lk A n.toNat) 6 2 (A 6 2 + n))) (p_err A 4)) (p_err A 0)
theorem p_nu1 (t : Int) : p_nu t 1 = t ∧ p_de t 1 = 1 := p_red1 (by omega) (Int.gcd_one_right t)
theorem wf_loose (hA : p_WF A) (n : Int) : p_WF (o_loose A n).2 := by
  unfold o_loose
  have w2 := hA.1.2.2.1
  by_cases c : 1 ≤ n ∧ n ≤ 20
  · rw [p_if_t c]
    by_cases d : A 6 2 + n ≤ 9999
    · rw [p_if_t d]
      by_cases e : ∃ k : Nat, (k : Int) < n ∧ p_lov A k
      · rw [p_if_t e]; exact wf_tl hA 7
      · rw [p_if_f e]
        exact wf_6 (wf_lk hA _) (by omega) (fun _ => by omega) (fun e => by omega) (fun e => by omega)
    · rw [p_if_f d]; exact wf_tl hA 4
  · rw [p_if_f c]; exact wf_tl hA 0
theorem k_draw (hA : p_WF A) (hC : p_CI A M) (h : ∀ M1, p_CI (p_lz A) M1 → p_cfr M M1 → (∀ a k, a ≠ 6 → a ≠ 7 → M1 a k = M a k) → Q none M1) : x_Ev l E (3, 0, 0) m_X9_drawTerm 0 [(19, 6)] [] M Q := by
  have w1 := (p_W_tm hA).2.1
  have dt := p_dt_rg hA
  refine u_X9_drawTerm_0 ?_
  rw [hC.1 6 3 (by omega) (by omega)]
  intro M1 hM1
  have hM1' : M1 = x_wr M 6 3 (p_dz A) := hM1
  have wA := wf_6 hA (k := 3) (v := p_dz A) (by omega) (fun e => by omega) (fun _ => p_dz_rg A) (fun e => by omega)
  have c1 : p_CI (x_wr A 6 3 (p_dz A)) M1 := by rw [hM1']; exact p_CI_w hA hC (by omega)
  have e61 : M1 6 1 = A 6 1 := by rw [c1.1 6 1 (by omega) (by omega), x_wr_ne _ _ (by omega)]
  have e63 : M1 6 3 = p_dz A := by rw [hM1', x_wr_eq]
  rw [e61, e63, x_w_id (by omega) (by omega)]
  refine ⟨fun c => by omega, fun c => ⟨by omega, ?_⟩⟩
  have et : (x_iushr (p_dz A) 8).tmod (A 6 1 + 1) = p_dt A := rfl
  rw [et]
  refine c_putX (by omega) (by omega) ⟨rfl, ?_⟩
  rw [(p_nu1 (p_dt A)).1, (p_nu1 (p_dt A)).2]
  refine h _ (p_CI_7 wA c1 (fun a k q _ => p_w7_ne q) (fun k => rfl)) ?_ (fun a k q1 q2 => by rw [p_w7_ne q2, hM1', x_wr_ne _ _ (by omega)])
  exact fun a k q1 q2 => by rw [p_w7_ne (by omega), hM1', x_wr_ne _ _ (by omega)]
theorem k_loose (hA : p_WF A) (hC : p_CI A M) {n : Int} (h : ∀ M1, p_CI (o_loose A n).2 M1 → p_cfr M M1 → Q (some (0, (o_loose A n).1)) M1) : x_Ev l E (6, 0, 0) m_X10_loose 0 [(20, 5), (0, n), (5, 0), (5, 0), (5, 0), (5, 0), (5, 0), (5, 0)] [] M Q := by
  unfold o_loose at h
  have w0 := hA.1.1
  have w2 := hA.1.2.2.1
  have bad : ¬ (1 ≤ n ∧ n ≤ 20) → x_Ev l E (1, 0, 0) m_X10_tell 0 [(20, 5), (0, 0)] [] M (fun r M3 => ∃ z, r = some (0, z) ∧ Q (some (0, z)) M3) := fun c => by
    rw [p_if_f c] at h
    exact k_tl hA hC (by omega) (fun M1 a b => ⟨_, rfl, h M1 a b⟩)
  refine u_X10_loose_0 n ⟨fun c => bad (by omega), fun c => ⟨fun d => ?_, fun d => bad (by omega)⟩⟩
  rw [p_if_t (by omega)] at h
  rw [hC.1 6 2 (by omega) (by omega), x_w_id (by omega) (by omega)]
  refine ⟨fun e => ?_, fun e => ?_⟩
  · rw [p_if_t e] at h
    refine c_take (by omega) (fun M3 t1 t2 t3 => ⟨rfl, ?_⟩)
    have fr3 : ∀ a k, a ≠ 86 → M3 a k = M a k := fun a k q => by rw [t3 a q]
    have c3 : p_CI A M3 := p_CI_sc hC (fun a k q => fr3 a k (fun e => q (by unfold p_cs; omega)))
    have f3 : p_cfr M M3 := fun a k q1 q2 => fr3 a k (by omega)
    rw [hC.1 7 0 (by omega) (by omega)] at t1
    rw [hC.1 7 1 (by omega) (by omega)] at t2
    rw [c3.1 6 4 (by omega) (by omega), c3.1 6 2 (by omega) (by omega), c3.1 6 3 (by omega) (by omega)]
    intro v4 hv4 v5 hv5 v6 hv6
    rw [hv4, hv5, hv6]
    have main : ∀ (m k : Nat) (v : Int) (M' : xM), n - k ≤ m → (k : Int) ≤ n → (1 ≤ k → v = p_tc (p_lz (p_lk A (k - 1)))) → p_CI (x_wr (p_lk A k) 6 2 (A 6 2 + k)) M' → p_cfr M M' → M' 86 0 = A 7 0 → M' 86 1 = A 7 1 → (∀ j : Nat, j < k → ¬ p_lov A j) → x_Ev l E (6, 0, 0) m_X10_loose 84 [(20, 5), (0, n), (1, A 6 4), (5, 0), (0, A 6 2), (0, A 6 3), (0, v), (0, (k : Int))] [] M' Q := by
      intro m
      induction m with
      | zero =>
        intro k v M' hm hk hv cI cf g0 g1 hno
        have ek : (k : Int) = n := by omega
        refine u_X10_loose_84 n _ _ _ v k ⟨fun _ => ?_, fun z => by omega⟩
        rw [p_if_f (fun ⟨j, j1, j2⟩ => hno j (by omega) j2)] at h
        have e1 : n.toNat = k := by omega
        have e2 : (n - 1).toNat = k - 1 := by omega
        rw [e1, e2, ← ek, ← hv (by omega)] at h
        exact h M' cI cf
      | succ m ih =>
        intro k v M' hm hk hv cI cf g0 g1 hno
        by_cases ek : (k : Int) = n
        · exact ih k v M' (by omega) hk hv cI cf g0 g1 hno
        have wk := wf_lk hA k
        have wk2 : p_WF (x_wr (p_lk A k) 6 2 (A 6 2 + k)) := wf_6 wk (by omega) (fun _ => by omega) (fun e => by omega) (fun e => by omega)
        refine u_X10_loose_84 n _ _ _ v k ⟨fun z => by omega, fun z => ?_⟩
        refine k_draw wk2 cI (fun M1 d1 d2 d3 => ⟨rfl, ?_⟩)
        have wl := wf_lz wk2
        -- the draw does not look at ROUND
        have cm : p_lz (x_wr (p_lk A k) 6 2 (A 6 2 + k)) = x_wr (p_lz (p_lk A k)) 6 2 (A 6 2 + k) := by
          have z1 : p_dz (x_wr (p_lk A k) 6 2 (A 6 2 + k)) = p_dz (p_lk A k) := by unfold p_dz; rw [x_wr_ne _ _ (by omega)]
          have z2 : p_dt (x_wr (p_lk A k) 6 2 (A 6 2 + k)) = p_dt (p_lk A k) := by unfold p_dt; rw [z1, x_wr_ne _ _ (by omega)]
          unfold p_lz
          rw [z1, z2]
          funext a j
          by_cases q : a = 6 ∧ j = 2
          · rw [q.1, q.2, x_wr_eq, x_wr_ne _ _ (by omega), x_wr_ne _ _ (by omega), x_wr_ne _ _ (by omega), x_wr_eq]
          · rw [x_wr_ne (a := 6) (k := 2) _ _ q]
            refine x_wr_sm (x_wr_sm (x_wr_sm ?_))
            rw [x_wr_ne _ _ q]
        have tc : p_tc (p_lz (x_wr (p_lk A k) 6 2 (A 6 2 + k))) = p_tc (p_lz (p_lk A k)) := by
          rw [cm]
          have := (wf_lz wk).1.1
          exact p_tc_cg (by omega) (x_wr_ne _ _ (by omega)) (fun j => x_wr_ne _ _ (by omega)) (fun a j q1 q2 => x_wr_ne _ _ (by omega))
        have e4 : p_lz (x_wr (p_lk A k) 6 2 (A 6 2 + k)) 6 4 = p_lk A k 6 4 := by rw [p_lz_ne (by omega) (by omega), x_wr_ne _ _ (by omega)]
        have e62 : p_lz (x_wr (p_lk A k) 6 2 (A 6 2 + k)) 6 2 = A 6 2 + k := by rw [p_lz_ne (by omega) (by omega), x_wr_eq]
        refine k_ct wl d1 (fun M2 y1 y2 y3 => ⟨_, rfl, ?_⟩)
        rw [tc]
        have q86 : ∀ j, M2 86 j = M' 86 j := fun j => by rw [y3 86 j (Or.inr rfl), d3 86 j (by omega) (by omega)]
        have cf2 : p_cfr M M2 := p_cfr_tr cf (p_cfr_tr d2 y2)
        refine k_ent wl y1 (by rw [e62]; omega) (fun g M4 _ x1 x2 x3 => x_y1 (by omega) ?_) (fun g => x_y0 ?_)
        · intro v6 hv6
          rw [x_w_id (by omega) (by omega)] at hv6
          rw [hv6]
          refine ih (k + 1) _ M4 (by omega) (by omega) (fun _ => rfl) ?_ (p_cfr_tr cf2 x2) (by rw [x3 86 0 (by omega), q86]; exact g0) (by rw [x3 86 1 (by omega), q86]; exact g1) (fun j hj => ?_)
          · rw [e4, e62, cm] at x1
            have eq : x_wr (x_wr (x_wr (p_lz (p_lk A k)) 6 2 (A 6 2 + k)) 6 4 (x_W (p_lk A k 6 4 + p_tc (p_lz (p_lk A k))))) 6 2 (A 6 2 + k + 1) = x_wr (p_lk A (k + 1)) 6 2 (A 6 2 + ((k + 1 : Nat) : Int)) := by
              have ex : A 6 2 + ((k + 1 : Nat) : Int) = A 6 2 + k + 1 := by omega
              rw [ex]
              funext a j
              by_cases q : a = 6 ∧ j = 2
              · rw [q.1, q.2, x_wr_eq, x_wr_eq]
              · rw [x_wr_ne (a := 6) (k := 2) _ _ q, x_wr_ne (a := 6) (k := 2) _ _ q]
                show _ = x_wr (p_lz (p_lk A k)) 6 4 (x_W (p_lk A k 6 4 + p_tc (p_lz (p_lk A k)))) a j
                refine x_wr_sm ?_
                rw [x_wr_ne (a := 6) (k := 2) _ _ q]
            rw [eq] at x1
            exact x1
          · by_cases ej : j = k
            · rw [e4] at g
              rw [ej]; exact g
            · exact hno j (by omega)
        · rw [e4] at g
          rw [p_if_t (c := ∃ k : Nat, (k : Int) < n ∧ p_lov A k) ⟨k, by omega, g⟩] at h
          refine c_takeX (by omega) ⟨rfl, ?_⟩
          rw [q86, q86, g0, g1]
          intro M8 h8 M9 h9 M10 h10
          have f10 : ∀ a j, ¬ (a = 6 ∧ 1 ≤ j ∧ j ≤ 4) → a ≠ 7 → M10 a j = M2 a j := fun a j q1 q2 => by rw [h10, x_wr_ne _ _ (by omega), h9, x_wr_ne _ _ (by omega), h8, x_wr_ne _ _ (by omega), p_w7_ne q2]
          have cI10 : p_CI A M10 := by
            refine p_CI_6 wl y1 (fun a j q1 q2 => ?_) (fun a j q1 q2 _ => f10 a j q1 q2) (fun j j1 j2 => ?_) (fun j => ?_)
            · rw [p_lz_ne q2 (by omega), x_wr_ne _ _ (by omega), p_lk_ne q2 (by omega)]
            · have : j = 1 ∨ j = 2 ∨ j = 3 ∨ j = 4 := by omega
              rcases this with e | e | e | e
              · rw [e, h10, x_wr_ne _ _ (by omega), h9, x_wr_ne _ _ (by omega), h8, x_wr_ne _ _ (by omega), p_w7_ne (by omega), y1.1 6 1 (by omega) (by omega), p_lz_ne (by omega) (by omega), x_wr_ne _ _ (by omega), p_lk_ne (by omega) (by omega)]
              · rw [e, h10, x_wr_ne _ _ (by omega), h9, x_wr_eq]
              · rw [e, h10, x_wr_eq]
              · rw [e, h10, x_wr_ne _ _ (by omega), h9, x_wr_ne _ _ (by omega), h8, x_wr_eq]
            · rw [h10, x_wr_ne _ _ (by omega), h9, x_wr_ne _ _ (by omega), h8, x_wr_ne _ _ (by omega)]
              by_cases j0 : j = 0
              · rw [j0, p_w7_0]
              · by_cases j1 : j = 1
                · rw [j1, x_wr_eq]
                · rw [x_wr_ne _ _ (by omega), x_wr_ne _ _ (by omega), y1.1 7 j (by omega) (by omega)]
                  have keep : ∀ t : Nat, p_lk A t 7 j = A 7 j := by
                    intro t
                    induction t with
                    | zero => rfl
                    | succ t it =>
                      show p_le (p_lk A t) 7 j = A 7 j
                      unfold p_le p_lz
                      rw [x_wr_ne _ _ (by omega), x_wr_ne _ _ (by omega), x_wr_ne _ _ (by omega), x_wr_ne _ _ (by omega)]
                      exact it
                  unfold p_lz
                  rw [x_wr_ne _ _ (by omega), x_wr_ne _ _ (by omega), x_wr_ne _ _ (by omega), x_wr_ne _ _ (by omega)]
                  exact keep k
          have cf10 : p_cfr M M10 := p_cfr_tr cf2 (fun a j q1 q2 => f10 a j (by omega) (by omega))
          exact k_tl hA cI10 (by omega) (fun M11 a b => ⟨_, rfl, h M11 a (p_cfr_tr cf10 b)⟩)
    refine main n.toNat 0 0 M3 (by omega) (by omega) (fun z => by omega) ?_ f3 t1 t2 (fun j hj => by omega)
    have e0 : x_wr (p_lk A 0) 6 2 (A 6 2 + ((0 : Nat) : Int)) = A := by
      show x_wr A 6 2 (A 6 2 + ((0 : Nat) : Int)) = A
      rw [show A 6 2 + ((0 : Nat) : Int) = A 6 2 by omega]
      exact x_wr_id A 6 2
    rw [e0]; exact c3
  · rw [p_if_f e] at h
    exact k_tl hA hC (by omega) (fun M1 a b => ⟨_, rfl, h M1 a b⟩)
theorem r_loose (hA : p_WF A) (hR : p_RI A M) {n : Int} (h : ∀ M1, p_RI (o_loose A n).2 M1 → p_rfr M M1 → Q (some (0, (o_loose A n).1)) M1) : x_Ev l E (12, 0, 0) m_X11_loose 0 [(21, 103), (0, n), (5, 0), (5, 0), (5, 0), (5, 0), (5, 0), (5, 0), (5, 0), (5, 0), (5, 0)] [] M Q := by
  unfold o_loose at h
  have w0 := hA.1.1
  have w1 := (p_W_tm hA).2.1
  have w2 := hA.1.2.2.1
  refine u_X11_loose_0 n (r_in (fun c => x_y1 (by omega) ?_) (fun c => x_y0 ?_))
  · rw [p_if_t c] at h
    obtain ⟨a0, a1, a2, a3, a4, a5, a6⟩ := hR.1
    rw [a5, x_w_id (by omega) (by omega), a2, a3, a4, a6]
    refine ⟨fun e => ?_, fun e => ?_⟩
    · rw [p_if_t e] at h
      intro v3 hv3 v4 hv4 v5 hv5 v6 hv6
      rw [hv3, hv4, hv5, hv6]
      have main : ∀ (m k : Nat) (v : Int) (M' : xM), n - k ≤ m → (k : Int) ≤ n → (1 ≤ k → v = p_tc (p_lz (p_lk A (k - 1)))) → p_RI (p_lk A k) M' → p_rfr M M' → (∀ j : Nat, j < k → ¬ p_lov A j) → x_Ev l E (12, 0, 0) m_X11_loose 65 [(21, 103), (0, n), (1, A 7 0), (5, 0), (1, A 7 1), (5, 0), (1, A 6 4), (5, 0), (0, A 6 3), (0, v), (0, (k : Int))] [] M' Q := by
        intro m
        induction m with
        | zero =>
          intro k v M' hm hk hv rI rf hno
          have ek : (k : Int) = n := by omega
          refine u_X11_loose_65 n _ _ _ _ v k ⟨fun _ => ?_, fun z => by omega⟩
          rw [p_if_f (fun ⟨j, j1, j2⟩ => hno j (by omega) j2)] at h
          have e1 : n.toNat = k := by omega
          have e2 : (n - 1).toNat = k - 1 := by omega
          rw [e1, e2, ← hv (by omega)] at h
          intro M1 hM1
          rw [rI.1.2.2.2.2.2.1, p_lk_ne (by omega) (by omega), x_w_id (by omega) (by omega)] at hM1
          rw [hM1]
          exact h _ (p_RI_w (wf_lk hA k) rI (by omega)) (p_rfr_tr rf (p_rfr_w (by omega)))
        | succ m ih =>
          intro k v M' hm hk hv rI rf hno
          by_cases ek : (k : Int) = n
          · exact ih k v M' (by omega) hk hv rI rf hno
          have wk := wf_lk hA k
          have wl := wf_lz wk
          refine u_X11_loose_65 n _ _ _ _ v k ⟨fun z => by omega, fun z => ?_⟩
          intro M2 hM2
          have hM2' : M2 = x_wr M' 103 13 (p_dz (p_lk A k)) := by rw [hM2, rI.1.2.2.2.2.2.2]; rfl
          have e8 : M2 103 8 = A 6 1 := by rw [hM2', x_wr_ne _ _ (by omega), rI.1.2.1, p_lk_ne (by omega) (by omega)]
          have e13 : M2 103 13 = p_dz (p_lk A k) := by rw [hM2', x_wr_eq]
          rw [e8, e13, x_w_id (by omega) (by omega)]
          refine ⟨by omega, ?_⟩
          intro M3 hM3 M4 hM4
          have hM3' : M3 = x_wr M2 103 9 (p_dt (p_lk A k)) := by
            rw [hM3]
            unfold p_dt
            rw [p_lk_ne (by omega) (by omega)]
          have f4 : ∀ a j, ¬ (a = 103 ∧ (j = 9 ∨ j = 10 ∨ j = 13)) → M4 a j = M' a j := fun a j q => by rw [hM4, x_wr_ne _ _ (by omega), hM3', x_wr_ne _ _ (by omega), hM2', x_wr_ne _ _ (by omega)]
          have nr : ∀ j : Int, j < 15 → ¬ p_rsc 103 j := fun j w => by unfold p_rsc; omega
          have r4 : p_RI (p_lz (p_lk A k)) M4 := by
            obtain ⟨b0, b1, b2, b3, b4, b5, b6⟩ := rI.1
            refine p_RI_6 wk rI (fun a j q1 q2 => p_lz_ne q2 (by omega)) (fun a j q1 q2 => f4 a j (by omega)) ⟨?_, ?_, ?_, ?_, ?_, ?_⟩
            · rw [f4 _ _ (by omega), b1, p_lz_ne (by omega) (by omega)]
            · rw [hM4, x_wr_ne _ _ (by omega), hM3', x_wr_eq]
              unfold p_lz
              rw [p_w7_0]
            · rw [hM4, x_wr_eq]
              unfold p_lz
              rw [x_wr_eq]
            · rw [f4 _ _ (by omega), b4, p_lz_ne (by omega) (by omega)]
            · rw [f4 _ _ (by omega), b5, p_lz_ne (by omega) (by omega)]
            · rw [hM4, x_wr_ne _ _ (by omega), hM3', x_wr_ne _ _ (by omega), hM2', x_wr_eq]
              unfold p_lz
              rw [p_w7_ne (by omega), x_wr_eq]
          have rf4 : p_rfr M M4 := p_rfr_tr rf (p_rfr_o (fun a j q => f4 a j (by omega)))
          refine r_ct wl r4 (fun M5 y1 y2 => ⟨_, rfl, ?_⟩)
          have rf5 := p_rfr_tr rf4 y2
          have e11 : M5 103 11 = p_lk A k 6 4 := by rw [y1.1.2.2.2.2.1, p_lz_ne (by omega) (by omega)]
          rw [e11]
          refine r_so (fun g => x_n1 (by omega) ?_) (fun g => x_n0 ?_)
          · rw [p_if_t (c := ∃ k : Nat, (k : Int) < n ∧ p_lov A k) ⟨k, by omega, g⟩] at h
            intro M11 h11 M12 h12 M13 h13 M14 h14
            have f14 : ∀ a j, ¬ (a = 103 ∧ (j = 9 ∨ j = 10 ∨ j = 11 ∨ j = 13)) → M14 a j = M5 a j := fun a j q => by rw [h14, x_wr_ne _ _ (by omega), h13, x_wr_ne _ _ (by omega), h12, x_wr_ne _ _ (by omega), h11, x_wr_ne _ _ (by omega)]
            have r14 : p_RI A M14 := by
              obtain ⟨b0, b1, b2, b3, b4, b5, b6⟩ := y1.1
              refine p_RI_6 wl y1 (fun a j q1 q2 => ?_) (fun a j q1 q2 => f14 a j (by omega)) ⟨?_, ?_, ?_, ?_, ?_, ?_⟩
              · rw [p_lz_ne q2 (by omega), p_lk_ne q2 (by omega)]
              · rw [f14 _ _ (by omega), b1, p_lz_ne (by omega) (by omega), p_lk_ne (by omega) (by omega)]
              · rw [h14, x_wr_ne _ _ (by omega), h13, x_wr_ne _ _ (by omega), h12, x_wr_ne _ _ (by omega), h11, x_wr_eq]
              · rw [h14, x_wr_ne _ _ (by omega), h13, x_wr_ne _ _ (by omega), h12, x_wr_eq]
              · rw [h14, x_wr_ne _ _ (by omega), h13, x_wr_eq]
              · rw [f14 _ _ (by omega), b5, p_lz_ne (by omega) (by omega), p_lk_ne (by omega) (by omega)]
              · rw [h14, x_wr_eq]
            have rf14 : p_rfr M M14 := p_rfr_tr rf5 (p_rfr_o (fun a j q => f14 a j (by omega)))
            exact r_tl hA r14 (by omega) (fun M15 a b => ⟨_, rfl, h M15 a (p_rfr_tr rf14 b)⟩)
          · rw [e11]
            intro M9 h9 v10 hv10
            rw [x_w_id (by omega) (by omega)] at hv10
            rw [hv10]
            refine ih (k + 1) _ M9 (by omega) (by omega) (fun _ => rfl) ?_ ?_ (fun j hj => ?_)
            · rw [h9]
              exact p_RI_w wl y1 (by omega)
            · rw [h9]
              exact p_rfr_tr rf5 (p_rfr_w (by omega))
            · by_cases ej : j = k
              · rw [ej]; exact g
              · exact hno j (by omega)
      exact main n.toNat 0 0 M (by omega) (by omega) (fun z => by omega) hR (p_rfr_rf M) (fun j hj => by omega)
    · rw [p_if_f e] at h
      exact r_tl hA hR (by omega) (fun M1 a b => ⟨_, rfl, h M1 a b⟩)
  · rw [p_if_f c] at h
    exact r_tl hA hR (by omega) (fun M1 a b => ⟨_, rfl, h M1 a b⟩)
end P12
