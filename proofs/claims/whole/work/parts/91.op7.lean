/-! breaks, breakAt, piece, best, settle -/
theorem x_Ev.tp0 {l : Launch} {E : xE} {z : Nat × Nat × Nat} {y : xMT} {pc : Nat} {ls st : List xV} {M : xM} {Q : Option xV → xM → Prop} (h : 593 ≤ x_tp M → x_Ev l E z y pc ls st M Q) : x_Ev l E z y pc ls st M Q := by
  intro p e R s m args below meth c H locs cells slots lr hM hC hf hl hc hs hN hlo hL hol hos
  exact h hN.1 p e R s m args below meth c H locs cells slots lr hM hC hf hl hc hs hN hlo hL hol hos
noncomputable def p_BT (A : xM) (one most : Int) : Nat × ((Int → Int) × (Int → Int)) := p_bt (p_B (p_Fs A) (A 6 0).toNat one most)
theorem p_btab_bt {n : Nat} {P Q : Int → Int} {B : Int → Int → Prop} (h : p_btab n P Q B) : n = (p_bt B).1 ∧ p_btab (p_bt B).1 (p_bt B).2.1 (p_bt B).2.2 B ∧ (∀ k : Int, 0 ≤ k → k < (p_bt B).1 → P k = (p_bt B).2.1 k ∧ Q k = (p_bt B).2.2 k) := by
  obtain ⟨e1, e2⟩ := p_bt_eq h
  exact ⟨e1, p_bt_ok h, fun k a b => e2 k a (by omega)⟩
theorem p_o1_le {Fs : Nat → xM} {m : Nat} {st : Int → Int} {p q w most : Int} (h : 0 ≤ st 4 → st 2 ≤ most * st 3) (hp : p ≤ most * q) : 0 ≤ p_o1 Fs m st p q w 4 → p_o1 Fs m st p q w 2 ≤ most * p_o1 Fs m st p q w 3 := by
  unfold p_o1
  by_cases c : st 4 < 0 ∨ 0 < p_cmp (p_tN Fs m p q w * st 1) (st 0 * p_tD Fs m p q w)
  · rw [if_pos c]
    intro _
    exact hp
  · rw [if_neg c]; exact h
theorem p_o3_le {Fs : Nat → xM} {m : Nat} {st : Int → Int} {p q most : Int} (h : 0 ≤ st 4 → st 2 ≤ most * st 3) (hp : p ≤ most * q) : 0 ≤ p_o3 Fs m most st p q 4 → p_o3 Fs m most st p q 2 ≤ most * p_o3 Fs m most st p q 3 := by
  unfold p_o3
  have h0 := p_o1_le (Fs := Fs) (m := m) (w := 0) h hp
  have h1 := p_o1_le (Fs := Fs) (m := m) (w := 1) h0 hp
  by_cases c : most * q ≤ p
  · rw [if_pos c]
    by_cases d : p = 0
    · rw [if_pos d]; exact h0
    · rw [if_neg d]; exact h1
  · rw [if_neg c]
    by_cases d : p = 0
    · rw [if_pos d]; exact p_o1_le h0 hp
    · rw [if_neg d]; exact p_o1_le h1 hp
theorem p_pt_le {n : Nat} {P Q : Int → Int} {Fs : Nat → xM} {m : Nat} {one most : Int} (hmost : 1 ≤ most ∧ most ≤ 40) (ht : p_btab n P Q (p_B Fs m one most)) (j : Nat) : p_pt n P most j ≤ most * p_pq n Q j := by
  unfold p_pt p_pq
  by_cases c : j = 0
  · rw [if_pos c, if_pos c]; omega
  · rw [if_neg c, if_neg c]
    by_cases d : j ≤ n
    · rw [if_pos d, if_pos d]
      obtain ⟨f, -, -, b⟩ := (ht.1 ((j : Int) - 1) (by omega) (by omega)).1
      exact Int.le_of_lt b.2.2.1
    · rw [if_neg d, if_neg d]; omega
theorem p_best_le {Fs : Nat → xM} {m : Nat} {most : Int} (hmost : 1 ≤ most ∧ most ≤ 40) {n : Nat} {P Q : Int → Int} (h : p_btab n P Q (p_B Fs m (-1) most)) : 0 ≤ p_best Fs m most 4 → p_best Fs m most 2 ≤ most * p_best Fs m most 3 := by
  rw [← p_best_eq h]
  have main : ∀ j : Nat, 0 ≤ p_sb Fs m most n P Q j 4 → p_sb Fs m most n P Q j 2 ≤ most * p_sb Fs m most n P Q j 3 := by
    intro j
    induction j with
    | zero => intro w; simp [p_sb] at w
    | succ j ih => exact p_o3_le ih (p_pt_le hmost h j)
  exact main _
section O7
variable {l : Launch} {E : xE} {Q' : Option xV → xM → Prop}
theorem c_seekBest2 (H10 : p_ten) (H1 : p_one) {M0 : xM} {Fs : Nat → xM} {m : Nat} (hW : p_CW M0 Fs m) {most : Int} (hmost : 1 ≤ most ∧ most ≤ 40)
    (h : ∀ M1 : xM, p_CW M1 Fs m → p_bv (p_best Fs m most) → 0 ≤ p_best Fs m most 4 → p_bm M1 (p_best Fs m most) → (∃ (n : Nat) (P Q : Int → Int), p_btab n P Q (p_B Fs m (-1) most)) → (∀ a k, ¬ (40 ≤ a ∧ a ≤ 48) → ¬ p_stc a k → M1 a k = M0 a k) → Q' none M1) : x_Ev l E (6, 0, 0) m_X3_seekBest 0 [(13, 40), (0, most), (5, 0)] [] M0 Q' := by
  have hm3 := hW.2.1
  have hFs : ∀ f, f < m → p_wf (Fs f) := fun f hf => (hW.2.2 f hf).1
  refine u_X3_seekBest_0 most (c_gatherBreaks H10 H1 hW (one := -1) hmost (fun Mg n P Q r1 r2 r3 r4 r5 r6 => ⟨rfl, ?_⟩))
  intro M2 hM2
  have fr2 : ∀ a k, ¬ (a = 40 ∧ k = 5) → M2 a k = Mg a k := fun a k w => by rw [hM2, x_wr_ne _ _ w]
  have bv := fun j => p_sb_bv H10 H1 hm3 hFs (P := P) (Q := Q) hmost r4 j
  have hW2 : p_CW M2 Fs m := p_CW_fr r1 (fun a k a1 a2 a3 a4 => fr2 a k (by omega))
  have b0 : p_bm M2 (p_sb Fs m most n P Q 0) := by
    refine ⟨by rw [hM2, x_wr_eq]; simp [p_sb], fun w => ?_⟩
    simp [p_sb] at w
  have pt0 : p_pt n P most 0 = 0 ∧ p_pq n Q 0 = 1 := ⟨rfl, rfl⟩
  have main : ∀ (j i : Nat) (M : xM), n - i ≤ j → i ≤ n → p_CW M Fs m → p_bm M (p_sb Fs m most n P Q (i + 1)) → p_bmem M n P Q → (∀ a k, ¬ (40 ≤ a ∧ a ≤ 48) → ¬ p_stc a k → M a k = M0 a k) → x_Ev l E (6, 0, 0) m_X3_seekBest 20 [(13, 40), (0, most), (0, (i : Int))] [] M Q' := by
    have fin : ∀ (M : xM), p_CW M Fs m → p_bm M (p_sb Fs m most n P Q (n + 1)) → (∀ a k, ¬ (40 ≤ a ∧ a ≤ 48) → ¬ p_stc a k → M a k = M0 a k) → x_Ev l E (5, 0, 0) m_X3_offerTerm 0 [(13, 40), (1, most), (5, 0), (1, 1), (5, 0), (0, most), (5, 0)] [] M (fun r zM1 => r = none ∧ Q' none zM1) := by
      intro M j1 j2 j3
      have e1 : p_pt n P most (n + 1) = most := by unfold p_pt; rw [if_neg (by omega), if_neg (by omega)]
      have e2 : p_pq n Q (n + 1) = 1 := by unfold p_pq; rw [if_neg (by omega), if_neg (by omega)]
      refine c_offerTerm H10 H1 j1 hmost ⟨by omega, by omega, by omega, by omega⟩ (Int.gcd_one_right _) (bv (n + 1)).1 j2 (fun M1 k1 k2 k3 => ⟨rfl, ?_⟩)
      have eb : p_o3 Fs m most (p_sb Fs m most n P Q (n + 1)) most 1 = p_best Fs m most := by
        rw [← p_best_eq r2]
        show _ = p_o3 Fs m most (p_sb Fs m most n P Q (n + 1)) (p_pt n P most (n + 1)) (p_pq n Q (n + 1))
        rw [e1, e2]
      rw [eb] at k2
      have bb := bv (n + 2)
      rw [p_best_eq r2] at bb
      exact h M1 k1 bb.1 (bb.2 (by omega)) k2 ⟨n, P, Q, r2⟩ (fun a k a1 a2 => (k3 a k (by omega) (by omega) a2).trans (j3 a k a1 a2))
    intro j
    induction j with
    | zero =>
      intro i M hj hi j1 j2 j3 j4
      have ei : i = n := by omega
      subst ei
      exact u_X3_seekBest_20 most i ⟨fun _ => fin M j1 j2 j4, fun c => absurd (by rw [j3.1]; omega) c⟩
    | succ j ih =>
      intro i M hj hi j1 j2 j3 j4
      by_cases hin : i = n
      · exact ih i M (by omega) hi j1 j2 j3 j4
      have e1 : p_pt n P most (i + 1) = P i := by
        unfold p_pt
        rw [if_neg (by omega), if_pos (by omega), show (((i + 1 : Nat) : Int) - 1) = i by omega]
      have e2 : p_pq n Q (i + 1) = Q i := by
        unfold p_pq
        rw [if_neg (by omega), if_pos (by omega), show (((i + 1 : Nat) : Int) - 1) = i by omega]
      obtain ⟨m1, m2⟩ := j3.2 i (by omega) (by omega)
      refine u_X3_seekBest_20 most i ⟨fun c => by rw [j3.1] at c; omega, fun c => ⟨by omega, by omega, ?_⟩⟩
      rw [m1, m2]
      refine c_offerTerm H10 H1 j1 hmost (r4 i (by omega) (by omega)) (r2.1 i (by omega) (by omega)).2.2.2 (bv (i + 1)).1 j2 (fun M1 k1 k2 k3 => ⟨rfl, ?_⟩)
      intro v hv
      rw [x_w_id (by omega) (by omega)] at hv
      subst hv
      refine ih (i + 1) M1 (by omega) (by omega) k1 ?_ ?_ (fun a k a1 a2 => (k3 a k (by omega) (by omega) a2).trans (j4 a k a1 a2))
      · show p_bm M1 (p_o3 Fs m most (p_sb Fs m most n P Q (i + 1)) (p_pt n P most (i + 1)) (p_pq n Q (i + 1)))
        rw [e1, e2]; exact k2
      · refine ⟨?_, fun k a b => ?_⟩
        · rw [k3 42 0 (by omega) (by omega) (by unfold p_stc; omega)]; exact j3.1
        · rw [k3 43 k (by omega) (by omega) (by unfold p_stc; omega), k3 44 k (by omega) (by omega) (by unfold p_stc; omega)]; exact j3.2 k a b
  refine c_offerTerm H10 H1 hW2 hmost ⟨by omega, by omega, by omega, by omega⟩ (by decide) (bv 0).1 b0 (fun M1 k1 k2 k3 => ⟨rfl, ?_⟩)
  refine main n 0 M1 (by omega) (by omega) k1 ?_ ?_ (fun a k a1 a2 => ?_)
  · show p_bm M1 (p_o3 Fs m most (p_sb Fs m most n P Q 0) (p_pt n P most 0) (p_pq n Q 0))
    exact k2
  · refine ⟨?_, fun k a b => ?_⟩
    · rw [k3 42 0 (by omega) (by omega) (by unfold p_stc; omega), fr2 42 0 (by omega)]; exact r3.1
    · rw [k3 43 k (by omega) (by omega) (by unfold p_stc; omega), k3 44 k (by omega) (by omega) (by unfold p_stc; omega), fr2 43 k (by omega), fr2 44 k (by omega)]; exact r3.2 k a b
  · rw [k3 a k (by omega) (by omega) a2, fr2 a k (by omega)]; exact r6 a k (by omega) a2
end O7
section O8
variable {l : Launch} {E : xE} {Q : Option xV → xM → Prop} {A M : xM}
theorem k_gb (hA : p_WF A) (hC : p_CI A M) {one most : Int} (hmost : 1 ≤ most ∧ most ≤ 40) (h : ∀ M1 : xM, p_CI A M1 → p_cfr M M1 → p_btab (p_BT A one most).1 (p_BT A one most).2.1 (p_BT A one most).2.2 (p_B (p_Fs A) (A 6 0).toNat one most) → p_bmem M1 (p_BT A one most).1 (p_BT A one most).2.1 (p_BT A one most).2.2 → (∀ k : Int, 0 ≤ k → k < (p_BT A one most).1 → p_tm ((p_BT A one most).2.1 k) ((p_BT A one most).2.2 k)) → (p_BT A one most).1 ≤ 27 → Q none M1) : x_Ev l E (5, 0, 0) m_X3_gatherBreaks 0 [(13, 40), (0, one), (0, most), (5, 0)] [] M Q := by
  refine c_gatherBreaks p_ten_ok p_one_ok hC.2.2.2.2.2.1 hmost (fun M1 n P R r1 r2 r3 r4 r5 r6 => ?_)
  obtain ⟨e1, e2, e3⟩ := p_btab_bt r2
  have fr : ∀ a k, ¬ p_cs a k → M1 a k = M a k := fun a k q => r6 a k (fun e => q (by unfold p_cs; omega)) (p_cs_st q)
  refine h M1 (p_CI_sc hC fr) (p_cfr_sc fr) e2 ⟨?_, fun k a b => ?_⟩ (fun k a b => ?_) ?_
  · rw [r3.1, e1]; rfl
  · obtain ⟨g1, g2⟩ := e3 k a b
    have g := r3.2 k a (by rw [e1]; exact b)
    rw [g1, g2] at g
    exact g
  · obtain ⟨g1, g2⟩ := e3 k a b
    have g := r4 k a (by rw [e1]; exact b)
    rw [g1, g2] at g
    exact g
  · have : (p_BT A one most).1 = n := e1.symm
    omega
theorem r_gb (hA : p_WF A) (hR : p_RI A M) {one : Int} (hone : -1 ≤ one) (h : ∀ M1 : xM, p_RI A M1 → p_rfr M M1 → p_RW M1 (p_Fs A) (A 6 0).toNat → p_btab (p_BT A one (A 6 1)).1 (p_BT A one (A 6 1)).2.1 (p_BT A one (A 6 1)).2.2 (p_B (p_Fs A) (A 6 0).toNat one (A 6 1)) → p_rbmem M1 (p_BT A one (A 6 1)).1 (p_BT A one (A 6 1)).2.1 (p_BT A one (A 6 1)).2.2 → (∀ k : Int, 0 ≤ k → k < (p_BT A one (A 6 1)).1 → p_tm ((p_BT A one (A 6 1)).2.1 k) ((p_BT A one (A 6 1)).2.2 k)) → (p_BT A one (A 6 1)).1 ≤ 135 → Q none M1) : x_Ev l E (10, 0, 0) m_X11_plans_ 0 [(21, 103), (5, 0)] [] M (fun r M1 => r = none ∧ x_Ev l E (6, 0, 0) m_X11_findsBreaks 0 [(21, 103), (0, one), (5, 0)] [] M1 Q) := by
  have w1 := (p_W_tm hA).2.1
  refine r_plans hA hR (fun M1 w2 fr => ⟨rfl, ?_⟩)
  have hR1 := p_RI_sc hA hR fr
  refine c_findsBreaks p_ten_ok p_one_ok w2 hone w1 hR1.1.2.1 (fun M2 n P R r2 r3 r4 r5 r6 => ?_)
  obtain ⟨e1, e2, e3⟩ := p_btab_bt r2
  have fr2 : ∀ a k, ¬ p_rsc a k → M2 a k = M a k := fun a k q => by
    rw [r6 a k (fun e => q (by unfold p_rsc; omega)) (fun e => q (by unfold p_rsc; omega)) (fun e => q (by unfold p_rsc; omega))]
    exact fr a k q
  refine h M2 (p_RI_sc hA hR fr2) (p_rfr_sc fr2) (p_RW_bf w2 r6) e2 ⟨?_, fun k a b => ?_⟩ (fun k a b => ?_) ?_
  · rw [r3.1, e1]; rfl
  · obtain ⟨g1, g2⟩ := e3 k a b
    have g := r3.2 k a (by rw [e1]; exact b)
    rw [g1, g2] at g
    exact g
  · obtain ⟨g1, g2⟩ := e3 k a b
    have g := r4 k a (by rw [e1]; exact b)
    rw [g1, g2] at g
    exact g
  · have : (p_BT A one (A 6 1)).1 = n := e1.symm
    omega
noncomputable def o_breaks (A : xM) (f : Int) : Int × xM := p_if (f = -1 ∨ (0 ≤ f ∧ f < A 6 0)) ((p_BT A f (A 6 1)).1, A) (p_err A 0)
theorem k_breaks (hA : p_WF A) (hC : p_CI A M) {f : Int} (h : ∀ M1, p_CI (o_breaks A f).2 M1 → p_cfr M M1 → Q (some (0, (o_breaks A f).1)) M1) : x_Ev l E (6, 0, 0) m_X10_breaks 0 [(20, 5), (0, f)] [] M Q := by
  unfold o_breaks at h
  have w1 := (p_W_tm hA).2.1
  have go : f = -1 ∨ (0 ≤ f ∧ f < A 6 0) → x_Ev l E (5, 0, 0) m_X3_gatherBreaks 0 [(13, 40), (0, f), (0, (M 6 1)), (5, 0)] [] M (fun r zM1 => r = none ∧ Q (some (0, (zM1 42 0))) zM1) := fun c => by
    rw [p_if_t c] at h
    rw [hC.1 6 1 (by omega) (by omega)]
    refine k_gb hA hC w1 (fun M1 c1 c2 _ c3 _ _ => ⟨rfl, ?_⟩)
    rw [c3.1]; exact h M1 c1 c2
  refine u_X10_breaks_0 f ⟨fun c => go (Or.inl c), fun c => k_NF hC (fun d => x_n1 (by omega) ?_) (fun d => x_n0 (go (Or.inr d)))⟩
  rw [p_if_f (by omega)] at h
  exact k_tl hA hC (by omega) (fun M1 a b => ⟨_, rfl, h M1 a b⟩)
theorem r_breaks (hA : p_WF A) (hR : p_RI A M) {f : Int} (h : ∀ M1, p_RI (o_breaks A f).2 M1 → p_rfr M M1 → Q (some (0, (o_breaks A f).1)) M1) : x_Ev l E (11, 0, 0) m_X11_breaks 0 [(21, 103), (0, f)] [] M Q := by
  unfold o_breaks at h
  have go : f = -1 ∨ (0 ≤ f ∧ f < A 6 0) → x_Ev l E (10, 0, 0) m_X11_plans_ 0 [(21, 103), (5, 0)] [] M (fun r zM1 => r = none ∧ x_Ev l E (6, 0, 0) m_X11_findsBreaks 0 [(21, 103), (0, f), (5, 0)] [] zM1 (fun r zM2 => r = none ∧ Q (some (0, (zM2 103 25))) zM2)) := fun c => by
    rw [p_if_t c] at h
    refine r_gb hA hR (by omega) (fun M1 c1 c2 _ _ c3 _ _ => ⟨rfl, ?_⟩)
    rw [c3.1]; exact h M1 c1 c2
  refine u_X11_breaks_0 f ⟨fun c => go (Or.inl c), fun c => r_F hA hR (fun d => x_y1 (by omega) (go (Or.inr d))) (fun d => x_y0 ?_)⟩
  rw [p_if_f (by omega)] at h
  exact r_tl hA hR (by omega) (fun M1 a b => ⟨_, rfl, h M1 a b⟩)
theorem wf_breaks (hA : p_WF A) (f : Int) : p_WF (o_breaks A f).2 := by
  unfold o_breaks
  by_cases c : f = -1 ∨ (0 ≤ f ∧ f < A 6 0)
  · rw [p_if_t c]; exact hA
  · rw [p_if_f c]; exact wf_tl hA 0
noncomputable def o_breakAt (A : xM) (f k p : Int) : Int × xM := p_if ((f = -1 ∨ (0 ≤ f ∧ f < A 6 0)) ∧ (0 ≤ p ∧ p ≤ 1) ∧ 0 ≤ k ∧ k < (p_BT A f (A 6 1)).1) (if p = 0 then (p_BT A f (A 6 1)).2.1 k else (p_BT A f (A 6 1)).2.2 k, A) (p_erL A 0)
theorem k_breakAt (hA : p_WF A) (hC : p_CI A M) {f k p : Int} (h : ∀ M1, p_CI (o_breakAt A f k p).2 M1 → p_cfr M M1 → Q (some (1, (o_breakAt A f k p).1)) M1) : x_Ev l E (6, 0, 0) m_X10_breakAt 0 [(20, 5), (0, f), (0, k), (0, p)] [] M Q := by
  unfold o_breakAt at h
  have w1 := (p_W_tm hA).2.1
  have bad : ¬ ((f = -1 ∨ (0 ≤ f ∧ f < A 6 0)) ∧ (0 ≤ p ∧ p ≤ 1) ∧ 0 ≤ k ∧ k < (p_BT A f (A 6 1)).1) → ∀ M1, p_CI A M1 → p_cfr M M1 → x_Ev l E (1, 0, 0) m_X10_tellLong 0 [(20, 5), (0, 0)] [] M1 (fun r M3 => ∃ z, r = some (1, z) ∧ Q (some (1, z)) M3) := fun c M1 h1 h2 => by
    rw [p_if_f c] at h
    exact k_tL hA h1 (by omega) (fun M2 a b => ⟨_, rfl, h M2 a (p_cfr_tr h2 b)⟩)
  have go : (f = -1 ∨ (0 ≤ f ∧ f < A 6 0)) → (0 ≤ p ∧ p ≤ 1) → x_Ev l E (5, 0, 0) m_X3_gatherBreaks 0 [(13, 40), (0, f), (0, (M 6 1)), (5, 0)] [] M (fun r zM3 => r = none ∧ (k < 0 → x_Ev l E (1, 0, 0) m_X10_tellLong 0 [(20, 5), (0, 0)] [] zM3 (fun r zM4 => ∃ zr5, r = some (1, zr5) ∧ Q (some (1, zr5)) zM4)) ∧ (¬ k < 0 → (k < (zM3 42 0) → (¬ p = 0 → ((0 : Int) ≤ k ∧ (k : Int) < 27) ∧ Q (some (1, (zM3 44 k))) zM3) ∧ (p = 0 → ((0 : Int) ≤ k ∧ (k : Int) < 27) ∧ Q (some (1, (zM3 43 k))) zM3)) ∧ (¬ k < (zM3 42 0) → x_Ev l E (1, 0, 0) m_X10_tellLong 0 [(20, 5), (0, 0)] [] zM3 (fun r zM6 => ∃ zr7, r = some (1, zr7) ∧ Q (some (1, zr7)) zM6)))) := fun c d => by
    rw [hC.1 6 1 (by omega) (by omega)]
    refine k_gb hA hC w1 (fun M1 c1 c2 _ c3 _ c4 => ⟨rfl, fun e => bad (fun q => by omega) M1 c1 c2, fun e => ?_⟩)
    rw [c3.1]
    refine ⟨fun g => ?_, fun g => bad (fun q => g q.2.2.2) M1 c1 c2⟩
    rw [p_if_t ⟨c, d, by omega, g⟩] at h
    obtain ⟨v1, v2⟩ := c3.2 k (by omega) g
    refine ⟨fun z => ⟨by omega, ?_⟩, fun z => ⟨by omega, ?_⟩⟩
    · rw [if_neg z] at h
      rw [v2]; exact h M1 c1 c2
    · rw [if_pos z] at h
      rw [v1]; exact h M1 c1 c2
  refine u_X10_breakAt_0 f k p ⟨fun c => k_NP (fun d => x_n1 (by omega) (bad (fun q => d q.2.1) M hC (p_cfr_rf M))) (fun d => x_n0 (go (Or.inl c) d)), fun c => k_NF hC (fun e => x_y1 (by omega) (bad (fun q => by omega) M hC (p_cfr_rf M))) (fun e => x_y0 (k_NP (fun d => x_n1 (by omega) (bad (fun q => d q.2.1) M hC (p_cfr_rf M))) (fun d => x_n0 (go (Or.inr e) d))))⟩
theorem r_breakAt (hA : p_WF A) (hR : p_RI A M) {f k p : Int} (h : ∀ M1, p_RI (o_breakAt A f k p).2 M1 → p_rfr M M1 → Q (some (1, (o_breakAt A f k p).1)) M1) : x_Ev l E (11, 0, 0) m_X11_breakAt 0 [(21, 103), (0, f), (0, k), (0, p)] [] M Q := by
  unfold o_breakAt at h
  have bad : ¬ ((f = -1 ∨ (0 ≤ f ∧ f < A 6 0)) ∧ (0 ≤ p ∧ p ≤ 1) ∧ 0 ≤ k ∧ k < (p_BT A f (A 6 1)).1) → ∀ M1, p_RI A M1 → p_rfr M M1 → x_Ev l E (1, 0, 0) m_X11_findsLong 0 [(21, 103), (0, 0)] [] M1 (fun r M3 => ∃ z, r = some (1, z) ∧ Q (some (1, z)) M3) := fun c M1 h1 h2 => by
    rw [p_if_f c] at h
    exact r_tL hA h1 (by omega) (fun M2 a b => ⟨_, rfl, h M2 a (p_rfr_tr h2 b)⟩)
  have go : (f = -1 ∨ (0 ≤ f ∧ f < A 6 0)) → (0 ≤ p ∧ p ≤ 1) → x_Ev l E (10, 0, 0) m_X11_plans_ 0 [(21, 103), (5, 0)] [] M (fun r zM3 => r = none ∧ x_Ev l E (6, 0, 0) m_X11_findsBreaks 0 [(21, 103), (0, f), (5, 0)] [] zM3 (fun r zM4 => r = none ∧ x_Ev l E (1, 0, 0) m_X11_in 0 [(1, k), (5, 0), (1, 0), (5, 0), (1, (x_w ((zM4 103 25) - 1))), (5, 0)] [] zM4 (fun r zM5 => ∃ zr6, r = some (0, zr6) ∧ (zr6 = 0 → x_Ev l E (1, 0, 0) m_X11_findsLong 0 [(21, 103), (0, 0)] [] zM5 (fun r zM7 => ∃ zr8, r = some (1, zr8) ∧ Q (some (1, zr8)) zM7)) ∧ (¬ zr6 = 0 → (¬ p = 0 → ((0 : Int) ≤ k ∧ (k : Int) < 200) ∧ Q (some (1, (zM5 283 k))) zM5) ∧ (p = 0 → ((0 : Int) ≤ k ∧ (k : Int) < 200) ∧ Q (some (1, (zM5 282 k))) zM5))))) := fun c d => by
    refine r_gb hA hR (by omega) (fun M1 c1 c2 _ _ c3 _ c4 => ⟨rfl, ?_⟩)
    rw [c3.1, x_w_id (by omega) (by omega)]
    refine r_in (fun g => x_n1 (by omega) ?_) (fun g => x_n0 (bad (fun q => g (by omega)) M1 c1 c2))
    rw [p_if_t ⟨c, d, by omega, by omega⟩] at h
    obtain ⟨v1, v2⟩ := c3.2 k (by omega) (by omega)
    refine ⟨fun z => ⟨by omega, ?_⟩, fun z => ⟨by omega, ?_⟩⟩
    · rw [if_neg z] at h
      rw [v2]; exact h M1 c1 c2
    · rw [if_pos z] at h
      rw [v1]; exact h M1 c1 c2
  refine u_X11_breakAt_0 f k p ⟨fun c => r_Part (fun d => x_y1 (by omega) (go (Or.inl c) d)) (fun d => x_y0 (bad (fun q => d q.2.1) M hR (p_rfr_rf M))), fun c => r_F hA hR (fun e => x_n1 (by omega) (r_Part (fun d => x_y1 (by omega) (go (Or.inr e) d)) (fun d => x_y0 (bad (fun q => d q.2.1) M hR (p_rfr_rf M))))) (fun e => x_n0 (bad (fun q => by omega) M hR (p_rfr_rf M)))⟩
theorem wf_breakAt (hA : p_WF A) (f k p : Int) : p_WF (o_breakAt A f k p).2 := by
  unfold o_breakAt
  by_cases c : (f = -1 ∨ (0 ≤ f ∧ f < A 6 0)) ∧ (0 ≤ p ∧ p ≤ 1) ∧ 0 ≤ k ∧ k < (p_BT A f (A 6 1)).1
  · rw [p_if_t c]; exact hA
  · rw [p_if_f c]; exact wf_tl hA 0
noncomputable def p_pcA (A : xM) (k i : Int) : Int := p_pc (p_Fs A) (A 6 0).toNat (A 6 1) (p_BT A (-1) (A 6 1)).1 (p_BT A (-1) (A 6 1)).2.1 (p_BT A (-1) (A 6 1)).2.2 k.toNat i
noncomputable def o_piece (A : xM) (k i : Int) : Int × xM := p_if ((0 ≤ k ∧ k ≤ (p_BT A (-1) (A 6 1)).1) ∧ 0 ≤ i ∧ i < 6) (p_pcA A k i, A) (p_erL A 0)
theorem k_tp (hA : p_WF A) (hC : p_CI A M) (hmem : p_bmem M (p_BT A (-1) (A 6 1)).1 (p_BT A (-1) (A 6 1)).2.1 (p_BT A (-1) (A 6 1)).2.2) (hB : ∀ k : Int, 0 ≤ k → k < (p_BT A (-1) (A 6 1)).1 → p_tm ((p_BT A (-1) (A 6 1)).2.1 k) ((p_BT A (-1) (A 6 1)).2.2 k)) (hn : (p_BT A (-1) (A 6 1)).1 ≤ 27) {k : Int} (hk : 0 ≤ k ∧ k ≤ (p_BT A (-1) (A 6 1)).1) (h : ∀ M1, p_CI A M1 → p_cfr M M1 → (∀ i, 0 ≤ i → i < 6 → M1 101 i = p_pcA A k i) → (∀ a j, ¬ (a = 40 ∧ j = 7) → a ≠ 48 → ¬ p_stc a j → a ≠ 101 → M1 a j = M a j) → Q none M1) : x_Ev l E (5, 0, 0) m_X3_tellPiece 0 [(13, 40), (0, k), (118, 101), (0, 0)] [] M Q := by
  have w1 := (p_W_tm hA).2.1
  obtain ⟨x, hx⟩ : ∃ x : Nat, k = x := ⟨k.toNat, by omega⟩
  rw [hx] at hk h ⊢
  refine c_tellPiece p_ten_ok p_one_ok hC.2.2.2.2.2.1 w1 (hC.1 6 1 (by omega) (by omega)) hn hmem hB (by omega) (by omega) (fun M1 c1 c2 c3 => ?_)
  have fr : ∀ a j, ¬ p_cs a j → M1 a j = M a j := fun a j q => c3 a j (fun e => q (by unfold p_cs; omega)) (fun e => q (by unfold p_cs; omega)) (p_cs_st q) (fun e => q (by unfold p_cs; omega))
  refine h M1 (p_CI_sc hC fr) (p_cfr_sc fr) (fun i i1 i2 => ?_) (fun a j q1 q2 q3 q4 => c3 a j q1 q2 q3 (by omega))
  have := c2 i i1 i2
  rw [Int.zero_add] at this
  exact this
theorem k_piece (hA : p_WF A) (hC : p_CI A M) {k i : Int} (h : ∀ M1, p_CI (o_piece A k i).2 M1 → p_cfr M M1 → Q (some (1, (o_piece A k i).1)) M1) : x_Ev l E (6, 0, 0) m_X10_piece 0 [(20, 5), (0, k), (0, i)] [] M Q := by
  unfold o_piece at h
  have w1 := (p_W_tm hA).2.1
  refine u_X10_piece_0 k i ?_
  rw [hC.1 6 1 (by omega) (by omega)]
  refine k_gb hA hC w1 (fun M1 c1 c2 _ c3 c5 c4 => ⟨rfl, ?_⟩)
  have bad : ¬ ((0 ≤ k ∧ k ≤ (p_BT A (-1) (A 6 1)).1) ∧ 0 ≤ i ∧ i < 6) → x_Ev l E (1, 0, 0) m_X10_tellLong 0 [(20, 5), (0, 0)] [] M1 (fun r M3 => ∃ z, r = some (1, z) ∧ Q (some (1, z)) M3) := fun c => by
    rw [p_if_f c] at h
    exact k_tL hA c1 (by omega) (fun M2 a b => ⟨_, rfl, h M2 a (p_cfr_tr c2 b)⟩)
  rw [c3.1]
  refine ⟨fun d => bad (by omega), fun d => ⟨fun d2 => bad (by omega), fun d2 => ⟨fun d3 => bad (by omega), fun d3 => ⟨fun d4 => ?_, fun d4 => bad (by omega)⟩⟩⟩⟩
  rw [p_if_t ⟨by omega, by omega⟩] at h
  refine k_tp hA c1 c3 c5 c4 (by omega) (fun M2 g1 g2 g3 _ => ⟨rfl, by omega, ?_⟩)
  rw [g3 i (by omega) (by omega)]
  exact h M2 g1 (p_cfr_tr c2 g2)
theorem r_po (hA : p_WF A) (hR : p_RI A M) (hW : p_RW M (p_Fs A) (A 6 0).toNat) (hmem : p_rbmem M (p_BT A (-1) (A 6 1)).1 (p_BT A (-1) (A 6 1)).2.1 (p_BT A (-1) (A 6 1)).2.2) (hB : ∀ k : Int, 0 ≤ k → k < (p_BT A (-1) (A 6 1)).1 → p_tm ((p_BT A (-1) (A 6 1)).2.1 k) ((p_BT A (-1) (A 6 1)).2.2 k)) (hn : (p_BT A (-1) (A 6 1)).1 ≤ 135) {k i : Int} (hk : 0 ≤ k ∧ k ≤ (p_BT A (-1) (A 6 1)).1) (hi : 0 ≤ i ∧ i < 6) (h : ∀ M1, (∀ a j, ¬ (a = 103 ∧ (j = 15 ∨ j = 16)) → M1 a j = M a j) → Q (some (1, p_pcA A k i)) M1) : x_Ev l E (6, 0, 0) m_X11_pieceOf 0 [(21, 103), (0, k), (0, i)] [] M Q := by
  have w1 := (p_W_tm hA).2.1
  obtain ⟨x, hx⟩ : ∃ x : Nat, k = x := ⟨k.toNat, by omega⟩
  rw [hx] at hk h ⊢
  exact c_pieceOf p_ten_ok p_one_ok hW w1 hR.1.2.1 hn hmem hB (by omega) hi h
theorem r_piece (hA : p_WF A) (hR : p_RI A M) {k i : Int} (h : ∀ M1, p_RI (o_piece A k i).2 M1 → p_rfr M M1 → Q (some (1, (o_piece A k i).1)) M1) : x_Ev l E (11, 0, 0) m_X11_piece 0 [(21, 103), (0, k), (0, i)] [] M Q := by
  unfold o_piece at h
  refine u_X11_piece_0 k i (r_gb hA hR (by omega) (fun M1 c1 c2 c6 _ c3 c5 c4 => ⟨rfl, ?_⟩))
  have bad : ¬ ((0 ≤ k ∧ k ≤ (p_BT A (-1) (A 6 1)).1) ∧ 0 ≤ i ∧ i < 6) → x_Ev l E (1, 0, 0) m_X11_findsLong 0 [(21, 103), (0, 0)] [] M1 (fun r M3 => ∃ z, r = some (1, z) ∧ Q (some (1, z)) M3) := fun c => by
    rw [p_if_f c] at h
    exact r_tL hA c1 (by omega) (fun M2 a b => ⟨_, rfl, h M2 a (p_rfr_tr c2 b)⟩)
  rw [c3.1]
  refine r_in (fun d => x_n1 (by omega) (r_in (fun e => x_n1 (by omega) ?_) (fun e => x_n0 (bad (by omega))))) (fun d => x_n0 (bad (fun q => d q.1)))
  rw [p_if_t ⟨d, by omega⟩] at h
  refine r_po hA c1 c6 c3 c5 c4 d (by omega) (fun M2 fr => ⟨_, rfl, ?_⟩)
  have fr' : ∀ a j, ¬ p_rsc a j → M2 a j = M1 a j := fun a j q => fr a j (fun e => q (by unfold p_rsc; omega))
  exact h M2 (p_RI_sc hA c1 fr') (p_rfr_tr c2 (p_rfr_sc fr'))
theorem wf_piece (hA : p_WF A) (k i : Int) : p_WF (o_piece A k i).2 := by
  unfold o_piece
  by_cases c : (0 ≤ k ∧ k ≤ (p_BT A (-1) (A 6 1)).1) ∧ 0 ≤ i ∧ i < 6
  · rw [p_if_t c]; exact hA
  · rw [p_if_f c]; exact wf_tl hA 0
noncomputable def p_bsA (A : xM) (most : Int) : Int → Int := p_best (p_Fs A) (A 6 0).toNat most
theorem k_seek (hA : p_WF A) (hC : p_CI A M) {most : Int} (hmost : 1 ≤ most ∧ most ≤ 40) (h : ∀ M1, p_CI A M1 → p_bv (p_bsA A most) → 0 ≤ p_bsA A most 4 → p_bm M1 (p_bsA A most) → p_bsA A most 2 ≤ most * p_bsA A most 3 → (∀ a k, ¬ (40 ≤ a ∧ a ≤ 48) → ¬ p_stc a k → M1 a k = M a k) → Q none M1) : x_Ev l E (6, 0, 0) m_X3_seekBest 0 [(13, 40), (0, most), (5, 0)] [] M Q := by
  refine c_seekBest2 p_ten_ok p_one_ok hC.2.2.2.2.2.1 hmost (fun M1 c1 c2 c3 c4 ⟨n, P, R, c5⟩ c6 => ?_)
  exact h M1 (p_CI_sc hC (fun a k q => c6 a k (fun e => q (by unfold p_cs; omega)) (p_cs_st q))) c2 c3 c4 (p_best_le hmost c5 c3) c6
theorem k_tb {w : Int} (hw : 0 ≤ w ∧ w ≤ 4) {st : Int → Int} (hb : p_bm M st) (h4 : 0 ≤ st 4) (h : Q (some (1, st w)) M) : x_Ev l E (2, 0, 0) m_X3_tellBest 0 [(13, 40), (0, w)] [] M Q := by
  obtain ⟨b0, b1⟩ := hb
  obtain ⟨b2, b3, b5, b6⟩ := b1 h4
  refine u_X3_tellBest_0 w ⟨fun c => ⟨fun d => ?_, fun d => ?_⟩, fun c => ?_⟩
  · have e : w = 4 := by omega
    rw [e] at h
    rw [b0]; exact h
  · rw [x_w_id (by omega) (by omega)]
    refine c_side (by omega) ⟨_, rfl, ?_⟩
    by_cases e : w - 2 = 0
    · rw [if_pos e, b5]
      rw [show w = 2 by omega] at h; exact h
    · rw [if_neg e, b6]
      rw [show w = 3 by omega] at h; exact h
  · refine c_side (by omega) ⟨_, rfl, ?_⟩
    by_cases e : w = 0
    · rw [if_pos e, b2]
      rw [e] at h; exact h
    · rw [if_neg e, b3]
      rw [show w = 1 by omega] at h; exact h
noncomputable def o_best (A : xM) (w : Int) : Int × xM := p_if (0 ≤ w ∧ w ≤ 4) (p_bsA A (A 6 1) w, A) (p_erL A 0)
theorem k_best (hA : p_WF A) (hC : p_CI A M) {w : Int} (h : ∀ M1, p_CI (o_best A w).2 M1 → p_cfr M M1 → Q (some (1, (o_best A w).1)) M1) : x_Ev l E (7, 0, 0) m_X10_best 0 [(20, 5), (0, w)] [] M Q := by
  unfold o_best at h
  have w1 := (p_W_tm hA).2.1
  have bad : ¬ (0 ≤ w ∧ w ≤ 4) → x_Ev l E (1, 0, 0) m_X10_tellLong 0 [(20, 5), (0, 0)] [] M (fun r M3 => ∃ z, r = some (1, z) ∧ Q (some (1, z)) M3) := fun c => by
    rw [p_if_f c] at h
    exact k_tL hA hC (by omega) (fun M1 a b => ⟨_, rfl, h M1 a b⟩)
  refine u_X10_best_0 w ⟨fun c => bad (by omega), fun c => ⟨fun d => ?_, fun d => bad (by omega)⟩⟩
  rw [p_if_t (by omega)] at h
  rw [hC.1 6 1 (by omega) (by omega)]
  exact k_seek hA hC w1 (fun M1 c1 c2 c3 c4 c5 c6 => ⟨rfl, k_tb (by omega) c4 c3 ⟨_, rfl, h M1 c1 (p_cfr_sc (fun a k q => c6 a k (fun e => q (by unfold p_cs; omega)) (p_cs_st q)))⟩⟩)
theorem c_toldBest (hT : 593 ≤ x_tp M) {w : Int} (hw : 0 ≤ w ∧ w < 5) (h : ∀ M1, p_rfr M M1 → (∀ a k, 0 ≤ a → a < 593 → M1 a k = M a k) → Q (some (1, M 103 (28 + w))) M1) : x_Ev l E (1, 1, 5) m_X11_toldBest 0 [(21, 103), (0, w), (5, 0)] [] M Q := by
  have eN : ((x_tp M : Nat) : Int) = M (-1) 0 := by unfold x_tp at *; omega
  refine u_X11_toldBest_0 w ?_
  intro M1 h1 M2 h2 M3 h3 M4 h4 M5 h5 M6 h6
  have f1 : ∀ a k, 0 ≤ a → a ≠ M (-1) 0 → M1 a k = M a k := fun a k q1 q2 => by rw [h1]; exact x_new_at hT _ a k q1 (by omega)
  have v1 : ∀ k, M1 103 k = M 103 k := fun k => f1 103 k (by omega) (by omega)
  have v2 : ∀ k, M2 103 k = M 103 k := fun k => by rw [h2, x_wr_ne _ _ (by omega), v1]
  have v3 : ∀ k, M3 103 k = M 103 k := fun k => by rw [h3, x_wr_ne _ _ (by omega), v2]
  have v4 : ∀ k, M4 103 k = M 103 k := fun k => by rw [h4, x_wr_ne _ _ (by omega), v3]
  have v5 : ∀ k, M5 103 k = M 103 k := fun k => by rw [h5, x_wr_ne _ _ (by omega), v4]
  have f6 : ∀ a k, 0 ≤ a → a ≠ M (-1) 0 → M6 a k = M a k := fun a k q1 q2 => by
    rw [h6, x_wr_ne _ _ (by omega), h5, x_wr_ne _ _ (by omega), h4, x_wr_ne _ _ (by omega), h3, x_wr_ne _ _ (by omega), h2, x_wr_ne _ _ (by omega)]
    exact f1 a k q1 q2
  have val : M6 (M (-1) 0) w = M 103 (28 + w) := by
    have : w = 0 ∨ w = 1 ∨ w = 2 ∨ w = 3 ∨ w = 4 := by omega
    rcases this with e | e | e | e | e
    · rw [e, h6, x_wr_ne _ _ (by omega), h5, x_wr_ne _ _ (by omega), h4, x_wr_ne _ _ (by omega), h3, x_wr_ne _ _ (by omega), h2, x_wr_eq, v1]; rfl
    · rw [e, h6, x_wr_ne _ _ (by omega), h5, x_wr_ne _ _ (by omega), h4, x_wr_ne _ _ (by omega), h3, x_wr_eq, v2]; rfl
    · rw [e, h6, x_wr_ne _ _ (by omega), h5, x_wr_ne _ _ (by omega), h4, x_wr_eq, v3]; rfl
    · rw [e, h6, x_wr_ne _ _ (by omega), h5, x_wr_eq, v4]; rfl
    · rw [e, h6, x_wr_eq, v5]; rfl
  have ex : x_ext M M6 := by
    rw [h6, h5, h4, h3, h2, h1]
    exact (((((x_new_ext hT _).tr (x_ext.wr _ _ _ (by omega))).tr (x_ext.wr _ _ _ (by omega))).tr (x_ext.wr _ _ _ (by omega))).tr (x_ext.wr _ _ _ (by omega))).tr (x_ext.wr _ _ _ (by omega))
  refine ⟨by omega, ?_⟩
  rw [val]
  exact h M6 ⟨ex.1, ex.2, fun a k q1 q2 => f6 a k q1 (by omega), fun a k q1 q2 => f6 a k (by omega) (by omega)⟩ (fun a k q1 q2 => f6 a k q1 (by omega))
theorem r_fb (hA : p_WF A) (hR : p_RI A M) (hW : p_RW M (p_Fs A) (A 6 0).toNat) (h : ∀ M1, p_RI A M1 → p_RW M1 (p_Fs A) (A 6 0).toNat → p_bv (p_bsA A (A 6 1)) → 0 ≤ p_bsA A (A 6 1) 4 → (∀ i, 0 ≤ i → i < 5 → M1 103 (28 + i) = p_bsA A (A 6 1) i) → p_bfr M M1 → (∀ a k, ¬ p_rsc a k → M1 a k = M a k) → Q none M1) : x_Ev l E (7, 0, 0) m_X11_findsBest 0 [(21, 103), (5, 0), (5, 0), (5, 0)] [] M Q := by
  have w1 := (p_W_tm hA).2.1
  refine c_findsBest p_ten_ok p_one_ok hW w1 hR.1.2.1 (fun M1 c1 c2 c3 c4 c5 => ?_)
  have fr : ∀ a k, ¬ p_rsc a k → M1 a k = M a k := fun a k q => c5 a k (fun e => q (by unfold p_rsc; omega)) (fun e => q (by unfold p_rsc; omega)) (fun e => q (by unfold p_rsc; omega))
  exact h M1 (p_RI_sc hA hR fr) c1 c2 c3 c4 c5 fr
theorem x_tp_fr {M1 : xM} (fr : ∀ a k, ¬ p_rsc a k → M1 a k = M a k) : x_tp M1 = x_tp M := x_tp_eq (fr (-1) 0 (by unfold p_rsc; omega))
theorem r_best (hA : p_WF A) (hR : p_RI A M) {w : Int} (h : ∀ M1, p_RI (o_best A w).2 M1 → p_rfr M M1 → Q (some (1, (o_best A w).1)) M1) : x_Ev l E (11, 1, 5) m_X11_best 0 [(21, 103), (0, w)] [] M Q := by
  refine x_Ev.tp0 (fun hT => ?_)
  unfold o_best at h
  refine u_X11_best_0 w (r_in (fun c => x_y1 (by omega) ?_) (fun c => x_y0 ?_))
  · rw [p_if_t c] at h
    refine r_plans hA hR (fun M1 w2 fr => ⟨rfl, ?_⟩)
    have hR1 := p_RI_sc hA hR fr
    refine r_fb hA hR1 w2 (fun M2 c1 _ _ _ c4 _ fr2 => ⟨rfl, ?_⟩)
    refine c_toldBest (by rw [x_tp_fr fr2, x_tp_fr fr]; exact hT) (by omega) (fun M3 d1 d2 => ⟨_, rfl, ?_⟩)
    rw [c4 w (by omega) (by omega)]
    exact h M3 (p_RI_fr hA c1 (fun a k q1 q2 _ => d2 a k (by omega) q2)) (p_rfr_tr (p_rfr_tr (p_rfr_sc fr) (p_rfr_sc fr2)) d1)
  · rw [p_if_f c] at h
    exact r_tL hA hR (by omega) (fun M1 a b => ⟨_, rfl, h M1 a b⟩)
theorem wf_best (hA : p_WF A) (w : Int) : p_WF (o_best A w).2 := by
  unfold o_best
  by_cases c : 0 ≤ w ∧ w ≤ 4
  · rw [p_if_t c]; exact hA
  · rw [p_if_f c]; exact wf_tl hA 0
noncomputable def o_settle (A : xM) : Int × xM := (p_bsA A (A 6 1) 4, x_wr (x_wr A 7 0 (p_bsA A (A 6 1) 2)) 7 1 (p_bsA A (A 6 1) 3))
theorem k_settle (hA : p_WF A) (hC : p_CI A M) (h : ∀ M1, p_WF (o_settle A).2 → p_CI (o_settle A).2 M1 → p_cfr M M1 → Q (some (0, (o_settle A).1)) M1) : x_Ev l E (7, 0, 0) m_X10_settle 0 [(20, 5)] [] M Q := by
  have w1 := (p_W_tm hA).2.1
  refine u_X10_settle_0 ?_
  rw [hC.1 6 1 (by omega) (by omega)]
  refine k_seek hA hC w1 (fun M1 c1 c2 c3 c4 c5 c6 => ⟨rfl, c_takeX (by omega) ⟨rfl, ?_⟩⟩)
  obtain ⟨b0, b1⟩ := c4
  obtain ⟨b2, b3, b5, b6⟩ := b1 c3
  have tm := (c2.2.2 c3).2.2.2
  rw [b5, b6, p_w7_ne (by omega), b0]
  refine h _ (wf_7 hA ⟨tm.1, c5⟩ ⟨tm.2.2.1, tm.2.2.2⟩) (p_CI_7 hA hC (fun a k q1 q2 => ?_) (fun k => x_wr_sm (x_wr_sm ?_))) (fun a k q1 q2 => ?_)
  · rw [p_w7_ne q1]; exact c6 a k (fun e => q2 (by unfold p_cs; omega)) (p_cs_st q2)
  · exact c6 7 k (by omega) (by unfold p_stc; omega)
  · rw [p_w7_ne (by omega)]; exact c6 a k (by omega) (by unfold p_stc; omega)
theorem r_settle (hA : p_WF A) (hR : p_RI A M) (h : ∀ M1, p_RI (o_settle A).2 M1 → p_rfr M M1 → Q (some (0, (o_settle A).1)) M1) : x_Ev l E (11, 0, 0) m_X11_settle 0 [(21, 103)] [] M Q := by
  refine u_X11_settle_0 (r_plans hA hR (fun M1 w2 fr => ⟨rfl, ?_⟩))
  have hR1 := p_RI_sc hA hR fr
  refine r_fb hA hR1 w2 (fun M2 c1 _ _ _ c4 _ fr2 => ⟨rfl, ?_⟩)
  intro M3 h3 M4 h4
  have e9 : M2 103 30 = p_bsA A (A 6 1) 2 := c4 2 (by omega) (by omega)
  have e10 : M3 103 31 = p_bsA A (A 6 1) 3 := by rw [h3, x_wr_ne _ _ (by omega)]; exact c4 3 (by omega) (by omega)
  have e11 : M4 103 32 = p_bsA A (A 6 1) 4 := by rw [h4, x_wr_ne _ _ (by omega), h3, x_wr_ne _ _ (by omega)]; exact c4 4 (by omega) (by omega)
  rw [e9] at h3
  rw [e10] at h4
  rw [e11]
  have f4 : ∀ a k, ¬ (a = 103 ∧ (k = 9 ∨ k = 10)) → M4 a k = M2 a k := fun a k q => by rw [h4, x_wr_ne _ _ (by omega), h3, x_wr_ne _ _ (by omega)]
  refine h M4 (p_RI_7 hA c1 (fun a k q _ => f4 a k q) ?_ ?_) (p_rfr_tr (p_rfr_tr (p_rfr_sc fr) (p_rfr_sc fr2)) (p_rfr_o (fun a k q => f4 a k (by omega))))
  · rw [h4, x_wr_ne _ _ (by omega), h3, x_wr_eq]
  · rw [h4, x_wr_eq]
end O8
