/-! opens, openAt, isOpen, price -/
theorem p_cnt_lt {P : Nat → Prop} {s : Nat} (hs : P s) : ∀ t : Nat, s < t → p_cnt P s < p_cnt P t := by
  intro t
  induction t with
  | zero => intro h; omega
  | succ t ih =>
    intro h
    have e : p_cnt P (t + 1) = p_cnt P t + p_if (P t) 1 0 := rfl
    by_cases c : s = t
    · rw [c] at hs
      rw [e, p_if_t hs, c]; omega
    · have := ih (by omega)
      have : 0 ≤ p_if (P t) 1 0 := Nat.zero_le _
      omega
theorem p_cnt_u {P : Nat → Prop} {s t : Nat} (hs : P s) (ht : P t) (h : p_cnt P s = p_cnt P t) : s = t := by
  rcases Nat.lt_trichotomy s t with c | c | c
  · have := p_cnt_lt hs t c; omega
  · exact c
  · have := p_cnt_lt ht s c; omega
theorem p_cnt_s {P : Nat → Prop} {s : Nat} : (P s → p_cnt P (s + 1) = p_cnt P s + 1) ∧ (¬ P s → p_cnt P (s + 1) = p_cnt P s) := by
  have e : p_cnt P (s + 1) = p_cnt P s + p_if (P s) 1 0 := rfl
  exact ⟨fun h => by rw [e, p_if_t h], fun h => by rw [e, p_if_f h]; rfl⟩
noncomputable def p_oa (P : Nat → Prop) (N : Nat) (k : Int) : Nat := Classical.epsilon (fun s : Nat => s < N ∧ P s ∧ (p_cnt P s : Int) = k)
theorem p_oa_eq {P : Nat → Prop} {N : Nat} {k : Int} {s : Nat} (h : s < N ∧ P s ∧ (p_cnt P s : Int) = k) : p_oa P N k = s := by
  have q := Classical.epsilon_spec (p := fun s : Nat => s < N ∧ P s ∧ (p_cnt P s : Int) = k) ⟨s, h⟩
  refine p_cnt_u q.2.1 h.2.1 ?_
  have := q.2.2
  have := h.2.2
  unfold p_oa
  omega
noncomputable def p_pp (F : xM) (p q : Int) : Nat := Classical.epsilon (fun s => p_lp F p q s)
theorem p_pp_eq {F : xM} (hF : p_wf F) {p q : Int} (hq : 0 < q) {s : Nat} (h : p_lp F p q s) {r : Int} (hr : 0 ≤ r) (hr2 : r < F 0 3) : p_nu (p_Y F p q s r) (p_b (p_C F s) * q) = p_nu (p_Y F p q (p_pp F p q) r) (p_b (p_C F (p_pp F p q)) * q) ∧ p_de (p_Y F p q s r) (p_b (p_C F s) * q) = p_de (p_Y F p q (p_pp F p q) r) (p_b (p_C F (p_pp F p q)) * q) := by
  have h' : p_lp F p q (p_pp F p q) := Classical.epsilon_spec (p := fun s => p_lp F p q s) ⟨s, h⟩
  have e := p_lp_u hF h h' r hr hr2
  have b1 := p_b_pos h.2.1.2.1
  have b2 := p_b_pos h'.2.1.2.1
  refine p_red (Int.mul_pos b1 hq) (Int.mul_pos b2 hq) ?_
  rw [← Int.mul_assoc, e, Int.mul_assoc]
section O6
variable {l : Launch} {E : xE} {Q : Option xV → xM → Prop} {A M : xM}
theorem p_prA (hA : p_WF A) {f : Int} (hf : 0 ≤ f ∧ f < A 6 0) : ((p_pr (p_Fs A f.toNat) : Nat) : Int) = A (9 + 4 * f) 3 + A (9 + 4 * f) 2 ∧ p_pr (p_Fs A f.toNat) ≤ 7 ∧ 2 ^ p_pr (p_Fs A f.toNat) ≤ 128 := by
  have gd := p_gd hA hf
  have := p_pr_le (p_WF_f hA hf)
  refine ⟨?_, this.1, this.2⟩
  unfold p_pr
  rw [p_Fs0 A hf.1, p_Fs0 A hf.1]
  omega
theorem k_prs (hA : p_WF A) (hC : p_CI A M) {f : Int} (hf : 0 ≤ f ∧ f < A 6 0) (h : Q (some (0, ((p_pr (p_Fs A f.toNat) : Nat) : Int))) M) : x_Ev l E (1, 0, 0) m_X1_pairs 0 [(11, 9 + 4 * f)] [] M Q := by
  have w0 := hA.1.1
  have gd := p_gd hA hf
  have e2 := hC.1 (9 + 4 * f) 2 (by omega) (by omega)
  have e3 := hC.1 (9 + 4 * f) 3 (by omega) (by omega)
  refine c_pairs _ (by omega) (by omega) ?_
  rw [e2, e3, ← (p_prA hA hf).1]
  exact h
theorem k_fp (hA : p_WF A) (hC : p_CI A M) {f : Int} (hf : 0 ≤ f ∧ f < A 6 0) (h : ∀ (M1 : xM) (n : Nat) (S : Nat → Nat) (k : Nat), p_CI A M1 → p_cfr M M1 → p_pset (p_Fs A f.toNat) (A 7 0) (A 7 1) (2 ^ p_pr (p_Fs A f.toNat)) n S → p_ptab M1 (p_Fs A f.toNat) (A 7 0) (A 7 1) n S → n ≤ 35 → k < n → M1 76 3 = k → M1 76 4 = A 7 1 → p_lp (p_Fs A f.toNat) (A 7 0) (A 7 1) (S k) → M1 76 2 = p_np (p_Fs A f.toNat) (A 7 0) (A 7 1) → Q none M1) : x_Ev l E (5, 0, 0) m_X10_findPrices 0 [(20, 5), (0, f)] [] M Q := by
  have w0 := hA.1.1
  obtain ⟨t1, t2, t3, t4⟩ := p_CI_t hA hC hf
  have hpq := (p_W_tm hA).1
  refine u_X10_findPrices_0 f ⟨by omega, ?_⟩
  rw [show 8 + 1 + 4 * f = 9 + 4 * f by omega]
  refine c_pfindAll (by omega) (by rw [t2]; exact t1) hpq (hC.1 7 0 (by omega) (by omega)) (hC.1 7 1 (by omega) (by omega)) (by rw [t2]; exact p_dok_ex t1 _ _) (fun M1 n S k s1 s2 s3 s4 s5 s6 s7 s8 s9 s10 => ⟨rfl, ?_⟩)
  rw [t2] at s1 s2 s7 s8 s9
  have fr : ∀ a j, ¬ p_cs a j → M1 a j = M a j := fun a j q => s10 a j (fun e => q (by unfold p_cs; omega)) (fun e => q (by unfold p_cs; omega))
  refine h M1 n S k (p_CI_sc hC fr) (p_cfr_sc fr) s1 s2 s3 s4 s5 s6 (p_lp_of t1 s1 s4 s7 s8) ?_
  rw [s9, p_cnt_chp t1 s1 s4 ((p_chp_set t1 s1 s4).mp s7)]
theorem r_bo (hA : p_WF A) (hR : p_RI A M) {f : Int} (hf : 0 ≤ f ∧ f < A 6 0) (h : ∀ (M1 : xM) (n : Nat) (S : Nat → Nat), p_RI A M1 → p_rfr M M1 → p_pset (p_Fs A f.toNat) (A 7 0) (A 7 1) (2 ^ p_pr (p_Fs A f.toNat)) n S → p_rptab M1 (p_Fs A f.toNat) (A 7 0) (A 7 1) n S → n ≤ 35 → p_rtab M1 f (p_n (p_Fs A f.toNat)) (p_TT (p_Fs A f.toNat)) → Q none M1) : x_Ev l E (10, 0, 0) m_X11_bothOf 0 [(21, 103), (0, f)] [] M Q := by
  have w0 := hA.1.1
  have hpq := (p_W_tm hA).1
  refine u_X11_bothOf_0 f (r_pl hA hR hf (fun M1 hR1 hS fr => ⟨rfl, ?_⟩))
  obtain ⟨rf, wf⟩ := p_RI_f hA hR1 hf
  refine c_Rprices (by omega) wf rf hpq ⟨hR1.1.2.2.1, hR1.1.2.2.2.1⟩ (fun M2 n S s1 s2 s3 s4 => ⟨rfl, ?_⟩)
  have fr2 : ∀ a k, ¬ p_rsc a k → M2 a k = M a k := fun a k q => by
    rw [s4 a k (fun e => q (by unfold p_rsc; omega)) (fun e => q (by unfold p_rsc; omega)) (fun e => q (by unfold p_rsc; omega))]
    exact fr a k q
  refine h M2 n S (p_RI_sc hA hR fr2) (p_rfr_sc fr2) s1 s2 s3 (p_rtab_fr (by have := p_n10 p_ten_ok wf; omega) (fun a k q => s4 a k ?_ ?_ ?_) hS.2.1)
  · unfold p_rt at q; omega
  · unfold p_rt at q; omega
  · unfold p_rt at q; omega
noncomputable def p_opv (A : xM) (f w : Int) : Int := if w = 0 then p_cnt (p_liv (p_Fs A f.toNat) (A 7 0) (A 7 1) (p_pr (p_Fs A f.toNat))) (2 ^ p_pr (p_Fs A f.toNat)) else if w = 1 then p_nl (p_Fs A f.toNat) (A 7 0) (A 7 1) (p_pr (p_Fs A f.toNat) + 1) else p_np (p_Fs A f.toNat) (A 7 0) (A 7 1)
noncomputable def o_opens (A : xM) (f w : Int) : Int × xM := p_if ((0 ≤ f ∧ f < A 6 0) ∧ 0 ≤ w ∧ w ≤ 2) (p_opv A f w, A) (p_err A 0)
theorem k_opens (hA : p_WF A) (hC : p_CI A M) {f w : Int} (h : ∀ M1, p_CI (o_opens A f w).2 M1 → p_cfr M M1 → Q (some (0, (o_opens A f w).1)) M1) : x_Ev l E (6, 0, 0) m_X10_opens 0 [(20, 5), (0, f), (0, w), (5, 0), (5, 0), (5, 0), (5, 0)] [] M Q := by
  unfold o_opens at h
  have w0 := hA.1.1
  have bad : ¬ ((0 ≤ f ∧ f < A 6 0) ∧ 0 ≤ w ∧ w ≤ 2) → x_Ev l E (1, 0, 0) m_X10_tell 0 [(20, 5), (0, 0)] [] M (fun r M3 => ∃ z, r = some (0, z) ∧ Q (some (0, z)) M3) := fun c => by
    rw [p_if_f c] at h
    exact k_tl hA hC (by omega) (fun M1 a b => ⟨_, rfl, h M1 a b⟩)
  refine u_X10_opens_0 f w (k_NF hC (fun c => x_y1 (by omega) (bad (fun q => c q.1))) (fun c => x_y0 ⟨fun d => bad (by omega), fun d => ⟨fun e => ?_, fun e => bad (by omega)⟩⟩))
  rw [p_if_t ⟨c, by omega⟩] at h
  refine k_fp hA hC c (fun M1 n S k c1 c2 s1 s2 s3 s4 s5 s6 s7 s8 => ⟨rfl, fun g => ⟨by omega, ?_⟩, fun g => ?_⟩)
  · rw [show 8 + 1 + 4 * f = 9 + 4 * f by omega]
    obtain ⟨t1, t2, t3, t4⟩ := p_CI_t hA c1 c
    obtain ⟨-, pr7, -⟩ := p_prA hA c
    have main : ∀ (m d : Nat) (v b : Int) (x : Int), p_pr (p_Fs A f.toNat) + 1 - d ≤ m → d ≤ p_pr (p_Fs A f.toNat) + 1 → v = b + p_nl (p_Fs A f.toNat) (A 7 0) (A 7 1) d → -2000 ≤ b → b ≤ 0 → Q (some (0, b + p_nl (p_Fs A f.toNat) (A 7 0) (A 7 1) (p_pr (p_Fs A f.toNat) + 1))) M1 → x_Ev l E (6, 0, 0) m_X10_opens 72 [(20, 5), (0, f), (0, w), (0, ((p_pr (p_Fs A f.toNat) : Nat) : Int)), (0, x), (0, v), (0, (d : Int))] [] M1 Q := by
      intro m
      induction m with
      | zero =>
        intro d v b x hm hd hv b1 b2 hq
        have ed : d = p_pr (p_Fs A f.toNat) + 1 := by omega
        refine u_X10_opens_72 f w _ x v d ⟨fun _ => ?_, fun z => by omega⟩
        rw [hv, ed]; exact hq
      | succ m ih =>
        intro d v b x hm hd hv b1 b2 hq
        by_cases ed : d = p_pr (p_Fs A f.toNat) + 1
        · exact ih d v b x (by omega) hd hv b1 b2 hq
        refine u_X10_opens_72 f w _ x v d ⟨fun z => by omega, fun z => ⟨by omega, ?_⟩⟩
        rw [show 41 + 8 + 9 * f = 49 + 9 * f by omega]
        refine c_liveNodes t1 s3 s1 s2 t3 (by omega) ⟨_, rfl, ?_⟩
        intro v2 hv2 v3 hv3
        have e1 : p_nl (p_Fs A f.toNat) (A 7 0) (A 7 1) (d + 1) = p_nl (p_Fs A f.toNat) (A 7 0) (A 7 1) d + p_cnt (p_liv (p_Fs A f.toNat) (A 7 0) (A 7 1) d) (2 ^ d) := rfl
        have l1 := p_nl_le (p_Fs A f.toNat) (A 7 0) (A 7 1) (d + 1) (by omega)
        rw [x_w_id (by omega) (by omega)] at hv2 hv3
        rw [hv3]
        exact ih (d + 1) v2 b x (by omega) (by omega) (by rw [hv2, hv, e1]; omega) b1 b2 hq
    have l1 := p_nl_le (p_Fs A f.toNat) (A 7 0) (A 7 1) (p_pr (p_Fs A f.toNat)) (by omega)
    refine k_prs hA c1 c ⟨_, rfl, fun g2 => ?_, fun g2 => ?_⟩
    · have ew : w = 1 := by omega
      have e : p_opv A f w = p_nl (p_Fs A f.toNat) (A 7 0) (A 7 1) (p_pr (p_Fs A f.toNat) + 1) := by rw [ew]; rfl
      rw [e] at h
      refine main (p_pr (p_Fs A f.toNat) + 1) 0 0 0 0 (by omega) (by omega) rfl (by omega) (by omega) ?_
      rw [Int.zero_add]
      exact h M1 c1 c2
    · have e : p_opv A f w = p_cnt (p_liv (p_Fs A f.toNat) (A 7 0) (A 7 1) (p_pr (p_Fs A f.toNat))) (2 ^ p_pr (p_Fs A f.toNat)) := by rw [g2]; rfl
      rw [e] at h
      have e1 : p_nl (p_Fs A f.toNat) (A 7 0) (A 7 1) (p_pr (p_Fs A f.toNat) + 1) = p_nl (p_Fs A f.toNat) (A 7 0) (A 7 1) (p_pr (p_Fs A f.toNat)) + p_cnt (p_liv (p_Fs A f.toNat) (A 7 0) (A 7 1) (p_pr (p_Fs A f.toNat))) (2 ^ p_pr (p_Fs A f.toNat)) := rfl
      refine main 1 (p_pr (p_Fs A f.toNat)) 0 (-(p_nl (p_Fs A f.toNat) (A 7 0) (A 7 1) (p_pr (p_Fs A f.toNat)) : Int)) _ (by omega) (by omega) (by omega) (by omega) (by omega) ?_
      rw [e1, show -(p_nl (p_Fs A f.toNat) (A 7 0) (A 7 1) (p_pr (p_Fs A f.toNat)) : Int) + ((p_nl (p_Fs A f.toNat) (A 7 0) (A 7 1) (p_pr (p_Fs A f.toNat)) + p_cnt (p_liv (p_Fs A f.toNat) (A 7 0) (A 7 1) (p_pr (p_Fs A f.toNat))) (2 ^ p_pr (p_Fs A f.toNat)) : Nat) : Int) = (p_cnt (p_liv (p_Fs A f.toNat) (A 7 0) (A 7 1) (p_pr (p_Fs A f.toNat))) (2 ^ p_pr (p_Fs A f.toNat)) : Int) by omega]
      exact h M1 c1 c2
  · have e : p_opv A f w = p_np (p_Fs A f.toNat) (A 7 0) (A 7 1) := by rw [g]; rfl
    rw [e] at h
    rw [s8]; exact h M1 c1 c2
theorem r_opens (hA : p_WF A) (hR : p_RI A M) {f w : Int} (h : ∀ M1, p_RI (o_opens A f w).2 M1 → p_rfr M M1 → Q (some (0, (o_opens A f w).1)) M1) : x_Ev l E (11, 0, 0) m_X11_opens 0 [(21, 103), (0, f), (0, w)] [] M Q := by
  unfold o_opens at h
  have w0 := hA.1.1
  have bad : ¬ ((0 ≤ f ∧ f < A 6 0) ∧ 0 ≤ w ∧ w ≤ 2) → x_Ev l E (1, 0, 0) m_X11_finds 0 [(21, 103), (0, 0)] [] M (fun r M3 => ∃ z, r = some (0, z) ∧ Q (some (0, z)) M3) := fun c => by
    rw [p_if_f c] at h
    exact r_tl hA hR (by omega) (fun M1 a b => ⟨_, rfl, h M1 a b⟩)
  refine u_X11_opens_0 f w (r_F hA hR (fun c => x_n1 (by omega) (r_in (fun d => x_y1 (by omega) ?_) (fun d => x_y0 (bad (fun q => d q.2))))) (fun c => x_n0 (bad (fun q => c q.1))))
  rw [p_if_t ⟨c, d⟩] at h
  have hpq := (p_W_tm hA).1
  refine r_bo hA hR c (fun M1 n S c1 c2 s1 s2 s3 s4 => ⟨rfl, fun g => ⟨fun g2 => ?_, fun g2 => ?_⟩, fun g => ?_⟩)
  · have ew : w = 2 := by omega
    obtain ⟨rf, wf⟩ := p_RI_f hA c1 c
    have e : p_opv A f w = p_np (p_Fs A f.toNat) (A 7 0) (A 7 1) := by rw [ew]; rfl
    rw [e] at h
    exact c_proofMany (by omega) wf rf hpq s3 s1 s2 ⟨_, rfl, h M1 c1 c2⟩
  · obtain ⟨rf, wf⟩ := p_RI_f hA c1 c
    have e : p_opv A f w = p_nl (p_Fs A f.toNat) (A 7 0) (A 7 1) (p_pr (p_Fs A f.toNat) + 1) := by rw [g2]; rfl
    rw [e] at h
    exact c_liveMany (by omega) wf rf s3 s1 s2 s4 ⟨_, rfl, h M1 c1 c2⟩
  · obtain ⟨rf, wf⟩ := p_RI_f hA c1 c
    have e : p_opv A f w = p_cnt (p_liv (p_Fs A f.toNat) (A 7 0) (A 7 1) (p_pr (p_Fs A f.toNat))) (2 ^ p_pr (p_Fs A f.toNat)) := by rw [g]; rfl
    rw [e] at h
    exact c_openMany (by omega) wf rf s3 s1 s2 s4 ⟨_, rfl, h M1 c1 c2⟩
theorem wf_opens (hA : p_WF A) (f w : Int) : p_WF (o_opens A f w).2 := by
  unfold o_opens
  by_cases c : (0 ≤ f ∧ f < A 6 0) ∧ 0 ≤ w ∧ w ≤ 2
  · rw [p_if_t c]; exact hA
  · rw [p_if_f c]; exact wf_tl hA 0
def p_oaE (A : xM) (f k : Int) : Prop := ∃ s : Nat, s < 2 ^ p_pr (p_Fs A f.toNat) ∧ p_liv (p_Fs A f.toNat) (A 7 0) (A 7 1) (p_pr (p_Fs A f.toNat)) s ∧ (p_cnt (p_liv (p_Fs A f.toNat) (A 7 0) (A 7 1) (p_pr (p_Fs A f.toNat))) s : Int) = k
noncomputable def o_openAt (A : xM) (f k : Int) : Int × xM := p_if (0 ≤ f ∧ f < A 6 0) (p_if (p_oaE A f k) (p_oa (p_liv (p_Fs A f.toNat) (A 7 0) (A 7 1) (p_pr (p_Fs A f.toNat))) (2 ^ p_pr (p_Fs A f.toNat)) k, A) (p_err A 3)) (p_err A 0)
theorem k_openAt (hA : p_WF A) (hC : p_CI A M) {f k : Int} (hk : -2147483648 ≤ k ∧ k < 2147483648) (h : ∀ M1, p_CI (o_openAt A f k).2 M1 → p_cfr M M1 → Q (some (0, (o_openAt A f k).1)) M1) : x_Ev l E (6, 0, 0) m_X10_openAt 0 [(20, 5), (0, f), (0, k), (5, 0), (5, 0), (5, 0)] [] M Q := by
  unfold o_openAt at h
  have w0 := hA.1.1
  refine u_X10_openAt_0 f k (k_NF hC (fun c => x_n1 (by omega) ?_) (fun c => x_n0 ?_))
  · rw [p_if_f c] at h
    exact k_tl hA hC (by omega) (fun M1 a b => ⟨_, rfl, h M1 a b⟩)
  rw [p_if_t c] at h
  refine k_fp hA hC c (fun M1 n S j c1 c2 s1 s2 s3 s4 s5 s6 s7 s8 => ⟨rfl, by omega, ?_⟩)
  rw [show 8 + 1 + 4 * f = 9 + 4 * f by omega]
  refine k_prs hA c1 c ⟨_, rfl, ?_⟩
  obtain ⟨t1, t2, t3, t4⟩ := p_CI_t hA c1 c
  obtain ⟨-, pr7, p128⟩ := p_prA hA c
  have none' : ¬ p_oaE A f k → x_Ev l E (1, 0, 0) m_X10_tell 0 [(20, 5), (0, 3)] [] M1 (fun r M3 => ∃ z, r = some (0, z) ∧ Q (some (0, z)) M3) := fun z => by
    rw [p_if_f z] at h
    exact k_tl hA c1 (by omega) (fun M2 a b => ⟨_, rfl, h M2 a (p_cfr_tr c2 b)⟩)
  have main : ∀ (m s : Nat) (v : Int), 2 ^ p_pr (p_Fs A f.toNat) - s ≤ m → s ≤ 2 ^ p_pr (p_Fs A f.toNat) → v = k - p_cnt (p_liv (p_Fs A f.toNat) (A 7 0) (A 7 1) (p_pr (p_Fs A f.toNat))) s → (0 ≤ v ∨ k < 0) → (∀ s' : Nat, s' < s → ¬ (p_liv (p_Fs A f.toNat) (A 7 0) (A 7 1) (p_pr (p_Fs A f.toNat)) s' ∧ (p_cnt (p_liv (p_Fs A f.toNat) (A 7 0) (A 7 1) (p_pr (p_Fs A f.toNat))) s' : Int) = k)) → x_Ev l E (6, 0, 0) m_X10_openAt 38 [(20, 5), (0, f), (0, k), (0, ((p_pr (p_Fs A f.toNat) : Nat) : Int)), (0, v), (0, (s : Int))] [] M1 Q := by
    intro m
    induction m with
    | zero =>
      intro s v hm hs hv h0 hno
      have es : s = 2 ^ p_pr (p_Fs A f.toNat) := by omega
      refine u_X10_openAt_38 f k _ v s ⟨fun _ => none' (fun ⟨s', q1, q2, q3⟩ => hno s' (by omega) ⟨q2, q3⟩), fun z => absurd ?_ z⟩
      rw [x_shl (by omega), es]
      exact Int.le_refl _
    | succ m ih =>
      intro s v hm hs hv h0 hno
      by_cases es : s = 2 ^ p_pr (p_Fs A f.toNat)
      · exact ih s v (by omega) hs hv h0 hno
      refine u_X10_openAt_38 f k _ v s ⟨fun z => ?_, fun z => ⟨fun z2 => none' (fun ⟨s', q1, q2, q3⟩ => by omega), fun z2 => ⟨by omega, ?_⟩⟩⟩
      · rw [x_shl (by omega)] at z
        omega
      rw [show 41 + 8 + 9 * f = 49 + 9 * f by omega]
      have cl := p_cnt_le (p_liv (p_Fs A f.toNat) (A 7 0) (A 7 1) (p_pr (p_Fs A f.toNat))) s
      refine c_isLive t1 s3 s1 s2 t3 (by omega) (by omega) (fun g => x_n1 (by omega) ⟨fun g2 => ?_, fun g2 => ?_⟩) (fun g => x_n0 ?_)
      · intro v1 hv1 v2 hv2
        rw [x_w_id (by omega) (by omega)] at hv1 hv2
        have e1 := (p_cnt_s (P := p_liv (p_Fs A f.toNat) (A 7 0) (A 7 1) (p_pr (p_Fs A f.toNat))) (s := s)).1 g
        rw [hv2]
        refine ih (s + 1) v1 (by omega) (by omega) (by omega) (by omega) (fun s' q1 q2 => ?_)
        by_cases e : s' = s
        · rw [e] at q2; omega
        · exact hno s' (by omega) q2
      · have ex : s < 2 ^ p_pr (p_Fs A f.toNat) ∧ p_liv (p_Fs A f.toNat) (A 7 0) (A 7 1) (p_pr (p_Fs A f.toNat)) s ∧ (p_cnt (p_liv (p_Fs A f.toNat) (A 7 0) (A 7 1) (p_pr (p_Fs A f.toNat))) s : Int) = k := ⟨by omega, g, by omega⟩
        rw [p_if_t (c := p_oaE A f k) ⟨s, ex⟩, p_oa_eq ex] at h
        exact h M1 c1 c2
      · intro v2 hv2
        rw [x_w_id (by omega) (by omega)] at hv2
        have e1 := (p_cnt_s (P := p_liv (p_Fs A f.toNat) (A 7 0) (A 7 1) (p_pr (p_Fs A f.toNat))) (s := s)).2 g
        rw [hv2]
        refine ih (s + 1) v (by omega) (by omega) (by rw [e1]; exact hv) h0 (fun s' q1 q2 => ?_)
        by_cases e : s' = s
        · rw [e] at q2; exact g q2.1
        · exact hno s' (by omega) q2
  exact main _ 0 k (Nat.le_refl _) (Nat.zero_le _) (by show k = k - ((0 : Nat) : Int); omega) (by omega) (fun s' q => by omega)
theorem r_openAt (hA : p_WF A) (hR : p_RI A M) {f k : Int} (h : ∀ M1, p_RI (o_openAt A f k).2 M1 → p_rfr M M1 → Q (some (0, (o_openAt A f k).1)) M1) : x_Ev l E (11, 0, 0) m_X11_openAt 0 [(21, 103), (0, f), (0, k), (5, 0), (5, 0)] [] M Q := by
  unfold o_openAt at h
  have w0 := hA.1.1
  refine u_X11_openAt_0 f k (r_F hA hR (fun c => x_y1 (by omega) ?_) (fun c => x_y0 ?_))
  · rw [p_if_t c] at h
    refine r_bo hA hR c (fun M1 n S c1 c2 s1 s2 s3 s4 => ⟨rfl, ?_⟩)
    obtain ⟨rf, wf⟩ := p_RI_f hA c1 c
    obtain ⟨-, pr7, p128⟩ := p_prA hA c
    have main : ∀ (m s : Nat), 2 ^ p_pr (p_Fs A f.toNat) - s ≤ m → s ≤ 2 ^ p_pr (p_Fs A f.toNat) → (∀ s' : Nat, s' < s → ¬ (p_liv (p_Fs A f.toNat) (A 7 0) (A 7 1) (p_pr (p_Fs A f.toNat)) s' ∧ (p_cnt (p_liv (p_Fs A f.toNat) (A 7 0) (A 7 1) (p_pr (p_Fs A f.toNat))) s' : Int) = k)) → x_Ev l E (11, 0, 0) m_X11_openAt 24 [(21, 103), (0, f), (0, k), (0, (p_cnt (p_liv (p_Fs A f.toNat) (A 7 0) (A 7 1) (p_pr (p_Fs A f.toNat))) s : Int) - 1), (0, (s : Int))] [] M1 Q := by
      intro m
      induction m with
      | zero =>
        intro s hm hs hno
        have es : s = 2 ^ p_pr (p_Fs A f.toNat) := by omega
        refine u_X11_openAt_24 f k _ s (c_Rpairs (by omega) wf rf ⟨_, rfl, fun _ => ?_, fun z => absurd ?_ z⟩)
        · have nn : ¬ p_oaE A f k := fun ⟨s', q1, q2, q3⟩ => hno s' (by omega) ⟨q2, q3⟩
          rw [p_if_f nn] at h
          exact r_tl hA c1 (by omega) (fun M2 a b => ⟨_, rfl, h M2 a (p_rfr_tr c2 b)⟩)
        · rw [x_shl (by omega), es]
          exact Int.le_refl _
      | succ m ih =>
        intro s hm hs hno
        by_cases es : s = 2 ^ p_pr (p_Fs A f.toNat)
        · exact ih s (by omega) hs hno
        have cl := p_cnt_le (p_liv (p_Fs A f.toNat) (A 7 0) (A 7 1) (p_pr (p_Fs A f.toNat))) s
        obtain ⟨e1, e2⟩ := p_cnt_s (P := p_liv (p_Fs A f.toNat) (A 7 0) (A 7 1) (p_pr (p_Fs A f.toNat))) (s := s)
        refine u_X11_openAt_24 f k _ s (c_Rpairs (by omega) wf rf ⟨_, rfl, fun z => ?_, fun z => ?_⟩)
        · rw [x_shl (by omega)] at z
          omega
        have nx : ∀ v v2 : Int, v = (p_cnt (p_liv (p_Fs A f.toNat) (A 7 0) (A 7 1) (p_pr (p_Fs A f.toNat))) (s + 1) : Int) - 1 → v2 = x_w ((s : Int) + 1) → ¬ (p_liv (p_Fs A f.toNat) (A 7 0) (A 7 1) (p_pr (p_Fs A f.toNat)) s ∧ (p_cnt (p_liv (p_Fs A f.toNat) (A 7 0) (A 7 1) (p_pr (p_Fs A f.toNat))) s : Int) = k) → x_Ev l E (11, 0, 0) m_X11_openAt 24 [(21, 103), (0, f), (0, k), (0, v), (0, v2)] [] M1 Q := by
          intro v v2 hv hv2 hn
          rw [x_w_id (by omega) (by omega)] at hv2
          rw [hv, hv2]
          refine ih (s + 1) (by omega) (by omega) (fun s' q1 q2 => ?_)
          by_cases e : s' = s
          · rw [e] at q2; exact hn q2
          · exact hno s' (by omega) q2
        refine c_isOpenSet (by omega) wf rf s3 s1 s2 s4 (by omega) (fun g => x_n1 (by omega) ?_) (fun g => x_n0 ?_)
        · intro v hv
          rw [x_w_id (by omega) (by omega)] at hv
          have e1' := e1 g
          refine ⟨fun g2 v2 hv2 => nx v v2 (by omega) hv2 (fun q => by omega), fun g2 => ?_⟩
          refine c_isOpenSet (by omega) wf rf s3 s1 s2 s4 (by omega) (fun g' => x_n1 (by omega) ?_) (fun g' => absurd g g')
          have ex : s < 2 ^ p_pr (p_Fs A f.toNat) ∧ p_liv (p_Fs A f.toNat) (A 7 0) (A 7 1) (p_pr (p_Fs A f.toNat)) s ∧ (p_cnt (p_liv (p_Fs A f.toNat) (A 7 0) (A 7 1) (p_pr (p_Fs A f.toNat))) s : Int) = k := ⟨by omega, g, by omega⟩
          rw [p_if_t (c := p_oaE A f k) ⟨s, ex⟩, p_oa_eq ex] at h
          exact h M1 c1 c2
        · intro v hv
          rw [x_w_id (by omega) (by omega)] at hv
          have e2' := e2 g
          refine ⟨fun g2 v2 hv2 => nx v v2 (by omega) hv2 (fun q => g q.1), fun g2 => ?_⟩
          exact c_isOpenSet (by omega) wf rf s3 s1 s2 s4 (by omega) (fun g' => absurd g' g) (fun g' => x_n0 (fun v2 hv2 => nx v v2 (by omega) hv2 (fun q => g q.1)))
    exact main _ 0 (Nat.le_refl _) (Nat.zero_le _) (fun s' q => by omega)
  · rw [p_if_f c] at h
    exact r_tl hA hR (by omega) (fun M1 a b => ⟨_, rfl, h M1 a b⟩)
theorem wf_openAt (hA : p_WF A) (f k : Int) : p_WF (o_openAt A f k).2 := by
  unfold o_openAt
  by_cases c : 0 ≤ f ∧ f < A 6 0
  · rw [p_if_t c]
    by_cases d : p_oaE A f k
    · rw [p_if_t d]; exact hA
    · rw [p_if_f d]; exact wf_tl hA 3
  · rw [p_if_f c]; exact wf_tl hA 0
noncomputable def o_isOpen (A : xM) (f s : Int) : Int × xM := p_if ((0 ≤ f ∧ f < A 6 0) ∧ 0 ≤ s ∧ s < ((2 ^ p_pr (p_Fs A f.toNat) : Nat) : Int)) (p_if (p_liv (p_Fs A f.toNat) (A 7 0) (A 7 1) (p_pr (p_Fs A f.toNat)) s.toNat) 1 0, A) (p_err A 0)
theorem k_isOpen (hA : p_WF A) (hC : p_CI A M) {f s : Int} (h : ∀ M1, p_CI (o_isOpen A f s).2 M1 → p_cfr M M1 → Q (some (0, (o_isOpen A f s).1)) M1) : x_Ev l E (6, 0, 0) m_X10_isOpen 0 [(20, 5), (0, f), (0, s)] [] M Q := by
  unfold o_isOpen at h
  have w0 := hA.1.1
  have bad : ¬ ((0 ≤ f ∧ f < A 6 0) ∧ 0 ≤ s ∧ s < ((2 ^ p_pr (p_Fs A f.toNat) : Nat) : Int)) → x_Ev l E (1, 0, 0) m_X10_tell 0 [(20, 5), (0, 0)] [] M (fun r M3 => ∃ z, r = some (0, z) ∧ Q (some (0, z)) M3) := fun c => by
    rw [p_if_f c] at h
    exact k_tl hA hC (by omega) (fun M1 a b => ⟨_, rfl, h M1 a b⟩)
  refine u_X10_isOpen_0 f s (k_NF hC (fun c => x_y1 (by omega) (bad (fun q => c q.1))) (fun c => x_y0 ⟨fun d => bad (fun q => by omega), fun d => ⟨by omega, ?_⟩⟩))
  obtain ⟨-, pr7, p128⟩ := p_prA hA c
  rw [show 8 + 1 + 4 * f = 9 + 4 * f by omega, show 41 + 8 + 9 * f = 49 + 9 * f by omega]
  refine k_prs hA hC c ⟨_, rfl, ?_⟩
  rw [x_shl (by omega)]
  refine ⟨fun e => ?_, fun e => bad (fun q => e q.2.2)⟩
  rw [p_if_t ⟨c, by omega, e⟩] at h
  refine k_fp hA hC c (fun M1 n S j c1 c2 s1 s2 s3 s4 s5 s6 s7 s8 => ⟨rfl, by omega, by omega, k_prs hA c1 c ⟨_, rfl, ?_⟩⟩)
  obtain ⟨t1, t2, t3, t4⟩ := p_CI_t hA c1 c
  obtain ⟨x, hx⟩ : ∃ x : Nat, s = x := ⟨s.toNat, by omega⟩
  rw [hx] at h e ⊢
  rw [show ((x : Int)).toNat = x from rfl] at h
  refine c_isLive t1 s3 s1 s2 t3 (by omega) (by omega) (fun g => x_n1 (by omega) ?_) (fun g => x_n0 ?_)
  · rw [p_if_t g] at h; exact h M1 c1 c2
  · rw [p_if_f g] at h; exact h M1 c1 c2
theorem r_isOpen (hA : p_WF A) (hR : p_RI A M) {f s : Int} (h : ∀ M1, p_RI (o_isOpen A f s).2 M1 → p_rfr M M1 → Q (some (0, (o_isOpen A f s).1)) M1) : x_Ev l E (11, 0, 0) m_X11_isOpen 0 [(21, 103), (0, f), (0, s)] [] M Q := by
  unfold o_isOpen at h
  have w0 := hA.1.1
  have bad : ¬ ((0 ≤ f ∧ f < A 6 0) ∧ 0 ≤ s ∧ s < ((2 ^ p_pr (p_Fs A f.toNat) : Nat) : Int)) → x_Ev l E (1, 0, 0) m_X11_finds 0 [(21, 103), (0, 0)] [] M (fun r M3 => ∃ z, r = some (0, z) ∧ Q (some (0, z)) M3) := fun c => by
    rw [p_if_f c] at h
    exact r_tl hA hR (by omega) (fun M1 a b => ⟨_, rfl, h M1 a b⟩)
  refine u_X11_isOpen_0 f s (r_F hA hR (fun c => x_n1 (by omega) ?_) (fun c => x_n0 (bad (fun q => c q.1))))
  obtain ⟨rf, wf⟩ := p_RI_f hA hR c
  obtain ⟨-, pr7, p128⟩ := p_prA hA c
  have p1 : 1 ≤ 2 ^ p_pr (p_Fs A f.toNat) := Nat.one_le_two_pow
  refine c_Rpairs (by omega) wf rf ⟨_, rfl, ?_⟩
  rw [x_shl (by omega), x_w_id (by omega) (by omega)]
  refine r_in (fun d => x_y1 (by omega) ?_) (fun d => x_y0 (bad (fun q => d (by omega))))
  rw [p_if_t ⟨c, by omega, by omega⟩] at h
  refine r_bo hA hR c (fun M1 n S c1 c2 s1 s2 s3 s4 => ⟨rfl, ?_⟩)
  obtain ⟨rf1, -⟩ := p_RI_f hA c1 c
  obtain ⟨x, hx⟩ : ∃ x : Nat, s = x := ⟨s.toNat, by omega⟩
  rw [hx] at h d ⊢
  rw [show ((x : Int)).toNat = x from rfl] at h
  refine c_isOpenSet (by omega) wf rf1 s3 s1 s2 s4 (by omega) (fun g => x_n1 (by omega) ?_) (fun g => x_n0 ?_)
  · rw [p_if_t g] at h; exact h M1 c1 c2
  · rw [p_if_f g] at h; exact h M1 c1 c2
theorem wf_isOpen (hA : p_WF A) (f s : Int) : p_WF (o_isOpen A f s).2 := by
  unfold o_isOpen
  by_cases c : (0 ≤ f ∧ f < A 6 0) ∧ 0 ≤ s ∧ s < ((2 ^ p_pr (p_Fs A f.toNat) : Nat) : Int)
  · rw [p_if_t c]; exact hA
  · rw [p_if_f c]; exact wf_tl hA 0
noncomputable def p_prv (F : xM) (p q r w : Int) : Int := if w = 0 then p_nu (p_Y F p q (p_pp F p q) r) (p_b (p_C F (p_pp F p q)) * q) else p_de (p_Y F p q (p_pp F p q) r) (p_b (p_C F (p_pp F p q)) * q)
noncomputable def o_price (A : xM) (f r w : Int) : Int × xM := p_if (((0 ≤ f ∧ f < A 6 0) ∧ 0 ≤ r ∧ r < A (9 + 4 * f) 3) ∧ 0 ≤ w ∧ w ≤ 1) (p_prv (p_Fs A f.toNat) (A 7 0) (A 7 1) r w, A) (p_erL A 0)
theorem p_prv_eq {F : xM} (hF : p_wf F) {p q : Int} (hq : 0 < q) {s : Nat} (h : p_lp F p q s) {r w : Int} (hr : 0 ≤ r) (hr2 : r < F 0 3) : (if w = 0 then p_nu (p_Y F p q s r) (p_b (p_C F s) * q) else p_de (p_Y F p q s r) (p_b (p_C F s) * q)) = p_prv F p q r w := by
  unfold p_prv
  rw [(p_pp_eq hF hq h hr hr2).1, (p_pp_eq hF hq h hr hr2).2]
theorem k_price (hA : p_WF A) (hC : p_CI A M) {f r w : Int} (h : ∀ M1, p_CI (o_price A f r w).2 M1 → p_cfr M M1 → Q (some (1, (o_price A f r w).1)) M1) : x_Ev l E (6, 0, 0) m_X10_price 0 [(20, 5), (0, f), (0, r), (0, w)] [] M Q := by
  unfold o_price at h
  have w0 := hA.1.1
  have bad : ¬ (((0 ≤ f ∧ f < A 6 0) ∧ 0 ≤ r ∧ r < A (9 + 4 * f) 3) ∧ 0 ≤ w ∧ w ≤ 1) → x_Ev l E (1, 0, 0) m_X10_tellLong 0 [(20, 5), (0, 0)] [] M (fun r M3 => ∃ z, r = some (1, z) ∧ Q (some (1, z)) M3) := fun c => by
    rw [p_if_f c] at h
    exact k_tL hA hC (by omega) (fun M1 a b => ⟨_, rfl, h M1 a b⟩)
  refine u_X10_price_0 f r w (k_NR hA hC (fun c => x_y1 (by omega) (bad (fun q => c q.1))) (fun c => x_y0 (k_NP (fun d => x_n1 (by omega) (bad (fun q => d q.2))) (fun d => x_n0 ?_))))
  have gd := p_gd hA c.1
  rw [p_if_t ⟨c, d⟩] at h
  have hpq := (p_W_tm hA).1
  refine k_fp hA hC c.1 (fun M1 n S k c1 c2 s1 s2 s3 s4 s5 s6 s7 s8 => ⟨rfl, u_X5_tellProof_0 r 86 ?_⟩)
  obtain ⟨t1, t2, t3, t4⟩ := p_CI_t hA c1 c.1
  have r3 : r < p_Fs A f.toNat 0 3 := by rw [p_Fs0 A c.1.1]; exact c.2.2
  obtain ⟨u1, u2, u3⟩ := s2.2 k s4
  obtain ⟨v1, v2⟩ := p_bS t1 (s1.1 k s4).1 (s1.1 k s4).2
  obtain ⟨x1, x2, x3⟩ := x_162 (e := p_b (p_C (p_Fs A f.toNat) (S k))) (q := A 7 1) ⟨v1, v2⟩ ⟨hpq.2.2.1, hpq.2.2.2⟩
  have yb := p_Y_bd t1 hpq (s1.1 k s4).1 (s1.1 k s4).2.1 r c.2.1 (by omega)
  rw [s5, s6, x_ix4 (by omega) (by omega) (by omega) (by omega), u1 r (by omega) (by omega), if_pos r3, u2, x1]
  refine ⟨by omega, by omega, ?_⟩
  have := k_two (l := l) (E := E) (M := M1) (Q := Q) (v := p_Y (p_Fs A f.toNat) (A 7 0) (A 7 1) (S k) r) (b := p_b (p_C (p_Fs A f.toNat) (S k)) * A 7 1) (p := w) (by omega) (by omega) (by omega) (fun M2 fr => by
    rw [p_prv_eq t1 (by have := hpq.2.2.1; omega) s7 c.2.1 r3]
    have fr' : ∀ a k, ¬ p_cs a k → M2 a k = M1 a k := fun a k q => fr a k (fun e => q (by unfold p_cs; omega))
    exact h M2 (p_CI_sc c1 fr') (p_cfr_tr c2 (p_cfr_sc fr')))
  exact this.mono (fun r M2 q => ⟨q.1, rfl, q.2⟩)
theorem r_price (hA : p_WF A) (hR : p_RI A M) {f r w : Int} (h : ∀ M1, p_RI (o_price A f r w).2 M1 → p_rfr M M1 → Q (some (1, (o_price A f r w).1)) M1) : x_Ev l E (10, 0, 0) m_X11_price 0 [(21, 103), (0, f), (0, r), (0, w), (5, 0)] [] M Q := by
  unfold o_price at h
  have w0 := hA.1.1
  have bad : ¬ (((0 ≤ f ∧ f < A 6 0) ∧ 0 ≤ r ∧ r < A (9 + 4 * f) 3) ∧ 0 ≤ w ∧ w ≤ 1) → x_Ev l E (1, 0, 0) m_X11_findsLong 0 [(21, 103), (0, 0)] [] M (fun r M3 => ∃ z, r = some (1, z) ∧ Q (some (1, z)) M3) := fun c => by
    rw [p_if_f c] at h
    exact r_tL hA hR (by omega) (fun M1 a b => ⟨_, rfl, h M1 a b⟩)
  refine u_X11_price_0 f r w (r_Row hA hR (fun c => x_n1 (by omega) (r_Part (fun d => x_y1 (by omega) ?_) (fun d => x_y0 (bad (fun q => d q.2))))) (fun c => x_n0 (bad (fun q => c q.1))))
  have gd := p_gd hA c.1
  rw [p_if_t ⟨c, d⟩] at h
  have hpq := (p_W_tm hA).1
  obtain ⟨rf, wf⟩ := p_RI_f hA hR c.1
  refine c_Rprices (by omega) wf rf hpq ⟨hR.1.2.2.1, hR.1.2.2.2.1⟩ (fun M1 n S s1 s2 s3 s4 => ⟨rfl, ?_⟩)
  have fr : ∀ a k, ¬ p_rsc a k → M1 a k = M a k := fun a k q => s4 a k (fun e => q (by unfold p_rsc; omega)) (fun e => q (by unfold p_rsc; omega)) (fun e => q (by unfold p_rsc; omega))
  have c1 := p_RI_sc hA hR fr
  obtain ⟨rf1, -⟩ := p_RI_f hA c1 c.1
  refine c_theProof (by omega) wf rf1 hpq s3 s1 s2 (fun k hk s7 => ⟨_, rfl, by omega, by omega, by omega, ?_⟩)
  have r3 : r < p_Fs A f.toNat 0 3 := by rw [p_Fs0 A c.1.1]; exact c.2.2
  obtain ⟨u1, u2, u3⟩ := s2.2 k hk
  obtain ⟨v1, v2⟩ := p_bS wf (s1.1 k hk).1 (s1.1 k hk).2
  obtain ⟨x1, x2, x3⟩ := x_162 (e := p_b (p_C (p_Fs A f.toNat) (S k))) (q := A 7 1) ⟨v1, v2⟩ ⟨hpq.2.2.1, hpq.2.2.2⟩
  have yb := p_Y_bd wf hpq (s1.1 k hk).1 (s1.1 k hk).2.1 r c.2.1 (by omega)
  rw [show 284 + 1 + 1 * (k : Int) = 285 + (k : Int) by omega, u1 r c.2.1 r3, u2, c1.1.2.2.2.1, x1]
  refine c_part (by omega) (by omega) (by omega) ⟨_, rfl, ?_⟩
  rw [p_prv_eq wf (by have := hpq.2.2.1; omega) s7 c.2.1 r3]
  exact h M1 c1 (p_rfr_sc fr)
theorem wf_price (hA : p_WF A) (f r w : Int) : p_WF (o_price A f r w).2 := by
  unfold o_price
  by_cases c : ((0 ≤ f ∧ f < A 6 0) ∧ 0 ≤ r ∧ r < A (9 + 4 * f) 3) ∧ 0 ≤ w ∧ w ≤ 1
  · rw [p_if_t c]; exact hA
  · rw [p_if_f c]; exact wf_tl hA 0
end O6
