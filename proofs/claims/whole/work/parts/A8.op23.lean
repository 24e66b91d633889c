/-! mostFor -/
noncomputable def p_mfp (A : xM) (v m : Int) : Prop := v * p_bsA A m 1 ≤ p_bsA A m 0
noncomputable def o_mostFor (A : xM) (v : Int) : Int × xM := p_if (-9999 ≤ v ∧ v ≤ 9999) (p_if (p_f1 (p_mfp A v) 40 1 < 0) (p_err A 3) (p_f1 (p_mfp A v) 40 1, A)) (p_err A 0)
section P24
variable {l : Launch} {E : xE} {Q : Option xV → xM → Prop} {A M : xM}
theorem p_bs_ok {Fs : Nat → xM} {m : Nat} (hF : ∀ f, f < m → p_wf (Fs f)) (most : Int) : 0 ≤ p_best Fs m most 4 ∧ 0 < p_best Fs m most 1 := by
  obtain ⟨n, P, R, T⟩ := p_bt_ex hF (-1) most
  have I := p_Iv_sb hF (most := most) T (n + 2)
  rw [p_best_eq T] at I
  have c : p_cn most n P R (n + 2) 0 1 0 := ⟨0, by omega, by unfold p_pt; rw [if_pos rfl], by unfold p_pq; rw [if_pos rfl], Or.inl rfl⟩
  have h4 := (I.1 _ _ _ c).1
  obtain ⟨i1, i2, i3⟩ := I.2 h4
  have pd := (I.1 _ _ _ i1).2.1
  rw [← i3] at pd
  exact ⟨h4, pd⟩
theorem p_WF_wf (hA : p_WF A) : ∀ f, f < (A 6 0).toNat → p_wf (p_Fs A f) := fun f hf => hA.1.2.2.2.2.2.2.2 f (by omega)
theorem p_mfp_mono (hA : p_WF A) {v m m' : Int} (h1 : 1 ≤ m) (h2 : m ≤ m') (h3 : m' ≤ 40) (h : p_mfp A v m) : p_mfp A v m' := by
  have o := p_bs_ok (p_WF_wf hA) m
  have o' := p_bs_ok (p_WF_wf hA) m'
  have mo := p_mono (p_WF_wf hA) h1 h2 h3 o.1
  unfold p_mfp p_bsA at *
  have g := q_le_tr2 (a := v) (b := 1) (c := p_best (p_Fs A) (A 6 0).toNat m 0) (d := p_best (p_Fs A) (A 6 0).toNat m 1) (e := p_best (p_Fs A) (A 6 0).toNat m' 0) (f := p_best (p_Fs A) (A 6 0).toNat m' 1) (by omega) o.2 o'.2 (by omega) mo
  omega
theorem p_f1_is {P : Int → Prop} {r : Int} : ∀ (m : Nat) (g : Int), g ≤ r → r < g + m → P r → (∀ i, g ≤ i → i < r → ¬ P i) → p_f1 P m g = r := by
  intro m
  induction m with
  | zero => intro g h1 h2; omega
  | succ m ih =>
    intro g h1 h2 h3 h4
    show p_if (P g) g (p_f1 P m (g + 1)) = r
    by_cases e : g = r
    · rw [e, p_if_t h3]
    · rw [p_if_f (h4 g (Int.le_refl _) (by omega))]
      exact ih (g + 1) (by omega) (by omega) h3 (fun i i1 i2 => h4 i (by omega) i2)
theorem p_f1_no {P : Int → Prop} : ∀ (m : Nat) (g : Int), (∀ i, g ≤ i → i < g + m → ¬ P i) → p_f1 P m g = -1 := by
  intro m
  induction m with
  | zero => intro g _; rfl
  | succ m ih =>
    intro g h
    show p_if (P g) g (p_f1 P m (g + 1)) = -1
    rw [p_if_f (h g (Int.le_refl _) (by omega))]
    exact ih (g + 1) (fun i i1 i2 => h i (by omega) (by omega))
theorem k_mostFor (hA : p_WF A) (hC : p_CI A M) {v : Int} (h : ∀ M1, p_CI (o_mostFor A v).2 M1 → p_cfr M M1 → Q (some (0, (o_mostFor A v).1)) M1) : x_Ev l E (7, 0, 0) m_X10_mostFor 0 [(20, 5), (0, v), (5, 0), (5, 0), (5, 0), (5, 0)] [] M Q := by
  unfold o_mostFor at h
  have bad : ¬ (-9999 ≤ v ∧ v ≤ 9999) → x_Ev l E (1, 0, 0) m_X10_tell 0 [(20, 5), (0, 0)] [] M (fun r M3 => ∃ z, r = some (0, z) ∧ Q (some (0, z)) M3) := fun c => by
    rw [p_if_f c] at h
    exact k_tl hA hC (by omega) (fun M1 a b => ⟨_, rfl, h M1 a b⟩)
  refine u_X10_mostFor_0 v ⟨fun c => bad (by omega), fun c => ⟨fun d => ?_, fun d => bad (by omega)⟩⟩
  rw [p_if_t (by omega)] at h
  have main : ∀ (m : Nat) (lo hi k : Int) (M' : xM), hi - lo ≤ m → 1 ≤ lo → lo ≤ hi → hi ≤ 41 → 0 ≤ k → hi - lo + k ≤ 40 → (∀ i, 1 ≤ i → i < lo → ¬ p_mfp A v i) → (hi ≤ 40 → p_mfp A v hi) → p_CI A M' → p_cfr M M' → x_Ev l E (7, 0, 0) m_X10_mostFor 28 [(20, 5), (0, v), (0, lo), (0, hi), (0, k), (5, 0)] [] M' Q := by
    intro m
    induction m with
    | zero =>
      intro lo hi k M' hm l1 l2 l3 k0 k1 n1 n2 cI cf
      have e : lo = hi := by omega
      have fin : (hi ≤ 40 → Q (some (0, hi)) M') ∧ (¬ hi ≤ 40 → x_Ev l E (1, 0, 0) m_X10_tell 0 [(20, 5), (0, 3)] [] M' (fun r M3 => ∃ z, r = some (0, z) ∧ Q (some (0, z)) M3)) := by
        refine ⟨fun z => ?_, fun z => ?_⟩
        · rw [p_f1_is (r := hi) 40 1 (by omega) (by omega) (n2 z) (fun i i1 i2 => n1 i i1 (by omega)), p_if_f (by omega)] at h
          exact h M' cI cf
        · rw [p_f1_no 40 1 (fun i i1 i2 => n1 i i1 (by omega)), p_if_t (by omega)] at h
          exact k_tl hA cI (by omega) (fun M1 a b => ⟨_, rfl, h M1 a (p_cfr_tr cf b)⟩)
      exact u_X10_mostFor_28 v lo hi k ⟨fun _ => fin, fun _ => ⟨fun _ => fin, fun z => by omega⟩⟩
    | succ m ih =>
      intro lo hi k M' hm l1 l2 l3 k0 k1 n1 n2 cI cf
      by_cases e : lo = hi
      · exact ih lo hi k M' (by omega) l1 l2 l3 k0 k1 n1 n2 cI cf
      refine u_X10_mostFor_28 v lo hi k ⟨fun z => by omega, fun _ => ⟨fun z => by omega, fun _ => ?_⟩⟩
      intro z5 hz5
      rw [x_w_id (x := lo + hi) (by omega) (by omega), Int.tdiv_eq_ediv_of_nonneg (by omega), x_w_id (by omega) (by omega)] at hz5
      refine k_seek hA cI (by omega) (fun M1 c1 bv b4 bm _ fr => ⟨rfl, ?_⟩)
      obtain ⟨-, bm2⟩ := bm
      obtain ⟨e0, e1, -⟩ := bm2 b4
      obtain ⟨-, -, bv3⟩ := bv
      obtain ⟨bd0, bd1, bd2, -⟩ := bv3 b4
      have mb := x_mb (a := v) (b := p_bsA A z5 1) (A := 9999) (B := 17006112000000) (by omega) (by omega)
      rw [e0, e1, x_W_id (by omega) (by omega)]
      have cf1 : p_cfr M M1 := p_cfr_tr cf (p_cfr_sc (fun a j q => fr a j (fun e => q (by unfold p_cs; omega)) (p_cs_st q)))
      refine ⟨fun lt v7 h7 v8 h8 => ?_, fun ge v9 h9 => ?_⟩
      · rw [x_w_id (by omega) (by omega)] at h7 h8
        rw [h7, h8]
        refine ih (z5 + 1) hi (k + 1) M1 (by omega) (by omega) (by omega) l3 (by omega) (by omega) (fun i i1 i2 q => ?_) n2 c1 cf1
        have := p_mfp_mono hA i1 (show i ≤ z5 by omega) (by omega) q
        unfold p_mfp at this
        omega
      · rw [x_w_id (by omega) (by omega)] at h9
        rw [h9]
        exact ih lo z5 (k + 1) M1 (by omega) l1 (by omega) (by omega) (by omega) (by omega) n1 (fun _ => by unfold p_mfp; omega) c1 cf1
  exact main 40 1 41 0 M (by omega) (by omega) (by omega) (by omega) (by omega) (by omega) (fun i i1 i2 => by omega) (fun z => by omega) hC (p_cfr_rf M)
theorem r_mostFor (hA : p_WF A) (hR : p_RI A M) {v : Int} (h : ∀ M1, p_RI (o_mostFor A v).2 M1 → p_rfr M M1 → Q (some (0, (o_mostFor A v).1)) M1) : x_Ev l E (11, 0, 0) m_X11_mostFor 0 [(21, 103), (0, v), (5, 0), (5, 0), (5, 0)] [] M Q := by
  unfold o_mostFor at h
  refine u_X11_mostFor_0 v (r_in (fun c => x_y1 (by omega) ?_) (fun c => x_y0 ?_))
  · rw [p_if_t c] at h
    refine r_plans hA hR (fun M1 w1 fr1 => ⟨rfl, ?_⟩)
    intro v4 h4
    have e8 : M 103 8 = A 6 1 := hR.1.2.1
    rw [fr1 103 8 (by unfold p_rsc; omega), e8] at h4
    rw [h4]
    have fin : ∀ M' : xM, (∀ a k, ¬ (a = 103 ∧ k = 8) → ¬ p_rsc a k → M' a k = M a k) → p_RI A (x_wr M' 103 8 (A 6 1)) ∧ p_rfr M (x_wr M' 103 8 (A 6 1)) := by
      intro M' fr
      have g : ∀ a k, ¬ p_rsc a k → x_wr M' 103 8 (A 6 1) a k = M a k := fun a k q => by
        by_cases e : a = 103 ∧ k = 8
        · rw [e.1, e.2, x_wr_eq]; exact e8.symm
        · rw [x_wr_ne _ _ e]; exact fr a k e q
      exact ⟨p_RI_sc hA hR g, p_rfr_sc g⟩
    have found : ∀ (k : Int) (M' : xM), 0 ≤ k → k ≤ 40 → p_f1 (p_mfp A v) 40 1 = k → (∀ a k, ¬ (a = 103 ∧ k = 8) → ¬ p_rsc a k → M' a k = M a k) → x_Ev l E (11, 0, 0) m_X11_mostFor 34 [(21, 103), (0, v), (0, A 6 1), (0, k), (0, k + 1)] [] M' Q := by
      intro k M' k0 k1 e fr
      obtain ⟨f1, f2⟩ := fin M' fr
      rw [e, p_if_f (by omega)] at h
      have := h _ f1 f2
      refine u_X11_mostFor_34 v (A 6 1) k (k + 1) ⟨fun _ N1 e1 => ⟨fun _ => by rw [e1]; exact this, fun z => by omega⟩, fun _ => ⟨fun _ N1 e1 => by rw [e1]; exact this, fun z => by omega⟩⟩
    have main : ∀ (m : Nat) (k : Int) (M' : xM), 41 - k ≤ m → 1 ≤ k → k ≤ 41 → (∀ i, 1 ≤ i → i < k → ¬ p_mfp A v i) → p_RW M' (p_Fs A) (A 6 0).toNat → (∀ a k, ¬ (a = 103 ∧ k = 8) → ¬ p_rsc a k → M' a k = M a k) → x_Ev l E (11, 0, 0) m_X11_mostFor 34 [(21, 103), (0, v), (0, A 6 1), (0, -1), (0, k)] [] M' Q := by
      intro m
      induction m with
      | zero =>
        intro k M' hm k0 k1 n1 w fr
        refine u_X11_mostFor_34 v (A 6 1) (-1) k ⟨fun _ N1 e1 => ⟨fun z => by omega, fun _ => ?_⟩, fun z => by omega⟩
        obtain ⟨f1, f2⟩ := fin M' fr
        rw [p_f1_no 40 1 (fun i i1 i2 => n1 i i1 (by omega)), p_if_t (by omega)] at h
        rw [e1]
        exact r_tl hA f1 (by omega) (fun M1 a b => ⟨_, rfl, h M1 a (p_rfr_tr f2 b)⟩)
      | succ m ih =>
        intro k M' hm k0 k1 n1 w fr
        by_cases e : k = 41
        · exact ih k M' (by omega) k0 k1 n1 w fr
        refine u_X11_mostFor_34 v (A 6 1) (-1) k ⟨fun z => by omega, fun _ => ⟨fun z => by omega, fun _ N5 e5 => ?_⟩⟩
        have w5 : p_RW N5 (p_Fs A) (A 6 0).toNat := p_RW_fr w (fun a j q => by rw [e5]; exact x_wr_ne _ _ (by omega))
        refine c_findsBest p_ten_ok p_one_ok w5 (most := k) (by omega) (by rw [e5, x_wr_eq]) (fun M6 w6 bv b4 val bf => ⟨rfl, ?_⟩)
        have v0 := val 0 (by omega) (by omega)
        have v1 := val 1 (by omega) (by omega)
        obtain ⟨-, -, bv3⟩ := bv
        obtain ⟨bd0, bd1, bd2, -⟩ := bv3 b4
        rw [show (28 : Int) + 0 = 28 by omega] at v0
        rw [show (28 : Int) + 1 = 29 by omega] at v1
        rw [v0, v1]
        have fr6 : ∀ a j, ¬ (a = 103 ∧ j = 8) → ¬ p_rsc a j → M6 a j = M a j := fun a j q1 q2 => by
          rw [bf a j (fun e => q2 (by unfold p_rsc; omega)) (fun e => q2 (by unfold p_rsc; omega)) (fun e => q2 (by unfold p_rsc; omega)), e5, x_wr_ne _ _ q1]
          exact fr a j q1 q2
        refine c_compare (by omega) (by omega) (by omega) (by omega) ⟨_, rfl, fun lt v9 h9 => ?_, fun ge v9 h9 => ?_⟩
        · rw [x_w_id (by omega) (by omega)] at h9
          rw [h9]
          refine ih (k + 1) M6 (by omega) (by omega) (by omega) (fun i i1 i2 => ?_) w6 fr6
          by_cases ei : i = k
          · rw [ei]
            intro q
            unfold p_mfp p_bsA at q
            rcases p_cmp_cases (p_best (p_Fs A) (A 6 0).toNat k 0 * 1) (v * p_best (p_Fs A) (A 6 0).toNat k 1) with z | z | z
            · omega
            · omega
            · omega
          · exact n1 i i1 (by omega)
        · rw [x_w_id (by omega) (by omega)] at h9
          rw [h9]
          refine found k M6 (by omega) (by omega) (p_f1_is 40 1 k0 (by omega) ?_ n1) fr6
          unfold p_mfp p_bsA
          rcases p_cmp_cases (p_best (p_Fs A) (A 6 0).toNat k 0 * 1) (v * p_best (p_Fs A) (A 6 0).toNat k 1) with z | z | z
          · omega
          · omega
          · omega
    exact main 40 1 M1 (by omega) (by omega) (by omega) (fun i i1 i2 => by omega) w1 (fun a k _ q => fr1 a k q)
  · rw [p_if_f c] at h
    exact r_tl hA hR (by omega) (fun M1 a b => ⟨_, rfl, h M1 a b⟩)
theorem wf_mostFor (hA : p_WF A) (v : Int) : p_WF (o_mostFor A v).2 := by
  unfold o_mostFor
  by_cases c : -9999 ≤ v ∧ v ≤ 9999
  · rw [p_if_t c]
    by_cases d : p_f1 (p_mfp A v) 40 1 < 0
    · rw [p_if_t d]; exact wf_tl hA 3
    · rw [p_if_f d]; exact hA
  · rw [p_if_f c]; exact wf_tl hA 0
end P24
