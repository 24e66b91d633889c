/-! The class gathers the breaks -/
/-- what the numbers of a turn mean -/
theorem p_turn_e {F : xM} (hF : p_wf F) {c s : Int} (hc : 0 ≤ c ∧ c < p_n F) (hs : 0 ≤ s ∧ s < p_n F) {x y : Int} (h : (p_wl F c s - p_ex F * p_tl F c s) * y = p_tw F * p_tl F c s * x) : (p_U F c - p_U F s) * y = p_tw F * (p_Z F c - p_Z F s) * x := by
  obtain ⟨hL, hm⟩ := p_Lm_ok hF
  have a1 := p_ul_U hF hc hs
  have b1 := p_tl_Z hF hc hs
  refine Int.eq_of_mul_eq_mul_left (a := (p_Lm F).1) (by omega) ?_
  have e1 : (p_Lm F).1 * ((p_U F c - p_U F s) * y) = ((p_wl F c s - p_ex F * p_tl F c s) * y) * ((p_Lm F).2 c * (p_Lm F).2 s) := by
    have : (p_Lm F).1 * ((p_U F c - p_U F s) * y) = ((p_Lm F).1 * (p_U F c - p_U F s)) * y := by grind
    rw [this, ← a1]; grind
  have e2 : (p_Lm F).1 * (p_tw F * (p_Z F c - p_Z F s) * x) = (p_tw F * p_tl F c s * x) * ((p_Lm F).2 c * (p_Lm F).2 s) := by
    have : (p_Lm F).1 * (p_tw F * (p_Z F c - p_Z F s) * x) = p_tw F * ((p_Lm F).1 * (p_Z F c - p_Z F s)) * x := by grind
    rw [this, ← b1]; grind
  rw [e1, e2, h]
section GB
variable {l : Launch} {E : xE} {Q' : Option xV → xM → Prop}
theorem c_addBreaks (H10 : p_ten) (H1 : p_one) {f : Nat} {M0 : xM} {Fs : Nat → xM} {m : Nat} (hW : p_CW M0 Fs m) (hf : f < m) {most : Int} (hmost : 1 ≤ most ∧ most ≤ 40) {n : Nat} {P Q : Int → Int} {B : Int → Int → Prop} (hn : n + 9 ≤ 27) (ht : p_btab n P Q B) (hm : p_bmem M0 n P Q) (hB : ∀ k : Int, 0 ≤ k → k < n → p_tm (P k) (Q k))
    (h : ∀ (M1 : xM) (n1 : Nat) (P1 Q1 : Int → Int), p_CW M1 Fs m → p_btab n1 P1 Q1 (fun p q => B p q ∨ p_isbr (Fs f) most p q) → p_bmem M1 n1 P1 Q1 → (∀ k : Int, 0 ≤ k → k < n1 → p_tm (P1 k) (Q1 k)) → n1 ≤ n + 9 → (∀ a k, ¬ (42 ≤ a ∧ a ≤ 45) → ¬ p_stc a k → M1 a k = M0 a k) → Q' none M1) : x_Ev l E (4, 0, 0) m_X4_addBreaks 0 [(14, 49 + 9 * (f : Int)), (0, most), (10, 42), (5, 0), (5, 0), (5, 0), (5, 0), (5, 0), (5, 0), (5, 0), (5, 0), (5, 0)] [] M0 Q' := by
  have hm3 := hW.2.1
  obtain ⟨q1, -, -, -⟩ := hW.2.2 f hf
  have n10 := p_n10 H10 q1
  generalize hFF : Fs f = F at *
  have main : ∀ (j : Nat) (c : Nat) (step : Int) (M : xM) (n1 : Nat) (P1 Q1 : Int → Int) (p0 q0 : Int), p_ct F c (p_n F) < j → 0 ≤ step → step + p_ct F c (p_n F) ≤ 9 → 0 ≤ p0 → 0 < q0 → p_at F p0 q0 c → p_CW M Fs m → p_btab n1 P1 Q1 (fun p q => B p q ∨ (p_isbr F most p q ∧ p * q0 ≤ p0 * q)) → p_bmem M n1 P1 Q1 → (∀ k : Int, 0 ≤ k → k < n1 → p_tm (P1 k) (Q1 k)) → n1 ≤ n + step → (∀ a k, ¬ (42 ≤ a ∧ a ≤ 45) → ¬ p_stc a k → M a k = M0 a k) → x_Ev l E (4, 0, 0) m_X4_addBreaks 15 [(14, 49 + 9 * (f : Int)), (0, most), (10, 42), (0, (c : Int)), (0, step), (5, 0), (5, 0), (5, 0), (5, 0), (5, 0), (5, 0), (5, 0)] [] M Q' := by
    intro j
    induction j with
    | zero => intro c step M n1 P1 Q1 p0 q0 hj; omega
    | succ j ih =>
      intro c step M n1 P1 Q1 p0 q0 hj hst0 hst hp0 hq0 hat hM htab hmem htm hn1 hfr
      obtain ⟨w1, w2, w3, w4⟩ := hM.2.2 f hf
      rw [hFF] at w1 w2 w3 w4
      have hcn := hat.1
      refine u_X4_addBreaks_15 (49 + 9 * (f : Int)) most c step ⟨fun z => by omega, fun _ => ⟨fun z => by omega, fun _ => ?_⟩⟩
      refine c_nextTurn q1 hcn n10 w3 w4 (fun s hs => ⟨_, rfl, fun _ => ?_, fun z => absurd (show (0 : Int) ≤ s by omega) z⟩) (fun hno => ⟨_, rfl, fun z => absurd z (by decide), fun _ => ?_⟩)
      · have hsn := hs.1
        have hcI : (0 : Int) ≤ c ∧ (c : Int) < p_n F := by omega
        have hsI : (0 : Int) ≤ s ∧ (s : Int) < p_n F := by omega
        obtain ⟨bt, bw⟩ := p_wl_bd q1 hcI hsI
        have tpos := (p_tl_pos q1 hcI hsI).mpr hs.2.1
        have hex : 0 ≤ p_ex F ∧ p_ex F ≤ 9 := (p_fe_bd q1 (p := 0) (q := 1) ⟨by omega, by omega, by omega, by omega⟩).2.2.2.2
        have htw : 1 ≤ p_tw F ∧ p_tw F ≤ 2 := by have := (p_fe_bd q1 (p := 0) (q := 1) ⟨by omega, by omega, by omega, by omega⟩).2.2; omega
        have mx := x_mb (a := p_ex F) (b := p_tl F c s) (A := 9) (B := 1574640) (by omega) (by omega)
        have mt := x_mb (a := p_tw F) (b := p_tl F c s) (A := 2) (B := 1574640) (by omega) (by omega)
        have mtp := Int.mul_pos (show 0 < p_tw F by omega) tpos
        have mm := x_mb (a := most) (b := p_tw F * p_tl F c s) (A := 40) (B := 3149280) (by omega) (by omega)
        refine c_tollLess q1 hcI hsI n10 w3 w4 ⟨_, rfl, c_worthLess q1 hcI hsI n10 w3 w4 ⟨_, rfl, ?_⟩⟩
        rw [x_who]
        refine c_extra _ ⟨_, rfl, ?_⟩
        rw [w2, x_W_s2, x_W_id (x := p_wl F c s - p_ex F * p_tl F c s) (by omega) (by omega)]
        intro v9 hv9
        refine c_times _ ⟨_, rfl, ?_⟩
        rw [w2, x_W_id (x := p_tw F * p_tl F c s) (by omega) (by omega)]
        intro v12 hv12
        rw [← hv12] at mm mt mtp
        rw [x_W_id (x := most * v12) (by omega) (by omega)]
        have e0 : (p_U F c - p_U F s) * v12 = p_tw F * (p_Z F c - p_Z F s) * v9 := p_turn_e q1 hcI hsI (by rw [hv9, hv12]; grind)
        have lo0 := p_at_lo hq0 mtp hat hs e0
        have v9pos : 0 < v9 := by
          have h1 := Int.mul_nonneg hp0 (show 0 ≤ v12 by omega)
          have h2 : 0 < q0 * v9 := by rw [Int.mul_comm]; omega
          exact q_mpos hq0 h2
        refine ⟨fun z => ?_, fun z => ?_⟩
        · have g := p_g_pos (a := v9) mtp
          have gn := p_nu_mul v9 v12
          have gd := p_de_mul v9 v12
          have dp := p_de_pos (a := v9) mtp
          have dl := p_de_le (a := v9) mtp
          have cop := p_nd_cop (a := v9) mtp
          have eqn : v9 * p_de v9 v12 = v12 * p_nu v9 v12 := by
            have : p_nu v9 v12 * p_g v9 v12 * p_de v9 v12 = p_de v9 v12 * p_g v9 v12 * p_nu v9 v12 := by grind
            rw [gn, gd] at this
            exact this
          have np : 0 < p_nu v9 v12 := by
            refine q_mpos g ?_
            rw [Int.mul_comm, gn]; exact v9pos
          have nlt : p_nu v9 v12 < most * p_de v9 v12 := by
            have : p_nu v9 v12 * p_g v9 v12 < most * p_de v9 v12 * p_g v9 v12 := by
              rw [gn, Int.mul_assoc, gd]; exact z
            exact Int.lt_of_mul_lt_mul_right this (by omega)
          have e1 : (p_U F c - p_U F s) * p_de v9 v12 = p_tw F * (p_Z F c - p_Z F s) * p_nu v9 v12 := p_turn_e q1 hcI hsI (by rw [← hv9, ← hv12]; exact eqn)
          have nb : p_nu v9 v12 ≤ 40 * p_de v9 v12 := by
            have := Int.mul_le_mul_of_nonneg_right hmost.2 (show 0 ≤ p_de v9 v12 by omega)
            omega
          have tmn : p_tm (p_nu v9 v12) (p_de v9 v12) := ⟨by omega, by omega, by omega, by omega⟩
          have ctl := p_ct_lt F (c := (c : Int)) hs.2.1 (p_n F) hsn
          refine c_bins (n := n1) (by omega) htab hmem htm (a := v9) (b := v12) (by omega) (by omega) tmn np (fun M1 n2 P2 Q2 r1 r2 r3 r4 => ⟨rfl, ?_⟩)
          intro v hv
          rw [x_w_id (by omega) (by omega)] at hv
          subst hv
          have lo1 := p_at_lo hq0 dp hat hs e1
          obtain ⟨at1, -⟩ := p_at_nx hq0 dp hat hs e1
          have brk := p_is_turn q1 hq0 hp0 dp hat hs e1 cop nlt
          refine ih s (step + 1) M1 n2 P2 Q2 (p_nu v9 v12) (p_de v9 v12) (by omega) (by omega) (by omega) (by omega) dp at1 (p_CW_fr hM (fun a k a1 a2 a3 a4 => by rw [r4 a (by omega)])) (p_btab_cg r1 (fun p q => ⟨fun w => ?_, fun w => ?_⟩)) r2 (fun k k1 k2 => ?_) (by omega) (fun a k a1 a2 => by rw [r4 a (by omega)]; exact hfr a k a1 a2)
          · rcases w with (w | ⟨w, w'⟩) | ⟨w, w'⟩
            · exact Or.inl w
            · refine Or.inr ⟨w, ?_⟩
              have hqp : 0 < q := w.2.1
              by_cases e : p * q0 = p0 * q
              · have : p * p_de v9 v12 * q0 < p_nu v9 v12 * q * q0 := by
                  have h1 := Int.mul_lt_mul_of_pos_right lo1 hqp
                  have h2 : p * p_de v9 v12 * q0 = (p * q0) * p_de v9 v12 := by grind
                  rw [h2, e]
                  have h3 : p0 * q * p_de v9 v12 = p0 * p_de v9 v12 * q := by grind
                  rw [h3]
                  have h4 : p_nu v9 v12 * q * q0 = p_nu v9 v12 * q0 * q := by grind
                  rw [h4]; exact h1
                exact Int.le_of_lt (Int.lt_of_mul_lt_mul_right this (by omega))
              · exact Int.le_of_lt (q_lt_tr hqp hq0 dp (by omega) lo1)
            · rw [w, w']; exact Or.inr ⟨brk, Int.le_refl _⟩
          · rcases w with w | ⟨w, w'⟩
            · exact Or.inl (Or.inl w)
            · by_cases z0 : p * q0 ≤ p0 * q
              · exact Or.inl (Or.inr ⟨w, z0⟩)
              · by_cases z1 : p * p_de v9 v12 < p_nu v9 v12 * q
                · exact absurd w (p_no_mid q1 hq0 dp hat hs e1 (by omega) z1)
                · exact Or.inr (q_red w.2.1 dp w.2.2.2.1 cop (by omega))
          · have f1 := (r1.1 k k1 k2)
            rcases f1.1 with w | ⟨w, w'⟩
            · obtain ⟨k', a1, a2, a3, a4⟩ := htab.2.1 _ _ w
              have := htm k' a1 a2
              rw [a3, a4] at this
              exact this
            · rw [w, w']; exact tmn
        · refine h M n1 P1 Q1 hM (p_btab_cg htab (fun p q => ⟨fun w => ?_, fun w => ?_⟩)) hmem htm (by omega) hfr
          · rcases w with w | ⟨w, -⟩
            · exact Or.inl w
            · exact Or.inr w
          · rcases w with w | w
            · exact Or.inl w
            · by_cases z0 : p * q0 ≤ p0 * q
              · exact Or.inr ⟨w, z0⟩
              · refine absurd w (p_no_mid q1 hq0 mtp hat hs e0 (by omega) ?_)
                have h1 := Int.mul_lt_mul_of_pos_right w.2.2.1 mtp
                have h2 := Int.mul_le_mul_of_nonneg_right (show most * v12 ≤ v9 by omega) (show 0 ≤ q by have := w.2.1; omega)
                have h3 : most * q * v12 = most * v12 * q := by grind
                omega
      · refine h M n1 P1 Q1 hM (p_btab_cg htab (fun p q => ⟨fun w => ?_, fun w => ?_⟩)) hmem htm (by omega) hfr
        · rcases w with w | ⟨w, -⟩
          · exact Or.inl w
          · exact Or.inr w
        · rcases w with w | w
          · exact Or.inl w
          · by_cases z0 : p * q0 ≤ p0 * q
            · exact Or.inr ⟨w, z0⟩
            · exact absurd w (p_no_end q1 hq0 hat hno (by omega))
  obtain ⟨w1, w2, w3, w4⟩ := hW.2.2 f hf
  rw [hFF] at w1 w2 w3 w4
  have t01 : p_tm 0 1 := ⟨by omega, by omega, by omega, by omega⟩
  refine u_X4_addBreaks_0 (49 + 9 * (f : Int)) most (c_stand (by omega) q1 w2 n10 w3 w4 (p_T_eb q1) t01 (fun M1 r1 r2 r3 => ⟨rfl, ?_⟩))
  have fr1 : ∀ a k, ¬ p_stc a k → M1 a k = M0 a k := by
    intro a k w
    unfold p_stc at w
    by_cases e : a = 49 + 9 * (f : Int)
    · rw [e]; exact r3 k (by omega) (by omega)
    · rw [r2 a e (by omega) (by omega)]
  have hM1 : p_CW M1 Fs m := p_CW_fr hW (fun a k a1 a2 a3 a4 => fr1 a k a4)
  obtain ⟨u1, u2, u3, u4⟩ := hM1.2.2 f hf
  rw [hFF] at u1 u2 u3 u4
  refine c_choose (by omega) q1 u2 n10 (H1 F q1) u3 u4 (p_T_eb q1) t01 r1 (Or.inr (Or.inr rfl)) (fun c hc => ⟨_, rfl, ?_⟩)
  have hcn := hc.1
  have hat : p_at F 0 1 c := by
    refine ⟨hcn, (p_V_best q1 hcn).mp hc.2.1.1, fun j hj w => ?_⟩
    have bj : p_bst F (p_TT F) (p_n F) 0 1 j = true := by
      rw [p_V_best q1 hj]
      intro i hi
      rw [w]
      exact (p_V_best q1 hcn).mp hc.2.1.1 i hi
    have := (hc.2.1.2 j hj bj).2 rfl
    have := p_Z_lt q1 (i := (j : Int)) (j := (c : Int)) (by omega) (by omega)
    omega
  have ctn := p_ct_n F c (p_n F) hcn
  refine main 11 c 0 M1 n P Q 0 1 (by omega) (by omega) (by omega) (by omega) (by omega) hat hM1 (p_btab_cg ht (fun p q => ⟨fun w => Or.inl w, fun w => ?_⟩)) ?_ hB (by omega) (fun a k a1 a2 => fr1 a k a2)
  · rcases w with w | ⟨w, w'⟩
    · exact w
    · have := w.1
      omega
  · unfold p_bmem
    have e42 : M1 42 0 = M0 42 0 := fr1 42 0 (by unfold p_stc; omega)
    refine ⟨by rw [e42]; exact hm.1, fun k a b => ?_⟩
    rw [fr1 43 k (by unfold p_stc; omega), fr1 44 k (by unfold p_stc; omega)]
    exact hm.2 k a b
/-- the breaks of one follower, or of all -/
def p_B (Fs : Nat → xM) (m : Nat) (one most : Int) : Int → Int → Prop := fun p q => ∃ f : Nat, f < m ∧ (one = -1 ∨ one = f) ∧ p_isbr (Fs f) most p q
theorem c_gatherBreaks (H10 : p_ten) (H1 : p_one) {M0 : xM} {Fs : Nat → xM} {m : Nat} (hW : p_CW M0 Fs m) {one most : Int} (hmost : 1 ≤ most ∧ most ≤ 40)
    (h : ∀ (M1 : xM) (n1 : Nat) (P1 Q1 : Int → Int), p_CW M1 Fs m → p_btab n1 P1 Q1 (p_B Fs m one most) → p_bmem M1 n1 P1 Q1 → (∀ k : Int, 0 ≤ k → k < n1 → p_tm (P1 k) (Q1 k)) → n1 ≤ 27 → (∀ a k, ¬ (42 ≤ a ∧ a ≤ 45) → ¬ p_stc a k → M1 a k = M0 a k) → Q' none M1) : x_Ev l E (5, 0, 0) m_X3_gatherBreaks 0 [(13, 40), (0, one), (0, most), (5, 0)] [] M0 Q' := by
  have hm3 := hW.2.1
  have main : ∀ (k f : Nat) (M : xM) (n : Nat) (P Q : Int → Int), m - f ≤ k → f ≤ m → p_CW M Fs m → p_btab n P Q (p_B Fs f one most) → p_bmem M n P Q → (∀ k : Int, 0 ≤ k → k < n → p_tm (P k) (Q k)) → n ≤ 9 * f → (∀ a k, ¬ (42 ≤ a ∧ a ≤ 45) → ¬ p_stc a k → M a k = M0 a k) → x_Ev l E (5, 0, 0) m_X3_gatherBreaks 10 [(13, 40), (0, one), (0, most), (0, (f : Int))] [] M Q' := by
    intro k
    induction k with
    | zero =>
      intro f M n P Q hk hf hM ht hmem htm hn hfr
      have ef : f = m := by omega
      subst ef
      exact u_X3_gatherBreaks_10 one most f ⟨fun _ => h M n P Q hM ht hmem htm (by omega) hfr, fun c => absurd (by rw [hM.1]; omega) c⟩
    | succ k ih =>
      intro f M n P Q hk hf hM ht hmem htm hn hfr
      by_cases hfm : f = m
      · exact ih f M n P Q (by omega) hf hM ht hmem htm hn hfr
      have add : (one = -1 ∨ one = f) → x_Ev l E (4, 0, 0) m_X4_addBreaks 0 [(14, (41 + 8 + 9 * (f : Int))), (0, most), (10, 42), (5, 0), (5, 0), (5, 0), (5, 0), (5, 0), (5, 0), (5, 0), (5, 0), (5, 0)] [] M (fun r zM1 => r = none ∧ ∀ zv2 : Int, zv2 = x_w ((f : Int) + 1) → x_Ev l E (5, 0, 0) m_X3_gatherBreaks 10 [(13, 40), (0, one), (0, most), (0, zv2)] [] zM1 Q') := by
        intro ho
        rw [show (41 + 8 + 9 * (f : Int)) = 49 + 9 * f by omega]
        refine c_addBreaks H10 H1 hM (by omega) hmost (by omega) ht hmem htm (fun M1 n1 P1 Q1 r1 r2 r3 r4 r5 r6 => ⟨rfl, ?_⟩)
        intro v hv
        rw [x_w_id (by omega) (by omega)] at hv
        subst hv
        refine ih (f + 1) M1 n1 P1 Q1 (by omega) (by omega) r1 (p_btab_cg r2 (fun p q => ⟨fun w => ?_, fun w => ?_⟩)) r3 r4 (by omega) (fun a k a1 a2 => (r6 a k a1 a2).trans (hfr a k a1 a2))
        · rcases w with ⟨g, g1, g2, g3⟩ | w
          · exact ⟨g, by omega, g2, g3⟩
          · exact ⟨f, by omega, ho, w⟩
        · obtain ⟨g, g1, g2, g3⟩ := w
          by_cases e : g = f
          · rw [e] at g3; exact Or.inr g3
          · exact Or.inl ⟨g, by omega, g2, g3⟩
      refine u_X3_gatherBreaks_10 one most f ⟨fun c => by rw [hM.1] at c; omega, fun c => ⟨fun d => ⟨by omega, add (Or.inl d)⟩, fun d => ⟨fun e => ?_, fun e => ⟨by omega, add (Or.inr e)⟩⟩⟩⟩
      intro v hv
      rw [x_w_id (by omega) (by omega)] at hv
      subst hv
      refine ih (f + 1) M n P Q (by omega) (by omega) hM (p_btab_cg ht (fun p q => ⟨fun w => ?_, fun w => ?_⟩)) hmem htm (by omega) hfr
      · obtain ⟨g, g1, g2, g3⟩ := w
        exact ⟨g, by omega, g2, g3⟩
      · obtain ⟨g, g1, g2, g3⟩ := w
        by_cases e2 : g = f
        · rw [e2] at g2; omega
        · exact ⟨g, by omega, g2, g3⟩
  refine u_X3_gatherBreaks_0 one most ?_
  intro M1 hM1
  subst hM1
  refine main m 0 _ 0 (fun _ => 0) (fun _ => 0) (by omega) (by omega) (p_CW_fr hW (fun a k a1 a2 a3 a4 => x_wr_ne _ _ (by omega))) ⟨fun k a b => by omega, fun p q w => ?_, fun k k' a b c => by omega⟩ ⟨x_wr_eq .., fun k a b => by omega⟩ (fun k a b => by omega) (by omega) (fun a k a1 a2 => x_wr_ne _ _ (by omega))
  obtain ⟨g, g1, -⟩ := w
  omega
end GB
