/-! The reference's search of prices -/
theorem q_pc_le5 {G S : Nat} (hG : G < 5) (hS : S < 129) : q_pc G S ≤ 35 := of_decide_eq_true (x_all2 (P := fun G S => decide (q_pc G S ≤ 35)) 5 129 (by decide +kernel) G hG S hS)
def p_rpf (M M1 : xM) : Prop := ∀ a k, ¬ (a = 103 ∧ (k = 17 ∨ k = 33)) → ¬ (143 ≤ a ∧ a ≤ 148) → ¬ (285 ≤ a ∧ a ≤ 326) → M1 a k = M a k
theorem p_rptab_fr {M M1 : xM} {F : xM} {p q : Int} {n : Nat} {S : Nat → Nat} (hn : n < 40) (h : p_rptab M F p q n S) (hf : ∀ a k, p_rpc a k → M1 a k = M a k) : p_rptab M1 F p q n S := by
  refine ⟨by rw [hf 103 33 (Or.inl ⟨rfl, rfl⟩)]; exact h.1, fun k hk => ?_⟩
  obtain ⟨h1, h2, h3⟩ := h.2 k hk
  refine ⟨fun r a c => ?_, ?_, ?_⟩
  · rw [hf _ _ (Or.inr (by omega))]; exact h1 r a c
  · rw [hf _ _ (Or.inr (by omega))]; exact h2
  · rw [hf _ _ (Or.inr (by omega))]; exact h3
section RZ
variable {l : Launch} {E : xE} {Q : Option xV → xM → Prop}
theorem c_Rprices {f : Int} (hf : 0 ≤ f ∧ f < 3) {M0 : xM} {F : xM} (hF : p_wf F) (hR : p_RF M0 f F) {p q : Int} (hpq : p_tm p q) (hT : p_RT M0 p q) (h : ∀ (M1 : xM) (n : Nat) (S : Nat → Nat), p_pset F p q (2 ^ p_pr F) n S → p_rptab M1 F p q n S → n ≤ 35 → p_rpf M0 M1 → Q none M1) : x_Ev l E (9, 0, 0) m_X11_prices 0 [(21, 103), (0, f), (5, 0), (5, 0), (5, 0)] [] M0 Q := by
  have hpr := p_pr_le hF
  have hg := hF.2.2.1
  have hr := hF.2.2.2.1
  obtain ⟨R, hRR⟩ : ∃ R : Nat, F 0 3 = R := ⟨(F 0 3).toNat, by omega⟩
  have ep : ((p_pr F : Nat) : Int) = F 0 3 + F 0 2 := by unfold p_pr; omega
  have p128 : 2 ^ p_pr F ≤ 128 := hpr.2
  have p1 : 1 ≤ 2 ^ p_pr F := Nat.one_le_two_pow
  have rf : ∀ {M : xM}, p_rpf M0 M → p_RF M f F := fun w => p_RF_fr hf hF hR (fun a a1 a2 => by funext k; exact w a k (by omega) (by omega) (by omega))
  have rt : ∀ {M : xM}, p_rpf M0 M → p_RT M p q := fun w => ⟨by rw [w 103 9 (by omega) (by omega) (by omega)]; exact hT.1, by rw [w 103 10 (by omega) (by omega) (by omega)]; exact hT.2⟩
  have main : ∀ (m t : Nat) (M : xM) (n : Nat) (S : Nat → Nat), 2 ^ p_pr F - t ≤ m → 1 ≤ t → t ≤ 2 ^ p_pr F → (∀ k, k < n → S k < 2 ^ p_pr F ∧ p_dok F p q (S k)) → (∀ i j, i < n → j < n → p_tau F p q (S i) = p_tau F p q (S j) → i = j) → (∀ s, s < 2 ^ p_pr F → 2 ^ p_pr F - 1 - s < t → p_dok F p q s → ∃ k, k < n ∧ p_tau F p q (S k) = p_tau F p q s) → n ≤ q_pc R t → p_rptab M F p q n S → p_rpf M0 M → x_Ev l E (9, 0, 0) m_X11_prices 7 [(21, 103), (0, f), (0, (t : Int)), (5, 0), (5, 0)] [] M Q := by
    intro m
    induction m with
    | zero =>
      intro t M n S hm ht1 ht g1 g2 g3 g4 g5 g6
      have et : t = 2 ^ p_pr F := by omega
      have n35 := q_pc_le5 (G := R) (S := t) (by omega) (by omega)
      refine u_X11_prices_7 f t (c_Rpairs hf hF (rf g6) ⟨_, rfl, fun _ => ?_, fun w => ?_⟩)
      · exact h M n S ⟨g1, g2, fun s hs hk => g3 s hs (by omega) hk⟩ g5 (by omega) g6
      · rw [x_shl (by omega)] at w
        omega
    | succ m ih =>
      intro t M n S hm ht1 ht g1 g2 g3 g4 g5 g6
      by_cases etp : t = 2 ^ p_pr F
      · exact ih t M n S (by omega) ht1 ht g1 g2 g3 g4 g5 g6
      have pc := q_pc_st R t
      have n35 := q_pc_le5 (G := R) (S := t) (by omega) (by omega)
      have n36 := q_pc_le5 (G := R) (S := t + 1) (by omega) (by omega)
      obtain ⟨s, hs, est⟩ : ∃ s, s < 2 ^ p_pr F ∧ 2 ^ p_pr F - 1 - s = t := ⟨2 ^ p_pr F - 1 - t, by omega, by omega⟩
      have cc := (x_ccn (d := p_pr F) (by omega) hs).1
      rw [est] at cc
      have skip : ∀ M' : xM, (p_dok F p q s → ∃ k, k < n ∧ p_tau F p q (S k) = p_tau F p q s) → p_rptab M' F p q n S → p_rpf M0 M' → ∀ zv : Int, zv = x_w ((t : Int) + 1) → x_Ev l E (9, 0, 0) m_X11_prices 7 [(21, 103), (0, f), (0, zv), (5, 0), (5, 0)] [] M' Q := by
        intro M' hn w5 w6 v hv
        rw [x_w_id (by omega) (by omega)] at hv
        subst hv
        refine ih (t + 1) M' n S (by omega) (by omega) (by omega) g1 g2 (fun s' a b c => ?_) (by omega) w5 w6
        by_cases e : s' = s
        · rw [e] at c ⊢
          exact hn c
        · exact g3 s' a (by omega) c
      refine u_X11_prices_7 f t (c_Rpairs hf hF (rf g6) ⟨_, rfl, fun w => ?_, fun w => ?_⟩)
      · rw [x_shl (by omega)] at w
        omega
      refine c_bitCount t (by omega) ⟨_, rfl, by omega, ?_⟩
      rw [(rf g6).2.2.2.1]
      refine ⟨fun d => ?_, fun d => skip M (fun w => absurd w.1 (by omega)) g5 g6⟩
      have hp : (x_cn s 7 : Int) = F 0 2 := by omega
      refine c_laysDual hf hF (rf g6) hpq (rt g6) (s := t) (by omega) hRR (by omega) (fun M1 q1 q2 q3 q4 => ⟨rfl, ?_⟩)
      have fr1 : p_rpf M0 M1 := fun a k w1 w2 w3 => (q4 a k (by omega) w2).trans (g6 a k w1 w2 w3)
      have ht1' : p_rptab M1 F p q n S := p_rptab_fr (by omega) g5 (fun a k w => q4 a k (by unfold p_rpc at w; omega) (by unfold p_rpc at w; omega))
      have bd := q_b_det hF hs hp hRR
      rw [est] at bd
      by_cases hd : p_d3 (p_C F s) = 0
      · exact c_solves0 (by omega) q1 q2 (bd.2.mpr hd) ⟨_, rfl, fun _ => skip M1 (fun w => absurd hd w.2.1) ht1' fr1, fun z => absurd rfl z⟩
      have eY : ∀ c, 0 ≤ c → c < (R : Int) → p_det (p_rp (p_Dm F t) (p_Dr F p q t) c) R * p_sg (p_det (p_Dm F t) R) = p_Y F p q s c := by
        intro c c1 c2
        have := q_ref_Y hF (p := p) (q := q) hs hp hd hRR ⟨c1, c2⟩
        rw [est] at this
        exact this
      have yb := p_Y_bd hF hpq hs hp
      have hbp := p_b_pos hd
      have hba := p_b_abs (p_C F s)
      have hbC := p_C_d (p_C_bd hF (s := s) (by omega) hp)
      have hbb : 0 < p_b (p_C F s) ∧ p_b (p_C F s) ≤ 162 := by omega
      have hsg : p_sg (p_det (p_Dm F t) R) = 1 ∨ p_sg (p_det (p_Dm F t) R) = -1 := by
        unfold p_sg
        by_cases c : p_det (p_Dm F t) R < 0
        · rw [if_pos c]; exact Or.inr rfl
        · rw [if_neg c]; exact Or.inl rfl
      have bdet : -1000000000000000000 ≤ p_det (p_Dm F t) R ∧ p_det (p_Dm F t) R ≤ 1000000000000000000 := by
        have e1 := bd.1
        rcases hsg with e | e <;> rw [e] at e1 <;> omega
      refine c_solves (C := p_Dm F t) (R := p_Dr F p q t) (n := R) (by omega) q1 q2 q3 bdet (fun c hc => ?_) (fun z => absurd (bd.2.mp z) hd) ?_
      · have e1 := eY c (by omega) (by omega)
        have e2 := yb c (by omega) (by omega)
        rcases hsg with e | e <;> rw [e] at e1 <;> omega
      · rw [bd.1]
        intro hdd M2 r1 r2
        have y2 : ∀ r, 0 ≤ r → r < F 0 3 → M2 148 r = p_Y F p q s r := by
          intro r a c
          have := r1 r.toNat (by omega)
          rw [show ((r.toNat : Nat) : Int) = r by omega] at this
          rw [this]
          exact eY r a (by omega)
        have fr2 : p_rpf M0 M2 := fun a k w1 w2 w3 => by rw [r2 a (by omega)]; exact fr1 a k w1 w2 w3
        have ht2 : p_rptab M2 F p q n S := p_rptab_fr (by omega) ht1' (fun a k w => by rw [r2 a (by unfold p_rpc at w; omega)])
        refine ⟨_, rfl, fun z => absurd z (by omega), fun _ => ?_⟩
        refine c_arePrices hf hF (rf fr2) hpq (rt fr2) (fun r a c => by rw [y2 r a c]; exact yb r a (by omega)) hbb ?_ ?_
        · rw [p_arep_cg y2]
          intro hA
          have hok : p_dok F p q s := ⟨hp, hd, hA⟩
          refine ⟨_, rfl, fun z => absurd z (by omega), fun _ => ?_⟩
          refine c_takesPrices hf hF (rf fr2) hpq (rt fr2) (n := n) (by omega) ht2 g1 hs hok y2 ?_ ?_
          · intro ⟨k, k1, k2⟩
            obtain ⟨w1, w2⟩ := g1 k k1
            exact ⟨rfl, skip M2 (fun _ => ⟨k, k1, ((q_tau hF hs w1 hok w2).mp k2).symm⟩) ht2 fr2⟩
          · intro hno M3 z1 z2
            refine ⟨rfl, ?_⟩
            intro v hv
            rw [x_w_id (by omega) (by omega)] at hv
            subst hv
            have htn : ∀ k, k < n → p_tau F p q s ≠ p_tau F p q (S k) := fun k hk e => hno k hk ((q_tau hF hs (g1 k hk).1 hok (g1 k hk).2).mpr e)
            refine ih (t + 1) M3 (n + 1) (fun k => if k = n then s else S k) (by omega) (by omega) (by omega) (fun k hk => ?_) (fun i j hi hj e => ?_) (fun s' a b c => ?_) ?_ z1 ?_
            · try dsimp only
              by_cases e : k = n
              · rw [if_pos e]; exact ⟨hs, hok⟩
              · rw [if_neg e]; exact g1 k (by omega)
            · try dsimp only at e
              by_cases e1 : i = n
              · by_cases e2 : j = n
                · omega
                · rw [if_pos e1, if_neg e2] at e
                  exact absurd e (htn j (by omega))
              · by_cases e2 : j = n
                · rw [if_neg e1, if_pos e2] at e
                  exact absurd e.symm (htn i (by omega))
                · rw [if_neg e1, if_neg e2] at e
                  exact g2 i j (by omega) (by omega) e
            · by_cases e : s' = s
              · refine ⟨n, by omega, ?_⟩
                try dsimp only
                rw [if_pos rfl, e]
              · obtain ⟨k, k1, k2⟩ := g3 s' a (by omega) c
                refine ⟨k, by omega, ?_⟩
                try dsimp only
                rw [if_neg (by omega)]
                exact k2
            · rw [if_pos (by omega)] at pc
              omega
            · intro a k w1 w2 w3
              rw [z2 a k (by unfold p_rpc; omega)]
              exact fr2 a k w1 w2 w3
        · rw [p_arep_cg y2]
          intro hA
          exact ⟨_, rfl, fun _ => skip M2 (fun w => absurd w.2.2 hA) ht2 fr2, fun z => absurd rfl z⟩
  refine u_X11_prices_0 f ?_
  intro M1 hM1
  refine main (2 ^ p_pr F) 1 M1 0 (fun _ => 0) (by omega) (by omega) (Nat.one_le_two_pow) (fun k hk => by omega) (fun i j hi => by omega) (fun s hs h1 hk => ?_) (Nat.zero_le _) ⟨by rw [hM1, x_wr_eq]; rfl, fun k hk => by omega⟩ (fun a k w1 w2 w3 => by rw [hM1]; exact x_wr_ne _ _ (by omega))
  exfalso
  have cc := (x_ccn (d := p_pr F) (by omega) hs).1
  rw [show 2 ^ p_pr F - 1 - s = 0 by omega] at cc
  have : x_cn 0 7 = 0 := by decide
  have := hk.1
  omega
end RZ
