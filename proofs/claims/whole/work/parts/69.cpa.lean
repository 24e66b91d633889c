/-! All prices of the class -/
/-- the cheapest corner, of equally cheap ones the first -/
def p_lp (F : xM) (p q : Int) (s : Nat) : Prop := s < 2 ^ p_pr F ∧ p_dok F p q s ∧ (∀ s', s' < 2 ^ p_pr F → p_dok F p q s' → p_co F (p_Y F p q s) * p_b (p_C F s') ≤ p_co F (p_Y F p q s') * p_b (p_C F s)) ∧ ∀ s', s' < 2 ^ p_pr F → p_dok F p q s' → p_co F (p_Y F p q s') * p_b (p_C F s) = p_co F (p_Y F p q s) * p_b (p_C F s') → ¬ p_lx (fun r => (if r < F 0 3 then p_Y F p q s' r else 0) * p_b (p_C F s)) (fun r => (if r < F 0 3 then p_Y F p q s r else 0) * p_b (p_C F s'))
/-- two corners are one -/
def p_eqp (F : xM) (p q : Int) (s s' : Nat) : Prop := ∀ r, 0 ≤ r → r < F 0 3 → p_Y F p q s r * p_b (p_C F s') = p_Y F p q s' r * p_b (p_C F s)
section CA
variable {l : Launch} {E : xE} {Q : Option xV → xM → Prop}
theorem c_pfindAll {w p q : Int} (hw : 9 ≤ w ∧ w ≤ 32) {M0 : xM} (hF : p_wf (x_F M0 w)) (hpq : p_tm p q) (h70 : M0 7 0 = p) (h71 : M0 7 1 = q) (hex : ∃ s, s < 2 ^ p_pr (x_F M0 w) ∧ p_dok (x_F M0 w) p q s)
    (h : ∀ (M1 : xM) (n : Nat) (S : Nat → Nat) (k : Nat), p_pset (x_F M0 w) p q (2 ^ p_pr (x_F M0 w)) n S → p_ptab M1 (x_F M0 w) p q n S → n ≤ 35 → k < n → M1 76 3 = k → M1 76 4 = q → (∀ j, j < n → p_co (x_F M0 w) (p_Y (x_F M0 w) p q (S k)) * p_b (p_C (x_F M0 w) (S j)) ≤ p_co (x_F M0 w) (p_Y (x_F M0 w) p q (S j)) * p_b (p_C (x_F M0 w) (S k))) → (∀ j, j < n → p_co (x_F M0 w) (p_Y (x_F M0 w) p q (S j)) * p_b (p_C (x_F M0 w) (S k)) = p_co (x_F M0 w) (p_Y (x_F M0 w) p q (S k)) * p_b (p_C (x_F M0 w) (S j)) → ¬ p_lx (fun r => (if r < x_F M0 w 0 3 then p_Y (x_F M0 w) p q (S j) r else 0) * p_b (p_C (x_F M0 w) (S k))) (fun r => (if r < x_F M0 w 0 3 then p_Y (x_F M0 w) p q (S k) r else 0) * p_b (p_C (x_F M0 w) (S j)))) → M1 76 2 = p_cnt (fun j => p_co (x_F M0 w) (p_Y (x_F M0 w) p q (S j)) * p_b (p_C (x_F M0 w) (S k)) = p_co (x_F M0 w) (p_Y (x_F M0 w) p q (S k)) * p_b (p_C (x_F M0 w) (S j))) n → (∀ a j, ¬ (36 ≤ a ∧ a ≤ 39) → ¬ (76 ≤ a ∧ a ≤ 80) → M1 a j = M0 a j) → Q none M1) : x_Ev l E (4, 0, 0) m_X5_findAll 0 [(15, 76), (11, w), (12, 7), (5, 0), (5, 0), (5, 0)] [] M0 Q := by
  have hpr := p_pr_le hF
  have hg := hF.2.2.1
  have hr := hF.2.2.2.1
  have hg2 : M0 w 2 = x_F M0 w 0 2 := by rw [x_F0]
  have hr2 : M0 w 3 = x_F M0 w 0 3 := by rw [x_F0]
  generalize hFF : x_F M0 w = F at *
  obtain ⟨G, hG⟩ : ∃ G : Nat, F 0 2 = G := ⟨(F 0 2).toNat, by omega⟩
  have main : ∀ (m s : Nat) (M : xM) (n : Nat) (S : Nat → Nat), 2 ^ p_pr F - s ≤ m → s ≤ 2 ^ p_pr F → p_pset F p q s n S → p_ptab M F p q n S → n ≤ q_pc G s → M 76 4 = q → (∀ a j, ¬ (36 ≤ a ∧ a ≤ 39) → ¬ (76 ≤ a ∧ a ≤ 80) → M a j = M0 a j) → x_Ev l E (4, 0, 0) m_X5_findAll 23 [(15, 76), (11, w), (12, 7), (0, ((2 ^ p_pr F : Nat) : Int)), (0, (s : Int)), (5, 0)] [] M Q := by
    have fin : ∀ (s : Nat) (M : xM) (n : Nat) (S : Nat → Nat), s = 2 ^ p_pr F → p_pset F p q s n S → p_ptab M F p q n S → n ≤ q_pc G s → M 76 4 = q → (∀ a j, ¬ (36 ≤ a ∧ a ≤ 39) → ¬ (76 ≤ a ∧ a ≤ 80) → M a j = M0 a j) → x_Ev l E (2, 0, 0) m_X5_findProofs 0 [(15, 76), (5, 0), (5, 0)] [] M (fun r zM1 => r = none ∧ Q none zM1) := by
      intro s M n S es hset htab hn h4 hfr
      have n35 : n ≤ 35 := Nat.le_trans hn (q_pc_le (by omega) (by omega))
      obtain ⟨s0, e1, e2⟩ := hex
      obtain ⟨k0, k1, -⟩ := hset.2.2 s0 (by omega) e2
      have he : p_ent M n (fun k r => if r < F 0 3 then p_Y F p q (S k) r else 0) (fun k => p_b (p_C F (S k))) (fun k => p_co F (p_Y F p q (S k))) := by
        intro k hk
        obtain ⟨t1, t2, t3, t4⟩ := htab.2 k hk
        obtain ⟨u1, u2⟩ := hset.1 k hk
        have yb := p_Y_bd hF hpq (s := S k) (by omega) u2.1
        have cb := p_co_bd hF (Y := p_Y F p q (S k)) (n := (F 0 3).toNat) (by omega) yb
        have bb := p_b_pos u2.2.1
        have bd := p_C_d (p_C_bd hF (s := S k) (by omega) u2.1)
        have ba := p_b_abs (p_C F (S k))
        refine ⟨fun r r1 r2 => ⟨t1 r r1 r2, ?_⟩, t2, (show 0 < p_b (p_C F (S k)) ∧ p_b (p_C F (S k)) ≤ 162 by omega), t4, cb⟩
        dsimp only
        split
        · exact yb r r1 (by omega)
        · omega
      refine c_findProofs n35 (by omega) htab.1 he (fun M1 k g1 g2 g3 g4 g5 g6 => ⟨rfl, h M1 n S k (by rw [← es]; exact hset) ⟨?_, fun j hj => ?_⟩ n35 g1 g2 ?_ g3 g4 g5 (fun a j w1 w2 => ?_)⟩)
      · rw [g6 76 1 (by omega)]; exact htab.1
      · obtain ⟨t1, t2, t3, t4⟩ := htab.2 j hj
        refine ⟨fun r r1 r2 => ?_, ?_, ?_, ?_⟩
        · rw [g6 _ _ (by omega)]; exact t1 r r1 r2
        · rw [g6 _ _ (by omega)]; exact t2
        · rw [g6 _ _ (by omega)]; exact t3
        · rw [g6 _ _ (by omega)]; exact t4
      · rw [g6 76 4 (by omega)]; exact h4
      · rw [g6 a j (by omega)]; exact hfr a j w1 w2
    intro m
    induction m with
    | zero =>
      intro s M n S hm hs hset htab hn h4 hfr
      refine u_X5_findAll_23 w 7 _ _ ⟨fun c => fin s M n S (by omega) hset htab hn h4 hfr, fun c => by omega⟩
    | succ m ih =>
      intro s M n S hm hs hset htab hn h4 hfr
      by_cases hsp : s = 2 ^ p_pr F
      · exact ih s M n S (by omega) hs hset htab hn h4 hfr
      have xF : x_F M w = F := by rw [← hFF]; exact x_F_eq (fun a a1 a2 => by funext j; exact hfr a j (by omega) (by omega))
      have wG : M w 2 = F 0 2 := by rw [← xF, x_F0]
      have pcs := q_pc_st G s
      have tab_fr : ∀ {M' : xM}, (∀ a j, (76 ≤ a ∧ a ≤ 80) → M' a j = M a j) → p_ptab M' F p q n S := by
        intro M' w'
        refine ⟨by rw [w' 76 1 (by omega)]; exact htab.1, fun j hj => ?_⟩
        obtain ⟨t1, t2, t3, t4⟩ := htab.2 j hj
        refine ⟨fun r r1 r2 => ?_, ?_, ?_, ?_⟩
        · rw [w' _ _ (by omega)]; exact t1 r r1 r2
        · rw [w' _ _ (by omega)]; exact t2
        · rw [w' _ _ (by omega)]; exact t3
        · rw [w' _ _ (by omega)]; exact t4
      have skip : ∀ M' : xM, (p_dok F p q s → ∃ k, k < n ∧ p_tau F p q (S k) = p_tau F p q s) → p_ptab M' F p q n S → M' 76 4 = q → (∀ a j, ¬ (36 ≤ a ∧ a ≤ 39) → ¬ (76 ≤ a ∧ a ≤ 80) → M' a j = M0 a j) → ∀ zv : Int, zv = x_w ((s : Int) + 1) → x_Ev l E (4, 0, 0) m_X5_findAll 23 [(15, 76), (11, w), (12, 7), (0, ((2 ^ p_pr F : Nat) : Int)), (0, zv), (5, 0)] [] M' Q := by
        intro M' hno ht' h4' hfr' v hv
        rw [x_w_id (by omega) (by omega)] at hv
        subst hv
        refine ih (s + 1) M' n S (by omega) (by omega) ⟨fun k hk => ⟨by have := (hset.1 k hk).1; omega, (hset.1 k hk).2⟩, hset.2.1, fun s' hs' hok => ?_⟩ ht' (by rw [pcs]; omega) h4' hfr'
        by_cases e : s' = s
        · rw [e] at hok ⊢; exact hno hok
        · exact hset.2.2 s' (by omega) hok
      refine u_X5_findAll_23 w 7 _ _ ⟨fun c => by omega, fun c => ?_⟩
      refine c_bitCount s (by omega) ⟨_, rfl, ?_⟩
      rw [wG]
      refine ⟨fun d => skip M (fun w => absurd w.1 d) htab h4 hfr, fun d => ?_⟩
      have cG : x_cn s 7 = G := by omega
      rw [if_pos cG] at pcs
      have n35 := q_pc_le (G := G) (S := s + 1) (by omega) (by omega)
      refine c_solveWeights (p := p) (q := q) hw (by omega) (by rw [xF]; exact hF) hpq (by rw [hfr 7 0 (by omega) (by omega)]; exact h70) (by rw [hfr 7 1 (by omega) (by omega)]; exact h71) (by omega) (by rw [xF]; exact d) (by rw [xF]; unfold p_pr at hsp hs; omega) ?_ ?_
      · rw [xF]
        intro hd M1 q1
        refine ⟨_, rfl, fun _ => skip M1 (fun w => absurd hd w.2.1) (tab_fr (fun a j w => by rw [q1 a (by omega)])) (by rw [q1 76 (by omega)]; exact h4) (fun a j w1 w2 => by rw [q1 a (by omega)]; exact hfr a j w1 w2), fun z => absurd rfl z⟩
      · rw [xF]
        intro hd M1 ⟨q1, q2, q3⟩
        refine ⟨_, rfl, fun z => absurd z (by omega), fun _ => ?_⟩
        have xF1 : x_F M1 w = F := by rw [← xF]; exact x_F_eq (fun a a1 a2 => q3 a (by omega))
        have ht1 : p_ptab M1 F p q n S := tab_fr (fun a j w => by rw [q3 a (by omega)])
        have h41 : M1 76 4 = q := by rw [q3 76 (by omega)]; exact h4
        have hfr1 : ∀ a j, ¬ (36 ≤ a ∧ a ≤ 39) → ¬ (76 ≤ a ∧ a ≤ 80) → M1 a j = M0 a j := fun a j w1 w2 => by rw [q3 a (by omega)]; exact hfr a j w1 w2
        refine c_ptight (p := p) (q := q) (by rw [xF1]; exact hF) (by rw [xF1]; omega) (by rw [xF1]; exact d) (by rw [xF1]; exact q2) ?_ ?_
        · rw [xF1]
          intro har
          have hok : p_dok F p q s := ⟨d, hd, har⟩
          refine ⟨_, rfl, fun z => absurd z (by omega), fun _ => ?_⟩
          rw [ht1.1]
          refine c_isOneOf2 (by omega) (fun ⟨k, k1, k2, k3⟩ => ⟨_, rfl, fun _ => skip M1 (fun _ => ⟨k.toNat, by omega, ?_⟩) ht1 h41 hfr1, fun z => absurd z (by decide)⟩) (fun hno => ⟨_, rfl, fun z => absurd rfl z, fun _ => ?_⟩)
          · have := (ht1.2 k.toNat (by omega)).2.2.1
            rw [show ((k.toNat : Nat) : Int) = k by omega] at this
            omega
          · refine c_pinsert (p := p) (q := q) hw (by rw [xF1]; exact hF) hpq (by rw [xF1]; omega) (by rw [xF1]; exact d) (by rw [xF1]; exact q2) (n := n) (by omega) ht1.1 (fun M2 r1 r2 r3 r4 r5 r6 => ⟨rfl, ?_⟩)
            rw [xF1] at r2 r5
            rw [q1, p_b_Cw] at r3
            intro v hv
            rw [x_w_id (by omega) (by omega)] at hv
            subst hv
            have old : ∀ k, k < n → (fun k => if k = n then s else S k) k = S k := fun k hk => by dsimp only; rw [if_neg (by omega)]
            have new : (fun k => if k = n then s else S k) n = s := by dsimp only; rw [if_pos rfl]
            have fresh : ∀ k, k < n → p_tau F p q (S k) ≠ p_tau F p q s := fun k hk e => hno k (by omega) (by omega) (by rw [(ht1.2 k hk).2.2.1, e])
            refine ih (s + 1) M2 (n + 1) (fun k => if k = n then s else S k) (by omega) (by omega) ⟨fun k hk => ?_, fun i j hi hj e => ?_, fun s' hs' hok' => ?_⟩ ⟨by rw [r1]; omega, fun k hk => ?_⟩ (by omega) ?_ (fun a j w1 w2 => ?_)
            · by_cases e : k = n
              · rw [e, new]; exact ⟨by omega, hok⟩
              · rw [old k (by omega)]
                have := hset.1 k (by omega)
                exact ⟨by omega, this.2⟩
            · by_cases ei : i = n
              · by_cases ej : j = n
                · omega
                · rw [ei, new, old j (by omega)] at e
                  exact absurd e.symm (fresh j (by omega))
              · by_cases ej : j = n
                · rw [ej, new, old i (by omega)] at e
                  exact absurd e (fresh i (by omega))
                · rw [old i (by omega), old j (by omega)] at e
                  exact hset.2.1 i j (by omega) (by omega) e
            · by_cases e : s' = s
              · exact ⟨n, by omega, by rw [new, e]⟩
              · obtain ⟨k, k1, k2⟩ := hset.2.2 s' (by omega) hok'
                exact ⟨k, by omega, by rw [old k k1]; exact k2⟩
            · by_cases e : k = n
              · rw [e, new]
                exact ⟨r2, r3, r4, r5⟩
              · rw [old k (by omega)]
                obtain ⟨t1, t2, t3, t4⟩ := ht1.2 k (by omega)
                refine ⟨fun r a1 a2 => ?_, ?_, ?_, ?_⟩
                · rw [r6 _ _ (by omega) (by omega) (by omega)]; exact t1 r a1 a2
                · rw [r6 _ _ (by omega) (by omega) (by omega)]; exact t2
                · rw [r6 _ _ (by omega) (by omega) (by omega)]; exact t3
                · rw [r6 _ _ (by omega) (by omega) (by omega)]; exact t4
            · rw [r6 76 4 (by omega) (by omega) (by omega)]; exact h41
            · rw [r6 a j (by omega) (by omega) (by omega)]; exact hfr1 a j w1 w2
        · rw [xF1]
          intro har
          exact ⟨_, rfl, fun _ => skip M1 (fun w => absurd w.2.2 har) ht1 h41 hfr1, fun z => absurd (show (-1 : Int) < 0 by omega) z⟩
  refine u_X5_findAll_0 w 7 ?_
  intro M1 hM1 M2 hM2
  have f2 : ∀ a j, ¬ (76 ≤ a ∧ a ≤ 80) → M2 a j = M0 a j := fun a j w => by rw [hM2, x_wr_ne _ _ (by omega), hM1, x_wr_ne _ _ (by omega)]
  have e71 : M1 7 1 = q := by rw [hM1, x_wr_ne _ _ (by omega)]; exact h71
  refine c_pairs w (by rw [f2 w 2 (by omega), hg2]; exact hg) (by rw [f2 w 3 (by omega), hr2]; exact hr) ⟨_, rfl, ?_⟩
  intro v hv
  rw [f2 w 2 (by omega), f2 w 3 (by omega), hg2, hr2, show F 0 3 + F 0 2 = ((p_pr F : Nat) : Int) by unfold p_pr; omega, x_shl (by omega)] at hv
  subst hv
  refine main (2 ^ p_pr F) 0 M2 0 (fun _ => 0) (Nat.sub_le _ _) (Nat.zero_le _) ⟨fun k hk => by omega, fun i j hi => by omega, fun s' hs' => by omega⟩ ⟨?_, fun k hk => by omega⟩ (Nat.zero_le _) ?_ (fun a j w1 w2 => f2 a j w2)
  · rw [hM2, x_wr_ne _ _ (by omega), hM1, x_wr_eq]; rfl
  · rw [hM2, x_wr_eq]; exact e71
end CA
