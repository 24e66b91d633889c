/-! Pieces -/
noncomputable def p_pc (Fs : Nat → xM) (m : Nat) (most : Int) (n : Nat) (P Q : Int → Int) (k : Nat) (i : Int) : Int := if i = 0 then p_nu (p_acc (fun F e => p_tr F e 1) Fs (p_pt n P most k) (p_pq n Q k) 2 m).1 ((p_acc (fun F e => p_tr F e 1) Fs (p_pt n P most k) (p_pq n Q k) 2 m).2 * 1) else if i = 1 then p_de (p_acc (fun F e => p_tr F e 1) Fs (p_pt n P most k) (p_pq n Q k) 2 m).1 ((p_acc (fun F e => p_tr F e 1) Fs (p_pt n P most k) (p_pq n Q k) 2 m).2 * 1) else if i = 2 then p_tN Fs m (p_pt n P most k) (p_pq n Q k) 2 else if i = 3 then p_tD Fs m (p_pt n P most k) (p_pq n Q k) 2 else if i = 4 then p_tN Fs m (p_pt n P most (k + 1)) (p_pq n Q (k + 1)) 1 else p_tD Fs m (p_pt n P most (k + 1)) (p_pq n Q (k + 1)) 1
section TP
variable {l : Launch} {E : xE} {Q' : Option xV → xM → Prop}
theorem c_putSum {M : xM} {fo : Int} (h1 : 0 ≤ fo ∧ fo + 1 < 6) (h : ∀ M1 : xM, M1 101 fo = M 48 0 → M1 101 (fo + 1) = M 48 1 → (∀ a k, ¬ (a = 101 ∧ (k = fo ∨ k = fo + 1)) → M1 a k = M a k) → Q' none M1) : x_Ev l E (1, 0, 0) m_X3_putSum 0 [(13, 40), (118, 101), (0, fo)] [] M Q' := by
  refine u_X3_putSum_0 fo ⟨by omega, ?_⟩
  intro M1 hM1
  rw [x_w_id (by omega) (by omega)]
  refine ⟨by omega, ?_⟩
  intro M2 hM2
  have e : M1 48 1 = M 48 1 := by rw [hM1, x_wr_ne _ _ (by omega)]
  rw [e] at hM2
  refine h M2 ?_ ?_ (fun a k w => ?_)
  · rw [hM2, x_wr_ne _ _ (by omega), hM1, x_wr_eq]
  · rw [hM2, x_wr_eq]
  · rw [hM2, x_wr_ne _ _ (by omega), hM1, x_wr_ne _ _ (by omega)]
theorem c_tellPiece (H10 : p_ten) (H1 : p_one) {M0 : xM} {Fs : Nat → xM} {m : Nat} (hW : p_CW M0 Fs m) {most : Int} (hmost : 1 ≤ most ∧ most ≤ 40) (hm6 : M0 6 1 = most) {n : Nat} {P Q : Int → Int} (hn : n ≤ 27) (hmem : p_bmem M0 n P Q) (hB : ∀ k : Int, 0 ≤ k → k < n → p_tm (P k) (Q k)) {k : Nat} (hk : k ≤ n) {fo : Int} (hfo : 0 ≤ fo ∧ fo + 6 ≤ 6)
    (h : ∀ M1 : xM, p_CW M1 Fs m → (∀ i, 0 ≤ i → i < 6 → M1 101 (fo + i) = p_pc Fs m most n P Q k i) → (∀ a j, ¬ (a = 40 ∧ j = 7) → a ≠ 48 → ¬ p_stc a j → ¬ (a = 101 ∧ fo ≤ j ∧ j < fo + 6) → M1 a j = M0 a j) → Q' none M1) : x_Ev l E (5, 0, 0) m_X3_tellPiece 0 [(13, 40), (0, (k : Int)), (118, 101), (0, fo)] [] M0 Q' := by
  have hm3 := hW.2.1
  have tmk := p_pt_tm hmost hB k
  have tmk1 := p_pt_tm hmost hB (k + 1)
  have tail : ∀ Ma : xM, p_CW Ma Fs m → p_sta Ma Fs m (p_pt n P most k) (p_pq n Q k) → (∀ a j, ¬ (a = 40 ∧ j = 7) → ¬ p_stc a j → Ma a j = M0 a j) → x_Ev l E (4, 0, 0) m_X3_addUp 0 [(13, 40), (0, 0), (0, 2), (12, 48), (5, 0), (5, 0), (5, 0), (5, 0), (5, 0), (5, 0), (5, 0), (5, 0)] [] Ma (fun r zM13 => r = none ∧ x_Ev l E (1, 0, 0) m_X3_putSum 0 [(13, 40), (118, 101), (0, fo)] [] zM13 (fun r zM14 => r = none ∧ x_Ev l E (4, 0, 0) m_X3_addUp 0 [(13, 40), (0, 1), (0, 2), (12, 48), (5, 0), (5, 0), (5, 0), (5, 0), (5, 0), (5, 0), (5, 0), (5, 0)] [] zM14 (fun r zM15 => r = none ∧ x_Ev l E (1, 0, 0) m_X3_putSum 0 [(13, 40), (118, 101), (0, (x_w (fo + 2)))] [] zM15 (fun r zM16 => r = none ∧ (¬ (k : Int) = (zM16 42 0) → ((0 : Int) ≤ (k : Int) ∧ ((k : Int) : Int) < 27) ∧ ((0 : Int) ≤ (k : Int) ∧ ((k : Int) : Int) < 27) ∧ x_Ev l E (4, 0, 0) m_X3_standAll 0 [(13, 40), (1, (zM16 43 (k : Int))), (5, 0), (1, (zM16 44 (k : Int))), (5, 0), (5, 0)] [] zM16 (fun r zM17 => r = none ∧ x_Ev l E (4, 0, 0) m_X3_addUp 0 [(13, 40), (0, 1), (0, 1), (12, 48), (5, 0), (5, 0), (5, 0), (5, 0), (5, 0), (5, 0), (5, 0), (5, 0)] [] zM17 (fun r zM18 => r = none ∧ x_Ev l E (1, 0, 0) m_X3_putSum 0 [(13, 40), (118, 101), (0, (x_w (fo + 4)))] [] zM18 (fun r zM19 => r = none ∧ Q' none zM19)))) ∧ ((k : Int) = (zM16 42 0) → x_Ev l E (4, 0, 0) m_X3_standAll 0 [(13, 40), (1, (zM16 6 1)), (5, 0), (1, 1), (5, 0), (5, 0)] [] zM16 (fun r zM20 => r = none ∧ x_Ev l E (4, 0, 0) m_X3_addUp 0 [(13, 40), (0, 1), (0, 1), (12, 48), (5, 0), (5, 0), (5, 0), (5, 0), (5, 0), (5, 0), (5, 0), (5, 0)] [] zM20 (fun r zM21 => r = none ∧ x_Ev l E (1, 0, 0) m_X3_putSum 0 [(13, 40), (118, 101), (0, (x_w (fo + 4)))] [] zM21 (fun r zM22 => r = none ∧ Q' none zM22)))))))) := by
    intro Ma hWa hsa hfa
    refine c_addUp H10 H1 hWa (g := 0) tmk (by omega) hsa (Or.inl ⟨rfl, rfl, rfl⟩) (fun Mb b1 b2 b3 => ⟨rfl, c_putSum (by omega) (fun Mc c1 c2 c3 => ⟨rfl, ?_⟩)⟩)
    have fc : ∀ a j, a ≠ 48 → ¬ (a = 101 ∧ (j = fo ∨ j = fo + 1)) → Mc a j = Ma a j := fun a j w1 w2 => by rw [c3 a j w2, b3 a w1]
    have hWc : p_CW Mc Fs m := p_CW_fr hWa (fun a j a1 a2 a3 a4 => fc a j (by omega) (by omega))
    have hsc : p_sta Mc Fs m (p_pt n P most k) (p_pq n Q k) := ⟨by rw [fc 40 7 (by omega) (by omega)]; exact hsa.1, fun f hf => p_st_fr (hsa.2 f hf) (fc _ _ (by omega) (by omega)) (fc _ _ (by omega) (by omega)) (by funext j; exact fc _ _ (by omega) (by omega)) (by funext j; exact fc _ _ (by omega) (by omega))⟩
    rw [x_w_id (x := fo + 2) (by omega) (by omega), x_w_id (x := fo + 4) (by omega) (by omega)]
    refine c_addUp H10 H1 hWc (g := 1) tmk (by omega) hsc (Or.inr ⟨rfl, rfl, rfl⟩) (fun Md d1 d2 d3 => ⟨rfl, c_putSum (by omega) (fun Me e1 e2 e3 => ⟨rfl, ?_⟩)⟩)
    have fe : ∀ a j, a ≠ 48 → ¬ (a = 101 ∧ (fo ≤ j ∧ j < fo + 4)) → Me a j = Ma a j := fun a j w1 w2 => by rw [e3 a j (by omega), d3 a w1]; exact fc a j w1 (by omega)
    have hWe : p_CW Me Fs m := p_CW_fr hWa (fun a j a1 a2 a3 a4 => fe a j (by omega) (by omega))
    have g42 : Me 42 0 = n := by rw [fe 42 0 (by omega) (by omega), hfa 42 0 (by omega) (by unfold p_stc; omega)]; exact hmem.1
    have val : Me 101 fo = p_pc Fs m most n P Q k 0 ∧ Me 101 (fo + 1) = p_pc Fs m most n P Q k 1 ∧ Me 101 (fo + 2) = p_pc Fs m most n P Q k 2 ∧ Me 101 (fo + 3) = p_pc Fs m most n P Q k 3 := by
      refine ⟨?_, ?_, ?_, ?_⟩
      · rw [e3 _ _ (by omega), d3 _ (by omega), c1, b1]; rfl
      · rw [e3 _ _ (by omega), d3 _ (by omega), c2, b2]; rfl
      · rw [e1, d1]; rfl
      · rw [show fo + 3 = fo + 2 + 1 by omega, e2, d2]; rfl
    have done : ∀ Mf : xM, p_CW Mf Fs m → p_sta Mf Fs m (p_pt n P most (k + 1)) (p_pq n Q (k + 1)) → (∀ a j, ¬ (a = 40 ∧ j = 7) → ¬ p_stc a j → Mf a j = Me a j) → x_Ev l E (4, 0, 0) m_X3_addUp 0 [(13, 40), (0, 1), (0, 1), (12, 48), (5, 0), (5, 0), (5, 0), (5, 0), (5, 0), (5, 0), (5, 0), (5, 0)] [] Mf (fun r zM7 => r = none ∧ x_Ev l E (1, 0, 0) m_X3_putSum 0 [(13, 40), (118, 101), (0, fo + 4)] [] zM7 (fun r zM8 => r = none ∧ Q' none zM8)) := by
      intro Mf hWf hsf hff
      refine c_addUp H10 H1 hWf (g := 1) tmk1 (by omega) hsf (Or.inr ⟨rfl, rfl, rfl⟩) (fun Mg g1 g2 g3 => ⟨rfl, c_putSum (by omega) (fun Mh h1 h2 h3 => ⟨rfl, ?_⟩)⟩)
      have fh : ∀ a j, ¬ (a = 40 ∧ j = 7) → a ≠ 48 → ¬ p_stc a j → ¬ (a = 101 ∧ (j = fo + 4 ∨ j = fo + 4 + 1)) → Mh a j = Me a j := fun a j w1 w2 w3 w4 => by rw [h3 a j w4, g3 a w2]; exact hff a j w1 w3
      refine h Mh (p_CW_fr hWe (fun a j a1 a2 a3 a4 => fh a j (by omega) (by omega) a4 (by omega))) (fun i i1 i2 => ?_) (fun a j w1 w2 w3 w4 => ?_)
      · have ns : ∀ j, ¬ p_stc 101 j := fun j => by unfold p_stc; omega
        have : i = 0 ∨ i = 1 ∨ i = 2 ∨ i = 3 ∨ i = 4 ∨ i = 5 := by omega
        rcases this with e | e | e | e | e | e <;> subst e
        · rw [Int.add_zero, fh _ _ (by omega) (by omega) (ns _) (by omega)]; exact val.1
        · rw [fh _ _ (by omega) (by omega) (ns _) (by omega)]; exact val.2.1
        · rw [fh _ _ (by omega) (by omega) (ns _) (by omega)]; exact val.2.2.1
        · rw [fh _ _ (by omega) (by omega) (ns _) (by omega)]; exact val.2.2.2
        · rw [h1, g1]; rfl
        · rw [show fo + 5 = fo + 4 + 1 by omega, h2, g2]; rfl
      · rw [fh a j w1 w2 w3 (by omega), fe a j w2 (by omega)]; exact hfa a j w1 w3
    rw [g42]
    refine ⟨fun c => ⟨by omega, by omega, ?_⟩, fun c => ?_⟩
    · have e1 : p_pt n P most (k + 1) = P k := by
        unfold p_pt
        rw [if_neg (by omega), if_pos (by omega), show (((k + 1 : Nat) : Int) - 1) = k by omega]
      have e2 : p_pq n Q (k + 1) = Q k := by
        unfold p_pq
        rw [if_neg (by omega), if_pos (by omega), show (((k + 1 : Nat) : Int) - 1) = k by omega]
      have mk := hmem.2 k (by omega) (by omega)
      rw [fe 43 k (by omega) (by omega), hfa 43 k (by omega) (by unfold p_stc; omega), mk.1, fe 44 k (by omega) (by omega), hfa 44 k (by omega) (by unfold p_stc; omega), mk.2, ← e1, ← e2]
      exact c_standAll H10 hWe tmk1 (fun Mf f1 f2 f3 => ⟨rfl, done Mf f1 f2 f3⟩)
    · have e1 : p_pt n P most (k + 1) = most := by
        unfold p_pt
        rw [if_neg (by omega), if_neg (by omega)]
      have e2 : p_pq n Q (k + 1) = 1 := by
        unfold p_pq
        rw [if_neg (by omega), if_neg (by omega)]
      rw [fe 6 1 (by omega) (by omega), hfa 6 1 (by omega) (by unfold p_stc; omega), hm6, ← e1]
      rw [e1, e2] at tmk1 done
      rw [e1]
      exact c_standAll H10 hWe tmk1 (fun Mf f1 f2 f3 => ⟨rfl, done Mf f1 f2 f3⟩)
  refine u_X3_tellPiece_0 k fo ⟨fun c => by omega, fun _ => ⟨fun c => by rw [hmem.1] at c; omega, fun _ => ⟨fun c => by omega, fun _ => ⟨fun _ => ⟨fun c => ?_, fun c => ?_⟩, fun c => by rw [x_w_id (by omega) (by omega)] at c; omega⟩⟩⟩⟩
  · rw [x_w_id (x := (k : Int) - 1) (by omega) (by omega)]
    have e1 : p_pt n P most k = P ((k : Int) - 1) := by
      unfold p_pt
      rw [if_neg (by omega), if_pos (by omega)]
    have e2 : p_pq n Q k = Q ((k : Int) - 1) := by
      unfold p_pq
      rw [if_neg (by omega), if_pos (by omega)]
    have mk := hmem.2 ((k : Int) - 1) (by omega) (by omega)
    rw [mk.1, mk.2, ← e1, ← e2]
    exact ⟨by omega, by omega, c_standAll H10 hW tmk (fun Ma a1 a2 a3 => ⟨rfl, tail Ma a1 a2 a3⟩)⟩
  · have k0 : k = 0 := by omega
    have e1 : p_pt n P most k = 0 := by
      unfold p_pt
      rw [if_pos k0]
    have e2 : p_pq n Q k = 1 := by
      unfold p_pq
      rw [if_pos k0]
    rw [e1, e2] at tmk tail
    exact c_standAll H10 hW tmk (fun Ma a1 a2 a3 => ⟨rfl, tail Ma a1 a2 a3⟩)
theorem c_putSum_v2 {M : xM} {fo : Int} (h1 : 0 ≤ fo ∧ fo + 1 < 168) (h : ∀ M1 : xM, M1 100 fo = M 48 0 → M1 100 (fo + 1) = M 48 1 → (∀ a k, ¬ (a = 100 ∧ (k = fo ∨ k = fo + 1)) → M1 a k = M a k) → Q' none M1) : x_Ev l E (1, 0, 0) m_X3_putSum 0 [(13, 40), (117, 100), (0, fo)] [] M Q' := by
  refine u_X3_putSum_0_v2 fo ⟨by omega, ?_⟩
  intro M1 hM1
  rw [x_w_id (by omega) (by omega)]
  refine ⟨by omega, ?_⟩
  intro M2 hM2
  have e : M1 48 1 = M 48 1 := by rw [hM1, x_wr_ne _ _ (by omega)]
  rw [e] at hM2
  refine h M2 ?_ ?_ (fun a k w => ?_)
  · rw [hM2, x_wr_ne _ _ (by omega), hM1, x_wr_eq]
  · rw [hM2, x_wr_eq]
  · rw [hM2, x_wr_ne _ _ (by omega), hM1, x_wr_ne _ _ (by omega)]
theorem c_tellPiece_v2 (H10 : p_ten) (H1 : p_one) {M0 : xM} {Fs : Nat → xM} {m : Nat} (hW : p_CW M0 Fs m) {most : Int} (hmost : 1 ≤ most ∧ most ≤ 40) (hm6 : M0 6 1 = most) {n : Nat} {P Q : Int → Int} (hn : n ≤ 27) (hmem : p_bmem M0 n P Q) (hB : ∀ k : Int, 0 ≤ k → k < n → p_tm (P k) (Q k)) {k : Nat} (hk : k ≤ n) {fo : Int} (hfo : 0 ≤ fo ∧ fo + 6 ≤ 168)
    (h : ∀ M1 : xM, p_CW M1 Fs m → (∀ i, 0 ≤ i → i < 6 → M1 100 (fo + i) = p_pc Fs m most n P Q k i) → (∀ a j, ¬ (a = 40 ∧ j = 7) → a ≠ 48 → ¬ p_stc a j → ¬ (a = 100 ∧ fo ≤ j ∧ j < fo + 6) → M1 a j = M0 a j) → Q' none M1) : x_Ev l E (5, 0, 0) m_X3_tellPiece 0 [(13, 40), (0, (k : Int)), (117, 100), (0, fo)] [] M0 Q' := by
  have hm3 := hW.2.1
  have tmk := p_pt_tm hmost hB k
  have tmk1 := p_pt_tm hmost hB (k + 1)
  have tail : ∀ Ma : xM, p_CW Ma Fs m → p_sta Ma Fs m (p_pt n P most k) (p_pq n Q k) → (∀ a j, ¬ (a = 40 ∧ j = 7) → ¬ p_stc a j → Ma a j = M0 a j) → x_Ev l E (4, 0, 0) m_X3_addUp 0 [(13, 40), (0, 0), (0, 2), (12, 48), (5, 0), (5, 0), (5, 0), (5, 0), (5, 0), (5, 0), (5, 0), (5, 0)] [] Ma (fun r zM13 => r = none ∧ x_Ev l E (1, 0, 0) m_X3_putSum 0 [(13, 40), (117, 100), (0, fo)] [] zM13 (fun r zM14 => r = none ∧ x_Ev l E (4, 0, 0) m_X3_addUp 0 [(13, 40), (0, 1), (0, 2), (12, 48), (5, 0), (5, 0), (5, 0), (5, 0), (5, 0), (5, 0), (5, 0), (5, 0)] [] zM14 (fun r zM15 => r = none ∧ x_Ev l E (1, 0, 0) m_X3_putSum 0 [(13, 40), (117, 100), (0, (x_w (fo + 2)))] [] zM15 (fun r zM16 => r = none ∧ (¬ (k : Int) = (zM16 42 0) → ((0 : Int) ≤ (k : Int) ∧ ((k : Int) : Int) < 27) ∧ ((0 : Int) ≤ (k : Int) ∧ ((k : Int) : Int) < 27) ∧ x_Ev l E (4, 0, 0) m_X3_standAll 0 [(13, 40), (1, (zM16 43 (k : Int))), (5, 0), (1, (zM16 44 (k : Int))), (5, 0), (5, 0)] [] zM16 (fun r zM17 => r = none ∧ x_Ev l E (4, 0, 0) m_X3_addUp 0 [(13, 40), (0, 1), (0, 1), (12, 48), (5, 0), (5, 0), (5, 0), (5, 0), (5, 0), (5, 0), (5, 0), (5, 0)] [] zM17 (fun r zM18 => r = none ∧ x_Ev l E (1, 0, 0) m_X3_putSum 0 [(13, 40), (117, 100), (0, (x_w (fo + 4)))] [] zM18 (fun r zM19 => r = none ∧ Q' none zM19)))) ∧ ((k : Int) = (zM16 42 0) → x_Ev l E (4, 0, 0) m_X3_standAll 0 [(13, 40), (1, (zM16 6 1)), (5, 0), (1, 1), (5, 0), (5, 0)] [] zM16 (fun r zM20 => r = none ∧ x_Ev l E (4, 0, 0) m_X3_addUp 0 [(13, 40), (0, 1), (0, 1), (12, 48), (5, 0), (5, 0), (5, 0), (5, 0), (5, 0), (5, 0), (5, 0), (5, 0)] [] zM20 (fun r zM21 => r = none ∧ x_Ev l E (1, 0, 0) m_X3_putSum 0 [(13, 40), (117, 100), (0, (x_w (fo + 4)))] [] zM21 (fun r zM22 => r = none ∧ Q' none zM22)))))))) := by
    intro Ma hWa hsa hfa
    refine c_addUp H10 H1 hWa (g := 0) tmk (by omega) hsa (Or.inl ⟨rfl, rfl, rfl⟩) (fun Mb b1 b2 b3 => ⟨rfl, c_putSum_v2 (by omega) (fun Mc c1 c2 c3 => ⟨rfl, ?_⟩)⟩)
    have fc : ∀ a j, a ≠ 48 → ¬ (a = 100 ∧ (j = fo ∨ j = fo + 1)) → Mc a j = Ma a j := fun a j w1 w2 => by rw [c3 a j w2, b3 a w1]
    have hWc : p_CW Mc Fs m := p_CW_fr hWa (fun a j a1 a2 a3 a4 => fc a j (by omega) (by omega))
    have hsc : p_sta Mc Fs m (p_pt n P most k) (p_pq n Q k) := ⟨by rw [fc 40 7 (by omega) (by omega)]; exact hsa.1, fun f hf => p_st_fr (hsa.2 f hf) (fc _ _ (by omega) (by omega)) (fc _ _ (by omega) (by omega)) (by funext j; exact fc _ _ (by omega) (by omega)) (by funext j; exact fc _ _ (by omega) (by omega))⟩
    rw [x_w_id (x := fo + 2) (by omega) (by omega), x_w_id (x := fo + 4) (by omega) (by omega)]
    refine c_addUp H10 H1 hWc (g := 1) tmk (by omega) hsc (Or.inr ⟨rfl, rfl, rfl⟩) (fun Md d1 d2 d3 => ⟨rfl, c_putSum_v2 (by omega) (fun Me e1 e2 e3 => ⟨rfl, ?_⟩)⟩)
    have fe : ∀ a j, a ≠ 48 → ¬ (a = 100 ∧ (fo ≤ j ∧ j < fo + 4)) → Me a j = Ma a j := fun a j w1 w2 => by rw [e3 a j (by omega), d3 a w1]; exact fc a j w1 (by omega)
    have hWe : p_CW Me Fs m := p_CW_fr hWa (fun a j a1 a2 a3 a4 => fe a j (by omega) (by omega))
    have g42 : Me 42 0 = n := by rw [fe 42 0 (by omega) (by omega), hfa 42 0 (by omega) (by unfold p_stc; omega)]; exact hmem.1
    have val : Me 100 fo = p_pc Fs m most n P Q k 0 ∧ Me 100 (fo + 1) = p_pc Fs m most n P Q k 1 ∧ Me 100 (fo + 2) = p_pc Fs m most n P Q k 2 ∧ Me 100 (fo + 3) = p_pc Fs m most n P Q k 3 := by
      refine ⟨?_, ?_, ?_, ?_⟩
      · rw [e3 _ _ (by omega), d3 _ (by omega), c1, b1]; rfl
      · rw [e3 _ _ (by omega), d3 _ (by omega), c2, b2]; rfl
      · rw [e1, d1]; rfl
      · rw [show fo + 3 = fo + 2 + 1 by omega, e2, d2]; rfl
    have done : ∀ Mf : xM, p_CW Mf Fs m → p_sta Mf Fs m (p_pt n P most (k + 1)) (p_pq n Q (k + 1)) → (∀ a j, ¬ (a = 40 ∧ j = 7) → ¬ p_stc a j → Mf a j = Me a j) → x_Ev l E (4, 0, 0) m_X3_addUp 0 [(13, 40), (0, 1), (0, 1), (12, 48), (5, 0), (5, 0), (5, 0), (5, 0), (5, 0), (5, 0), (5, 0), (5, 0)] [] Mf (fun r zM7 => r = none ∧ x_Ev l E (1, 0, 0) m_X3_putSum 0 [(13, 40), (117, 100), (0, fo + 4)] [] zM7 (fun r zM8 => r = none ∧ Q' none zM8)) := by
      intro Mf hWf hsf hff
      refine c_addUp H10 H1 hWf (g := 1) tmk1 (by omega) hsf (Or.inr ⟨rfl, rfl, rfl⟩) (fun Mg g1 g2 g3 => ⟨rfl, c_putSum_v2 (by omega) (fun Mh h1 h2 h3 => ⟨rfl, ?_⟩)⟩)
      have fh : ∀ a j, ¬ (a = 40 ∧ j = 7) → a ≠ 48 → ¬ p_stc a j → ¬ (a = 100 ∧ (j = fo + 4 ∨ j = fo + 4 + 1)) → Mh a j = Me a j := fun a j w1 w2 w3 w4 => by rw [h3 a j w4, g3 a w2]; exact hff a j w1 w3
      refine h Mh (p_CW_fr hWe (fun a j a1 a2 a3 a4 => fh a j (by omega) (by omega) a4 (by omega))) (fun i i1 i2 => ?_) (fun a j w1 w2 w3 w4 => ?_)
      · have ns : ∀ j, ¬ p_stc 100 j := fun j => by unfold p_stc; omega
        have : i = 0 ∨ i = 1 ∨ i = 2 ∨ i = 3 ∨ i = 4 ∨ i = 5 := by omega
        rcases this with e | e | e | e | e | e <;> subst e
        · rw [Int.add_zero, fh _ _ (by omega) (by omega) (ns _) (by omega)]; exact val.1
        · rw [fh _ _ (by omega) (by omega) (ns _) (by omega)]; exact val.2.1
        · rw [fh _ _ (by omega) (by omega) (ns _) (by omega)]; exact val.2.2.1
        · rw [fh _ _ (by omega) (by omega) (ns _) (by omega)]; exact val.2.2.2
        · rw [h1, g1]; rfl
        · rw [show fo + 5 = fo + 4 + 1 by omega, h2, g2]; rfl
      · rw [fh a j w1 w2 w3 (by omega), fe a j w2 (by omega)]; exact hfa a j w1 w3
    rw [g42]
    refine ⟨fun c => ⟨by omega, by omega, ?_⟩, fun c => ?_⟩
    · have e1 : p_pt n P most (k + 1) = P k := by
        unfold p_pt
        rw [if_neg (by omega), if_pos (by omega), show (((k + 1 : Nat) : Int) - 1) = k by omega]
      have e2 : p_pq n Q (k + 1) = Q k := by
        unfold p_pq
        rw [if_neg (by omega), if_pos (by omega), show (((k + 1 : Nat) : Int) - 1) = k by omega]
      have mk := hmem.2 k (by omega) (by omega)
      rw [fe 43 k (by omega) (by omega), hfa 43 k (by omega) (by unfold p_stc; omega), mk.1, fe 44 k (by omega) (by omega), hfa 44 k (by omega) (by unfold p_stc; omega), mk.2, ← e1, ← e2]
      exact c_standAll H10 hWe tmk1 (fun Mf f1 f2 f3 => ⟨rfl, done Mf f1 f2 f3⟩)
    · have e1 : p_pt n P most (k + 1) = most := by
        unfold p_pt
        rw [if_neg (by omega), if_neg (by omega)]
      have e2 : p_pq n Q (k + 1) = 1 := by
        unfold p_pq
        rw [if_neg (by omega), if_neg (by omega)]
      rw [fe 6 1 (by omega) (by omega), hfa 6 1 (by omega) (by unfold p_stc; omega), hm6, ← e1]
      rw [e1, e2] at tmk1 done
      rw [e1]
      exact c_standAll H10 hWe tmk1 (fun Mf f1 f2 f3 => ⟨rfl, done Mf f1 f2 f3⟩)
  refine u_X3_tellPiece_0_v2 k fo ⟨fun c => by omega, fun _ => ⟨fun c => by rw [hmem.1] at c; omega, fun _ => ⟨fun c => by omega, fun _ => ⟨fun _ => ⟨fun c => ?_, fun c => ?_⟩, fun c => by rw [x_w_id (by omega) (by omega)] at c; omega⟩⟩⟩⟩
  · rw [x_w_id (x := (k : Int) - 1) (by omega) (by omega)]
    have e1 : p_pt n P most k = P ((k : Int) - 1) := by
      unfold p_pt
      rw [if_neg (by omega), if_pos (by omega)]
    have e2 : p_pq n Q k = Q ((k : Int) - 1) := by
      unfold p_pq
      rw [if_neg (by omega), if_pos (by omega)]
    have mk := hmem.2 ((k : Int) - 1) (by omega) (by omega)
    rw [mk.1, mk.2, ← e1, ← e2]
    exact ⟨by omega, by omega, c_standAll H10 hW tmk (fun Ma a1 a2 a3 => ⟨rfl, tail Ma a1 a2 a3⟩)⟩
  · have k0 : k = 0 := by omega
    have e1 : p_pt n P most k = 0 := by
      unfold p_pt
      rw [if_pos k0]
    have e2 : p_pq n Q k = 1 := by
      unfold p_pq
      rw [if_pos k0]
    rw [e1, e2] at tmk tail
    exact c_standAll H10 hW tmk (fun Ma a1 a2 a3 => ⟨rfl, tail Ma a1 a2 a3⟩)
theorem c_pieceOf (H10 : p_ten) (H1 : p_one) {M0 : xM} {Fs : Nat → xM} {m : Nat} (hW : p_RW M0 Fs m) {most : Int} (hmost : 1 ≤ most ∧ most ≤ 40) (hm8 : M0 103 8 = most) {n : Nat} {P Q : Int → Int} (hn : n ≤ 135) (hmem : p_rbmem M0 n P Q) (hB : ∀ k : Int, 0 ≤ k → k < n → p_tm (P k) (Q k)) {k : Nat} (hk : k ≤ n) {i : Int} (hi : 0 ≤ i ∧ i < 6)
    (h : ∀ M1 : xM, (∀ a j, ¬ (a = 103 ∧ (j = 15 ∨ j = 16)) → M1 a j = M0 a j) → Q' (some (1, p_pc Fs m most n P Q k i)) M1) : x_Ev l E (6, 0, 0) m_X11_pieceOf 0 [(21, 103), (0, (k : Int)), (0, i)] [] M0 Q' := by
  have tmk := p_pt_tm hmost hB k
  have tmk1 := p_pt_tm hmost hB (k + 1)
  have md : (i = 0 ∨ i = 2 ∨ i = 4 → i.tmod 2 = 0) ∧ (i = 1 ∨ i = 3 ∨ i = 5 → ¬ i.tmod 2 = 0) := by
    have : i = 0 ∨ i = 1 ∨ i = 2 ∨ i = 3 ∨ i = 4 ∨ i = 5 := by omega
    rcases this with e | e | e | e | e | e <;> subst e <;> decide
  refine u_X11_pieceOf_0 k i ⟨fun c2 => ⟨fun c4 => ?_, fun c4 => ?_⟩, fun c2 => ?_⟩
  · rw [x_w_id (by omega) (by omega), show (k : Int) + 1 = ((k + 1 : Nat) : Int) by omega]
    refine c_pointAbove hn hm8 hmem (k + 1) (by omega) ⟨_, rfl, c_pointBelow hn hmem (k + 1) (by omega) ⟨_, rfl, c_totals H10 H1 hW tmk1 (by omega) (fun M1 t1 t2 t3 => ⟨rfl, fun d => ?_, fun d => ?_⟩)⟩⟩
    · have e : i = 5 := by
        have : i = 4 ∨ i = 5 := by omega
        rcases this with w | w
        · exact absurd (md.1 (by omega)) d
        · exact w
      subst e
      rw [t2]; exact h M1 t3
    · have e : i = 4 := by
        have : i = 4 ∨ i = 5 := by omega
        rcases this with w | w
        · exact w
        · exact absurd d (md.2 (by omega))
      subst e
      rw [t1]; exact h M1 t3
  · refine c_pointAbove hn hm8 hmem k (by omega) ⟨_, rfl, c_pointBelow hn hmem k (by omega) ⟨_, rfl, c_totals H10 H1 hW tmk (by omega) (fun M1 t1 t2 t3 => ⟨rfl, fun d => ?_, fun d => ?_⟩)⟩⟩
    · have e : i = 3 := by
        have : i = 2 ∨ i = 3 := by omega
        rcases this with w | w
        · exact absurd (md.1 (by omega)) d
        · exact w
      subst e
      rw [t2]; exact h M1 t3
    · have e : i = 2 := by
        have : i = 2 ∨ i = 3 := by omega
        rcases this with w | w
        · exact w
        · exact absurd d (md.2 (by omega))
      subst e
      rw [t1]; exact h M1 t3
  · refine c_pointAbove hn hm8 hmem k (by omega) ⟨_, rfl, c_pointBelow hn hmem k (by omega) ⟨_, rfl, c_slopes H10 H1 hW tmk (fun M1 t1 t2 t3 => ⟨rfl, fun d => ?_, fun d => ?_⟩)⟩⟩
    · have e : i = 1 := by
        have : i = 0 ∨ i = 1 := by omega
        rcases this with w | w
        · exact absurd (md.1 (by omega)) d
        · exact w
      subst e
      rw [t2]; exact h M1 t3
    · have e : i = 0 := by
        have : i = 0 ∨ i = 1 := by omega
        rcases this with w | w
        · exact w
        · exact absurd d (md.2 (by omega))
      subst e
      rw [t1]; exact h M1 t3
end TP
