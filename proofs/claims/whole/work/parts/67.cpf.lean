/-! The class's table of prices -/
theorem x_ix4 {a b : Int} (ha : 0 ≤ a) (ha2 : a < 100) (hb : 0 ≤ b) (hb2 : b < 100) : x_w (x_w (a * 4) + b) = 4 * a + b := by unfold x_w; omega
def q_pc (G S : Nat) : Nat := (List.range S).countP (fun s => decide (x_cn s 7 = G))
theorem q_pc_st (G S : Nat) : q_pc G (S + 1) = q_pc G S + if x_cn S 7 = G then 1 else 0 := by
  unfold q_pc
  rw [List.range_succ, List.countP_append]
  by_cases c : x_cn S 7 = G
  · rw [if_pos c]; simp [c]
  · rw [if_neg c]; simp [c]
theorem q_pc_le {G S : Nat} (hG : G < 4) (hS : S < 129) : q_pc G S ≤ 35 := of_decide_eq_true (x_all2 (P := fun G S => decide (q_pc G S ≤ 35)) 4 129 (by decide +kernel) G hG S hS)
section CT
variable {l : Launch} {E : xE} {Q : Option xV → xM → Prop}
theorem c_pinsert {w p q : Int} (hw : 9 ≤ w ∧ w ≤ 32) {M0 : xM} (hF : p_wf (x_F M0 w)) (hpq : p_tm p q) {s : Nat} (hs : s < 2 ^ p_pr (x_F M0 w)) (hp : (x_cn s 7 : Int) = x_F M0 w 0 2) (hW : ∀ i, 0 ≤ i → i < 3 → M0 39 i = p_W (x_F M0 w) p q s i) {n : Nat} (hn : n < 35) (hn1 : M0 76 1 = n) {t : Int}
    (h : ∀ M1 : xM, M1 76 1 = (n : Int) + 1 → (∀ r, 0 ≤ r → r < 4 → M1 77 (4 * (n : Int) + r) = if r < x_F M0 w 0 3 then p_Y (x_F M0 w) p q s r else 0) → M1 78 n = M0 36 3 → M1 79 n = t → M1 80 n = p_co (x_F M0 w) (p_Y (x_F M0 w) p q s) → (∀ a k, ¬ (a = 76 ∧ k = 1) → ¬ (a = 77 ∧ 4 * (n : Int) ≤ k ∧ k < 4 * (n : Int) + 4) → ¬ (78 ≤ a ∧ a ≤ 80 ∧ k = n) → M1 a k = M0 a k) → Q none M1) : x_Ev l E (1, 0, 0) m_X5_insert 0 [(15, 76), (11, w), (0, (s : Int)), (0, t), (5, 0), (5, 0), (5, 0), (5, 0)] [] M0 Q := by
  have hgd := hF.2.2.1
  have hr := hF.2.2.2.1
  have h7 := p_pr_le hF
  have hyb := p_Y_bd hF hpq hs hp
  have hrow : M0 w 3 = x_F M0 w 0 3 := by rw [x_F0]
  have hbd : ∀ k, M0 (w + 3) k = x_F M0 w 3 k := fun k => by rw [x_F3]
  have hpr : ((p_pr (x_F M0 w) : Nat) : Int) = x_F M0 w 0 3 + x_F M0 w 0 2 := by unfold p_pr; omega
  generalize hFF : x_F M0 w = F at *
  obtain ⟨R, hR⟩ : ∃ R : Nat, F 0 3 = R := ⟨(F 0 3).toNat, by omega⟩
  have hyb2 : ∀ r, 0 ≤ r → r < 7 → -61992000000 ≤ (if r < F 0 3 then p_Y F p q s r else 0) ∧ (if r < F 0 3 then p_Y F p q s r else 0) ≤ 61992000000 := by
    intro r r1 r2
    split
    · exact hyb r r1 r2
    · omega
  have cst := fun (r : Nat) (hr4 : r ≤ 4) => p_co_bd hF (Y := fun r => if r < F 0 3 then p_Y F p q s r else 0) hr4 hyb2
  have main : ∀ (k r : Nat) (M : xM), 4 - r ≤ k → r ≤ 4 → M 80 n = x_sm (fun i => (if i < F 0 3 then p_Y F p q s i else 0) * F 3 i) r → (∀ i : Int, 0 ≤ i → i < r → M 77 (4 * (n : Int) + i) = if i < F 0 3 then p_Y F p q s i else 0) → (∀ a j, ¬ (a = 77 ∧ 4 * (n : Int) ≤ j ∧ j < 4 * (n : Int) + 4) → ¬ (a = 80 ∧ j = n) → M a j = M0 a j) → x_Ev l E (1, 0, 0) m_X5_insert 26 [(15, 76), (11, w), (0, (s : Int)), (0, t), (0, (x_cn s (if r ≤ R then r else R) : Int)), (0, (r : Int)), (5, 0), (5, 0)] [] M Q := by
    have fin : ∀ (r : Nat) (M : xM), r = 4 → M 80 n = x_sm (fun i => (if i < F 0 3 then p_Y F p q s i else 0) * F 3 i) r → (∀ i : Int, 0 ≤ i → i < r → M 77 (4 * (n : Int) + i) = if i < F 0 3 then p_Y F p q s i else 0) → (∀ a j, ¬ (a = 77 ∧ 4 * (n : Int) ≤ j ∧ j < 4 * (n : Int) + 4) → ¬ (a = 80 ∧ j = n) → M a j = M0 a j) → (((0 : Int) ≤ (M 76 1) ∧ (M 76 1) < 35) ∧ ∀ zM1 : xM, zM1 = x_wr M 78 (M 76 1) (M 36 3) → ((0 : Int) ≤ (zM1 76 1) ∧ (zM1 76 1) < 35) ∧ ∀ zM2 : xM, zM2 = x_wr zM1 79 (zM1 76 1) t → ∀ zM3 : xM, zM3 = x_wr zM2 76 1 (x_w ((zM2 76 1) + 1)) → Q none zM3) := by
      intro r M er g1 g2 g3
      have e1 : M 76 1 = n := by rw [g3 76 1 (by omega) (by omega)]; exact hn1
      have e36 : M 36 3 = M0 36 3 := g3 36 3 (by omega) (by omega)
      rw [e1, e36]
      refine ⟨by omega, ?_⟩
      intro M1 hM1
      have f1 : M1 76 1 = n := by rw [hM1, x_wr_ne _ _ (by omega)]; exact e1
      rw [f1]
      refine ⟨by omega, ?_⟩
      intro M2 hM2 M3 hM3
      have f2 : M2 76 1 = n := by rw [hM2, x_wr_ne _ _ (by omega)]; exact f1
      rw [f2, x_w_id (by omega) (by omega)] at hM3
      have fr : ∀ a j : Int, ¬ (a = 76 ∧ j = 1) → ¬ (a = 78 ∧ j = n) → ¬ (a = 79 ∧ j = n) → M3 a j = M a j := fun a j w1 w2 w3 => by rw [hM3, x_wr_ne _ _ w1, hM2, x_wr_ne _ _ w3, hM1, x_wr_ne _ _ w2]
      refine h M3 ?_ (fun i i1 i2 => ?_) ?_ ?_ ?_ (fun a j w1 w2 w3 => ?_)
      · rw [hM3, x_wr_eq]
      · rw [fr _ _ (by omega) (by omega) (by omega)]; exact g2 i i1 (by omega)
      · rw [hM3, x_wr_ne _ _ (by omega), hM2, x_wr_ne _ _ (by omega), hM1, x_wr_eq]
      · rw [hM3, x_wr_ne _ _ (by omega), hM2, x_wr_eq]
      · rw [fr _ _ (by omega) (by omega) (by omega), g1, er]
        unfold p_co
        rw [hR, Int.toNat_natCast, show 4 = R + (4 - R) by omega, x_sm_split]
        have z : x_sm (fun j => (if (R : Int) + j < (R : Int) then p_Y F p q s ((R : Int) + j) else 0) * F 3 ((R : Int) + j)) (4 - R) = 0 := x_sm_zero _ (fun i i1 i2 => by rw [if_neg (by omega), Int.zero_mul])
        rw [z, Int.add_zero]
        refine x_sm_cg _ (fun i i1 i2 => ?_)
        rw [if_pos (by omega)]
      · rw [fr a j w1 (by omega) (by omega)]; exact g3 a j w2 (by omega)
    intro k
    induction k with
    | zero =>
      intro r M hk hr4 g1 g2 g3
      exact u_X5_insert_26 w s t _ _ ⟨fun _ => fin r M (by omega) g1 g2 g3, fun c => absurd (by omega) c⟩
    | succ k ih =>
      intro r M hk hr4 g1 g2 g3
      by_cases e4 : r = 4
      · exact ih r M (by omega) hr4 g1 g2 g3
      have e1 : M 76 1 = n := by rw [g3 76 1 (by omega) (by omega)]; exact hn1
      have eR : M w 3 = F 0 3 := by rw [g3 w 3 (by omega) (by omega)]; exact hrow
      have b1 := cst (r + 1) (by omega)
      -- one price more
      have step : ∀ (one ln : Int), one = (if (r : Int) < F 0 3 then p_Y F p q s r else 0) → ln = (x_cn s (if r + 1 ≤ R then r + 1 else R) : Int) → ((0 : Int) ≤ (4 * (n : Int) + r) ∧ (4 * (n : Int) + r) < 140) ∧ ∀ zM4 : xM, zM4 = x_wr M 77 (4 * (n : Int) + r) one → ((0 : Int) ≤ (zM4 76 1) ∧ ((zM4 76 1) : Int) < 35) ∧ ((0 : Int) ≤ (r : Int) ∧ ((r : Int) : Int) < 4) ∧ ((0 : Int) ≤ (zM4 76 1) ∧ (zM4 76 1) < 35) ∧ ∀ zM5 : xM, zM5 = x_wr zM4 80 (zM4 76 1) (x_W ((zM4 80 (zM4 76 1)) + (x_W (one * (zM4 (w + 3) r))))) → ∀ zv6 : Int, zv6 = x_w ((r : Int) + 1) → x_Ev l E (1, 0, 0) m_X5_insert 26 [(15, 76), (11, w), (0, (s : Int)), (0, t), (0, ln), (0, zv6), (5, 0), (5, 0)] [] zM5 Q := by
        intro one ln h1 h2
        refine ⟨by omega, ?_⟩
        intro M4 hM4
        have f1 : M4 76 1 = n := by rw [hM4, x_wr_ne _ _ (by omega)]; exact e1
        rw [f1]
        refine ⟨by omega, by omega, by omega, ?_⟩
        intro M5 hM5 v hv
        rw [x_w_id (by omega) (by omega)] at hv
        subst hv
        have f2 : M4 80 n = x_sm (fun i => (if i < F 0 3 then p_Y F p q s i else 0) * F 3 i) r := by rw [hM4, x_wr_ne _ _ (by omega)]; exact g1
        have f3 : M4 (w + 3) r = F 3 r := by rw [hM4, x_wr_ne _ _ (by omega), g3 _ _ (by omega) (by omega), hbd]
        rw [f2, f3, x_W_a2, h1] at hM5
        have e5 : x_W (x_sm (fun i => (if i < F 0 3 then p_Y F p q s i else 0) * F 3 i) r + (if (r : Int) < F 0 3 then p_Y F p q s r else 0) * F 3 r) = x_sm (fun i => (if i < F 0 3 then p_Y F p q s i else 0) * F 3 i) (r + 1) := x_W_id (x := x_sm (fun i => (if i < F 0 3 then p_Y F p q s i else 0) * F 3 i) (r + 1)) (by omega) (by omega)
        rw [e5] at hM5
        rw [h2]
        refine ih (r + 1) M5 (by omega) (by omega) (by rw [hM5, x_wr_eq]) (fun i i1 i2 => ?_) (fun a j w1 w2 => ?_)
        · rw [hM5, x_wr_ne _ _ (by omega), hM4]
          by_cases c : i = r
          · rw [c, x_wr_eq, h1]
          · rw [x_wr_ne _ _ (by omega)]; exact g2 i i1 (by omega)
        · rw [hM5, x_wr_ne _ _ (by omega), hM4, x_wr_ne _ _ (by omega)]; exact g3 a j w1 w2
      refine u_X5_insert_26 w s t _ _ ⟨fun c => by omega, fun c => ?_⟩
      rw [e1, eR, x_ix4 (by omega) (by omega) (by omega) (by omega)]
      refine ⟨fun cr => ?_, fun cr => ?_⟩
      · refine step 0 _ (by rw [if_neg (by omega)]) ?_
        rw [show (if r ≤ R then r else R) = R by split <;> omega, show (if r + 1 ≤ R then r + 1 else R) = R by split <;> omega]
      · have hrR : r < R := by omega
        have el : (if r ≤ R then r else R) = r := by rw [if_pos (by omega)]
        have el1 : (if r + 1 ≤ R then r + 1 else R) = r + 1 := by rw [if_pos (by omega)]
        have ecn : x_cn s (r + 1) = x_cn s r + s / 2 ^ r % 2 := rfl
        have hc7 := x_cn_le s (i := r + 1) (j := 7) (by omega)
        rw [x_bit (by omega) (by omega), el]
        refine ⟨fun cb => ?_, fun cb => ⟨fun c3 => ?_, fun c3 => ⟨by omega, ?_⟩⟩⟩
        · refine step 0 _ ?_ (by rw [el1, ecn]; omega)
          rw [if_pos (by omega)]
          unfold p_Y
          rw [Int.toNat_natCast, if_neg (by omega)]
        · omega
        · have e39 : M 39 (x_cn s r) = p_W F p q s (x_cn s r) := by rw [g3 39 _ (by omega) (by omega)]; exact hW _ (by omega) (by omega)
          rw [e39]
          intro v13 hv13 v14 hv14
          rw [x_w_id (by omega) (by omega)] at hv14
          refine step v13 v14 ?_ (by rw [el1, ecn]; omega)
          rw [hv13, if_pos (by omega)]
          unfold p_Y
          rw [Int.toNat_natCast, if_pos (by omega)]
  refine u_X5_insert_0 w s t ⟨fun c => ?_, fun c => by rw [hn1] at c; omega⟩
  rw [hn1]
  refine ⟨by omega, ?_⟩
  intro M1 hM1
  subst hM1
  have st := main 4 0 (x_wr M0 80 n 0) (by omega) (by omega) (x_wr_eq ..) (fun i i1 i2 => by omega) (fun a j w1 w2 => x_wr_ne _ _ w2)
  rw [if_pos (by omega)] at st
  exact st
end CT
