/-! Tables that depend on goods, rows, numbers, bounds alone; findings; guards -/
section TC
variable {F F' : xM}
theorem p_ce_F (h3 : F' 0 3 = F 0 3) (hN : F' 2 = F 2) (i g : Int) : p_ce F' i g = p_ce F i g := by
  unfold p_ce
  rw [h3, hN]
theorem p_C_F (h2 : F' 0 2 = F 0 2) (h3 : F' 0 3 = F 0 3) (hN : F' 2 = F 2) (s : Nat) : p_C F' s = p_C F s := by
  unfold p_C
  funext k
  rw [h2, p_ce_F h3 hN]
theorem p_R_F (h2 : F' 0 2 = F 0 2) (h3 : F' 0 3 = F 0 3) (hB : F' 3 = F 3) (s : Nat) : p_R F' s = p_R F s := by
  unfold p_R p_ri
  funext i
  rw [h2, h3, hB]
theorem p_sum_F (h2 : F' 0 2 = F 0 2) (hN : F' 2 = F 2) (X : Int → Int) (r : Int) : p_sum F' X r = p_sum F X r := by
  unfold p_sum
  rw [h2, hN]
theorem p_tgt_F (h2 : F' 0 2 = F 0 2) (h3 : F' 0 3 = F 0 3) (hN : F' 2 = F 2) (hB : F' 3 = F 3) (X : Int → Int) (b : Int) : p_tgt F' X b = p_tgt F X b := by
  funext i
  unfold p_tgt
  rw [h3, hB, p_sum_F h2 hN]
theorem p_pr_F (h2 : F' 0 2 = F 0 2) (h3 : F' 0 3 = F 0 3) : p_pr F' = p_pr F := by
  unfold p_pr
  rw [h2, h3]
theorem p_en_F (h2 : F' 0 2 = F 0 2) (h3 : F' 0 3 = F 0 3) (hN : F' 2 = F 2) (hB : F' 3 = F 3) (s : Nat) : p_en F' s = p_en F s := by
  unfold p_en p_tS
  rw [p_C_F h2 h3 hN, p_R_F h2 h3 hB, p_tgt_F h2 h3 hN hB, p_pr_F h2 h3]
theorem p_ok_F (h2 : F' 0 2 = F 0 2) (h3 : F' 0 3 = F 0 3) (hN : F' 2 = F 2) (hB : F' 3 = F 3) (s : Nat) : p_ok F' s ↔ p_ok F s := by
  unfold p_ok p_may
  rw [p_C_F h2 h3 hN, p_R_F h2 h3 hB, h2, h3, hB]
  simp only [p_sum_F h2 hN]
theorem p_T_F (h2 : F' 0 2 = F 0 2) (h3 : F' 0 3 = F 0 3) (hN : F' 2 = F 2) (hB : F' 3 = F 3) (s : Nat) : p_T F' s = p_T F s := by
  induction s with
  | zero => rfl
  | succ s ih =>
    unfold p_T
    rw [ih, p_en_F h2 h3 hN hB]
    have e : p_new F' s (p_T F s) ↔ p_new F s (p_T F s) := by
      unfold p_new
      rw [p_ok_F h2 h3 hN hB, p_en_F h2 h3 hN hB]
    by_cases c : p_new F s (p_T F s)
    · rw [p_if_t c, p_if_t (e.mpr c)]
    · rw [p_if_f c, p_if_f (fun w => c (e.mp w))]
theorem p_n_F (h2 : F' 0 2 = F 0 2) (h3 : F' 0 3 = F 0 3) (hN : F' 2 = F 2) (hB : F' 3 = F 3) : p_n F' = p_n F := by
  unfold p_n
  rw [p_pr_F h2 h3, p_T_F h2 h3 hN hB]
theorem p_TT_F (h2 : F' 0 2 = F 0 2) (h3 : F' 0 3 = F 0 3) (hN : F' 2 = F 2) (hB : F' 3 = F 3) : p_TT F' = p_TT F := by
  unfold p_TT
  rw [p_pr_F h2 h3, p_T_F h2 h3 hN hB]
end TC
def p_fnd (A : xM) (k : Int) : xM := x_wr A 102 k (x_w (A 102 k + 1))
def p_err (A : xM) (k : Int) : Int × xM := (-1000001 - k, p_fnd A k)
def p_erL (A : xM) (k : Int) : Int × xM := (-1000000000000000001 - k, p_fnd A k)
theorem p_WF_fr {A A' : xM} (hA : p_WF A) (h : ∀ a k, a ≠ 102 → a ≠ 100 → A' a k = A a k) : p_WF A' := by
  have e : ∀ a, a ≠ 102 → a ≠ 100 → A' a = A a := fun a h1 h2 => by funext k; exact h a k h1 h2
  have w : ∀ o, o = 6 ∨ o = 21 → p_wfW A o → p_wfW A' o := by
    intro o ho hw
    unfold p_wfW at *
    rw [e o (by omega) (by omega), e (o + 1) (by omega) (by omega)]
    refine ⟨hw.1, hw.2.1, hw.2.2.1, hw.2.2.2.1, hw.2.2.2.2.1, hw.2.2.2.2.2.1, hw.2.2.2.2.2.2.1, fun f hf => ?_⟩
    have hn := hw.1
    rw [show x_F A' (o + 3 + 4 * (f : Int)) = x_F A (o + 3 + 4 * (f : Int)) from x_F_eq (fun a a1 a2 => e a (by omega) (by omega))]
    exact hw.2.2.2.2.2.2.2 f hf
  refine ⟨w 6 (by omega) hA.1, w 21 (by omega) hA.2.1, ?_, ?_, fun s s1 s2 => ?_, fun i i1 i2 => ?_, fun f f1 f2 => ?_⟩
  · rw [e 5 (by omega) (by omega)]; exact hA.2.2.1
  · rw [e 5 (by omega) (by omega)]; exact hA.2.2.2.1
  · rw [e 544 (by omega) (by omega), e 545 (by omega) (by omega), e (547 + s) (by omega) (by omega)]; exact hA.2.2.2.2.1 s s1 s2
  · rw [e 552 (by omega) (by omega), e 553 (by omega) (by omega), e 554 (by omega) (by omega)]; exact hA.2.2.2.2.2.1 i i1 i2
  · rw [e (9 + 4 * f + 2) (by omega) (by omega), e (9 + 4 * f + 3) (by omega) (by omega)]; exact hA.2.2.2.2.2.2 f f1 f2
theorem wf_tl {A : xM} (hA : p_WF A) (k : Int) : p_WF (p_fnd A k) := p_WF_fr hA (fun a j h1 h2 => x_wr_ne _ _ (by omega))
/-- the state of both -/
def p_I (M : xM) : Prop := ∃ A, p_WF A ∧ p_CI A M ∧ p_RI A M
theorem p_mid {A A' M M1 M2 : xM} (hA : p_WF A') (hC : p_CI A' M1) (hR : p_RI A' M2) (d : p_rfr M1 M2) : p_I M2 := ⟨A', hA, p_CI_rfr hC d, hR⟩
section GD
variable {l : Launch} {E : xE} {Q : Option xV → xM → Prop} {A M : xM}
theorem k_tl (hA : p_WF A) (hC : p_CI A M) {k : Int} (hk : 0 ≤ k ∧ k < 8) (h : ∀ M1, p_CI (p_fnd A k) M1 → p_cfr M M1 → Q (some (0, -1000001 - k)) M1) : x_Ev l E (1, 0, 0) m_X10_tell 0 [(20, 5), (0, k)] [] M Q := by
  refine u_X10_tell_0 k ⟨hk, hk, ?_⟩
  intro M1 hM1
  rw [x_w_id (by omega) (by omega)]
  rw [hC.2.2.2.2.1] at hM1
  rw [hM1]
  exact h _ (p_CI_w hA hC (by omega)) (p_cfr_w (by omega))
theorem k_tL (hA : p_WF A) (hC : p_CI A M) {k : Int} (hk : 0 ≤ k ∧ k < 8) (h : ∀ M1, p_CI (p_fnd A k) M1 → p_cfr M M1 → Q (some (1, -1000000000000000001 - k)) M1) : x_Ev l E (1, 0, 0) m_X10_tellLong 0 [(20, 5), (0, k)] [] M Q := by
  refine u_X10_tellLong_0 k ⟨hk, hk, ?_⟩
  intro M1 hM1
  rw [x_W_id (by omega) (by omega)]
  rw [hC.2.2.2.2.1] at hM1
  rw [hM1]
  exact h _ (p_CI_w hA hC (by omega)) (p_cfr_w (by omega))
theorem r_tl (hA : p_WF A) (hR : p_RI A M) {k : Int} (hk : 0 ≤ k ∧ k < 8) (h : ∀ M1, p_RI (p_fnd A k) M1 → p_rfr M M1 → Q (some (0, -1000001 - k)) M1) : x_Ev l E (1, 0, 0) m_X11_finds 0 [(21, 103), (0, k)] [] M Q := by
  refine u_X11_finds_0 k ⟨hk, hk, ?_⟩
  intro M1 hM1
  rw [x_w_id (by omega) (by omega)]
  rw [hR.2.2.1 k hk.1 hk.2] at hM1
  rw [hM1]
  exact h _ (p_RI_w hA hR (by omega)) (p_rfr_w (by omega))
theorem r_tL (hA : p_WF A) (hR : p_RI A M) {k : Int} (hk : 0 ≤ k ∧ k < 8) (h : ∀ M1, p_RI (p_fnd A k) M1 → p_rfr M M1 → Q (some (1, -1000000000000000001 - k)) M1) : x_Ev l E (1, 0, 0) m_X11_findsLong 0 [(21, 103), (0, k)] [] M Q := by
  refine u_X11_findsLong_0 k ⟨hk, hk, ?_⟩
  intro M1 hM1
  rw [x_W_id (by omega) (by omega)]
  rw [hR.2.2.1 k hk.1 hk.2] at hM1
  rw [hM1]
  exact h _ (p_RI_w hA hR (by omega)) (p_rfr_w (by omega))
/-- two ways of a truth value -/
theorem x_y1 {P R : Prop} {v : Int} (hv : v ≠ 0) (h : P) : ∃ z, some ((0 : Nat), v) = some (0, z) ∧ (¬ z = 0 → P) ∧ (z = 0 → R) := ⟨v, rfl, fun _ => h, fun w => absurd w hv⟩
theorem x_y0 {P R : Prop} (h : R) : ∃ z, some ((0 : Nat), (0 : Int)) = some (0, z) ∧ (¬ z = 0 → P) ∧ (z = 0 → R) := ⟨0, rfl, fun w => absurd rfl w, fun _ => h⟩
theorem x_n1 {P R : Prop} {v : Int} (hv : v ≠ 0) (h : R) : ∃ z, some ((0 : Nat), v) = some (0, z) ∧ (z = 0 → P) ∧ (¬ z = 0 → R) := ⟨v, rfl, fun w => absurd w hv, fun _ => h⟩
theorem x_n0 {P R : Prop} (h : P) : ∃ z, some ((0 : Nat), (0 : Int)) = some (0, z) ∧ (z = 0 → P) ∧ (¬ z = 0 → R) := ⟨0, rfl, fun _ => h, fun w => absurd rfl w⟩
theorem k_NK {a : Int} (h1 : ¬ (0 ≤ a ∧ a < 70) → Q (some (0, 1)) M) (h0 : 0 ≤ a ∧ a < 70 → Q (some (0, 0)) M) : x_Ev l E (1, 0, 0) m_X10_isNoKind 0 [(20, 5), (0, a)] [] M Q :=
  u_X10_isNoKind_0 a ⟨fun c => h1 (by omega), fun c => ⟨fun d => h0 (by omega), fun d => h1 (by omega)⟩⟩
theorem k_NB {a : Int} (h1 : ¬ (0 ≤ a ∧ a ≤ 20) → Q (some (0, 1)) M) (h0 : 0 ≤ a ∧ a ≤ 20 → Q (some (0, 0)) M) : x_Ev l E (1, 0, 0) m_X10_isNoBound 0 [(20, 5), (0, a)] [] M Q :=
  u_X10_isNoBound_0 a ⟨fun c => h1 (by omega), fun c => ⟨fun d => h0 (by omega), fun d => h1 (by omega)⟩⟩
theorem k_NP {a : Int} (h1 : ¬ (0 ≤ a ∧ a ≤ 1) → Q (some (0, 1)) M) (h0 : 0 ≤ a ∧ a ≤ 1 → Q (some (0, 0)) M) : x_Ev l E (1, 0, 0) m_X10_isNoPart 0 [(20, 5), (0, a)] [] M Q :=
  u_X10_isNoPart_0 a ⟨fun c => h1 (by omega), fun c => ⟨fun d => h0 (by omega), fun d => h1 (by omega)⟩⟩
theorem k_NS {a : Int} (h1 : ¬ (0 ≤ a ∧ a < 4) → Q (some (0, 1)) M) (h0 : 0 ≤ a ∧ a < 4 → Q (some (0, 0)) M) : x_Ev l E (1, 0, 0) m_X10_isNoSheet 0 [(20, 5), (0, a)] [] M Q :=
  u_X10_isNoSheet_0 a ⟨fun c => h1 (by omega), fun c => ⟨fun d => h0 (by omega), fun d => h1 (by omega)⟩⟩
theorem k_NF (hC : p_CI A M) {a : Int} (h1 : ¬ (0 ≤ a ∧ a < A 6 0) → Q (some (0, 1)) M) (h0 : 0 ≤ a ∧ a < A 6 0 → Q (some (0, 0)) M) : x_Ev l E (1, 0, 0) m_X10_isNoFollower 0 [(20, 5), (0, a)] [] M Q := by
  have e := hC.1 6 0 (by omega) (by omega)
  exact u_X10_isNoFollower_0 a ⟨fun c => h1 (by omega), fun c => ⟨fun d => h0 (by omega), fun d => h1 (by omega)⟩⟩
theorem k_NG (hA : p_WF A) (hC : p_CI A M) {a g : Int} (h1 : ¬ ((0 ≤ a ∧ a < A 6 0) ∧ 0 ≤ g ∧ g < A (9 + 4 * a) 2) → Q (some (0, 1)) M) (h0 : (0 ≤ a ∧ a < A 6 0) ∧ 0 ≤ g ∧ g < A (9 + 4 * a) 2 → Q (some (0, 0)) M) : x_Ev l E (2, 0, 0) m_X10_isNoGood 0 [(20, 5), (0, a), (0, g)] [] M Q := by
  have w := hA.1.1
  refine u_X10_isNoGood_0 a g (k_NF hC (fun c => x_y1 (by omega) (h1 (fun q => c q.1))) (fun c => x_y0 ⟨fun d => h1 (fun q => by omega), fun d => ⟨by omega, ?_⟩⟩))
  rw [show 8 + 1 + 4 * a = 9 + 4 * a by omega, hC.1 (9 + 4 * a) 2 (by omega) (by omega)]
  exact ⟨fun d2 => h0 ⟨c, by omega, d2⟩, fun d2 => h1 (fun q => d2 q.2.2)⟩
theorem k_NR (hA : p_WF A) (hC : p_CI A M) {a g : Int} (h1 : ¬ ((0 ≤ a ∧ a < A 6 0) ∧ 0 ≤ g ∧ g < A (9 + 4 * a) 3) → Q (some (0, 1)) M) (h0 : (0 ≤ a ∧ a < A 6 0) ∧ 0 ≤ g ∧ g < A (9 + 4 * a) 3 → Q (some (0, 0)) M) : x_Ev l E (2, 0, 0) m_X10_isNoRow 0 [(20, 5), (0, a), (0, g)] [] M Q := by
  have w := hA.1.1
  refine u_X10_isNoRow_0 a g (k_NF hC (fun c => x_y1 (by omega) (h1 (fun q => c q.1))) (fun c => x_y0 ⟨fun d => h1 (fun q => by omega), fun d => ⟨by omega, ?_⟩⟩))
  rw [show 8 + 1 + 4 * a = 9 + 4 * a by omega, hC.1 (9 + 4 * a) 3 (by omega) (by omega)]
  exact ⟨fun d2 => h0 ⟨c, by omega, d2⟩, fun d2 => h1 (fun q => d2 q.2.2)⟩
theorem p_CI_n (hA : p_WF A) (hC : p_CI A M) {a : Int} (h : 0 ≤ a ∧ a < A 6 0) : M (49 + 9 * a) 2 = p_n (p_Fs A a.toNat) := by
  have w := hA.1.1
  have := (hC.2.2.2.2.2.1.2.2 a.toNat (by omega)).2.2.1.1
  rw [show ((a.toNat : Nat) : Int) = a by omega] at this
  exact this
theorem k_NPl (hA : p_WF A) (hC : p_CI A M) {a g : Int} (h1 : ¬ ((0 ≤ a ∧ a < A 6 0) ∧ 0 ≤ g ∧ g < p_n (p_Fs A a.toNat)) → Q (some (0, 1)) M) (h0 : (0 ≤ a ∧ a < A 6 0) ∧ 0 ≤ g ∧ g < p_n (p_Fs A a.toNat) → Q (some (0, 0)) M) : x_Ev l E (2, 0, 0) m_X10_isNoPlan 0 [(20, 5), (0, a), (0, g)] [] M Q := by
  have w := hA.1.1
  refine u_X10_isNoPlan_0 a g (k_NF hC (fun c => x_y1 (by omega) (h1 (fun q => c q.1))) (fun c => x_y0 ⟨fun d => h1 (fun q => by omega), fun d => ⟨by omega, ?_⟩⟩))
  rw [show 41 + 8 + 9 * a = 49 + 9 * a by omega, p_CI_n hA hC c]
  exact ⟨fun d2 => h0 ⟨c, by omega, d2⟩, fun d2 => h1 (fun q => d2 q.2.2)⟩
theorem k_NT (hA : p_WF A) (hC : p_CI A M) {a g t : Int} (h1 : ¬ (((0 ≤ a ∧ a < A 6 0) ∧ 0 ≤ g ∧ g < A (9 + 4 * a) 2) ∧ 0 ≤ t ∧ t ≤ 2) → Q (some (0, 1)) M) (h0 : ((0 ≤ a ∧ a < A 6 0) ∧ 0 ≤ g ∧ g < A (9 + 4 * a) 2) ∧ 0 ≤ t ∧ t ≤ 2 → Q (some (0, 0)) M) : x_Ev l E (3, 0, 0) m_X10_isNoTrait 0 [(20, 5), (0, a), (0, g), (0, t)] [] M Q :=
  u_X10_isNoTrait_0 a g t (k_NG hA hC (fun c => x_y1 (by omega) (h1 (fun q => c q.1))) (fun c => x_y0 ⟨fun d => h1 (fun q => by omega), fun d => ⟨fun d2 => h0 ⟨c, by omega, d2⟩, fun d2 => h1 (fun q => d2 q.2.2)⟩⟩))
theorem r_in {a b c : Int} (h1 : b ≤ a ∧ a ≤ c → Q (some (0, 1)) M) (h0 : ¬ (b ≤ a ∧ a ≤ c) → Q (some (0, 0)) M) : x_Ev l E (1, 0, 0) m_X11_in 0 [(1, a), (5, 0), (1, b), (5, 0), (1, c), (5, 0)] [] M Q :=
  u_X11_in_0 a b c ⟨fun d => h0 (by omega), fun d => ⟨fun d2 => h0 (by omega), fun d2 => h1 (by omega)⟩⟩
theorem r_F (hA : p_WF A) (hR : p_RI A M) {a : Int} (h1 : 0 ≤ a ∧ a < A 6 0 → Q (some (0, 1)) M) (h0 : ¬ (0 ≤ a ∧ a < A 6 0) → Q (some (0, 0)) M) : x_Ev l E (2, 0, 0) m_X11_isFollower 0 [(21, 103), (0, a)] [] M Q := by
  have w := hA.1.1
  refine u_X11_isFollower_0 a ?_
  rw [hR.1.1, x_w_id (by omega) (by omega)]
  exact r_in (fun c => ⟨1, rfl, by omega, h1 (by omega)⟩) (fun c => ⟨0, rfl, by omega, h0 (by omega)⟩)
theorem p_Fs0 (A : xM) {a : Int} (h : 0 ≤ a) (k : Int) : p_Fs A a.toNat 0 k = A (9 + 4 * a) k := by
  unfold p_Fs
  rw [x_F0, show ((a.toNat : Nat) : Int) = a by omega]
theorem p_Fs1 (A : xM) {a : Int} (h : 0 ≤ a) (k : Int) : p_Fs A a.toNat 1 k = A (9 + 4 * a + 1) k := by
  unfold p_Fs
  rw [x_F1, show ((a.toNat : Nat) : Int) = a by omega]
theorem p_Fs2 (A : xM) {a : Int} (h : 0 ≤ a) (k : Int) : p_Fs A a.toNat 2 k = A (9 + 4 * a + 2) k := by
  unfold p_Fs
  rw [x_F2, show ((a.toNat : Nat) : Int) = a by omega]
theorem p_Fs3 (A : xM) {a : Int} (h : 0 ≤ a) (k : Int) : p_Fs A a.toNat 3 k = A (9 + 4 * a + 3) k := by
  unfold p_Fs
  rw [x_F3, show ((a.toNat : Nat) : Int) = a by omega]
theorem p_RI_f (hA : p_WF A) (hR : p_RI A M) {a : Int} (h : 0 ≤ a ∧ a < A 6 0) : p_RF M a (p_Fs A a.toNat) ∧ p_wf (p_Fs A a.toNat) := by
  have w := hR.2.1 a.toNat (by omega)
  rw [show ((a.toNat : Nat) : Int) = a by omega] at w
  exact ⟨w, hA.1.2.2.2.2.2.2.2 a.toNat (by omega)⟩
theorem p_WF_f (hA : p_WF A) {a : Int} (h : 0 ≤ a ∧ a < A 6 0) : p_wf (p_Fs A a.toNat) := hA.1.2.2.2.2.2.2.2 a.toNat (by omega)
theorem r_G (hA : p_WF A) (hR : p_RI A M) {a g : Int} (h1 : (0 ≤ a ∧ a < A 6 0) ∧ 0 ≤ g ∧ g < A (9 + 4 * a) 2 → Q (some (0, 1)) M) (h0 : ¬ ((0 ≤ a ∧ a < A 6 0) ∧ 0 ≤ g ∧ g < A (9 + 4 * a) 2) → Q (some (0, 0)) M) : x_Ev l E (3, 0, 0) m_X11_isGood 0 [(21, 103), (0, a), (0, g)] [] M Q := by
  have w := hA.1.1
  refine u_X11_isGood_0 a g (r_F hA hR (fun c => x_n1 (by omega) ⟨by omega, ?_⟩) (fun c => x_n0 (h0 (fun q => c q.1))))
  obtain ⟨f1, f2⟩ := p_RI_f hA hR c
  have f3 := f2.2.2.1
  rw [p_Fs0 A c.1] at f3
  rw [f1.2.2.1, p_Fs0 A c.1, x_w_id (by omega) (by omega)]
  exact r_in (fun d => x_n1 (by omega) (h1 ⟨c, by omega⟩)) (fun d => x_n0 (h0 (fun q => d (by omega))))
theorem r_Row (hA : p_WF A) (hR : p_RI A M) {a g : Int} (h1 : (0 ≤ a ∧ a < A 6 0) ∧ 0 ≤ g ∧ g < A (9 + 4 * a) 3 → Q (some (0, 1)) M) (h0 : ¬ ((0 ≤ a ∧ a < A 6 0) ∧ 0 ≤ g ∧ g < A (9 + 4 * a) 3) → Q (some (0, 0)) M) : x_Ev l E (3, 0, 0) m_X11_isRow 0 [(21, 103), (0, a), (0, g)] [] M Q := by
  have w := hA.1.1
  refine u_X11_isRow_0 a g (r_F hA hR (fun c => x_n1 (by omega) ⟨by omega, ?_⟩) (fun c => x_n0 (h0 (fun q => c q.1))))
  obtain ⟨f1, f2⟩ := p_RI_f hA hR c
  have f3 := f2.2.2.2.1
  rw [p_Fs0 A c.1] at f3
  rw [f1.2.2.2.1, p_Fs0 A c.1, x_w_id (by omega) (by omega)]
  exact r_in (fun d => x_n1 (by omega) (h1 ⟨c, by omega⟩)) (fun d => x_n0 (h0 (fun q => d (by omega))))
theorem r_Part {a : Int} (h1 : 0 ≤ a ∧ a ≤ 1 → Q (some (0, 1)) M) (h0 : ¬ (0 ≤ a ∧ a ≤ 1) → Q (some (0, 0)) M) : x_Ev l E (2, 0, 0) m_X11_isPart 0 [(0, a)] [] M Q :=
  u_X11_isPart_0 a (r_in (fun c => ⟨1, rfl, by omega, h1 c⟩) (fun c => ⟨0, rfl, by omega, h0 c⟩))
/-- the reference's tables of all -/
theorem r_plans (hA : p_WF A) (hR : p_RI A M) (h : ∀ M1, p_RW M1 (p_Fs A) (A 6 0).toNat → (∀ a k, ¬ p_rsc a k → M1 a k = M a k) → Q none M1) : x_Ev l E (10, 0, 0) m_X11_plans_ 0 [(21, 103), (5, 0)] [] M Q := by
  have w := hA.1.1
  have main : ∀ (m f : Nat) (M' : xM), (A 6 0).toNat - f ≤ m → f ≤ (A 6 0).toNat → (∀ g : Nat, g < f → p_rtab M' g (p_n (p_Fs A g)) (p_TT (p_Fs A g))) → (∀ a k, ¬ p_rsc a k → M' a k = M a k) → x_Ev l E (10, 0, 0) m_X11_plans_ 2 [(21, 103), (0, (f : Int))] [] M' Q := by
    intro m
    induction m with
    | zero =>
      intro f M' hm hf ht hfr
      have hR' := p_RI_sc hA hR hfr
      refine u_X11_plans__2 f ⟨fun _ => h M' ⟨by rw [hR'.1.1]; omega, by omega, fun g hg => ?_⟩ hfr, fun c => absurd (by rw [hR'.1.1]; omega) c⟩
      have wg : p_wf (p_Fs A g) := hA.1.2.2.2.2.2.2.2 g (by omega)
      exact ⟨wg, hR'.2.1 g (by omega), ht g (by omega), p_one_ok _ wg, p_n10 p_ten_ok wg, p_T_eb wg⟩
    | succ m ih =>
      intro f M' hm hf ht hfr
      by_cases e : f = (A 6 0).toNat
      · exact ih f M' (by omega) hf ht hfr
      have hR' := p_RI_sc hA hR hfr
      have wf : p_wf (p_Fs A f) := hA.1.2.2.2.2.2.2.2 f (by omega)
      refine u_X11_plans__2 f ⟨fun c => by rw [hR'.1.1] at c; omega, fun c => ?_⟩
      refine c_Rplans p_ten_ok (by omega) wf (hR'.2.1 f (by omega)) (fun M1 t1 t2 => ⟨rfl, ?_⟩)
      intro v hv
      rw [x_w_id (by omega) (by omega)] at hv
      rw [hv]
      refine ih (f + 1) M1 (by omega) (by omega) (fun g hg => ?_) (fun a k q => ?_)
      · by_cases eg : g = f
        · rw [eg]; exact t1
        · refine p_rtab_fr ?_ (fun a k q => t2 a k ?_ ?_ ?_) (ht g (by omega))
          · have wg : p_wf (p_Fs A g) := hA.1.2.2.2.2.2.2.2 g (by omega)
            have := p_n10 p_ten_ok wg
            omega
          · unfold p_rt at q; omega
          · unfold p_rt at q; omega
          · unfold p_rt at q ⊢; omega
      · rw [t2 a k (by unfold p_rsc at q; omega) (by unfold p_rsc at q; omega) (by unfold p_rsc at q; unfold p_rt; omega)]
        exact hfr a k q
  exact u_X11_plans__0 (main _ 0 M (Nat.le_refl _) (Nat.zero_le _) (fun g hg => by omega) (fun _ _ _ => rfl))
end GD
