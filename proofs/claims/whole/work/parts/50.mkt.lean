/-! The market: all followers at a term -/
noncomputable def p_ch (F : xM) (p q how : Int) : Nat := Classical.epsilon (fun k => p_isch F (p_TT F) (p_n F) p q how k)
theorem p_ch_eq {F : xM} (hF : p_wf F) {p q how : Int} {k : Nat} (h : p_isch F (p_TT F) (p_n F) p q how k) : k = p_ch F p q how := p_isch_u hF h (Classical.epsilon_spec (p := fun k => p_isch F (p_TT F) (p_n F) p q how k) ⟨k, h⟩)
noncomputable def p_ae (F : xM) (p q how : Int) : Int → Int := p_TT F (p_ch F p q how)
noncomputable def p_acc (v : xM → (Int → Int) → Int) (Fs : Nat → xM) (p q how : Int) : Nat → Int × Int
  | 0 => (0, 1)
  | m + 1 => ((p_acc v Fs p q how m).1 * p_ae (Fs m) p q how 3 + v (Fs m) (p_ae (Fs m) p q how) * (p_acc v Fs p q how m).2, (p_acc v Fs p q how m).2 * p_ae (Fs m) p q how 3)
/-- there is a plan, and there are at most ten -/
def p_one : Prop := ∀ F, p_wf F → 1 ≤ p_n F
theorem p_n10 (H10 : p_ten) {F : xM} (hF : p_wf F) : p_n F ≤ 10 := H10 F hF _ (Nat.le_refl _)
theorem p_T_eb {F : xM} (hF : p_wf F) : ∀ k : Int, 0 ≤ k → k < p_n F → p_eb (p_TT F k) := fun k a b => (p_TT_eb hF (Nat.le_refl _) k a b).1
theorem p_ch_is (H10 : p_ten) (H1 : p_one) {F : xM} (hF : p_wf F) {p q how : Int} (hh : how = 0 ∨ how = 1 ∨ how = 2) : p_isch F (p_TT F) (p_n F) p q how (p_ch F p q how) := by
  have hb : ∀ k : Int, 0 ≤ k → k < p_n F → 0 < p_TT F k 3 := fun k a b => (p_T_eb hF k a b).2.1
  obtain ⟨yt, hyt⟩ := p_emb (fun k => p_tr F (p_TT F k) 1) (fun k => p_TT F k 3) (p_n F) hb
  obtain ⟨yg, hyg⟩ := p_emb (fun k => p_gn F (p_TT F k) p q) (fun k => p_TT F k 3) (p_n F) hb
  have : ∀ m : Nat, m ≤ p_n F → (∀ j : Nat, j < m → p_bst F (p_TT F) (p_n F) p q j = false) ∨ ∃ c : Nat, c < m ∧ p_bst F (p_TT F) (p_n F) p q c = true ∧ ∀ j : Nat, j < m → p_bst F (p_TT F) (p_n F) p q j = true → p_ov (F 0 0) how yt yg c j := by
    intro m
    induction m with
    | zero => intro _; exact Or.inl (fun j hj => by omega)
    | succ m ih =>
      intro hm
      cases hb : p_bst F (p_TT F) (p_n F) p q m
      · rcases ih (by omega) with w | ⟨c, c1, c2, c3⟩
        · refine Or.inl (fun j hj => ?_)
          by_cases e : j = m
          · rw [e]; exact hb
          · exact w j (by omega)
        · refine Or.inr ⟨c, by omega, c2, fun j hj bj => ?_⟩
          by_cases e : j = m
          · rw [e, hb] at bj; exact absurd bj (by decide)
          · exact c3 j (by omega) bj
      · rcases ih (by omega) with w | ⟨c, c1, c2, c3⟩
        · refine Or.inr ⟨m, by omega, hb, fun j hj bj => ?_⟩
          by_cases e : j = m
          · rw [e]; exact p_ov_rf hh m
          · rw [w j (by omega)] at bj; exact absurd bj (by decide)
        · by_cases o : ((how = 1 ∧ yt c < yt m) ∨ (how = 2 ∧ yt m < yt c) ∨ ((how = 0 ∨ yt m = yt c) ∧ (F 0 0 = 5 ∨ (F 0 0 = 0 ∧ yg c < yg m) ∨ (F 0 0 ≠ 0 ∧ F 0 0 ≠ 2 ∧ F 0 0 ≠ 4 ∧ F 0 0 ≠ 5 ∧ yg m < yg c))))
          · refine Or.inr ⟨m, by omega, hb, fun j hj bj => ?_⟩
            by_cases e : j = m
            · rw [e]; exact p_ov_rf hh m
            · exact p_ov_tr hh hF.1 (show (c : Int) < m by clear o; omega) (show (j : Int) < m by clear o; omega) (c3 j (by clear o; omega) bj) o
          · refine Or.inr ⟨c, by clear o; omega, c2, fun j hj bj => ?_⟩
            by_cases e : j = m
            · rw [e]; exact p_ov_no hh hF.1 (show (c : Int) < m by clear o; omega) o
            · exact c3 j (by clear o; omega) bj
  obtain ⟨k0, k1, k2⟩ := p_best_ex (F := F) (T := p_TT F) (p := p) (q := q) (H1 F hF) hb
  rcases this (p_n F) (Nat.le_refl _) with w | ⟨c, c1, c2, c3⟩
  · rw [w k0 k1] at k2; exact absurd k2 (by decide)
  · have hc := p_ov_isch hF hh hyt hyg c1 c2 c3
    rw [p_ch_eq hF hc] at hc
    exact hc
theorem p_ae_eb (H10 : p_ten) (H1 : p_one) {F : xM} (hF : p_wf F) {p q how : Int} (hh : how = 0 ∨ how = 1 ∨ how = 2) : p_eb (p_ae F p q how) := p_T_eb hF _ (by omega) (by have := (p_ch_is H10 H1 hF (p := p) (q := q) hh).1; omega)
theorem p_acc_st {N D e v A B V : Int} (hN : -A ≤ N ∧ N ≤ A) (hD : 0 < D ∧ D ≤ B) (he : 0 < e ∧ e ≤ 162) (hv : -V ≤ v ∧ v ≤ V) : (-(A * 162 + V * B) ≤ N * e + v * D ∧ N * e + v * D ≤ A * 162 + V * B) ∧ 0 < D * e ∧ D * e ≤ B * 162 := by
  have h1 := x_mb hN (b := e) (B := 162) (by omega)
  have h2 := x_mb hv (b := D) (B := B) (by omega)
  have h3 := x_mb (a := D) (A := B) (b := e) (B := 162) (by omega) (by omega)
  have h4 := Int.mul_pos hD.1 he.1
  omega
theorem p_acc_bd (H10 : p_ten) (H1 : p_one) {v : xM → (Int → Int) → Int} {Fs : Nat → xM} {p q how : Int} (hh : how = 0 ∨ how = 1 ∨ how = 2) {m : Nat} (hm : m ≤ 3) (hF : ∀ f, f < m → p_wf (Fs f)) (hv : ∀ f, f < m → -1700000000000 ≤ v (Fs f) (p_ae (Fs f) p q how) ∧ v (Fs f) (p_ae (Fs f) p q how) ≤ 1700000000000) : (-133844400000000000 ≤ (p_acc v Fs p q how m).1 ∧ (p_acc v Fs p q how m).1 ≤ 133844400000000000) ∧ 0 < (p_acc v Fs p q how m).2 ∧ (p_acc v Fs p q how m).2 ≤ 4251528 := by
  have st : ∀ k, k < m → ∀ {A B : Int}, (-A ≤ (p_acc v Fs p q how k).1 ∧ (p_acc v Fs p q how k).1 ≤ A) → (0 < (p_acc v Fs p q how k).2 ∧ (p_acc v Fs p q how k).2 ≤ B) → (-(A * 162 + 1700000000000 * B) ≤ (p_acc v Fs p q how (k + 1)).1 ∧ (p_acc v Fs p q how (k + 1)).1 ≤ A * 162 + 1700000000000 * B) ∧ 0 < (p_acc v Fs p q how (k + 1)).2 ∧ (p_acc v Fs p q how (k + 1)).2 ≤ B * 162 := by
    intro k hk A B h1 h2
    exact p_acc_st h1 h2 (p_ae_eb H10 H1 (hF k hk) hh).2 (hv k hk)
  have z0 : (-0 ≤ (p_acc v Fs p q how 0).1 ∧ (p_acc v Fs p q how 0).1 ≤ 0) ∧ 0 < (p_acc v Fs p q how 0).2 ∧ (p_acc v Fs p q how 0).2 ≤ 1 := by
    refine ⟨⟨?_, ?_⟩, ?_, ?_⟩ <;> simp [p_acc]
  have : m = 0 ∨ m = 1 ∨ m = 2 ∨ m = 3 := by omega
  rcases this with e | e | e | e
  · subst e; omega
  · subst e
    have s1 := st 0 (by omega) z0.1 z0.2
    simp only [Nat.reduceAdd] at s1
    omega
  · subst e
    have s1 := st 0 (by omega) z0.1 z0.2
    have s2 := st 1 (by omega) s1.1 s1.2
    simp only [Nat.reduceAdd] at s2
    omega
  · subst e
    have s1 := st 0 (by omega) z0.1 z0.2
    have s2 := st 1 (by omega) s1.1 s1.2
    have s3 := st 2 (by omega) s2.1 s2.2
    simp only [Nat.reduceAdd] at s3
    omega
/-- the class's followers and their plans -/
def p_CW (M : xM) (Fs : Nat → xM) (m : Nat) : Prop := M 6 0 = m ∧ m ≤ 3 ∧ ∀ f : Nat, f < m → p_wf (Fs f) ∧ x_F M (9 + 4 * f) = Fs f ∧ p_tab M (49 + 9 * f) (p_n (Fs f)) (p_TT (Fs f)) ∧ p_sums M (49 + 9 * f) (p_n (Fs f)) (Fs f) (p_TT (Fs f))
/-- the cells that a standing changes -/
def p_stc (a k : Int) : Prop := 49 ≤ a ∧ a ≤ 75 ∧ ((a - 49) % 9 = 7 ∨ (a - 49) % 9 = 8 ∨ ((a - 49) % 9 = 0 ∧ (k = 11 ∨ k = 12)))
theorem p_CW_fr {M M1 : xM} {Fs : Nat → xM} {m : Nat} (h : p_CW M Fs m) (hfr : ∀ a k, 6 ≤ a → a ≤ 75 → ¬ (36 ≤ a ∧ a ≤ 48) → ¬ p_stc a k → M1 a k = M a k) : p_CW M1 Fs m := by
  obtain ⟨h1, h2, h3⟩ := h
  have fa : ∀ a, 6 ≤ a → a ≤ 75 → ¬ (36 ≤ a ∧ a ≤ 48) → (a < 49 ∨ ((a - 49) % 9 ≠ 0 ∧ (a - 49) % 9 ≠ 7 ∧ (a - 49) % 9 ≠ 8)) → M1 a = M a := by
    intro a a1 a2 a3 a4
    funext k
    exact hfr a k a1 a2 a3 (by unfold p_stc; omega)
  refine ⟨?_, h2, fun f hf => ?_⟩
  · rw [fa 6 (by omega) (by omega) (by omega) (by omega)]; exact h1
  · obtain ⟨q1, q2, q3, q4⟩ := h3 f hf
    refine ⟨q1, ?_, p_tab_fr ?_ ?_ ?_ ?_ q3, ?_⟩
    · rw [← q2]
      exact x_F_eq (fun a a1 a2 => fa a (by omega) (by omega) (by omega) (by omega))
    · exact hfr _ _ (by omega) (by omega) (by omega) (by unfold p_stc; omega)
    · exact fa _ (by omega) (by omega) (by omega) (by omega)
    · exact fa _ (by omega) (by omega) (by omega) (by omega)
    · exact fa _ (by omega) (by omega) (by omega) (by omega)
    · unfold p_sums
      rw [fa (49 + 9 * f + 4) (by omega) (by omega) (by omega) (by omega), fa (49 + 9 * f + 5) (by omega) (by omega) (by omega) (by omega), fa (49 + 9 * f + 6) (by omega) (by omega) (by omega) (by omega)]
      exact q4
def p_sta (M : xM) (Fs : Nat → xM) (m : Nat) (p q : Int) : Prop := M 40 7 = q ∧ ∀ f : Nat, f < m → p_st M (49 + 9 * f) (p_n (Fs f)) (Fs f) (p_TT (Fs f)) p q
theorem p_st_fr {M M1 : xM} {P : Int} {n : Nat} {F : xM} {T : Int → Int → Int} {p q : Int} (h : p_st M P n F T p q) (h0 : M1 P 11 = M P 11) (h1 : M1 P 12 = M P 12) (h7 : M1 (P + 7) = M (P + 7)) (h8 : M1 (P + 8) = M (P + 8)) : p_st M1 P n F T p q := by
  unfold p_st at *
  rw [h0, h1, h7, h8]; exact h
section MK
variable {l : Launch} {E : xE} {Q : Option xV → xM → Prop}
theorem c_standAll (H10 : p_ten) {M0 : xM} {Fs : Nat → xM} {m : Nat} (hW : p_CW M0 Fs m) {p q : Int} (hpq : p_tm p q) (h : ∀ M1 : xM, p_CW M1 Fs m → p_sta M1 Fs m p q → (∀ a k, ¬ (a = 40 ∧ k = 7) → ¬ p_stc a k → M1 a k = M0 a k) → Q none M1) : x_Ev l E (4, 0, 0) m_X3_standAll 0 [(13, 40), (1, p), (5, 0), (1, q), (5, 0), (5, 0)] [] M0 Q := by
  have main : ∀ (k f : Nat) (M : xM), m - f ≤ k → f ≤ m → p_CW M Fs m → M 40 7 = q → (∀ g : Nat, g < f → p_st M (49 + 9 * g) (p_n (Fs g)) (Fs g) (p_TT (Fs g)) p q) → (∀ a k, ¬ (a = 40 ∧ k = 7) → ¬ p_stc a k → M a k = M0 a k) → x_Ev l E (4, 0, 0) m_X3_standAll 8 [(13, 40), (1, p), (5, 0), (1, q), (5, 0), (0, (f : Int))] [] M Q := by
    intro k
    induction k with
    | zero =>
      intro f M hk hf hM h7 hs hfr
      have ef : f = m := by omega
      subst ef
      exact u_X3_standAll_8 p q f ⟨fun _ => h M hM ⟨h7, hs⟩ hfr, fun c => absurd (by rw [hM.1]; omega) c⟩
    | succ k ih =>
      intro f M hk hf hM h7 hs hfr
      by_cases hfm : f = m
      · exact ih f M (by omega) hf hM h7 hs hfr
      have hm3 := hM.2.1
      obtain ⟨q1, q2, q3, q4⟩ := hM.2.2 f (by omega)
      refine u_X3_standAll_8 p q f ⟨fun c => by rw [hM.1] at c; omega, fun c => ⟨by omega, ?_⟩⟩
      rw [show (41 + 8 + 9 * (f : Int)) = 49 + 9 * f by omega]
      refine c_stand (by omega) q1 q2 (p_n10 H10 q1) q3 q4 (p_T_eb q1) hpq (fun M1 r1 r2 r3 => ⟨rfl, ?_⟩)
      intro v hv
      rw [x_w_id (by omega) (by omega)] at hv
      subst hv
      have fr1 : ∀ a k, ¬ (a = 49 + 9 * (f : Int) ∧ (k = 11 ∨ k = 12)) → a ≠ 49 + 9 * (f : Int) + 7 → a ≠ 49 + 9 * (f : Int) + 8 → M1 a k = M a k := by
        intro a k w1 w2 w3
        by_cases e : a = 49 + 9 * (f : Int)
        · rw [e]; exact r3 k (by omega) (by omega)
        · rw [r2 a e w2 w3]
      refine ih (f + 1) M1 (by omega) (by omega) (p_CW_fr hM (fun a k a1 a2 a3 a4 => fr1 a k (by unfold p_stc at a4; omega) (by unfold p_stc at a4; omega) (by unfold p_stc at a4; omega))) ?_ (fun g hg => ?_) (fun a k w1 w2 => ?_)
      · rw [fr1 40 7 (by omega) (by omega) (by omega)]; exact h7
      · by_cases e : g = f
        · rw [e]; exact r1
        · refine p_st_fr (hs g (by omega)) (fr1 _ _ (by omega) (by omega) (by omega)) (fr1 _ _ (by omega) (by omega) (by omega)) (r2 _ (by omega) (by omega) (by omega)) (r2 _ (by omega) (by omega) (by omega))
      · rw [fr1 a k (by unfold p_stc at w2; omega) (by unfold p_stc at w2; omega) (by unfold p_stc at w2; omega)]; exact hfr a k w1 w2
  refine u_X3_standAll_0 p q ?_
  intro M1 hM1
  subst hM1
  refine main m 0 _ (by omega) (by omega) (p_CW_fr hW (fun a k a1 a2 a3 a4 => x_wr_ne _ _ (by omega))) (x_wr_eq ..) (fun g hg => by omega) (fun a k w1 w2 => x_wr_ne _ _ w1)
theorem c_addUp (H10 : p_ten) (H1 : p_one) {M : xM} {Fs : Nat → xM} {m : Nat} (hW : p_CW M Fs m) {p q how g to : Int} (hpq : p_tm p q) (hh : how = 0 ∨ how = 1 ∨ how = 2) (hst : p_sta M Fs m p q) {v : xM → (Int → Int) → Int} {K : Int} (hg : (g = 0 ∧ v = (fun F e => p_tr F e 1) ∧ K = 1) ∨ (g = 1 ∧ v = (fun F e => p_gn F e p q) ∧ K = q))
    (h : ∀ M1 : xM, M1 to 0 = p_nu (p_acc v Fs p q how m).1 ((p_acc v Fs p q how m).2 * K) → M1 to 1 = p_de (p_acc v Fs p q how m).1 ((p_acc v Fs p q how m).2 * K) → (∀ a, a ≠ to → M1 a = M a) → Q none M1) : x_Ev l E (4, 0, 0) m_X3_addUp 0 [(13, 40), (0, g), (0, how), (12, to), (5, 0), (5, 0), (5, 0), (5, 0), (5, 0), (5, 0), (5, 0), (5, 0)] [] M Q := by
  have hm3 := hW.2.1
  have hq := hpq.2.2
  have hv : ∀ f, f < m → -1700000000000 ≤ v (Fs f) (p_ae (Fs f) p q how) ∧ v (Fs f) (p_ae (Fs f) p q how) ≤ 1700000000000 := by
    intro f hf
    have hF := (hW.2.2 f hf).1
    have he := p_ae_eb H10 H1 hF (p := p) (q := q) hh
    rcases hg with ⟨-, w, -⟩ | ⟨-, w, -⟩
    · rw [w]
      have := p_tr1_bd hF he
      dsimp only
      omega
    · rw [w]
      exact p_gn_bd hF he hpq
  have hbd : ∀ k, k ≤ m → (-133844400000000000 ≤ (p_acc v Fs p q how k).1 ∧ (p_acc v Fs p q how k).1 ≤ 133844400000000000) ∧ 0 < (p_acc v Fs p q how k).2 ∧ (p_acc v Fs p q how k).2 ≤ 4251528 := fun k hk => p_acc_bd H10 H1 hh (by omega) (fun f hf => (hW.2.2 f (by omega)).1) (fun f hf => hv f (by omega))
  have main : ∀ (k f : Nat), m - f ≤ k → f ≤ m → x_Ev l E (4, 0, 0) m_X3_addUp 9 [(13, 40), (0, g), (0, how), (12, to), (1, (p_acc v Fs p q how f).1), (5, 0), (1, (p_acc v Fs p q how f).2), (5, 0), (0, (f : Int)), (5, 0), (5, 0), (5, 0)] [] M Q := by
    intro k
    induction k with
    | zero =>
      intro f hk hf
      have ef : f = m := by omega
      subst ef
      have b := hbd f (Nat.le_refl _)
      refine u_X3_addUp_9 g how to _ _ f ⟨fun _ => ⟨fun g0 => ?_, fun g0 => ?_⟩, fun c => absurd (by rw [hW.1]; omega) c⟩
      · rcases hg with ⟨w1, w2, w3⟩ | ⟨w1, w2, w3⟩
        · rw [w3, Int.mul_one] at h
          exact c_put (by omega) (by omega) (fun M1 r1 r2 r3 => ⟨rfl, h M1 r1 r2 r3⟩)
        · omega
      · rcases hg with ⟨w1, w2, w3⟩ | ⟨w1, w2, w3⟩
        · omega
        · have mb := x_mb (a := (p_acc v Fs p q how f).2) (b := q) (A := 4251528) (B := 4000000) (by omega) (by omega)
          have mp := Int.mul_pos b.2.1 (show 0 < q by omega)
          rw [hst.1, x_W_id (by omega) (by omega)]
          rw [w3] at h
          exact c_put (by omega) (by omega) (fun M1 r1 r2 r3 => ⟨rfl, h M1 r1 r2 r3⟩)
    | succ k ih =>
      intro f hk hf
      by_cases hfm : f = m
      · exact ih f (by omega) hf
      obtain ⟨q1, q2, q3, q4⟩ := hW.2.2 f (by omega)
      have b := hbd (f + 1) (by omega)
      have n10 := p_n10 H10 q1
      refine u_X3_addUp_9 g how to _ _ f ⟨fun c => by rw [hW.1] at c; omega, fun c => ⟨by omega, ?_⟩⟩
      rw [show (41 + 8 + 9 * (f : Int)) = 49 + 9 * f by omega]
      refine c_choose (by omega) q1 q2 n10 (H1 _ q1) q3 q4 (p_T_eb q1) hpq (hst.2 f (by omega)) hh (fun c hc => ⟨_, rfl, fun z => absurd z (by omega), fun _ => ?_⟩)
      have hcn := hc.1
      have ec := p_ch_eq q1 hc
      have er := q3.2 c (by omega) (by omega)
      have eg := (hst.2 f (by omega)).2.2 c (by omega) (by omega)
      have es := q4 c (by omega) (by omega)
      have eE : p_TT (Fs f) (c : Int) = p_ae (Fs f) p q how := by unfold p_ae; rw [← ec]
      have step : ∀ one : Int, one = v (Fs f) (p_ae (Fs f) p q how) → ∀ zv11 : Int, zv11 = (x_W ((x_W ((p_acc v Fs p q how f).1 * (M ((49 + 9 * (f : Int)) + 2) c))) + (x_W (one * (p_acc v Fs p q how f).2)))) → ((0 : Int) ≤ f ∧ (f : Int) < 3) ∧ ((0 : Int) ≤ c ∧ (c : Int) < 10) ∧ ∀ zv12 : Int, zv12 = (x_W ((p_acc v Fs p q how f).2 * (M ((49 + 9 * (f : Int)) + 2) c))) → ∀ zv13 : Int, zv13 = x_w ((f : Int) + 1) → x_Ev l E (4, 0, 0) m_X3_addUp 9 [(13, 40), (0, g), (0, how), (12, to), (1, zv11), (5, 0), (1, zv12), (5, 0), (0, zv13), (5, 0), (5, 0), (5, 0)] [] M Q := by
        intro one hone v1 hv1
        refine ⟨by omega, by omega, ?_⟩
        intro v2 hv2 v3 hv3
        rw [x_w_id (by omega) (by omega)] at hv3
        rw [er.2.1, eE] at hv1 hv2
        rw [hone, x_W_a1, x_W_a2] at hv1
        have b1 : x_W ((p_acc v Fs p q how f).1 * p_ae (Fs f) p q how 3 + v (Fs f) (p_ae (Fs f) p q how) * (p_acc v Fs p q how f).2) = (p_acc v Fs p q how (f + 1)).1 := x_W_id (x := (p_acc v Fs p q how (f + 1)).1) (by omega) (by omega)
        have b2 : x_W ((p_acc v Fs p q how f).2 * p_ae (Fs f) p q how 3) = (p_acc v Fs p q how (f + 1)).2 := x_W_id (x := (p_acc v Fs p q how (f + 1)).2) (by omega) (by omega)
        rw [b1] at hv1
        rw [b2] at hv2
        subst hv1 hv2 hv3
        exact ih (f + 1) (by omega) (by omega)
      refine ⟨fun g0 => ⟨by omega, by omega, ?_⟩, fun g0 => ⟨by omega, by omega, ?_⟩⟩
      · rcases hg with ⟨w1, w2, w3⟩ | ⟨w1, w2, w3⟩
        · intro one hone
          refine ⟨by omega, by omega, step one ?_⟩
          rw [hone, es.2.1, eE, w2]
        · omega
      · rcases hg with ⟨w1, w2, w3⟩ | ⟨w1, w2, w3⟩
        · omega
        · intro one hone
          refine ⟨by omega, by omega, step one ?_⟩
          rw [hone, eg.2, eE, w2]
  exact u_X3_addUp_0 g how to (main m 0 (by omega) (by omega))
end MK
