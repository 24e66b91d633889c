/-! The plans' table: the new entry's place, the sums, all sets -/
theorem x_cpy_out (M : xM) {a k src sp dst dp n : Int} (h : ¬ (a = dst ∧ dp ≤ k ∧ k < dp + n)) : x_cpy M src sp dst dp n a k = M a k := by
  unfold x_cpy; rw [if_neg h]
theorem x_cpy_in (M : xM) {k src sp dst dp n : Int} (h : dp ≤ k) (h2 : k < dp + n) : x_cpy M src sp dst dp n dst k = M src (sp + (k - dp)) := by
  unfold x_cpy; rw [if_pos ⟨rfl, h, h2⟩]
theorem x_cpy_fr (M : xM) {a src sp dst dp n : Int} (h : a ≠ dst) : x_cpy M src sp dst dp n a = M a := by
  funext k
  exact x_cpy_out M (fun q => h q.1)
def p_row (M : xM) (P k : Int) (e : Int → Int) : Prop := (∀ c, 0 ≤ c → c < 3 → M (P + 1) (3 * k + c) = e c) ∧ M (P + 2) k = e 3 ∧ M (P + 3) k = e 4
def p_tab (M : xM) (P : Int) (n : Nat) (T : Int → Int → Int) : Prop := M P 2 = n ∧ ∀ k : Int, 0 ≤ k → k < n → p_row M P k (T k)
theorem p_row_fr {M M1 : xM} {P k : Int} {e : Int → Int} (h1 : M1 (P + 1) = M (P + 1)) (h2 : M1 (P + 2) = M (P + 2)) (h3 : M1 (P + 3) = M (P + 3)) (h : p_row M P k e) : p_row M1 P k e := by
  unfold p_row at *
  rw [h1, h2, h3]; exact h
theorem p_tab_fr {M M1 : xM} {P : Int} {n : Nat} {T : Int → Int → Int} (h0 : M1 P 2 = M P 2) (h1 : M1 (P + 1) = M (P + 1)) (h2 : M1 (P + 2) = M (P + 2)) (h3 : M1 (P + 3) = M (P + 3)) (h : p_tab M P n T) : p_tab M1 P n T :=
  ⟨h0.trans h.1, fun k k1 k2 => p_row_fr h1 h2 h3 (h.2 k k1 k2)⟩
def p_tr (F : xM) (e : Int → Int) (w : Int) : Int := x_sm (fun g => e g * F 1 (3 * w + g)) (F 0 2).toNat
def p_sums (M : xM) (P : Int) (n : Nat) (F : xM) (T : Int → Int → Int) : Prop := ∀ k : Int, 0 ≤ k → k < n → M (P + 4) k = p_tr F (T k) 0 ∧ M (P + 5) k = p_tr F (T k) 1 ∧ M (P + 6) k = p_tr F (T k) 2
section IN
variable {l : Launch} {E : xE} {Q : Option xV → xM → Prop}
theorem c_insert {f : Int} (hf : 0 ≤ f ∧ f < 3) {M0 : xM} {n : Nat} (hn : n < 10) {T : Int → Int → Int} {e : Int → Int} (ht : p_tab M0 (49 + 9 * f) n T) (hG : 1 ≤ M0 (9 + 4 * f) 2 ∧ M0 (9 + 4 * f) 2 ≤ 3) (he : p_eb e) (heT : ∀ k : Int, 0 ≤ k → k < n → p_eb (T k)) (hz : ∀ c, M0 (9 + 4 * f) 2 ≤ c → c < 3 → e c = 0 ∧ ∀ k : Int, 0 ≤ k → k < n → T k c = 0) (h39 : ∀ c, 0 ≤ c → c < 3 → M0 39 c = e c) (h36 : M0 36 3 = e 3) (hsort : ∀ k k' : Int, 0 ≤ k → k < k' → k' < (n : Int) → p_lt (T k) (T k')) (hne : ∀ k : Int, 0 ≤ k → k < (n : Int) → p_lt e (T k) ∨ p_lt (T k) e)
    (h : ∀ M1 : xM, p_tab M1 (49 + 9 * f) (n + 1) (p_put T (p_pos T e n) e) → (∀ a, a < 49 + 9 * f ∨ 49 + 9 * f + 3 < a → M1 a = M0 a) → Q none M1) : x_Ev l E (2, 0, 0) m_X4_insert 0 [(14, 49 + 9 * f), (0, e 4), (5, 0)] [] M0 Q := by
  have fin : ∀ (p : Int) (M : xM), 0 ≤ p → p ≤ n → (∀ k : Int, 0 ≤ k → k < p → p_row M (49 + 9 * f) k (T k)) → (∀ k : Int, p < k → k ≤ n → p_row M (49 + 9 * f) k (T (k - 1))) → (∀ k : Int, p ≤ k → k < n → p_lt e (T k)) → (∀ a, a < 49 + 9 * f + 1 ∨ 49 + 9 * f + 3 < a → M a = M0 a) → (p = 0 ∨ ¬ p_lt e (T (p - 1))) →
      (((0 : Int) ≤ 0 ∧ 0 ≤ (x_w (p * 3)) ∧ (0 : Int) ≤ 3) ∧ (0 : Int) + 3 ≤ 3 ∧ ((x_w (p * 3)) : Int) + 3 ≤ 30) ∧ ∀ zM1 : xM, zM1 = x_cpy M 39 0 ((49 + 9 * f) + 1) (x_w (p * 3)) 3 → ((0 : Int) ≤ p ∧ p < 10) ∧ ∀ zM2 : xM, zM2 = x_wr zM1 ((49 + 9 * f) + 2) p (zM1 36 3) → ((0 : Int) ≤ p ∧ p < 10) ∧ ∀ zM3 : xM, zM3 = x_wr zM2 ((49 + 9 * f) + 3) p (e 4) → ∀ zM4 : xM, zM4 = x_wr zM3 (49 + 9 * f) 2 (x_w ((zM3 (49 + 9 * f) 2) + 1)) → Q none zM4 := by
    intro p M hp hp2 r1 r2 r3 r4 r5
    rw [x_w_id (x := p * 3) (by omega) (by omega)]
    refine ⟨by omega, ?_⟩
    intro M1 hM1
    refine ⟨by omega, ?_⟩
    intro M2 hM2
    refine ⟨by omega, ?_⟩
    intro M3 hM3 M4 hM4
    have e1 : ∀ k, M4 (49 + 9 * f + 1) k = M1 (49 + 9 * f + 1) k := by
      intro k
      rw [hM4, x_wr_ne _ _ (by omega), hM3, x_wr_ne _ _ (by omega), hM2, x_wr_ne _ _ (by omega)]
    have e2 : ∀ k, M4 (49 + 9 * f + 2) k = if k = p then e 3 else M (49 + 9 * f + 2) k := by
      intro k
      rw [hM4, x_wr_ne _ _ (by omega), hM3, x_wr_ne _ _ (by omega), hM2]
      by_cases c : k = p
      · rw [c, x_wr_eq, if_pos rfl, hM1, x_cpy_out _ (by omega), r4 36 (by omega), h36]
      · rw [x_wr_ne _ _ (by omega), if_neg c, hM1, x_cpy_out _ (by omega)]
    have e3 : ∀ k, M4 (49 + 9 * f + 3) k = if k = p then e 4 else M (49 + 9 * f + 3) k := by
      intro k
      rw [hM4, x_wr_ne _ _ (by omega), hM3]
      by_cases c : k = p
      · rw [c, x_wr_eq, if_pos rfl]
      · rw [x_wr_ne _ _ (by omega), if_neg c, hM2, x_wr_ne _ _ (by omega), hM1, x_cpy_out _ (by omega)]
    have epos : p_pos T e n = p.toNat := by
      refine p_pos_eq (by omega) (fun k k1 => ?_) (fun k k1 k2 => ?_)
      · rcases r5 with q | q
        · omega
        · have hl : p_lt (T (p - 1)) e := (hne (p - 1) (by omega) (by omega)).resolve_left q
          by_cases c : (k : Int) = p - 1
          · rw [c]; exact hl
          · exact p_lt_tr (heT k (by omega) (by omega)).2.1 (heT (p - 1) (by omega) (by omega)).2.1 he.2.1 (hsort k (p - 1) (by omega) (by omega) (by omega)) hl
      · intro q
        have := p_lt_tr he.2.1 (heT k (by omega) (by omega)).2.1 he.2.1 (r3 k (by omega) (by omega)) q
        exact p_lt_ir this
    refine h M4 ⟨?_, fun k k1 k2 => ?_⟩ (fun a ha => ?_)
    · rw [hM4, x_wr_eq, hM3, x_wr_ne _ _ (by omega), hM2, x_wr_ne _ _ (by omega), hM1, x_cpy_out _ (by omega), r4 _ (by omega), ht.1, x_w_id (by omega) (by omega)]
      omega
    · rw [epos, show ((p.toNat : Nat) : Int) = p by omega]
      unfold p_put
      have out : k ≠ p → ∀ {t}, p_row M (49 + 9 * f) k t → p_row M4 (49 + 9 * f) k t := by
        intro c t q
        refine ⟨fun c' c1 c2 => ?_, ?_, ?_⟩
        · rw [e1, hM1, x_cpy_out _ (by omega)]; exact q.1 c' c1 c2
        · rw [e2, if_neg c]; exact q.2.1
        · rw [e3, if_neg c]; exact q.2.2
      by_cases c : k < p
      · rw [if_pos c]
        exact out (by omega) (r1 k k1 c)
      · rw [if_neg c]
        by_cases c2 : k = p
        · rw [if_pos c2, c2]
          refine ⟨fun c' c1 c2 => ?_, ?_, ?_⟩
          · rw [e1, hM1, x_cpy_in _ (by omega) (by omega), r4 39 (by omega), show 0 + (3 * p + c' - p * 3) = c' by omega]
            exact h39 c' c1 c2
          · rw [e2, if_pos rfl]
          · rw [e3, if_pos rfl]
        · rw [if_neg c2]
          exact out c2 (r2 k (by omega) (by omega))
    · rw [hM4, x_wr_fr _ _ _ (by omega), hM3, x_wr_fr _ _ _ (by omega), hM2, x_wr_fr _ _ _ (by omega), hM1, x_cpy_fr _ (by omega)]
      exact r4 a (by omega)
  have main : ∀ (m : Nat) (p : Int) (M : xM), p ≤ m → 0 ≤ p → p ≤ n → (∀ k : Int, 0 ≤ k → k < p → p_row M (49 + 9 * f) k (T k)) → (∀ k : Int, p < k → k ≤ n → p_row M (49 + 9 * f) k (T (k - 1))) → (∀ k : Int, p ≤ k → k < n → p_lt e (T k)) → (∀ a, a < 49 + 9 * f + 1 ∨ 49 + 9 * f + 3 < a → M a = M0 a) → x_Ev l E (2, 0, 0) m_X4_insert 15 [(14, 49 + 9 * f), (0, e 4), (0, p)] [] M Q := by
    intro m
    induction m with
    | zero =>
      intro p M hm hp hp2 r1 r2 r3 r4
      exact u_X4_insert_15 (49 + 9 * f) (e 4) p ⟨fun c => fin p M hp hp2 r1 r2 r3 r4 (Or.inl (by omega)), fun c => by omega⟩
    | succ m ih =>
      intro p M hm hp hp2 r1 r2 r3 r4
      refine u_X4_insert_15 (49 + 9 * f) (e 4) p ⟨fun c => fin p M hp hp2 r1 r2 r3 r4 (Or.inl (by omega)), fun c => ?_⟩
      rw [x_w_id (x := p - 1) (by omega) (by omega)]
      have hp0 := r1 (p - 1) (by omega) (by omega)
      have w4 : M (9 + 4 * f) = M0 (9 + 4 * f) := r4 _ (by omega)
      refine c_isBehind (e := e) (e' := T (p - 1)) (by rw [w4]; exact hG) (by omega) (by omega) he (heT _ (by omega) (by omega)) ?_ ?_ ?_ hp0.1 hp0.2.1 (fun q => ⟨_, rfl, fun z => absurd z (by omega), fun _ => ?_⟩) (fun q => ⟨_, rfl, fun z => fin p M hp hp2 r1 r2 r3 r4 (Or.inr q), fun z => absurd rfl z⟩)
      · intro c' c1 c2
        rw [w4] at c1
        exact ⟨(hz c' c1 c2).1, (hz c' c1 c2).2 _ (by omega) (by omega)⟩
      · intro c' c1 c2
        rw [r4 39 (by omega)]; exact h39 c' c1 c2
      · rw [r4 36 (by omega)]; exact h36
      · rw [x_w_id (x := (p - 1) * 3) (by omega) (by omega), x_w_id (x := p * 3) (by omega) (by omega)]
        refine ⟨by omega, ?_⟩
        intro M1 hM1
        refine ⟨by omega, by omega, ?_⟩
        intro M2 hM2
        refine ⟨by omega, by omega, ?_⟩
        intro M3 hM3 v hv
        rw [x_w_id (by omega) (by omega)] at hv
        subst hv
        have e1 : ∀ k, M3 (49 + 9 * f + 1) k = M1 (49 + 9 * f + 1) k := by
          intro k
          rw [hM3, x_wr_ne _ _ (by omega), hM2, x_wr_ne _ _ (by omega)]
        have e2 : ∀ k, M3 (49 + 9 * f + 2) k = if k = p then M (49 + 9 * f + 2) (p - 1) else M (49 + 9 * f + 2) k := by
          intro k
          rw [hM3, x_wr_ne _ _ (by omega), hM2]
          by_cases c : k = p
          · rw [c, x_wr_eq, if_pos rfl, hM1, x_cpy_out _ (by omega)]
          · rw [x_wr_ne _ _ (by omega), if_neg c, hM1, x_cpy_out _ (by omega)]
        have e3 : ∀ k, M3 (49 + 9 * f + 3) k = if k = p then M (49 + 9 * f + 3) (p - 1) else M (49 + 9 * f + 3) k := by
          intro k
          rw [hM3]
          by_cases c : k = p
          · rw [c, x_wr_eq, if_pos rfl, hM2, x_wr_ne _ _ (by omega), hM1, x_cpy_out _ (by omega)]
          · rw [x_wr_ne _ _ (by omega), if_neg c, hM2, x_wr_ne _ _ (by omega), hM1, x_cpy_out _ (by omega)]
        have out : ∀ k, k ≠ p → ∀ {t}, p_row M (49 + 9 * f) k t → p_row M3 (49 + 9 * f) k t := by
          intro k c t q
          refine ⟨fun c' c1 c2 => ?_, ?_, ?_⟩
          · rw [e1, hM1, x_cpy_out _ (by omega)]; exact q.1 c' c1 c2
          · rw [e2, if_neg c]; exact q.2.1
          · rw [e3, if_neg c]; exact q.2.2
        refine ih (p + -1) M3 (by omega) (by omega) (by omega) ?_ ?_ ?_ ?_
        · intro k k1 k2
          exact out k (by omega) (r1 k k1 (by omega))
        · intro k k1 k2
          by_cases c : k = p
          · rw [c]
            refine ⟨fun c' c1 c2 => ?_, ?_, ?_⟩
            · rw [e1, hM1, x_cpy_in _ (by omega) (by omega), show (p - 1) * 3 + (3 * p + c' - p * 3) = 3 * (p - 1) + c' by omega]
              exact hp0.1 c' c1 c2
            · rw [e2, if_pos rfl]; exact hp0.2.1
            · rw [e3, if_pos rfl]; exact hp0.2.2
          · exact out k c (r2 k (by omega) k2)
        · intro k k1 k2
          by_cases c : k = p - 1
          · rw [c]; exact q
          · exact r3 k (by omega) k2
        · intro a ha
          rw [hM3, x_wr_fr _ _ _ (by omega), hM2, x_wr_fr _ _ _ (by omega), hM1, x_cpy_fr _ (by omega)]
          exact r4 a ha
  refine u_X4_insert_0 (49 + 9 * f) (e 4) ⟨fun c => ?_, fun c => by rw [ht.1] at c; omega⟩
  intro v hv
  rw [ht.1] at hv
  subst hv
  exact main n n M0 (by omega) (by omega) (by omega) (fun k k1 k2 => ht.2 k k1 k2) (fun k k1 k2 => by omega) (fun k k1 k2 => by omega) (fun _ _ => rfl)
theorem p_tr_bd {F : xM} (hF : p_wf F) {e : Int → Int} (he : p_eb e) {w : Int} (hw : 0 ≤ w ∧ w < 3) : -64800 ≤ p_tr F e w ∧ p_tr F e w ≤ 64800 := by
  obtain ⟨-, -, hg, -, ht, -, -, -⟩ := hF
  have := x_sm_bd (h := fun g => e g * F 1 (3 * w + g)) (B := 21600) (F 0 2).toNat (fun g g1 g2 => by
    have hh := ht g g1 (by omega)
    refine x_mb (A := 1080) (B := 20) (he.1 g g1 (by omega)) ?_
    have : w = 0 ∨ w = 1 ∨ w = 2 := by omega
    rcases this with q | q | q
    · subst q; rw [show 3 * 0 + g = g by omega]; omega
    · subst q; rw [show 3 * 1 + g = 3 + g by omega]; omega
    · subst q; rw [show 3 * 2 + g = 6 + g by omega]; omega)
  unfold p_tr
  have h3 : (((F 0 2).toNat : Nat) : Int) ≤ 3 := by omega
  have h4 : (((F 0 2).toNat : Nat) : Int) * 21600 ≤ 64800 := by omega
  omega
theorem c_sumOf {f k w : Int} {M : xM} {e : Int → Int} (hF : p_wf (x_F M (9 + 4 * f))) (hk : 0 ≤ k) (hk2 : k < 10) (hw : 0 ≤ w) (hw2 : w < 3) (he : p_eb e) (hr : p_row M (49 + 9 * f) k e) (h : Q (some (1, p_tr (x_F M (9 + 4 * f)) e w)) M) : x_Ev l E (1, 0, 0) m_X4_sumOf 0 [(14, 49 + 9 * f), (0, k), (0, w), (5, 0), (5, 0), (5, 0)] [] M Q := by
  have hF' := hF
  obtain ⟨-, -, hg, -, ht, -, -, -⟩ := hF'
  rw [x_F0] at hg
  obtain ⟨G, hG⟩ : ∃ G : Nat, M (9 + 4 * f) 2 = G := ⟨(M (9 + 4 * f) 2).toNat, by omega⟩
  have hB : ∀ j : Nat, j ≤ G → -(j * 21600 : Int) ≤ x_sm (fun g => e g * x_F M (9 + 4 * f) 1 (3 * w + g)) j ∧ x_sm (fun g => e g * x_F M (9 + 4 * f) 1 (3 * w + g)) j ≤ j * 21600 := by
    intro j hj
    refine x_sm_bd j (fun g g1 g2 => ?_)
    have hh := ht g g1 (by omega)
    refine x_mb (A := 1080) (B := 20) (he.1 g g1 (by omega)) ?_
    have : w = 0 ∨ w = 1 ∨ w = 2 := by omega
    rcases this with q | q | q
    · subst q; rw [show 3 * 0 + g = g by omega]; omega
    · subst q; rw [show 3 * 1 + g = 3 + g by omega]; omega
    · subst q; rw [show 3 * 2 + g = 6 + g by omega]; omega
  have main : ∀ (n j : Nat), G - j ≤ n → j ≤ G → x_Ev l E (1, 0, 0) m_X4_sumOf 5 [(14, 49 + 9 * f), (0, k), (0, w), (1, x_sm (fun g => e g * x_F M (9 + 4 * f) 1 (3 * w + g)) j), (5, 0), (0, (j : Int))] [] M Q := by
    intro n
    induction n with
    | zero =>
      intro j hn hj
      have ej : j = G := by omega
      refine u_X4_sumOf_5 (49 + 9 * f) k w _ _ ?_
      rw [x_who]
      refine ⟨fun c => ?_, fun c => absurd (by omega) c⟩
      unfold p_tr at h
      rw [x_F0, hG, Int.toNat_natCast, ← ej] at h
      exact h
    | succ n ih =>
      intro j hn hj
      by_cases hj2 : j = G
      · exact ih j (by omega) hj
      refine u_X4_sumOf_5 (49 + 9 * f) k w _ _ ?_
      rw [x_who, x_ix hk (by omega) (by omega) (by omega), x_ix hw (by omega) (by omega) (by omega), hr.1 j (by omega) (by omega)]
      refine ⟨fun c => by omega, fun c => ⟨by omega, by omega, ?_⟩⟩
      intro v hv v2 hv2
      have b1 := hB (j + 1) (by omega)
      rw [x_W_a2, ← x_F1 M (9 + 4 * f)] at hv
      rw [x_w_id (by omega) (by omega)] at hv2
      have ev : v = x_sm (fun g => e g * x_F M (9 + 4 * f) 1 (3 * w + g)) (j + 1) := by
        rw [hv]
        exact x_W_id (x := x_sm (fun g => e g * x_F M (9 + 4 * f) 1 (3 * w + g)) (j + 1)) (by omega) (by omega)
      subst ev hv2
      exact ih (j + 1) (by omega) (by omega)
  exact u_X4_sumOf_0 (49 + 9 * f) k w (main G 0 (by omega) (by omega))
theorem c_sumUp {f : Int} (hf : 0 ≤ f ∧ f < 3) {M0 : xM} {n : Nat} (hn : n ≤ 10) {T : Int → Int → Int} (ht : p_tab M0 (49 + 9 * f) n T) (hF : p_wf (x_F M0 (9 + 4 * f))) (heT : ∀ k : Int, 0 ≤ k → k < n → p_eb (T k))
    (h : ∀ M1 : xM, p_sums M1 (49 + 9 * f) n (x_F M0 (9 + 4 * f)) T → (∀ a, a < 49 + 9 * f + 4 ∨ 49 + 9 * f + 6 < a → M1 a = M0 a) → Q none M1) : x_Ev l E (2, 0, 0) m_X4_sumUp 0 [(14, 49 + 9 * f), (5, 0)] [] M0 Q := by
  have main : ∀ (m : Nat) (k : Int) (M : xM), n - k ≤ m → 0 ≤ k → k ≤ n → (∀ j : Int, 0 ≤ j → j < k → M (49 + 9 * f + 4) j = p_tr (x_F M0 (9 + 4 * f)) (T j) 0 ∧ M (49 + 9 * f + 5) j = p_tr (x_F M0 (9 + 4 * f)) (T j) 1 ∧ M (49 + 9 * f + 6) j = p_tr (x_F M0 (9 + 4 * f)) (T j) 2) → (∀ a, a < 49 + 9 * f + 4 ∨ 49 + 9 * f + 6 < a → M a = M0 a) → x_Ev l E (2, 0, 0) m_X4_sumUp 2 [(14, 49 + 9 * f), (0, k)] [] M Q := by
    intro m
    induction m with
    | zero =>
      intro k M hm hk hk2 h1 h2
      refine u_X4_sumUp_2 (49 + 9 * f) k ⟨fun c => h M (fun j j1 j2 => h1 j j1 (by omega)) h2, fun c => ?_⟩
      rw [h2 _ (by omega), ht.1] at c
      omega
    | succ m ih =>
      intro k M hm hk hk2 h1 h2
      by_cases hkn : k = n
      · exact ih k M (by omega) hk hk2 h1 h2
      have xF : ∀ {M' : xM}, (∀ a, a < 49 + 9 * f + 4 ∨ 49 + 9 * f + 6 < a → M' a = M0 a) → x_F M' (9 + 4 * f) = x_F M0 (9 + 4 * f) := fun q => x_F_eq (fun a a1 a2 => q a (by omega))
      have wfM : ∀ {M' : xM}, (∀ a, a < 49 + 9 * f + 4 ∨ 49 + 9 * f + 6 < a → M' a = M0 a) → p_wf (x_F M' (9 + 4 * f)) := by
        intro M' q
        rw [xF q]
        exact hF
      have trM : ∀ {M' : xM} (w : Int), (∀ a, a < 49 + 9 * f + 4 ∨ 49 + 9 * f + 6 < a → M' a = M0 a) → p_tr (x_F M' (9 + 4 * f)) (T k) w = p_tr (x_F M0 (9 + 4 * f)) (T k) w := by
        intro M' w q
        rw [xF q]
      have rwM : ∀ {M' : xM}, (∀ a, a < 49 + 9 * f + 4 ∨ 49 + 9 * f + 6 < a → M' a = M0 a) → p_row M' (49 + 9 * f) k (T k) := fun q => p_row_fr (q _ (by omega)) (q _ (by omega)) (q _ (by omega)) (ht.2 k hk (by omega))
      refine u_X4_sumUp_2 (49 + 9 * f) k ⟨fun c => ?_, fun c => ?_⟩
      · rw [h2 _ (by omega), ht.1] at c
        omega
      refine c_sumOf (e := T k) (wfM h2) hk (by omega) (by omega) (by omega) (heT k hk (by omega)) (rwM h2) ⟨_, rfl, by omega, ?_⟩
      intro M1 hM1
      have g1 : ∀ a, a < 49 + 9 * f + 4 ∨ 49 + 9 * f + 6 < a → M1 a = M0 a := fun a ha => by rw [hM1, x_wr_fr _ _ _ (by omega)]; exact h2 a ha
      refine c_sumOf (e := T k) (wfM g1) hk (by omega) (by omega) (by omega) (heT k hk (by omega)) (rwM g1) ⟨_, rfl, by omega, ?_⟩
      intro M2 hM2
      have g2 : ∀ a, a < 49 + 9 * f + 4 ∨ 49 + 9 * f + 6 < a → M2 a = M0 a := fun a ha => by rw [hM2, x_wr_fr _ _ _ (by omega)]; exact g1 a ha
      refine c_sumOf (e := T k) (wfM g2) hk (by omega) (by omega) (by omega) (heT k hk (by omega)) (rwM g2) ⟨_, rfl, by omega, ?_⟩
      intro M3 hM3 v hv
      have g3 : ∀ a, a < 49 + 9 * f + 4 ∨ 49 + 9 * f + 6 < a → M3 a = M0 a := fun a ha => by rw [hM3, x_wr_fr _ _ _ (by omega)]; exact g2 a ha
      rw [x_w_id (by omega) (by omega)] at hv
      subst hv
      refine ih (k + 1) M3 (by omega) (by omega) (by omega) (fun j j1 j2 => ?_) g3
      have a4 : M3 (49 + 9 * f + 4) = M1 (49 + 9 * f + 4) := by rw [hM3, x_wr_fr _ _ _ (by omega), hM2, x_wr_fr _ _ _ (by omega)]
      have a5 : M3 (49 + 9 * f + 5) = M2 (49 + 9 * f + 5) := by rw [hM3, x_wr_fr _ _ _ (by omega)]
      have b5 : M1 (49 + 9 * f + 5) = M (49 + 9 * f + 5) := by rw [hM1, x_wr_fr _ _ _ (by omega)]
      have b6 : M2 (49 + 9 * f + 6) = M (49 + 9 * f + 6) := by rw [hM2, x_wr_fr _ _ _ (by omega), hM1, x_wr_fr _ _ _ (by omega)]
      rw [a4, a5]
      by_cases c2 : j = k
      · rw [c2]
        refine ⟨?_, ?_, ?_⟩
        · rw [hM1, x_wr_eq]; exact trM 0 h2
        · rw [hM2, x_wr_eq]; exact trM 1 g1
        · rw [hM3, x_wr_eq]; exact trM 2 g2
      · refine ⟨?_, ?_, ?_⟩
        · rw [hM1, x_wr_ne _ _ (by omega)]; exact (h1 j j1 (by omega)).1
        · rw [hM2, x_wr_ne _ _ (by omega), b5]; exact (h1 j j1 (by omega)).2.1
        · rw [hM3, x_wr_ne _ _ (by omega), b6]; exact (h1 j j1 (by omega)).2.2
  exact u_X4_sumUp_0 (49 + 9 * f) (main n 0 M0 (by omega) (by omega) (by omega) (fun j j1 j2 => by omega) (fun _ _ => rfl))
end IN
