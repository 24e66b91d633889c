/-! All plans of a follower -/
theorem x_sm_mul (h : Int → Int) (c : Int) (n : Nat) : x_sm h n * c = x_sm (fun g => h g * c) n := by
  induction n with
  | zero => unfold x_sm; omega
  | succ n ih => unfold x_sm; rw [Int.add_mul, ih]
theorem p_ratio {F : xM} (hF : p_wf F) {X X' : Int → Int} {b b' : Int} (hb : 0 < b) (hb' : 0 < b') (h : ∀ c, 0 ≤ c → c < 3 → X c * b' = X' c * b) : p_tS F X b = p_tS F X' b' := by
  have hg := hF.2.2.1
  have hr := hF.2.2.2.1
  unfold p_tS
  refine x_set_cg _ (fun i hi => ?_)
  unfold p_pr at hi
  unfold p_tgt
  split
  · have key : p_sum F X i * b' = p_sum F X' i * b := by
      unfold p_sum
      rw [x_sm_mul, x_sm_mul]
      refine x_sm_cg _ (fun g g1 g2 => ?_)
      show F 2 (3 * (i : Int) + g) * X g * b' = F 2 (3 * (i : Int) + g) * X' g * b
      rw [Int.mul_assoc, Int.mul_assoc, h g g1 (by omega)]
    refine decide_eq_decide.mpr ⟨fun q => ?_, fun q => ?_⟩
    · refine Int.eq_of_mul_eq_mul_right (a := b) (by omega) ?_
      rw [← key, q, Int.mul_assoc, Int.mul_assoc, Int.mul_comm b b']
    · refine Int.eq_of_mul_eq_mul_right (a := b') (by omega) ?_
      rw [key, q, Int.mul_assoc, Int.mul_assoc, Int.mul_comm b b']
  · have key := h (i - F 0 3) (by omega) (by omega)
    refine decide_eq_decide.mpr ⟨fun q => ?_, fun q => ?_⟩
    · rw [q, Int.zero_mul] at key
      exact (Int.mul_eq_zero.mp key.symm).resolve_right (by omega)
    · rw [q, Int.zero_mul] at key
      exact (Int.mul_eq_zero.mp key).resolve_right (by omega)
theorem p_pr_le {F : xM} (hF : p_wf F) : p_pr F ≤ 7 ∧ 2 ^ p_pr F ≤ 128 := by
  have hg := hF.2.2.1
  have hr := hF.2.2.2.1
  have h : p_pr F ≤ 7 := by unfold p_pr; omega
  have h2 : 2 ^ p_pr F ≤ 2 ^ 7 := Nat.pow_le_pow_right (by omega) h
  exact ⟨h, h2⟩
theorem p_v_eq {e e' : Int → Int} (h : p_eb e) (h' : p_eb e') (hv : p_v e * e' 3 = p_v e' * e 3) : ∀ c, 0 ≤ c → c < 3 → e c * e' 3 = e' c * e 3 := by
  obtain ⟨x1, x2⟩ := p_lex h h'
  have t0 := x2 0 (by omega) (by omega)
  have t1 := x2 1 (by omega) (by omega)
  have t2 := x2 2 (by omega) (by omega)
  intro c c1 c2
  have : c = 0 ∨ c = 1 ∨ c = 2 := by omega
  rcases this with q | q | q <;> subst q <;> omega
theorem p_ne {F : xM} (hF : p_wf F) {s s' : Nat} (hs : s < 128) (hs' : s' < 128) (h : p_ok F s) (h' : p_ok F s') (hn : p_en F s' 4 ≠ p_en F s 4) : p_lt (p_en F s) (p_en F s') ∨ p_lt (p_en F s') (p_en F s) := by
  have b := p_en_eb hF hs h.1 h.2.1
  have b' := p_en_eb hF hs' h'.1 h'.2.1
  unfold p_lt
  by_cases c : p_v (p_en F s) * p_en F s' 3 = p_v (p_en F s') * p_en F s 3
  · exfalso
    apply hn
    have hh := p_v_eq b b' c
    rw [p_en_4, p_en_4]
    congr 1
    refine p_ratio hF (p_b_pos h'.2.1) (p_b_pos h.2.1) (fun c c1 c2 => ?_)
    have := hh c c1 c2
    rw [p_en_lo F s c c2, p_en_lo F s' c c2, p_en_3, p_en_3] at this
    exact this.symm
  · omega
theorem p_thr {T : Int → Int → Int} {e : Int → Int} : ∀ n : Nat, (∀ k : Int, 0 ≤ k → k < (n : Int) → 0 < T k 3) → 0 < e 3 → (∀ k k' : Int, 0 ≤ k → k < k' → k' < (n : Int) → p_lt (T k) (T k')) → (∀ k : Int, 0 ≤ k → k < (n : Int) → p_lt e (T k) ∨ p_lt (T k) e) → ∃ p : Nat, p ≤ n ∧ (∀ k : Nat, k < p → p_lt (T k) e) ∧ ∀ k : Nat, p ≤ k → k < n → p_lt e (T k) := by
  intro n
  induction n with
  | zero => intro _ _ _ _; exact ⟨0, by omega, fun k hk => by omega, fun k h1 h2 => by omega⟩
  | succ n ih =>
    intro h0 he hs hn
    obtain ⟨p, p1, p2, p3⟩ := ih (fun k a b => h0 k a (by omega)) he (fun k k' a b c => hs k k' a b (by omega)) (fun k a b => hn k a (by omega))
    by_cases c : p = n
    · rcases hn n (by omega) (by omega) with q | q
      · refine ⟨p, by omega, p2, fun k h1 h2 => ?_⟩
        have : k = n := by omega
        rw [this]; exact q
      · refine ⟨n + 1, by omega, fun k hk => ?_, fun k h1 h2 => by omega⟩
        by_cases c2 : k = n
        · rw [c2]; exact q
        · exact p2 k (by omega)
    · refine ⟨p, by omega, p2, fun k h1 h2 => ?_⟩
      by_cases c2 : k = n
      · rw [c2]
        exact p_lt_tr he (h0 p (by omega) (by omega)) (h0 n (by omega) (by omega)) (p3 p (by omega) (by omega)) (hs p n (by omega) (by omega) (by omega))
      · exact p3 k h1 (by omega)
theorem p_T_inv {F : xM} (hF : p_wf F) : ∀ s, s ≤ 2 ^ p_pr F → (∀ k : Int, 0 ≤ k → k < ((p_T F s).1 : Int) → ∃ s', s' < s ∧ p_ok F s' ∧ (p_T F s).2 k = p_en F s') ∧ ∀ k k' : Int, 0 ≤ k → k < k' → k' < ((p_T F s).1 : Int) → p_lt ((p_T F s).2 k) ((p_T F s).2 k') := by
  have hpr := (p_pr_le hF).2
  intro s
  induction s with
  | zero =>
    intro _
    exact ⟨fun k a b => by unfold p_T at b; simp at b; omega, fun k k' a b c => by unfold p_T at c; simp at c; omega⟩
  | succ s ih =>
    intro hs
    obtain ⟨i1, i2⟩ := ih (by omega)
    unfold p_T
    by_cases c : p_new F s (p_T F s)
    · rw [p_if_t c]
      have hne : ∀ k : Int, 0 ≤ k → k < ((p_T F s).1 : Int) → p_lt (p_en F s) ((p_T F s).2 k) ∨ p_lt ((p_T F s).2 k) (p_en F s) := by
        intro k a b
        obtain ⟨s', q1, q2, q3⟩ := i1 k a b
        rw [q3]
        exact p_ne hF (by omega) (by omega) c.1 q2 (by rw [← q3]; exact c.2 k a b)
      have hpos : ∀ k : Int, 0 ≤ k → k < ((p_T F s).1 : Int) → 0 < (p_T F s).2 k 3 := by
        intro k a b
        obtain ⟨s', q1, q2, q3⟩ := i1 k a b
        rw [q3, p_en_3]; exact p_b_pos q2.2.1
      have he : 0 < p_en F s 3 := by rw [p_en_3]; exact p_b_pos c.1.2.1
      obtain ⟨p, p1, p2, p3⟩ := p_thr (p_T F s).1 hpos he i2 hne
      have ep : p_pos (p_T F s).2 (p_en F s) (p_T F s).1 = p := p_pos_eq p1 p2 (fun k a b q => p_lt_ir (p_lt_tr he (hpos k (by omega) (by omega)) he (p3 k a b) q))
      rw [ep]
      refine ⟨fun k a b => ?_, fun k k' a b c' => ?_⟩
      · show ∃ s', s' < s + 1 ∧ p_ok F s' ∧ p_put (p_T F s).2 p (p_en F s) k = p_en F s'
        have b' : k < (p_T F s).1 + 1 := by have : k < (((p_T F s).1 + 1 : Nat) : Int) := b; omega
        unfold p_put
        by_cases c1 : k < p
        · rw [if_pos c1]
          obtain ⟨s', q1, q2, q3⟩ := i1 k a (by omega)
          exact ⟨s', by omega, q2, q3⟩
        · rw [if_neg c1]
          by_cases c2 : k = p
          · rw [if_pos c2]; exact ⟨s, by omega, c.1, rfl⟩
          · rw [if_neg c2]
            obtain ⟨s', q1, q2, q3⟩ := i1 (k - 1) (by omega) (by omega)
            exact ⟨s', by omega, q2, q3⟩
      · show p_lt (p_put (p_T F s).2 p (p_en F s) k) (p_put (p_T F s).2 p (p_en F s) k')
        have b' : k' < (p_T F s).1 + 1 := by have : k' < (((p_T F s).1 + 1 : Nat) : Int) := c'; omega
        have lo : ∀ k : Int, 0 ≤ k → k < p → p_lt ((p_T F s).2 k) (p_en F s) := fun k a b => by
          have := p2 k.toNat (by omega)
          rw [show ((k.toNat : Nat) : Int) = k by omega] at this
          exact this
        have hi : ∀ k : Int, (p : Int) ≤ k → k < (p_T F s).1 → p_lt (p_en F s) ((p_T F s).2 k) := fun k a b => by
          have := p3 k.toNat (by omega) (by omega)
          rw [show ((k.toNat : Nat) : Int) = k by omega] at this
          exact this
        unfold p_put
        by_cases c1 : k' < p
        · rw [if_pos c1, if_pos (by omega)]; exact i2 k k' a b (by omega)
        · rw [if_neg c1]
          by_cases c2 : k' = p
          · rw [if_pos c2, if_pos (by omega)]; exact lo k a (by omega)
          · rw [if_neg c2]
            by_cases c3 : k < p
            · rw [if_pos c3]
              by_cases c4 : k = k' - 1
              · omega
              · exact i2 k (k' - 1) a (by omega) (by omega)
            · rw [if_neg c3]
              by_cases c4 : k = p
              · rw [if_pos c4]; exact hi (k' - 1) (by omega) (by omega)
              · rw [if_neg c4]; exact i2 (k - 1) (k' - 1) (by omega) (by omega) (by omega)
    · rw [p_if_f c]
      exact ⟨fun k a b => by obtain ⟨s', q1, q2⟩ := i1 k a b; exact ⟨s', by omega, q2⟩, i2⟩
theorem p_x_hi {F : xM} (hF : p_wf F) (s : Nat) : ∀ c, F 0 2 ≤ c → c < 3 → p_x (p_C F s) (p_R F s) c = 0 := by
  have hg := hF.2.2.1
  intro c c1 c2
  have z : ∀ k, k / 3 = c → p_rc (p_C F s) (p_R F s) c k = 0 := by
    intro k hk
    unfold p_rc
    split
    · unfold p_R
      rw [hk, if_neg (by omega)]
    · unfold p_C
      rw [if_neg (by omega), if_neg (by omega)]
  unfold p_x
  have : p_d3 (p_rc (p_C F s) (p_R F s) c) = 0 := by
    unfold p_d3
    have : c = 1 ∨ c = 2 := by omega
    rcases this with q | q
    · rw [z 3 (by omega), z 4 (by omega), z 5 (by omega)]; simp
    · rw [z 6 (by omega), z 7 (by omega), z 8 (by omega)]; simp
  rw [this, Int.zero_mul]
theorem p_en_hi {F : xM} (hF : p_wf F) (s : Nat) : ∀ c, F 0 2 ≤ c → c < 3 → p_en F s c = 0 := fun c c1 c2 => by rw [p_en_lo F s c c2]; exact p_x_hi hF s c c1 c2
noncomputable def p_n (F : xM) : Nat := (p_T F (2 ^ p_pr F)).1
noncomputable def p_TT (F : xM) : Int → Int → Int := (p_T F (2 ^ p_pr F)).2
theorem p_TT_eb {F : xM} (hF : p_wf F) {s : Nat} (hs : s ≤ 2 ^ p_pr F) : ∀ k : Int, 0 ≤ k → k < ((p_T F s).1 : Int) → p_eb ((p_T F s).2 k) ∧ ∀ c, F 0 2 ≤ c → c < 3 → (p_T F s).2 k c = 0 := by
  intro k a b
  have hpr := (p_pr_le hF).2
  obtain ⟨s', q1, q2, q3⟩ := (p_T_inv hF s hs).1 k a b
  rw [q3]
  exact ⟨p_en_eb hF (by omega) q2.1 q2.2.1, p_en_hi hF s'⟩
section FA
variable {l : Launch} {E : xE} {Q : Option xV → xM → Prop}
theorem c_findAll (H10 : p_ten) {f : Int} (hf : 0 ≤ f ∧ f < 3) {M0 : xM} (hF : p_wf (x_F M0 (9 + 4 * f)))
    (h : ∀ M1 : xM, p_tab M1 (49 + 9 * f) (p_n (x_F M0 (9 + 4 * f))) (p_TT (x_F M0 (9 + 4 * f))) → p_sums M1 (49 + 9 * f) (p_n (x_F M0 (9 + 4 * f))) (x_F M0 (9 + 4 * f)) (p_TT (x_F M0 (9 + 4 * f))) → (∀ a, a < 36 ∨ 39 < a → a < 49 + 9 * f ∨ 49 + 9 * f + 6 < a → M1 a = M0 a) → Q none M1) : x_Ev l E (4, 0, 0) m_X4_findAll 0 [(14, 49 + 9 * f), (5, 0), (5, 0), (5, 0)] [] M0 Q := by
  have hpr := p_pr_le hF
  have hg := hF.2.2.1
  have hr := hF.2.2.2.1
  generalize hFF : x_F M0 (9 + 4 * f) = F at *
  have hg' : M0 (9 + 4 * f) 2 = F 0 2 := by rw [← hFF, x_F0]
  have hr' : M0 (9 + 4 * f) 3 = F 0 3 := by rw [← hFF, x_F0]
  have main : ∀ (m s : Nat) (M : xM), 2 ^ p_pr F - s ≤ m → s ≤ 2 ^ p_pr F → p_tab M (49 + 9 * f) (p_T F s).1 (p_T F s).2 → (∀ a, a < 36 ∨ 39 < a → a < 49 + 9 * f ∨ 49 + 9 * f + 3 < a → M a = M0 a) → x_Ev l E (4, 0, 0) m_X4_findAll 17 [(14, 49 + 9 * f), (0, ((2 ^ p_pr F : Nat) : Int)), (0, (s : Int)), (5, 0)] [] M Q := by
    have fin : ∀ (s : Nat) (M : xM), s = 2 ^ p_pr F → p_tab M (49 + 9 * f) (p_T F s).1 (p_T F s).2 → (∀ a, a < 36 ∨ 39 < a → a < 49 + 9 * f ∨ 49 + 9 * f + 3 < a → M a = M0 a) → x_Ev l E (2, 0, 0) m_X4_sumUp 0 [(14, 49 + 9 * f), (5, 0)] [] M (fun r zM1 => r = none ∧ Q none zM1) := by
      intro s M hs ht hfr
      have xF : x_F M (9 + 4 * f) = F := by rw [← hFF]; exact x_F_eq (fun a a1 a2 => hfr a (by omega) (by omega))
      subst hs
      refine c_sumUp hf (H10 F hF _ (Nat.le_refl _)) ht (by rw [xF]; exact hF) (fun k a b => (p_TT_eb hF (Nat.le_refl _) k a b).1) (fun M1 q1 q2 => ⟨rfl, ?_⟩)
      rw [xF] at q1
      refine h M1 (p_tab_fr ?_ ?_ ?_ ?_ ht) q1 (fun a a1 a2 => ?_)
      · rw [q2 _ (by omega)]
      · exact q2 _ (by omega)
      · exact q2 _ (by omega)
      · exact q2 _ (by omega)
      · rw [q2 a (by omega)]; exact hfr a a1 (by omega)
    intro m
    induction m with
    | zero =>
      intro s M hm hs ht hfr
      refine u_X4_findAll_17 (49 + 9 * f) _ _ ⟨fun c => fin s M (by omega) ht hfr, fun c => by omega⟩
    | succ m ih =>
      intro s M hm hs ht hfr
      by_cases hsp : s = 2 ^ p_pr F
      · exact ih s M (by omega) hs ht hfr
      have xF : x_F M (9 + 4 * f) = F := by rw [← hFF]; exact x_F_eq (fun a a1 a2 => hfr a (by omega) (by omega))
      have wG : M (9 + 4 * f) 2 = F 0 2 := by rw [← xF, x_F0]
      have skip : ∀ M' : xM, ¬ p_new F s (p_T F s) → p_tab M' (49 + 9 * f) (p_T F s).1 (p_T F s).2 → (∀ a, a < 36 ∨ 39 < a → a < 49 + 9 * f ∨ 49 + 9 * f + 3 < a → M' a = M0 a) → ∀ zv : Int, zv = x_w ((s : Int) + 1) → x_Ev l E (4, 0, 0) m_X4_findAll 17 [(14, 49 + 9 * f), (0, ((2 ^ p_pr F : Nat) : Int)), (0, zv), (5, 0)] [] M' Q := by
        intro M' hn ht' hfr' v hv
        rw [x_w_id (by omega) (by omega)] at hv
        subst hv
        have e : p_T F (s + 1) = p_T F s := by
          show p_if _ _ _ = _
          rw [p_if_f hn]
        exact ih (s + 1) M' (by omega) (by omega) (by rw [e]; exact ht') hfr'
      refine u_X4_findAll_17 (49 + 9 * f) _ _ ⟨fun c => by omega, fun c => ?_⟩
      refine c_bitCount s (by omega) ⟨_, rfl, ?_⟩
      rw [x_who, wG]
      refine ⟨fun d => skip M (fun q => d q.1.1) ht hfr, fun d => ?_⟩
      refine c_solveAmounts (by omega) (by rw [xF]; exact hF) (by omega) (by rw [xF]; exact d) (by rw [xF]; unfold p_pr at hsp hs; omega) ?_ ?_
      · rw [xF]
        intro hd M1 q1
        refine ⟨_, rfl, fun _ => skip M1 (fun q => q.1.2.1 hd) (p_tab_fr ?_ ?_ ?_ ?_ ht) (fun a a1 a2 => (q1 a a1).trans (hfr a a1 a2)), fun z => absurd rfl z⟩
        · rw [q1 _ (by omega)]
        · exact q1 _ (by omega)
        · exact q1 _ (by omega)
        · exact q1 _ (by omega)
      · rw [xF]
        intro hd M1 ⟨q1, q2, q3⟩
        refine ⟨_, rfl, fun z => absurd z (by omega), fun _ => ?_⟩
        have xF1 : x_F M1 (9 + 4 * f) = F := by rw [← xF]; exact x_F_eq (fun a a1 a2 => q3 a (by omega))
        have wG1 : M1 (9 + 4 * f) 2 = F 0 2 := by rw [← xF1, x_F0]
        have bX := p_x_bd hF (s := s) (by omega) d
        have bb := (p_en_eb hF (s := s) (by omega) d hd).2
        rw [p_en_3] at bb
        have ht1 : p_tab M1 (49 + 9 * f) (p_T F s).1 (p_T F s).2 := p_tab_fr (by rw [q3 _ (by omega)]) (q3 _ (by omega)) (q3 _ (by omega)) (q3 _ (by omega)) ht
        have hfr1 : ∀ a, a < 36 ∨ 39 < a → a < 49 + 9 * f ∨ 49 + 9 * f + 3 < a → M1 a = M0 a := fun a a1 a2 => (q3 a a1).trans (hfr a a1 a2)
        refine c_tightPairs (by rw [xF1]; exact hF) (fun c c1 c2 => by rw [q2 c c1 c2]; exact bX c c1 c2) (by rw [q1]; exact bb) ?_ ?_
        · rw [xF1, q1, p_may_cg hF q2, p_tS_cg hF q2]
          intro hmay
          have hok : p_ok F s := ⟨d, hd, hmay⟩
          refine ⟨_, rfl, fun z => absurd z (by omega), fun _ => ?_⟩
          rw [ht1.1]
          refine c_isOneOf (by have := H10 F hF s hs; omega) (fun ⟨k, k1, k2, k3⟩ => ⟨_, rfl, fun _ => skip M1 (fun q => q.2 k k1 k2 ?_) ht1 hfr1, fun z => absurd z (by omega)⟩) (fun hno => ⟨_, rfl, fun z => absurd rfl z, fun _ => ?_⟩)
          · rw [← (ht1.2 k k1 k2).2.2, k3, p_en_4]
          · have hnew : p_new F s (p_T F s) := ⟨hok, fun k k1 k2 q => hno k k1 k2 (by rw [(ht1.2 k k1 k2).2.2, q, p_en_4])⟩
            have e1 : p_T F (s + 1) = ((p_T F s).1 + 1, p_put (p_T F s).2 (p_pos (p_T F s).2 (p_en F s) (p_T F s).1) (p_en F s)) := by
              show p_if _ _ _ = _
              rw [p_if_t hnew]
            have hlt : (p_T F s).1 < 10 := by
              have := H10 F hF (s + 1) (by omega)
              rw [e1] at this
              exact this
            rw [← p_en_4]
            refine c_insert hf hlt ht1 (by rw [wG1]; exact hg) (p_en_eb hF (by omega) d hd) (fun k a b => (p_TT_eb hF hs k a b).1) (fun c c1 c2 => ?_) (fun c c1 c2 => by rw [q2 c c1 c2, p_en_lo F s c c2]) (by rw [q1, p_en_3]) (p_T_inv hF s hs).2 (fun k a b => ?_) (fun M2 r1 r2 => ⟨rfl, ?_⟩)
            · rw [wG1] at c1
              exact ⟨p_en_hi hF s c c1 c2, fun k a b => (p_TT_eb hF hs k a b).2 c c1 c2⟩
            · obtain ⟨s', w1, w2, w3⟩ := (p_T_inv hF s hs).1 k a b
              rw [w3]
              exact p_ne hF (by omega) (by omega) hok w2 (by rw [← w3]; exact hnew.2 k a b)
            · intro v hv
              rw [x_w_id (by omega) (by omega)] at hv
              subst hv
              refine ih (s + 1) M2 (by omega) (by omega) (by rw [e1]; exact r1) (fun a a1 a2 => (r2 a a2).trans (hfr1 a a1 a2))
        · rw [xF1, q1, p_may_cg hF q2]
          intro hmay
          exact ⟨_, rfl, fun _ => skip M1 (fun q => hmay q.1.2.2) ht1 hfr1, fun z => absurd (show (-1 : Int) < 0 by omega) z⟩
  refine u_X4_findAll_0 (49 + 9 * f) ?_
  intro M1 hM1
  have f1 : ∀ a, a ≠ 49 + 9 * f → M1 a = M0 a := fun a ha => by rw [hM1]; exact x_wr_fr _ _ _ ha
  rw [x_who]
  refine c_pairs (9 + 4 * f) (by rw [f1 _ (by omega), hg']; exact hg) (by rw [f1 _ (by omega), hr']; exact hr) ⟨_, rfl, ?_⟩
  intro v hv
  rw [f1 _ (by omega), hg', hr', show F 0 3 + F 0 2 = ((p_pr F : Nat) : Int) by unfold p_pr; omega, x_shl (by omega)] at hv
  subst hv
  refine main (2 ^ p_pr F) 0 M1 (Nat.sub_le _ _) (Nat.zero_le _) ⟨?_, fun k a b => ?_⟩ (fun a a1 a2 => f1 a (by omega))
  · rw [hM1]; exact x_wr_eq ..
  · have : k < ((0 : Nat) : Int) := b
    omega
end FA
