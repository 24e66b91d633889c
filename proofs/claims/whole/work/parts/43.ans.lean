/-! How plans stand at a term; the answer -/
def p_tw (F : xM) : Int := if F 0 0 = 3 ∨ F 0 0 = 6 then 2 else 1
def p_ex (F : xM) : Int := if F 0 0 = 4 ∨ F 0 0 = 6 then F 0 1 else 0
def p_fe (F : xM) (p q : Int) : Int := p_tw F * p + p_ex F * q
def p_net (F : xM) (e : Int → Int) (p q : Int) : Int := p_tr F e 0 * q - p_fe F p q * p_tr F e 1
def p_gn (F : xM) (e : Int → Int) (p q : Int) : Int := p_tr F e 1 * p + p_tr F e 2 * q
def p_tm (p q : Int) : Prop := 0 ≤ p ∧ p ≤ 160000000 ∧ 1 ≤ q ∧ q ≤ 4000000
def p_bst (F : xM) (T : Int → Int → Int) (n : Nat) (p q : Int) (k : Nat) : Bool := decide (∀ j : Nat, j < n → p_net F (T j) p q * T k 3 ≤ p_net F (T k) p q * T j 3)
def p_st (M : xM) (P : Int) (n : Nat) (F : xM) (T : Int → Int → Int) (p q : Int) : Prop := M P 11 = q ∧ M P 12 = (x_set (p_bst F T n p q) n : Int) ∧ ∀ k : Int, 0 ≤ k → k < n → M (P + 7) k = p_net F (T k) p q ∧ M (P + 8) k = p_gn F (T k) p q
theorem p_tr1_bd {F : xM} (hF : p_wf F) {e : Int → Int} (he : p_eb e) : -9720 ≤ p_tr F e 1 ∧ p_tr F e 1 ≤ 9720 := by
  obtain ⟨-, -, hg, -, ht, -, -, -⟩ := hF
  have := x_sm_bd (h := fun g => e g * F 1 (3 * 1 + g)) (B := 3240) (F 0 2).toNat (fun g g1 g2 => by
    have hh := ht g g1 (by omega)
    refine x_mb (A := 1080) (B := 3) (he.1 g g1 (by omega)) ?_
    rw [show 3 * 1 + g = 3 + g by omega]; omega)
  unfold p_tr
  have h4 : (((F 0 2).toNat : Nat) : Int) * 3240 ≤ 9720 := by omega
  omega
theorem p_tr2_bd {F : xM} (hF : p_wf F) {e : Int → Int} (he : p_eb e) : -29160 ≤ p_tr F e 2 ∧ p_tr F e 2 ≤ 29160 := by
  obtain ⟨-, -, hg, -, ht, -, -, -⟩ := hF
  have := x_sm_bd (h := fun g => e g * F 1 (3 * 2 + g)) (B := 9720) (F 0 2).toNat (fun g g1 g2 => by
    have hh := ht g g1 (by omega)
    refine x_mb (A := 1080) (B := 9) (he.1 g g1 (by omega)) ?_
    rw [show 3 * 2 + g = 6 + g by omega]; omega)
  unfold p_tr
  have h4 : (((F 0 2).toNat : Nat) : Int) * 9720 ≤ 29160 := by omega
  omega
theorem p_fe_bd {F : xM} (hF : p_wf F) {p q : Int} (h : p_tm p q) : 0 ≤ p_fe F p q ∧ p_fe F p q ≤ 356000000 ∧ 1 ≤ p_tw F ∧ p_tw F ≤ 2 ∧ 0 ≤ p_ex F ∧ p_ex F ≤ 9 := by
  obtain ⟨a1, a2, a3, a4⟩ := h
  have hm := hF.2.1
  have h1 : 1 ≤ p_tw F ∧ p_tw F ≤ 2 := by unfold p_tw; split <;> omega
  have h2 : 0 ≤ p_ex F ∧ p_ex F ≤ 9 := by unfold p_ex; split <;> omega
  have h3 := Int.mul_nonneg (show 0 ≤ p_tw F by omega) a1
  have h4 := Int.mul_nonneg h2.1 (show 0 ≤ q by omega)
  have h5 := x_mb (a := p_tw F) (b := p) (A := 2) (B := 160000000) (by omega) (by omega)
  have h6 := x_mb (a := p_ex F) (b := q) (A := 9) (B := 4000000) (by omega) (by omega)
  unfold p_fe
  omega
theorem p_net_bd {F : xM} (hF : p_wf F) {e : Int → Int} (he : p_eb e) {p q : Int} (h : p_tm p q) : -4000000000000 ≤ p_net F e p q ∧ p_net F e p q ≤ 4000000000000 := by
  have h0 := h
  obtain ⟨a1, a2, a3, a4⟩ := h
  have h1 := p_tr_bd hF he (w := 0) (by omega)
  have h2 := p_tr1_bd hF he
  have h3 := p_fe_bd hF h0
  have h5 := x_mb (a := p_tr F e 0) (b := q) (A := 64800) (B := 4000000) (by omega) (by omega)
  have h6 := x_mb (a := p_fe F p q) (b := p_tr F e 1) (A := 356000000) (B := 9720) (by omega) (by omega)
  unfold p_net
  omega
theorem p_gn_bd {F : xM} (hF : p_wf F) {e : Int → Int} (he : p_eb e) {p q : Int} (h : p_tm p q) : -1700000000000 ≤ p_gn F e p q ∧ p_gn F e p q ≤ 1700000000000 := by
  obtain ⟨a1, a2, a3, a4⟩ := h
  have h1 := p_tr2_bd hF he
  have h2 := p_tr1_bd hF he
  have h5 := x_mb (a := p_tr F e 1) (b := p) (A := 9720) (B := 160000000) (by omega) (by omega)
  have h6 := x_mb (a := p_tr F e 2) (b := q) (A := 29160) (B := 4000000) (by omega) (by omega)
  unfold p_gn
  omega
/-- fractions of a list lie in their order as whole numbers do -/
theorem p_scl (b : Int → Int) : ∀ n : Nat, (∀ k : Int, 0 ≤ k → k < n → 0 < b k) → ∃ (L : Int) (m : Int → Int), 0 < L ∧ ∀ k : Int, 0 ≤ k → k < n → 0 < m k ∧ m k * b k = L := by
  intro n
  induction n with
  | zero => intro _; exact ⟨1, fun _ => 1, by omega, fun k a b => by omega⟩
  | succ n ih =>
    intro h
    obtain ⟨L, m, hL, hm⟩ := ih (fun k a b => h k a (by omega))
    have hn := h n (by omega) (by omega)
    refine ⟨L * b n, fun k => if k = n then L else m k * b n, Int.mul_pos hL hn, fun k a c => ?_⟩
    dsimp only
    by_cases e : k = n
    · rw [if_pos e, e]; exact ⟨hL, rfl⟩
    · rw [if_neg e]
      obtain ⟨q1, q2⟩ := hm k a (by omega)
      refine ⟨Int.mul_pos q1 hn, ?_⟩
      rw [← q2]; grind
theorem p_sc_lt {x y bi bj mi mj L : Int} (hL : 0 < L) (hi : 0 < mi) (hj : 0 < mj) (ei : mi * bi = L) (ej : mj * bj = L) : x * bj < y * bi ↔ x * mi < y * mj := by
  have hmm : 0 < mi * mj := Int.mul_pos hi hj
  have e1 : x * bj * (mi * mj) = x * mi * L := by rw [← ej]; grind
  have e2 : y * bi * (mi * mj) = y * mj * L := by rw [← ei]; grind
  constructor
  · intro h
    have := Int.mul_lt_mul_of_pos_right h hmm
    rw [e1, e2] at this
    exact Int.lt_of_mul_lt_mul_right this (by omega)
  · intro h
    have := Int.mul_lt_mul_of_pos_right h hL
    rw [← e1, ← e2] at this
    exact Int.lt_of_mul_lt_mul_right this (by omega)
theorem p_emb (a b : Int → Int) (n : Nat) (h : ∀ k : Int, 0 ≤ k → k < n → 0 < b k) : ∃ y : Int → Int, ∀ i j : Int, 0 ≤ i → i < n → 0 ≤ j → j < n → (a i * b j < a j * b i ↔ y i < y j) := by
  obtain ⟨L, m, hL, hm⟩ := p_scl b n h
  refine ⟨fun k => a k * m k, fun i j i1 i2 j1 j2 => ?_⟩
  exact p_sc_lt hL (hm i i1 i2).1 (hm j j1 j2).1 (hm i i1 i2).2 (hm j j1 j2).2
theorem x_set_no {P : Nat → Bool} (n : Nat) (h : ∀ i, i < n → P i = false) : x_set P n = 0 := by
  induction n with
  | zero => rfl
  | succ n ih =>
    unfold x_set
    rw [ih (fun i hi => h i (by omega)), h n (by omega)]
    rfl
section AN
variable {l : Launch} {E : xE} {Q : Option xV → xM → Prop}
theorem c_times (w : Int) {M : xM} (h : Q (some (0, p_tw (x_F M w))) M) : x_Ev l E (1, 0, 0) m_X1_times 0 [(11, w)] [] M Q := by
  unfold p_tw at h
  rw [x_F0] at h
  refine u_X1_times_0 w ⟨fun c => ?_, fun c => ⟨fun d => ?_, fun d => ?_⟩⟩
  · rw [if_pos (Or.inl c)] at h; exact h
  · rw [if_neg (by omega)] at h; exact h
  · rw [if_pos (Or.inr d)] at h; exact h
theorem c_extra (w : Int) {M : xM} (h : Q (some (0, p_ex (x_F M w))) M) : x_Ev l E (1, 0, 0) m_X1_extra 0 [(11, w)] [] M Q := by
  unfold p_ex at h
  rw [x_F0, x_F0] at h
  refine u_X1_extra_0 w ⟨fun c => ?_, fun c => ⟨fun d => ?_, fun d => ?_⟩⟩
  · rw [if_pos (Or.inl c)] at h; exact h
  · rw [if_neg (by omega)] at h; exact h
  · rw [if_pos (Or.inr d)] at h; exact h
theorem c_feels (w p q : Int) {M : xM} (hF : p_wf (x_F M w)) (ht : p_tm p q) (h : Q (some (1, p_fe (x_F M w) p q)) M) : x_Ev l E (2, 0, 0) m_X1_feels 0 [(11, w), (1, p), (5, 0), (1, q), (5, 0)] [] M Q := by
  have hb := p_fe_bd hF ht
  refine u_X1_feels_0 w p q (c_times w ⟨_, rfl, c_extra w ⟨_, rfl, ?_⟩⟩)
  rw [x_W_a1, x_W_a2]
  have e : x_W (p_tw (x_F M w) * p + p_ex (x_F M w) * q) = p_fe (x_F M w) p q := x_W_id (x := p_fe (x_F M w) p q) (by omega) (by omega)
  rw [e]
  exact h
theorem c_stand {f : Int} (hf : 0 ≤ f ∧ f < 3) {M0 : xM} {F : xM} {n : Nat} {T : Int → Int → Int} (hF : p_wf F) (xF : x_F M0 (9 + 4 * f) = F) (hn : n ≤ 10) (ht : p_tab M0 (49 + 9 * f) n T) (hs : p_sums M0 (49 + 9 * f) n F T) (heT : ∀ k : Int, 0 ≤ k → k < n → p_eb (T k)) {p q : Int} (hpq : p_tm p q)
    (h : ∀ M1 : xM, p_st M1 (49 + 9 * f) n F T p q → (∀ a, a ≠ 49 + 9 * f → a ≠ 49 + 9 * f + 7 → a ≠ 49 + 9 * f + 8 → M1 a = M0 a) → (∀ k, k ≠ 11 → k ≠ 12 → M1 (49 + 9 * f) k = M0 (49 + 9 * f) k) → Q none M1) : x_Ev l E (3, 0, 0) m_X4_stand 0 [(14, 49 + 9 * f), (1, p), (5, 0), (1, q), (5, 0), (5, 0), (5, 0), (5, 0), (5, 0), (5, 0)] [] M0 Q := by
  have hfe := p_fe_bd hF hpq
  obtain ⟨y, hy⟩ := p_emb (fun k => p_net F (T k) p q) (fun k => T k 3) n (fun k a b => (heT k a b).2.1)
  -- best among the first k
  have main : ∀ (m : Nat) (k : Nat) (top : Int) (M : xM), n - k ≤ m → k ≤ n → (k = 0 ∨ (0 ≤ top ∧ top < k ∧ ∀ j : Int, 0 ≤ j → j < k → y j ≤ y top)) → M (49 + 9 * f) 11 = q → M (49 + 9 * f) 12 = (x_set (fun j => decide (∀ i : Nat, i < k → y i ≤ y j)) k : Int) → (∀ j : Int, 0 ≤ j → j < k → M (49 + 9 * f + 7) j = p_net F (T j) p q ∧ M (49 + 9 * f + 8) j = p_gn F (T j) p q) → (∀ a, a ≠ 49 + 9 * f → a ≠ 49 + 9 * f + 7 → a ≠ 49 + 9 * f + 8 → M a = M0 a) → (∀ k, k ≠ 11 → k ≠ 12 → M (49 + 9 * f) k = M0 (49 + 9 * f) k) → x_Ev l E (3, 0, 0) m_X4_stand 27 [(14, 49 + 9 * f), (1, p), (5, 0), (1, q), (5, 0), (1, p_fe F p q), (5, 0), (0, top), (0, (k : Int)), (5, 0)] [] M Q := by
    have fin : ∀ (k : Nat) (M : xM), k = n → M (49 + 9 * f) 11 = q → M (49 + 9 * f) 12 = (x_set (fun j => decide (∀ i : Nat, i < k → y i ≤ y j)) k : Int) → (∀ j : Int, 0 ≤ j → j < k → M (49 + 9 * f + 7) j = p_net F (T j) p q ∧ M (49 + 9 * f + 8) j = p_gn F (T j) p q) → (∀ a, a ≠ 49 + 9 * f → a ≠ 49 + 9 * f + 7 → a ≠ 49 + 9 * f + 8 → M a = M0 a) → (∀ k, k ≠ 11 → k ≠ 12 → M (49 + 9 * f) k = M0 (49 + 9 * f) k) → Q none M := by
      intro k M hk h1 h2 h3 h4 h5
      subst hk
      refine h M ⟨h1, ?_, h3⟩ h4 h5
      rw [h2]
      congr 1
      refine x_set_cg _ (fun j hj => ?_)
      unfold p_bst
      refine decide_eq_decide.mpr ⟨fun w i hi => ?_, fun w i hi => ?_⟩
      · have := (hy j i (by omega) (by omega) (by omega) (by omega))
        have := w i hi
        omega
      · have := (hy j i (by omega) (by omega) (by omega) (by omega))
        have := w i hi
        omega
    intro m
    induction m with
    | zero =>
      intro k top M hm hk ht0 h1 h2 h3 h4 h5
      refine u_X4_stand_27 (49 + 9 * f) p q _ top k ⟨fun c => fin k M (by omega) h1 h2 h3 h4 h5, fun c => ?_⟩
      rw [h5 2 (by omega) (by omega), ht.1] at c
      omega
    | succ m ih =>
      intro k top M hm hk ht0 h1 h2 h3 h4 h5
      by_cases hkn : k = n
      · exact ih k top M (by omega) hk ht0 h1 h2 h3 h4 h5
      have ek := heT k (by omega) (by omega)
      have s := hs k (by omega) (by omega)
      have bn := p_net_bd hF ek hpq
      have bg := p_gn_bd hF ek hpq
      refine u_X4_stand_27 (49 + 9 * f) p q _ top k ⟨fun c => by rw [h5 2 (by omega) (by omega), ht.1] at c; omega, fun c => ⟨by omega, by omega, by omega, ?_⟩⟩
      rw [h4 (49 + 9 * f + 4) (by omega) (by omega) (by omega), h4 (49 + 9 * f + 5) (by omega) (by omega) (by omega), s.1, s.2.1, x_W_s1, x_W_s2]
      have en : x_W (p_tr F (T k) 0 * q - p_fe F p q * p_tr F (T k) 1) = p_net F (T k) p q := x_W_id (x := p_net F (T k) p q) (by omega) (by omega)
      rw [en]
      intro M1 hM1
      refine ⟨by omega, by omega, by omega, ?_⟩
      have f1 : ∀ a, a ≠ 49 + 9 * f + 7 → M1 a = M a := fun a ha => by rw [hM1]; exact x_wr_fr _ _ _ ha
      rw [f1 (49 + 9 * f + 5) (by omega), f1 (49 + 9 * f + 6) (by omega), h4 (49 + 9 * f + 5) (by omega) (by omega) (by omega), h4 (49 + 9 * f + 6) (by omega) (by omega) (by omega), s.2.1, s.2.2, x_W_a1, x_W_a2]
      have eg : x_W (p_tr F (T k) 1 * p + p_tr F (T k) 2 * q) = p_gn F (T k) p q := x_W_id (x := p_gn F (T k) p q) (by omega) (by omega)
      rw [eg]
      intro M2 hM2
      have f2 : ∀ a, a ≠ 49 + 9 * f + 7 → a ≠ 49 + 9 * f + 8 → M2 a = M a := fun a ha hb => by rw [hM2, x_wr_fr _ _ _ hb]; exact f1 a ha
      have g7 : M2 (49 + 9 * f + 7) = M1 (49 + 9 * f + 7) := by rw [hM2]; exact x_wr_fr _ _ _ (by omega)
      have g8 : M1 (49 + 9 * f + 8) = M (49 + 9 * f + 8) := f1 _ (by omega)
      have h3' : ∀ j : Int, 0 ≤ j → j < (k + 1 : Nat) → M2 (49 + 9 * f + 7) j = p_net F (T j) p q ∧ M2 (49 + 9 * f + 8) j = p_gn F (T j) p q := by
        intro j j1 j2
        rw [g7]
        by_cases e : j = k
        · rw [e]
          refine ⟨?_, ?_⟩
          · rw [hM1, x_wr_eq]
          · rw [hM2, x_wr_eq]
        · refine ⟨?_, ?_⟩
          · rw [hM1, x_wr_ne _ _ (by omega)]; exact (h3 j j1 (by omega)).1
          · rw [hM2, x_wr_ne _ _ (by omega), g8]; exact (h3 j j1 (by omega)).2
      have fr : ∀ (M3 : xM) (v : Int), M3 = x_wr M2 (49 + 9 * f) 12 v → M3 (49 + 9 * f) 11 = q ∧ M3 (49 + 9 * f) 12 = v ∧ (∀ j : Int, 0 ≤ j → j < (k + 1 : Nat) → M3 (49 + 9 * f + 7) j = p_net F (T j) p q ∧ M3 (49 + 9 * f + 8) j = p_gn F (T j) p q) ∧ (∀ a, a ≠ 49 + 9 * f → a ≠ 49 + 9 * f + 7 → a ≠ 49 + 9 * f + 8 → M3 a = M0 a) ∧ (∀ k, k ≠ 11 → k ≠ 12 → M3 (49 + 9 * f) k = M0 (49 + 9 * f) k) := by
        intro M3 v hM3
        subst hM3
        refine ⟨?_, x_wr_eq .., ?_, ?_, ?_⟩
        · rw [x_wr_ne _ _ (by omega), f2 _ (by omega) (by omega)]; exact h1
        · intro j j1 j2
          rw [x_wr_fr _ _ _ (by omega), x_wr_fr _ _ _ (by omega)]; exact h3' j j1 j2
        · intro a a1 a2 a3
          rw [x_wr_fr _ _ _ a1, f2 a a2 a3]; exact h4 a a1 a2 a3
        · intro k k1 k2
          rw [x_wr_ne _ _ (by omega), f2 _ (by omega) (by omega)]; exact h5 k k1 k2
      have lt2 : (2 : Nat) ^ k ≤ 2 ^ 9 := Nat.pow_le_pow_right (by omega) (by omega)
      -- a new top
      have newtop : (∀ j : Int, 0 ≤ j → j < k → y j < y k) → ∀ zM8 : xM, zM8 = x_wr M2 (49 + 9 * f) 12 0 → ∀ zM9 : xM, zM9 = x_wr zM8 (49 + 9 * f) 12 (x_ior (zM8 (49 + 9 * f) 12) (x_ishl 1 k)) → ∀ zv10 : Int, zv10 = x_w ((k : Int) + 1) → x_Ev l E (3, 0, 0) m_X4_stand 27 [(14, 49 + 9 * f), (1, p), (5, 0), (1, q), (5, 0), (1, p_fe F p q), (5, 0), (0, (k : Int)), (0, zv10), (5, 0)] [] zM9 Q := by
        intro hlt M8 h8 M9 h9 v hv
        rw [x_w_id (by omega) (by omega)] at hv
        subst hv
        have e8 : M8 (49 + 9 * f) 12 = ((0 : Nat) : Int) := by rw [h8, x_wr_eq]; rfl
        rw [e8, x_or (by omega) (Nat.pow_pos (by omega))] at h9
        have h9' : M9 = x_wr M2 (49 + 9 * f) 12 ((0 + 2 ^ k : Nat) : Int) := by
          rw [h9, h8]
          funext a b
          by_cases e : a = 49 + 9 * f ∧ b = 12
          · rw [e.1, e.2, x_wr_eq, x_wr_eq]
          · rw [x_wr_ne _ _ e, x_wr_ne _ _ e, x_wr_ne _ _ e]
        obtain ⟨r1, r2, r3, r4, r5⟩ := fr M9 _ h9'
        refine ih (k + 1) k M9 (by omega) (by omega) (Or.inr ⟨by omega, by omega, fun j j1 j2 => ?_⟩) r1 ?_ r3 r4 r5
        · by_cases e : j = k
          · rw [e]; omega
          · have := hlt j j1 (by omega)
            omega
        · rw [r2]
          congr 1
          unfold x_set
          rw [x_set_no k (fun i hi => decide_eq_false (fun w => by
            have := w k (by omega)
            have := hlt i (by omega) (by omega)
            omega)), if_pos (decide_eq_true (fun i hi => by
            by_cases e : i = k
            · rw [e]; omega
            · have := hlt i (by omega) (by omega)
              omega))]
      refine ⟨fun hk0 => ?_, fun hk0 => newtop (fun j j1 j2 => by omega)⟩
      obtain ⟨t0, t1, t2⟩ := ht0.resolve_left (by omega)
      refine ⟨by omega, by omega, by omega, by omega, ?_⟩
      have et := heT top t0 (by omega)
      have bt := p_net_bd hF et hpq
      have m7k := (h3' k (by omega) (by omega)).1
      have m7t := (h3' top t0 (by omega)).1
      have b2k : M2 (49 + 9 * f + 2) k = T k 3 := by rw [f2 _ (by omega) (by omega), h4 _ (by omega) (by omega) (by omega)]; exact (ht.2 k (by omega) (by omega)).2.1
      have b2t : M2 (49 + 9 * f + 2) top = T top 3 := by rw [f2 _ (by omega) (by omega), h4 _ (by omega) (by omega) (by omega)]; exact (ht.2 top t0 (by omega)).2.1
      rw [m7k, m7t, b2k, b2t]
      have p1 := x_mb (a := p_net F (T k) p q) (b := T top 3) (A := 4000000000000) (B := 162) (by omega) (by have := et.2; omega)
      have p2 := x_mb (a := p_net F (T top) p q) (b := T k 3) (A := 4000000000000) (B := 162) (by omega) (by have := ek.2; omega)
      rw [x_W_id (by omega) (by omega), x_W_id (by omega) (by omega)]
      have c1 := hy k top (by omega) (by omega) t0 (by omega)
      have c2 := hy top k t0 (by omega) (by omega) (by omega)
      have hlt := x_set_lt (fun j => decide (∀ i : Nat, i < k → y i ≤ y j)) k
      have bit12 : M2 (49 + 9 * f) 12 = (x_set (fun j => decide (∀ i : Nat, i < k → y i ≤ y j)) k : Int) := by rw [f2 _ (by omega) (by omega)]; exact h2
      refine c_cmp _ _ (fun d => ⟨_, rfl, fun _ => ⟨fun _ => ?_, fun z => absurd (show (-1 : Int) < 0 by omega) z⟩, fun z => absurd (show (-1 : Int) ≤ 0 by omega) z⟩) (fun d => ⟨_, rfl, fun _ => ⟨fun z => absurd z (by omega), fun _ => ?_⟩, fun z => absurd (show (0 : Int) ≤ 0 by omega) z⟩) (fun d => ⟨_, rfl, fun z => absurd z (by omega), fun _ => newtop (fun j j1 j2 => by have := t2 j j1 j2; omega)⟩)
      · -- below the top
        intro v hv
        rw [x_w_id (by omega) (by omega)] at hv
        subst hv
        have hM2' : M2 = x_wr M2 (49 + 9 * f) 12 (M2 (49 + 9 * f) 12) := by
          funext a b
          by_cases e : a = 49 + 9 * f ∧ b = 12
          · rw [e.1, e.2, x_wr_eq]
          · rw [x_wr_ne _ _ e]
        obtain ⟨r1, r2, r3, r4, r5⟩ := fr M2 _ hM2'
        refine ih (k + 1) top M2 (by omega) (by omega) (Or.inr ⟨t0, by omega, fun j j1 j2 => ?_⟩) r1 ?_ r3 r4 r5
        · by_cases e : j = k
          · rw [e]; omega
          · exact t2 j j1 (by omega)
        · rw [bit12]
          congr 1
          show _ = x_set _ k + if _ then _ else _
          rw [if_neg (by
            intro w
            have := of_decide_eq_true w top.toNat (by omega)
            rw [show ((top.toNat : Nat) : Int) = top by omega] at this
            omega), Nat.add_zero]
          refine x_set_cg _ (fun j hj => decide_eq_decide.mpr ⟨fun w i hi => ?_, fun w i hi => w i (by omega)⟩)
          by_cases e : i = k
          · have := w top.toNat (by omega)
            rw [show ((top.toNat : Nat) : Int) = top by omega] at this
            rw [e]; omega
          · exact w i (by omega)
      · -- as good as the top
        intro M6 h6 v hv
        rw [x_w_id (by omega) (by omega)] at hv
        subst hv
        rw [bit12, x_or (by omega) hlt] at h6
        obtain ⟨r1, r2, r3, r4, r5⟩ := fr M6 _ h6
        refine ih (k + 1) top M6 (by omega) (by omega) (Or.inr ⟨t0, by omega, fun j j1 j2 => ?_⟩) r1 ?_ r3 r4 r5
        · by_cases e : j = k
          · rw [e]; omega
          · exact t2 j j1 (by omega)
        · rw [r2]
          congr 1
          show _ = x_set _ k + if _ then _ else _
          rw [if_pos (decide_eq_true (fun i hi => by
            by_cases e : i = k
            · rw [e]; omega
            · have := t2 i (by omega) (by omega)
              omega))]
          congr 1
          refine x_set_cg _ (fun j hj => decide_eq_decide.mpr ⟨fun w i hi => ?_, fun w i hi => w i (by omega)⟩)
          by_cases e : i = k
          · have := w top.toNat (by omega)
            rw [show ((top.toNat : Nat) : Int) = top by omega] at this
            rw [e]; omega
          · exact w i (by omega)
  refine u_X4_stand_0 (49 + 9 * f) p q ?_
  intro M1 hM1 M2 hM2
  rw [x_who]
  have f2 : ∀ a, a ≠ 49 + 9 * f → M2 a = M0 a := fun a ha => by rw [hM2, x_wr_fr _ _ _ ha, hM1, x_wr_fr _ _ _ ha]
  have xF2 : x_F M2 (9 + 4 * f) = F := by rw [← xF]; exact x_F_eq (fun a a1 a2 => f2 a (by omega))
  refine c_feels (9 + 4 * f) p q (by rw [xF2]; exact hF) hpq ⟨_, rfl, ?_⟩
  rw [xF2]
  refine main n 0 0 M2 (by omega) (by omega) (Or.inl rfl) ?_ ?_ (fun j a b => by omega) (fun a a1 _ _ => f2 a a1) (fun k k1 k2 => ?_)
  · rw [hM2, x_wr_ne _ _ (by omega), hM1, x_wr_eq]
  · rw [hM2, x_wr_eq]; rfl
  · rw [hM2, x_wr_ne _ _ (by omega), hM1, x_wr_ne _ _ (by omega)]
end AN
