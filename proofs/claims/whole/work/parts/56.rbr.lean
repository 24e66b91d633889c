/-! The reference's breaks -/
def p_rbmem (M : xM) (n : Nat) (P Q : Int → Int) : Prop := M 103 25 = n ∧ ∀ k : Int, 0 ≤ k → k < n → M 282 k = P k ∧ M 283 k = Q k
def p_bf (M M1 : xM) : Prop := ∀ a k, ¬ (a = 103 ∧ k = 25) → a ≠ 282 → a ≠ 283 → M1 a k = M a k
def p_cr (F : xM) (most : Int) (k l : Nat) (p q : Int) : Prop := 0 < p ∧ 0 < q ∧ p < most * q ∧ Int.gcd p q = 1 ∧ p_bst F (p_TT F) (p_n F) p q k = true ∧ p_bst F (p_TT F) (p_n F) p q l = true ∧ p_Z F k ≠ p_Z F l
theorem p_cr_e {F : xM} (hF : p_wf F) {most : Int} {k l : Nat} (hk : k < p_n F) (hl : l < p_n F) {p q x y : Int} (h : p_cr F most k l p q) (e : (p_U F k - p_U F l) * y = p_tw F * (p_Z F k - p_Z F l) * x) : p * y = x * q := by
  obtain ⟨h1, h2, h3, h4, h5, h6, h7⟩ := h
  rw [p_V_best hF hk] at h5
  rw [p_V_best hF hl] at h6
  have v1 := h5 l hl
  have v2 := h6 k hk
  have v3 := p_V_sub F p q k l
  have v4 : (p_U F k - p_U F l) * q = p_tw F * (p_Z F k - p_Z F l) * p := by
    have : p_tw F * p * (p_Z F k - p_Z F l) = p_tw F * (p_Z F k - p_Z F l) * p := by grind
    omega
  have ht := p_tw_pos F
  have hz : p_tw F * (p_Z F k - p_Z F l) ≠ 0 := fun w => by
    rcases Int.mul_eq_zero.mp w with a | a
    · omega
    · omega
  refine Int.eq_of_mul_eq_mul_left hz ?_
  have a1 : p_tw F * (p_Z F k - p_Z F l) * (p * y) = (p_tw F * (p_Z F k - p_Z F l) * p) * y := by grind
  have a2 : p_tw F * (p_Z F k - p_Z F l) * (x * q) = (p_tw F * (p_Z F k - p_Z F l) * x) * q := by grind
  rw [a1, a2, ← v4, ← e]; grind
section RB
variable {l : Launch} {E : xE} {Q' : Option xV → xM → Prop}
theorem c_isBreak {M1 : xM} {n : Nat} {P Q : Int → Int} {B : Int → Int → Prop} (hn : n < 199) (ht : p_btab n P Q B) (m1 : p_rbmem M1 n P Q) (hB : ∀ k : Int, 0 ≤ k → k < n → p_tm (P k) (Q k)) {x y : Int} (hx : 0 < x) (hxy : p_tm x y) (hcop : Int.gcd x y = 1)
    (h : ∀ (M2 : xM) (n1 : Nat) (P1 Q1 : Int → Int), p_btab n1 P1 Q1 (fun p q => B p q ∨ (p = x ∧ q = y)) → p_rbmem M2 n1 P1 Q1 → n1 ≤ n + 1 → p_bf M1 M2 → Q' none M2) : x_Ev l E (3, 0, 0) m_X11_isBreak 0 [(21, 103), (1, x), (5, 0), (1, y), (5, 0), (5, 0), (5, 0)] [] M1 Q' := by
  have hde : 0 < y := by have := hxy.2.2; omega
  have sh : ∀ (pl : Int), 0 ≤ pl → pl ≤ n → (∀ k : Int, 0 ≤ k → k < pl → P k * y < x * Q k) → (∀ k : Int, pl ≤ k → k < n → x * Q k < P k * y) → ∀ (j : Nat) (i : Int) (M : xM), i - pl ≤ j → pl ≤ i → i ≤ n → M 103 25 = n → (∀ k : Int, 0 ≤ k → k < i → M 282 k = P k ∧ M 283 k = Q k) → (∀ k : Int, i < k → k ≤ n → M 282 k = P (k - 1) ∧ M 283 k = Q (k - 1)) → p_bf M1 M → x_Ev l E (3, 0, 0) m_X11_isBreak 80 [(21, 103), (1, x), (5, 0), (1, y), (5, 0), (0, pl), (0, i)] [] M Q' := by
    intro pl hp1 hp2 lo hi
    have fin : ∀ (M : xM), M 103 25 = n → (∀ k : Int, 0 ≤ k → k < pl → M 282 k = P k ∧ M 283 k = Q k) → (∀ k : Int, pl < k → k ≤ n → M 282 k = P (k - 1) ∧ M 283 k = Q (k - 1)) → p_bf M1 M → ((0 : Int) ≤ pl ∧ pl < 200) ∧ ∀ zM1 : xM, zM1 = x_wr M 282 pl x → ((0 : Int) ≤ pl ∧ pl < 200) ∧ ∀ zM2 : xM, zM2 = x_wr zM1 283 pl y → ∀ zM3 : xM, zM3 = x_wr zM2 103 25 (x_w ((zM2 103 25) + 1)) → Q' none zM3 := by
      intro M g1 g4 g5 g6
      refine ⟨by omega, ?_⟩
      intro M2 hM2
      refine ⟨by omega, ?_⟩
      intro M3 hM3 M4 hM4
      have e43 : ∀ k, M4 282 k = if k = pl then x else M 282 k := by
        intro k
        rw [hM4, x_wr_ne _ _ (by omega), hM3, x_wr_ne _ _ (by omega), hM2]
        by_cases c : k = pl
        · rw [c, x_wr_eq, if_pos rfl]
        · rw [x_wr_ne _ _ (by omega), if_neg c]
      have e44 : ∀ k, M4 283 k = if k = pl then y else M 283 k := by
        intro k
        rw [hM4, x_wr_ne _ _ (by omega), hM3]
        by_cases c : k = pl
        · rw [c, x_wr_eq, if_pos rfl]
        · rw [x_wr_ne _ _ (by omega), if_neg c, hM2, x_wr_ne _ _ (by omega)]
      refine h M4 (n + 1) (p_ins P pl x) (p_ins Q pl y) (p_btab_ins ht hx hde hcop ⟨hp1, hp2⟩ lo hi) ⟨?_, fun k k1 k2 => ?_⟩ (by omega) (fun a' k a1 a2 a3 => ?_)
      · rw [hM4, x_wr_eq, hM3, x_wr_ne _ _ (by omega), hM2, x_wr_ne _ _ (by omega), g1, x_w_id (by omega) (by omega)]
        omega
      · rw [e43, e44]
        unfold p_ins
        by_cases c : k < pl
        · have kn : ¬ k = pl := by omega
          simp only [if_neg kn, if_pos c]; exact g4 k k1 c
        · by_cases d : k = pl
          · refine ⟨?_, ?_⟩ <;> simp only [if_pos d, if_neg c]
          · simp only [if_neg d, if_neg c]; exact g5 k (by omega) (by omega)
      · rw [hM4, x_wr_ne _ _ (by omega), hM3, x_wr_ne _ _ (by omega), hM2, x_wr_ne _ _ (by omega)]; exact g6 a' k a1 a2 a3
    intro j
    induction j with
    | zero =>
      intro i M hj hi1 hi2 g1 g4 g5 g6
      have ei : i = pl := by omega
      subst ei
      exact u_X11_isBreak_80 x y i i ⟨fun _ => fin M g1 g4 g5 g6, fun c => absurd (Int.le_refl _) c⟩
    | succ j ih =>
      intro i M hj hi1 hi2 g1 g4 g5 g6
      by_cases hip : i = pl
      · exact ih i M (by omega) hi1 hi2 g1 g4 g5 g6
      refine u_X11_isBreak_80 x y pl i ⟨fun c => by omega, fun c => ?_⟩
      rw [x_w_id (x := i - 1) (by omega) (by omega)]
      refine ⟨by omega, by omega, ?_⟩
      intro M2 hM2
      refine ⟨by omega, by omega, ?_⟩
      intro M3 hM3 v hv
      rw [x_w_id (by omega) (by omega)] at hv
      subst hv
      have q0 := g4 (i - 1) (by omega) (by omega)
      have e43 : ∀ k, M3 282 k = if k = i then P (i - 1) else M 282 k := by
        intro k
        rw [hM3, x_wr_ne _ _ (by omega), hM2]
        by_cases c : k = i
        · rw [c, x_wr_eq, if_pos rfl]; exact q0.1
        · rw [x_wr_ne _ _ (by omega), if_neg c]
      have e44 : ∀ k, M3 283 k = if k = i then Q (i - 1) else M 283 k := by
        intro k
        rw [hM3]
        by_cases c : k = i
        · rw [c, x_wr_eq, if_pos rfl, hM2, x_wr_ne _ _ (by omega)]; exact q0.2
        · rw [x_wr_ne _ _ (by omega), if_neg c, hM2, x_wr_ne _ _ (by omega)]
      refine ih (i + -1) M3 (by omega) (by omega) (by omega) ?_ (fun k k1 k2 => ?_) (fun k k1 k2 => ?_) (fun a' k a1 a2 a3 => ?_)
      · rw [hM3, x_wr_ne _ _ (by omega), hM2, x_wr_ne _ _ (by omega)]; exact g1
      · rw [e43, e44, if_neg (by omega), if_neg (by omega)]; exact g4 k k1 (by omega)
      · rw [e43, e44]
        by_cases c : k = i
        · rw [if_pos c, if_pos c, c]; exact ⟨rfl, rfl⟩
        · rw [if_neg c, if_neg c]; exact g5 k (by omega) k2
      · rw [hM3, x_wr_ne _ _ (by omega), hM2, x_wr_ne _ _ (by omega)]; exact g6 a' k a1 a2 a3
  have main : ∀ (j : Nat) (pl : Int), n - pl ≤ j → 0 ≤ pl → pl ≤ n → (∀ k : Int, 0 ≤ k → k < pl → P k * y < x * Q k) → x_Ev l E (3, 0, 0) m_X11_isBreak 3 [(21, 103), (1, x), (5, 0), (1, y), (5, 0), (0, pl), (5, 0)] [] M1 Q' := by
    have go : ∀ (pl : Int), 0 ≤ pl → pl ≤ n → (∀ k : Int, 0 ≤ k → k < pl → P k * y < x * Q k) → (∀ k : Int, pl ≤ k → k < n → x * Q k < P k * y) → ∀ zv1 : Int, zv1 = (M1 103 25) → x_Ev l E (3, 0, 0) m_X11_isBreak 80 [(21, 103), (1, x), (5, 0), (1, y), (5, 0), (0, pl), (0, zv1)] [] M1 Q' := by
      intro pl p1 p2 lo hi v hv
      rw [m1.1] at hv
      subst hv
      exact sh pl p1 p2 lo hi n n M1 (by omega) (by omega) (by omega) m1.1 m1.2 (fun k k1 k2 => by omega) (fun _ _ _ _ _ => rfl)
    intro j
    induction j with
    | zero =>
      intro pl hj p1 p2 lo
      have g := go pl p1 p2 lo (fun k k1 k2 => by omega)
      refine u_X11_isBreak_3 x y pl ⟨fun _ => ⟨fun _ => g, fun c => absurd (by rw [m1.1]; omega) c⟩, fun c => absurd (by rw [m1.1]; omega) c⟩
    | succ j ih =>
      intro pl hj p1 p2 lo
      by_cases hpn : pl = n
      · exact ih pl (by omega) p1 p2 lo
      have mk := m1.2 pl p1 (by omega)
      have tk := hB pl p1 (by omega)
      have fk := ht.1 pl p1 (by omega)
      refine u_X11_isBreak_3 x y pl ⟨fun c => by rw [m1.1] at c; omega, fun c => ⟨by omega, by omega, ?_⟩⟩
      rw [mk.1, mk.2]
      have cc := p_cmp_cases (P pl * y) (x * Q pl)
      refine c_compare (by have := tk.1; have := tk.2.1; omega) (by have := tk.2.2; omega) (by have := hxy.1; have := hxy.2.1; omega) (by have := hxy.2.2; omega) ⟨_, rfl, fun d => ?_, fun d => ?_⟩
      · have up : x * Q pl ≠ P pl * y → ∀ k : Int, pl ≤ k → k < n → x * Q k < P k * y := by
          intro hne k k1 k2
          by_cases e : k = pl
          · rw [e]; omega
          · have s := ht.2.2 pl k p1 (by omega) k2
            exact q_lt_tr hde fk.2.2.1 (ht.1 k (by omega) k2).2.2.1 (by omega) s
        have up2 : (P pl ≠ x ∨ Q pl ≠ y) → x * Q pl ≠ P pl * y := by
          intro hne heq
          have := q_red hde fk.2.2.1 hcop fk.2.2.2 heq
          omega
        rw [mk.1, mk.2]
        refine ⟨fun c2 => absurd c2 c, fun _ => ⟨by omega, fun e1 => go pl p1 p2 lo (up (up2 (Or.inl e1))), fun e1 => ⟨by omega, fun e2 => go pl p1 p2 lo (up (up2 (Or.inr e2))), fun e2 => ?_⟩⟩⟩
        exact h M1 n P Q (p_btab_old ht ⟨p1, by omega⟩ e1 e2) m1 (by omega) (fun _ _ _ _ _ => rfl)
      · intro v hv
        rw [x_w_id (by omega) (by omega)] at hv
        subst hv
        refine ih (pl + 1) (by omega) (by omega) (by omega) (fun k k1 k2 => ?_)
        by_cases e : k = pl
        · rw [e]; omega
        · exact lo k k1 (by omega)
  exact u_X11_isBreak_0 x y (main n 0 (by omega) (by omega) (by omega) (fun k k1 k2 => by omega))
theorem p_tm_of {most x y : Int} (hmost : 1 ≤ most ∧ most ≤ 40) (hx : 0 < x) (hy : 0 < y ∧ y ≤ 3149280) (hlt : x < most * y) : p_tm (p_nu x y) (p_de x y) ∧ 0 < p_nu x y ∧ 0 < p_de x y ∧ p_nu x y < most * p_de x y := by
  have g := p_g_pos (a := x) hy.1
  have gn := p_nu_mul x y
  have gd := p_de_mul x y
  have dp := p_de_pos (a := x) hy.1
  have dl := p_de_le (a := x) hy.1
  have np : 0 < p_nu x y := by
    refine q_mpos g ?_
    rw [Int.mul_comm, gn]; exact hx
  have nlt : p_nu x y < most * p_de x y := by
    have : p_nu x y * p_g x y < most * p_de x y * p_g x y := by
      rw [gn, Int.mul_assoc, gd]; exact hlt
    exact Int.lt_of_mul_lt_mul_right this (by omega)
  have nb := Int.mul_le_mul_of_nonneg_right hmost.2 (show 0 ≤ p_de x y by omega)
  exact ⟨⟨by omega, by omega, by omega, by omega⟩, np, dp, nlt⟩
theorem c_breaksBy (H10 : p_ten) (H1 : p_one) {f : Int} (hf : 0 ≤ f ∧ f < 3) {M : xM} {F : xM} (hF : p_wf F) (hS : p_RS M f F (p_n F) (p_TT F)) {most : Int} (hmost : 1 ≤ most ∧ most ≤ 40) (hm8 : M 103 8 = most) {k i : Nat} (hk : k < p_n F) (hi : i < p_n F) {n : Nat} {P Q : Int → Int} {B : Int → Int → Prop} (hn : n < 199) (ht : p_btab n P Q B) (hm : p_rbmem M n P Q) (hB : ∀ k : Int, 0 ≤ k → k < n → p_tm (P k) (Q k))
    (h : ∀ (M1 : xM) (n1 : Nat) (P1 Q1 : Int → Int), p_btab n1 P1 Q1 (fun p q => B p q ∨ p_cr F most k i p q) → p_rbmem M1 n1 P1 Q1 → (∀ k : Int, 0 ≤ k → k < n1 → p_tm (P1 k) (Q1 k)) → n1 ≤ n + 1 → p_bf M M1 → Q' none M1) : x_Ev l E (4, 0, 0) m_X11_breaksBy 0 [(21, 103), (0, f), (0, (k : Int)), (0, (i : Int)), (5, 0), (5, 0), (5, 0), (5, 0), (5, 0), (5, 0), (5, 0), (5, 0), (5, 0), (5, 0), (5, 0), (5, 0), (5, 0)] [] M Q' := by
  have n10 := p_n10 H10 hF
  have hS' := hS
  obtain ⟨hR, htab, -, -, heT⟩ := hS'
  have kI : (0 : Int) ≤ k ∧ (k : Int) < p_n F := by omega
  have iI : (0 : Int) ≤ i ∧ (i : Int) < p_n F := by omega
  have ek := heT k kI.1 kI.2
  have ei := heT i iI.1 iI.2
  have rk := htab.2 k kI.1 kI.2
  have ri := htab.2 i iI.1 iI.2
  obtain ⟨bt, bw⟩ := p_wl_bd hF kI iI
  have t01 : p_tm 0 1 := ⟨by omega, by omega, by omega, by omega⟩
  have hfe := p_fe_bd hF t01
  have hex : 0 ≤ p_ex F ∧ p_ex F ≤ 9 := hfe.2.2.2.2
  have htw : 1 ≤ p_tw F ∧ p_tw F ≤ 2 := by omega
  have mx := x_mb (a := p_ex F) (b := p_tl F k i) (A := 9) (B := 1574640) (by omega) (by omega)
  have mt := x_mb (a := p_tw F) (b := p_tl F k i) (A := 2) (B := 1574640) (by omega) (by omega)
  have hbits : ∀ {p q : Int} {j : Nat}, j < p_n F → (x_iand (x_ishr (x_set (p_bst F (p_TT F) (p_n F) p q) (p_n F) : Int) j) 1 = 1 ↔ p_bst F (p_TT F) (p_n F) p q j = true) := by
    intro p q j hj
    have slt := x_set_lt (p_bst F (p_TT F) (p_n F) p q) (p_n F)
    have s10 : 2 ^ p_n F ≤ 2 ^ 10 := Nat.pow_le_pow_right (by omega) n10
    rw [x_bit (by omega) (by omega), x_set_bit _ _ _ hj]
    cases p_bst F (p_TT F) (p_n F) p q j <;> simp
  have skip : (∀ p q, ¬ p_cr F most k i p q) → Q' none M := fun hno => h M n P Q (p_btab_cg ht (fun p q => ⟨fun w => Or.inl w, fun w => w.resolve_right (hno p q)⟩)) hm hB (by omega) (fun _ _ _ _ _ => rfl)
  have tail : p_Z F k ≠ p_Z F i → ∀ x y : Int, 0 < y → y ≤ 3149280 → -50000000 ≤ x → x ≤ 50000000 → (p_U F k - p_U F i) * y = p_tw F * (p_Z F k - p_Z F i) * x → (x ≤ 0 → Q' none M) ∧ (¬ x ≤ 0 → (x < (x_W ((M 103 8) * y)) → x_Ev l E (1, 0, 0) m_X11_divisor 0 [(1, x), (5, 0), (1, y), (5, 0), (5, 0), (5, 0), (5, 0), (5, 0), (5, 0), (5, 0)] [] M (fun r zM24 => ∃ zr25, r = some (1, zr25) ∧ (zr25 ≠ 0) ∧ (zr25 ≠ 0) ∧ x_Ev l E (3, 0, 0) m_X11_bestPlans 0 [(21, 103), (0, f), (1, (x_W (x.tdiv zr25))), (5, 0), (1, (x_W (y.tdiv zr25))), (5, 0), (5, 0), (5, 0), (5, 0), (5, 0), (5, 0)] [] zM24 (fun r zM26 => ∃ zr27, r = some (0, zr27) ∧ (¬ (x_iand (x_ishr zr27 k) 1) = 1 → Q' none zM26) ∧ ((x_iand (x_ishr zr27 k) 1) = 1 → (¬ (x_iand (x_ishr zr27 i) 1) = 1 → Q' none zM26) ∧ ((x_iand (x_ishr zr27 i) 1) = 1 → (zr25 ≠ 0) ∧ (zr25 ≠ 0) ∧ x_Ev l E (3, 0, 0) m_X11_isBreak 0 [(21, 103), (1, (x_W (x.tdiv zr25))), (5, 0), (1, (x_W (y.tdiv zr25))), (5, 0), (5, 0), (5, 0)] [] zM26 (fun r zM28 => r = none ∧ Q' none zM28)))))) ∧ (¬ x < (x_W ((M 103 8) * y)) → Q' none M)) := by
    intro hz x y hy hy2 hx1 hx2 e
    have mm := x_mb (a := most) (b := y) (A := 40) (B := 3149280) (by omega) (by omega)
    rw [hm8, x_W_id (x := most * y) (by omega) (by omega)]
    refine ⟨fun w => skip (fun p q hc => ?_), fun w => ⟨fun w2 => ?_, fun w2 => skip (fun p q hc => ?_)⟩⟩
    · have e2 := p_cr_e hF hk hi hc e
      have a1 := Int.mul_pos hc.1 hy
      have a2 := Int.mul_le_mul_of_nonneg_right w (show 0 ≤ q by have := hc.2.1; omega)
      omega
    · have hg := p_g_pos (a := x) hy
      obtain ⟨tm, np, dp, nlt⟩ := p_tm_of hmost (by omega) ⟨hy, hy2⟩ w2
      have cop := p_nd_cop (a := x) hy
      have t1 : x.tdiv (p_g x y) = p_nu x y := x_tdiv_ex (p_nu_mul x y) hg
      have t2 : y.tdiv (p_g x y) = p_de x y := x_tdiv_ex (p_de_mul x y) hg
      have tmb := tm
      obtain ⟨c1, c2, c3, c4⟩ := tmb
      refine c_Rgcd (by omega) (by omega) ⟨_, rfl, by omega, by omega, ?_⟩
      rw [t1, t2, x_W_id (x := p_nu x y) (by omega) (by omega), x_W_id (x := p_de x y) (by omega) (by omega)]
      have hiff : ∀ p q, p_cr F most k i p q → p = p_nu x y ∧ q = p_de x y := by
        intro p q hc
        have e2 := p_cr_e hF hk hi hc e
        refine q_red hc.2.1 dp hc.2.2.2.1 cop ?_
        have g1 := p_nu_mul x y
        have g2 := p_de_mul x y
        refine Int.eq_of_mul_eq_mul_right (a := p_g x y) (by omega) ?_
        have b1 : p * p_de x y * p_g x y = p * (p_de x y * p_g x y) := by grind
        have b2 : p_nu x y * q * p_g x y = p_nu x y * p_g x y * q := by grind
        rw [b1, b2, g1, g2]; exact e2
      refine c_bestPlans hf hF hS tm ⟨_, rfl, fun d => skip (fun p q hc => ?_), fun d => ⟨fun d2 => skip (fun p q hc => ?_), fun d2 => ⟨by omega, by omega, ?_⟩⟩⟩
      · obtain ⟨a1, a2⟩ := hiff p q hc
        subst a1 a2
        exact d ((hbits hk).mpr hc.2.2.2.2.1)
      · obtain ⟨a1, a2⟩ := hiff p q hc
        subst a1 a2
        exact d2 ((hbits hi).mpr hc.2.2.2.2.2.1)
      · have bk := (hbits hk).mp d
        have bi := (hbits hi).mp d2
        refine c_isBreak hn ht hm hB np tm cop (fun M2 n1 P1 Q1 r1 r2 r3 r4 => ⟨rfl, h M2 n1 P1 Q1 (p_btab_cg r1 (fun p q => ⟨fun w => ?_, fun w => ?_⟩)) r2 (fun k' k1 k2 => ?_) r3 r4⟩)
        · rcases w with w | ⟨a1, a2⟩
          · exact Or.inl w
          · subst a1 a2
            exact Or.inr ⟨np, dp, nlt, cop, bk, bi, hz⟩
        · rcases w with w | w
          · exact Or.inl w
          · exact Or.inr (hiff p q w)
        · rcases (r1.1 k' k1 k2).1 with w | ⟨a1, a2⟩
          · obtain ⟨k'', a1, a2, a3, a4⟩ := ht.2.1 _ _ w
            have := hB k'' a1 a2
            rw [a3, a4] at this
            exact this
          · rw [a1, a2]; exact tm
    · have e2 := p_cr_e hF hk hi hc e
      have a1 := Int.mul_lt_mul_of_pos_right hc.2.2.1 hy
      have a2 := Int.mul_le_mul_of_nonneg_right (show most * y ≤ x by omega) (show 0 ≤ q by have := hc.2.1; omega)
      have a3 : most * q * y = most * y * q := by grind
      omega
  have wk := p_tr_bd hF ek (w := 0) (by omega)
  have wi := p_tr_bd hF ei (w := 0) (by omega)
  refine u_X11_breaksBy_0 f k i (c_Rtimes hf hF hR (by omega) (by omega) ek rk ⟨_, rfl, by omega, by omega, c_Rtimes hf hF hR (by omega) (by omega) ei ri ⟨_, rfl, by omega, by omega, ?_⟩⟩)
  rw [show 274 + 1 + 1 * f = 275 + f by omega, rk.2.1, ri.2.1, x_W_s1, x_W_s2]
  have e5 : x_W (p_tr F (p_TT F k) 1 * p_TT F i 3 - p_tr F (p_TT F i) 1 * p_TT F k 3) = p_tl F k i := x_W_id (x := p_tl F k i) (by omega) (by omega)
  rw [e5]
  intro v5 hv5
  have hzero : v5 = 0 ↔ p_Z F k = p_Z F i := by
    have a1 := p_tl_pos hF kI iI
    have a2 := p_tl_pos hF iI kI
    have a3 : p_tl F i k = - p_tl F k i := by unfold p_tl; omega
    omega
  refine ⟨fun nz => ?_, fun z => skip (fun p q hc => hc.2.2.2.2.2.2 (hzero.mp z))⟩
  have hz : p_Z F k ≠ p_Z F i := fun w => nz (hzero.mpr w)
  refine c_Rtimes hf hF hR (by omega) (by omega) ek rk ⟨_, rfl, c_Rmore hf hR.1 hR.2.1 ⟨_, rfl, c_Rtimes hf hF hR (by omega) (by omega) ek rk ⟨_, rfl, ?_⟩⟩⟩
  intro v12 hv12
  refine c_Rtimes hf hF hR (by omega) (by omega) ei ri ⟨_, rfl, c_Rmore hf hR.1 hR.2.1 ⟨_, rfl, c_Rtimes hf hF hR (by omega) (by omega) ei ri ⟨_, rfl, ?_⟩⟩⟩
  intro v19 hv19
  refine ⟨by omega, by omega, by omega, by omega, ?_⟩
  rw [rk.2.1, ri.2.1]
  intro v20 hv20
  have ev20 : v20 = p_wl F k i - p_ex F * p_tl F k i := by
    rw [hv20, hv12, hv19, x_W_s1, x_W_s2]
    rw [← x_W_s1, ← x_W_s2, x_W_m1, x_W_m1, x_W_s1, x_W_s2]
    have : (p_tr F (p_TT F k) 0 - x_W (p_ex F * p_tr F (p_TT F k) 1)) * p_TT F i 3 - (p_tr F (p_TT F i) 0 - x_W (p_ex F * p_tr F (p_TT F i) 1)) * p_TT F k 3 = (p_tr F (p_TT F k) 0 - x_W (p_ex F * p_tr F (p_TT F k) 1)) * p_TT F i 3 - (p_tr F (p_TT F i) 0 - x_W (p_ex F * p_tr F (p_TT F i) 1)) * p_TT F k 3 := rfl
    have tk1 := p_tr1_bd hF ek
    have ti1 := p_tr1_bd hF ei
    have q1 := x_mb (a := p_ex F) (b := p_tr F (p_TT F k) 1) (A := 9) (B := 9720) (by omega) (by omega)
    have q2 := x_mb (a := p_ex F) (b := p_tr F (p_TT F i) 1) (A := 9) (B := 9720) (by omega) (by omega)
    rw [x_W_id (x := p_ex F * p_tr F (p_TT F k) 1) (by omega) (by omega), x_W_id (x := p_ex F * p_tr F (p_TT F i) 1) (by omega) (by omega)]
    have e7 : (p_tr F (p_TT F k) 0 - p_ex F * p_tr F (p_TT F k) 1) * p_TT F i 3 - (p_tr F (p_TT F i) 0 - p_ex F * p_tr F (p_TT F i) 1) * p_TT F k 3 = p_wl F k i - p_ex F * p_tl F k i := by unfold p_wl p_tl; grind
    rw [e7]
    exact x_W_id (by omega) (by omega)
  refine c_Rtwice hf hR.1 ⟨_, rfl, ?_⟩
  rw [hv5, x_W_id (x := p_tw F * p_tl F k i) (by omega) (by omega)]
  intro v23 hv23
  have tlz : p_tl F k i ≠ 0 := by omega
  have v23z : v23 ≠ 0 := by
    rw [hv23]
    intro w
    rcases Int.mul_eq_zero.mp w with a | a
    · omega
    · omega
  refine ⟨fun w => ?_, fun w => ?_⟩
  · refine tail hz v20 v23 (by omega) (by omega) (by omega) (by omega) (p_turn_e hF kI iI (by rw [ev20, hv23]; grind))
  · intro v29 hv29 v30 hv30
    rw [x_W_id (by omega) (by omega)] at hv29 hv30
    refine tail hz v29 v30 (by omega) (by omega) (by omega) (by omega) (p_turn_e hF kI iI (by rw [hv29, hv30, ev20, hv23]; grind))
end RB
