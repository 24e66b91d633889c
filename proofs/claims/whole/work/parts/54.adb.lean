/-! The class's walk along the turns -/
noncomputable def p_tl (F : xM) (i j : Int) : Int := p_tr F (p_TT F i) 1 * p_TT F j 3 - p_tr F (p_TT F j) 1 * p_TT F i 3
noncomputable def p_wl (F : xM) (i j : Int) : Int := p_tr F (p_TT F i) 0 * p_TT F j 3 - p_tr F (p_TT F j) 0 * p_TT F i 3
theorem x_sm_nn {h : Int → Int} (n : Nat) (e : ∀ i : Int, 0 ≤ i → i < n → 0 ≤ h i) : 0 ≤ x_sm h n := by
  induction n with
  | zero => exact Int.le_refl _
  | succ n ih =>
    unfold x_sm
    have h1 := ih (fun i a b => e i a (by omega))
    have h2 := e n (by omega) (by omega)
    omega
theorem p_toll_nn {F : xM} (hF : p_wf F) {k : Int} (hk : 0 ≤ k ∧ k < p_n F) : 0 ≤ p_tr F (p_TT F k) 1 := by
  obtain ⟨s', q1, q2, q3⟩ := (p_T_inv hF _ (Nat.le_refl _)).1 k hk.1 hk.2
  have hg := hF.2.2.1
  unfold p_tr p_TT
  rw [q3]
  refine x_sm_nn _ (fun g g1 g2 => ?_)
  have h1 := q2.2.2.1 g g1 (by omega)
  have h2 := (hF.2.2.2.2.1 g g1 (by omega)).2.1.1
  show 0 ≤ p_en F s' g * F 1 (3 * 1 + g)
  rw [p_en_lo F s' g (by omega), show 3 * 1 + g = 3 + g by omega]
  exact Int.mul_nonneg h1 h2
theorem p_wl_bd {F : xM} (hF : p_wf F) {i j : Int} (hi : 0 ≤ i ∧ i < p_n F) (hj : 0 ≤ j ∧ j < p_n F) : (-1574640 ≤ p_tl F i j ∧ p_tl F i j ≤ 1574640) ∧ (-20995200 ≤ p_wl F i j ∧ p_wl F i j ≤ 20995200) := by
  have ei := p_T_eb hF i hi.1 hi.2
  have ej := p_T_eb hF j hj.1 hj.2
  have ti := p_tr1_bd hF ei
  have tj := p_tr1_bd hF ej
  have wi := p_tr_bd hF ei (w := 0) (by omega)
  have wj := p_tr_bd hF ej (w := 0) (by omega)
  have ni := p_toll_nn hF hi
  have nj := p_toll_nn hF hj
  have bi := ei.2
  have bj := ej.2
  have m1 := x_mb (a := p_tr F (p_TT F i) 1) (b := p_TT F j 3) (A := 9720) (B := 162) (by omega) (by omega)
  have m2 := x_mb (a := p_tr F (p_TT F j) 1) (b := p_TT F i 3) (A := 9720) (B := 162) (by omega) (by omega)
  have m3 := x_mb (a := p_tr F (p_TT F i) 0) (b := p_TT F j 3) (A := 64800) (B := 162) (by omega) (by omega)
  have m4 := x_mb (a := p_tr F (p_TT F j) 0) (b := p_TT F i 3) (A := 64800) (B := 162) (by omega) (by omega)
  have n1 := Int.mul_nonneg ni (show 0 ≤ p_TT F j 3 by omega)
  have n2 := Int.mul_nonneg nj (show 0 ≤ p_TT F i 3 by omega)
  unfold p_tl p_wl
  omega
theorem p_tl_Z {F : xM} (hF : p_wf F) {i j : Int} (hi : 0 ≤ i ∧ i < p_n F) (hj : 0 ≤ j ∧ j < p_n F) : p_tl F i j * ((p_Lm F).2 i * (p_Lm F).2 j) = (p_Lm F).1 * (p_Z F i - p_Z F j) := p_sc_sub hF hi hj _ _
theorem p_ul_U {F : xM} (hF : p_wf F) {i j : Int} (hi : 0 ≤ i ∧ i < p_n F) (hj : 0 ≤ j ∧ j < p_n F) : (p_wl F i j - p_ex F * p_tl F i j) * ((p_Lm F).2 i * (p_Lm F).2 j) = (p_Lm F).1 * (p_U F i - p_U F j) := by
  have := p_sc_sub hF hi hj (p_u F (p_TT F i)) (p_u F (p_TT F j))
  unfold p_U
  rw [← this]
  unfold p_wl p_tl p_u
  grind
theorem p_sgn {x y c d X Y : Int} (hc : 0 < c) (hd : 0 < d) (hx : x * c = d * X) (hy : y * c = d * Y) : (x < y ↔ X < Y) ∧ (x = y ↔ X = Y) := by
  refine ⟨⟨fun h => ?_, fun h => ?_⟩, ⟨fun h => ?_, fun h => ?_⟩⟩
  · have := Int.mul_lt_mul_of_pos_right h hc
    rw [hx, hy] at this
    exact Int.lt_of_mul_lt_mul_left this (by omega)
  · have := Int.mul_lt_mul_of_pos_left h hd
    rw [← hx, ← hy] at this
    exact Int.lt_of_mul_lt_mul_right this (by omega)
  · rw [h, hy] at hx
    exact Int.eq_of_mul_eq_mul_left (by omega) hx.symm
  · rw [h, ← hy] at hx
    exact Int.eq_of_mul_eq_mul_right (by omega) hx
theorem p_tl_pos {F : xM} (hF : p_wf F) {i j : Int} (hi : 0 ≤ i ∧ i < p_n F) (hj : 0 ≤ j ∧ j < p_n F) : 0 < p_tl F i j ↔ p_Z F j < p_Z F i := by
  have := p_Z_lt hF hj hi
  unfold p_tl
  omega
/-- which of two turns comes first -/
theorem p_ahead {F : xM} (hF : p_wf F) {c k o : Int} (hc : 0 ≤ c ∧ c < p_n F) (hk : 0 ≤ k ∧ k < p_n F) (ho : 0 ≤ o ∧ o < p_n F) : (p_wl F c k * p_tl F c o < p_wl F c o * p_tl F c k ↔ (p_U F c - p_U F k) * (p_Z F c - p_Z F o) < (p_U F c - p_U F o) * (p_Z F c - p_Z F k)) ∧ (p_wl F c k * p_tl F c o = p_wl F c o * p_tl F c k ↔ (p_U F c - p_U F k) * (p_Z F c - p_Z F o) = (p_U F c - p_U F o) * (p_Z F c - p_Z F k)) := by
  obtain ⟨hL, hm⟩ := p_Lm_ok hF
  have mc := (hm c hc.1 hc.2).1
  have mk := (hm k hk.1 hk.2).1
  have mo := (hm o ho.1 ho.2).1
  have a1 := p_ul_U hF hc hk
  have a2 := p_ul_U hF hc ho
  have b1 := p_tl_Z hF hc hk
  have b2 := p_tl_Z hF hc ho
  have hcc : 0 < (p_Lm F).2 c * (p_Lm F).2 k * ((p_Lm F).2 c * (p_Lm F).2 o) := Int.mul_pos (Int.mul_pos mc mk) (Int.mul_pos mc mo)
  have hLL : 0 < (p_Lm F).1 * (p_Lm F).1 := Int.mul_pos hL hL
  have s := p_sgn (x := (p_wl F c k - p_ex F * p_tl F c k) * p_tl F c o) (y := (p_wl F c o - p_ex F * p_tl F c o) * p_tl F c k) (X := (p_U F c - p_U F k) * (p_Z F c - p_Z F o)) (Y := (p_U F c - p_U F o) * (p_Z F c - p_Z F k)) hcc hLL (by
    have : (p_wl F c k - p_ex F * p_tl F c k) * p_tl F c o * ((p_Lm F).2 c * (p_Lm F).2 k * ((p_Lm F).2 c * (p_Lm F).2 o)) = ((p_wl F c k - p_ex F * p_tl F c k) * ((p_Lm F).2 c * (p_Lm F).2 k)) * (p_tl F c o * ((p_Lm F).2 c * (p_Lm F).2 o)) := by grind
    rw [this, a1, b2]; grind) (by
    have : (p_wl F c o - p_ex F * p_tl F c o) * p_tl F c k * ((p_Lm F).2 c * (p_Lm F).2 k * ((p_Lm F).2 c * (p_Lm F).2 o)) = ((p_wl F c o - p_ex F * p_tl F c o) * ((p_Lm F).2 c * (p_Lm F).2 o)) * (p_tl F c k * ((p_Lm F).2 c * (p_Lm F).2 k)) := by grind
    rw [this, a2, b1]; grind)
  have e : (p_wl F c k - p_ex F * p_tl F c k) * p_tl F c o - (p_wl F c o - p_ex F * p_tl F c o) * p_tl F c k = p_wl F c k * p_tl F c o - p_wl F c o * p_tl F c k := by grind
  constructor
  · rw [← s.1]; omega
  · rw [← s.2]; omega
/-- how many plans have less toll -/
noncomputable def p_ct (F : xM) (c : Int) : Nat → Nat
  | 0 => 0
  | n + 1 => p_ct F c n + p_if (p_Z F n < p_Z F c) 1 0
theorem p_ct_le (F : xM) {c s : Int} (h : p_Z F s ≤ p_Z F c) (n : Nat) : p_ct F s n ≤ p_ct F c n := by
  induction n with
  | zero => exact Nat.le_refl _
  | succ n ih =>
    unfold p_ct
    by_cases w : p_Z F n < p_Z F s
    · rw [p_if_t w, p_if_t (by omega)]; omega
    · rw [p_if_f w]; omega
theorem p_ct_lt (F : xM) {c : Int} {s : Nat} (h : p_Z F s < p_Z F c) (n : Nat) (hs : s < n) : p_ct F s n < p_ct F c n := by
  induction n with
  | zero => omega
  | succ n ih =>
    unfold p_ct
    by_cases e : s = n
    · rw [← e, p_if_t h, p_if_f (by omega)]
      have := p_ct_le F (Int.le_of_lt h) s
      omega
    · have := ih (by omega)
      by_cases w : p_Z F n < p_Z F s
      · rw [p_if_t w, p_if_t (by omega)]; omega
      · rw [p_if_f w]; omega
theorem p_ct_n (F : xM) (c : Nat) (n : Nat) (hc : c < n) : p_ct F c n < n := by
  have hh : ∀ n, p_ct F c n ≤ n := by
    intro n
    induction n with
    | zero => exact Nat.le_refl _
    | succ n ih =>
      unfold p_ct
      by_cases w : p_Z F n < p_Z F c
      · rw [p_if_t w]; omega
      · rw [p_if_f w]; omega
  induction n with
  | zero => omega
  | succ n ih =>
    unfold p_ct
    by_cases e : c = n
    · rw [e, p_if_f (by omega)]
      have := hh n
      rw [e] at this
      omega
    · have := ih (by omega)
      by_cases w : p_Z F n < p_Z F c
      · rw [p_if_t w]; omega
      · rw [p_if_f w]; omega
section AB
variable {l : Launch} {E : xE} {Q' : Option xV → xM → Prop}
theorem c_tollLess {f i j : Int} {M : xM} {F : xM} (hF : p_wf F) (hi : 0 ≤ i ∧ i < p_n F) (hj : 0 ≤ j ∧ j < p_n F) (hn : p_n F ≤ 10) (ht : p_tab M (49 + 9 * f) (p_n F) (p_TT F)) (hs : p_sums M (49 + 9 * f) (p_n F) F (p_TT F)) (h : Q' (some (1, p_tl F i j)) M) : x_Ev l E (1, 0, 0) m_X4_tollLess 0 [(14, 49 + 9 * f), (0, i), (0, j)] [] M Q' := by
  have b := (p_wl_bd hF hi hj).1
  refine u_X4_tollLess_0 (49 + 9 * f) i j ⟨by omega, by omega, by omega, by omega, ?_⟩
  rw [(hs i hi.1 hi.2).2.1, (hs j hj.1 hj.2).2.1, (ht.2 i hi.1 hi.2).2.1, (ht.2 j hj.1 hj.2).2.1, x_W_s1, x_W_s2]
  have e : x_W (p_tr F (p_TT F i) 1 * p_TT F j 3 - p_tr F (p_TT F j) 1 * p_TT F i 3) = p_tl F i j := x_W_id (x := p_tl F i j) (by omega) (by omega)
  rw [e]; exact h
theorem c_worthLess {f i j : Int} {M : xM} {F : xM} (hF : p_wf F) (hi : 0 ≤ i ∧ i < p_n F) (hj : 0 ≤ j ∧ j < p_n F) (hn : p_n F ≤ 10) (ht : p_tab M (49 + 9 * f) (p_n F) (p_TT F)) (hs : p_sums M (49 + 9 * f) (p_n F) F (p_TT F)) (h : Q' (some (1, p_wl F i j)) M) : x_Ev l E (1, 0, 0) m_X4_worthLess 0 [(14, 49 + 9 * f), (0, i), (0, j)] [] M Q' := by
  have b := (p_wl_bd hF hi hj).2
  refine u_X4_worthLess_0 (49 + 9 * f) i j ⟨by omega, by omega, by omega, by omega, ?_⟩
  rw [(hs i hi.1 hi.2).1, (hs j hj.1 hj.2).1, (ht.2 i hi.1 hi.2).2.1, (ht.2 j hj.1 hj.2).2.1, x_W_s1, x_W_s2]
  have e : x_W (p_tr F (p_TT F i) 0 * p_TT F j 3 - p_tr F (p_TT F j) 0 * p_TT F i 3) = p_wl F i j := x_W_id (x := p_wl F i j) (by omega) (by omega)
  rw [e]; exact h
theorem c_turnsAhead {f c k o : Int} {M : xM} {F : xM} (hF : p_wf F) (hc : 0 ≤ c ∧ c < p_n F) (hk : 0 ≤ k ∧ k < p_n F) (ho : 0 ≤ o ∧ o < p_n F) (hn : p_n F ≤ 10) (ht : p_tab M (49 + 9 * f) (p_n F) (p_TT F)) (hs : p_sums M (49 + 9 * f) (p_n F) F (p_TT F)) (h1 : ((p_U F c - p_U F k) * (p_Z F c - p_Z F o) < (p_U F c - p_U F o) * (p_Z F c - p_Z F k) ∨ ((p_U F c - p_U F k) * (p_Z F c - p_Z F o) = (p_U F c - p_U F o) * (p_Z F c - p_Z F k) ∧ p_Z F k < p_Z F o)) → Q' (some (0, 1)) M) (h0 : ¬ ((p_U F c - p_U F k) * (p_Z F c - p_Z F o) < (p_U F c - p_U F o) * (p_Z F c - p_Z F k) ∨ ((p_U F c - p_U F k) * (p_Z F c - p_Z F o) = (p_U F c - p_U F o) * (p_Z F c - p_Z F k) ∧ p_Z F k < p_Z F o)) → Q' (some (0, 0)) M) : x_Ev l E (2, 0, 0) m_X4_turnsAhead 0 [(14, 49 + 9 * f), (0, c), (0, k), (0, o), (5, 0), (5, 0), (5, 0), (5, 0)] [] M Q' := by
  obtain ⟨s1, s2⟩ := p_ahead hF hc hk ho
  rw [← s1, ← s2, ← p_tl_pos hF ho hk] at h1 h0
  have b1 := p_wl_bd hF hc hk
  have b2 := p_wl_bd hF hc ho
  have m1 := x_mb (a := p_wl F c k) (b := p_tl F c o) (A := 20995200) (B := 1574640) (by omega) (by omega)
  have m2 := x_mb (a := p_wl F c o) (b := p_tl F c k) (A := 20995200) (B := 1574640) (by omega) (by omega)
  refine u_X4_turnsAhead_0 (49 + 9 * f) c k o (c_worthLess hF hc hk hn ht hs ⟨_, rfl, c_tollLess hF hc ho hn ht hs ⟨_, rfl, ?_⟩⟩)
  rw [x_W_id (by omega) (by omega)]
  intro v hv
  refine c_worthLess hF hc ho hn ht hs ⟨_, rfl, c_tollLess hF hc hk hn ht hs ⟨_, rfl, ?_⟩⟩
  rw [x_W_id (by omega) (by omega)]
  intro v2 hv2
  subst hv hv2
  refine ⟨fun d => c_tollLess hF ho hk hn ht hs ⟨_, rfl, fun e => h0 (by omega), fun e => h1 (by omega)⟩, fun d => ⟨fun e => h0 (by omega), fun e => h1 (by omega)⟩⟩
theorem c_nextTurn {f : Int} {c : Nat} {M : xM} {F : xM} (hF : p_wf F) (hc : c < p_n F) (hn : p_n F ≤ 10) (ht : p_tab M (49 + 9 * f) (p_n F) (p_TT F)) (hs : p_sums M (49 + 9 * f) (p_n F) F (p_TT F)) (h1 : ∀ s : Nat, p_nx F c s → Q' (some (0, (s : Int))) M) (h0 : (∀ j : Nat, j < p_n F → p_Z F c ≤ p_Z F j) → Q' (some (0, -1)) M) : x_Ev l E (3, 0, 0) m_X4_nextTurn 0 [(14, 49 + 9 * f), (0, (c : Int)), (5, 0), (5, 0)] [] M Q' := by
  obtain ⟨y, hy⟩ := p_emb (fun j => p_U F c - p_U F j) (fun j => if p_Z F j < p_Z F c then p_Z F c - p_Z F j else 1) (p_n F) (fun k a b => by split <;> omega)
  have hyy : ∀ i j : Int, 0 ≤ i → i < p_n F → 0 ≤ j → j < p_n F → p_Z F i < p_Z F c → p_Z F j < p_Z F c → ((p_U F c - p_U F i) * (p_Z F c - p_Z F j) < (p_U F c - p_U F j) * (p_Z F c - p_Z F i) ↔ y i < y j) := by
    intro i j a1 a2 a3 a4 z1 z2
    have := hy i j a1 a2 a3 a4
    rw [if_pos z1, if_pos z2] at this
    exact this
  have main : ∀ (m k : Nat) (s : Int), p_n F - k ≤ m → k ≤ p_n F → ((s = -1 ∧ ∀ j : Nat, j < k → p_Z F c ≤ p_Z F j) ∨ (0 ≤ s ∧ s < k ∧ p_Z F s < p_Z F c ∧ ∀ j : Nat, j < k → p_Z F j < p_Z F c → y s ≤ y j ∧ (y s = y j → p_Z F s ≤ p_Z F j))) → x_Ev l E (3, 0, 0) m_X4_nextTurn 4 [(14, 49 + 9 * f), (0, (c : Int)), (0, s), (0, (k : Int))] [] M Q' := by
    have fin : ∀ s : Int, ((s = -1 ∧ ∀ j : Nat, j < p_n F → p_Z F c ≤ p_Z F j) ∨ (0 ≤ s ∧ s < p_n F ∧ p_Z F s < p_Z F c ∧ ∀ j : Nat, j < p_n F → p_Z F j < p_Z F c → y s ≤ y j ∧ (y s = y j → p_Z F s ≤ p_Z F j))) → Q' (some (0, s)) M := by
      intro s hs
      rcases hs with ⟨w1, w2⟩ | ⟨w1, w2, w3, w4⟩
      · rw [w1]; exact h0 w2
      · have := h1 s.toNat ⟨by omega, by rw [show ((s.toNat : Nat) : Int) = s by omega]; exact w3, fun j hj z => ?_⟩
        · rw [show ((s.toNat : Nat) : Int) = s by omega] at this
          exact this
        · rw [show ((s.toNat : Nat) : Int) = s by omega]
          obtain ⟨a1, a2⟩ := w4 j hj z
          have t1 := hyy s j w1 (by omega) (by omega) (by omega) w3 z
          have t2 := hyy j s (by omega) (by omega) w1 (by omega) z w3
          exact ⟨by omega, fun e => a2 (by omega)⟩
    intro m
    induction m with
    | zero =>
      intro k s hm hk hinv
      have ek : k = p_n F := by omega
      subst ek
      exact u_X4_nextTurn_4 (49 + 9 * f) c s _ ⟨fun _ => fin s hinv, fun w => absurd (by rw [ht.1]; omega) w⟩
    | succ m ih =>
      intro k s hm hk hinv
      by_cases hkn : k = p_n F
      · exact ih k s (by omega) hk hinv
      have nxt : ∀ s' : Int, ((s' = -1 ∧ ∀ j : Nat, j < k + 1 → p_Z F c ≤ p_Z F j) ∨ (0 ≤ s' ∧ s' < (k + 1 : Nat) ∧ p_Z F s' < p_Z F c ∧ ∀ j : Nat, j < k + 1 → p_Z F j < p_Z F c → y s' ≤ y j ∧ (y s' = y j → p_Z F s' ≤ p_Z F j))) → ∀ zv : Int, zv = x_w ((k : Int) + 1) → x_Ev l E (3, 0, 0) m_X4_nextTurn 4 [(14, 49 + 9 * f), (0, (c : Int)), (0, s'), (0, zv)] [] M Q' := by
        intro s' hi v hv
        rw [x_w_id (by omega) (by omega)] at hv
        subst hv
        exact ih (k + 1) s' (by omega) (by omega) hi
      refine u_X4_nextTurn_4 (49 + 9 * f) c s k ⟨fun w => by rw [ht.1] at w; omega, fun w => ?_⟩
      refine c_tollLess hF (by omega) (by omega) hn ht hs ⟨_, rfl, fun d => ?_, fun d => ?_⟩
      · have zk : p_Z F c ≤ p_Z F k := by
          have := p_tl_pos hF (i := (c : Int)) (j := (k : Int)) (by omega) (by omega)
          omega
        refine nxt s ?_
        rcases hinv with ⟨w1, w2⟩ | ⟨w1, w2, w3, w4⟩
        · refine Or.inl ⟨w1, fun j hj => ?_⟩
          by_cases e : j = k
          · rw [e]; exact zk
          · exact w2 j (by omega)
        · refine Or.inr ⟨w1, by omega, w3, fun j hj z => ?_⟩
          by_cases e : j = k
          · rw [e] at z; omega
          · exact w4 j (by omega) z
      · have zk : p_Z F k < p_Z F c := (p_tl_pos hF (i := (c : Int)) (j := (k : Int)) (by omega) (by omega)).mp (by omega)
        refine ⟨fun e => ?_, fun e => ?_⟩
        · refine nxt k (Or.inr ⟨by omega, by omega, zk, fun j hj z => ?_⟩)
          by_cases ej : j = k
          · rw [ej]; exact ⟨Int.le_refl _, fun _ => Int.le_refl _⟩
          · rcases hinv with ⟨w1, w2⟩ | ⟨w1, w2⟩
            · have := w2 j (by omega); omega
            · omega
        · obtain ⟨w1, w2, w3, w4⟩ := hinv.resolve_left (fun w => by omega)
          have t1 := hyy k s (by omega) (by omega) w1 (by omega) zk w3
          have t2 := hyy s k w1 (by omega) (by omega) (by omega) w3 zk
          have teq : (p_U F c - p_U F k) * (p_Z F c - p_Z F s) = (p_U F c - p_U F s) * (p_Z F c - p_Z F k) ↔ y k = y s := by omega
          have key : ((p_U F c - p_U F k) * (p_Z F c - p_Z F s) < (p_U F c - p_U F s) * (p_Z F c - p_Z F k) ∨ ((p_U F c - p_U F k) * (p_Z F c - p_Z F s) = (p_U F c - p_U F s) * (p_Z F c - p_Z F k) ∧ p_Z F k < p_Z F s)) ↔ (y k < y s ∨ (y k = y s ∧ p_Z F k < p_Z F s)) := by rw [t1, teq]
          clear t1 t2 teq
          refine c_turnsAhead hF (by omega) (by omega) (by omega) hn ht hs (fun o => ⟨_, rfl, fun z => absurd z (by decide), fun _ => ?_⟩) (fun o => ⟨_, rfl, fun _ => ?_, fun z => absurd rfl z⟩)
          · have o' := key.mp o
            clear key o
            refine nxt k (Or.inr ⟨by omega, by omega, zk, fun j hj z => ?_⟩)
            by_cases ej : j = k
            · rw [ej]; exact ⟨Int.le_refl _, fun _ => Int.le_refl _⟩
            · have := w4 j (by omega) z
              exact ⟨by omega, fun e => by omega⟩
          · have o' : ¬ (y k < y s ∨ (y k = y s ∧ p_Z F k < p_Z F s)) := fun w => o (key.mpr w)
            clear key o
            refine nxt s (Or.inr ⟨w1, by omega, w3, fun j hj z => ?_⟩)
            by_cases ej : j = k
            · rw [ej]; exact ⟨by omega, fun e => by omega⟩
            · exact w4 j (by omega) z
  exact u_X4_nextTurn_0 (49 + 9 * f) c (main (p_n F) 0 (-1) (by omega) (by omega) (Or.inl ⟨rfl, fun j hj => by omega⟩))
end AB
