/-! Where a follower turns -/
def p_u (F : xM) (e : Int → Int) : Int := p_tr F e 0 - p_ex F * p_tr F e 1
theorem p_net_u (F : xM) (e : Int → Int) (p q : Int) : p_net F e p q = p_u F e * q - p_tw F * p * p_tr F e 1 := by
  unfold p_net p_u p_fe
  grind
/-- plans over one number below -/
noncomputable def p_Lm (F : xM) : Int × (Int → Int) := Classical.epsilon (fun x : Int × (Int → Int) => 0 < x.1 ∧ ∀ k : Int, 0 ≤ k → k < p_n F → 0 < x.2 k ∧ x.2 k * p_TT F k 3 = x.1)
theorem p_Lm_ok {F : xM} (hF : p_wf F) : 0 < (p_Lm F).1 ∧ ∀ k : Int, 0 ≤ k → k < p_n F → 0 < (p_Lm F).2 k ∧ (p_Lm F).2 k * p_TT F k 3 = (p_Lm F).1 := by
  obtain ⟨L, m, h1, h2⟩ := p_scl (fun k => p_TT F k 3) (p_n F) (fun k a b => (p_T_eb hF k a b).2.1)
  exact Classical.epsilon_spec (p := fun x : Int × (Int → Int) => 0 < x.1 ∧ ∀ k : Int, 0 ≤ k → k < p_n F → 0 < x.2 k ∧ x.2 k * p_TT F k 3 = x.1) ⟨(L, m), h1, h2⟩
noncomputable def p_U (F : xM) (k : Int) : Int := p_u F (p_TT F k) * (p_Lm F).2 k
noncomputable def p_Z (F : xM) (k : Int) : Int := p_tr F (p_TT F k) 1 * (p_Lm F).2 k
noncomputable def p_V (F : xM) (p q k : Int) : Int := p_U F k * q - p_tw F * p * p_Z F k
theorem p_V_net {F : xM} (p q k : Int) : p_net F (p_TT F k) p q * (p_Lm F).2 k = p_V F p q k := by
  rw [p_net_u]
  unfold p_V p_U p_Z
  grind
theorem p_V_best {F : xM} (hF : p_wf F) {p q : Int} {k : Nat} (hk : k < p_n F) : p_bst F (p_TT F) (p_n F) p q k = true ↔ ∀ j : Nat, j < p_n F → p_V F p q j ≤ p_V F p q k := by
  obtain ⟨hL, hm⟩ := p_Lm_ok hF
  unfold p_bst
  rw [decide_eq_true_iff]
  have key : ∀ j : Nat, j < p_n F → (p_net F (p_TT F j) p q * p_TT F k 3 ≤ p_net F (p_TT F k) p q * p_TT F j 3 ↔ p_V F p q j ≤ p_V F p q k) := by
    intro j hj
    obtain ⟨a1, a2⟩ := hm k (by omega) (by omega)
    obtain ⟨b1, b2⟩ := hm j (by omega) (by omega)
    have := p_sc_lt (x := p_net F (p_TT F k) p q) (y := p_net F (p_TT F j) p q) hL a1 b1 a2 b2
    rw [p_V_net, p_V_net] at this
    omega
  exact ⟨fun h j hj => (key j hj).mp (h j hj), fun h j hj => (key j hj).mpr (h j hj)⟩
theorem p_Z_lt {F : xM} (hF : p_wf F) {i j : Int} (hi : 0 ≤ i ∧ i < p_n F) (hj : 0 ≤ j ∧ j < p_n F) : p_tr F (p_TT F i) 1 * p_TT F j 3 < p_tr F (p_TT F j) 1 * p_TT F i 3 ↔ p_Z F i < p_Z F j := by
  obtain ⟨hL, hm⟩ := p_Lm_ok hF
  exact p_sc_lt hL (hm i hi.1 hi.2).1 (hm j hj.1 hj.2).1 (hm i hi.1 hi.2).2 (hm j hj.1 hj.2).2
theorem p_sc_sub {F : xM} (hF : p_wf F) {i j : Int} (hi : 0 ≤ i ∧ i < p_n F) (hj : 0 ≤ j ∧ j < p_n F) (x y : Int) : (x * p_TT F j 3 - y * p_TT F i 3) * ((p_Lm F).2 i * (p_Lm F).2 j) = (p_Lm F).1 * (x * (p_Lm F).2 i - y * (p_Lm F).2 j) := by
  obtain ⟨hL, hm⟩ := p_Lm_ok hF
  have e1 := (hm i hi.1 hi.2).2
  have e2 := (hm j hj.1 hj.2).2
  have : (x * p_TT F j 3 - y * p_TT F i 3) * ((p_Lm F).2 i * (p_Lm F).2 j) = x * (p_Lm F).2 i * ((p_Lm F).2 j * p_TT F j 3) - y * (p_Lm F).2 j * ((p_Lm F).2 i * p_TT F i 3) := by grind
  rw [this, e1, e2]
  grind
/-- break terms of a follower below most -/
def p_isbr (F : xM) (most p q : Int) : Prop := 0 < p ∧ 0 < q ∧ p < most * q ∧ Int.gcd p q = 1 ∧ ∃ k l : Nat, k < p_n F ∧ l < p_n F ∧ p_bst F (p_TT F) (p_n F) p q k = true ∧ p_bst F (p_TT F) (p_n F) p q l = true ∧ p_Z F k ≠ p_Z F l
theorem q_mpos {a b : Int} (ha : 0 < a) (h : 0 < a * b) : 0 < b := by
  apply Classical.byContradiction
  intro hb
  have := Int.mul_le_mul_of_nonneg_left (show b ≤ 0 by omega) (show 0 ≤ a by omega)
  omega
theorem q_mnn {a b : Int} (ha : 0 < a) (h : 0 ≤ a * b) : 0 ≤ b := by
  apply Classical.byContradiction
  intro hb
  have := Int.mul_le_mul_of_nonneg_left (show b ≤ -1 by omega) (show 0 ≤ a by omega)
  omega
theorem q_a {a z A S p1 q1 t : Int} (hS : 0 < S) (hq : 0 < q1) (e : A * q1 = t * S * p1) (h : A * z ≤ a * S) : 0 ≤ a * q1 - t * p1 * z ∧ (a * q1 - t * p1 * z = 0 → a * S = A * z) := by
  have key : S * (a * q1 - t * p1 * z) = q1 * (a * S - A * z) := by
    have : S * (a * q1 - t * p1 * z) = a * S * q1 - t * S * p1 * z := by grind
    rw [this, ← e]; grind
  have h2 : 0 ≤ q1 * (a * S - A * z) := Int.mul_nonneg (by omega) (by omega)
  refine ⟨q_mnn hS (by omega), fun h3 => ?_⟩
  rw [h3, Int.mul_zero] at key
  have := (Int.mul_eq_zero.mp key.symm).resolve_left (by omega)
  omega
theorem q_b {a z A S p1 q1 p q t : Int} (ht : 0 < t) (hz : 0 < z) (hS : 0 < S) (hq1 : 0 < q1) (hq : 0 < q) (e : A * q1 = t * S * p1) (h : A * z ≤ a * S) (hlt : p * q1 < p1 * q) : 0 < a * q - t * p * z := by
  have h1 := Int.mul_pos hS hq1
  refine q_mpos h1 ?_
  have key : S * q1 * (a * q - t * p * z) = q * q1 * (a * S - A * z) + t * z * S * (p1 * q - p * q1) := by
    have : q * q1 * (a * S - A * z) = q * q1 * (a * S) - q * z * (A * q1) := by grind
    rw [this, e]; grind
  rw [key]
  have h2 := Int.mul_nonneg (show 0 ≤ q * q1 from Int.le_of_lt (Int.mul_pos hq hq1)) (show 0 ≤ a * S - A * z by omega)
  have h3 := Int.mul_pos (Int.mul_pos (Int.mul_pos ht hz) hS) (show 0 < p1 * q - p * q1 by omega)
  omega
theorem q_c {a d p0 q0 p q t : Int} (ht : 0 < t) (hd : 0 ≤ d) (hq0 : 0 < q0) (hq : 0 < q) (h : 0 ≤ a * q0 + t * p0 * d) (hlt : p0 * q ≤ p * q0) : 0 ≤ a * q + t * p * d ∧ (0 < d → p0 * q < p * q0 → 0 < a * q + t * p * d) := by
  have key : q0 * (a * q + t * p * d) = q * (a * q0 + t * p0 * d) + t * d * (p * q0 - p0 * q) := by grind
  have h1 := Int.mul_nonneg (show 0 ≤ q by omega) h
  refine ⟨q_mnn hq0 ?_, fun d0 l0 => q_mpos hq0 ?_⟩
  · have h2 := Int.mul_nonneg (Int.mul_nonneg (show 0 ≤ t by omega) hd) (show 0 ≤ p * q0 - p0 * q by omega)
    omega
  · have h2 := Int.mul_pos (Int.mul_pos ht d0) (show 0 < p * q0 - p0 * q by omega)
    omega
/-- 'at' is best at a term, and of the best it has the least toll -/
def p_at (F : xM) (p q : Int) (c : Nat) : Prop := c < p_n F ∧ (∀ j : Nat, j < p_n F → p_V F p q j ≤ p_V F p q c) ∧ ∀ j : Nat, j < p_n F → p_V F p q j = p_V F p q c → p_Z F c ≤ p_Z F j
/-- the next plan to which it turns -/
def p_nx (F : xM) (c s : Nat) : Prop := s < p_n F ∧ p_Z F s < p_Z F c ∧ ∀ j : Nat, j < p_n F → p_Z F j < p_Z F c → (p_U F c - p_U F s) * (p_Z F c - p_Z F j) ≤ (p_U F c - p_U F j) * (p_Z F c - p_Z F s) ∧ ((p_U F c - p_U F j) * (p_Z F c - p_Z F s) = (p_U F c - p_U F s) * (p_Z F c - p_Z F j) → p_Z F s ≤ p_Z F j)
theorem p_tw_pos (F : xM) : 0 < p_tw F := by unfold p_tw; split <;> omega
theorem p_V_sub (F : xM) (p q i j : Int) : p_V F p q i - p_V F p q j = (p_U F i - p_U F j) * q - p_tw F * p * (p_Z F i - p_Z F j) := by
  unfold p_V; grind
/-- beyond the least-toll best plan, dearer ones are never best again -/
theorem p_at_hi {F : xM} {p0 q0 p q : Int} {c : Nat} (hq0 : 0 < q0) (hq : 0 < q) (h : p_at F p0 q0 c) (hlt : p0 * q ≤ p * q0) {j : Nat} (hj : j < p_n F) (hz : p_Z F c ≤ p_Z F j) : p_V F p q j ≤ p_V F p q c ∧ (p_Z F c < p_Z F j → p0 * q < p * q0 → p_V F p q j < p_V F p q c) := by
  have h1 := h.2.1 j hj
  have s0 := p_V_sub F p0 q0 c j
  have s1 := p_V_sub F p q c j
  have e0 : (p_U F c - p_U F j) * q0 + p_tw F * p0 * (p_Z F j - p_Z F c) = p_V F p0 q0 c - p_V F p0 q0 j := by rw [s0]; grind
  have e1 : (p_U F c - p_U F j) * q + p_tw F * p * (p_Z F j - p_Z F c) = p_V F p q c - p_V F p q j := by rw [s1]; grind
  have := q_c (a := p_U F c - p_U F j) (d := p_Z F j - p_Z F c) (p0 := p0) (q0 := q0) (p := p) (q := q) (p_tw_pos F) (by omega) hq0 hq (by omega) hlt
  rw [e1] at this
  exact ⟨by omega, fun a b => by have := this.2 (by omega) b; omega⟩
theorem p_at_lo {F : xM} {p0 q0 p1 q1 : Int} {c s : Nat} (hq0 : 0 < q0) (hq1 : 0 < q1) (h : p_at F p0 q0 c) (hs : p_nx F c s) (e : (p_U F c - p_U F s) * q1 = p_tw F * (p_Z F c - p_Z F s) * p1) : p0 * q1 < p1 * q0 := by
  have h1 := h.2.1 s hs.1
  have h2 := h.2.2 s hs.1
  have s0 := p_V_sub F p0 q0 c s
  have hlt : 0 < p_V F p0 q0 c - p_V F p0 q0 s := by
    have := hs.2.1
    by_cases w : p_V F p0 q0 s = p_V F p0 q0 c
    · have := h2 w; omega
    · omega
  have key : q1 * (p_V F p0 q0 c - p_V F p0 q0 s) = p_tw F * (p_Z F c - p_Z F s) * (p1 * q0 - p0 * q1) := by
    rw [s0]
    have : q1 * ((p_U F c - p_U F s) * q0 - p_tw F * p0 * (p_Z F c - p_Z F s)) = (p_U F c - p_U F s) * q1 * q0 - q1 * (p_tw F * p0 * (p_Z F c - p_Z F s)) := by grind
    rw [this, e]; grind
  have h3 := Int.mul_pos hq1 hlt
  rw [key] at h3
  have h4 := Int.mul_pos (p_tw_pos F) (show 0 < p_Z F c - p_Z F s by have := hs.2.1; omega)
  have := q_mpos h4 h3
  omega
/-- at the turn: the next one is best, with the least toll -/
theorem p_at_nx {F : xM} {p0 q0 p1 q1 : Int} {c s : Nat} (hq0 : 0 < q0) (hq1 : 0 < q1) (h : p_at F p0 q0 c) (hs : p_nx F c s) (e : (p_U F c - p_U F s) * q1 = p_tw F * (p_Z F c - p_Z F s) * p1) : p_at F p1 q1 s ∧ p_V F p1 q1 c = p_V F p1 q1 s := by
  have hlt := p_at_lo hq0 hq1 h hs e
  have ecs : p_V F p1 q1 c = p_V F p1 q1 s := by
    have := p_V_sub F p1 q1 c s
    have e2 : p_tw F * p1 * (p_Z F c - p_Z F s) = p_tw F * (p_Z F c - p_Z F s) * p1 := by grind
    rw [e, e2] at this
    omega
  have hsz := hs.2.1
  have cheap : ∀ j : Nat, j < p_n F → p_Z F j < p_Z F c → p_V F p1 q1 j ≤ p_V F p1 q1 c ∧ (p_V F p1 q1 j = p_V F p1 q1 c → p_Z F s ≤ p_Z F j) := by
    intro j hj hz
    obtain ⟨a1, a2⟩ := hs.2.2 j hj hz
    have := q_a (a := p_U F c - p_U F j) (z := p_Z F c - p_Z F j) (A := p_U F c - p_U F s) (S := p_Z F c - p_Z F s) (p1 := p1) (q1 := q1) (t := p_tw F) (by omega) hq1 e a1
    rw [← p_V_sub] at this
    exact ⟨by omega, fun w => a2 (this.2 (by omega))⟩
  refine ⟨⟨hs.1, fun j hj => ?_, fun j hj w => ?_⟩, ecs⟩
  · rw [← ecs]
    by_cases z : p_Z F j < p_Z F c
    · exact (cheap j hj z).1
    · exact (p_at_hi hq0 hq1 h (Int.le_of_lt hlt) hj (by omega)).1
  · rw [← ecs] at w
    by_cases z : p_Z F j < p_Z F c
    · exact (cheap j hj z).2 w
    · omega
/-- between two turns there is no break -/
theorem p_no_mid {F : xM} (hF : p_wf F) {p0 q0 p1 q1 p q most : Int} {c s : Nat} (hq0 : 0 < q0) (hq1 : 0 < q1) (h : p_at F p0 q0 c) (hs : p_nx F c s) (e : (p_U F c - p_U F s) * q1 = p_tw F * (p_Z F c - p_Z F s) * p1) (h0 : p0 * q < p * q0) (h1 : p * q1 < p1 * q) : ¬ p_isbr F most p q := by
  intro ⟨b1, b2, b3, b4, k, l, hk, hl, bk, bl, bz⟩
  have only : ∀ j : Nat, j < p_n F → p_bst F (p_TT F) (p_n F) p q j = true → p_Z F j = p_Z F c := by
    intro j hj bj
    rw [p_V_best hF hj] at bj
    have bc := bj c h.1
    by_cases z : p_Z F j < p_Z F c
    · have a1 := (hs.2.2 j hj z).1
      have := q_b (a := p_U F c - p_U F j) (z := p_Z F c - p_Z F j) (A := p_U F c - p_U F s) (S := p_Z F c - p_Z F s) (p1 := p1) (q1 := q1) (p := p) (q := q) (p_tw_pos F) (by omega) (by have := hs.2.1; omega) hq1 b2 e a1 h1
      rw [← p_V_sub] at this
      omega
    · by_cases z2 : p_Z F c < p_Z F j
      · have := (p_at_hi hq0 b2 h (Int.le_of_lt h0) hj (by omega)).2 z2 h0
        omega
      · omega
  exact bz (by rw [only k hk bk, only l hl bl])
/-- where no plan has less toll, no break is ahead -/
theorem p_no_end {F : xM} (hF : p_wf F) {p0 q0 p q most : Int} {c : Nat} (hq0 : 0 < q0) (h : p_at F p0 q0 c) (hs : ∀ j : Nat, j < p_n F → p_Z F c ≤ p_Z F j) (h0 : p0 * q < p * q0) : ¬ p_isbr F most p q := by
  intro ⟨b1, b2, b3, b4, k, l, hk, hl, bk, bl, bz⟩
  have only : ∀ j : Nat, j < p_n F → p_bst F (p_TT F) (p_n F) p q j = true → p_Z F j = p_Z F c := by
    intro j hj bj
    rw [p_V_best hF hj] at bj
    have bc := bj c h.1
    have hz := hs j hj
    by_cases z2 : p_Z F c < p_Z F j
    · have := (p_at_hi hq0 b2 h (Int.le_of_lt h0) hj (by omega)).2 z2 h0
      omega
    · omega
  exact bz (by rw [only k hk bk, only l hl bl])
/-- the turn itself is one -/
theorem p_is_turn {F : xM} (hF : p_wf F) {p0 q0 p1 q1 most : Int} {c s : Nat} (hq0 : 0 < q0) (hp0 : 0 ≤ p0) (hq1 : 0 < q1) (h : p_at F p0 q0 c) (hs : p_nx F c s) (e : (p_U F c - p_U F s) * q1 = p_tw F * (p_Z F c - p_Z F s) * p1) (hg : Int.gcd p1 q1 = 1) (hm : p1 < most * q1) : p_isbr F most p1 q1 := by
  have hlt := p_at_lo hq0 hq1 h hs e
  obtain ⟨a1, a2⟩ := p_at_nx hq0 hq1 h hs e
  have p1pos : 0 < p1 := by
    have h1 := Int.mul_nonneg hp0 (show 0 ≤ q1 by omega)
    have h2 : 0 < q0 * p1 := by rw [Int.mul_comm]; omega
    exact q_mpos hq0 h2
  refine ⟨p1pos, hq1, hm, hg, c, s, h.1, hs.1, ?_, ?_, by have := hs.2.1; omega⟩
  · rw [p_V_best hF h.1]
    intro j hj
    rw [a2]; exact a1.2.1 j hj
  · rw [p_V_best hF hs.1]; exact a1.2.1
/-- tables of terms, the least first, each once -/
def p_btab (n : Nat) (P Q : Int → Int) (B : Int → Int → Prop) : Prop := (∀ k : Int, 0 ≤ k → k < n → B (P k) (Q k) ∧ 0 < P k ∧ 0 < Q k ∧ Int.gcd (P k) (Q k) = 1) ∧ (∀ p q, B p q → ∃ k : Int, 0 ≤ k ∧ k < n ∧ P k = p ∧ Q k = q) ∧ ∀ k k' : Int, 0 ≤ k → k < k' → k' < n → P k * Q k' < P k' * Q k
theorem q_red {a b c d : Int} (hb : 0 < b) (hd : 0 < d) (h1 : Int.gcd a b = 1) (h2 : Int.gcd c d = 1) (h : a * d = c * b) : a = c ∧ b = d := by
  obtain ⟨r1, r2⟩ := p_red hb hd h
  obtain ⟨s1, s2⟩ := p_red1 hb h1
  obtain ⟨t1, t2⟩ := p_red1 hd h2
  exact ⟨by rw [← s1, r1, t1], by rw [← s2, r2, t2]⟩
theorem q_lt_tr {a b c d e f : Int} (hb : 0 < b) (hd : 0 < d) (hf : 0 < f) (h1 : a * d < c * b) (h2 : c * f < e * d) : a * f < e * b := by
  have h3 := Int.mul_lt_mul_of_pos_right h1 hf
  have h4 := Int.mul_lt_mul_of_pos_right h2 hb
  have h5 : a * f * d < e * b * d := by grind
  exact Int.lt_of_mul_lt_mul_right h5 (by omega)
theorem p_btab_u {n n' : Nat} {P Q P' Q' : Int → Int} {B : Int → Int → Prop} (h : p_btab n P Q B) (h' : p_btab n' P' Q' B) : n = n' ∧ ∀ k : Int, 0 ≤ k → k < n → P k = P' k ∧ Q k = Q' k := by
  have half : ∀ {n n' : Nat} {P Q P' Q' : Int → Int}, p_btab n P Q B → p_btab n' P' Q' B → ∀ k : Nat, k < n → k < n' ∧ P k = P' k ∧ Q k = Q' k := by
    intro n n' P Q P' Q' h h' k
    induction k using Nat.strongRecOn with
    | ind k ih =>
      intro hk
      obtain ⟨f1, f2, f3, f4⟩ := h.1 k (by omega) (by omega)
      obtain ⟨j', j1, j2, j3, j4⟩ := h'.2.1 _ _ f1
      have jk : (k : Int) ≤ j' := by
        apply Classical.byContradiction
        intro hlt
        obtain ⟨i1, i2, i3⟩ := ih j'.toNat (by omega) (by omega)
        rw [show ((j'.toNat : Nat) : Int) = j' by omega] at i2 i3
        have := h.2.2 j' k j1 (by omega) (by omega)
        rw [i2, i3, j3, j4] at this
        omega
      have kn' : k < n' := by omega
      refine ⟨kn', ?_⟩
      obtain ⟨g1, g2, g3, g4⟩ := h'.1 k (by omega) (by omega)
      obtain ⟨j, l1, l2, l3, l4⟩ := h.2.1 _ _ g1
      have jk2 : (k : Int) ≤ j := by
        apply Classical.byContradiction
        intro hlt
        obtain ⟨i1, i2, i3⟩ := ih j.toNat (by omega) (by omega)
        rw [show ((j.toNat : Nat) : Int) = j by omega] at i2 i3
        have := h'.2.2 j k l1 (by omega) (by omega)
        rw [← i2, ← i3, l3, l4] at this
        omega
      by_cases e : (k : Int) = j
      · rw [← e] at l3 l4; exact ⟨l3, l4⟩
      · have a1 := h.2.2 k j (by omega) (by omega) l2
        rw [l3, l4] at a1
        by_cases e2 : (k : Int) = j'
        · rw [← e2] at j3 j4; exact ⟨j3.symm, j4.symm⟩
        · have a2 := h'.2.2 k j' (by omega) (by omega) j2
          rw [j3, j4] at a2
          omega
  have hn : n = n' := by
    by_cases c : n ≤ n'
    · by_cases d : n' ≤ n
      · omega
      · have := (half h' h n (by omega)).1; omega
    · have := (half h h' n' (by omega)).1; omega
  refine ⟨hn, fun k a b => ?_⟩
  have := (half h h' k.toNat (by omega)).2
  rw [show ((k.toNat : Nat) : Int) = k by omega] at this
  exact this
