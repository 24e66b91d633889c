/-! The plans' table, apart from any memory -/
def x_sm (h : Int → Int) : Nat → Int
  | 0 => 0
  | n + 1 => x_sm h n + h n
theorem x_sm_cg {h h' : Int → Int} (n : Nat) (e : ∀ i : Int, 0 ≤ i → i < n → h i = h' i) : x_sm h n = x_sm h' n := by
  induction n with
  | zero => rfl
  | succ n ih => unfold x_sm; rw [ih (fun i a b => e i a (by omega)), e n (by omega) (by omega)]
theorem x_sm_bd {h : Int → Int} {B : Int} (n : Nat) (e : ∀ i : Int, 0 ≤ i → i < n → -B ≤ h i ∧ h i ≤ B) : -(n * B) ≤ x_sm h n ∧ x_sm h n ≤ n * B := by
  induction n with
  | zero => unfold x_sm; omega
  | succ n ih =>
    unfold x_sm
    have h1 := ih (fun i a b => e i a (by omega))
    have h2 := e n (by omega) (by omega)
    have h3 : ((n + 1 : Nat) : Int) * B = n * B + B := by rw [Int.natCast_succ, Int.add_mul, Int.one_mul]
    omega
def p_sum (F : xM) (X : Int → Int) (r : Int) : Int := x_sm (fun g => F 2 (3 * r + g) * X g) (F 0 2).toNat
def p_may (F : xM) (X : Int → Int) (b : Int) : Prop := (∀ g, 0 ≤ g → g < F 0 2 → 0 ≤ X g) ∧ ∀ r, 0 ≤ r → r < F 0 3 → p_sum F X r ≤ F 3 r * b
def p_tgt (F : xM) (X : Int → Int) (b : Int) (i : Nat) : Bool := if (i : Int) < F 0 3 then decide (p_sum F X i = F 3 i * b) else decide (X (i - F 0 3) = 0)
def p_pr (F : xM) : Nat := (F 0 3 + F 0 2).toNat
def p_tS (F : xM) (X : Int → Int) (b : Int) : Nat := x_set (p_tgt F X b) (p_pr F)
theorem p_sum_cg {F : xM} {X X' : Int → Int} (hF : p_wf F) (h : ∀ c, 0 ≤ c → c < 3 → X c = X' c) (r : Int) : p_sum F X r = p_sum F X' r := by
  obtain ⟨-, -, hg, -⟩ := hF
  unfold p_sum
  exact x_sm_cg _ (fun i a b => by show F 2 (3 * r + i) * X i = F 2 (3 * r + i) * X' i; rw [h i a (by omega)])
theorem p_may_cg {F : xM} {X X' : Int → Int} {b : Int} (hF : p_wf F) (h : ∀ c, 0 ≤ c → c < 3 → X c = X' c) : p_may F X b ↔ p_may F X' b := by
  have hg := hF.2.2.1
  unfold p_may
  constructor
  · intro ⟨q1, q2⟩
    exact ⟨fun g a c => by rw [← h g a (by omega)]; exact q1 g a c, fun r a c => by rw [← p_sum_cg hF h]; exact q2 r a c⟩
  · intro ⟨q1, q2⟩
    exact ⟨fun g a c => by rw [h g a (by omega)]; exact q1 g a c, fun r a c => by rw [p_sum_cg hF h]; exact q2 r a c⟩
theorem p_tS_cg {F : xM} {X X' : Int → Int} {b : Int} (hF : p_wf F) (h : ∀ c, 0 ≤ c → c < 3 → X c = X' c) : p_tS F X b = p_tS F X' b := by
  have hg := hF.2.2.1
  have hr := hF.2.2.2.1
  unfold p_tS
  refine x_set_cg _ (fun i hi => ?_)
  unfold p_pr at hi
  unfold p_tgt
  rw [p_sum_cg hF h]
  split
  · rfl
  · rw [h _ (by omega) (by omega)]
/-- entries: 0, 1, 2 amounts above; 3 below; 4 tight -/
def p_v (e : Int → Int) : Int := 1000000000000 * e 0 + 1000000 * e 1 + e 2
def p_lt (e e' : Int → Int) : Prop := p_v e * e' 3 < p_v e' * e 3
noncomputable def p_pos (T : Int → Int → Int) (e : Int → Int) : Nat → Nat
  | 0 => 0
  | n + 1 => p_pos T e n + p_if (p_lt (T n) e) 1 0
def p_put (T : Int → Int → Int) (p : Int) (e : Int → Int) : Int → Int → Int := fun k => if k < p then T k else if k = p then e else T (k - 1)
def p_en (F : xM) (s : Nat) : Int → Int := fun j => if j = 3 then p_b (p_C F s) else if j = 4 then p_tS F (p_x (p_C F s) (p_R F s)) (p_b (p_C F s)) else p_x (p_C F s) (p_R F s) j
def p_ok (F : xM) (s : Nat) : Prop := (x_cn s 7 : Int) = F 0 2 ∧ p_d3 (p_C F s) ≠ 0 ∧ p_may F (p_x (p_C F s) (p_R F s)) (p_b (p_C F s))
def p_new (F : xM) (s : Nat) (t : Nat × (Int → Int → Int)) : Prop := p_ok F s ∧ ∀ k : Int, 0 ≤ k → k < t.1 → t.2 k 4 ≠ p_en F s 4
noncomputable def p_T (F : xM) : Nat → Nat × (Int → Int → Int)
  | 0 => (0, fun _ _ => 0)
  | s + 1 => p_if (p_new F s (p_T F s)) ((p_T F s).1 + 1, p_put (p_T F s).2 (p_pos (p_T F s).2 (p_en F s) (p_T F s).1) (p_en F s)) (p_T F s)
def p_ten : Prop := ∀ F, p_wf F → ∀ s, s ≤ 2 ^ p_pr F → (p_T F s).1 ≤ 10
theorem p_pos_le (T : Int → Int → Int) (e : Int → Int) (n : Nat) : p_pos T e n ≤ n := by
  induction n with
  | zero => exact Nat.le_refl _
  | succ n ih =>
    unfold p_pos
    by_cases c : p_lt (T n) e
    · rw [p_if_t c]; omega
    · rw [p_if_f c]; omega
theorem p_pos_eq {T : Int → Int → Int} {e : Int → Int} {n p : Nat} (hp : p ≤ n) (h1 : ∀ k : Nat, k < p → p_lt (T k) e) (h2 : ∀ k : Nat, p ≤ k → k < n → ¬ p_lt (T k) e) : p_pos T e n = p := by
  induction n with
  | zero =>
    show 0 = p
    omega
  | succ n ih =>
    unfold p_pos
    by_cases c : p = n + 1
    · rw [p_if_t (h1 n (by omega))]
      have : p_pos T e n = n := by
        have hh : ∀ m, m ≤ n → p_pos T e m = m := by
          intro m
          induction m with
          | zero => intro _; rfl
          | succ m im =>
            intro hm
            unfold p_pos
            rw [im (by omega), p_if_t (h1 m (by omega))]
        exact hh n (Nat.le_refl _)
      omega
    · rw [p_if_f (h2 n (by omega) (by omega)), ih (by omega) (fun k a b => h2 k a (by omega))]
      rfl
/-- bounds of an entry -/
def p_eb (e : Int → Int) : Prop := (∀ c, 0 ≤ c → c < 3 → -1080 ≤ e c ∧ e c ≤ 1080) ∧ 0 < e 3 ∧ e 3 ≤ 162
theorem p_b_pos {C : Int → Int} (hd : p_d3 C ≠ 0) : 0 < p_b C := by
  unfold p_b p_sg
  split <;> omega
theorem p_b_abs (C : Int → Int) : p_b C = p_d3 C ∨ p_b C = - p_d3 C := by
  unfold p_b p_sg
  split <;> omega
theorem p_x_abs (C R : Int → Int) (c : Int) : p_x C R c = p_d3 (p_rc C R c) * p_sg (p_d3 C) := rfl
theorem p_en_lo (F : xM) (s : Nat) (j : Int) (h : j < 3) : p_en F s j = p_x (p_C F s) (p_R F s) j := by
  unfold p_en
  rw [if_neg (by omega), if_neg (by omega)]
theorem p_en_3 (F : xM) (s : Nat) : p_en F s 3 = p_b (p_C F s) := by
  unfold p_en
  rw [if_pos rfl]
theorem p_en_4 (F : xM) (s : Nat) : p_en F s 4 = p_tS F (p_x (p_C F s) (p_R F s)) (p_b (p_C F s)) := by
  unfold p_en
  rw [if_neg (by omega), if_pos rfl]
theorem p_x_bd {F : xM} (hF : p_wf F) {s : Nat} (hs : s < 128) (hp : (x_cn s 7 : Int) = F 0 2) : ∀ c, 0 ≤ c → c < 3 → -1080 ≤ p_x (p_C F s) (p_R F s) c ∧ p_x (p_C F s) (p_R F s) c ≤ 1080 := by
  intro c c1 c2
  have b2 := p_R_bd hF (s := s)
  have := p_rc_bd (B := 20) (R := p_R F s) (p_C_bd hF hs hp) (fun k k1 k2 => by have := b2 k k1 k2; omega) c1 c2
  unfold p_x p_sg
  split <;> omega
theorem p_en_eb {F : xM} (hF : p_wf F) {s : Nat} (hs : s < 128) (hp : (x_cn s 7 : Int) = F 0 2) (hd : p_d3 (p_C F s) ≠ 0) : p_eb (p_en F s) := by
  refine ⟨fun c c1 c2 => ?_, ?_, ?_⟩
  · rw [p_en_lo F s c c2]; exact p_x_bd hF hs hp c c1 c2
  · rw [p_en_3]; exact p_b_pos hd
  · rw [p_en_3]
    have := p_C_d (p_C_bd hF hs hp)
    have := p_b_abs (p_C F s)
    omega
/-- the order of entries is that of their first unlike amounts -/
theorem p_lex {e e' : Int → Int} (h : p_eb e) (h' : p_eb e') : p_v e * e' 3 - p_v e' * e 3 = 1000000000000 * (e 0 * e' 3 - e' 0 * e 3) + 1000000 * (e 1 * e' 3 - e' 1 * e 3) + (e 2 * e' 3 - e' 2 * e 3) ∧ ∀ c, 0 ≤ c → c < 3 → -349920 ≤ e c * e' 3 - e' c * e 3 ∧ e c * e' 3 - e' c * e 3 ≤ 349920 := by
  refine ⟨by unfold p_v; grind, fun c c1 c2 => ?_⟩
  have h1 := x_mb (A := 1080) (B := 162) (h.1 c c1 c2) (b := e' 3) ⟨by have := h'.2.1; omega, h'.2.2⟩
  have h2 := x_mb (A := 1080) (B := 162) (h'.1 c c1 c2) (b := e 3) ⟨by have := h.2.1; omega, h.2.2⟩
  omega
theorem p_lt_tr {a b c : Int → Int} (ha : 0 < a 3) (hb : 0 < b 3) (hc : 0 < c 3) (h1 : p_lt a b) (h2 : p_lt b c) : p_lt a c := by
  unfold p_lt at *
  have h3 : p_v a * b 3 * c 3 < p_v b * a 3 * c 3 := Int.mul_lt_mul_of_pos_right h1 hc
  have h4 : p_v b * c 3 * a 3 < p_v c * b 3 * a 3 := Int.mul_lt_mul_of_pos_right h2 ha
  have h5 : p_v a * c 3 * b 3 < p_v c * a 3 * b 3 := by grind
  exact Int.lt_of_mul_lt_mul_right h5 (by omega)
theorem p_lt_ir {a : Int → Int} : ¬ p_lt a a := by unfold p_lt; omega
