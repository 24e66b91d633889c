/-! A follower's numbers, apart from any memory; the square's equations -/
def x_F (M : xM) (w : Int) : xM := fun a k => if 0 ≤ a ∧ a ≤ 3 then M (w + a) k else 0
theorem x_F0 (M : xM) (w k : Int) : x_F M w 0 k = M w k := by unfold x_F; rw [Int.add_zero, if_pos (by omega)]
theorem x_F1 (M : xM) (w k : Int) : x_F M w 1 k = M (w + 1) k := by unfold x_F; rw [if_pos (by omega)]
theorem x_F2 (M : xM) (w k : Int) : x_F M w 2 k = M (w + 2) k := by unfold x_F; rw [if_pos (by omega)]
theorem x_F3 (M : xM) (w k : Int) : x_F M w 3 k = M (w + 3) k := by unfold x_F; rw [if_pos (by omega)]
theorem x_F_eq {M M0 : xM} {w : Int} (h : ∀ a, w ≤ a → a ≤ w + 3 → M a = M0 a) : x_F M w = x_F M0 w := by
  funext a k
  unfold x_F
  by_cases c : 0 ≤ a ∧ a ≤ 3
  · rw [if_pos c, if_pos c, h (w + a) (by omega) (by omega)]
  · rw [if_neg c, if_neg c]
noncomputable def p_if {α : Type} (c : Prop) (a b : α) : α := @ite α c (Classical.propDecidable c) a b
theorem x_ite_cg {α : Type} {p q : Prop} [Decidable p] [Decidable q] (h : p ↔ q) (a b : α) : (if p then a else b) = if q then a else b := by
  by_cases c : p
  · rw [if_pos c, if_pos (h.mp c)]
  · rw [if_neg c, if_neg (fun w => c (h.mpr w))]
theorem p_if_t {α : Type} {c : Prop} (h : c) (a b : α) : p_if c a b = a := by unfold p_if; exact if_pos h
theorem p_if_f {α : Type} {c : Prop} (h : ¬ c) (a b : α) : p_if c a b = b := by unfold p_if; exact if_neg h
/-- 0: kind, m, goods, rows; 1: traits; 2: numbers; 3: bounds -/
def p_wf (F : xM) : Prop := (0 ≤ F 0 0 ∧ F 0 0 ≤ 6) ∧ (0 ≤ F 0 1 ∧ F 0 1 ≤ 9) ∧ (1 ≤ F 0 2 ∧ F 0 2 ≤ 3) ∧ (1 ≤ F 0 3 ∧ F 0 3 ≤ 4) ∧ (∀ g, 0 ≤ g → g < 3 → (0 ≤ F 1 g ∧ F 1 g ≤ 20) ∧ (0 ≤ F 1 (3 + g) ∧ F 1 (3 + g) ≤ 3) ∧ (-9 ≤ F 1 (6 + g) ∧ F 1 (6 + g) ≤ 9)) ∧ (∀ k, 0 ≤ k → k < 12 → -3 ≤ F 2 k ∧ F 2 k ≤ 3) ∧ (∀ k, 0 ≤ k → k < 3 → 1 ≤ F 2 k) ∧ ∀ k, 0 ≤ k → k < 4 → 0 ≤ F 3 k ∧ F 3 k ≤ 20
def p_d3 (C : Int → Int) : Int := C 0 * (C 4 * C 8 - C 5 * C 7) + C 1 * (C 5 * C 6 - C 3 * C 8) + C 2 * (C 3 * C 7 - C 4 * C 6)
theorem p_d3_cg {C C' : Int → Int} (h : ∀ k, 0 ≤ k → k < 9 → C k = C' k) : p_d3 C = p_d3 C' := by
  unfold p_d3
  rw [h 0 (by omega) (by omega), h 1 (by omega) (by omega), h 2 (by omega) (by omega), h 3 (by omega) (by omega), h 4 (by omega) (by omega), h 5 (by omega) (by omega), h 6 (by omega) (by omega), h 7 (by omega) (by omega), h 8 (by omega) (by omega)]
def p_rc (C R : Int → Int) (c : Int) : Int → Int := fun k => if k % 3 = c then R (k / 3) else C k
def p_sg (d : Int) : Int := if d < 0 then -1 else 1
def p_x (C R : Int → Int) (c : Int) : Int := p_d3 (p_rc C R c) * p_sg (p_d3 C)
def p_b (C : Int → Int) : Int := p_d3 C * p_sg (p_d3 C)
theorem p_rc_cg {C C' R R' : Int → Int} {c : Int} (h : ∀ k, 0 ≤ k → k < 9 → C k = C' k) (h2 : ∀ k, 0 ≤ k → k < 3 → R k = R' k) : ∀ k, 0 ≤ k → k < 9 → p_rc C R c k = p_rc C' R' c k := by
  intro k k1 k2
  unfold p_rc
  split
  · exact h2 _ (by omega) (by omega)
  · exact h k k1 k2
theorem p_x_cg {C C' R R' : Int → Int} (c : Int) (h : ∀ k, 0 ≤ k → k < 9 → C k = C' k) (h2 : ∀ k, 0 ≤ k → k < 3 → R k = R' k) : p_x C R c = p_x C' R' c := by
  unfold p_x
  rw [p_d3_cg h, p_d3_cg (p_rc_cg h h2)]
theorem p_b_cg {C C' : Int → Int} (h : ∀ k, 0 ≤ k → k < 9 → C k = C' k) : p_b C = p_b C' := by
  unfold p_b
  rw [p_d3_cg h]
/-- the cell of a pair and a good; a pair's right side -/
def p_ce (F : xM) (i g : Int) : Int := if F 0 3 ≤ i then (if i - F 0 3 = g then 1 else 0) else F 2 (3 * i + g)
def p_ri (F : xM) (i : Int) : Int := if F 0 3 ≤ i then 0 else F 3 i
def p_C (F : xM) (s : Nat) : Int → Int := fun k => if k / 3 < F 0 2 ∧ k % 3 < F 0 2 then p_ce F (x_nb s (k / 3).toNat) (k % 3) else if k / 3 = k % 3 then 1 else 0
def p_R (F : xM) (s : Nat) : Int → Int := fun i => if i < F 0 2 then p_ri F (x_nb s i.toNat) else 0
theorem x_wr_fr (M : xM) {a a' : Int} (k v : Int) (h : a' ≠ a) : x_wr M a k v a' = M a' := by
  funext k'
  exact x_wr_ne M v (fun q => h q.1)
/-- determinants of small cells stay small -/
theorem p_d3_bd {C : Int → Int} {A B D : Int} (h0 : ∀ k, 0 ≤ k → k < 9 → k % 3 = 0 → -A ≤ C k ∧ C k ≤ A) (h1 : ∀ k, 0 ≤ k → k < 9 → k % 3 = 1 → -B ≤ C k ∧ C k ≤ B) (h2 : ∀ k, 0 ≤ k → k < 9 → k % 3 = 2 → -D ≤ C k ∧ C k ≤ D) : -(6 * (A * (B * D))) ≤ p_d3 C ∧ p_d3 C ≤ 6 * (A * (B * D)) := by
  have a0 := h0 0 (by omega) (by omega) (by omega)
  have a3 := h0 3 (by omega) (by omega) (by omega)
  have a6 := h0 6 (by omega) (by omega) (by omega)
  have b1 := h1 1 (by omega) (by omega) (by omega)
  have b4 := h1 4 (by omega) (by omega) (by omega)
  have b7 := h1 7 (by omega) (by omega) (by omega)
  have d2 := h2 2 (by omega) (by omega) (by omega)
  have d5 := h2 5 (by omega) (by omega) (by omega)
  have d8 := h2 8 (by omega) (by omega) (by omega)
  have t1 := x_mb a0 (x_mb b4 d8)
  have t2 := x_mb a0 (x_mb b7 d5)
  have t3 := x_mb a6 (x_mb b1 d5)
  have t4 := x_mb a3 (x_mb b1 d8)
  have t5 := x_mb a3 (x_mb b7 d2)
  have t6 := x_mb a6 (x_mb b4 d2)
  have e : p_d3 C = C 0 * (C 4 * C 8) - C 0 * (C 7 * C 5) + C 6 * (C 1 * C 5) - C 3 * (C 1 * C 8) + C 3 * (C 7 * C 2) - C 6 * (C 4 * C 2) := by
    unfold p_d3; grind
  omega
