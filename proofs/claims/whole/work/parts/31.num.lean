/-! Wrap-around swallows wrap-around; sets of small numbers -/
theorem x_W_cg {x y : Int} (t : Int) (h : x = y + 18446744073709551616 * t) : x_W x = x_W y := by unfold x_W; omega
theorem x_W_ex (x : Int) : ∃ t, x_W x = x + 18446744073709551616 * t := ⟨-((x + 9223372036854775808) / 18446744073709551616), by unfold x_W; omega⟩
theorem x_W_a1 (a b : Int) : x_W (x_W a + b) = x_W (a + b) := by
  obtain ⟨t, ht⟩ := x_W_ex a; exact x_W_cg t (by omega)
theorem x_W_a2 (a b : Int) : x_W (a + x_W b) = x_W (a + b) := by
  obtain ⟨t, ht⟩ := x_W_ex b; exact x_W_cg t (by omega)
theorem x_W_s1 (a b : Int) : x_W (x_W a - b) = x_W (a - b) := by
  obtain ⟨t, ht⟩ := x_W_ex a; exact x_W_cg t (by omega)
theorem x_W_s2 (a b : Int) : x_W (a - x_W b) = x_W (a - b) := by
  obtain ⟨t, ht⟩ := x_W_ex b; exact x_W_cg (-t) (by omega)
theorem x_W_m1 (a b : Int) : x_W (x_W a * b) = x_W (a * b) := by
  obtain ⟨t, ht⟩ := x_W_ex a
  exact x_W_cg (t * b) (by rw [ht, Int.add_mul, Int.mul_assoc])
theorem x_W_m2 (a b : Int) : x_W (a * x_W b) = x_W (a * b) := by
  obtain ⟨t, ht⟩ := x_W_ex b
  exact x_W_cg (a * t) (by rw [ht, Int.mul_add, Int.mul_left_comm])
theorem x_W_n1 (a : Int) : x_W (- x_W a) = x_W (- a) := by
  obtain ⟨t, ht⟩ := x_W_ex a; exact x_W_cg (-t) (by omega)
theorem x_W_W (a : Int) : x_W (x_W a) = x_W a := by
  obtain ⟨t, ht⟩ := x_W_ex a; exact x_W_cg t ht
theorem x_w_cg {x y : Int} (t : Int) (h : x = y + 4294967296 * t) : x_w x = x_w y := by unfold x_w; omega
theorem x_w_ex (x : Int) : ∃ t, x_w x = x + 4294967296 * t := ⟨-((x + 2147483648) / 4294967296), by unfold x_w; omega⟩
theorem x_w_a1 (a b : Int) : x_w (x_w a + b) = x_w (a + b) := by
  obtain ⟨t, ht⟩ := x_w_ex a; exact x_w_cg t (by omega)
theorem x_w_a2 (a b : Int) : x_w (a + x_w b) = x_w (a + b) := by
  obtain ⟨t, ht⟩ := x_w_ex b; exact x_w_cg t (by omega)
theorem x_ix {a b : Int} (ha : 0 ≤ a) (ha2 : a < 100) (hb : 0 ≤ b) (hb2 : b < 100) : x_w (x_w (a * 3) + b) = 3 * a + b := by unfold x_w; omega
/-- products of small numbers -/
theorem x_mb {a b A B : Int} (ha : -A ≤ a ∧ a ≤ A) (hb : -B ≤ b ∧ b ≤ B) : -(A * B) ≤ a * b ∧ a * b ≤ A * B := by
  have h1 : a.natAbs ≤ A.natAbs := by omega
  have h2 : b.natAbs ≤ B.natAbs := by omega
  have h3 : (a * b).natAbs ≤ A.natAbs * B.natAbs := by rw [Int.natAbs_mul]; exact Nat.mul_le_mul h1 h2
  have h4 : A.natAbs * B.natAbs = (A * B).natAbs := (Int.natAbs_mul A B).symm
  have h5 : 0 ≤ A * B := Int.mul_nonneg (by omega) (by omega)
  omega
theorem x_all2 {P : Nat → Nat → Bool} (n m : Nat) (h : (List.range n).all (fun s => (List.range m).all (P s)) = true) : ∀ s, s < n → ∀ i, i < m → P s i = true := by
  intro s hs i hi
  exact List.all_eq_true.mp (List.all_eq_true.mp h s (List.mem_range.mpr hs)) i (List.mem_range.mpr hi)
theorem x_all1 {P : Nat → Bool} (n : Nat) (h : (List.range n).all P = true) : ∀ s, s < n → P s = true := by
  intro s hs
  exact List.all_eq_true.mp h s (List.mem_range.mpr hs)
theorem x_bit {s i : Nat} (hs : s < 1024) (hi : i < 10) : x_iand (x_ishr s i) 1 = ((s / 2 ^ i % 2 : Nat) : Int) := of_decide_eq_true (x_all2 (P := fun s i => decide (x_iand (x_ishr (s : Int) (i : Int)) 1 = ((s / 2 ^ i % 2 : Nat) : Int))) 1024 10 (by decide +kernel) s hs i hi)
theorem x_or {s k : Nat} (hk : k < 10) (hs : s < 2 ^ k) : x_ior s (x_ishl 1 k) = ((s + 2 ^ k : Nat) : Int) := by
  have h2 : (2 : Nat) ^ k ≤ 2 ^ 9 := Nat.pow_le_pow_right (by omega) (by omega)
  have h := x_all2 (P := fun s k => !(decide (s < 2 ^ k)) || decide (x_ior (s : Int) (x_ishl 1 (k : Int)) = ((s + 2 ^ k : Nat) : Int))) 512 10 (by decide +kernel) s (by omega) k hk
  simp only [hs, decide_true, Bool.not_true, Bool.false_or, decide_eq_true_eq] at h
  exact h
theorem x_or0 {s : Nat} (hs : s < 1024) : x_ior s 0 = (s : Int) := of_decide_eq_true (x_all1 (P := fun s => decide (x_ior (s : Int) 0 = (s : Int))) 1024 (by decide +kernel) s hs)
theorem x_shl {k : Nat} (hk : k < 11) : x_ishl 1 k = ((2 ^ k : Nat) : Int) := of_decide_eq_true (x_all1 (P := fun k => decide (x_ishl 1 (k : Int) = ((2 ^ k : Nat) : Int))) 11 (by decide +kernel) k hk)
theorem x_sub1 {s t : Nat} (hs : s < 128) (ht : t < 128) : x_iand s (x_ixor t (-1)) = 0 ↔ s &&& t = s := of_decide_eq_true (x_all2 (P := fun s t => decide (x_iand (s : Int) (x_ixor (t : Int) (-1)) = 0 ↔ s &&& t = s)) 128 128 (by decide +kernel) s hs t ht)
theorem x_sub2 {s t : Nat} (hs : s < 128) (ht : t < 128) : x_iand t s = s ↔ s &&& t = s := of_decide_eq_true (x_all2 (P := fun s t => decide (x_iand (t : Int) (s : Int) = (s : Int) ↔ s &&& t = s)) 128 128 (by decide +kernel) s hs t ht)
theorem x_out {d s : Nat} (hd : d < 8) (hs : s < 2 ^ d) : x_iand (x_w (x_ishl 1 d - 1)) (x_ixor s (-1)) = ((2 ^ d - 1 - s : Nat) : Int) := by
  have h2 : (2 : Nat) ^ d ≤ 2 ^ 7 := Nat.pow_le_pow_right (by omega) (by omega)
  have h := x_all2 (P := fun d s => !(decide (s < 2 ^ d)) || decide (x_iand (x_w (x_ishl 1 (d : Int) - 1)) (x_ixor (s : Int) (-1)) = ((2 ^ d - 1 - s : Nat) : Int))) 8 128 (by decide +kernel) d hd s (by omega)
  simp only [hs, decide_true, Bool.not_true, Bool.false_or, decide_eq_true_eq] at h
  exact h
/-- the set of the numbers below n that are P's -/
def x_set (P : Nat → Bool) : Nat → Nat
  | 0 => 0
  | n + 1 => x_set P n + if P n then 2 ^ n else 0
theorem x_set_lt (P : Nat → Bool) (n : Nat) : x_set P n < 2 ^ n := by
  induction n with
  | zero => exact Nat.zero_lt_one
  | succ n ih => unfold x_set; rw [Nat.pow_succ]; split <;> omega
theorem x_set_bit (P : Nat → Bool) (n i : Nat) (hi : i < n) : x_set P n / 2 ^ i % 2 = if P i then 1 else 0 := by
  induction n with
  | zero => omega
  | succ n ih =>
    unfold x_set
    have hp : 0 < 2 ^ i := Nat.pow_pos (by omega)
    by_cases h : i < n
    · rw [← ih h]
      split
      · have e : 2 ^ n = 2 ^ (n - i - 1) * 2 * 2 ^ i := by
          rw [Nat.mul_assoc, ← Nat.pow_succ', ← Nat.pow_add]
          congr 1; omega
        rw [e, Nat.add_mul_div_right _ _ hp]
        omega
      · rfl
    · have e : i = n := by omega
      subst e
      have hl := x_set_lt P i
      split
      · rw [show x_set P i + 2 ^ i = x_set P i + 1 * 2 ^ i by omega, Nat.add_mul_div_right _ _ hp, Nat.div_eq_of_lt hl]
      · rw [Nat.add_zero, Nat.div_eq_of_lt hl]
theorem x_set_cg {P P' : Nat → Bool} (n : Nat) (h : ∀ i, i < n → P i = P' i) : x_set P n = x_set P' n := by
  induction n with
  | zero => rfl
  | succ n ih => unfold x_set; rw [ih (fun i hi => h i (by omega)), h n (by omega)]
/-- how many of a set are below i; the l-th of a set -/
def x_cn (s : Nat) : Nat → Nat
  | 0 => 0
  | i + 1 => x_cn s i + s / 2 ^ i % 2
def x_nb (s l : Nat) : Nat := (List.range 7).countP (fun i => decide (x_cn s (i + 1) ≤ l))
theorem x_nb_cn {s i : Nat} (hs : s < 128) (hi : i < 7) (hb : s / 2 ^ i % 2 = 1) : x_nb s (x_cn s i) = i := by
  have h := x_all2 (P := fun s i => !(decide (s / 2 ^ i % 2 = 1)) || decide (x_nb s (x_cn s i) = i)) 128 7 (by decide +kernel) s hs i hi
  simp only [hb, decide_true, Bool.not_true, Bool.false_or, decide_eq_true_eq] at h
  exact h
theorem x_cn_nb {s l : Nat} (hs : s < 128) (hl : l < x_cn s 7) : x_nb s l < 7 ∧ s / 2 ^ (x_nb s l) % 2 = 1 ∧ x_cn s (x_nb s l) = l := by
  have h7 : x_cn s 7 < 8 := of_decide_eq_true (x_all1 (P := fun s => decide (x_cn s 7 < 8)) 128 (by decide +kernel) s hs)
  have h := x_all2 (P := fun s l => !(decide (l < x_cn s 7)) || decide (x_nb s l < 7 ∧ s / 2 ^ (x_nb s l) % 2 = 1 ∧ x_cn s (x_nb s l) = l)) 128 8 (by decide +kernel) s hs l (by omega)
  simp only [hl, decide_true, Bool.not_true, Bool.false_or, decide_eq_true_eq] at h
  exact h
theorem x_cn_st (s i : Nat) : x_cn s i ≤ x_cn s (i + 1) := Nat.le_add_right _ _
theorem x_cn_le (s : Nat) {i j : Nat} (h : i ≤ j) : x_cn s i ≤ x_cn s j := by
  induction h with
  | refl => exact Nat.le_refl _
  | step _ ih => exact Nat.le_trans ih (x_cn_st s _)
theorem x_cn_hi {s p : Nat} (hs : s < 2 ^ p) {j : Nat} (h : p ≤ j) : x_cn s j = x_cn s p := by
  induction h with
  | refl => rfl
  | step h ih =>
    rename_i k
    show x_cn s k + s / 2 ^ k % 2 = x_cn s p
    have : 2 ^ p ≤ 2 ^ k := Nat.pow_le_pow_right (by omega) h
    rw [ih, Nat.div_eq_of_lt (by omega), Nat.zero_mod, Nat.add_zero]
section LB
variable {l : Launch} {E : xE} {M : xM} {Q : Option xV → xM → Prop}
def x_bc (a0 : Int) : Int :=
  let v1 := x_w (a0 - (x_iand (x_iushr a0 1) 1431655765))
  let v2 := x_w ((x_iand v1 858993459) + (x_iand (x_iushr v1 2) 858993459))
  let v3 := x_iand (x_w (v2 + (x_iushr v2 4))) 252645135
  let v4 := x_w (v3 + (x_iushr v3 8))
  let v5 := x_w (v4 + (x_iushr v4 16))
  x_iand v5 63
theorem x_bc_cn {s : Nat} (hs : s < 128) : x_bc s = (x_cn s 7 : Int) := of_decide_eq_true (x_all1 (P := fun s => decide (x_bc (s : Int) = (x_cn s 7 : Int))) 128 (by decide +kernel) s hs)
theorem c_bitCount (s : Nat) (hs : s < 128) (h : Q (some (0, (x_cn s 7 : Int))) M) : x_Ev l E (1, 0, 0) m_J6_bitCount_0f7a4 0 [(0, (s : Int))] [] M Q := by
  refine u_J6_bitCount_0f7a4_0 (s : Int) ?_
  intro v1 h1 v2 h2 v3 h3 v4 h4 v5 h5
  subst h1 h2 h3 h4 h5
  have e := x_bc_cn hs
  unfold x_bc at e
  simp only [] at e
  rw [e]
  exact h
end LB
