/-! Contracts of the JDK's own methods and of the smallest ones -/
theorem x_lxor_sign {a b : Int} (ha : x_rg 1 a) (hb : x_rg 1 b) : 0 ≤ x_lxor a b ↔ (0 ≤ a ↔ 0 ≤ b) := by
  have key : ∀ x : Int64, (0 ≤ x.toInt ↔ x.toBitVec.msb = false) := by
    intro x
    have h := BitVec.msb_eq_toInt (x := x.toBitVec)
    show 0 ≤ x.toBitVec.toInt ↔ _
    rw [h]
    simp
  have h1 := key (Int64.ofInt a)
  have h2 := key (Int64.ofInt b)
  rw [x_inL ha] at h1
  rw [x_inL hb] at h2
  unfold x_lxor
  rw [key, h1, h2, Int64.toBitVec_xor, BitVec.msb_xor]
  cases (Int64.ofInt a).toBitVec.msb <;> cases (Int64.ofInt b).toBitVec.msb <;> simp
section LF
variable {l : Launch} {E : xE} {M : xM} {Q : Option xV → xM → Prop}
theorem c_min (a0 a1 : Int) (h : Q (some (0, if a1 < a0 then a1 else a0)) M) : x_Ev l E (1, 0, 0) m_J9_min_7cf53 0 [(0, a0), (0, a1)] [] M Q := by
  refine u_J9_min_7cf53_0 a0 a1 ⟨fun c => ?_, fun c => ?_⟩
  · rw [if_pos c] at h; exact h
  · rw [if_neg c] at h; exact h
theorem c_cmp (a0 a1 : Int) (h1 : a0 < a1 → Q (some (0, -1)) M) (h0 : a0 = a1 → Q (some (0, 0)) M) (h2 : a1 < a0 → Q (some (0, 1)) M) : x_Ev l E (1, 0, 0) m_J13_compare_74951 0 [(1, a0), (5, 0), (1, a1), (5, 0)] [] M Q :=
  u_J13_compare_74951_0 a0 a1 ⟨fun c => ⟨fun d => h2 (by omega), fun d => h0 d⟩, fun c => h1 (by omega)⟩
theorem x_tdiv_rg {a b : Int} (ha : x_rg 1 a) (hb : 0 < b) : x_rg 1 (a.tdiv b) ∧ x_rg 1 (a.tdiv b * b) ∧ (¬ a.tdiv b * b = a → x_rg 1 (a.tdiv b - 1)) ∧ (0 ≤ a → a.tdiv b = a / b) ∧ (¬ 0 ≤ a → a.tdiv b * b = a → a.tdiv b = a / b) ∧ (¬ 0 ≤ a → ¬ a.tdiv b * b = a → a.tdiv b - 1 = a / b) := by
  obtain ⟨q1, q2⟩ := ha
  have hm := Int.tmod_add_mul_tdiv a b
  have h3 := Int.tmod_lt_of_pos a hb
  have h4 := Int.lt_tmod_of_pos a hb
  rw [Int.mul_comm] at hm
  have e1 : 0 ≤ a → 0 ≤ a.tmod b := fun h => Int.tmod_nonneg b h
  have e2 : a ≤ 0 → a.tmod b ≤ 0 := fun h => by
    have := Int.tmod_nonneg b (a := -a) (by omega)
    rw [Int.neg_tmod] at this; omega
  have e3 : 0 ≤ a → 0 ≤ a.tdiv b := fun h => Int.tdiv_nonneg h (by omega)
  have e4 : a ≤ 0 → a.tdiv b ≤ 0 := fun h => by
    have := Int.tdiv_nonneg (a := -a) (b := b) (by omega) (by omega)
    rw [Int.neg_tdiv] at this; omega
  have e5 : 0 ≤ a.tdiv b → a.tdiv b ≤ a.tdiv b * b := fun h => by
    have := Int.mul_le_mul_of_nonneg_left (show (1 : Int) ≤ b by omega) h
    omega
  have e6 : a.tdiv b ≤ 0 → a.tdiv b * b ≤ a.tdiv b := fun h => by
    have := Int.mul_le_mul_of_nonneg_left (show (1 : Int) ≤ b by omega) (show (0 : Int) ≤ -(a.tdiv b) by omega)
    rw [Int.neg_mul, Int.neg_mul, Int.mul_one] at this
    omega
  have hd : ∀ q r : Int, a = q * b + r → 0 ≤ r → r < b → a / b = q := fun q r h h0 hr => by
    rw [h, Int.add_comm, Int.add_mul_ediv_right r q (by omega), Int.ediv_eq_zero_of_lt h0 hr]; omega
  by_cases h0 : 0 ≤ a
  · have := e1 h0; have := e3 h0; have := e5 (e3 h0)
    refine ⟨⟨by omega, by omega⟩, ⟨by omega, by omega⟩, fun _ => ⟨by omega, by omega⟩, fun _ => (hd _ (a.tmod b) (by omega) (by omega) h3).symm, fun h => absurd h0 h, fun h => absurd h0 h⟩
  · have := e2 (by omega); have := e4 (by omega); have := e6 (e4 (by omega))
    refine ⟨⟨by omega, by omega⟩, ⟨by omega, by omega⟩, fun _ => ⟨by omega, by omega⟩, fun h => absurd h h0, fun _ h => (hd _ 0 (by omega) (by omega) hb).symm, fun _ h => (hd _ (a.tmod b + b) ?_ (by omega) (by omega)).symm⟩
    rw [Int.sub_mul]
    omega
theorem c_floorDiv (a0 a1 : Int) (ha : x_rg 1 a0) (hb : 0 < a1 ∧ a1 < 9223372036854775808) (h : Q (some (1, a0 / a1)) M) : x_Ev l E (1, 0, 0) m_J9_floorDiv_f86c9 0 [(1, a0), (5, 0), (1, a1), (5, 0), (5, 0), (5, 0)] [] M Q := by
  obtain ⟨t1, t2, t3, t4, t5, t6⟩ := x_tdiv_rg ha hb.1
  refine u_J9_floorDiv_f86c9_0 a0 a1 ⟨by omega, ?_⟩
  intro v hv
  rw [x_W_id t1.1 t1.2] at hv
  subst hv
  have hs := x_lxor_sign ha (b := a1) ⟨by omega, hb.2⟩
  rw [x_W_id t2.1 t2.2]
  refine ⟨fun c => ?_, fun c => ⟨fun d => ?_, fun d => ?_⟩⟩
  · rw [t4 ((hs.mp c).mpr (by omega))]; exact h
  · have hn : ¬ 0 ≤ a0 := fun q => c (hs.mpr ⟨fun _ => by omega, fun _ => q⟩)
    rw [t5 hn d]; exact h
  · have hn : ¬ 0 ≤ a0 := fun q => c (hs.mpr ⟨fun _ => by omega, fun _ => q⟩)
    rw [x_W_id (t3 d).1 (t3 d).2, t6 hn d]; exact h
end LF
