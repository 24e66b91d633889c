/-! Which fraction is greater -/
theorem p_cmp_neg {a b c d : Int} (h : a - b = d - c) : p_cmp c d = - p_cmp a b ∨ p_cmp c d = p_cmp a b := by
  unfold p_cmp
  by_cases h1 : a < b
  · rw [if_pos h1, if_neg (by omega), if_neg (by omega)]; omega
  · by_cases h2 : a = b
    · rw [if_neg h1, if_pos h2, if_neg (by omega), if_pos (by omega)]; omega
    · rw [if_neg h1, if_neg h2, if_pos (by omega)]; omega
theorem p_cmp_cases (x y : Int) : (x < y ∧ p_cmp x y = -1) ∨ (x = y ∧ p_cmp x y = 0) ∨ (y < x ∧ p_cmp x y = 1) := by
  unfold p_cmp
  by_cases h1 : x < y
  · rw [if_pos h1]; omega
  · by_cases h2 : x = y
    · rw [if_neg h1, if_pos h2]; omega
    · rw [if_neg h1, if_neg h2]; omega
theorem p_quo {p q r s : Int} (hq : 0 < q) (hs : 0 < s) : (p / q < r / s → p * s < r * q) ∧ (r / s < p / q → r * q < p * s) ∧ (p / q = r / s → p * s - r * q = p % q * s - r % s * q) := by
  have e1 := Int.emod_add_mul_ediv p q
  have e2 := Int.emod_add_mul_ediv r s
  have m1 := Int.emod_nonneg p (show q ≠ 0 by omega)
  have m2 := Int.emod_lt_of_pos p hq
  have m3 := Int.emod_nonneg r (show s ≠ 0 by omega)
  have m4 := Int.emod_lt_of_pos r hs
  generalize p % q = x at *
  generalize p / q = t at *
  generalize r % s = y at *
  generalize r / s = u at *
  have hqs := Int.mul_pos hq hs
  refine ⟨fun h => ?_, fun h => ?_, fun h => ?_⟩
  · have a1 := Int.mul_nonneg (show 0 ≤ u - t - 1 by omega) (show 0 ≤ q * s by omega)
    have a2 := Int.mul_pos hs (show 0 < q - x by omega)
    have a3 := Int.mul_nonneg m3 (show 0 ≤ q by omega)
    have e : r * q - p * s = (u - t - 1) * (q * s) + s * (q - x) + y * q := by rw [← e1, ← e2]; grind
    omega
  · have a1 := Int.mul_nonneg (show 0 ≤ t - u - 1 by omega) (show 0 ≤ q * s by omega)
    have a2 := Int.mul_pos hq (show 0 < s - y by omega)
    have a3 := Int.mul_nonneg m1 (show 0 ≤ s by omega)
    have e : p * s - r * q = (t - u - 1) * (q * s) + q * (s - y) + x * s := by rw [← e1, ← e2]; grind
    omega
  · rw [← e1, ← e2, h]; grind
section OR
variable {l : Launch} {E : xE} {Q : Option xV → xM → Prop} {M : xM}
theorem c_ord_step (a0 a1 a2 a3 : Int) {p q r s sg i R : Int} (hp : -4000000000000000000 ≤ p ∧ p ≤ 4000000000000000000) (hr : -4000000000000000000 ≤ r ∧ r ≤ 4000000000000000000) (hq : 0 < q ∧ q ≤ 4000000000000000000) (hs : 0 < s ∧ s ≤ 4000000000000000000) (hsg : sg = 1 ∨ sg = -1) (hi : 0 ≤ i ∧ i < 100) (hR : R = sg * p_cmp (p * s) (r * q)) (h : Q (some (0, R)) M)
    (cont : 0 < p % q → 0 < r % s → R = (-sg) * p_cmp (q * (r % s)) (s * (p % q)) → x_Ev l E (2, 0, 0) m_X2_order 20 [(1, a0), (5, 0), (1, a1), (5, 0), (1, a2), (5, 0), (1, a3), (5, 0), (1, q), (5, 0), (1, p % q), (5, 0), (1, s), (5, 0), (1, r % s), (5, 0), (0, -sg), (0, i + 1), (5, 0), (5, 0), (5, 0), (5, 0), (5, 0), (5, 0), (5, 0), (5, 0)] [] M Q) :
    x_Ev l E (2, 0, 0) m_X2_order 20 [(1, a0), (5, 0), (1, a1), (5, 0), (1, a2), (5, 0), (1, a3), (5, 0), (1, p), (5, 0), (1, q), (5, 0), (1, r), (5, 0), (1, s), (5, 0), (0, sg), (0, i), (5, 0), (5, 0), (5, 0), (5, 0), (5, 0), (5, 0), (5, 0), (5, 0)] [] M Q := by
  obtain ⟨k1, k2, k3⟩ := p_quo (p := p) (r := r) hq.1 hs.1
  have e1 := Int.emod_add_mul_ediv p q
  have e2 := Int.emod_add_mul_ediv r s
  have m1 := Int.emod_nonneg p (show q ≠ 0 by omega)
  have m2 := Int.emod_lt_of_pos p hq.1
  have m3 := Int.emod_nonneg r (show s ≠ 0 by omega)
  have m4 := Int.emod_lt_of_pos r hs.1
  have cc := p_cmp_cases (p * s) (r * q)
  refine u_X2_order_20 _ _ _ _ p q r s sg i ⟨fun c => by omega, fun _ => ⟨fun c => by omega, fun _ => ⟨fun c => by omega, fun _ => ?_⟩⟩⟩
  refine c_floorDiv p q ⟨by omega, by omega⟩ ⟨hq.1, by omega⟩ ⟨_, rfl, c_floorDiv r s ⟨by omega, by omega⟩ ⟨hs.1, by omega⟩ ⟨_, rfl, fun c => ?_, fun c => ⟨fun d => ?_, fun d => ?_⟩⟩⟩
  · intro v hv v2 hv2
    have k3' := k3 c
    rw [Int.mul_comm (p / q) q, x_W_id (x := q * (p / q)) (by omega) (by omega), x_W_id (by omega) (by omega)] at hv
    rw [Int.mul_comm (r / s) s, x_W_id (x := s * (r / s)) (by omega) (by omega), x_W_id (by omega) (by omega)] at hv2
    have hv' : v = p % q := by omega
    have hv2' : v2 = r % s := by omega
    clear hv hv2
    subst hv' hv2'
    have fin : (p % q = 0 ∨ r % s = 0) → x_Ev l E (1, 0, 0) m_J13_compare_74951 0 [(1, p % q), (5, 0), (1, r % s), (5, 0)] [] M (fun r zM7 => ∃ zr8, r = some (0, zr8) ∧ Q (some (0, (x_w (zr8 * sg)))) zM7) := by
      intro hz
      have sgn : (p % q < r % s → p * s < r * q) ∧ (p % q = r % s → p * s = r * q) ∧ (r % s < p % q → r * q < p * s) := by
        rcases hz with z | z
        · rw [z] at k3' ⊢
          refine ⟨fun w => ?_, fun w => ?_, fun w => by omega⟩
          · have := Int.mul_pos w hq.1
            omega
          · rw [← w] at k3'; omega
        · rw [z] at k3' ⊢
          refine ⟨fun w => by omega, fun w => ?_, fun w => ?_⟩
          · rw [w] at k3'; omega
          · have := Int.mul_pos w hs.1
            omega
      refine c_cmp _ _ (fun d => ⟨_, rfl, ?_⟩) (fun d => ⟨_, rfl, ?_⟩) (fun d => ⟨_, rfl, ?_⟩)
      · have := sgn.1 d
        have e : p_cmp (p * s) (r * q) = -1 := by omega
        rw [e] at hR
        rw [x_w_id (by omega) (by omega), show -1 * sg = R by omega]; exact h
      · have := sgn.2.1 d
        have e : p_cmp (p * s) (r * q) = 0 := by omega
        rw [e] at hR
        rw [x_w_id (by omega) (by omega), show 0 * sg = R by omega]; exact h
      · have := sgn.2.2 d
        have e : p_cmp (p * s) (r * q) = 1 := by omega
        rw [e] at hR
        rw [x_w_id (by omega) (by omega), show 1 * sg = R by omega]; exact h
    refine ⟨fun z => fin (Or.inl z), fun z => ⟨fun z2 => ?_, fun z2 => fin (Or.inr z2)⟩⟩
    intro v hv v2 hv2
    rw [x_w_id (by omega) (by omega)] at hv hv2
    subst hv hv2
    refine cont (by omega) (by omega) ?_
    rw [hR]
    have cn := p_cmp_cases (q * (r % s)) (s * (p % q))
    have f1 : q * (r % s) = r % s * q := Int.mul_comm _ _
    have f2 : s * (p % q) = p % q * s := Int.mul_comm _ _
    have e : p_cmp (q * (r % s)) (s * (p % q)) = - p_cmp (p * s) (r * q) := by omega
    rw [e]
    rcases hsg with w | w <;> subst w <;> omega
  · have := k1 (by omega)
    have e : p_cmp (p * s) (r * q) = -1 := by omega
    rw [e] at hR
    rw [x_w_id (by omega) (by omega), show -sg = R by omega]; exact h
  · have := k2 (by omega)
    have e : p_cmp (p * s) (r * q) = 1 := by omega
    rw [e] at hR
    rw [show sg = R by omega]; exact h
theorem c_ord_loop (a0 a1 a2 a3 : Int) {R : Int} (h : Q (some (0, R)) M) : ∀ (k : Nat) (p q r s sg i : Int), q < ((2 ^ k : Nat) : Int) → -4000000000000000000 ≤ p ∧ p ≤ 4000000000000000000 → -4000000000000000000 ≤ r ∧ r ≤ 4000000000000000000 → 0 < q ∧ q ≤ 4000000000000000000 → 0 < s ∧ s ≤ 4000000000000000000 → (sg = 1 ∨ sg = -1) → 0 ≤ i → i + 2 * k ≤ 100 → R = sg * p_cmp (p * s) (r * q) → x_Ev l E (2, 0, 0) m_X2_order 20 [(1, a0), (5, 0), (1, a1), (5, 0), (1, a2), (5, 0), (1, a3), (5, 0), (1, p), (5, 0), (1, q), (5, 0), (1, r), (5, 0), (1, s), (5, 0), (0, sg), (0, i), (5, 0), (5, 0), (5, 0), (5, 0), (5, 0), (5, 0), (5, 0), (5, 0)] [] M Q := by
  intro k
  induction k with
  | zero => intro p q r s sg i hk hp hr hq; rw [Nat.pow_zero] at hk; omega
  | succ k ih =>
    intro p q r s sg i hk hp hr hq hs hsg hi hik hR
    refine c_ord_step a0 a1 a2 a3 hp hr hq hs hsg (by omega) hR h (fun x0 y0 hR2 => ?_)
    have m2 := Int.emod_lt_of_pos p hq.1
    have m4 := Int.emod_lt_of_pos r hs.1
    refine c_ord_step a0 a1 a2 a3 (by omega) (by omega) (by omega) (by omega) (by omega) (by omega) hR2 h (fun x1 y1 hR3 => ?_)
    have n1 := Int.emod_add_mul_ediv q (p % q)
    have n2 := Int.emod_lt_of_pos q x0
    have n4 := Int.emod_lt_of_pos s y0
    have n3 : 1 ≤ q / (p % q) := Int.le_ediv_of_mul_le x0 (by omega)
    have n5 := Int.mul_le_mul_of_nonneg_left n3 (show 0 ≤ p % q by omega)
    rw [Nat.pow_succ] at hk
    exact ih (p % q) (q % (p % q)) (r % s) (s % (r % s)) (- -sg) (i + 1 + 1) (by omega) (by omega) (by omega) (by omega) (by omega) (by omega) (by omega) (by omega) hR3
theorem c_ord {a b c d : Int} (ha : -4000000000000000000 ≤ a ∧ a ≤ 4000000000000000000) (hb : 0 < b ∧ b < 562949953421312) (hc : -4000000000000000000 ≤ c ∧ c ≤ 4000000000000000000) (hd : 0 < d ∧ d ≤ 4000000000000000000) (h : Q (some (0, p_cmp (a * d) (c * b))) M) : x_Ev l E (2, 0, 0) m_X2_order 0 [(1, a), (5, 0), (1, b), (5, 0), (1, c), (5, 0), (1, d), (5, 0), (5, 0), (5, 0), (5, 0), (5, 0), (5, 0), (5, 0), (5, 0), (5, 0), (5, 0), (5, 0), (5, 0), (5, 0), (5, 0), (5, 0), (5, 0), (5, 0), (5, 0), (5, 0)] [] M Q := by
  have h49 : (2 : Nat) ^ 49 = 562949953421312 := by decide
  exact u_X2_order_0 a b c d (c_ord_loop a b c d h 49 a b c d 1 0 (by rw [h49]; omega) ha hc (by omega) hd (Or.inl rfl) (by omega) (by omega) (by omega))
theorem c_orderTo {t o : Int} (ha : -4000000000000000000 ≤ M t 0 ∧ M t 0 ≤ 4000000000000000000) (hb : 0 < M t 1 ∧ M t 1 < 562949953421312) (hc : -4000000000000000000 ≤ M o 0 ∧ M o 0 ≤ 4000000000000000000) (hd : 0 < M o 1 ∧ M o 1 ≤ 4000000000000000000) (h : Q (some (0, p_cmp (M t 0 * M o 1) (M o 0 * M t 1))) M) : x_Ev l E (3, 0, 0) m_X2_orderTo 0 [(12, t), (12, o)] [] M Q :=
  u_X2_orderTo_0 t o (c_ord ha hb hc hd ⟨_, rfl, h⟩)
theorem c_compare {a b c d : Int} (ha : -4000000000000000000 ≤ a ∧ a ≤ 4000000000000000000) (hb : 0 < b ∧ b ≤ 4000000000000000000) (hc : -4000000000000000000 ≤ c ∧ c ≤ 4000000000000000000) (hd : 0 < d ∧ d ≤ 4000000000000000000) (h : Q (some (0, p_cmp (a * d) (c * b))) M) : x_Ev l E (2, 0, 0) m_X11_compare 0 [(1, a), (5, 0), (1, b), (5, 0), (1, c), (5, 0), (1, d), (5, 0), (5, 0), (5, 0), (5, 0), (5, 0), (5, 0), (5, 0), (5, 0), (5, 0), (5, 0), (5, 0), (5, 0), (5, 0), (5, 0), (5, 0), (5, 0), (5, 0), (5, 0)] [] M Q := by
  have main : ∀ (k : Nat) (p q r s sg : Int), q ≤ k → -4000000000000000000 ≤ p ∧ p ≤ 4000000000000000000 → -4000000000000000000 ≤ r ∧ r ≤ 4000000000000000000 → 0 < q ∧ q ≤ 4000000000000000000 → 0 < s ∧ s ≤ 4000000000000000000 → (sg = 1 ∨ sg = -1) → p_cmp (a * d) (c * b) = sg * p_cmp (p * s) (r * q) → x_Ev l E (2, 0, 0) m_X11_compare 17 [(1, a), (5, 0), (1, b), (5, 0), (1, c), (5, 0), (1, d), (5, 0), (1, p), (5, 0), (1, q), (5, 0), (1, r), (5, 0), (1, s), (5, 0), (0, sg), (5, 0), (5, 0), (5, 0), (5, 0), (5, 0), (5, 0), (5, 0), (5, 0)] [] M Q := by
    generalize p_cmp (a * d) (c * b) = R at h
    intro k
    induction k with
    | zero => intro p q r s sg hk hp hr hq; omega
    | succ k ih =>
      intro p q r s sg hk hp hr hq hs hsg hR
      obtain ⟨k1, k2, k3⟩ := p_quo (p := p) (r := r) hq.1 hs.1
      have e1 := Int.emod_add_mul_ediv p q
      have e2 := Int.emod_add_mul_ediv r s
      have m1 := Int.emod_nonneg p (show q ≠ 0 by omega)
      have m2 := Int.emod_lt_of_pos p hq.1
      have m3 := Int.emod_nonneg r (show s ≠ 0 by omega)
      have m4 := Int.emod_lt_of_pos r hs.1
      have cc := p_cmp_cases (p * s) (r * q)
      refine u_X11_compare_17 a b c d p q r s sg ?_
      refine c_floorDiv p q ⟨by omega, by omega⟩ ⟨hq.1, by omega⟩ ⟨_, rfl, c_floorDiv r s ⟨by omega, by omega⟩ ⟨hs.1, by omega⟩ ⟨_, rfl, fun w => ?_, fun w => ⟨fun z => ?_, fun z => ?_⟩⟩⟩
      · intro v hv v2 hv2
        have k3' := k3 w
        rw [Int.mul_comm (p / q) q, x_W_id (x := q * (p / q)) (by omega) (by omega), x_W_id (by omega) (by omega)] at hv
        rw [Int.mul_comm (r / s) s, x_W_id (x := s * (r / s)) (by omega) (by omega), x_W_id (by omega) (by omega)] at hv2
        have hv' : v = p % q := by omega
        have hv2' : v2 = r % s := by omega
        clear hv hv2
        subst hv' hv2'
        refine ⟨fun z => ⟨fun z2 => ?_, fun z2 => ?_⟩, fun z => ⟨fun z2 => ?_, fun z2 => ⟨fun z3 => ?_, fun z3 => by omega⟩⟩⟩
        · have t := Int.mul_pos (show 0 < r % s by omega) hq.1
          rw [z] at k3'
          have e : p_cmp (p * s) (r * q) = -1 := by omega
          rw [e] at hR
          rw [x_w_id (by omega) (by omega), show -sg = R by omega]; exact h
        · have z4 : r % s = 0 := by omega
          rw [z, z4] at k3'
          have e : p_cmp (p * s) (r * q) = 0 := by omega
          rw [e] at hR
          rw [show (0 : Int) = R by omega]; exact h
        · intro v hv
          rw [x_w_id (by omega) (by omega)] at hv
          subst hv
          refine ih q (p % q) s (r % s) (-sg) (by omega) (by omega) (by omega) (by omega) (by omega) (by omega) ?_
          rw [hR]
          have cn := p_cmp_cases (q * (r % s)) (s * (p % q))
          have f1 : q * (r % s) = r % s * q := Int.mul_comm _ _
          have f2 : s * (p % q) = p % q * s := Int.mul_comm _ _
          have e : p_cmp (q * (r % s)) (s * (p % q)) = - p_cmp (p * s) (r * q) := by omega
          rw [e]
          rcases hsg with w | w <;> subst w <;> omega
        · have t := Int.mul_pos (show 0 < p % q by omega) hs.1
          rw [z2] at k3'
          have e : p_cmp (p * s) (r * q) = 1 := by omega
          rw [e] at hR
          rw [show sg = R by omega]; exact h
      · have := k2 (by omega)
        have e : p_cmp (p * s) (r * q) = 1 := by omega
        rw [e] at hR
        rw [show sg = R by omega]; exact h
      · have := k1 (by omega)
        have e : p_cmp (p * s) (r * q) = -1 := by omega
        rw [e] at hR
        rw [x_w_id (by omega) (by omega), show -sg = R by omega]; exact h
  exact u_X11_compare_0 a b c d (main b.toNat a b c d 1 (by omega) ha hc hb hd (Or.inl rfl) (by omega))
end OR
