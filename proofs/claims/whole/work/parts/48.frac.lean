/-! Fractions in lowest terms -/
def p_g (a b : Int) : Int := (Int.gcd a b : Int)
def p_nu (a b : Int) : Int := a / p_g a b
def p_de (a b : Int) : Int := b / p_g a b
theorem p_g_pos {a b : Int} (hb : 0 < b) : 0 < p_g a b := by
  unfold p_g
  have : 0 < Int.gcd a b := Int.gcd_pos_of_ne_zero_right a (by omega)
  omega
theorem p_g_le {a b : Int} (hb : 0 < b) : p_g a b ≤ b := by
  unfold p_g
  exact Int.le_of_dvd hb (Int.gcd_dvd_right a b)
theorem p_nu_mul (a b : Int) : p_nu a b * p_g a b = a := Int.ediv_mul_cancel (Int.gcd_dvd_left a b)
theorem p_de_mul (a b : Int) : p_de a b * p_g a b = b := Int.ediv_mul_cancel (Int.gcd_dvd_right a b)
theorem p_de_pos {a b : Int} (hb : 0 < b) : 0 < p_de a b := by
  have h1 := p_de_mul a b
  have h2 := p_g_pos (a := a) hb
  apply Classical.byContradiction
  intro h
  have := Int.mul_le_mul_of_nonneg_right (show p_de a b ≤ 0 by omega) (show 0 ≤ p_g a b by omega)
  omega
theorem p_de_le {a b : Int} (hb : 0 < b) : p_de a b ≤ b := by
  have h1 := p_de_mul a b
  have h2 := p_g_pos (a := a) hb
  have h3 := p_de_pos (a := a) hb
  have := Int.mul_le_mul_of_nonneg_left (show 1 ≤ p_g a b by omega) (show 0 ≤ p_de a b by omega)
  omega
theorem p_nu_bd {a b B : Int} (hb : 0 < b) (ha : -B ≤ a ∧ a ≤ B) : -B ≤ p_nu a b ∧ p_nu a b ≤ B := by
  have h1 := p_nu_mul a b
  have h2 := p_g_pos (a := a) hb
  generalize p_nu a b = x at *
  generalize p_g a b = g at *
  have h3 : x.natAbs ≤ a.natAbs := by
    rw [← h1, Int.natAbs_mul]
    exact Nat.le_mul_of_pos_right _ (by omega)
  omega
theorem p_nd_cop {a b : Int} (hb : 0 < b) : Int.gcd (p_nu a b) (p_de a b) = 1 := by
  have h2 := p_g_pos (a := a) hb
  have h : 0 < Int.gcd a b := by unfold p_g at h2; omega
  exact Int.gcd_ediv_gcd_ediv_gcd h
theorem p_cop {y x w : Int} (h : Int.gcd y x = 1) (d : y ∣ x * w) : y ∣ w := by
  have h1 : y.natAbs ∣ x.natAbs * w.natAbs := by rw [← Int.natAbs_mul]; exact Int.natAbs_dvd_natAbs.mpr d
  have h2 : Nat.Coprime y.natAbs x.natAbs := h
  exact Int.natAbs_dvd_natAbs.mp (h2.dvd_of_dvd_mul_left h1)
theorem p_red {a b c d : Int} (hb : 0 < b) (hd : 0 < d) (h : a * d = c * b) : p_nu a b = p_nu c d ∧ p_de a b = p_de c d := by
  have a1 := p_nu_mul a b
  have a2 := p_de_mul a b
  have a3 := p_g_pos (a := a) hb
  have a4 := p_de_pos (a := a) hb
  have a5 := p_nd_cop (a := a) hb
  have b1 := p_nu_mul c d
  have b2 := p_de_mul c d
  have b3 := p_g_pos (a := c) hd
  have b4 := p_de_pos (a := c) hd
  have b5 := p_nd_cop (a := c) hd
  generalize p_nu a b = x at *
  generalize p_de a b = y at *
  generalize p_g a b = g at *
  generalize p_nu c d = z at *
  generalize p_de c d = w at *
  generalize p_g c d = k at *
  have key : x * w = z * y := by
    have e : x * w * (g * k) = z * y * (g * k) := by
      rw [← a1, ← a2, ← b1, ← b2] at h
      grind
    exact Int.eq_of_mul_eq_mul_right (by have := Int.mul_pos a3 b3; omega) e
  have d1 : y ∣ w := by
    have : y ∣ x * w := ⟨z, by rw [key]; exact Int.mul_comm _ _⟩
    exact p_cop (by rw [Int.gcd_comm]; exact a5) this
  have d2 : w ∣ y := by
    have : w ∣ z * y := ⟨x, by rw [← key]; exact Int.mul_comm _ _⟩
    exact p_cop (by rw [Int.gcd_comm]; exact b5) this
  have e1 := Int.le_of_dvd b4 d1
  have e2 := Int.le_of_dvd a4 d2
  have e3 : y = w := by omega
  refine ⟨?_, e3⟩
  rw [← e3] at key
  exact Int.eq_of_mul_eq_mul_right (by omega) key
/-- a fraction in lowest terms stays -/
theorem p_red1 {a b : Int} (hb : 0 < b) (h : Int.gcd a b = 1) : p_nu a b = a ∧ p_de a b = b := by
  unfold p_nu p_de p_g
  rw [h]
  exact ⟨Int.ediv_one a, Int.ediv_one b⟩
def p_cmp (x y : Int) : Int := if x < y then -1 else if x = y then 0 else 1
theorem x_tdiv_ex {a g : Int} (h : a / g * g = a) (hg : 0 < g) : a.tdiv g = a / g := by
  obtain ⟨k, hk⟩ : ∃ k, a = k * g := ⟨a / g, h.symm⟩
  rw [hk, Int.mul_tdiv_cancel _ (by omega), Int.mul_ediv_cancel _ (by omega)]
section FR
variable {l : Launch} {E : xE} {Q : Option xV → xM → Prop} {M : xM}
theorem c_gcd_loop (a0 a1 : Int) {G : Nat} (h : Q (some (1, (G : Int))) M) : ∀ (k : Nat) (x y : Nat) (i : Int), y < 2 ^ k → 0 ≤ i → i + 2 * k ≤ 100 → Nat.gcd x y = G → x_Ev l E (1, 0, 0) m_X2_commonDivisor 20 [(1, a0), (5, 0), (1, a1), (5, 0), (1, (x : Int)), (5, 0), (1, (y : Int)), (5, 0), (0, i), (5, 0), (5, 0)] [] M Q := by
  have fin : ∀ (x y : Nat), y = 0 → Nat.gcd x y = G → Q (some (1, (x : Int))) M := by
    intro x y hy hg
    rw [hy, Nat.gcd_zero_right] at hg
    rw [hg]; exact h
  intro k
  induction k with
  | zero =>
    intro x y i hy hi hk hg
    have y0 : y = 0 := by
      rw [Nat.pow_zero] at hy; omega
    exact u_X2_commonDivisor_20 _ _ _ _ i ⟨fun _ => fin x y y0 hg, fun _ => ⟨fun _ => fin x y y0 hg, fun c => absurd (by omega) c⟩⟩
  | succ k ih =>
    intro x y i hy hi hk hg
    refine u_X2_commonDivisor_20 _ _ _ _ i ⟨fun c => by omega, fun _ => ⟨fun c => fin x y (by omega) hg, fun c => ⟨c, ?_⟩⟩⟩
    intro v hv v2 hv2
    rw [x_w_id (by omega) (by omega)] at hv2
    rw [← Int.ofNat_tmod] at hv
    subst hv hv2
    have hy0 : 0 < y := by omega
    have hr : x % y < y := Nat.mod_lt x hy0
    have hg1 : Nat.gcd y (x % y) = G := by rw [← hg, Nat.gcd_comm x y, Nat.gcd_rec y x, Nat.gcd_comm]
    refine u_X2_commonDivisor_20 _ _ _ _ (i + 1) ⟨fun c => by omega, fun _ => ⟨fun c => fin y (x % y) (by omega) hg1, fun c => ⟨c, ?_⟩⟩⟩
    intro v hv v2 hv2
    rw [x_w_id (by omega) (by omega)] at hv2
    rw [← Int.ofNat_tmod] at hv
    subst hv hv2
    have hr0 : 0 < x % y := by omega
    have hr2 : y % (x % y) < x % y := Nat.mod_lt y hr0
    have hq : x % y * (y / (x % y)) + y % (x % y) = y := Nat.div_add_mod y (x % y)
    have hq1 : 1 ≤ y / (x % y) := (Nat.one_le_div_iff hr0).mpr (by omega)
    have hq2 : x % y * 1 ≤ x % y * (y / (x % y)) := Nat.mul_le_mul_left _ hq1
    refine ih (x % y) (y % (x % y)) (i + 1 + 1) ?_ (by omega) (by omega) ?_
    · rw [Nat.pow_succ] at hy
      omega
    · rw [← hg1, Nat.gcd_comm y (x % y), Nat.gcd_rec (x % y) y, Nat.gcd_comm]
theorem c_gcd {a b : Int} (ha : -9000000000000000000 ≤ a ∧ a ≤ 9000000000000000000) (hb : 0 ≤ b ∧ b < 562949953421312) (h : Q (some (1, p_g a b)) M) : x_Ev l E (1, 0, 0) m_X2_commonDivisor 0 [(1, a), (5, 0), (1, b), (5, 0), (5, 0), (5, 0), (5, 0), (5, 0), (5, 0), (5, 0), (5, 0)] [] M Q := by
  have hg : Nat.gcd a.natAbs b.natAbs = Int.gcd a b := rfl
  have e2 : ((b.natAbs : Nat) : Int) = b := by omega
  have h49 : (2 : Nat) ^ 49 = 562949953421312 := by decide
  refine u_X2_commonDivisor_0 a b ⟨fun c => ?_, fun c => ?_⟩
  · have e1 : ((a.natAbs : Nat) : Int) = a := by omega
    have := c_gcd_loop (l := l) (E := E) (Q := Q) (M := M) a b h 49 a.natAbs b.natAbs 0 (by omega) (by omega) (by omega) hg
    rw [e1, e2] at this
    exact this
  · intro v hv
    rw [x_W_id (by omega) (by omega)] at hv
    have e1 : ((a.natAbs : Nat) : Int) = v := by omega
    have := c_gcd_loop (l := l) (E := E) (Q := Q) (M := M) a b h 49 a.natAbs b.natAbs 0 (by omega) (by omega) (by omega) hg
    rw [e1, e2] at this
    exact this
theorem c_Rgcd_loop (a0 a1 : Int) {G : Nat} (h : Q (some (1, (G : Int))) M) : ∀ (k : Nat) (x y : Nat), y < k → Nat.gcd x y = G → x_Ev l E (1, 0, 0) m_X11_divisor 28 [(1, a0), (5, 0), (1, a1), (5, 0), (1, (x : Int)), (5, 0), (1, (y : Int)), (5, 0), (5, 0), (5, 0)] [] M Q := by
  intro k
  induction k with
  | zero => intro x y hy; omega
  | succ k ih =>
    intro x y hy hg
    refine u_X11_divisor_28 _ _ _ _ ⟨fun c => ?_, fun c => ⟨c, ?_⟩⟩
    · have y0 : y = 0 := by omega
      rw [y0, Nat.gcd_zero_right] at hg
      rw [hg]; exact h
    · intro v hv
      rw [← Int.ofNat_tmod] at hv
      subst hv
      have hy0 : 0 < y := by omega
      have hr : x % y < y := Nat.mod_lt x hy0
      exact ih y (x % y) (by omega) (by rw [← hg, Nat.gcd_comm x y, Nat.gcd_rec y x, Nat.gcd_comm])
theorem c_Rgcd {a b : Int} (ha : -9000000000000000000 ≤ a ∧ a ≤ 9000000000000000000) (hb : -9000000000000000000 ≤ b ∧ b ≤ 9000000000000000000) (h : Q (some (1, p_g a b)) M) : x_Ev l E (1, 0, 0) m_X11_divisor 0 [(1, a), (5, 0), (1, b), (5, 0), (5, 0), (5, 0), (5, 0), (5, 0), (5, 0), (5, 0)] [] M Q := by
  have hg : Nat.gcd a.natAbs b.natAbs = Int.gcd a b := rfl
  have go : ∀ x y : Int, x = (a.natAbs : Int) → y = (b.natAbs : Int) → x_Ev l E (1, 0, 0) m_X11_divisor 28 [(1, a), (5, 0), (1, b), (5, 0), (1, x), (5, 0), (1, y), (5, 0), (5, 0), (5, 0)] [] M Q := by
    intro x y hx hy
    subst hx hy
    exact c_Rgcd_loop a b h (b.natAbs + 1) a.natAbs b.natAbs (by omega) hg
  refine u_X11_divisor_0 a b ⟨fun c => ⟨fun d => go a b (by omega) (by omega), fun d => ?_⟩, fun c => ?_⟩
  · intro v hv
    rw [x_W_id (by omega) (by omega)] at hv
    exact go a v (by omega) (by omega)
  · intro v hv
    rw [x_W_id (by omega) (by omega)] at hv
    refine ⟨fun d => go v b (by omega) (by omega), fun d => ?_⟩
    intro v2 hv2
    rw [x_W_id (by omega) (by omega)] at hv2
    exact go v v2 (by omega) (by omega)
theorem c_put {t a b : Int} (ha : -9000000000000000000 ≤ a ∧ a ≤ 9000000000000000000) (hb : 0 < b ∧ b < 562949953421312) (h : ∀ M1 : xM, M1 t 0 = p_nu a b → M1 t 1 = p_de a b → (∀ a, a ≠ t → M1 a = M a) → Q none M1) : x_Ev l E (2, 0, 0) m_X2_put 0 [(12, t), (1, a), (5, 0), (1, b), (5, 0), (5, 0), (5, 0)] [] M Q := by
  have hg := p_g_pos (a := a) hb.1
  have hd := p_de_pos (a := a) hb.1
  have hd2 := p_de_le (a := a) hb.1
  have hn := p_nu_bd (B := 9000000000000000000) hb.1 ha
  have t1 : a.tdiv (p_g a b) = p_nu a b := x_tdiv_ex (p_nu_mul a b) hg
  have t2 : b.tdiv (p_g a b) = p_de a b := x_tdiv_ex (p_de_mul a b) hg
  refine u_X2_put_0 t a b (c_gcd ha (by omega) ⟨_, rfl, fun c => by omega, fun _ => ⟨by omega, ?_⟩⟩)
  rw [t1, t2, x_W_id (by omega) (by omega), x_W_id (by omega) (by omega)]
  intro M1 hM1
  refine ⟨by omega, ?_⟩
  intro M2 hM2
  subst hM1 hM2
  refine h _ ?_ (x_wr_eq ..) (fun a ha => ?_)
  · rw [x_wr_ne _ _ (by omega), x_wr_eq]
  · rw [x_wr_fr _ _ _ ha, x_wr_fr _ _ _ ha]
theorem c_side {t p : Int} (hp : p = 0 ∨ p = 1) (h : Q (some (1, if p = 0 then M t 0 else M t 1)) M) : x_Ev l E (1, 0, 0) m_X2_side 0 [(12, t), (0, p)] [] M Q := by
  refine u_X2_side_0 t p ⟨fun c => ?_, fun c => ?_⟩
  · rw [if_neg c] at h; exact h
  · rw [if_pos c] at h; exact h
theorem c_take {t o : Int} (ho : t ≠ o) (h : ∀ M1 : xM, M1 t 0 = M o 0 → M1 t 1 = M o 1 → (∀ a, a ≠ t → M1 a = M a) → Q none M1) : x_Ev l E (1, 0, 0) m_X2_take 0 [(12, t), (12, o)] [] M Q := by
  refine u_X2_take_0 t o ?_
  intro M1 hM1 M2 hM2
  have e1 : M1 o 1 = M o 1 := by rw [hM1, x_wr_ne _ _ (by omega)]
  rw [e1] at hM2
  subst hM2
  refine h _ ?_ (x_wr_eq ..) (fun a ha => ?_)
  · rw [x_wr_ne _ _ (by omega), hM1, x_wr_eq]
  · rw [x_wr_fr _ _ _ ha, hM1, x_wr_fr _ _ _ ha]
theorem c_part {a b p : Int} (hp : p = 0 ∨ p = 1) (ha : -9000000000000000000 ≤ a ∧ a ≤ 9000000000000000000) (hb : 0 < b ∧ b ≤ 9000000000000000000) (h : Q (some (1, if p = 0 then p_nu a b else p_de a b)) M) : x_Ev l E (2, 0, 0) m_X11_part 0 [(1, a), (5, 0), (1, b), (5, 0), (0, p), (5, 0), (5, 0)] [] M Q := by
  have hg := p_g_pos (a := a) hb.1
  have hd := p_de_pos (a := a) hb.1
  have hd2 := p_de_le (a := a) hb.1
  have hn := p_nu_bd (B := 9000000000000000000) hb.1 ha
  have t1 : a.tdiv (p_g a b) = p_nu a b := x_tdiv_ex (p_nu_mul a b) hg
  have t2 : b.tdiv (p_g a b) = p_de a b := x_tdiv_ex (p_de_mul a b) hg
  refine u_X11_part_0 a b p (c_Rgcd ha (by omega) ⟨_, rfl, fun c => ⟨by omega, ?_⟩, fun c => ⟨by omega, ?_⟩⟩)
  · rw [t2, x_W_id (by omega) (by omega)]
    rw [if_neg c] at h; exact h
  · rw [t1, x_W_id (by omega) (by omega)]
    rw [if_pos c] at h; exact h
end FR
