/-! Prices, apart from any memory -/
def p_W (F : xM) (p q : Int) (s : Nat) (i : Int) : Int := p_x (p_Cw F s) (p_Rw F p q) i
def p_Y (F : xM) (p q : Int) (s : Nat) (r : Int) : Int := if s / 2 ^ r.toNat % 2 = 1 then p_W F p q s (x_cn s r.toNat) else 0
def p_gs (F : xM) (Y : Int → Int) (j : Int) : Int := x_sm (fun r => Y r * F 2 (3 * r + j)) (F 0 3).toNat
def p_arep (F : xM) (p q : Int) (Y : Int → Int) (b : Int) : Prop := (∀ r, 0 ≤ r → r < F 0 3 → 0 ≤ Y r) ∧ ∀ j, 0 ≤ j → j < F 0 2 → p_du F p q j * b ≤ p_gs F Y j
def p_dtg (F : xM) (p q : Int) (Y : Int → Int) (b : Int) (i : Nat) : Bool := if (i : Int) < F 0 3 then decide (Y i = 0) else decide (p_gs F Y (i - F 0 3) = p_du F p q (i - F 0 3) * b)
def p_dtS (F : xM) (p q : Int) (Y : Int → Int) (b : Int) : Nat := x_set (p_dtg F p q Y b) (p_pr F)
def p_co (F : xM) (Y : Int → Int) : Int := x_sm (fun r => Y r * F 3 r) (F 0 3).toNat
def p_dok (F : xM) (p q : Int) (s : Nat) : Prop := (x_cn s 7 : Int) = F 0 2 ∧ p_d3 (p_C F s) ≠ 0 ∧ p_arep F p q (p_Y F p q s) (p_b (p_C F s))
def p_tau (F : xM) (p q : Int) (s : Nat) : Nat := p_dtS F p q (p_Y F p q s) (p_b (p_C F s))
theorem q_re (f : Int → Int) (s N : Nat) : x_sm f (x_cn s N) = x_sm (fun i => if s / 2 ^ i.toNat % 2 = 1 then f (x_cn s i.toNat) else 0) N := by
  induction N with
  | zero => rfl
  | succ N ih =>
    show x_sm f (x_cn s N + s / 2 ^ N % 2) = x_sm _ N + (if s / 2 ^ ((N : Int)).toNat % 2 = 1 then f (x_cn s ((N : Int)).toNat) else 0)
    rw [← ih, Int.toNat_natCast]
    by_cases c : s / 2 ^ N % 2 = 1
    · rw [if_pos c, c]
      rfl
    · rw [if_neg c, show s / 2 ^ N % 2 = 0 by omega, Nat.add_zero, Int.add_zero]
theorem x_sm_split (h : Int → Int) (a b : Nat) : x_sm h (a + b) = x_sm h a + x_sm (fun j => h (a + j)) b := by
  induction b with
  | zero =>
    show x_sm h a = x_sm h a + 0
    omega
  | succ b ih =>
    show x_sm h (a + b) + h ((a + b : Nat) : Int) = x_sm h a + (x_sm (fun j => h (a + j)) b + h (a + b))
    rw [ih, show (((a + b : Nat)) : Int) = (a : Int) + b by omega]
    omega
theorem p_b_Cw (F : xM) (s : Nat) : p_b (p_Cw F s) = p_b (p_C F s) := by
  unfold p_b
  rw [p_Cw_d]
theorem p_dual_eq {F : xM} (hF : p_wf F) {p q : Int} {s : Nat} (hs : s < 2 ^ p_pr F) (hp : (x_cn s 7 : Int) = F 0 2) {g : Int} (hg : 0 ≤ g ∧ g < F 0 2) : p_gs F (p_Y F p q s) g + (if s / 2 ^ (F 0 3 + g).toNat % 2 = 1 then p_W F p q s (x_cn s (F 0 3 + g).toNat) else 0) = p_du F p q g * p_b (p_C F s) := by
  have hgd := hF.2.2.1
  have hr := hF.2.2.2.1
  have h7 := p_pr_le hF
  obtain ⟨G, hG⟩ : ∃ G : Nat, F 0 2 = G := ⟨(F 0 2).toNat, by omega⟩
  obtain ⟨R, hR⟩ : ∃ R : Nat, F 0 3 = R := ⟨(F 0 3).toNat, by omega⟩
  have hpr : p_pr F = R + G := by unfold p_pr; omega
  have cr := p_cramer (p_Cw F s) (p_Rw F p q) g hg.1 (by omega)
  -- the lines' sum
  have e1 : x_sm (fun i => p_ce F (x_nb s i.toNat) g * p_W F p q s i) G = p_du F p q g * p_b (p_C F s) := by
    have cw : ∀ i : Int, 0 ≤ i → i < 3 → p_Cw F s (3 * g + i) = if i < F 0 2 then p_ce F (x_nb s i.toNat) g else 0 := by
      intro i i1 i2
      unfold p_Cw
      rw [show (3 * g + i) / 3 = g by omega, show (3 * g + i) % 3 = i by omega]
      by_cases c : i < F 0 2
      · rw [if_pos (by omega), if_pos c]
      · rw [if_neg (c := g < F 0 2 ∧ i < F 0 2) (by omega), if_neg (c := g = i) (by omega), if_neg c]
    have rw' : p_Rw F p q g = p_du F p q g := by unfold p_Rw; rw [if_pos hg.2]
    have c0 := cw 0 (by omega) (by omega)
    rw [Int.add_zero] at c0
    rw [c0, cw 1 (by omega) (by omega), cw 2 (by omega) (by omega), rw'] at cr
    have bb : p_b (p_C F s) = p_d3 (p_Cw F s) * p_sg (p_d3 (p_Cw F s)) := by rw [← p_b_Cw]; rfl
    rw [bb]
    have wd : ∀ i, p_W F p q s i = p_d3 (p_rc (p_Cw F s) (p_Rw F p q) i) * p_sg (p_d3 (p_Cw F s)) := fun i => rfl
    have : p_du F p q g * (p_d3 (p_Cw F s) * p_sg (p_d3 (p_Cw F s))) = (p_du F p q g * p_d3 (p_Cw F s)) * p_sg (p_d3 (p_Cw F s)) := by grind
    rw [this, ← cr]
    have hG3 : G = 1 ∨ G = 2 ∨ G = 3 := by omega
    rcases hG3 with e | e | e <;> subst e <;> simp [hG, x_sm, wd] <;> grind
  have eG : x_cn s (p_pr F) = G := by
    have := x_cn_hi (s := s) (p := p_pr F) hs (j := 7) (by omega)
    omega
  have e2 := q_re (fun i => p_ce F (x_nb s i.toNat) g * p_W F p q s i) s (p_pr F)
  rw [eG, e1, hpr, x_sm_split] at e2
  rw [e2, hR]
  -- rows
  have r1 : x_sm (fun i => if s / 2 ^ i.toNat % 2 = 1 then p_ce F (x_nb s ((x_cn s i.toNat : Int)).toNat) g * p_W F p q s (x_cn s i.toNat) else 0) R = p_gs F (p_Y F p q s) g := by
    unfold p_gs
    rw [hR, Int.toNat_natCast]
    refine x_sm_cg _ (fun i i1 i2 => ?_)
    show (if s / 2 ^ i.toNat % 2 = 1 then p_ce F (x_nb s ((x_cn s i.toNat : Int)).toNat) g * p_W F p q s (x_cn s i.toNat) else 0) = p_Y F p q s i * F 2 (3 * i + g)
    unfold p_Y
    by_cases c : s / 2 ^ i.toNat % 2 = 1
    · rw [if_pos c, if_pos c, Int.toNat_natCast, x_nb_cn (by omega) (by omega) c]
      unfold p_ce
      rw [if_neg (by omega), show ((i.toNat : Nat) : Int) = i by omega]
      exact Int.mul_comm _ _
    · rw [if_neg c, if_neg c, Int.zero_mul]
  have r2 : x_sm (fun j => (fun i : Int => if s / 2 ^ i.toNat % 2 = 1 then p_ce F (x_nb s ((x_cn s i.toNat : Int)).toNat) g * p_W F p q s (x_cn s i.toNat) else 0) ((R : Int) + j)) G = if s / 2 ^ ((R : Int) + g).toNat % 2 = 1 then p_W F p q s (x_cn s ((R : Int) + g).toNat) else 0 := by
    rw [← x_sm_one (X := fun j => if s / 2 ^ ((R : Int) + j).toNat % 2 = 1 then p_W F p q s (x_cn s ((R : Int) + j).toNat) else 0) g G hg.1 (by omega)]
    refine x_sm_cg _ (fun j j1 j2 => ?_)
    show (if s / 2 ^ ((R : Int) + j).toNat % 2 = 1 then p_ce F (x_nb s ((x_cn s ((R : Int) + j).toNat : Int)).toNat) g * p_W F p q s (x_cn s ((R : Int) + j).toNat) else 0) = (if g = j then 1 else 0) * (if s / 2 ^ ((R : Int) + j).toNat % 2 = 1 then p_W F p q s (x_cn s ((R : Int) + j).toNat) else 0)
    by_cases c : s / 2 ^ ((R : Int) + j).toNat % 2 = 1
    · rw [if_pos c, if_pos c, Int.toNat_natCast, x_nb_cn (by omega) (by omega) c]
      unfold p_ce
      rw [if_pos (by omega)]
      congr 1
      exact x_ite_cg (by omega) _ _
    · rw [if_neg c, if_neg c, Int.mul_zero]
  rw [← r1, ← r2]
theorem p_fea {F : xM} (hF : p_wf F) {p q : Int} {s : Nat} (hs : s < 2 ^ p_pr F) (hp : (x_cn s 7 : Int) = F 0 2) : p_arep F p q (p_Y F p q s) (p_b (p_C F s)) ↔ ∀ i : Nat, i < p_pr F → s / 2 ^ i % 2 = 1 → ((i : Int) < F 0 3 → 0 ≤ p_W F p q s (x_cn s i)) ∧ (F 0 3 ≤ (i : Int) → p_W F p q s (x_cn s i) ≤ 0) := by
  have hgd := hF.2.2.1
  have hr := hF.2.2.2.1
  unfold p_pr
  constructor
  · intro ⟨a1, a2⟩ i hi hb
    refine ⟨fun c => ?_, fun c => ?_⟩
    · have := a1 i (by omega) c
      unfold p_Y at this
      rw [Int.toNat_natCast, if_pos hb] at this
      exact this
    · have e := p_dual_eq hF (p := p) (q := q) hs hp (g := i - F 0 3) (by omega)
      have a := a2 (i - F 0 3) (by omega) (by omega)
      rw [show F 0 3 + ((i : Int) - F 0 3) = i by omega, Int.toNat_natCast, if_pos hb] at e
      omega
  · intro h
    refine ⟨fun r r1 r2 => ?_, fun j j1 j2 => ?_⟩
    · unfold p_Y
      by_cases c : s / 2 ^ r.toNat % 2 = 1
      · rw [if_pos c]; exact (h r.toNat (by omega) c).1 (by omega)
      · rw [if_neg c]; exact Int.le_refl _
    · have e := p_dual_eq hF (p := p) (q := q) hs hp (g := j) (by omega)
      by_cases c : s / 2 ^ (F 0 3 + j).toNat % 2 = 1
      · rw [if_pos c] at e
        have := (h (F 0 3 + j).toNat (by omega) c).2 (by omega)
        omega
      · rw [if_neg c] at e
        omega
theorem p_dtg_eq {F : xM} (hF : p_wf F) {p q : Int} {s : Nat} (hs : s < 2 ^ p_pr F) (hp : (x_cn s 7 : Int) = F 0 2) {i : Nat} (hi : i < p_pr F) : p_dtg F p q (p_Y F p q s) (p_b (p_C F s)) i = decide (s / 2 ^ i % 2 = 1 → p_W F p q s (x_cn s i) = 0) := by
  have hgd := hF.2.2.1
  have hr := hF.2.2.2.1
  unfold p_pr at hi
  unfold p_dtg
  by_cases c : (i : Int) < F 0 3
  · rw [if_pos c]
    unfold p_Y
    rw [Int.toNat_natCast]
    by_cases d : s / 2 ^ i % 2 = 1
    · rw [if_pos d]
      exact decide_eq_decide.mpr ⟨fun w _ => w, fun w => w d⟩
    · rw [if_neg d]
      exact decide_eq_decide.mpr ⟨fun _ w => absurd w d, fun _ => rfl⟩
  · rw [if_neg c]
    have e := p_dual_eq hF (p := p) (q := q) hs hp (g := i - F 0 3) (by omega)
    rw [show F 0 3 + ((i : Int) - F 0 3) = i by omega, Int.toNat_natCast] at e
    by_cases d : s / 2 ^ i % 2 = 1
    · rw [if_pos d] at e
      exact decide_eq_decide.mpr ⟨fun w _ => by omega, fun w => by have := w d; omega⟩
    · rw [if_neg d] at e
      exact decide_eq_decide.mpr ⟨fun _ w => absurd w d, fun _ => by omega⟩
theorem p_W_bd {F : xM} (hF : p_wf F) {p q : Int} (hpq : p_tm p q) {s : Nat} (hs : s < 128) : ∀ i, 0 ≤ i → i < 3 → -61992000000 ≤ p_W F p q s i ∧ p_W F p q s i ≤ 61992000000 := by
  have hnb := hF.2.2.2.2.2.1
  have hgd := hF.2.2.1
  have hr := hF.2.2.2.1
  have cb : ∀ k, 0 ≤ k → k < 9 → -3 ≤ p_Cw F s k ∧ p_Cw F s k ≤ 3 := by
    intro k k1 k2
    unfold p_Cw
    split
    · unfold p_ce
      split
      · split <;> omega
      · exact hnb _ (by omega) (by omega)
    · split <;> omega
  have rb : ∀ k, 0 ≤ k → k < 3 → -1148000000 ≤ p_Rw F p q k ∧ p_Rw F p q k ≤ 1148000000 := by
    intro k k1 k2
    unfold p_Rw
    split
    · exact p_du_bd hF hpq ⟨k1, k2⟩
    · omega
  intro i i1 i2
  have := p_rc_bd (B := 1148000000) (R := p_Rw F p q) cb rb i1 i2
  unfold p_W p_x p_sg
  split <;> omega
theorem p_Y_bd {F : xM} (hF : p_wf F) {p q : Int} (hpq : p_tm p q) {s : Nat} (hs : s < 2 ^ p_pr F) (hp : (x_cn s 7 : Int) = F 0 2) : ∀ r, 0 ≤ r → r < 7 → -61992000000 ≤ p_Y F p q s r ∧ p_Y F p q s r ≤ 61992000000 := by
  have h7 := p_pr_le hF
  have hgd := hF.2.2.1
  intro r r1 r2
  unfold p_Y
  by_cases c : s / 2 ^ r.toNat % 2 = 1
  · rw [if_pos c]
    have h1 : x_cn s (r.toNat + 1) = x_cn s r.toNat + s / 2 ^ r.toNat % 2 := rfl
    have h2 := x_cn_le s (i := r.toNat + 1) (j := 7) (by omega)
    exact p_W_bd hF hpq (by omega) _ (by omega) (by omega)
  · rw [if_neg c]; omega
