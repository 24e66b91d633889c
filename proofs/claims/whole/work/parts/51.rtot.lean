/-! The reference's sums -/
theorem p_lcm {u w t K : Int} (h : Int.gcd u w = 1) (h1 : u * t ∣ K) (h2 : w * t ∣ K) (ht : 0 < t) : u * (w * t) ∣ K := by
  obtain ⟨x, hx⟩ := h1
  obtain ⟨y, hy⟩ := h2
  have e : u * x = w * y := by
    have : u * x * t = w * y * t := by grind
    exact Int.eq_of_mul_eq_mul_right (by omega) this
  have d : w ∣ u * x := ⟨y, e⟩
  obtain ⟨z, hz⟩ := p_cop (by rw [Int.gcd_comm]; exact h) d
  exact ⟨z, by rw [hx, hz]; grind⟩
/-- the reference's world: followers and their plans -/
def p_RW (M : xM) (Fs : Nat → xM) (m : Nat) : Prop := M 103 0 = m ∧ m ≤ 3 ∧ ∀ f : Nat, f < m → p_wf (Fs f) ∧ p_RS M f (Fs f) (p_n (Fs f)) (p_TT (Fs f))
section TO
variable {l : Launch} {E : xE} {Q : Option xV → xM → Prop}
theorem c_adds {M : xM} {N K a b N' K' : Int} (hs : M 103 15 = p_nu N K) (hs2 : M 103 16 = p_de N K) (hK : 0 < K) (hb : 0 < b ∧ b ≤ 4000000000000000000) (ha : -4000000000000000000 ≤ a ∧ a ≤ 4000000000000000000) (hd1 : K ∣ K') (hd2 : b ∣ K') (hK' : 0 < K' ∧ K' ≤ 4000000000000000000) (hN' : -4000000000000000000 ≤ N' ∧ N' ≤ 4000000000000000000) (he : N' * (K * b) = (N * b + a * K) * K')
    (h : ∀ M1 : xM, M1 103 15 = p_nu N' K' → M1 103 16 = p_de N' K' → (∀ a k, ¬ (a = 103 ∧ (k = 15 ∨ k = 16)) → M1 a k = M a k) → Q none M1) : x_Ev l E (2, 0, 0) m_X11_adds 0 [(21, 103), (1, a), (5, 0), (1, b), (5, 0), (5, 0), (5, 0), (5, 0), (5, 0), (5, 0), (5, 0), (5, 0), (5, 0), (5, 0), (5, 0), (5, 0), (5, 0), (5, 0), (5, 0)] [] M Q := by
  have g1 := p_g_pos (a := a) hb.1
  have d1 := p_de_pos (a := a) hb.1
  have d1l := p_de_le (a := a) hb.1
  have n1 := p_nu_bd (B := 4000000000000000000) hb.1 ha
  have n1m := p_nu_mul a b
  have d1m := p_de_mul a b
  have t1 : a.tdiv (p_g a b) = p_nu a b := x_tdiv_ex n1m g1
  have t2 : b.tdiv (p_g a b) = p_de a b := x_tdiv_ex d1m g1
  have sg := p_g_pos (a := N) hK
  have sB := p_de_pos (a := N) hK
  have sAm := p_nu_mul N K
  have sBm := p_de_mul N K
  have sBK : p_de N K ∣ K := ⟨p_g N K, sBm.symm⟩
  have dB : p_de a b ∣ b := ⟨p_g a b, d1m.symm⟩
  have sBl := Int.le_of_dvd hK'.1 (Int.dvd_trans sBK hd1)
  generalize hsA : p_nu N K = sA at *
  generalize hsB : p_de N K = s at *
  generalize hn : p_nu a b = n at *
  generalize hd : p_de a b = d at *
  have g2 := p_g_pos (a := s) d1
  have um := p_nu_mul s d
  have wm := p_de_mul s d
  have cop := p_nd_cop (a := s) d1
  have w0 := p_de_pos (a := s) d1
  have t3 : s.tdiv (p_g s d) = p_nu s d := x_tdiv_ex um g2
  have t4 : d.tdiv (p_g s d) = p_de s d := x_tdiv_ex wm g2
  have wl := p_de_le (a := s) d1
  have ul := p_nu_bd (a := s) (b := d) (B := 4000000000000000000) d1 (by omega)
  generalize hu : p_nu s d = u at *
  generalize hw : p_de s d = w at *
  generalize hbo : p_g s d = t at *
  have u0 : 0 < u := by
    apply Classical.byContradiction
    intro q
    have := Int.mul_le_mul_of_nonneg_right (show u ≤ 0 by omega) (show 0 ≤ t by omega)
    omega
  have hund : u * d ∣ K' := by
    have := p_lcm cop (K := K') (by rw [um]; exact Int.dvd_trans sBK hd1) (by rw [wm]; exact Int.dvd_trans dB hd2) g2
    rw [wm] at this
    exact this
  have und0 : 0 < u * d := Int.mul_pos u0 d1
  have undl := Int.le_of_dvd hK'.1 hund
  have key : (sA * w + n * u) * K' = N' * (u * d) := by
    have kb : 0 < K * b := Int.mul_pos hK hb.1
    have e1 : sA * K = N * s := by rw [← sAm, ← sBm]; grind
    have e2 : n * b = a * d := by rw [← n1m, ← d1m]; grind
    have e3 : (N * b + a * K) * (u * d) * t = K * b * (sA * w + n * u) * t := by
      have f1 : (N * b + a * K) * (u * d) * t = (N * s) * b * d + (a * d) * K * s := by rw [← um]; grind
      rw [f1, ← e1, ← e2]
      have f2 : K * b * (sA * w + n * u) * t = K * b * (sA * (w * t) + n * (u * t)) := by grind
      rw [f2, um, wm]
      grind
    have e4 := Int.eq_of_mul_eq_mul_right (by omega) e3
    refine Int.eq_of_mul_eq_mul_right (a := K * b) (by omega) ?_
    have e5 : (sA * w + n * u) * K' * (K * b) = K * b * (sA * w + n * u) * K' := by grind
    rw [e5, ← e4]
    have e6 : N' * (u * d) * (K * b) = N' * (K * b) * (u * d) := by grind
    rw [e6, he]
    grind
  have hov : -4000000000000000000 ≤ sA * w + n * u ∧ sA * w + n * u ≤ 4000000000000000000 := by
    have na : ((sA * w + n * u) * K').natAbs = (N' * (u * d)).natAbs := by rw [key]
    rw [Int.natAbs_mul, Int.natAbs_mul] at na
    have h1 : N'.natAbs * (u * d).natAbs ≤ N'.natAbs * K'.natAbs := Nat.mul_le_mul_left _ (by omega)
    rw [← na] at h1
    have h2 := Nat.le_of_mul_le_mul_right h1 (show 0 < K'.natAbs by omega)
    omega
  obtain ⟨r1, r2⟩ := p_red und0 hK'.1 key
  have g3 := p_g_pos (a := sA * w + n * u) und0
  have o1 := p_nu_bd (B := 4000000000000000000) und0 hov
  have o2 := p_de_pos (a := sA * w + n * u) und0
  have o3 := p_de_le (a := sA * w + n * u) und0
  have t5 : (sA * w + n * u).tdiv (p_g (sA * w + n * u) (u * d)) = p_nu (sA * w + n * u) (u * d) := x_tdiv_ex (p_nu_mul _ _) g3
  have t6 : (u * d).tdiv (p_g (sA * w + n * u) (u * d)) = p_de (sA * w + n * u) (u * d) := x_tdiv_ex (p_de_mul _ _) g3
  refine u_X11_adds_0 a b (c_Rgcd (by omega) (by omega) ⟨_, rfl, by omega, ?_⟩)
  rw [t1, t2, x_W_id (x := n) (by omega) (by omega), x_W_id (x := d) (by omega) (by omega)]
  intro v3 hv3
  refine ⟨by omega, ?_⟩
  intro v4 hv4
  rw [hv3, hv4, hs2]
  refine c_Rgcd (by omega) (by omega) ⟨_, rfl, ?_⟩
  rw [hbo, hs, hs2, t3, t4, x_W_id (x := u) (by omega) (by omega), x_W_id (x := w) (by omega) (by omega), x_W_a1, x_W_a2, x_W_id (x := sA * w + n * u) (by omega) (by omega), x_W_id (x := u * d) (by omega) (by omega)]
  refine ⟨by omega, by omega, ?_⟩
  intro v7 hv7
  refine ⟨by omega, ?_⟩
  intro v8 hv8
  subst hv7 hv8
  refine c_Rgcd (by omega) (by omega) ⟨_, rfl, by omega, ?_⟩
  rw [t5, t6, x_W_id (by omega) (by omega), x_W_id (by omega) (by omega)]
  intro M1 hM1
  refine ⟨by omega, ?_⟩
  intro M2 hM2
  subst hM1 hM2
  refine h _ ?_ ?_ (fun a k q => ?_)
  · rw [x_wr_ne _ _ (by omega), x_wr_eq, r1]
  · rw [x_wr_eq, r2]
  · rw [x_wr_ne _ _ (by omega), x_wr_ne _ _ (by omega)]
theorem p_RS_fr {M M1 : xM} {f : Int} (hf : 0 ≤ f ∧ f < 3) {F : xM} (hF : p_wf F) {n : Nat} {T : Int → Int → Int} (hS : p_RS M f F n T) (h : ∀ a k, (104 ≤ a ∧ a < 142) ∨ p_rt f a k → M1 a k = M a k) : p_RS M1 f F n T := by
  obtain ⟨h1, h2, h3, h4, h5⟩ := hS
  exact ⟨p_RF_fr hf hF h1 (fun a a1 a2 => by funext k; exact h a k (Or.inl ⟨a1, a2⟩)), p_rtab_fr (by omega) (fun a k w => h a k (Or.inr w)) h2, h3, h4, h5⟩
theorem p_RW_fr {M M1 : xM} {Fs : Nat → xM} {m : Nat} (hW : p_RW M Fs m) (h : ∀ a k, (a = 103 ∧ k = 0) ∨ (104 ≤ a ∧ a < 142) ∨ (149 ≤ a ∧ a ≤ 281) → M1 a k = M a k) : p_RW M1 Fs m := by
  obtain ⟨h1, h2, h3⟩ := hW
  refine ⟨by rw [h 103 0 (by omega)]; exact h1, h2, fun f hf => ⟨(h3 f hf).1, p_RS_fr (by omega) (h3 f hf).1 (h3 f hf).2 (fun a k w => h a k ?_)⟩⟩
  unfold p_rt at w
  omega
theorem c_totals (H10 : p_ten) (H1 : p_one) {M0 : xM} {Fs : Nat → xM} {m : Nat} (hW : p_RW M0 Fs m) {p q how : Int} (hpq : p_tm p q) (hh : how = 0 ∨ how = 1 ∨ how = 2) (h : ∀ M1 : xM, M1 103 15 = p_nu (p_acc (fun F e => p_gn F e p q) Fs p q how m).1 ((p_acc (fun F e => p_gn F e p q) Fs p q how m).2 * q) → M1 103 16 = p_de (p_acc (fun F e => p_gn F e p q) Fs p q how m).1 ((p_acc (fun F e => p_gn F e p q) Fs p q how m).2 * q) → (∀ a k, ¬ (a = 103 ∧ (k = 15 ∨ k = 16)) → M1 a k = M0 a k) → Q none M1) : x_Ev l E (5, 0, 0) m_X11_totals 0 [(21, 103), (1, p), (5, 0), (1, q), (5, 0), (0, how), (5, 0), (5, 0)] [] M0 Q := by
  have hm3 := hW.2.1
  have hq := hpq.2.2
  have hv : ∀ f, f < m → -1700000000000 ≤ p_gn (Fs f) (p_ae (Fs f) p q how) p q ∧ p_gn (Fs f) (p_ae (Fs f) p q how) p q ≤ 1700000000000 := fun f hf => p_gn_bd (hW.2.2 f hf).1 (p_ae_eb H10 H1 (hW.2.2 f hf).1 hh) hpq
  have hbd : ∀ k, k ≤ m → (-133844400000000000 ≤ (p_acc (fun F e => p_gn F e p q) Fs p q how k).1 ∧ (p_acc (fun F e => p_gn F e p q) Fs p q how k).1 ≤ 133844400000000000) ∧ 0 < (p_acc (fun F e => p_gn F e p q) Fs p q how k).2 ∧ (p_acc (fun F e => p_gn F e p q) Fs p q how k).2 ≤ 4251528 := fun k hk => p_acc_bd H10 H1 hh (by omega) (fun f hf => (hW.2.2 f (by omega)).1) (fun f hf => hv f (by omega))
  have main : ∀ (k f : Nat) (M : xM), m - f ≤ k → f ≤ m → M 103 15 = p_nu (p_acc (fun F e => p_gn F e p q) Fs p q how f).1 ((p_acc (fun F e => p_gn F e p q) Fs p q how f).2 * q) → M 103 16 = p_de (p_acc (fun F e => p_gn F e p q) Fs p q how f).1 ((p_acc (fun F e => p_gn F e p q) Fs p q how f).2 * q) → (∀ a k, ¬ (a = 103 ∧ (k = 15 ∨ k = 16)) → M a k = M0 a k) → x_Ev l E (5, 0, 0) m_X11_totals 7 [(21, 103), (1, p), (5, 0), (1, q), (5, 0), (0, how), (0, (f : Int)), (5, 0)] [] M Q := by
    intro k
    induction k with
    | zero =>
      intro f M hk hf h1 h2 hfr
      have ef : f = m := by omega
      subst ef
      exact u_X11_totals_7 p q how f ⟨fun _ => h M h1 h2 hfr, fun c => absurd (by rw [hfr 103 0 (by omega), hW.1]; omega) c⟩
    | succ k ih =>
      intro f M hk hf h1 h2 hfr
      by_cases hfm : f = m
      · exact ih f M (by omega) hf h1 h2 hfr
      have hWM : p_RW M Fs m := p_RW_fr hW (fun a k w => hfr a k (by omega))
      obtain ⟨q1, q2⟩ := hWM.2.2 f (by omega)
      have n10 := p_n10 H10 q1
      refine u_X11_totals_7 p q how f ⟨fun c => by rw [hWM.1] at c; omega, fun c => ?_⟩
      refine c_answer_ (by omega) q1 q2 hpq hh (fun c hc => ⟨_, rfl, ?_⟩)
      have hcn := hc.1
      have ec := p_ch_eq q1 hc
      have eE : p_TT (Fs f) (c : Int) = p_ae (Fs f) p q how := by unfold p_ae; rw [← ec]
      have er := q2.2.1.2 c (by omega) (by omega)
      rw [eE] at er
      have eb := p_ae_eb H10 H1 q1 (p := p) (q := q) hh
      have e3 := eb.2
      refine c_Rgain (by omega) q1 q2.1 (by omega) eb er hpq ⟨_, rfl, by omega, by omega, ?_⟩
      rw [show 274 + 1 + 1 * (f : Int) = 275 + f by omega, er.2.1]
      have mb := x_mb (a := p_ae (Fs f) p q how 3) (b := q) (A := 162) (B := 4000000) (by omega) (by omega)
      have mp := Int.mul_pos e3.1 (show 0 < q by omega)
      rw [x_W_id (x := p_ae (Fs f) p q how 3 * q) (by omega) (by omega)]
      have b0 := hbd f (by omega)
      have b1 := hbd (f + 1) (by omega)
      have kp := Int.mul_pos b0.2.1 (show 0 < q by omega)
      have kp1 := Int.mul_pos b1.2.1 (show 0 < q by omega)
      have kb1 := x_mb (a := (p_acc (fun F e => p_gn F e p q) Fs p q how (f + 1)).2) (b := q) (A := 4251528) (B := 4000000) (by omega) (by omega)
      have hvf := hv f (by omega)
      refine c_adds (N := (p_acc (fun F e => p_gn F e p q) Fs p q how f).1) (K := (p_acc (fun F e => p_gn F e p q) Fs p q how f).2 * q) (N' := (p_acc (fun F e => p_gn F e p q) Fs p q how (f + 1)).1) (K' := (p_acc (fun F e => p_gn F e p q) Fs p q how (f + 1)).2 * q) h1 h2 kp (by omega) (by omega) ?_ ?_ (by omega) (by omega) ?_ (fun M1 r1 r2 r3 => ⟨rfl, ?_⟩)
      · exact ⟨p_ae (Fs f) p q how 3, by show (p_acc _ Fs p q how f).2 * p_ae (Fs f) p q how 3 * q = _; grind⟩
      · exact ⟨(p_acc (fun F e => p_gn F e p q) Fs p q how f).2, by show (p_acc _ Fs p q how f).2 * p_ae (Fs f) p q how 3 * q = _; grind⟩
      · show ((p_acc (fun F e => p_gn F e p q) Fs p q how f).1 * p_ae (Fs f) p q how 3 + p_gn (Fs f) (p_ae (Fs f) p q how) p q * (p_acc (fun F e => p_gn F e p q) Fs p q how f).2) * _ = _ * ((p_acc (fun F e => p_gn F e p q) Fs p q how f).2 * p_ae (Fs f) p q how 3 * q)
        grind
      · intro v hv
        rw [x_w_id (by omega) (by omega)] at hv
        subst hv
        exact ih (f + 1) M1 (by omega) (by omega) r1 r2 (fun a k w => (r3 a k w).trans (hfr a k w))
  refine u_X11_totals_0 p q how (u_X11_sums_0 ?_)
  intro M1 hM1 M2 hM2
  refine ⟨rfl, ?_⟩
  subst hM1 hM2
  have z : p_nu 0 (1 * q) = 0 ∧ p_de 0 (1 * q) = 1 := by
    have := p_red (a := 0) (b := 1 * q) (c := 0) (d := 1) (by omega) (by omega) (by omega)
    have r := p_red1 (a := 0) (b := 1) (by omega) (by decide)
    rw [this.1, this.2]; exact r
  refine main m 0 _ (by omega) (by omega) ?_ ?_ (fun a k w => ?_)
  · rw [x_wr_ne _ _ (by omega), x_wr_eq]; exact z.1.symm
  · rw [x_wr_eq]; exact z.2.symm
  · rw [x_wr_ne _ _ (by omega), x_wr_ne _ _ (by omega)]
theorem c_slopes (H10 : p_ten) (H1 : p_one) {M0 : xM} {Fs : Nat → xM} {m : Nat} (hW : p_RW M0 Fs m) {p q : Int} (hpq : p_tm p q) (h : ∀ M1 : xM, M1 103 15 = p_nu (p_acc (fun F e => p_tr F e 1) Fs p q 2 m).1 ((p_acc (fun F e => p_tr F e 1) Fs p q 2 m).2 * 1) → M1 103 16 = p_de (p_acc (fun F e => p_tr F e 1) Fs p q 2 m).1 ((p_acc (fun F e => p_tr F e 1) Fs p q 2 m).2 * 1) → (∀ a k, ¬ (a = 103 ∧ (k = 15 ∨ k = 16)) → M1 a k = M0 a k) → Q none M1) : x_Ev l E (5, 0, 0) m_X11_slopes 0 [(21, 103), (1, p), (5, 0), (1, q), (5, 0), (5, 0), (5, 0)] [] M0 Q := by
  have hm3 := hW.2.1
  have hh : (2 : Int) = 0 ∨ (2 : Int) = 1 ∨ (2 : Int) = 2 := by omega
  have hv : ∀ f, f < m → -1700000000000 ≤ p_tr (Fs f) (p_ae (Fs f) p q 2) 1 ∧ p_tr (Fs f) (p_ae (Fs f) p q 2) 1 ≤ 1700000000000 := fun f hf => by
    have := p_tr1_bd (hW.2.2 f hf).1 (p_ae_eb H10 H1 (hW.2.2 f hf).1 (p := p) (q := q) hh)
    omega
  have hbd : ∀ k, k ≤ m → (-133844400000000000 ≤ (p_acc (fun F e => p_tr F e 1) Fs p q 2 k).1 ∧ (p_acc (fun F e => p_tr F e 1) Fs p q 2 k).1 ≤ 133844400000000000) ∧ 0 < (p_acc (fun F e => p_tr F e 1) Fs p q 2 k).2 ∧ (p_acc (fun F e => p_tr F e 1) Fs p q 2 k).2 ≤ 4251528 := fun k hk => p_acc_bd H10 H1 hh (by omega) (fun f hf => (hW.2.2 f (by omega)).1) (fun f hf => hv f (by omega))
  rw [Int.mul_one] at h
  have main : ∀ (k f : Nat) (M : xM), m - f ≤ k → f ≤ m → M 103 15 = p_nu (p_acc (fun F e => p_tr F e 1) Fs p q 2 f).1 (p_acc (fun F e => p_tr F e 1) Fs p q 2 f).2 → M 103 16 = p_de (p_acc (fun F e => p_tr F e 1) Fs p q 2 f).1 (p_acc (fun F e => p_tr F e 1) Fs p q 2 f).2 → (∀ a k, ¬ (a = 103 ∧ (k = 15 ∨ k = 16)) → M a k = M0 a k) → x_Ev l E (5, 0, 0) m_X11_slopes 7 [(21, 103), (1, p), (5, 0), (1, q), (5, 0), (0, (f : Int)), (5, 0)] [] M Q := by
    intro k
    induction k with
    | zero =>
      intro f M hk hf h1 h2 hfr
      have ef : f = m := by omega
      subst ef
      exact u_X11_slopes_7 p q f ⟨fun _ => h M h1 h2 hfr, fun c => absurd (by rw [hfr 103 0 (by omega), hW.1]; omega) c⟩
    | succ k ih =>
      intro f M hk hf h1 h2 hfr
      by_cases hfm : f = m
      · exact ih f M (by omega) hf h1 h2 hfr
      have hWM : p_RW M Fs m := p_RW_fr hW (fun a k w => hfr a k (by omega))
      obtain ⟨q1, q2⟩ := hWM.2.2 f (by omega)
      have n10 := p_n10 H10 q1
      refine u_X11_slopes_7 p q f ⟨fun c => by rw [hWM.1] at c; omega, fun c => ?_⟩
      refine c_answer_ (by omega) q1 q2 hpq hh (fun c hc => ⟨_, rfl, ?_⟩)
      have hcn := hc.1
      have ec := p_ch_eq q1 hc
      have eE : p_TT (Fs f) (c : Int) = p_ae (Fs f) p q 2 := by unfold p_ae; rw [← ec]
      have er := q2.2.1.2 c (by omega) (by omega)
      rw [eE] at er
      have eb := p_ae_eb H10 H1 q1 (p := p) (q := q) hh
      have e3 := eb.2
      refine c_Rtimes (by omega) q1 q2.1 (by omega) (by omega) eb er ⟨_, rfl, by omega, by omega, ?_⟩
      rw [show 274 + 1 + 1 * (f : Int) = 275 + f by omega, er.2.1]
      have b0 := hbd f (by omega)
      have b1 := hbd (f + 1) (by omega)
      have hvf := hv f (by omega)
      refine c_adds (N := (p_acc (fun F e => p_tr F e 1) Fs p q 2 f).1) (K := (p_acc (fun F e => p_tr F e 1) Fs p q 2 f).2) (N' := (p_acc (fun F e => p_tr F e 1) Fs p q 2 (f + 1)).1) (K' := (p_acc (fun F e => p_tr F e 1) Fs p q 2 (f + 1)).2) h1 h2 b0.2.1 (by omega) (by omega) ?_ ?_ (by omega) (by omega) ?_ (fun M1 r1 r2 r3 => ⟨rfl, ?_⟩)
      · exact ⟨p_ae (Fs f) p q 2 3, rfl⟩
      · exact ⟨(p_acc (fun F e => p_tr F e 1) Fs p q 2 f).2, by show (p_acc _ Fs p q 2 f).2 * p_ae (Fs f) p q 2 3 = _; grind⟩
      · show ((p_acc (fun F e => p_tr F e 1) Fs p q 2 f).1 * p_ae (Fs f) p q 2 3 + p_tr (Fs f) (p_ae (Fs f) p q 2) 1 * (p_acc (fun F e => p_tr F e 1) Fs p q 2 f).2) * _ = _ * ((p_acc (fun F e => p_tr F e 1) Fs p q 2 f).2 * p_ae (Fs f) p q 2 3)
        grind
      · intro v hv
        rw [x_w_id (by omega) (by omega)] at hv
        subst hv
        exact ih (f + 1) M1 (by omega) (by omega) r1 r2 (fun a k w => (r3 a k w).trans (hfr a k w))
  refine u_X11_slopes_0 p q (u_X11_sums_0 ?_)
  intro M1 hM1 M2 hM2
  refine ⟨rfl, ?_⟩
  subst hM1 hM2
  have z := p_red1 (a := 0) (b := 1) (by omega) (by decide)
  refine main m 0 _ (by omega) (by omega) ?_ ?_ (fun a k w => ?_)
  · rw [x_wr_ne _ _ (by omega), x_wr_eq]; exact z.1.symm
  · rw [x_wr_eq]; exact z.2.symm
  · rw [x_wr_ne _ _ (by omega), x_wr_ne _ _ (by omega)]
end TO
