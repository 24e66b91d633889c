/-! The best of all grows with the most -/
section P23
theorem q_le_tr2 {a b c d e f : Int} (hb : 0 < b) (hd : 0 < d) (hf : 0 < f) (h1 : a * d ≤ c * b) (h2 : c * f ≤ e * d) : a * f ≤ e * b := by
  have h3 := Int.mul_le_mul_of_nonneg_right h1 (show 0 ≤ f by omega)
  have h4 := Int.mul_le_mul_of_nonneg_right h2 (show 0 ≤ b by omega)
  have h5 : a * f * d ≤ e * b * d := by grind
  exact Int.le_of_mul_le_mul_right h5 hd
theorem q_nx {ak as aj zk zs zj : Int} (hk : 0 < zk) (hs : 0 < zs) (hj : 0 < zj) (h1 : ak * zs < as * zk ∨ (ak * zs = as * zk ∧ zs < zk)) (h2 : as * zj ≤ aj * zs) (h3 : aj * zs = as * zj → zj ≤ zs) : ak * zj ≤ aj * zk ∧ (aj * zk = ak * zj → zj ≤ zk) := by
  refine ⟨q_le_tr2 hk hs hj (by omega) h2, fun w => ?_⟩
  rcases h1 with h | ⟨h, h'⟩
  · have g1 := Int.mul_lt_mul_of_pos_right h hj
    have g2 := Int.mul_le_mul_of_nonneg_right h2 (show 0 ≤ zk by omega)
    have g3 : aj * zs * zk = ak * zs * zj := by
      have : aj * zs * zk = aj * zk * zs := by grind
      rw [this, w]; grind
    have g4 : as * zk * zj = as * zj * zk := by grind
    omega
  · have g : (aj * zs) * zk = (as * zj) * zk := by
      have e1 : aj * zs * zk = aj * zk * zs := by grind
      have e2 : as * zj * zk = as * zk * zj := by grind
      rw [e1, w, e2, ← h]; grind
    have := Int.eq_of_mul_eq_mul_right (show zk ≠ 0 by omega) g
    have := h3 this
    omega
theorem p_nx_ex {F : xM} {c : Nat} : (∀ j : Nat, j < p_n F → p_Z F c ≤ p_Z F j) ∨ ∃ s : Nat, p_nx F c s := by
  have main : ∀ k : Nat, k ≤ p_n F → (∀ j : Nat, j < k → p_Z F c ≤ p_Z F j) ∨ ∃ s : Nat, s < k ∧ p_Z F s < p_Z F c ∧ ∀ j : Nat, j < k → p_Z F j < p_Z F c → (p_U F c - p_U F s) * (p_Z F c - p_Z F j) ≤ (p_U F c - p_U F j) * (p_Z F c - p_Z F s) ∧ ((p_U F c - p_U F j) * (p_Z F c - p_Z F s) = (p_U F c - p_U F s) * (p_Z F c - p_Z F j) → p_Z F s ≤ p_Z F j) := by
    intro k
    induction k with
    | zero => intro _; left; intro j hj; omega
    | succ k ih =>
      intro hk
      by_cases z : p_Z F k < p_Z F c
      · right
        rcases ih (by omega) with h | ⟨s, s1, s2, s3⟩
        · refine ⟨k, by omega, z, fun j hj zj => ?_⟩
          have e : j = k := by
            by_cases e : j = k
            · exact e
            · have := h j (by omega); omega
          rw [e]; exact ⟨Int.le_refl _, fun _ => Int.le_refl _⟩
        · by_cases b : (p_U F c - p_U F k) * (p_Z F c - p_Z F s) < (p_U F c - p_U F s) * (p_Z F c - p_Z F k) ∨ ((p_U F c - p_U F k) * (p_Z F c - p_Z F s) = (p_U F c - p_U F s) * (p_Z F c - p_Z F k) ∧ p_Z F c - p_Z F s < p_Z F c - p_Z F k)
          · refine ⟨k, by omega, z, fun j hj zj => ?_⟩
            by_cases e : j = k
            · rw [e]; exact ⟨Int.le_refl _, fun _ => Int.le_refl _⟩
            · obtain ⟨t1, t2⟩ := s3 j (by omega) zj
              have := q_nx (ak := p_U F c - p_U F k) (as := p_U F c - p_U F s) (aj := p_U F c - p_U F j) (zk := p_Z F c - p_Z F k) (zs := p_Z F c - p_Z F s) (zj := p_Z F c - p_Z F j) (by omega) (by omega) (by omega) b t1 (fun w => by have := t2 w; omega)
              exact ⟨this.1, fun w => by have := this.2 w; omega⟩
          · refine ⟨s, by omega, s2, fun j hj zj => ?_⟩
            by_cases e : j = k
            · rw [e]
              exact ⟨by omega, fun w => by omega⟩
            · exact s3 j (by omega) zj
      · rcases ih (by omega) with h | ⟨s, s1, s2, s3⟩
        · left
          intro j hj
          by_cases e : j = k
          · rw [e]; omega
          · exact h j (by omega)
        · right
          refine ⟨s, by omega, s2, fun j hj zj => s3 j ?_ zj⟩
          by_cases e : j = k
          · rw [e] at zj; omega
          · omega
  rcases main (p_n F) (Nat.le_refl _) with h | ⟨s, h⟩
  · exact Or.inl h
  · exact Or.inr ⟨s, h⟩
theorem q_sg {q q1 D : Int} (hq : 0 < q) (hq1 : 0 < q1) : (q * D ≤ 0 → q1 * D ≤ 0) ∧ (q * D < 0 → q1 * D < 0) ∧ (0 ≤ q * D → 0 ≤ q1 * D) ∧ (0 < q * D → 0 < q1 * D) := by
  by_cases c : 0 < D
  · have h1 := Int.mul_pos hq c
    have h2 := Int.mul_pos hq1 c
    omega
  · by_cases d : D = 0
    · rw [d]; omega
    · have h1 := Int.mul_pos hq (show 0 < -D by omega)
      have h2 := Int.mul_pos hq1 (show 0 < -D by omega)
      rw [Int.mul_neg] at h1 h2
      omega
theorem q_gn {a b a' b' t t' p q : Int} (e : a * t' = a' * t) : (a * p + b * q) * t' - (a' * p + b' * q) * t = q * (b * t' - b' * t) := by
  have : (a * p + b * q) * t' - (a' * p + b' * q) * t = p * (a * t' - a' * t) + q * (b * t' - b' * t) := by grind
  rw [this, e, Int.sub_self, Int.mul_zero, Int.zero_add]
/-- from a term that is no break to the next one -/
theorem p_samech {F : xM} (hF : p_wf F) {p q p1 q1 most w : Int} (hp : 0 ≤ p) (hq : 0 < q) (hq1 : 0 < q1) (hlt : p * q1 < p1 * q) (hm : p1 ≤ most * q1) (hno : ∀ a b, p_isbr F most a b → p * b < a * q → a * q1 < p1 * b → False) (hnb : ∀ k l : Nat, k < p_n F → l < p_n F → p_bst F (p_TT F) (p_n F) p q k = true → p_bst F (p_TT F) (p_n F) p q l = true → p_Z F k = p_Z F l) (hw : w = 0 ∨ w = 1 ∨ w = 2) : p_ch F p q w = p_ch F p1 q1 1 := by
  have hi := p_ch_is p_ten_ok p_one_ok hF (p := p) (q := q) hw
  revert hi
  generalize p_ch F p q w = c
  intro hi
  obtain ⟨c1, ⟨c2, c3⟩, c4⟩ := hi
  have cV := (p_V_best hF c1).mp c2
  have hat : p_at F p q c := ⟨c1, cV, fun j hj e => by
    have bj : p_bst F (p_TT F) (p_n F) p q j = true := (p_V_best hF hj).mpr (fun i hi => by rw [e]; exact cV i hi)
    rw [hnb c j c1 hj c2 bj]; exact Int.le_refl _⟩
  have b1 : ∀ j : Nat, j < p_n F → p_V F p1 q1 j ≤ p_V F p1 q1 c := by
    intro j hj
    by_cases z : p_Z F c ≤ p_Z F j
    · exact (p_at_hi hq hq1 hat (Int.le_of_lt hlt) hj z).1
    · rcases p_nx_ex (F := F) (c := c) with n | ⟨s, hs⟩
      · exact absurd (n j hj) z
      · have y : 0 < p_tw F * (p_Z F c - p_Z F s) := Int.mul_pos (p_tw_pos F) (by have := hs.2.1; omega)
        have m1 := p_nu_mul (p_U F c - p_U F s) (p_tw F * (p_Z F c - p_Z F s))
        have m2 := p_de_mul (p_U F c - p_U F s) (p_tw F * (p_Z F c - p_Z F s))
        have q2 : 0 < p_de (p_U F c - p_U F s) (p_tw F * (p_Z F c - p_Z F s)) := p_de_pos y
        have cop := p_nd_cop (a := p_U F c - p_U F s) y
        revert m1 m2 q2 cop
        generalize p_nu (p_U F c - p_U F s) (p_tw F * (p_Z F c - p_Z F s)) = pp
        generalize p_de (p_U F c - p_U F s) (p_tw F * (p_Z F c - p_Z F s)) = qq
        generalize p_g (p_U F c - p_U F s) (p_tw F * (p_Z F c - p_Z F s)) = gg
        intro m1 m2 q2 cop
        have e : (p_U F c - p_U F s) * qq = p_tw F * (p_Z F c - p_Z F s) * pp := by
          rw [← m1, ← m2]; grind
        have lo := p_at_lo hq q2 hat hs e
        by_cases t : pp * q1 < p1 * qq
        · exfalso
          refine hno pp qq (p_is_turn hF hq hp q2 hat hs e cop ?_) lo t
          have h1 := Int.mul_le_mul_of_nonneg_right hm (show 0 ≤ qq by omega)
          have h2 : pp * q1 < most * qq * q1 := by
            have : most * q1 * qq = most * qq * q1 := by grind
            omega
          exact Int.lt_of_mul_lt_mul_right h2 (by omega)
        · by_cases t2 : pp * q1 = p1 * qq
          · obtain ⟨a1, a2⟩ := p_at_nx hq q2 hat hs e
            have h1 := a1.2.1 j hj
            rw [← a2] at h1
            have sc : ∀ i : Int, p_V F p1 q1 i * qq = p_V F pp qq i * q1 := fun i => by
              unfold p_V
              have e1 : (p_U F i * q1 - p_tw F * p1 * p_Z F i) * qq = p_U F i * q1 * qq - p_tw F * (p1 * qq) * p_Z F i := by grind
              have e2 : (p_U F i * qq - p_tw F * pp * p_Z F i) * q1 = p_U F i * q1 * qq - p_tw F * (pp * q1) * p_Z F i := by grind
              rw [e1, e2, t2]
            have h2 := Int.mul_le_mul_of_nonneg_right h1 (show 0 ≤ q1 by omega)
            rw [← sc, ← sc] at h2
            exact Int.le_of_mul_le_mul_right h2 q2
          · have := q_b (a := p_U F c - p_U F j) (z := p_Z F c - p_Z F j) (A := p_U F c - p_U F s) (S := p_Z F c - p_Z F s) (p1 := pp) (q1 := qq) (p := p1) (q := q1) (p_tw_pos F) (by omega) (by have := hs.2.1; omega) q2 hq1 e (hs.2.2 j hj (by omega)).1 (by omega)
            rw [← p_V_sub] at this
            omega
  have bb : p_bst F (p_TT F) (p_n F) p1 q1 c = true := (p_V_best hF c1).mpr b1
  have only : ∀ j : Nat, j < p_n F → p_bst F (p_TT F) (p_n F) p1 q1 j = true → p_Z F j ≤ p_Z F c := by
    intro j hj bj
    apply Classical.byContradiction
    intro z
    have h1 := (p_at_hi hq hq1 hat (Int.le_of_lt hlt) hj (by omega)).2 (by omega) hlt
    have h2 := (p_V_best hF hj).mp bj c c1
    omega
  have back : ∀ j : Nat, j < p_n F → p_bst F (p_TT F) (p_n F) p1 q1 j = true → p_Z F j = p_Z F c → p_bst F (p_TT F) (p_n F) p q j = true := by
    intro j hj bj ez
    have h1 := (p_V_best hF hj).mp bj c c1
    have h2 := b1 j hj
    have h3 : p_V F p1 q1 j = p_V F p1 q1 c := by omega
    have h4 : p_U F j * q1 = p_U F c * q1 := by
      unfold p_V at h3
      rw [ez] at h3
      omega
    have h5 := Int.eq_of_mul_eq_mul_right (show q1 ≠ 0 by omega) h4
    refine (p_V_best hF hj).mpr (fun i hi => ?_)
    have : p_V F p q j = p_V F p q c := by unfold p_V; rw [h5, ez]
    rw [this]; exact cV i hi
  refine p_ch_eq hF (k := c) ⟨c1, ⟨bb, fun j hj bj => ⟨fun _ => ?_, fun z => by omega⟩⟩, fun j hj cj => ?_⟩
  · have h1 := p_Z_lt hF (i := c) (j := j) (by omega) (by omega)
    have h2 := only j hj bj
    omega
  · have h1 := p_Z_lt hF (i := c) (j := j) (by omega) (by omega)
    have h2 := p_Z_lt hF (i := j) (j := c) (by omega) (by omega)
    have h3 := (cj.2 c c1 bb).1 rfl
    have h4 := only j hj cj.1
    have ez : p_Z F j = p_Z F c := by omega
    have bq := back j hj cj.1 ez
    have cd : p_cd F (p_TT F) (p_n F) p q w j := ⟨bq, fun i hi bi => by
      have g1 := p_Z_lt hF (i := i) (j := j) (by omega) (by omega)
      have g2 := p_Z_lt hF (i := j) (j := i) (by omega) (by omega)
      have g3 := hnb i j hi hj bi bq
      exact ⟨fun _ => by omega, fun _ => by omega⟩⟩
    have pf := c4 j hj cd
    have E : p_tr F (p_TT F j) 1 * p_TT F c 3 = p_tr F (p_TT F c) 1 * p_TT F j 3 := by omega
    have g0 := q_gn (b := p_tr F (p_TT F j) 2) (b' := p_tr F (p_TT F c) 2) (p := p) (q := q) E
    have g1 := q_gn (b := p_tr F (p_TT F j) 2) (b' := p_tr F (p_TT F c) 2) (p := p1) (q := q1) E
    have sg := q_sg (D := p_tr F (p_TT F j) 2 * p_TT F c 3 - p_tr F (p_TT F c) 2 * p_TT F j 3) hq hq1
    obtain ⟨f1, f2, f3, f4⟩ := pf
    unfold p_gn at f3 f4
    unfold p_pf p_gn
    rw [← g0, ← g1] at sg
    refine ⟨f1, f2, fun k0 => ?_, fun k0 => ?_⟩
    · have := f3 k0
      exact ⟨by have := this.1; omega, fun w => by have := this.2 w; omega⟩
    · have := f4 k0
      exact ⟨by have := this.1; omega, fun w => by have := this.2 w; omega⟩
theorem p_acc_pos {v : xM → (Int → Int) → Int} {Fs : Nat → xM} {p q how : Int} (hh : how = 0 ∨ how = 1 ∨ how = 2) : ∀ m : Nat, (∀ f, f < m → p_wf (Fs f)) → 0 < (p_acc v Fs p q how m).2 := by
  intro m
  induction m with
  | zero => intro _; show (0 : Int) < 1; omega
  | succ m ih =>
    intro hF
    have h1 := ih (fun f hf => hF f (by omega))
    exact Int.mul_pos h1 (p_ae_eb p_ten_ok p_one_ok (hF m (by omega)) hh).2.1
theorem p_tD_pos {Fs : Nat → xM} {m : Nat} (hF : ∀ f, f < m → p_wf (Fs f)) {p q how : Int} (hq : 0 < q) (hh : how = 0 ∨ how = 1 ∨ how = 2) : 0 < p_tD Fs m p q how := p_de_pos (Int.mul_pos (p_acc_pos hh m hF) hq)
theorem p_tot_mono {Fs : Nat → xM} {m : Nat} (hF : ∀ f, f < m → p_wf (Fs f)) {p q p1 q1 w : Int} (hq : 0 < q) (hq1 : 0 < q1) (hle : p * q1 ≤ p1 * q) (hw : w = 0 ∨ w = 1 ∨ w = 2) (hc : ∀ f, f < m → p_ch (Fs f) p q w = p_ch (Fs f) p1 q1 1) : p_tN Fs m p q w * p_tD Fs m p1 q1 1 ≤ p_tN Fs m p1 q1 1 * p_tD Fs m p q w := by
  have main : ∀ k : Nat, k ≤ m → (p_acc (fun F e => p_gn F e p q) Fs p q w k).2 = (p_acc (fun F e => p_gn F e p1 q1) Fs p1 q1 1 k).2 ∧ (p_acc (fun F e => p_gn F e p q) Fs p q w k).1 * q1 ≤ (p_acc (fun F e => p_gn F e p1 q1) Fs p1 q1 1 k).1 * q := by
    intro k
    induction k with
    | zero => intro _; exact ⟨rfl, by show (0 : Int) * q1 ≤ 0 * q; omega⟩
    | succ k ih =>
      intro hk
      obtain ⟨i1, i2⟩ := ih (by omega)
      have wf := hF k (by omega)
      have e : p_ae (Fs k) p q w = p_ae (Fs k) p1 q1 1 := by unfold p_ae; rw [hc k (by omega)]
      have D := p_acc_pos (v := fun F e => p_gn F e p1 q1) (Fs := Fs) (p := p1) (q := q1) (how := 1) (Or.inr (Or.inl rfl)) k (fun f hf => hF f (by omega))
      have T := (p_ae_eb p_ten_ok p_one_ok wf (p := p1) (q := q1) (how := 1) (Or.inr (Or.inl rfl))).2.1
      have hch := (p_ch_is p_ten_ok p_one_ok wf (p := p1) (q := q1) (how := 1) (Or.inr (Or.inl rfl))).1
      have nn : 0 ≤ p_tr (Fs k) (p_ae (Fs k) p1 q1 1) 1 := p_toll_nn wf (by omega)
      show (p_acc (fun F e => p_gn F e p q) Fs p q w k).2 * p_ae (Fs k) p q w 3 = (p_acc (fun F e => p_gn F e p1 q1) Fs p1 q1 1 k).2 * p_ae (Fs k) p1 q1 1 3 ∧ ((p_acc (fun F e => p_gn F e p q) Fs p q w k).1 * p_ae (Fs k) p q w 3 + p_gn (Fs k) (p_ae (Fs k) p q w) p q * (p_acc (fun F e => p_gn F e p q) Fs p q w k).2) * q1 ≤ ((p_acc (fun F e => p_gn F e p1 q1) Fs p1 q1 1 k).1 * p_ae (Fs k) p1 q1 1 3 + p_gn (Fs k) (p_ae (Fs k) p1 q1 1) p1 q1 * (p_acc (fun F e => p_gn F e p1 q1) Fs p1 q1 1 k).2) * q
      rw [e, i1]
      refine ⟨rfl, ?_⟩
      revert i2 D T nn
      generalize (p_acc (fun F e => p_gn F e p q) Fs p q w k).1 = N
      generalize (p_acc (fun F e => p_gn F e p1 q1) Fs p1 q1 1 k).1 = N1
      generalize (p_acc (fun F e => p_gn F e p1 q1) Fs p1 q1 1 k).2 = DD
      unfold p_gn
      generalize p_ae (Fs k) p1 q1 1 3 = t
      generalize p_tr (Fs k) (p_ae (Fs k) p1 q1 1) 1 = a
      generalize p_tr (Fs k) (p_ae (Fs k) p1 q1 1) 2 = b
      intro i2 D T nn
      have h1 := Int.mul_le_mul_of_nonneg_right i2 (show 0 ≤ t by omega)
      have h2 : 0 ≤ a * (p1 * q - p * q1) * DD := Int.mul_nonneg (Int.mul_nonneg nn (by omega)) (by omega)
      have h3 : (N1 * t + (a * p1 + b * q1) * DD) * q - (N * t + (a * p + b * q) * DD) * q1 = (N1 * q * t - N * q1 * t) + a * (p1 * q - p * q1) * DD := by grind
      omega
  obtain ⟨m1, m2⟩ := main m (Nat.le_refl _)
  have D0 := p_acc_pos (v := fun F e => p_gn F e p1 q1) (Fs := Fs) (p := p1) (q := q1) (how := 1) (Or.inr (Or.inl rfl)) m hF
  unfold p_tN p_tD
  rw [m1]
  revert m2 D0
  generalize (p_acc (fun F e => p_gn F e p q) Fs p q w m).1 = N
  generalize (p_acc (fun F e => p_gn F e p1 q1) Fs p1 q1 1 m).1 = N1
  generalize (p_acc (fun F e => p_gn F e p1 q1) Fs p1 q1 1 m).2 = DD
  intro m2 D0
  have y0 := Int.mul_pos D0 hq
  have y1 := Int.mul_pos D0 hq1
  have a1 := p_nu_mul N (DD * q)
  have a2 := p_de_mul N (DD * q)
  have a3 := p_g_pos (a := N) y0
  have b1 := p_nu_mul N1 (DD * q1)
  have b2 := p_de_mul N1 (DD * q1)
  have b3 := p_g_pos (a := N1) y1
  revert a1 a2 a3 b1 b2 b3
  generalize p_nu N (DD * q) = x
  generalize p_de N (DD * q) = y
  generalize p_g N (DD * q) = g
  generalize p_nu N1 (DD * q1) = x1
  generalize p_de N1 (DD * q1) = z1
  generalize p_g N1 (DD * q1) = g1
  intro a1 a2 a3 b1 b2 b3
  have h1 := Int.mul_le_mul_of_nonneg_right m2 (show 0 ≤ DD by omega)
  have e1 : N * q1 * DD = x * z1 * (g * g1) := by
    have : N * q1 * DD = N * (DD * q1) := by grind
    rw [this, ← a1, ← b2]; grind
  have e2 : N1 * q * DD = x1 * y * (g * g1) := by
    have : N1 * q * DD = N1 * (DD * q) := by grind
    rw [this, ← b1, ← a2]; grind
  rw [e1, e2] at h1
  exact Int.le_of_mul_le_mul_right h1 (Int.mul_pos a3 b3)
/-- what has been offered, and the best of it -/
def p_Iv (Fs : Nat → xM) (m : Nat) (S : Int → Int → Int → Prop) (st : Int → Int) : Prop := (∀ p q w, S p q w → 0 ≤ st 4 ∧ 0 < p_tD Fs m p q w ∧ p_tN Fs m p q w * st 1 ≤ st 0 * p_tD Fs m p q w) ∧ (0 ≤ st 4 → S (st 2) (st 3) (st 4) ∧ st 0 = p_tN Fs m (st 2) (st 3) (st 4) ∧ st 1 = p_tD Fs m (st 2) (st 3) (st 4))
theorem p_Iv_cg {Fs : Nat → xM} {m : Nat} {S S' : Int → Int → Int → Prop} {st : Int → Int} (h : p_Iv Fs m S st) (e : ∀ p q w, S p q w ↔ S' p q w) : p_Iv Fs m S' st :=
  ⟨fun p q w s => h.1 p q w ((e p q w).mpr s), fun s => ⟨(e _ _ _).mp (h.2 s).1, (h.2 s).2⟩⟩
theorem p_Iv_o1 {Fs : Nat → xM} {m : Nat} {S : Int → Int → Int → Prop} {st : Int → Int} {p q w : Int} (h : p_Iv Fs m S st) (hw : 0 ≤ w) (hD : 0 < p_tD Fs m p q w) : p_Iv Fs m (fun a b c => S a b c ∨ (a = p ∧ b = q ∧ c = w)) (p_o1 Fs m st p q w) := by
  unfold p_o1
  by_cases c : st 4 < 0 ∨ 0 < p_cmp (p_tN Fs m p q w * st 1) (st 0 * p_tD Fs m p q w)
  · rw [if_pos c]
    refine ⟨fun a b d s => ?_, fun _ => ⟨Or.inr ⟨rfl, rfl, rfl⟩, rfl, rfl⟩⟩
    show 0 ≤ w ∧ 0 < p_tD Fs m a b d ∧ p_tN Fs m a b d * p_tD Fs m p q w ≤ p_tN Fs m p q w * p_tD Fs m a b d
    rcases s with s | ⟨e1, e2, e3⟩
    · obtain ⟨s1, s2, s3⟩ := h.1 a b d s
      obtain ⟨t1, t2, t3⟩ := h.2 s1
      have p1 := (h.1 _ _ _ t1).2.1
      rw [← t3] at p1
      refine ⟨hw, s2, q_le_tr2 s2 p1 hD s3 ?_⟩
      rcases p_cmp_cases (p_tN Fs m p q w * st 1) (st 0 * p_tD Fs m p q w) with z | z | z
      · omega
      · omega
      · omega
    · rw [e1, e2, e3]; exact ⟨hw, hD, Int.le_refl _⟩
  · rw [if_neg c]
    refine ⟨fun a b d s => ?_, fun s => ⟨Or.inl (h.2 s).1, (h.2 s).2⟩⟩
    rcases s with s | ⟨e1, e2, e3⟩
    · exact h.1 a b d s
    · rw [e1, e2, e3]
      refine ⟨by omega, hD, ?_⟩
      rcases p_cmp_cases (p_tN Fs m p q w * st 1) (st 0 * p_tD Fs m p q w) with z | z | z
      · omega
      · omega
      · omega
def p_cn (most : Int) (n : Nat) (P Q : Int → Int) (J : Nat) (p q w : Int) : Prop := ∃ j : Nat, j < J ∧ p = p_pt n P most j ∧ q = p_pq n Q j ∧ (w = 0 ∨ (w = 1 ∧ p ≠ 0) ∨ (w = 2 ∧ ¬ most * q ≤ p))
theorem p_pq_pos {n : Nat} {P Q : Int → Int} {B : Int → Int → Prop} (h : p_btab n P Q B) (j : Nat) : 0 < p_pq n Q j := by
  unfold p_pq
  by_cases c : j = 0
  · rw [if_pos c]; omega
  · rw [if_neg c]
    by_cases d : j ≤ n
    · rw [if_pos d]; exact (h.1 _ (by omega) (by omega)).2.2.1
    · rw [if_neg d]; omega
theorem p_Iv_sb {Fs : Nat → xM} {m : Nat} (hF : ∀ f, f < m → p_wf (Fs f)) {most : Int} {n : Nat} {P Q : Int → Int} {B : Int → Int → Prop} (h : p_btab n P Q B) (J : Nat) : p_Iv Fs m (p_cn most n P Q J) (p_sb Fs m most n P Q J) := by
  induction J with
  | zero =>
    refine ⟨fun p q w s => ?_, fun s => ?_⟩
    · obtain ⟨j, hj, -⟩ := s; omega
    · simp [p_sb] at s
  | succ J ih =>
    show p_Iv Fs m (p_cn most n P Q (J + 1)) (p_o3 Fs m most (p_sb Fs m most n P Q J) (p_pt n P most J) (p_pq n Q J))
    have hq := p_pq_pos h J
    have i0 := p_Iv_o1 ih (Int.le_refl 0) (p_tD_pos hF (p := p_pt n P most J) hq (Or.inl rfl))
    have i1 := p_Iv_o1 i0 (w := 1) (by omega) (p_tD_pos hF (p := p_pt n P most J) hq (Or.inr (Or.inl rfl)))
    have old : ∀ p q w, p_cn most n P Q (J + 1) p q w ↔ p_cn most n P Q J p q w ∨ (p = p_pt n P most J ∧ q = p_pq n Q J ∧ (w = 0 ∨ (w = 1 ∧ p ≠ 0) ∨ (w = 2 ∧ ¬ most * q ≤ p))) := by
      intro p q w
      refine ⟨fun s => ?_, fun s => ?_⟩
      · obtain ⟨j, hj, s⟩ := s
        by_cases e : j = J
        · rw [e] at s; exact Or.inr s
        · exact Or.inl ⟨j, by omega, s⟩
      · rcases s with ⟨j, hj, s⟩ | s
        · exact ⟨j, by omega, s⟩
        · exact ⟨J, by omega, s⟩
    unfold p_o3
    by_cases c : most * p_pq n Q J ≤ p_pt n P most J
    · rw [if_pos c]
      by_cases d : p_pt n P most J = 0
      · rw [if_pos d]
        refine p_Iv_cg i0 (fun p q w => ?_)
        rw [old]
        refine ⟨fun s => ?_, fun s => ?_⟩
        · rcases s with s | ⟨s1, s2, s3⟩
          · exact Or.inl s
          · exact Or.inr ⟨s1, s2, Or.inl s3⟩
        · rcases s with s | ⟨s1, s2, s3⟩
          · exact Or.inl s
          · rw [s1, s2] at s3
            exact Or.inr ⟨s1, s2, by omega⟩
      · rw [if_neg d]
        refine p_Iv_cg i1 (fun p q w => ?_)
        rw [old]
        refine ⟨fun s => ?_, fun s => ?_⟩
        · rcases s with (s | ⟨s1, s2, s3⟩) | ⟨s1, s2, s3⟩
          · exact Or.inl s
          · exact Or.inr ⟨s1, s2, Or.inl s3⟩
          · exact Or.inr ⟨s1, s2, Or.inr (Or.inl ⟨s3, by rw [s1]; exact d⟩)⟩
        · rcases s with s | ⟨s1, s2, s3⟩
          · exact Or.inl (Or.inl s)
          · rw [s1, s2] at s3
            rcases s3 with s3 | s3 | s3
            · exact Or.inl (Or.inr ⟨s1, s2, s3⟩)
            · exact Or.inr ⟨s1, s2, s3.1⟩
            · exact absurd c s3.2
    · rw [if_neg c]
      by_cases d : p_pt n P most J = 0
      · rw [if_pos d]
        have i2 := p_Iv_o1 i0 (w := 2) (by omega) (p_tD_pos hF (p := p_pt n P most J) hq (Or.inr (Or.inr rfl)))
        refine p_Iv_cg i2 (fun p q w => ?_)
        rw [old]
        refine ⟨fun s => ?_, fun s => ?_⟩
        · rcases s with (s | ⟨s1, s2, s3⟩) | ⟨s1, s2, s3⟩
          · exact Or.inl s
          · exact Or.inr ⟨s1, s2, Or.inl s3⟩
          · exact Or.inr ⟨s1, s2, Or.inr (Or.inr ⟨s3, by rw [s1, s2]; exact c⟩)⟩
        · rcases s with s | ⟨s1, s2, s3⟩
          · exact Or.inl (Or.inl s)
          · rw [s1, s2] at s3
            rcases s3 with s3 | s3 | s3
            · exact Or.inl (Or.inr ⟨s1, s2, s3⟩)
            · exact absurd d s3.2
            · exact Or.inr ⟨s1, s2, s3.1⟩
      · rw [if_neg d]
        have i2 := p_Iv_o1 i1 (w := 2) (by omega) (p_tD_pos hF (p := p_pt n P most J) hq (Or.inr (Or.inr rfl)))
        refine p_Iv_cg i2 (fun p q w => ?_)
        rw [old]
        refine ⟨fun s => ?_, fun s => ?_⟩
        · rcases s with ((s | ⟨s1, s2, s3⟩) | ⟨s1, s2, s3⟩) | ⟨s1, s2, s3⟩
          · exact Or.inl s
          · exact Or.inr ⟨s1, s2, Or.inl s3⟩
          · exact Or.inr ⟨s1, s2, Or.inr (Or.inl ⟨s3, by rw [s1]; exact d⟩)⟩
          · exact Or.inr ⟨s1, s2, Or.inr (Or.inr ⟨s3, by rw [s1, s2]; exact c⟩)⟩
        · rcases s with s | ⟨s1, s2, s3⟩
          · exact Or.inl (Or.inl (Or.inl s))
          · rcases s3 with s3 | s3 | s3
            · exact Or.inl (Or.inl (Or.inr ⟨s1, s2, s3⟩))
            · exact Or.inl (Or.inr ⟨s1, s2, s3.1⟩)
            · exact Or.inr ⟨s1, s2, s3.1⟩
/-- there is a table of the breaks -/
theorem p_bt_add {n : Nat} {P Q : Int → Int} {B : Int → Int → Prop} {a b : Int} (h : p_btab n P Q B) (ha : 0 < a) (hb : 0 < b) (hg : Int.gcd a b = 1) : ∃ (n' : Nat) (P' Q' : Int → Int), p_btab n' P' Q' (fun p q => B p q ∨ (p = a ∧ q = b)) := by
  by_cases c : ∃ k : Int, (0 ≤ k ∧ k < n) ∧ P k = a ∧ Q k = b
  · obtain ⟨k, hk, e1, e2⟩ := c
    exact ⟨n, P, Q, p_btab_old h hk e1 e2⟩
  · have main : ∀ j : Nat, j ≤ n → ∃ pl : Int, (0 ≤ pl ∧ pl ≤ j) ∧ (∀ k : Int, 0 ≤ k → k < pl → P k * b < a * Q k) ∧ ∀ k : Int, pl ≤ k → k < j → a * Q k < P k * b := by
      intro j
      induction j with
      | zero => intro _; exact ⟨0, by omega, fun k _ _ => by omega, fun k _ _ => by omega⟩
      | succ j ih =>
        intro hj
        obtain ⟨pl, p1, p2, p3⟩ := ih (by omega)
        obtain ⟨-, f1, f2, f3⟩ := h.1 j (by omega) (by omega)
        by_cases lt : P j * b < a * Q j
        · refine ⟨(j : Int) + 1, by omega, fun k k1 k2 => ?_, fun k k1 k2 => by omega⟩
          by_cases ek : k = j
          · rw [ek]; exact lt
          · obtain ⟨-, g1, g2, g3⟩ := h.1 k (by omega) (by omega)
            exact q_lt_tr g2 f2 hb (h.2.2 k j k1 (by omega) (by omega)) lt
        · by_cases eq : P j * b = a * Q j
          · obtain ⟨e1, e2⟩ := q_red f2 hb f3 hg eq
            exact absurd ⟨(j : Int), by omega, e1, e2⟩ c
          · refine ⟨pl, by omega, p2, fun k k1 k2 => ?_⟩
            by_cases ek : k = j
            · rw [ek]; omega
            · exact p3 k k1 (by omega)
    obtain ⟨pl, p1, p2, p3⟩ := main n (Nat.le_refl _)
    exact ⟨n + 1, _, _, p_btab_ins h ha hb hg p1 p2 p3⟩
theorem p_bt_fin {B : Int → Int → Prop} (hB : ∀ p q, B p q → 0 < p ∧ 0 < q ∧ Int.gcd p q = 1) (c : Nat → Int × Int) : ∀ N : Nat, ∃ (n : Nat) (P Q : Int → Int), p_btab n P Q (fun p q => B p q ∧ ∃ i : Nat, i < N ∧ c i = (p, q)) := by
  intro N
  induction N with
  | zero =>
    refine ⟨0, fun _ => 0, fun _ => 0, fun k _ _ => by omega, fun p q h => ?_, fun k k' _ _ _ => by omega⟩
    obtain ⟨-, i, hi, -⟩ := h
    omega
  | succ N ih =>
    obtain ⟨n, P, Q, h⟩ := ih
    by_cases b : B (c N).1 (c N).2
    · obtain ⟨b1, b2, b3⟩ := hB _ _ b
      obtain ⟨n', P', Q', h'⟩ := p_bt_add h b1 b2 b3
      refine ⟨n', P', Q', p_btab_cg h' (fun p q => ⟨fun s => ?_, fun s => ?_⟩)⟩
      · rcases s with ⟨s, i, i1, i2⟩ | ⟨s1, s2⟩
        · exact ⟨s, i, by omega, i2⟩
        · rw [s1, s2]; exact ⟨b, N, by omega, rfl⟩
      · obtain ⟨s, i, i1, i2⟩ := s
        by_cases e : i = N
        · rw [e] at i2
          exact Or.inr ⟨by rw [i2], by rw [i2]⟩
        · exact Or.inl ⟨s, i, by omega, i2⟩
    · refine ⟨n, P, Q, p_btab_cg h (fun p q => ⟨fun s => ?_, fun s => ?_⟩)⟩
      · obtain ⟨s, i, i1, i2⟩ := s
        exact ⟨s, i, by omega, i2⟩
      · obtain ⟨s, i, i1, i2⟩ := s
        by_cases e : i = N
        · rw [e] at i2
          rw [i2] at b
          exact absurd s b
        · exact ⟨s, i, by omega, i2⟩
noncomputable def p_ix (Fs : Nat → xM) (i : Nat) : Int × Int := (p_nu (p_U (Fs (i / 100)) ((i / 10 % 10 : Nat) : Int) - p_U (Fs (i / 100)) ((i % 10 : Nat) : Int)) (p_tw (Fs (i / 100)) * (p_Z (Fs (i / 100)) ((i / 10 % 10 : Nat) : Int) - p_Z (Fs (i / 100)) ((i % 10 : Nat) : Int))), p_de (p_U (Fs (i / 100)) ((i / 10 % 10 : Nat) : Int) - p_U (Fs (i / 100)) ((i % 10 : Nat) : Int)) (p_tw (Fs (i / 100)) * (p_Z (Fs (i / 100)) ((i / 10 % 10 : Nat) : Int) - p_Z (Fs (i / 100)) ((i % 10 : Nat) : Int))))
theorem p_bt_ex {Fs : Nat → xM} {m : Nat} (hF : ∀ f, f < m → p_wf (Fs f)) (one most : Int) : ∃ (n : Nat) (P Q : Int → Int), p_btab n P Q (p_B Fs m one most) := by
  have hB : ∀ p q, p_B Fs m one most p q → 0 < p ∧ 0 < q ∧ Int.gcd p q = 1 := fun p q ⟨f, _, _, h⟩ => ⟨h.1, h.2.1, h.2.2.2.1⟩
  obtain ⟨n, P, Q, h⟩ := p_bt_fin hB (p_ix Fs) (m * 100)
  refine ⟨n, P, Q, p_btab_cg h (fun p q => ⟨fun s => s.1, fun s => ⟨s, ?_⟩⟩)⟩
  obtain ⟨f, f1, f2, b1, b2, b3, b4, k, l, hk, hl, bk, bl, bz⟩ := s
  have wf := hF f f1
  have h10 := p_n10 p_ten_ok wf
  have key : ∀ k l : Nat, k < p_n (Fs f) → l < p_n (Fs f) → p_bst (Fs f) (p_TT (Fs f)) (p_n (Fs f)) p q k = true → p_bst (Fs f) (p_TT (Fs f)) (p_n (Fs f)) p q l = true → p_Z (Fs f) l < p_Z (Fs f) k → ∃ i : Nat, i < m * 100 ∧ p_ix Fs i = (p, q) := by
    intro k l hk hl bk bl lt
    refine ⟨100 * f + 10 * k + l, by omega, ?_⟩
    have g1 := (p_V_best wf hk).mp bk l hl
    have g2 := (p_V_best wf hl).mp bl k hk
    have g3 := p_V_sub (Fs f) p q k l
    have y : 0 < p_tw (Fs f) * (p_Z (Fs f) k - p_Z (Fs f) l) := Int.mul_pos (p_tw_pos _) (by omega)
    have e : (p_U (Fs f) k - p_U (Fs f) l) * q = p * (p_tw (Fs f) * (p_Z (Fs f) k - p_Z (Fs f) l)) := by
      have : p * (p_tw (Fs f) * (p_Z (Fs f) k - p_Z (Fs f) l)) = p_tw (Fs f) * p * (p_Z (Fs f) k - p_Z (Fs f) l) := by grind
      omega
    obtain ⟨r1, r2⟩ := p_red y b2 e
    obtain ⟨t1, t2⟩ := p_red1 b2 b4
    unfold p_ix
    rw [show (100 * f + 10 * k + l) / 100 = f by omega, show (100 * f + 10 * k + l) / 10 % 10 = k by omega, show (100 * f + 10 * k + l) % 10 = l by omega, r1, r2, t1, t2]
  by_cases lt : p_Z (Fs f) l < p_Z (Fs f) k
  · exact key k l hk hl bk bl lt
  · exact key l k hl hk bl bk (by omega)
theorem p_min {R : Nat → Prop} : ∀ N : Nat, R N → ∃ j : Nat, j ≤ N ∧ R j ∧ ∀ i : Nat, i < j → ¬ R i := by
  intro N
  induction N using Nat.strongRecOn with
  | ind N ih =>
    intro h
    by_cases c : ∃ i : Nat, i < N ∧ R i
    · obtain ⟨i, i1, i2⟩ := c
      obtain ⟨j, j1, j2, j3⟩ := ih i i1 i2
      exact ⟨j, by omega, j2, j3⟩
    · exact ⟨N, Nat.le_refl _, h, fun i hi q => c ⟨i, hi, q⟩⟩
theorem p_mono {Fs : Nat → xM} {m : Nat} (hF : ∀ f, f < m → p_wf (Fs f)) {most most' : Int} (h1 : 1 ≤ most) (h2 : most ≤ most') (h3 : most' ≤ 40) (hp : 0 ≤ p_best Fs m most 4) : p_best Fs m most 0 * p_best Fs m most' 1 ≤ p_best Fs m most' 0 * p_best Fs m most 1 := by
  by_cases eq : most = most'
  · rw [eq]; exact Int.le_refl _
  obtain ⟨n, P, Q, T⟩ := p_bt_ex hF (-1) most
  obtain ⟨n', P', Q', T'⟩ := p_bt_ex hF (-1) most'
  have I := p_Iv_sb hF (most := most) T (n + 2)
  have I' := p_Iv_sb hF (most := most') T' (n' + 2)
  rw [p_best_eq T] at I
  rw [p_best_eq T'] at I'
  obtain ⟨i1, i2, i3⟩ := I.2 hp
  have pd := (I.1 _ _ _ i1).2.1
  revert i1 i2 i3 pd
  generalize p_best Fs m most 0 = s0
  generalize p_best Fs m most 1 = s1
  generalize p_best Fs m most 2 = p
  generalize p_best Fs m most 3 = q
  generalize p_best Fs m most 4 = w
  intro i1 i2 i3 pd
  rw [i2, i3]
  have fin : ∀ p' q' w' : Int, p_cn most' n' P' Q' (n' + 2) p' q' w' → p_tN Fs m p q w * p_tD Fs m p' q' w' ≤ p_tN Fs m p' q' w' * p_tD Fs m p q w → p_tN Fs m p q w * p_best Fs m most' 1 ≤ p_best Fs m most' 0 * p_tD Fs m p q w := by
    intro p' q' w' c le
    obtain ⟨a1, a2, a3⟩ := I'.1 _ _ _ c
    obtain ⟨b1, b2, b3⟩ := I'.2 a1
    have d2 := (I'.1 _ _ _ b1).2.1
    rw [← b3] at d2
    exact q_le_tr2 pd a2 d2 le a3
  have same : p_cn most' n' P' Q' (n' + 2) p q w → p_tN Fs m p q w * p_best Fs m most' 1 ≤ p_best Fs m most' 0 * p_tD Fs m p q w := fun c => fin p q w c (Int.le_refl _)
  have inT : ∀ a b : Int, p_B Fs m (-1) most' a b → ∃ j : Nat, 0 < j ∧ j ≤ n' ∧ p_pt n' P' most' j = a ∧ p_pq n' Q' j = b ∧ 0 < a ∧ a < most' * b := by
    intro a b hb
    obtain ⟨k, k1, k2, k3, k4⟩ := T'.2.1 a b hb
    obtain ⟨f, -, -, hbr⟩ := hb
    refine ⟨k.toNat + 1, by omega, by omega, ?_, ?_, hbr.1, hbr.2.2.1⟩
    · unfold p_pt
      rw [if_neg (by omega), if_pos (by omega), show ((k.toNat + 1 : Nat) : Int) - 1 = k by omega]; exact k3
    · unfold p_pq
      rw [if_neg (by omega), if_pos (by omega), show ((k.toNat + 1 : Nat) : Int) - 1 = k by omega]; exact k4
  obtain ⟨j, j1, j2, j3, j4⟩ := i1
  by_cases c0 : j = 0
  · have e1 : p = 0 := by rw [j2]; unfold p_pt; rw [if_pos c0]
    have e2 : q = 1 := by rw [j3]; unfold p_pq; rw [if_pos c0]
    refine same ⟨0, by omega, by rw [e1]; unfold p_pt; rw [if_pos rfl], by rw [e2]; unfold p_pq; rw [if_pos rfl], ?_⟩
    rw [e1, e2]
    rw [e1, e2] at j4
    omega
  by_cases c1 : j ≤ n
  · have e1 : p = P ((j : Int) - 1) := by rw [j2]; unfold p_pt; rw [if_neg c0, if_pos c1]
    have e2 : q = Q ((j : Int) - 1) := by rw [j3]; unfold p_pq; rw [if_neg c0, if_pos c1]
    obtain ⟨⟨f, f1, f2, f3⟩, -⟩ := T.1 ((j : Int) - 1) (by omega) (by omega)
    rw [← e1, ← e2] at f3
    obtain ⟨r1, r2, r3, r4, r5⟩ := f3
    have le : most * q ≤ most' * q := Int.mul_le_mul_of_nonneg_right h2 (by omega)
    obtain ⟨i, x0, x1, x2, x3, x4, x5⟩ := inT p q ⟨f, f1, Or.inl rfl, r1, r2, by omega, r4, r5⟩
    refine same ⟨i, by omega, x2.symm, x3.symm, ?_⟩
    omega
  have e1 : p = most := by rw [j2]; unfold p_pt; rw [if_neg c0, if_neg c1]
  have e2 : q = 1 := by rw [j3]; unfold p_pq; rw [if_neg c0, if_neg c1]
  have hw : w = 0 ∨ w = 1 := by
    rcases j4 with z | z | z
    · exact Or.inl z
    · exact Or.inr z.1
    · have := z.2; rw [e1, e2] at this; omega
  by_cases br : p_B Fs m (-1) most' most 1
  · obtain ⟨i, x0, x1, x2, x3, x4, x5⟩ := inT most 1 br
    refine same ⟨i, by omega, by rw [e1]; exact x2.symm, by rw [e2]; exact x3.symm, ?_⟩
    rcases hw with z | z
    · exact Or.inl z
    · exact Or.inr (Or.inl ⟨z, by omega⟩)
  · have top : most * p_pq n' Q' (n' + 1) < p_pt n' P' most' (n' + 1) := by
      unfold p_pt p_pq
      rw [if_neg (by omega), if_neg (by omega), if_neg (by omega), if_neg (by omega)]; omega
    obtain ⟨i, y1, y2, y3⟩ := p_min (R := fun i => most * p_pq n' Q' i < p_pt n' P' most' i) (n' + 1) top
    have y2' : most * p_pq n' Q' i < p_pt n' P' most' i := y2
    have qi := p_pq_pos T' i
    have i0 : p_pt n' P' most' i ≠ 0 := by
      have := Int.mul_pos (show 0 < most by omega) qi
      omega
    have hle := p_pt_le ⟨by omega, h3⟩ T' i
    refine fin (p_pt n' P' most' i) (p_pq n' Q' i) 1 ⟨i, by omega, rfl, rfl, Or.inr (Or.inl ⟨rfl, i0⟩)⟩ (p_tot_mono hF (by omega) qi (by rw [e1, e2]; omega) (by omega) (fun f hf => ?_))
    refine p_samech (most := most') (hF f hf) (by omega) (by omega) qi (by rw [e1, e2]; omega) hle (fun a b hab l1 l2 => ?_) (fun k l hk hl bk bl => ?_) (by omega)
    · obtain ⟨t, t0, t1, t2, t3, t4, t5⟩ := inT a b ⟨f, hf, Or.inl rfl, hab⟩
      rw [e1, e2] at l1
      by_cases ti : t < i
      · have n1 : ¬ most * p_pq n' Q' t < p_pt n' P' most' t := y3 t ti
        rw [t2, t3] at n1
        omega
      · have ei : p_pt n' P' most' i = P' ((i : Int) - 1) ∧ p_pq n' Q' i = Q' ((i : Int) - 1) := by
          have z0 : i ≠ 0 := fun z => i0 (by rw [z]; unfold p_pt; rw [if_pos rfl])
          unfold p_pt p_pq
          rw [if_neg z0, if_pos (by omega), if_neg z0, if_pos (by omega)]; exact ⟨rfl, rfl⟩
        have z0 : i ≠ 0 := fun z => i0 (by rw [z]; unfold p_pt; rw [if_pos rfl])
        have et : p_pt n' P' most' t = P' ((t : Int) - 1) ∧ p_pq n' Q' t = Q' ((t : Int) - 1) := by
          unfold p_pt p_pq
          rw [if_neg (by omega), if_pos (by omega), if_neg (by omega), if_pos (by omega)]; exact ⟨rfl, rfl⟩
        rw [← t2, ← t3, et.1, et.2, ei.1, ei.2] at l2
        by_cases eti : t = i
        · rw [eti] at l2; omega
        · have := T'.2.2 ((i : Int) - 1) ((t : Int) - 1) (by omega) (by omega) (by omega)
          omega
    · rw [e1, e2] at bk bl
      apply Classical.byContradiction
      intro nz
      exact br ⟨f, hf, Or.inl rfl, by omega, by omega, by omega, Int.gcd_one_right _, k, l, hk, hl, bk, bl, nz⟩
end P23
