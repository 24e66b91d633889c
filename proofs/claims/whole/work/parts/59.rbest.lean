/-! The reference's best -/
def p_rbm (M : xM) (st : Int → Int) (nn : Int) : Prop := (nn = 1 ∧ st 4 < 0) ∨ (nn = 0 ∧ 0 ≤ st 4 ∧ M 103 28 = st 0 ∧ M 103 29 = st 1 ∧ M 103 30 = st 2 ∧ M 103 31 = st 3 ∧ M 103 32 = st 4)
/-- what the search of the best may change besides -/
def p_bfr (M M1 : xM) : Prop := ∀ a k, ¬ (a = 103 ∧ (k = 15 ∨ k = 16 ∨ k = 25 ∨ (28 ≤ k ∧ k ≤ 32))) → a ≠ 282 → a ≠ 283 → M1 a k = M a k
section RQ
variable {l : Launch} {E : xE} {Q' : Option xV → xM → Prop}
theorem c_pointAbove {M : xM} {n : Nat} {P Q : Int → Int} {most : Int} (hn : n ≤ 135) (hm8 : M 103 8 = most) (hmem : p_rbmem M n P Q) (j : Nat) (hj : j ≤ 136) (h : Q' (some (1, p_pt n P most j)) M) : x_Ev l E (1, 0, 0) m_X11_pointAbove 0 [(21, 103), (0, (j : Int))] [] M Q' := by
  unfold p_pt at h
  refine u_X11_pointAbove_0 j ⟨fun c => ⟨fun d => ?_, fun d => ?_⟩, fun c => ?_⟩
  · rw [hmem.1] at d
    rw [if_neg (by omega), if_neg (by omega)] at h
    rw [hm8]; exact h
  · rw [hmem.1] at d
    rw [if_neg (by omega), if_pos (by omega)] at h
    rw [x_w_id (by omega) (by omega), (hmem.2 _ (by omega) (by omega)).1]
    exact ⟨by omega, h⟩
  · rw [if_pos (by omega)] at h; exact h
theorem c_pointBelow {M : xM} {n : Nat} {P Q : Int → Int} (hn : n ≤ 135) (hmem : p_rbmem M n P Q) (j : Nat) (hj : j ≤ 136) (h : Q' (some (1, p_pq n Q j)) M) : x_Ev l E (1, 0, 0) m_X11_pointBelow 0 [(21, 103), (0, (j : Int))] [] M Q' := by
  unfold p_pq at h
  refine u_X11_pointBelow_0 j ⟨fun c => ?_, fun c => ⟨fun d => ?_, fun d => ?_⟩⟩
  · rw [if_pos (by omega)] at h; exact h
  · rw [hmem.1] at d
    rw [if_neg (by omega), if_pos (by omega)] at h
    rw [x_w_id (by omega) (by omega), (hmem.2 _ (by omega) (by omega)).2]
    exact ⟨by omega, h⟩
  · rw [hmem.1] at d
    rw [if_neg (by omega), if_neg (by omega)] at h
    exact h
theorem c_findsBest (H10 : p_ten) (H1 : p_one) {M0 : xM} {Fs : Nat → xM} {m : Nat} (hW : p_RW M0 Fs m) {most : Int} (hmost : 1 ≤ most ∧ most ≤ 40) (hm8 : M0 103 8 = most)
    (h : ∀ M1 : xM, p_RW M1 Fs m → p_bv (p_best Fs m most) → 0 ≤ p_best Fs m most 4 → (∀ i, 0 ≤ i → i < 5 → M1 103 (28 + i) = p_best Fs m most i) → p_bfr M0 M1 → Q' none M1) : x_Ev l E (7, 0, 0) m_X11_findsBest 0 [(21, 103), (5, 0), (5, 0), (5, 0)] [] M0 Q' := by
  have hm3 := hW.2.1
  have hFs : ∀ f, f < m → p_wf (Fs f) := fun f hf => (hW.2.2 f hf).1
  refine u_X11_findsBest_0 (c_findsBreaks H10 H1 hW (one := -1) (by omega) hmost hm8 (fun Mg n P Q r2 r3 r4 r5 r6 => ⟨rfl, ?_⟩))
  have bv := fun j => p_sb_bv H10 H1 hm3 hFs (P := P) (Q := Q) hmost r4 j
  have hfg : p_bfr M0 Mg := fun a k w1 w2 w3 => r6 a k (by omega) w2 w3
  -- what holds at every step
  have mem_fr : ∀ {M M1 : xM}, p_rbmem M n P Q → (∀ a k, ¬ (a = 103 ∧ (k = 15 ∨ k = 16 ∨ (28 ≤ k ∧ k ≤ 32))) → M1 a k = M a k) → p_rbmem M1 n P Q := by
    intro M M1 w1 w2
    refine ⟨by rw [w2 103 25 (by omega)]; exact w1.1, fun k a b => ?_⟩
    rw [w2 282 k (by omega), w2 283 k (by omega)]; exact w1.2 k a b
  have W_fr : ∀ {M M1 : xM}, p_RW M Fs m → (∀ a k, ¬ (a = 103 ∧ (k = 15 ∨ k = 16 ∨ (28 ≤ k ∧ k ≤ 32))) → M1 a k = M a k) → p_RW M1 Fs m := fun w1 w2 => p_RW_fr w1 (fun a k w => w2 a k (by omega))
  have body : ∀ (w : Int) (j : Nat) (nn : Int) (M : xM) (s : Int → Int), (w = 0 ∨ w = 1 ∨ w = 2) → j ≤ n + 1 → p_RW M Fs m → M 103 8 = most → p_rbmem M n P Q → p_bv s → p_rbm M s nn → (∀ (M1 : xM) (n1 : Int), p_RW M1 Fs m → M1 103 8 = most → p_rbmem M1 n P Q → p_rbm M1 (p_o1 Fs m s (p_pt n P most j) (p_pq n Q j) w) n1 → (∀ a k, ¬ (a = 103 ∧ (k = 15 ∨ k = 16 ∨ (28 ≤ k ∧ k ≤ 32))) → M1 a k = M a k) → x_Ev l E (7, 0, 0) m_X11_findsBest 21 [(21, 103), (0, n1), (0, (j : Int)), (0, w + 1)] [] M1 Q') →
      x_Ev l E (1, 0, 0) m_X11_pointAbove 0 [(21, 103), (0, (j : Int))] [] M (fun r zM2 => ∃ zr3, r = some (1, zr3) ∧ x_Ev l E (1, 0, 0) m_X11_pointBelow 0 [(21, 103), (0, (j : Int))] [] zM2 (fun r zM4 => ∃ zr5, r = some (1, zr5) ∧ x_Ev l E (5, 0, 0) m_X11_totals 0 [(21, 103), (1, zr3), (5, 0), (1, zr5), (5, 0), (0, w), (5, 0), (5, 0)] [] zM4 (fun r zM6 => r = none ∧ (¬ nn = 0 → ∀ zM7 : xM, zM7 = x_wr zM6 103 28 (zM6 103 15) → ∀ zM8 : xM, zM8 = x_wr zM7 103 29 (zM7 103 16) → x_Ev l E (1, 0, 0) m_X11_pointAbove 0 [(21, 103), (0, (j : Int))] [] zM8 (fun r zM9 => ∃ zr10, r = some (1, zr10) ∧ ∀ zM11 : xM, zM11 = x_wr zM9 103 30 zr10 → x_Ev l E (1, 0, 0) m_X11_pointBelow 0 [(21, 103), (0, (j : Int))] [] zM11 (fun r zM12 => ∃ zr13, r = some (1, zr13) ∧ ∀ zM14 : xM, zM14 = x_wr zM12 103 31 zr13 → ∀ zM15 : xM, zM15 = x_wr zM14 103 32 w → ∀ zv16 : Int, zv16 = x_w (w + 1) → x_Ev l E (7, 0, 0) m_X11_findsBest 21 [(21, 103), (0, 0), (0, (j : Int)), (0, zv16)] [] zM15 Q'))) ∧ (nn = 0 → x_Ev l E (2, 0, 0) m_X11_compare 0 [(1, (zM6 103 15)), (5, 0), (1, (zM6 103 16)), (5, 0), (1, (zM6 103 28)), (5, 0), (1, (zM6 103 29)), (5, 0), (5, 0), (5, 0), (5, 0), (5, 0), (5, 0), (5, 0), (5, 0), (5, 0), (5, 0), (5, 0), (5, 0), (5, 0), (5, 0), (5, 0), (5, 0), (5, 0), (5, 0)] [] zM6 (fun r zM17 => ∃ zr18, r = some (0, zr18) ∧ (0 < zr18 → ∀ zM19 : xM, zM19 = x_wr zM17 103 28 (zM17 103 15) → ∀ zM20 : xM, zM20 = x_wr zM19 103 29 (zM19 103 16) → x_Ev l E (1, 0, 0) m_X11_pointAbove 0 [(21, 103), (0, (j : Int))] [] zM20 (fun r zM21 => ∃ zr22, r = some (1, zr22) ∧ ∀ zM23 : xM, zM23 = x_wr zM21 103 30 zr22 → x_Ev l E (1, 0, 0) m_X11_pointBelow 0 [(21, 103), (0, (j : Int))] [] zM23 (fun r zM24 => ∃ zr25, r = some (1, zr25) ∧ ∀ zM26 : xM, zM26 = x_wr zM24 103 31 zr25 → ∀ zM27 : xM, zM27 = x_wr zM26 103 32 w → ∀ zv28 : Int, zv28 = x_w (w + 1) → x_Ev l E (7, 0, 0) m_X11_findsBest 21 [(21, 103), (0, 0), (0, (j : Int)), (0, zv28)] [] zM27 Q'))) ∧ (¬ 0 < zr18 → ∀ zv29 : Int, zv29 = x_w (w + 1) → x_Ev l E (7, 0, 0) m_X11_findsBest 21 [(21, 103), (0, nn), (0, (j : Int)), (0, zv29)] [] zM17 Q')))))) := by
    intro w j nn M s hw hj hM h8 hmem hvs hbs cont
    have tmj := p_pt_tm hmost r4 j
    have tb := p_tot_bd H10 H1 hm3 hFs tmj hw
    refine c_pointAbove r5 h8 hmem j (by omega) ⟨_, rfl, c_pointBelow r5 hmem j (by omega) ⟨_, rfl, ?_⟩⟩
    refine c_totals H10 H1 hM tmj hw (fun M6 t1 t2 t3 => ⟨rfl, ?_⟩)
    generalize hpj : p_pt n P most j = p at *
    generalize hqj : p_pq n Q j = q at *
    have t1' : M6 103 15 = p_tN Fs m p q w := t1
    have t2' : M6 103 16 = p_tD Fs m p q w := t2
    clear t1 t2
    have t4 : ∀ a k, ¬ (a = 103 ∧ (k = 15 ∨ k = 16 ∨ (28 ≤ k ∧ k ≤ 32))) → M6 a k = M a k := fun a k z => t3 a k (by omega)
    have take : (s 4 < 0 ∨ 0 < p_cmp (p_tN Fs m p q w * s 1) (s 0 * p_tD Fs m p q w)) → ∀ zM7 : xM, zM7 = x_wr M6 103 28 (M6 103 15) → ∀ zM8 : xM, zM8 = x_wr zM7 103 29 (zM7 103 16) → x_Ev l E (1, 0, 0) m_X11_pointAbove 0 [(21, 103), (0, (j : Int))] [] zM8 (fun r zM9 => ∃ zr10, r = some (1, zr10) ∧ ∀ zM11 : xM, zM11 = x_wr zM9 103 30 zr10 → x_Ev l E (1, 0, 0) m_X11_pointBelow 0 [(21, 103), (0, (j : Int))] [] zM11 (fun r zM12 => ∃ zr13, r = some (1, zr13) ∧ ∀ zM14 : xM, zM14 = x_wr zM12 103 31 zr13 → ∀ zM15 : xM, zM15 = x_wr zM14 103 32 w → ∀ zv16 : Int, zv16 = x_w (w + 1) → x_Ev l E (7, 0, 0) m_X11_findsBest 21 [(21, 103), (0, 0), (0, (j : Int)), (0, zv16)] [] zM15 Q')) := by
      intro hc M7 hM7 M8 hM8
      have e716 : M7 103 16 = p_tD Fs m p q w := by rw [hM7, x_wr_ne _ _ (by omega)]; exact t2'
      rw [e716] at hM8
      rw [t1'] at hM7
      have f8 : ∀ a k, ¬ (a = 103 ∧ (k = 15 ∨ k = 16 ∨ (28 ≤ k ∧ k ≤ 32))) → M8 a k = M a k := fun a k z => by rw [hM8, x_wr_ne _ _ (by omega), hM7, x_wr_ne _ _ (by omega)]; exact t4 a k z
      refine c_pointAbove (most := most) r5 (by rw [f8 103 8 (by omega)]; exact h8) (mem_fr hmem f8) j (by omega) ⟨_, rfl, ?_⟩
      rw [hpj]
      intro M11 hM11
      have f11 : ∀ a k, ¬ (a = 103 ∧ (k = 15 ∨ k = 16 ∨ (28 ≤ k ∧ k ≤ 32))) → M11 a k = M a k := fun a k z => by rw [hM11, x_wr_ne _ _ (by omega)]; exact f8 a k z
      refine c_pointBelow r5 (mem_fr hmem f11) j (by omega) ⟨_, rfl, ?_⟩
      rw [hqj]
      intro M14 hM14 M15 hM15 v hv
      rw [x_w_id (by omega) (by omega)] at hv
      subst hv
      have f15 : ∀ a k, ¬ (a = 103 ∧ (k = 15 ∨ k = 16 ∨ (28 ≤ k ∧ k ≤ 32))) → M15 a k = M a k := fun a k z => by rw [hM15, x_wr_ne _ _ (by omega), hM14, x_wr_ne _ _ (by omega)]; exact f11 a k z
      refine cont M15 0 (W_fr hM f15) (by rw [f15 103 8 (by omega)]; exact h8) (mem_fr hmem f15) (Or.inr ⟨rfl, ?_, ?_, ?_, ?_, ?_, ?_⟩) f15
      · unfold p_o1
        rw [if_pos hc]
        simp
        omega
      · unfold p_o1
        rw [if_pos hc, hM15, x_wr_ne _ _ (by omega), hM14, x_wr_ne _ _ (by omega), hM11, x_wr_ne _ _ (by omega), hM8, x_wr_ne _ _ (by omega), hM7, x_wr_eq]
        simp
      · unfold p_o1
        rw [if_pos hc, hM15, x_wr_ne _ _ (by omega), hM14, x_wr_ne _ _ (by omega), hM11, x_wr_ne _ _ (by omega), hM8, x_wr_eq]
        simp
      · unfold p_o1
        rw [if_pos hc, hM15, x_wr_ne _ _ (by omega), hM14, x_wr_ne _ _ (by omega), hM11, x_wr_eq]
        simp
      · unfold p_o1
        rw [if_pos hc, hM15, x_wr_ne _ _ (by omega), hM14, x_wr_eq]
        simp
      · unfold p_o1
        rw [if_pos hc, hM15, x_wr_eq]
        simp
    refine ⟨fun c => take (Or.inl (by rcases hbs with z | z <;> omega)), fun c => ?_⟩
    obtain ⟨-, s4, b0, b1, b2, b3, b4⟩ := hbs.resolve_left (fun z => by omega)
    obtain ⟨d1, d2, d3, -⟩ := hvs.2.2 s4
    have g0 : M6 103 28 = s 0 := by rw [t3 103 28 (by omega)]; exact b0
    have g1 : M6 103 29 = s 1 := by rw [t3 103 29 (by omega)]; exact b1
    refine c_compare (by rw [t1']; omega) (by rw [t2']; omega) (by rw [g0]; omega) (by rw [g1]; omega) ⟨_, rfl, fun z => take (Or.inr (by rw [t1', t2', g0, g1] at z; exact z)), fun z => ?_⟩
    intro v hv
    rw [x_w_id (by omega) (by omega)] at hv
    subst hv
    rw [t1', t2', g0, g1] at z
    have eo : p_o1 Fs m s p q w = s := by
      unfold p_o1
      rw [if_neg (by omega)]
    refine cont M6 nn (W_fr hM t4) (by rw [t4 103 8 (by omega)]; exact h8) (mem_fr hmem t4) (by
      rw [eo]
      exact Or.inr ⟨c, s4, g0, g1, by rw [t3 103 30 (by omega)]; exact b2, by rw [t3 103 31 (by omega)]; exact b3, by rw [t3 103 32 (by omega)]; exact b4⟩) t4
  have main : ∀ (i j : Nat) (nn : Int) (M : xM), n + 2 - j ≤ i → j ≤ n + 2 → p_RW M Fs m → M 103 8 = most → p_rbmem M n P Q → p_rbm M (p_sb Fs m most n P Q j) nn → p_bfr M0 M → x_Ev l E (7, 0, 0) m_X11_findsBest 9 [(21, 103), (0, nn), (0, (j : Int)), (5, 0)] [] M Q' := by
    intro i
    induction i with
    | zero =>
      intro j nn M hi hj hM h8 hmem hbs hfr
      have ej : j = n + 2 := by omega
      subst ej
      refine u_X11_findsBest_9 nn _ ⟨fun _ => ?_, fun c => absurd (by rw [hmem.1, x_w_id (by omega) (by omega)]; omega) c⟩
      have bb := bv (n + 2)
      rw [p_best_eq r2] at bb hbs
      obtain ⟨-, s4, b0, b1, b2, b3, b4⟩ := hbs.resolve_left (fun z => by have := bb.2 (by omega); omega)
      refine h M hM bb.1 s4 (fun i i1 i2 => ?_) hfr
      have : i = 0 ∨ i = 1 ∨ i = 2 ∨ i = 3 ∨ i = 4 := by omega
      rcases this with e | e | e | e | e <;> subst e
      · exact b0
      · exact b1
      · exact b2
      · exact b3
      · exact b4
    | succ i ih =>
      intro j nn M hi hj hM h8 hmem hbs hfr
      by_cases hjn : j = n + 2
      · exact ih j nn M (by omega) hj hM h8 hmem hbs hfr
      obtain ⟨ix0, ix1, ix2⟩ := p_pt_ix hmost r2 (j := j) (by omega)
      have tmj := p_pt_tm hmost r4 j
      refine u_X11_findsBest_9 nn j ⟨fun c => by rw [hmem.1, x_w_id (by omega) (by omega)] at c; omega, fun c => ?_⟩
      have v0 := p_bv_o1 H10 H1 hm3 hFs tmj (w := 0) (by omega) (bv j).1
      have v1 := p_bv_o1 H10 H1 hm3 hFs tmj (w := 1) (by omega) v0.1
      have enx : p_sb Fs m most n P Q (j + 1) = p_o3 Fs m most (p_sb Fs m most n P Q j) (p_pt n P most j) (p_pq n Q j) := rfl
      have last : ∀ (M1 : xM) (n1 : Int) (s : Int → Int), p_RW M1 Fs m → M1 103 8 = most → p_rbmem M1 n P Q → p_rbm M1 s n1 → s = p_sb Fs m most n P Q (j + 1) → p_bfr M0 M1 → x_Ev l E (7, 0, 0) m_X11_findsBest 21 [(21, 103), (0, n1), (0, (j : Int)), (0, 3)] [] M1 Q' := by
        intro M1 n1 s k1 k2 k3 k4 k5 k6
        refine u_X11_findsBest_21 n1 j 3 ⟨fun _ => ?_, fun c => absurd (Int.le_refl _) c⟩
        intro v hv
        rw [x_w_id (by omega) (by omega)] at hv
        subst hv
        exact ih (j + 1) n1 M1 (by omega) (by omega) k1 k2 k3 (by rw [← k5]; exact k4) k6
      have third : ∀ (M1 : xM) (n1 : Int) (s : Int → Int), p_RW M1 Fs m → M1 103 8 = most → p_rbmem M1 n P Q → p_bv s → p_rbm M1 s n1 → s = (if p_pt n P most j = 0 then p_o1 Fs m (p_sb Fs m most n P Q j) (p_pt n P most j) (p_pq n Q j) 0 else p_o1 Fs m (p_o1 Fs m (p_sb Fs m most n P Q j) (p_pt n P most j) (p_pq n Q j) 0) (p_pt n P most j) (p_pq n Q j) 1) → p_bfr M0 M1 → x_Ev l E (7, 0, 0) m_X11_findsBest 21 [(21, 103), (0, n1), (0, (j : Int)), (0, 2)] [] M1 Q' := by
        intro M1 n1 s k1 k2 k3 k4 k5 k6 k7
        refine u_X11_findsBest_21 n1 j 2 ⟨fun c => absurd c (by omega), fun _ => ⟨fun _ => ⟨fun c => absurd rfl c, fun _ => ?_⟩, fun c => absurd c (by omega)⟩⟩
        rw [k3.1, x_w_id (by omega) (by omega)]
        refine ⟨fun c => body 2 j n1 M1 s (by omega) (by omega) k1 k2 k3 k4 k5 (fun M2 n2 o1 o2 o3 o4 o5 => ?_), fun c => ?_⟩
        · refine last M2 n2 _ o1 o2 o3 o4 ?_ (fun a k w1 w2 w3 => (o5 a k (by omega)).trans (k7 a k w1 w2 w3))
          rw [enx]
          unfold p_o3
          rw [if_neg (c := most * p_pq n Q j ≤ p_pt n P most j) (fun w => c (by rw [ix1] at w; omega)), ← k6]
        · intro v hv
          have ev : v = 3 := by rw [hv]; decide
          rw [ev]
          refine last M1 n1 s k1 k2 k3 k5 ?_ k7
          rw [enx]
          unfold p_o3
          rw [if_pos (c := most * p_pq n Q j ≤ p_pt n P most j) (by rw [ix1]; omega), ← k6]
      refine u_X11_findsBest_21 nn j 0 ⟨fun c => absurd c (by omega), fun _ => ⟨fun _ => ⟨fun _ => ?_, fun c => absurd c (by omega)⟩, fun c => absurd c (by omega)⟩⟩
      refine body 0 j nn M _ (by omega) (by omega) hM h8 hmem (bv j).1 hbs (fun M1 n1 k1 k2 k3 k4 k5 => ?_)
      have fr1 : p_bfr M0 M1 := fun a k w1 w2 w3 => (k5 a k (by omega)).trans (hfr a k w1 w2 w3)
      refine u_X11_findsBest_21 n1 j 1 ⟨fun c => absurd c (by omega), fun _ => ⟨fun c => absurd rfl c, fun _ => ⟨fun c => ?_, fun c => ?_⟩⟩⟩
      · intro v hv
        have ev : v = 2 := by rw [hv]; decide
        rw [ev]
        exact third M1 n1 _ k1 k2 k3 v0.1 k4 (by rw [if_pos (ix0.mpr (by omega))]) fr1
      · refine body 1 j n1 M1 _ (by omega) (by omega) k1 k2 k3 v0.1 k4 (fun M2 n2 o1 o2 o3 o4 o5 => ?_)
        exact third M2 n2 _ o1 o2 o3 v1.1 o4 (by rw [if_neg (fun w => c (by rw [ix0] at w; omega))]) (fun a k w1 w2 w3 => (o5 a k (by omega)).trans (fr1 a k w1 w2 w3))
  exact main (n + 2) 0 1 Mg (by omega) (by omega) (p_RW_bf hW r6) (by rw [r6 103 8 (by omega) (by omega) (by omega)]; exact hm8) r3 (Or.inl ⟨rfl, by show (if (4 : Int) = 4 then (-1 : Int) else 0) < 0; decide⟩) hfg
end RQ
