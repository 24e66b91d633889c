/-! The best of all terms -/
noncomputable def p_tN (Fs : Nat → xM) (m : Nat) (p q how : Int) : Int := p_nu (p_acc (fun F e => p_gn F e p q) Fs p q how m).1 ((p_acc (fun F e => p_gn F e p q) Fs p q how m).2 * q)
noncomputable def p_tD (Fs : Nat → xM) (m : Nat) (p q how : Int) : Int := p_de (p_acc (fun F e => p_gn F e p q) Fs p q how m).1 ((p_acc (fun F e => p_gn F e p q) Fs p q how m).2 * q)
theorem p_tot_bd (H10 : p_ten) (H1 : p_one) {Fs : Nat → xM} {m : Nat} (hm : m ≤ 3) (hF : ∀ f, f < m → p_wf (Fs f)) {p q how : Int} (hpq : p_tm p q) (hh : how = 0 ∨ how = 1 ∨ how = 2) : (-133844400000000000 ≤ p_tN Fs m p q how ∧ p_tN Fs m p q how ≤ 133844400000000000) ∧ 0 < p_tD Fs m p q how ∧ p_tD Fs m p q how ≤ 17006112000000 := by
  have hq := hpq.2.2
  have b := p_acc_bd H10 H1 (v := fun F e => p_gn F e p q) (p := p) (q := q) hh hm hF (fun f hf => p_gn_bd (hF f hf) (p_ae_eb H10 H1 (hF f hf) hh) hpq)
  have mb := x_mb (a := (p_acc (fun F e => p_gn F e p q) Fs p q how m).2) (b := q) (A := 4251528) (B := 4000000) (by omega) (by omega)
  have mp := Int.mul_pos b.2.1 (show 0 < q by omega)
  have n := p_nu_bd (B := 133844400000000000) mp b.1
  have d := p_de_pos (a := (p_acc (fun F e => p_gn F e p q) Fs p q how m).1) mp
  have dl := p_de_le (a := (p_acc (fun F e => p_gn F e p q) Fs p q how m).1) mp
  unfold p_tN p_tD
  omega
/-- 0, 1: the best total; 2, 3: where; 4: how -/
noncomputable def p_o1 (Fs : Nat → xM) (m : Nat) (st : Int → Int) (p q w : Int) : Int → Int := if st 4 < 0 ∨ 0 < p_cmp (p_tN Fs m p q w * st 1) (st 0 * p_tD Fs m p q w) then (fun i => if i = 0 then p_tN Fs m p q w else if i = 1 then p_tD Fs m p q w else if i = 2 then p else if i = 3 then q else w) else st
noncomputable def p_o3 (Fs : Nat → xM) (m : Nat) (most : Int) (st : Int → Int) (p q : Int) : Int → Int := if most * q ≤ p then (if p = 0 then p_o1 Fs m st p q 0 else p_o1 Fs m (p_o1 Fs m st p q 0) p q 1) else p_o1 Fs m (if p = 0 then p_o1 Fs m st p q 0 else p_o1 Fs m (p_o1 Fs m st p q 0) p q 1) p q 2
def p_pt (n : Nat) (P : Int → Int) (most : Int) (j : Nat) : Int := if j = 0 then 0 else if j ≤ n then P ((j : Int) - 1) else most
def p_pq (n : Nat) (Q : Int → Int) (j : Nat) : Int := if j = 0 then 1 else if j ≤ n then Q ((j : Int) - 1) else 1
noncomputable def p_sb (Fs : Nat → xM) (m : Nat) (most : Int) (n : Nat) (P Q : Int → Int) : Nat → Int → Int
  | 0 => fun i => if i = 4 then -1 else 0
  | j + 1 => p_o3 Fs m most (p_sb Fs m most n P Q j) (p_pt n P most j) (p_pq n Q j)
/-- a state that has been found -/
def p_bv (st : Int → Int) : Prop := -1 ≤ st 4 ∧ st 4 ≤ 2 ∧ (0 ≤ st 4 → (-133844400000000000 ≤ st 0 ∧ st 0 ≤ 133844400000000000) ∧ 0 < st 1 ∧ st 1 ≤ 17006112000000 ∧ p_tm (st 2) (st 3))
theorem p_bv_o1 (H10 : p_ten) (H1 : p_one) {Fs : Nat → xM} {m : Nat} (hm : m ≤ 3) (hF : ∀ f, f < m → p_wf (Fs f)) {p q w : Int} (hpq : p_tm p q) (hw : w = 0 ∨ w = 1 ∨ w = 2) {st : Int → Int} (h : p_bv st) : p_bv (p_o1 Fs m st p q w) ∧ (0 ≤ st 4 ∨ st 4 < 0 → 0 ≤ p_o1 Fs m st p q w 4) := by
  have b := p_tot_bd H10 H1 hm hF hpq hw
  unfold p_o1
  by_cases c : st 4 < 0 ∨ 0 < p_cmp (p_tN Fs m p q w * st 1) (st 0 * p_tD Fs m p q w)
  · rw [if_pos c]
    refine ⟨⟨?_, ?_, fun _ => ⟨?_, ?_, ?_, ?_⟩⟩, fun _ => ?_⟩ <;> simp <;> first | omega | exact b.1 | exact hpq
  · rw [if_neg c]
    exact ⟨h, fun _ => by omega⟩
theorem p_bv_o3 (H10 : p_ten) (H1 : p_one) {Fs : Nat → xM} {m : Nat} (hm : m ≤ 3) (hF : ∀ f, f < m → p_wf (Fs f)) {p q most : Int} (hpq : p_tm p q) {st : Int → Int} (h : p_bv st) : p_bv (p_o3 Fs m most st p q) ∧ 0 ≤ p_o3 Fs m most st p q 4 := by
  have s0 := p_bv_o1 H10 H1 hm hF hpq (w := 0) (by omega) h
  have s1 := p_bv_o1 H10 H1 hm hF hpq (w := 1) (by omega) s0.1
  have s2a := p_bv_o1 H10 H1 hm hF hpq (w := 2) (by omega) s0.1
  have s2b := p_bv_o1 H10 H1 hm hF hpq (w := 2) (by omega) s1.1
  unfold p_o3
  by_cases c : p = 0
  · rw [if_pos c]
    by_cases d : most * q ≤ p
    · rw [if_pos d]; exact ⟨s0.1, s0.2 (by omega)⟩
    · rw [if_neg d]; exact ⟨s2a.1, s2a.2 (by omega)⟩
  · rw [if_neg c]
    by_cases d : most * q ≤ p
    · rw [if_pos d]; exact ⟨s1.1, s1.2 (by omega)⟩
    · rw [if_neg d]; exact ⟨s2b.1, s2b.2 (by omega)⟩
/-- the points between which the pieces lie -/
theorem p_pt_tm {n : Nat} {P Q : Int → Int} {most : Int} (hmost : 1 ≤ most ∧ most ≤ 40) (hB : ∀ k : Int, 0 ≤ k → k < n → p_tm (P k) (Q k)) (j : Nat) : p_tm (p_pt n P most j) (p_pq n Q j) := by
  unfold p_pt p_pq
  by_cases c : j = 0
  · rw [if_pos c, if_pos c]; exact ⟨by omega, by omega, by omega, by omega⟩
  · rw [if_neg c, if_neg c]
    by_cases d : j ≤ n
    · rw [if_pos d, if_pos d]; exact hB _ (by omega) (by omega)
    · rw [if_neg d, if_neg d]; exact ⟨by omega, by omega, by omega, by omega⟩
theorem p_pt_ix {n : Nat} {P Q : Int → Int} {Fs : Nat → xM} {m : Nat} {one most : Int} (hmost : 1 ≤ most ∧ most ≤ 40) (ht : p_btab n P Q (p_B Fs m one most)) {j : Nat} (hj : j ≤ n + 1) : (p_pt n P most j = 0 ↔ j = 0) ∧ (most * p_pq n Q j ≤ p_pt n P most j ↔ j = n + 1) ∧ Int.gcd (p_pt n P most j) (p_pq n Q j) = 1 := by
  unfold p_pt p_pq
  by_cases c : j = 0
  · rw [if_pos c, if_pos c]
    refine ⟨by omega, by omega, by decide⟩
  · rw [if_neg c, if_neg c]
    by_cases d : j ≤ n
    · rw [if_pos d, if_pos d]
      obtain ⟨⟨f, f1, f2, f3⟩, g1, g2, g3⟩ := ht.1 ((j : Int) - 1) (by omega) (by omega)
      have := f3.2.2.1
      exact ⟨by omega, by omega, g3⟩
    · rw [if_neg d, if_neg d]
      exact ⟨by omega, by omega, Int.gcd_one_right _⟩
theorem p_sb_bv (H10 : p_ten) (H1 : p_one) {Fs : Nat → xM} {m : Nat} (hm : m ≤ 3) (hF : ∀ f, f < m → p_wf (Fs f)) {n : Nat} {P Q : Int → Int} {most : Int} (hmost : 1 ≤ most ∧ most ≤ 40) (hB : ∀ k : Int, 0 ≤ k → k < n → p_tm (P k) (Q k)) (j : Nat) : p_bv (p_sb Fs m most n P Q j) ∧ (0 < j → 0 ≤ p_sb Fs m most n P Q j 4) := by
  induction j with
  | zero =>
    refine ⟨⟨?_, ?_, fun w => ?_⟩, fun w => by omega⟩ <;> simp [p_sb] at *
  | succ j ih =>
    have := p_bv_o3 H10 H1 hm hF (most := most) (p_pt_tm hmost hB j) ih.1
    exact ⟨this.1, fun _ => this.2⟩
theorem p_sb_cg {Fs : Nat → xM} {m : Nat} {most : Int} {n : Nat} {P Q P' Q' : Int → Int} (h : ∀ k : Int, 0 ≤ k → k < n → P k = P' k ∧ Q k = Q' k) (j : Nat) : p_sb Fs m most n P Q j = p_sb Fs m most n P' Q' j := by
  induction j with
  | zero => rfl
  | succ j ih =>
    show p_o3 Fs m most (p_sb Fs m most n P Q j) (p_pt n P most j) (p_pq n Q j) = p_o3 Fs m most (p_sb Fs m most n P' Q' j) (p_pt n P' most j) (p_pq n Q' j)
    rw [ih]
    have e1 : p_pt n P most j = p_pt n P' most j := by
      unfold p_pt
      by_cases c : j = 0
      · rw [if_pos c, if_pos c]
      · rw [if_neg c, if_neg c]
        by_cases d : j ≤ n
        · rw [if_pos d, if_pos d, (h _ (by omega) (by omega)).1]
        · rw [if_neg d, if_neg d]
    have e2 : p_pq n Q j = p_pq n Q' j := by
      unfold p_pq
      by_cases c : j = 0
      · rw [if_pos c, if_pos c]
      · rw [if_neg c, if_neg c]
        by_cases d : j ≤ n
        · rw [if_pos d, if_pos d, (h _ (by omega) (by omega)).2]
        · rw [if_neg d, if_neg d]
    rw [e1, e2]
/-- the one table of a set of breaks -/
noncomputable def p_bt (B : Int → Int → Prop) : Nat × ((Int → Int) × (Int → Int)) := Classical.epsilon (fun x : Nat × ((Int → Int) × (Int → Int)) => p_btab x.1 x.2.1 x.2.2 B)
theorem p_bt_ok {n : Nat} {P Q : Int → Int} {B : Int → Int → Prop} (h : p_btab n P Q B) : p_btab (p_bt B).1 (p_bt B).2.1 (p_bt B).2.2 B := Classical.epsilon_spec (p := fun x : Nat × ((Int → Int) × (Int → Int)) => p_btab x.1 x.2.1 x.2.2 B) ⟨(n, P, Q), h⟩
theorem p_bt_eq {n : Nat} {P Q : Int → Int} {B : Int → Int → Prop} (h : p_btab n P Q B) : n = (p_bt B).1 ∧ ∀ k : Int, 0 ≤ k → k < n → P k = (p_bt B).2.1 k ∧ Q k = (p_bt B).2.2 k := p_btab_u h (p_bt_ok h)
noncomputable def p_best (Fs : Nat → xM) (m : Nat) (most : Int) : Int → Int := p_sb Fs m most (p_bt (p_B Fs m (-1) most)).1 (p_bt (p_B Fs m (-1) most)).2.1 (p_bt (p_B Fs m (-1) most)).2.2 ((p_bt (p_B Fs m (-1) most)).1 + 2)
theorem p_best_eq {Fs : Nat → xM} {m : Nat} {most : Int} {n : Nat} {P Q : Int → Int} (h : p_btab n P Q (p_B Fs m (-1) most)) : p_sb Fs m most n P Q (n + 2) = p_best Fs m most := by
  obtain ⟨e1, e2⟩ := p_bt_eq h
  unfold p_best
  rw [p_sb_cg e2]
  rw [← e1]
def p_bm (M : xM) (st : Int → Int) : Prop := M 40 5 = st 4 ∧ (0 ≤ st 4 → M 46 0 = st 0 ∧ M 46 1 = st 1 ∧ M 47 0 = st 2 ∧ M 47 1 = st 3)
theorem p_bm_fr {M M1 : xM} {st : Int → Int} (h : p_bm M st) (h0 : M1 40 5 = M 40 5) (h1 : M1 46 = M 46) (h2 : M1 47 = M 47) : p_bm M1 st := by
  unfold p_bm at *
  rw [h0, h1, h2]; exact h
section BE
variable {l : Launch} {E : xE} {Q' : Option xV → xM → Prop}
theorem c_offerTerm (H10 : p_ten) (H1 : p_one) {M0 : xM} {Fs : Nat → xM} {m : Nat} (hW : p_CW M0 Fs m) {p q most : Int} (hmost : 1 ≤ most ∧ most ≤ 40) (hpq : p_tm p q) (hg : Int.gcd p q = 1) {st : Int → Int} (hv : p_bv st) (hb : p_bm M0 st)
    (h : ∀ M1 : xM, p_CW M1 Fs m → p_bm M1 (p_o3 Fs m most st p q) → (∀ a k, ¬ (a = 40 ∧ (k = 5 ∨ k = 7)) → ¬ (46 ≤ a ∧ a ≤ 48) → ¬ p_stc a k → M1 a k = M0 a k) → Q' none M1) : x_Ev l E (5, 0, 0) m_X3_offerTerm 0 [(13, 40), (1, p), (5, 0), (1, q), (5, 0), (0, most), (5, 0)] [] M0 Q' := by
  have hm3 := hW.2.1
  have hq := hpq.2.2
  have hp := hpq.1
  have hp2 := hpq.2.1
  have hFs : ∀ f, f < m → p_wf (Fs f) := fun f hf => (hW.2.2 f hf).1
  obtain ⟨rp, rq⟩ := p_red1 (a := p) (b := q) (by omega) hg
  have mq := x_mb (a := most) (b := q) (A := 40) (B := 4000000) (by omega) (by omega)
  -- one way
  have body : ∀ (w : Int) (M : xM) (s : Int → Int), (w = 0 ∨ w = 1 ∨ w = 2) → p_CW M Fs m → p_sta M Fs m p q → p_bv s → p_bm M s → (∀ M1 : xM, p_CW M1 Fs m → p_sta M1 Fs m p q → p_bm M1 (p_o1 Fs m s p q w) → (∀ a k, ¬ (a = 40 ∧ k = 5) → ¬ (46 ≤ a ∧ a ≤ 48) → M1 a k = M a k) → x_Ev l E (5, 0, 0) m_X3_offerTerm 9 [(13, 40), (1, p), (5, 0), (1, q), (5, 0), (0, most), (0, w + 1)] [] M1 Q') →
      x_Ev l E (4, 0, 0) m_X3_addUp 0 [(13, 40), (0, 1), (0, w), (12, 48), (5, 0), (5, 0), (5, 0), (5, 0), (5, 0), (5, 0), (5, 0), (5, 0)] [] M (fun r zM1 => r = none ∧ ((zM1 40 5) < 0 → x_Ev l E (1, 0, 0) m_X2_take 0 [(12, 46), (12, 48)] [] zM1 (fun r zM2 => r = none ∧ x_Ev l E (2, 0, 0) m_X2_put 0 [(12, 47), (1, p), (5, 0), (1, q), (5, 0), (5, 0), (5, 0)] [] zM2 (fun r zM3 => r = none ∧ ∀ zM4 : xM, zM4 = x_wr zM3 40 5 w → ∀ zv5 : Int, zv5 = x_w (w + 1) → x_Ev l E (5, 0, 0) m_X3_offerTerm 9 [(13, 40), (1, p), (5, 0), (1, q), (5, 0), (0, most), (0, zv5)] [] zM4 Q'))) ∧ (¬ (zM1 40 5) < 0 → x_Ev l E (3, 0, 0) m_X2_orderTo 0 [(12, 48), (12, 46)] [] zM1 (fun r zM6 => ∃ zr7, r = some (0, zr7) ∧ (zr7 ≤ 0 → ∀ zv8 : Int, zv8 = x_w (w + 1) → x_Ev l E (5, 0, 0) m_X3_offerTerm 9 [(13, 40), (1, p), (5, 0), (1, q), (5, 0), (0, most), (0, zv8)] [] zM6 Q') ∧ (¬ zr7 ≤ 0 → x_Ev l E (1, 0, 0) m_X2_take 0 [(12, 46), (12, 48)] [] zM6 (fun r zM9 => r = none ∧ x_Ev l E (2, 0, 0) m_X2_put 0 [(12, 47), (1, p), (5, 0), (1, q), (5, 0), (5, 0), (5, 0)] [] zM9 (fun r zM10 => r = none ∧ ∀ zM11 : xM, zM11 = x_wr zM10 40 5 w → ∀ zv12 : Int, zv12 = x_w (w + 1) → x_Ev l E (5, 0, 0) m_X3_offerTerm 9 [(13, 40), (1, p), (5, 0), (1, q), (5, 0), (0, most), (0, zv12)] [] zM11 Q')))))) := by
    intro w M s hw hM hst hvs hbs cont
    have tb := p_tot_bd H10 H1 hm3 hFs hpq hw
    refine c_addUp H10 H1 hM (g := 1) hpq hw hst (Or.inr ⟨rfl, rfl, rfl⟩) (fun M1 r1 r2 r3 => ⟨rfl, ?_⟩)
    have r1' : M1 48 0 = p_tN Fs m p q w := r1
    have r2' : M1 48 1 = p_tD Fs m p q w := r2
    clear r1 r2
    have e5 : M1 40 5 = s 4 := by rw [r3 40 (by omega)]; exact hbs.1
    have hM1 : p_CW M1 Fs m := p_CW_fr hM (fun a k a1 a2 a3 a4 => by rw [r3 a (by omega)])
    have take : (s 4 < 0 ∨ 0 < p_cmp (p_tN Fs m p q w * s 1) (s 0 * p_tD Fs m p q w)) → x_Ev l E (1, 0, 0) m_X2_take 0 [(12, 46), (12, 48)] [] M1 (fun r zM2 => r = none ∧ x_Ev l E (2, 0, 0) m_X2_put 0 [(12, 47), (1, p), (5, 0), (1, q), (5, 0), (5, 0), (5, 0)] [] zM2 (fun r zM3 => r = none ∧ ∀ zM4 : xM, zM4 = x_wr zM3 40 5 w → ∀ zv5 : Int, zv5 = x_w (w + 1) → x_Ev l E (5, 0, 0) m_X3_offerTerm 9 [(13, 40), (1, p), (5, 0), (1, q), (5, 0), (0, most), (0, zv5)] [] zM4 Q')) := by
      intro hc
      refine c_take (by omega) (fun M2 t1 t2 t3 => ⟨rfl, c_put (by omega) (by omega) (fun M3 u1 u2 u3 => ⟨rfl, ?_⟩)⟩)
      intro M4 hM4 v hv
      rw [x_w_id (by omega) (by omega)] at hv
      subst hv
      have fr : ∀ a k, ¬ (a = 40 ∧ k = 5) → ¬ (46 ≤ a ∧ a ≤ 48) → M4 a k = M a k := by
        intro a k a1 a2
        rw [hM4, x_wr_ne _ _ a1, u3 a (by omega), t3 a (by omega), r3 a (by omega)]
      refine cont M4 (p_CW_fr hM (fun a k a1 a2 a3 a4 => fr a k (by omega) (by omega))) ⟨?_, fun f hf => p_st_fr (hst.2 f hf) ?_ ?_ ?_ ?_⟩ ⟨?_, fun _ => ⟨?_, ?_, ?_, ?_⟩⟩ fr
      · rw [fr 40 7 (by omega) (by omega)]; exact hst.1
      · exact fr _ _ (by omega) (by omega)
      · exact fr _ _ (by omega) (by omega)
      · funext k; exact fr _ _ (by omega) (by omega)
      · funext k; exact fr _ _ (by omega) (by omega)
      · unfold p_o1
        rw [if_pos hc, hM4, x_wr_eq]
        simp
      · unfold p_o1
        rw [if_pos hc, hM4, x_wr_ne _ _ (by omega), u3 46 (by omega), t1, r1']
        simp
      · unfold p_o1
        rw [if_pos hc, hM4, x_wr_ne _ _ (by omega), u3 46 (by omega), t2, r2']
        simp
      · unfold p_o1
        rw [if_pos hc, hM4, x_wr_ne _ _ (by omega), u1, rp]
        simp
      · unfold p_o1
        rw [if_pos hc, hM4, x_wr_ne _ _ (by omega), u2, rq]
        simp
    rw [e5]
    refine ⟨fun c => take (Or.inl c), fun c => ?_⟩
    have s4 : 0 ≤ s 4 := by omega
    obtain ⟨d1, d2, d3, -⟩ := hvs.2.2 s4
    obtain ⟨f1, f2, -, -⟩ := hbs.2 s4
    have g1 : M1 46 0 = s 0 := by rw [r3 46 (by omega)]; exact f1
    have g2 : M1 46 1 = s 1 := by rw [r3 46 (by omega)]; exact f2
    refine c_orderTo (by rw [r1']; omega) (by rw [r2']; omega) (by rw [g1]; omega) (by rw [g2]; omega) ⟨_, rfl, fun z => ?_, fun z => take (Or.inr (by rw [r1', r2', g1, g2] at z; omega))⟩
    intro v hv
    rw [x_w_id (by omega) (by omega)] at hv
    subst hv
    rw [r1', r2', g1, g2] at z
    have eo : p_o1 Fs m s p q w = s := by
      unfold p_o1
      rw [if_neg (by omega)]
    refine cont M1 hM1 ⟨by rw [r3 40 (by omega)]; exact hst.1, fun f hf => p_st_fr (hst.2 f hf) (by rw [r3 _ (by omega)]) (by rw [r3 _ (by omega)]) (r3 _ (by omega)) (r3 _ (by omega))⟩ (by rw [eo]; exact p_bm_fr hbs (by rw [r3 40 (by omega)]) (r3 46 (by omega)) (r3 47 (by omega))) (fun a k a1 a2 => by rw [r3 a (by omega)])
  refine u_X3_offerTerm_0 p q most (c_standAll H10 hW hpq (fun Ms i1 i2 i3 => ⟨rfl, ?_⟩))
  have hb0 : p_bm Ms st := p_bm_fr hb (i3 40 5 (by omega) (by unfold p_stc; omega)) (by funext k; exact i3 46 k (by omega) (by unfold p_stc; omega)) (by funext k; exact i3 47 k (by omega) (by unfold p_stc; omega))
  have v0 := p_bv_o1 H10 H1 hm3 hFs hpq (w := 0) (by omega) hv
  have v1 := p_bv_o1 H10 H1 hm3 hFs hpq (w := 1) (by omega) v0.1
  -- at the end
  have last : ∀ (M : xM) (s : Int → Int), p_CW M Fs m → p_bm M s → s = p_o3 Fs m most st p q → (∀ a k, ¬ (a = 40 ∧ k = 5) → ¬ (46 ≤ a ∧ a ≤ 48) → M a k = Ms a k) → x_Ev l E (5, 0, 0) m_X3_offerTerm 9 [(13, 40), (1, p), (5, 0), (1, q), (5, 0), (0, most), (0, 3)] [] M Q' := by
    intro M s j1 j2 j3 j4
    refine u_X3_offerTerm_9 p q most 3 ⟨fun _ => h M j1 (by rw [← j3]; exact j2) (fun a k a1 a2 a3 => (j4 a k (by omega) a2).trans (i3 a k (by omega) a3)), fun c => absurd (show (2 : Int) < 3 by omega) c⟩
  -- the third way
  have third : ∀ (M : xM) (s : Int → Int), p_CW M Fs m → p_sta M Fs m p q → p_bv s → p_bm M s → s = (if p = 0 then p_o1 Fs m st p q 0 else p_o1 Fs m (p_o1 Fs m st p q 0) p q 1) → (∀ a k, ¬ (a = 40 ∧ k = 5) → ¬ (46 ≤ a ∧ a ≤ 48) → M a k = Ms a k) → x_Ev l E (5, 0, 0) m_X3_offerTerm 9 [(13, 40), (1, p), (5, 0), (1, q), (5, 0), (0, most), (0, 2)] [] M Q' := by
    intro M s j1 j2 j3 j4 j5 j6
    refine u_X3_offerTerm_9 p q most 2 ⟨fun c => absurd c (by omega), fun _ => ⟨fun _ => ⟨fun c => absurd rfl c, fun _ => ?_⟩, fun c => absurd c (by omega)⟩⟩
    rw [x_W_id (by omega) (by omega)]
    refine ⟨fun c => body 2 M s (by omega) j1 j2 j3 j4 (fun M1 k1 k2 k3 k4 => ?_), fun c => ?_⟩
    · refine last M1 _ k1 k3 ?_ (fun a k a1 a2 => (k4 a k a1 a2).trans (j6 a k a1 a2))
      unfold p_o3
      rw [if_neg (c := most * q ≤ p) (by omega), ← j5]
    · intro v hv
      have ev : v = 3 := by rw [hv]; decide
      rw [ev]
      refine last M s j1 j4 ?_ j6
      unfold p_o3
      rw [if_pos (c := most * q ≤ p) (by omega), ← j5]
  refine u_X3_offerTerm_9 p q most 0 ⟨fun c => absurd c (by omega), fun _ => ⟨fun _ => ⟨fun _ => ?_, fun c => absurd c (by omega)⟩, fun c => absurd c (by omega)⟩⟩
  refine body 0 Ms st (by omega) i1 i2 hv hb0 (fun M1 k1 k2 k3 k4 => ?_)
  refine u_X3_offerTerm_9 p q most 1 ⟨fun c => absurd c (by omega), fun _ => ⟨fun c => absurd rfl c, fun _ => ⟨fun c => ?_, fun c => ?_⟩⟩⟩
  · intro v hv
    have ev : v = 2 := by rw [hv]; decide
    rw [ev]
    exact third M1 _ k1 k2 v0.1 k3 (by rw [if_pos c]) k4
  · refine body 1 M1 _ (by omega) k1 k2 v0.1 k3 (fun M2 n1 n2 n3 n4 => ?_)
    exact third M2 _ n1 n2 v1.1 n3 (by rw [if_neg c]) (fun a k a1 a2 => (n4 a k a1 a2).trans (k4 a k a1 a2))
theorem c_seekBest (H10 : p_ten) (H1 : p_one) {M0 : xM} {Fs : Nat → xM} {m : Nat} (hW : p_CW M0 Fs m) {most : Int} (hmost : 1 ≤ most ∧ most ≤ 40)
    (h : ∀ M1 : xM, p_CW M1 Fs m → p_bv (p_best Fs m most) → 0 ≤ p_best Fs m most 4 → p_bm M1 (p_best Fs m most) → (∀ a k, ¬ (40 ≤ a ∧ a ≤ 48) → ¬ p_stc a k → M1 a k = M0 a k) → Q' none M1) : x_Ev l E (6, 0, 0) m_X3_seekBest 0 [(13, 40), (0, most), (5, 0)] [] M0 Q' := by
  have hm3 := hW.2.1
  have hFs : ∀ f, f < m → p_wf (Fs f) := fun f hf => (hW.2.2 f hf).1
  refine u_X3_seekBest_0 most (c_gatherBreaks H10 H1 hW (one := -1) hmost (fun Mg n P Q r1 r2 r3 r4 r5 r6 => ⟨rfl, ?_⟩))
  intro M2 hM2
  have fr2 : ∀ a k, ¬ (a = 40 ∧ k = 5) → M2 a k = Mg a k := fun a k w => by rw [hM2, x_wr_ne _ _ w]
  have bv := fun j => p_sb_bv H10 H1 hm3 hFs (P := P) (Q := Q) hmost r4 j
  have hW2 : p_CW M2 Fs m := p_CW_fr r1 (fun a k a1 a2 a3 a4 => fr2 a k (by omega))
  have b0 : p_bm M2 (p_sb Fs m most n P Q 0) := by
    refine ⟨by rw [hM2, x_wr_eq]; simp [p_sb], fun w => ?_⟩
    simp [p_sb] at w
  have pt0 : p_pt n P most 0 = 0 ∧ p_pq n Q 0 = 1 := ⟨rfl, rfl⟩
  have main : ∀ (j i : Nat) (M : xM), n - i ≤ j → i ≤ n → p_CW M Fs m → p_bm M (p_sb Fs m most n P Q (i + 1)) → p_bmem M n P Q → (∀ a k, ¬ (40 ≤ a ∧ a ≤ 48) → ¬ p_stc a k → M a k = M0 a k) → x_Ev l E (6, 0, 0) m_X3_seekBest 20 [(13, 40), (0, most), (0, (i : Int))] [] M Q' := by
    have fin : ∀ (M : xM), p_CW M Fs m → p_bm M (p_sb Fs m most n P Q (n + 1)) → (∀ a k, ¬ (40 ≤ a ∧ a ≤ 48) → ¬ p_stc a k → M a k = M0 a k) → x_Ev l E (5, 0, 0) m_X3_offerTerm 0 [(13, 40), (1, most), (5, 0), (1, 1), (5, 0), (0, most), (5, 0)] [] M (fun r zM1 => r = none ∧ Q' none zM1) := by
      intro M j1 j2 j3
      have e1 : p_pt n P most (n + 1) = most := by unfold p_pt; rw [if_neg (by omega), if_neg (by omega)]
      have e2 : p_pq n Q (n + 1) = 1 := by unfold p_pq; rw [if_neg (by omega), if_neg (by omega)]
      refine c_offerTerm H10 H1 j1 hmost ⟨by omega, by omega, by omega, by omega⟩ (Int.gcd_one_right _) (bv (n + 1)).1 j2 (fun M1 k1 k2 k3 => ⟨rfl, ?_⟩)
      have eb : p_o3 Fs m most (p_sb Fs m most n P Q (n + 1)) most 1 = p_best Fs m most := by
        rw [← p_best_eq r2]
        show _ = p_o3 Fs m most (p_sb Fs m most n P Q (n + 1)) (p_pt n P most (n + 1)) (p_pq n Q (n + 1))
        rw [e1, e2]
      rw [eb] at k2
      have bb := bv (n + 2)
      rw [p_best_eq r2] at bb
      exact h M1 k1 bb.1 (bb.2 (by omega)) k2 (fun a k a1 a2 => (k3 a k (by omega) (by omega) a2).trans (j3 a k a1 a2))
    intro j
    induction j with
    | zero =>
      intro i M hj hi j1 j2 j3 j4
      have ei : i = n := by omega
      subst ei
      exact u_X3_seekBest_20 most i ⟨fun _ => fin M j1 j2 j4, fun c => absurd (by rw [j3.1]; omega) c⟩
    | succ j ih =>
      intro i M hj hi j1 j2 j3 j4
      by_cases hin : i = n
      · exact ih i M (by omega) hi j1 j2 j3 j4
      have e1 : p_pt n P most (i + 1) = P i := by
        unfold p_pt
        rw [if_neg (by omega), if_pos (by omega), show (((i + 1 : Nat) : Int) - 1) = i by omega]
      have e2 : p_pq n Q (i + 1) = Q i := by
        unfold p_pq
        rw [if_neg (by omega), if_pos (by omega), show (((i + 1 : Nat) : Int) - 1) = i by omega]
      obtain ⟨m1, m2⟩ := j3.2 i (by omega) (by omega)
      refine u_X3_seekBest_20 most i ⟨fun c => by rw [j3.1] at c; omega, fun c => ⟨by omega, by omega, ?_⟩⟩
      rw [m1, m2]
      refine c_offerTerm H10 H1 j1 hmost (r4 i (by omega) (by omega)) (r2.1 i (by omega) (by omega)).2.2.2 (bv (i + 1)).1 j2 (fun M1 k1 k2 k3 => ⟨rfl, ?_⟩)
      intro v hv
      rw [x_w_id (by omega) (by omega)] at hv
      subst hv
      refine ih (i + 1) M1 (by omega) (by omega) k1 ?_ ?_ (fun a k a1 a2 => (k3 a k (by omega) (by omega) a2).trans (j4 a k a1 a2))
      · show p_bm M1 (p_o3 Fs m most (p_sb Fs m most n P Q (i + 1)) (p_pt n P most (i + 1)) (p_pq n Q (i + 1)))
        rw [e1, e2]; exact k2
      · refine ⟨?_, fun k a b => ?_⟩
        · rw [k3 42 0 (by omega) (by omega) (by unfold p_stc; omega)]; exact j3.1
        · rw [k3 43 k (by omega) (by omega) (by unfold p_stc; omega), k3 44 k (by omega) (by omega) (by unfold p_stc; omega)]; exact j3.2 k a b
  refine c_offerTerm H10 H1 hW2 hmost ⟨by omega, by omega, by omega, by omega⟩ (by decide) (bv 0).1 b0 (fun M1 k1 k2 k3 => ⟨rfl, ?_⟩)
  refine main n 0 M1 (by omega) (by omega) k1 ?_ ?_ (fun a k a1 a2 => ?_)
  · show p_bm M1 (p_o3 Fs m most (p_sb Fs m most n P Q 0) (p_pt n P most 0) (p_pq n Q 0))
    exact k2
  · refine ⟨?_, fun k a b => ?_⟩
    · rw [k3 42 0 (by omega) (by omega) (by unfold p_stc; omega), fr2 42 0 (by omega)]; exact r3.1
    · rw [k3 43 k (by omega) (by omega) (by unfold p_stc; omega), k3 44 k (by omega) (by omega) (by unfold p_stc; omega), fr2 43 k (by omega), fr2 44 k (by omega)]; exact r3.2 k a b
  · rw [k3 a k (by omega) (by omega) a2, fr2 a k (by omega)]; exact r6 a k (by omega) a2
end BE
