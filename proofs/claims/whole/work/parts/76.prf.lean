/-! Cheapest prices: pure -/
theorem q_le_tr {a b c d e f : Int} (hb : 0 < b) (hd : 0 < d) (hf : 0 < f) (h1 : a * d ≤ c * b) (h2 : c * f ≤ e * d) : a * f ≤ e * b := by
  have h3 := Int.mul_le_mul_of_nonneg_right h1 (Int.le_of_lt hf)
  have h4 := Int.mul_le_mul_of_nonneg_right h2 (Int.le_of_lt hb)
  have h5 : a * f * d ≤ e * b * d := by grind
  exact Int.le_of_mul_le_mul_right h5 hd
theorem q_min_ex {b c : Nat → Int} : ∀ n : Nat, 1 ≤ n → (∀ k, k < n → 0 < b k) → ∃ k, k < n ∧ ∀ j, j < n → c k * b j ≤ c j * b k := by
  intro n
  induction n with
  | zero => intro h; omega
  | succ n ih =>
    intro h1 hb
    by_cases e : n = 0
    · refine ⟨0, by omega, fun j hj => ?_⟩
      have : j = 0 := by omega
      rw [this]
      exact Int.le_refl _
    · obtain ⟨k, hk, hm⟩ := ih (by omega) (fun k hk => hb k (by omega))
      by_cases c1 : c k * b n ≤ c n * b k
      · refine ⟨k, by omega, fun j hj => ?_⟩
        by_cases ej : j = n
        · rw [ej]; exact c1
        · exact hm j (by omega)
      · refine ⟨n, by omega, fun j hj => ?_⟩
        by_cases ej : j = n
        · rw [ej]; exact Int.le_refl _
        · exact q_le_tr (hb n (by omega)) (hb k (by omega)) (hb j (by omega)) (by omega) (hm j (by omega))
theorem p_lx_sc {a d : Int → Int} {c : Int} (hc : 0 < c) : p_lx (fun r => a r * c) (fun r => d r * c) ↔ p_lx a d := by
  have hl : ∀ x y : Int, x * c < y * c ↔ x < y := fun x y => ⟨fun w => Int.lt_of_mul_lt_mul_right w (Int.le_of_lt hc), fun w => Int.mul_lt_mul_of_pos_right w hc⟩
  have he : ∀ x y : Int, x * c = y * c ↔ x = y := fun x y => ⟨fun w => Int.eq_of_mul_eq_mul_right (by omega) w, fun w => by rw [w]⟩
  unfold p_lx
  simp only [hl, he]
theorem p_lx_tot {a d : Int → Int} (h1 : ¬ p_lx a d) (h2 : ¬ p_lx d a) : ∀ r, 0 ≤ r → r < 4 → a r = d r := by
  unfold p_lx at h1 h2
  intro r r1 r2
  have : r = 0 ∨ r = 1 ∨ r = 2 ∨ r = 3 := by omega
  rcases this with e | e | e | e <;> rw [e] <;> omega
theorem p_lx_irr (a : Int → Int) : ¬ p_lx a a := by
  unfold p_lx
  omega
theorem p_co_eqp {F : xM} {p q : Int} {s s' : Nat} (hr : 0 ≤ F 0 3) (h : p_eqp F p q s s') : p_co F (p_Y F p q s) * p_b (p_C F s') = p_co F (p_Y F p q s') * p_b (p_C F s) := by
  unfold p_co
  refine x_sm_lin _ (fun i a c => ?_)
  have := h i a (by omega)
  grind
/-- the prices of the corner are among the cheapest -/
def p_chp (F : xM) (p q : Int) (s : Nat) : Prop := ∀ s', s' < 2 ^ p_pr F → p_dok F p q s' → p_co F (p_Y F p q s) * p_b (p_C F s') ≤ p_co F (p_Y F p q s') * p_b (p_C F s)
theorem p_chp_set {F : xM} (hF : p_wf F) {p q : Int} {n : Nat} {S : Nat → Nat} (hS : p_pset F p q (2 ^ p_pr F) n S) {k : Nat} (hk : k < n) : (∀ j, j < n → p_co F (p_Y F p q (S k)) * p_b (p_C F (S j)) ≤ p_co F (p_Y F p q (S j)) * p_b (p_C F (S k))) ↔ p_chp F p q (S k) := by
  have hr := hF.2.2.2.1
  refine ⟨fun w s' hs' ok' => ?_, fun w j hj => w _ (hS.1 j hj).1 (hS.1 j hj).2⟩
  obtain ⟨j, hj, ej⟩ := hS.2.2 s' hs' ok'
  have eq := (q_tau hF (hS.1 j hj).1 hs' (hS.1 j hj).2 ok').mpr ej
  have e1 := p_co_eqp (by omega) eq
  have b1 := p_b_pos (hS.1 j hj).2.2.1
  have b2 := p_b_pos ok'.2.1
  have b3 := p_b_pos (hS.1 k hk).2.2.1
  exact q_le_tr b3 b1 b2 (w j hj) (by omega)
theorem p_lp_of {F : xM} (hF : p_wf F) {p q : Int} {n : Nat} {S : Nat → Nat} (hS : p_pset F p q (2 ^ p_pr F) n S) {k : Nat} (hk : k < n) (h1 : ∀ j, j < n → p_co F (p_Y F p q (S k)) * p_b (p_C F (S j)) ≤ p_co F (p_Y F p q (S j)) * p_b (p_C F (S k)))
    (h2 : ∀ j, j < n → p_co F (p_Y F p q (S j)) * p_b (p_C F (S k)) = p_co F (p_Y F p q (S k)) * p_b (p_C F (S j)) → ¬ p_lx (fun r => (if r < F 0 3 then p_Y F p q (S j) r else 0) * p_b (p_C F (S k))) (fun r => (if r < F 0 3 then p_Y F p q (S k) r else 0) * p_b (p_C F (S j)))) : p_lp F p q (S k) := by
  have hr := hF.2.2.2.1
  refine ⟨(hS.1 k hk).1, (hS.1 k hk).2, (p_chp_set hF hS hk).mp h1, fun s' hs' ok' ec hx => ?_⟩
  obtain ⟨j, hj, ej⟩ := hS.2.2 s' hs' ok'
  have eq := (q_tau hF (hS.1 j hj).1 hs' (hS.1 j hj).2 ok').mpr ej
  have e1 := p_co_eqp (by omega) eq
  have b1 := p_b_pos (hS.1 j hj).2.2.1
  have b2 := p_b_pos ok'.2.1
  have b3 := p_b_pos (hS.1 k hk).2.2.1
  refine h2 j hj ?_ ?_
  · have a1 := q_le_tr (a := p_co F (p_Y F p q (S j))) (b := p_b (p_C F (S j))) (c := p_co F (p_Y F p q s')) (d := p_b (p_C F s')) (e := p_co F (p_Y F p q (S k))) (f := p_b (p_C F (S k))) b1 b2 b3 (by omega) (by omega)
    have a2 := h1 j hj
    omega
  · rw [← p_lx_sc b2]
    rw [← p_lx_sc b1] at hx
    have f1 : (fun r : Int => ((if r < F 0 3 then p_Y F p q s' r else 0) * p_b (p_C F (S k))) * p_b (p_C F (S j))) 0 = (fun r : Int => ((if r < F 0 3 then p_Y F p q (S j) r else 0) * p_b (p_C F (S k))) * p_b (p_C F s')) 0 ∧ (fun r : Int => ((if r < F 0 3 then p_Y F p q s' r else 0) * p_b (p_C F (S k))) * p_b (p_C F (S j))) 1 = (fun r : Int => ((if r < F 0 3 then p_Y F p q (S j) r else 0) * p_b (p_C F (S k))) * p_b (p_C F s')) 1 ∧ (fun r : Int => ((if r < F 0 3 then p_Y F p q s' r else 0) * p_b (p_C F (S k))) * p_b (p_C F (S j))) 2 = (fun r : Int => ((if r < F 0 3 then p_Y F p q (S j) r else 0) * p_b (p_C F (S k))) * p_b (p_C F s')) 2 ∧ (fun r : Int => ((if r < F 0 3 then p_Y F p q s' r else 0) * p_b (p_C F (S k))) * p_b (p_C F (S j))) 3 = (fun r : Int => ((if r < F 0 3 then p_Y F p q (S j) r else 0) * p_b (p_C F (S k))) * p_b (p_C F s')) 3 := by
      have one : ∀ r : Int, 0 ≤ r → ((if r < F 0 3 then p_Y F p q s' r else 0) * p_b (p_C F (S k))) * p_b (p_C F (S j)) = ((if r < F 0 3 then p_Y F p q (S j) r else 0) * p_b (p_C F (S k))) * p_b (p_C F s') := by
        intro r r1
        by_cases c : r < F 0 3
        · rw [if_pos c, if_pos c]
          have := eq r r1 c
          grind
        · rw [if_neg c, if_neg c]
          omega
      exact ⟨one 0 (by omega), one 1 (by omega), one 2 (by omega), one 3 (by omega)⟩
    have f2 : (fun r : Int => ((if r < F 0 3 then p_Y F p q (S k) r else 0) * p_b (p_C F s')) * p_b (p_C F (S j))) = (fun r : Int => ((if r < F 0 3 then p_Y F p q (S k) r else 0) * p_b (p_C F (S j))) * p_b (p_C F s')) := by
      funext r
      grind
    rw [f2] at hx
    unfold p_lx at hx ⊢
    rw [f1.1, f1.2.1, f1.2.2.1, f1.2.2.2] at hx
    exact hx
theorem p_lp_u {F : xM} (hF : p_wf F) {p q : Int} {s s' : Nat} (h : p_lp F p q s) (h' : p_lp F p q s') : p_eqp F p q s s' := by
  have hr := hF.2.2.2.1
  have c1 := h.2.2.1 s' h'.1 h'.2.1
  have c2 := h'.2.2.1 s h.1 h.2.1
  have n1 := h.2.2.2 s' h'.1 h'.2.1 (by omega)
  have n2 := h'.2.2.2 s h.1 h.2.1 (by omega)
  intro r r1 r2
  have := p_lx_tot n1 n2 r r1 (by omega)
  simp only [if_pos r2] at this
  exact this.symm
theorem p_cnt_up {P P' : Nat → Prop} {i : Nat} : ∀ n : Nat, i < n → ¬ P i → P' i → (∀ j, j ≠ i → (P j ↔ P' j)) → p_cnt P' n = p_cnt P n + 1 := by
  intro n
  induction n with
  | zero => intro h; omega
  | succ n ih =>
    intro hi h1 h2 h3
    unfold p_cnt
    by_cases e : i = n
    · rw [← e, p_if_t h2, p_if_f h1, p_cnt_cg (P := P') (P' := P) i (fun k hk => (h3 k (by omega)).symm)]
    · rw [ih (by omega) h1 h2 h3]
      by_cases c : P n
      · rw [p_if_t c, p_if_t ((h3 n (by omega)).mp c)]
      · rw [p_if_f c, p_if_f (fun w => c ((h3 n (by omega)).mpr w))]
theorem p_cnt_inj {P : Nat → Prop} {g : Nat → Nat} {N : Nat} : ∀ n : Nat, (∀ k, k < n → g k < N) → (∀ i j, i < n → j < n → g i = g j → i = j) → p_cnt (fun k => P (g k)) n = p_cnt (fun t => P t ∧ ∃ k, k < n ∧ g k = t) N := by
  intro n
  induction n with
  | zero =>
    intro _ _
    exact (p_cnt_no N (fun k hk w => by obtain ⟨-, k, h, -⟩ := w; omega)).symm
  | succ n ih =>
    intro h1 h2
    have i1 := ih (fun k hk => h1 k (by omega)) (fun i j a b => h2 i j (by omega) (by omega))
    show p_cnt (fun k => P (g k)) n + p_if (P (g n)) 1 0 = _
    rw [i1]
    by_cases c : P (g n)
    · rw [p_if_t c]
      refine (p_cnt_up (i := g n) N (h1 n (by omega)) (fun w => ?_) ⟨c, n, by omega, rfl⟩ (fun j hj => ?_)).symm
      · obtain ⟨-, k, k1, k2⟩ := w
        have := h2 k n (by omega) (by omega) k2
        omega
      · refine ⟨fun ⟨a, k, k1, k2⟩ => ⟨a, k, by omega, k2⟩, fun ⟨a, k, k1, k2⟩ => ⟨a, k, ?_, k2⟩⟩
        by_cases e : k = n
        · rw [e] at k2; omega
        · omega
    · rw [p_if_f c, Nat.add_zero]
      refine p_cnt_cg N (fun t ht => ⟨fun ⟨a, k, k1, k2⟩ => ⟨a, k, by omega, k2⟩, fun ⟨a, k, k1, k2⟩ => ⟨a, k, ?_, k2⟩⟩)
      by_cases e : k = n
      · rw [e] at k2; rw [k2] at c; exact absurd a c
      · omega
/-- how many cheapest prices there are -/
noncomputable def p_np (F : xM) (p q : Int) : Nat := p_cnt (fun t => ∃ s, s < 2 ^ p_pr F ∧ p_dok F p q s ∧ p_tau F p q s = t ∧ p_chp F p q s) (2 ^ p_pr F)
theorem p_chp_eqp {F : xM} (hF : p_wf F) {p q : Int} {s s' : Nat} (h : p_dok F p q s) (h' : p_dok F p q s') (e : p_eqp F p q s s') (hc : p_chp F p q s) : p_chp F p q s' := by
  have hr := hF.2.2.2.1
  have e1 := p_co_eqp (by omega) e
  have b1 := p_b_pos h.2.1
  have b2 := p_b_pos h'.2.1
  intro t ht okt
  have b3 := p_b_pos okt.2.1
  exact q_le_tr b2 b1 b3 (by omega) (hc t ht okt)
theorem p_tau_lt (F : xM) (p q : Int) (s : Nat) : p_tau F p q s < 2 ^ p_pr F := x_set_lt _ _
theorem p_np_of {F : xM} (hF : p_wf F) {p q : Int} {n : Nat} {S : Nat → Nat} (hS : p_pset F p q (2 ^ p_pr F) n S) : p_cnt (fun j => p_chp F p q (S j)) n = p_np F p q := by
  have h1 := p_cnt_inj (P := fun t => ∃ s, s < 2 ^ p_pr F ∧ p_dok F p q s ∧ p_tau F p q s = t ∧ p_chp F p q s) (g := fun k => p_tau F p q (S k)) (N := 2 ^ p_pr F) n (fun k hk => p_tau_lt ..) hS.2.1
  unfold p_np
  rw [p_cnt_cg (P := fun t => ∃ s, s < 2 ^ p_pr F ∧ p_dok F p q s ∧ p_tau F p q s = t ∧ p_chp F p q s) (P' := fun t => (∃ s, s < 2 ^ p_pr F ∧ p_dok F p q s ∧ p_tau F p q s = t ∧ p_chp F p q s) ∧ ∃ k, k < n ∧ p_tau F p q (S k) = t) (2 ^ p_pr F) ?_]
  · rw [← h1]
    refine p_cnt_cg n (fun k hk => ⟨fun w => ⟨S k, (hS.1 k hk).1, (hS.1 k hk).2, rfl, w⟩, fun ⟨s, s1, s2, s3, s4⟩ => ?_⟩)
    exact p_chp_eqp hF s2 (hS.1 k hk).2 ((q_tau hF s1 (hS.1 k hk).1 s2 (hS.1 k hk).2).mpr s3) s4
  · intro t ht
    refine ⟨fun w => ⟨w, ?_⟩, fun w => w.1⟩
    obtain ⟨s, s1, s2, s3, s4⟩ := w
    obtain ⟨k, k1, k2⟩ := hS.2.2 s s1 s2
    exact ⟨k, k1, by rw [k2, s3]⟩
theorem p_cnt_chp {F : xM} (hF : p_wf F) {p q : Int} {n : Nat} {S : Nat → Nat} (hS : p_pset F p q (2 ^ p_pr F) n S) {k : Nat} (hk : k < n) (h1 : p_chp F p q (S k)) : p_cnt (fun j => p_co F (p_Y F p q (S j)) * p_b (p_C F (S k)) = p_co F (p_Y F p q (S k)) * p_b (p_C F (S j))) n = p_np F p q := by
  rw [← p_np_of hF hS]
  refine p_cnt_cg n (fun j hj => ⟨fun w s' hs' ok' => ?_, fun w => ?_⟩)
  · exact q_le_tr (p_b_pos (hS.1 j hj).2.2.1) (p_b_pos (hS.1 k hk).2.2.1) (p_b_pos ok'.2.1) (by omega) (h1 s' hs' ok')
  · have a1 := w _ (hS.1 k hk).1 (hS.1 k hk).2
    have a2 := h1 _ (hS.1 j hj).1 (hS.1 j hj).2
    omega
