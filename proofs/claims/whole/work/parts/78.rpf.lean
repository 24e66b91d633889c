/-! The reference's proofs -/
section RP
variable {l : Launch} {E : xE} {Q : Option xV → xM → Prop}
theorem p_bS {F : xM} (hF : p_wf F) {p q : Int} {s : Nat} (hs : s < 2 ^ p_pr F) (h : p_dok F p q s) : 0 < p_b (p_C F s) ∧ p_b (p_C F s) ≤ 162 := by
  have := p_pr_le hF
  have := p_b_pos h.2.1
  have := p_C_d (p_C_bd hF (s := s) (by omega) h.1)
  have := p_b_abs (p_C F s)
  omega
theorem p_coS {F : xM} (hF : p_wf F) {p q : Int} (hpq : p_tm p q) {s : Nat} (hs : s < 2 ^ p_pr F) (h : p_dok F p q s) : -4959360000000 ≤ p_co F (p_Y F p q s) ∧ p_co F (p_Y F p q s) ≤ 4959360000000 := by
  have hr := hF.2.2.2.1
  exact p_co_bd hF (n := (F 0 3).toNat) (by omega) (p_Y_bd hF hpq hs h.1)
theorem c_costOf {f : Int} (hf : 0 ≤ f ∧ f < 3) {M : xM} {F : xM} (hF : p_wf F) (hR : p_RF M f F) {p q : Int} (hpq : p_tm p q) {n : Nat} (hn : n ≤ 35) {S : Nat → Nat} (hS : p_pset F p q (2 ^ p_pr F) n S) (ht : p_rptab M F p q n S) {k : Nat} (hk : k < n) (h : Q (some (1, p_co F (p_Y F p q (S k)))) M) : x_Ev l E (1, 0, 0) m_X11_costOf 0 [(21, 103), (0, f), (0, (k : Int)), (5, 0), (5, 0), (5, 0)] [] M Q := by
  have hr := hF.2.2.2.1
  obtain ⟨R, hRR⟩ : ∃ R : Nat, F 0 3 = R := ⟨(F 0 3).toNat, by omega⟩
  obtain ⟨hs, ok⟩ := hS.1 k hk
  have yb := p_Y_bd hF hpq hs ok.1
  obtain ⟨t1, t2, t3⟩ := ht.2 k hk
  have hb : ∀ i : Nat, i ≤ R → -4959360000000 ≤ x_sm (fun r => p_Y F p q (S k) r * F 3 r) i ∧ x_sm (fun r => p_Y F p q (S k) r * F 3 r) i ≤ 4959360000000 := fun i hi => p_co_bd hF (n := i) (by omega) yb
  have main : ∀ (m i : Nat), R - i ≤ m → i ≤ R → x_Ev l E (1, 0, 0) m_X11_costOf 5 [(21, 103), (0, f), (0, (k : Int)), (1, x_sm (fun r => p_Y F p q (S k) r * F 3 r) i), (5, 0), (0, (i : Int))] [] M Q := by
    intro m
    induction m with
    | zero =>
      intro i hm hi
      have ei : i = R := by omega
      refine u_X11_costOf_5 f k _ i ⟨by omega, fun _ => ?_, fun w => absurd (by rw [hR.2.2.2.1]; omega) w⟩
      unfold p_co at h
      rw [hRR, Int.toNat_natCast, ← ei] at h
      exact h
    | succ m ih =>
      intro i hm hi
      by_cases e : i = R
      · exact ih i (by omega) hi
      refine u_X11_costOf_5 f k _ i ⟨by omega, fun w => by rw [hR.2.2.2.1] at w; omega, fun w => ⟨by omega, by omega, by omega, by omega, ?_⟩⟩
      rw [show 284 + 1 + 1 * (k : Int) = 285 + k by omega, show 137 + 1 + 1 * f = 138 + f by omega, t1 i (by omega) (by omega), hR.2.2.2.2.2.2 i (by omega) (by omega)]
      intro v hv v2 hv2
      rw [x_w_id (by omega) (by omega)] at hv2
      have b1 := hb (i + 1) (by omega)
      rw [x_W_a2] at hv
      have ev : v = x_sm (fun r => p_Y F p q (S k) r * F 3 r) (i + 1) := by
        rw [hv]
        exact x_W_id (x := x_sm (fun r => p_Y F p q (S k) r * F 3 r) (i + 1)) (by omega) (by omega)
      rw [ev, hv2]
      exact ih (i + 1) (by omega) (by omega)
  exact u_X11_costOf_0 f k (main R 0 (by omega) (by omega))
theorem c_isProof {f : Int} (hf : 0 ≤ f ∧ f < 3) {M : xM} {F : xM} (hF : p_wf F) (hR : p_RF M f F) {p q : Int} (hpq : p_tm p q) {n : Nat} (hn : n ≤ 35) {S : Nat → Nat} (hS : p_pset F p q (2 ^ p_pr F) n S) (ht : p_rptab M F p q n S) {k : Nat} (hk : k < n) (h1 : p_chp F p q (S k) → Q (some (0, 1)) M) (h0 : ¬ p_chp F p q (S k) → Q (some (0, 0)) M) : x_Ev l E (3, 0, 0) m_X11_isProof 0 [(21, 103), (0, f), (0, (k : Int)), (5, 0)] [] M Q := by
  rw [← p_chp_set hF hS hk] at h1 h0
  obtain ⟨hs, ok⟩ := hS.1 k hk
  have bk := p_bS hF hs ok
  have ck := p_coS hF hpq hs ok
  have main : ∀ (m i : Nat), n - i ≤ m → i ≤ n → (∀ j, j < i → p_co F (p_Y F p q (S k)) * p_b (p_C F (S j)) ≤ p_co F (p_Y F p q (S j)) * p_b (p_C F (S k))) → x_Ev l E (3, 0, 0) m_X11_isProof 2 [(21, 103), (0, f), (0, (k : Int)), (0, (i : Int))] [] M Q := by
    intro m
    induction m with
    | zero =>
      intro i hm hi hx
      exact u_X11_isProof_2 f k i ⟨fun _ => h1 (fun j hj => hx j (by omega)), fun w => absurd (by rw [ht.1]; omega) w⟩
    | succ m ih =>
      intro i hm hi hx
      by_cases e : i = n
      · exact ih i (by omega) hi hx
      obtain ⟨hs', ok'⟩ := hS.1 i (by omega)
      have bi := p_bS hF hs' ok'
      have ci := p_coS hF hpq hs' ok'
      have m1 := x_mb (a := p_co F (p_Y F p q (S k))) (b := p_b (p_C F (S i))) (A := 4959360000000) (B := 162) (by omega) (by omega)
      have m2 := x_mb (a := p_co F (p_Y F p q (S i))) (b := p_b (p_C F (S k))) (A := 4959360000000) (B := 162) (by omega) (by omega)
      refine u_X11_isProof_2 f k i ⟨fun w => by rw [ht.1] at w; omega, fun w => ?_⟩
      refine u_X11_costLess_0 f k i (c_costOf hf hF hR hpq hn hS ht hk ⟨_, rfl, by omega, c_costOf hf hF hR hpq hn hS ht (k := i) (by omega) ⟨_, rfl, by omega, _, rfl, ?_⟩⟩)
      rw [(ht.2 k hk).2.1, (ht.2 i (by omega)).2.1, x_W_id (x := p_co F (p_Y F p q (S k)) * _) (by omega) (by omega), x_W_id (x := p_co F (p_Y F p q (S i)) * _) (by omega) (by omega), x_W_id (by omega) (by omega)]
      refine ⟨fun c => ?_, fun c => h0 (fun w => by have := w i (by omega); omega)⟩
      intro v hv
      rw [x_w_id (by omega) (by omega)] at hv
      rw [hv]
      refine ih (i + 1) (by omega) (by omega) (fun j hj => ?_)
      by_cases ej : j = i
      · rw [ej]; omega
      · exact hx j (by omega)
  exact u_X11_isProof_0 f k (main n 0 (by omega) (by omega) (fun j hj => by omega))
theorem c_proofMany {f : Int} (hf : 0 ≤ f ∧ f < 3) {M : xM} {F : xM} (hF : p_wf F) (hR : p_RF M f F) {p q : Int} (hpq : p_tm p q) {n : Nat} (hn : n ≤ 35) {S : Nat → Nat} (hS : p_pset F p q (2 ^ p_pr F) n S) (ht : p_rptab M F p q n S) (h : Q (some (0, (p_np F p q : Int))) M) : x_Ev l E (4, 0, 0) m_X11_proofMany 0 [(21, 103), (0, f), (5, 0), (5, 0)] [] M Q := by
  rw [← p_np_of hF hS] at h
  have main : ∀ (m i : Nat), n - i ≤ m → i ≤ n → x_Ev l E (4, 0, 0) m_X11_proofMany 4 [(21, 103), (0, f), (0, (p_cnt (fun j => p_chp F p q (S j)) i : Int)), (0, (i : Int))] [] M Q := by
    intro m
    induction m with
    | zero =>
      intro i hm hi
      have ei : i = n := by omega
      refine u_X11_proofMany_4 f _ i ⟨fun _ => ?_, fun w => absurd (by rw [ht.1]; omega) w⟩
      rw [ei]
      exact h
    | succ m ih =>
      intro i hm hi
      by_cases e : i = n
      · exact ih i (by omega) hi
      have := p_cnt_le (fun j => p_chp F p q (S j)) i
      refine u_X11_proofMany_4 f _ i ⟨fun w => by rw [ht.1] at w; omega, fun w => ?_⟩
      refine c_isProof hf hF hR hpq hn hS ht (k := i) (by omega) (fun c => ⟨_, rfl, fun z => absurd z (by omega), fun _ => ?_⟩) (fun c => ⟨_, rfl, fun _ => ?_, fun z => absurd rfl z⟩)
      · intro v hv v2 hv2
        rw [x_w_id (by omega) (by omega)] at hv hv2
        have e1 : p_cnt (fun j => p_chp F p q (S j)) (i + 1) = p_cnt (fun j => p_chp F p q (S j)) i + 1 := by
          show _ + p_if _ 1 0 = _
          rw [p_if_t c]
        rw [hv, hv2]
        have := ih (i + 1) (by omega) (by omega)
        rw [e1] at this
        exact this
      · intro v hv v2 hv2
        rw [x_w_id (by omega) (by omega)] at hv hv2
        have e1 : p_cnt (fun j => p_chp F p q (S j)) (i + 1) = p_cnt (fun j => p_chp F p q (S j)) i := by
          show _ + p_if _ 1 0 = _
          rw [p_if_f c]
          rfl
        rw [hv, hv2, Int.add_zero]
        have := ih (i + 1) (by omega) (by omega)
        rw [e1] at this
        exact this
  exact u_X11_proofMany_0 f (main n 0 (by omega) (by omega))
def p_lxx (F : xM) (p q : Int) (s s' : Nat) : Prop := p_lx (fun r => (if r < F 0 3 then p_Y F p q s r else 0) * p_b (p_C F s')) (fun r => (if r < F 0 3 then p_Y F p q s' r else 0) * p_b (p_C F s))
theorem c_rAhead {f : Int} (hf : 0 ≤ f ∧ f < 3) {M : xM} {F : xM} (hF : p_wf F) (hR : p_RF M f F) {p q : Int} (hpq : p_tm p q) {n : Nat} (hn : n ≤ 35) {S : Nat → Nat} (hS : p_pset F p q (2 ^ p_pr F) n S) (ht : p_rptab M F p q n S) {k o : Nat} (hk : k < n) (ho : o < n) (h1 : p_lxx F p q (S k) (S o) → Q (some (0, 1)) M) (h0 : ¬ p_lxx F p q (S k) (S o) → Q (some (0, 0)) M) : x_Ev l E (1, 0, 0) m_X11_isAhead 0 [(21, 103), (0, f), (0, (k : Int)), (0, (o : Int)), (5, 0), (5, 0), (5, 0), (5, 0), (5, 0)] [] M Q := by
  have hr := hF.2.2.2.1
  obtain ⟨hs, ok⟩ := hS.1 k hk
  obtain ⟨hs', ok'⟩ := hS.1 o ho
  have bk := p_bS hF hs ok
  have bo := p_bS hF hs' ok'
  have yk := p_Y_bd hF hpq hs ok.1
  have yo := p_Y_bd hF hpq hs' ok'.1
  obtain ⟨a1, a2, a3⟩ := ht.2 k hk
  obtain ⟨c1, c2, c3⟩ := ht.2 o ho
  have dec : ∀ r : Int, 0 ≤ r → r < 4 → (∀ i, 0 ≤ i → i < r → (if i < F 0 3 then p_Y F p q (S k) i else 0) * p_b (p_C F (S o)) = (if i < F 0 3 then p_Y F p q (S o) i else 0) * p_b (p_C F (S k))) → (if r < F 0 3 then p_Y F p q (S k) r else 0) * p_b (p_C F (S o)) ≠ (if r < F 0 3 then p_Y F p q (S o) r else 0) * p_b (p_C F (S k)) → (p_lxx F p q (S k) (S o) ↔ (if r < F 0 3 then p_Y F p q (S k) r else 0) * p_b (p_C F (S o)) < (if r < F 0 3 then p_Y F p q (S o) r else 0) * p_b (p_C F (S k))) := by
    intro r r1 r2 hx hne
    unfold p_lxx p_lx
    generalize hA : (fun r : Int => (if r < F 0 3 then p_Y F p q (S k) r else 0) * p_b (p_C F (S o))) = A
    generalize hB : (fun r : Int => (if r < F 0 3 then p_Y F p q (S o) r else 0) * p_b (p_C F (S k))) = B
    have hx' : ∀ i, 0 ≤ i → i < r → A i = B i := by rw [← hA, ← hB]; exact hx
    have hne' : A r ≠ B r := by rw [← hA, ← hB]; exact hne
    have e1 : (if r < F 0 3 then p_Y F p q (S k) r else 0) * p_b (p_C F (S o)) = A r := by rw [← hA]
    have e2 : (if r < F 0 3 then p_Y F p q (S o) r else 0) * p_b (p_C F (S k)) = B r := by rw [← hB]
    rw [e1, e2]
    have : r = 0 ∨ r = 1 ∨ r = 2 ∨ r = 3 := by omega
    rcases this with e | e | e | e
    · rw [e] at hne' ⊢; omega
    · have w0 := hx' 0 (by omega) (by omega)
      rw [e] at hne' ⊢; omega
    · have w0 := hx' 0 (by omega) (by omega)
      have w1 := hx' 1 (by omega) (by omega)
      rw [e] at hne' ⊢; omega
    · have w0 := hx' 0 (by omega) (by omega)
      have w1 := hx' 1 (by omega) (by omega)
      have w2 := hx' 2 (by omega) (by omega)
      rw [e] at hne' ⊢; omega
  have main : ∀ (m : Nat) (r : Int), F 0 3 - r ≤ m → 0 ≤ r → r ≤ F 0 3 → (∀ i, 0 ≤ i → i < r → (if i < F 0 3 then p_Y F p q (S k) i else 0) * p_b (p_C F (S o)) = (if i < F 0 3 then p_Y F p q (S o) i else 0) * p_b (p_C F (S k))) → x_Ev l E (1, 0, 0) m_X11_isAhead 3 [(21, 103), (0, f), (0, (k : Int)), (0, (o : Int)), (0, r), (5, 0), (5, 0), (5, 0), (5, 0)] [] M Q := by
    intro m
    induction m with
    | zero =>
      intro r hm hr1 hr4 hx
      refine u_X11_isAhead_3 f k o r ⟨by omega, fun _ => h0 (fun w => ?_), fun d => absurd (by rw [hR.2.2.2.1]; omega) d⟩
      have all : ∀ i : Int, 0 ≤ i → (if i < F 0 3 then p_Y F p q (S k) i else 0) * p_b (p_C F (S o)) = (if i < F 0 3 then p_Y F p q (S o) i else 0) * p_b (p_C F (S k)) := by
        intro i i1
        by_cases c : i < F 0 3
        · exact hx i i1 (by omega)
        · rw [if_neg c, if_neg c]; omega
      unfold p_lxx p_lx at w
      have w0 := all 0 (by omega)
      have w1 := all 1 (by omega)
      have w2 := all 2 (by omega)
      have w3 := all 3 (by omega)
      dsimp only at w
      rw [w0, w1, w2, w3] at w
      omega
    | succ m ih =>
      intro r hm hr1 hr4 hx
      by_cases e : r = F 0 3
      · exact ih r (by omega) hr1 hr4 hx
      have b1 := yk r hr1 (by omega)
      have b2 := yo r hr1 (by omega)
      have m1 := x_mb (a := p_Y F p q (S k) r) (b := p_b (p_C F (S o))) (A := 61992000000) (B := 162) (by omega) (by omega)
      have m2 := x_mb (a := p_Y F p q (S o) r) (b := p_b (p_C F (S k))) (A := 61992000000) (B := 162) (by omega) (by omega)
      have e1 : (if r < F 0 3 then p_Y F p q (S k) r else 0) = p_Y F p q (S k) r := if_pos (by omega)
      have e2 : (if r < F 0 3 then p_Y F p q (S o) r else 0) = p_Y F p q (S o) r := if_pos (by omega)
      have de := dec r hr1 (by omega) hx
      rw [e1, e2] at de
      refine u_X11_isAhead_3 f k o r ⟨by omega, fun d => by rw [hR.2.2.2.1] at d; omega, fun d => ⟨by omega, by omega, by omega, ?_⟩⟩
      rw [show 284 + 1 + 1 * (k : Int) = 285 + k by omega, show 284 + 1 + 1 * (o : Int) = 285 + o by omega, a1 r hr1 (by omega), c1 r hr1 (by omega), a2, c2, x_W_id (x := p_Y F p q (S k) r * _) (by omega) (by omega), x_W_id (x := p_Y F p q (S o) r * _) (by omega) (by omega)]
      intro v hv
      refine ⟨by omega, by omega, by omega, ?_⟩
      intro v2 hv2
      refine ⟨fun d => ?_, fun d => ⟨fun d2 => h0 (fun w => ?_), fun d2 => h1 ?_⟩⟩
      · intro z hz
        rw [x_w_id (by omega) (by omega)] at hz
        rw [hz]
        refine ih (r + 1) (by omega) (by omega) (by omega) (fun i i1 i2 => ?_)
        by_cases ei : i = r
        · rw [ei, e1, e2]; omega
        · exact hx i i1 (by omega)
      · have := (de (by omega)).mp w
        omega
      · exact (de (by omega)).mpr (by omega)
  exact u_X11_isAhead_0 f k o (main 4 0 (by omega) (by omega) (by omega) (fun i a c => by omega))
theorem c_theProof {f : Int} (hf : 0 ≤ f ∧ f < 3) {M : xM} {F : xM} (hF : p_wf F) (hR : p_RF M f F) {p q : Int} (hpq : p_tm p q) {n : Nat} (hn : n ≤ 35) {S : Nat → Nat} (hS : p_pset F p q (2 ^ p_pr F) n S) (ht : p_rptab M F p q n S) (h : ∀ k : Nat, k < n → p_lp F p q (S k) → Q (some (0, (k : Int))) M) : x_Ev l E (4, 0, 0) m_X11_theProof 0 [(21, 103), (0, f), (5, 0), (5, 0)] [] M Q := by
  have hb : ∀ k, k < n → 0 < p_b (p_C F (S k)) := fun k hk => (p_bS hF (hS.1 k hk).1 (hS.1 k hk).2).1
  obtain ⟨y, hy⟩ := q_lx_emb (Y := fun k r => if r < F 0 3 then p_Y F p q (S k) r else 0) (b := fun k => p_b (p_C F (S k))) hb
  have hy' : ∀ i j : Nat, i < n → j < n → (p_lxx F p q (S i) (S j) ↔ q_lx y i j) := hy
  obtain ⟨s0, w1, w2⟩ := p_dok_ex hF p q
  obtain ⟨k0, hk0, -⟩ := hS.2.2 s0 w1 w2
  obtain ⟨kc, hkc, hmin⟩ := q_min_ex (b := fun k => p_b (p_C F (S k))) (c := fun k => p_co F (p_Y F p q (S k))) n (by omega) hb
  have hch : p_chp F p q (S kc) := (p_chp_set hF hS hkc).mp hmin
  have fin : ∀ o : Nat, o < n → p_chp F p q (S o) → (∀ j, j < n → p_chp F p q (S j) → ¬ p_lxx F p q (S j) (S o)) → p_lp F p q (S o) := by
    intro o ho hc hx
    refine p_lp_of hF hS ho ((p_chp_set hF hS ho).mpr hc) (fun j hj ec => hx j hj (fun s' hs' ok' => ?_))
    exact q_le_tr (hb j hj) (hb o ho) (p_b_pos ok'.2.1) (by omega) (hc s' hs' ok')
  have main : ∀ (m i : Nat) (v : Int), n - i ≤ m → i ≤ n → ((v = -1 ∧ ∀ j, j < i → ¬ p_chp F p q (S j)) ∨ ∃ o : Nat, v = o ∧ o < i ∧ p_chp F p q (S o) ∧ ∀ j, j < i → p_chp F p q (S j) → ¬ p_lxx F p q (S j) (S o)) → x_Ev l E (4, 0, 0) m_X11_theProof 4 [(21, 103), (0, f), (0, v), (0, (i : Int))] [] M Q := by
    intro m
    induction m with
    | zero =>
      intro i v hm hi hx
      refine u_X11_theProof_4 f _ i ⟨fun _ => ?_, fun w => absurd (by rw [ht.1]; omega) w⟩
      rcases hx with ⟨-, hx⟩ | ⟨o, ev, ho, hc, hx⟩
      · exact absurd hch (hx kc (by omega))
      · rw [ev]
        exact h o (by omega) (fin o (by omega) hc (fun j hj => hx j (by omega)))
    | succ m ih =>
      intro i v hm hi hx
      by_cases e : i = n
      · exact ih i v (by omega) hi hx
      refine u_X11_theProof_4 f _ i ⟨fun w => by rw [ht.1] at w; omega, fun w => ?_⟩
      refine c_isProof hf hF hR hpq hn hS ht (k := i) (by omega) (fun c => ⟨_, rfl, fun z => absurd z (by omega), fun _ => ⟨fun d => ?_, fun d => ?_⟩⟩) (fun c => ⟨_, rfl, fun _ => ?_, fun z => absurd rfl z⟩)
      · intro z hz
        rw [x_w_id (by omega) (by omega)] at hz
        rw [hz]
        refine ih (i + 1) i (by omega) (by omega) (Or.inr ⟨i, rfl, by omega, c, fun j hj hcj hl => ?_⟩)
        rcases hx with ⟨-, hx⟩ | ⟨o, ev, ho, hc, hx⟩
        · by_cases ej : j = i
          · rw [ej, hy' i i (by omega) (by omega)] at hl
            exact q_lx_ir hl
          · exact hx j (by omega) hcj
        · omega
      · rcases hx with ⟨ev, hx⟩ | ⟨o, ev, ho, hc, hx⟩
        · omega
        rw [ev]
        refine c_rAhead hf hF hR hpq hn hS ht (k := i) (o := o) (by omega) (by omega) (fun a => ⟨_, rfl, fun z => absurd z (by omega), fun _ => ?_⟩) (fun a => ⟨_, rfl, fun _ => ?_, fun z => absurd rfl z⟩)
        · intro z hz
          rw [x_w_id (by omega) (by omega)] at hz
          rw [hz]
          refine ih (i + 1) i (by omega) (by omega) (Or.inr ⟨i, rfl, by omega, c, fun j hj hcj hl => ?_⟩)
          by_cases ej : j = i
          · rw [ej, hy' i i (by omega) (by omega)] at hl
            exact q_lx_ir hl
          · refine hx j (by omega) hcj ?_
            rw [hy' _ _ (by omega) (by omega)] at hl a ⊢
            exact q_lx_tr hl a
        · intro z hz
          rw [x_w_id (by omega) (by omega)] at hz
          rw [hz]
          refine ih (i + 1) o (by omega) (by omega) (Or.inr ⟨o, rfl, by omega, hc, fun j hj hcj => ?_⟩)
          by_cases ej : j = i
          · rw [ej]; exact a
          · exact hx j (by omega) hcj
      · intro z hz
        rw [x_w_id (by omega) (by omega)] at hz
        rw [hz]
        refine ih (i + 1) v (by omega) (by omega) ?_
        rcases hx with ⟨ev, hx⟩ | ⟨o, ev, ho, hc, hx⟩
        · refine Or.inl ⟨ev, fun j hj => ?_⟩
          by_cases ej : j = i
          · rw [ej]; exact c
          · exact hx j (by omega)
        · refine Or.inr ⟨o, ev, by omega, hc, fun j hj hcj => ?_⟩
          by_cases ej : j = i
          · rw [ej] at hcj; exact absurd hcj c
          · exact hx j (by omega) hcj
  exact u_X11_theProof_0 f (main n 0 (-1) (by omega) (by omega) (Or.inl ⟨rfl, fun j hj => by omega⟩))
end RP
