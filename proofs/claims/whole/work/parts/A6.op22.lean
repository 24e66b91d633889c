/-! weigh -/
def p_told (c : Int → Int) (n r : Int) : Prop := r < n ∧ (1 ≤ c 0 ∧ c 0 ≤ 1000000) ∧ ∀ i, 1 ≤ i → i ≤ r → 0 ≤ c i ∧ c i ≤ 1000000000
def p_ws (c N : Int → Int) : Nat → Int
  | 0 => 0
  | i + 1 => x_W (p_ws c N i + x_W (c (i + 1) * N i))
def p_lit (F : xM) (c : Int → Int) (p q g : Int) : Prop := ¬ x_W (p_du F p q g * c 0) ≤ x_W (p_ws c (fun i => F 2 (3 * i + g)) (F 0 3).toNat * q)
noncomputable def p_f1 (P : Int → Prop) : Nat → Int → Int
  | 0, _ => -1
  | m + 1, g => p_if (P g) g (p_f1 P m (g + 1))
noncomputable def p_abv (F : xM) (c : Int → Int) (p q : Int) : Prop := ¬ p_ws c (F 3) (F 0 3).toNat * (p_TT F (p_ch F p q 0) 3 * q) ≤ p_net F (p_TT F (p_ch F p q 0)) p q * c 0
noncomputable def p_wv (F : xM) (c : Int → Int) (n p q : Int) : Int := p_if (p_told c n (F 0 3)) (p_if (p_f1 (p_lit F c p q) (F 0 2).toNat 0 < 0) (p_if (p_abv F c p q) 2 0) (10 + p_f1 (p_lit F c p q) (F 0 2).toNat 0)) 1
noncomputable def o_weigh (A : xM) (s f : Int) : Int × xM := p_if ((0 ≤ s ∧ s < 4) ∧ 0 ≤ f ∧ f < A 6 0) (p_if (A 544 s < 0) (p_err A 5) (p_wv (p_Fs A f.toNat) (A (547 + s)) (A 545 s) (A 7 0) (A 7 1), A)) (p_err A 0)
section P22
variable {l : Launch} {E : xE} {Q : Option xV → xM → Prop} {A M : xM}
theorem p_ws_bd {c N : Int → Int} {r : Nat} (hr : r ≤ 4) (hc : ∀ i : Int, 1 ≤ i → i ≤ r → 0 ≤ c i ∧ c i ≤ 1000000000) (hN : ∀ i : Int, 0 ≤ i → i < r → 0 ≤ N i ∧ N i ≤ 20) : ∀ i : Nat, i ≤ r → 0 ≤ p_ws c N i ∧ p_ws c N i ≤ 20000000000 * i := by
  intro i
  induction i with
  | zero => intro _; show (0 : Int) ≤ 0 ∧ (0 : Int) ≤ _; omega
  | succ i ih =>
    intro hi
    have h1 := ih (by omega)
    have h2 := hc (i + 1) (by omega) (by omega)
    have h3 := hN i (by omega) (by omega)
    have h4 : 0 ≤ c (i + 1) * N i := Int.mul_nonneg h2.1 h3.1
    have h5 : c (i + 1) * N i ≤ 1000000000 * 20 := Int.mul_le_mul h2.2 h3.2 h3.1 (by omega)
    show 0 ≤ x_W (p_ws c N i + x_W (c (i + 1) * N i)) ∧ x_W (p_ws c N i + x_W (c (i + 1) * N i)) ≤ _
    rw [x_W_id (x := c (i + 1) * N i) (by omega) (by omega), x_W_id (by omega) (by omega)]
    omega
theorem p_f1_bd (P : Int → Prop) : ∀ (m : Nat) (g : Int), 0 ≤ g → -1 ≤ p_f1 P m g ∧ p_f1 P m g < g + m := by
  intro m
  induction m with
  | zero => intro g hg; show -1 ≤ (-1 : Int) ∧ (-1 : Int) < _; omega
  | succ m ih =>
    intro g hg
    show -1 ≤ p_if (P g) g (p_f1 P m (g + 1)) ∧ p_if (P g) g (p_f1 P m (g + 1)) < _
    by_cases c : P g
    · rw [p_if_t c]; omega
    · rw [p_if_f c]
      have := ih (g + 1) (by omega)
      omega
theorem k_tells {R n r : Int} {c : Int → Int} (hR : 0 ≤ R) (e1 : M R 1 = n) (hn : 0 ≤ n ∧ n ≤ 40) (hr : 0 ≤ r ∧ r ≤ 4) (ec : ∀ i, 0 ≤ i → i < n → M (R + 1) i = c i) (h1 : p_told c n r → Q (some (0, 1)) M) (h0 : ¬ p_told c n r → Q (some (0, 0)) M) : x_Ev l E (1, 0, 0) m_X6_tellsPrices 0 [(9, R), (0, r), (5, 0)] [] M Q := by
  refine u_X6_tellsPrices_0 R r ?_
  rw [show R + 1 - 1 = R by omega, e1, x_w_id (by omega) (by omega)]
  refine ⟨hR, by omega, fun z => h0 (fun t => by have := t.1; omega), fun z => ⟨hR, by omega, ?_⟩⟩
  rw [ec 0 (by omega) (by omega)]
  refine ⟨fun z2 => h0 (fun t => by have := t.2.1; omega), fun z2 => ⟨hR, by omega, fun z3 => ?_, fun z3 => h0 (fun t => by have := t.2.1; omega)⟩⟩
  have main : ∀ (m : Nat) (i : Int), r + 1 - i ≤ m → 1 ≤ i → i ≤ r + 1 → (∀ j, 1 ≤ j → j < i → 0 ≤ c j ∧ c j ≤ 1000000000) → x_Ev l E (1, 0, 0) m_X6_tellsPrices 39 [(9, R), (0, r), (0, i)] [] M Q := by
    intro m
    induction m with
    | zero =>
      intro i hm i0 i1 T
      exact u_X6_tellsPrices_39 R r i ⟨fun _ => h1 ⟨by omega, by omega, fun j j1 j2 => T j j1 (by omega)⟩, fun z => by omega⟩
    | succ m ih =>
      intro i hm i0 i1 T
      by_cases ei : i = r + 1
      · exact ih i (by omega) i0 i1 T
      refine u_X6_tellsPrices_39 R r i ?_
      rw [show R + 1 - 1 = R by omega, e1, ec i (by omega) (by omega)]
      refine ⟨fun z => by omega, fun z => ⟨hR, by omega, fun z2 => h0 (fun t => by have := t.2.2 i i0 (by omega); omega), fun z2 => ⟨hR, by omega, fun z3 v hv => ?_, fun z3 => h0 (fun t => by have := t.2.2 i i0 (by omega); omega)⟩⟩⟩
      rw [x_w_id (by omega) (by omega)] at hv
      rw [hv]
      refine ih (i + 1) (by omega) (by omega) (by omega) (fun j j1 j2 => ?_)
      by_cases ej : j = i
      · rw [ej]; omega
      · exact T j j1 (by omega)
  exact main (r + 1).toNat 1 (by omega) (by omega) (by omega) (fun j j1 j2 => by omega)
theorem k_tool {R n f p q : Int} {c : Int → Int} {F : xM} (hR : 0 ≤ R) (e1 : M R 1 = n) (ec : ∀ i, 0 ≤ i → i < n → M (R + 1) i = c i) (xF : x_F M (9 + 4 * f) = F) (wf : p_wf F) (hn : F 0 3 < n) (e70 : M 7 0 = p) (e71 : M 7 1 = q) (hpq : p_tm p q) (h : Q (some (0, p_f1 (p_lit F c p q) (F 0 2).toNat 0)) M) : x_Ev l E (3, 0, 0) m_X10_tooLittleFor 0 [(20, 5), (9, R), (11, 9 + 4 * f), (5, 0), (5, 0), (5, 0), (5, 0), (5, 0), (5, 0)] [] M Q := by
  have f2 := wf.2.2.1
  have f3 := wf.2.2.2.1
  have m2 : M (9 + 4 * f) 2 = F 0 2 := by rw [← xF, x_F0]
  have m3 : M (9 + 4 * f) 3 = F 0 3 := by rw [← xF, x_F0]
  have mN : ∀ k, M (9 + 4 * f + 2) k = F 2 k := fun k => by rw [← xF, x_F2]
  have main : ∀ (m : Nat) (g : Int), (F 0 2 - g).toNat = m → 0 ≤ g → g ≤ F 0 2 → Q (some (0, p_f1 (p_lit F c p q) m g)) M → x_Ev l E (3, 0, 0) m_X10_tooLittleFor 28 [(20, 5), (9, R), (11, 9 + 4 * f), (1, p_fe (x_F M (9 + 4 * f)) p q), (5, 0), (0, g), (5, 0), (5, 0), (5, 0)] [] M Q := by
    intro m
    induction m with
    | zero =>
      intro g hm g0 g1 K
      refine u_X10_tooLittleFor_28 R (9 + 4 * f) _ g ?_
      rw [m2]
      exact ⟨fun _ => K, fun z => by omega⟩
    | succ m ih =>
      intro g hm g0 g1 K
      refine u_X10_tooLittleFor_28 R (9 + 4 * f) _ g ?_
      rw [m2]
      refine ⟨fun z => by omega, fun _ => ?_⟩
      have inner : ∀ (k i : Nat), (F 0 3).toNat - i ≤ k → i ≤ (F 0 3).toNat → x_Ev l E (3, 0, 0) m_X10_tooLittleFor 43 [(20, 5), (9, R), (11, 9 + 4 * f), (1, p_fe (x_F M (9 + 4 * f)) p q), (5, 0), (0, g), (1, p_ws c (fun i => F 2 (3 * i + g)) i), (5, 0), (0, (i : Int))] [] M Q := by
        intro k
        induction k with
        | zero =>
          intro i hk hi
          have ei : i = (F 0 3).toNat := by omega
          refine u_X10_tooLittleFor_43 R (9 + 4 * f) _ g _ i ?_
          rw [m3, e71]
          refine ⟨fun _ => c_leftAbove (9 + 4 * f) g p q (by rw [xF]; exact wf) hpq (by omega) ⟨_, rfl, hR, ?_⟩, fun z => by omega⟩
          rw [show R + 1 - 1 = R by omega, e1, ec 0 (by omega) (by omega), ei, xF]
          refine ⟨by omega, fun le v hv => ?_, fun gt => ?_⟩
          · rw [x_w_id (by omega) (by omega)] at hv
            rw [hv, ← xF]
            refine ih (g + 1) (by omega) (by omega) (by omega) ?_
            have K2 : Q (some (0, p_if (p_lit F c p q g) g (p_f1 (p_lit F c p q) m (g + 1)))) M := K
            rw [p_if_f (fun t => t le)] at K2
            exact K2
          · have K2 : Q (some (0, p_if (p_lit F c p q g) g (p_f1 (p_lit F c p q) m (g + 1)))) M := K
            rw [p_if_t (show p_lit F c p q g from gt)] at K2
            exact K2
        | succ k ihk =>
          intro i hk hi
          by_cases ei : i = (F 0 3).toNat
          · exact ihk i (by omega) hi
          refine u_X10_tooLittleFor_43 R (9 + 4 * f) _ g _ i ?_
          rw [m3, show R + 1 - 1 = R by omega, e1, x_w_id (x := (i : Int) + 1) (by omega) (by omega), x_w_id (x := (i : Int) * 3) (by omega) (by omega), x_w_id (x := (i : Int) * 3 + g) (by omega) (by omega), ec _ (by omega) (by omega), mN, show (i : Int) * 3 + g = 3 * (i : Int) + g by omega]
          refine ⟨fun z => by omega, fun _ => ⟨hR, by omega, by omega, fun v hv v2 hv2 => ?_⟩⟩
          rw [hv, hv2]
          exact ihk (i + 1) (by omega) (by omega)
      exact inner (F 0 3).toNat 0 (by omega) (by omega)
  refine u_X10_tooLittleFor_0 R (9 + 4 * f) ?_
  rw [e70, e71]
  exact c_feels (9 + 4 * f) p q (by rw [xF]; exact wf) hpq ⟨_, rfl, main (F 0 2).toNat 0 (by omega) (by omega) (by omega) h⟩
theorem p_cmp_le {x y : Int} : (p_cmp x y ≤ 0 ↔ x ≤ y) := by
  rcases p_cmp_cases x y with h | h | h
  · rw [h.2]; omega
  · rw [h.2]; omega
  · rw [h.2]; omega
theorem k_abn (hA : p_WF A) (hC : p_CI A M) {s f : Int} (hf : 0 ≤ f ∧ f < A 6 0) (hs : 0 ≤ s ∧ s < 4) (h5 : 0 ≤ A 544 s) (ht : p_told (A (547 + s)) (A 545 s) (p_Fs A f.toNat 0 3)) (h1 : p_abv (p_Fs A f.toNat) (A (547 + s)) (A 7 0) (A 7 1) → ∀ M1, p_CI A M1 → p_cfr M M1 → Q (some (0, 1)) M1) (h0 : ¬ p_abv (p_Fs A f.toNat) (A (547 + s)) (A 7 0) (A 7 1) → ∀ M1, p_CI A M1 → p_cfr M M1 → Q (some (0, 0)) M1) : x_Ev l E (5, 0, 0) m_X10_isAboveNet 0 [(20, 5), (9, M 88 s), (0, f), (5, 0), (5, 0), (5, 0), (5, 0), (5, 0), (5, 0), (5, 0)] [] M Q := by
  have w0 := hA.1.1
  have ws := hA.2.2.2.2.1 s hs.1 hs.2
  obtain ⟨wf, xF, -, -⟩ := p_CI_t hA hC hf
  have f3 := wf.2.2.2.1
  have hpq := (p_W_tm hA).1
  have m3 : M (9 + 4 * f) 3 = p_Fs A f.toNat 0 3 := by rw [← xF, x_F0]
  have mN : ∀ k, M (9 + 4 * f + 3) k = p_Fs A f.toNat 3 k := fun k => by rw [← xF, x_F3]
  rcases hC.2.2.2.2.2.2.1.1 s hs.1 hs.2 with g | ⟨g1, g2, g3⟩
  · omega
  obtain ⟨r1, r2, r3, r4, r5, r6⟩ := g2
  have tl := ht.1
  have t0 := ht.2.1
  have bd := p_ws_bd (c := A (547 + s)) (N := p_Fs A f.toNat 3) (r := (p_Fs A f.toNat 0 3).toNat) (by omega) (fun i i1 i2 => ht.2.2 i i1 (by omega)) (fun i i1 i2 => wf.2.2.2.2.2.2.2 i i1 (by omega))
  refine u_X10_isAboveNet_0 _ f ⟨by omega, ?_⟩
  rw [show 8 + 1 + 4 * f = 9 + 4 * f by omega]
  have inner : ∀ (k i : Nat), (p_Fs A f.toNat 0 3).toNat - i ≤ k → i ≤ (p_Fs A f.toNat 0 3).toNat → x_Ev l E (5, 0, 0) m_X10_isAboveNet 16 [(20, 5), (9, M 88 s), (0, f), (11, 9 + 4 * f), (1, p_ws (A (547 + s)) (p_Fs A f.toNat 3) i), (5, 0), (0, (i : Int)), (5, 0), (5, 0), (5, 0)] [] M Q := by
    intro k
    induction k with
    | zero =>
      intro i hk hi
      have ei : i = (p_Fs A f.toNat 0 3).toNat := by omega
      refine u_X10_isAboveNet_16 _ f _ _ i ?_
      rw [m3]
      refine ⟨fun _ => k_ans hA hC hf (fun M1 c1 c2 fr => ⟨_, rfl, fun _ => ⟨by omega, ?_⟩, fun z => by omega⟩), fun z => by omega⟩
      have hch := p_chb hA hf (p := A 7 0) (q := A 7 1) (how := 0) (Or.inl rfl)
      obtain ⟨t1, t2, t3, t4⟩ := p_CI_t hA c1 hf
      have h10 := p_n10 p_ten_ok t1
      obtain ⟨u1, u2, u3⟩ := t3.2 (p_ch (p_Fs A f.toNat) (A 7 0) (A 7 1) 0) (by omega) (by omega)
      have eb := p_T_eb t1 (p_ch (p_Fs A f.toNat) (A 7 0) (A 7 1) 0) (by omega) (by omega)
      have nb := p_net_bd t1 eb hpq
      obtain ⟨x1, x2, x3⟩ := x_162 (e := p_TT (p_Fs A f.toNat) (p_ch (p_Fs A f.toNat) (A 7 0) (A 7 1) 0) 3) (q := A 7 1) ⟨eb.2.1, eb.2.2⟩ ⟨hpq.2.2.1, hpq.2.2.2⟩
      have e88 : M1 88 s = M 88 s := fr 88 s (by unfold p_stc; omega)
      rcases c1.2.2.2.2.2.2.1.1 s hs.1 hs.2 with w | ⟨-, w2, w3⟩
      · omega
      rw [e88] at w2 w3
      have bi := bd i (by omega)
      rw [show 41 + 8 + 9 * f = 49 + 9 * f by omega, u2, c1.1 7 1 (by omega) (by omega), show M 88 s + 1 - 1 = M 88 s by omega, w2.2.2.2.2.2, w3 0 (by omega) (by omega), (c2.2.2 (p_ch (p_Fs A f.toNat) (A 7 0) (A 7 1) 0) (by omega) (by omega)).1, x1]
      refine ⟨by omega, fun v hv => ⟨by omega, by omega, by omega, ?_⟩⟩
      rw [hv]
      refine c_ord (by omega) (by omega) (by omega) (by omega) ⟨_, rfl, fun z => ?_, fun z => ?_⟩
      · rw [p_cmp_le, ei] at z
        exact h0 (fun t => t z) M1 c1 (p_cfr_sc (fun a j q => fr a j (p_cs_st q)))
      · rw [p_cmp_le, ei] at z
        exact h1 z M1 c1 (p_cfr_sc (fun a j q => fr a j (p_cs_st q)))
    | succ k ihk =>
      intro i hk hi
      by_cases ei : i = (p_Fs A f.toNat 0 3).toNat
      · exact ihk i (by omega) hi
      refine u_X10_isAboveNet_16 _ f _ _ i ?_
      rw [m3, show M 88 s + 1 - 1 = M 88 s by omega, r6, x_w_id (x := (i : Int) + 1) (by omega) (by omega), g3 _ (by omega) (by omega), mN]
      refine ⟨fun z => by omega, fun _ => ⟨by omega, by omega, by omega, fun v hv v2 hv2 => ?_⟩⟩
      rw [hv, hv2]
      exact ihk (i + 1) (by omega) (by omega)
  exact inner (p_Fs A f.toNat 0 3).toNat 0 (by omega) (by omega)
theorem k_weigh (hA : p_WF A) (hC : p_CI A M) {s f : Int} (h : ∀ M1, p_CI (o_weigh A s f).2 M1 → p_cfr M M1 → Q (some (0, (o_weigh A s f).1)) M1) : x_Ev l E (6, 0, 0) m_X10_weigh 0 [(20, 5), (0, s), (0, f), (5, 0), (5, 0), (5, 0)] [] M Q := by
  unfold o_weigh at h
  have w0 := hA.1.1
  have bad : ¬ ((0 ≤ s ∧ s < 4) ∧ 0 ≤ f ∧ f < A 6 0) → x_Ev l E (1, 0, 0) m_X10_tell 0 [(20, 5), (0, 0)] [] M (fun r M3 => ∃ z, r = some (0, z) ∧ Q (some (0, z)) M3) := fun c => by
    rw [p_if_f c] at h
    exact k_tl hA hC (by omega) (fun M1 a b => ⟨_, rfl, h M1 a b⟩)
  refine u_X10_weigh_0 s f (k_NS (fun c => x_y1 (by omega) (bad (fun q => c q.1))) (fun c => x_y0 (k_NF hC (fun d => x_n1 (by omega) (bad (fun q => d q.2))) (fun d => x_n0 ⟨by omega, ?_⟩))))
  rw [p_if_t ⟨c, d⟩] at h
  have ws := hA.2.2.2.2.1 s c.1 c.2
  rcases hC.2.2.2.2.2.2.1.1 s c.1 c.2 with g | ⟨g1, g2, g3⟩
  · refine ⟨fun z => by omega, fun z => ?_⟩
    rw [p_if_t g.1] at h
    exact k_tl hA hC (by omega) (fun M1 a b => ⟨_, rfl, h M1 a b⟩)
  obtain ⟨r1, r2, r3, r4, r5, r6⟩ := g2
  refine ⟨fun z => ⟨by omega, by omega, ?_⟩, fun z => by omega⟩
  rw [p_if_f (by omega)] at h
  obtain ⟨wf, xF, -, -⟩ := p_CI_t hA hC d
  have f3 := wf.2.2.2.1
  have f2 := wf.2.2.1
  have hpq := (p_W_tm hA).1
  have m3 : M (9 + 4 * f) 3 = p_Fs A f.toNat 0 3 := by rw [← xF, x_F0]
  rw [show 8 + 1 + 4 * f = 9 + 4 * f by omega, m3]
  refine k_tells (by omega) r6 (by omega) (by omega) g3 (fun t => x_y1 (by omega) ?_) (fun t => x_y0 ?_)
  · have e70 := hC.1 7 0 (by omega) (by omega)
    have e71 := hC.1 7 1 (by omega) (by omega)
    refine k_tool (c := A (547 + s)) (by omega) r6 g3 xF wf t.1 e70 e71 hpq ⟨_, rfl, fun z => ?_, fun z => ?_⟩
    · refine k_abn hA hC d c g1 t (fun v M1 c1 fr => x_n1 (by omega) ?_) (fun v M1 c1 fr => x_n0 ?_)
      · have := h M1 c1 fr
        unfold p_wv at this
        rw [p_if_t t, p_if_t z, p_if_t v] at this
        exact this
      · have := h M1 c1 fr
        unfold p_wv at this
        rw [p_if_t t, p_if_t z, p_if_f v] at this
        exact this
    · have := h M hC (p_cfr_rf M)
      unfold p_wv at this
      rw [p_if_t t, p_if_f z] at this
      have b := p_f1_bd (p_lit (p_Fs A f.toNat) (A (547 + s)) (A 7 0) (A 7 1)) (p_Fs A f.toNat 0 2).toNat 0 (by omega)
      rw [x_w_id (by omega) (by omega)]
      exact this
  · have := h M hC (p_cfr_rf M)
    unfold p_wv at this
    rw [p_if_f t] at this
    exact this
theorem r_atd (hA : p_WF A) (hR : p_RI A M) {s f : Int} (hf : 0 ≤ f ∧ f < A 6 0) (hs : 0 ≤ s ∧ s < 4) (h1 : p_told (A (547 + s)) (A 545 s) (p_Fs A f.toNat 0 3) → Q (some (0, 1)) M) (h0 : ¬ p_told (A (547 + s)) (A 545 s) (p_Fs A f.toNat 0 3) → Q (some (0, 0)) M) : x_Ev l E (2, 0, 0) m_X11_areTold 0 [(21, 103), (0, s), (0, f), (5, 0)] [] M Q := by
  have w0 := hA.1.1
  have ws := hA.2.2.2.2.1 s hs.1 hs.2
  obtain ⟨rF, wf⟩ := p_RI_f hA hR hf
  have f3 := wf.2.2.2.1
  have e107 := rF.2.2.2.1
  refine u_X11_areTold_0 s f ?_
  rw [e107, (hR.2.2.2.2.1 s hs.1 hs.2).2.1]
  refine ⟨by omega, by omega, fun z => h0 (fun t => by have := t.1; omega), fun z => r_told hR hs (by omega) (by omega) ⟨_, rfl, r_in (fun c => x_y1 (by omega) ?_) (fun c => x_y0 (h0 (fun t => c t.2.1)))⟩⟩
  have main : ∀ (m : Nat) (i : Int), p_Fs A f.toNat 0 3 - i ≤ m → 0 ≤ i → i ≤ p_Fs A f.toNat 0 3 → (∀ j, 1 ≤ j → j ≤ i → 0 ≤ A (547 + s) j ∧ A (547 + s) j ≤ 1000000000) → x_Ev l E (2, 0, 0) m_X11_areTold 35 [(21, 103), (0, s), (0, f), (0, i)] [] M Q := by
    intro m
    induction m with
    | zero =>
      intro i hm i0 i1 T
      refine u_X11_areTold_35 s f i ?_
      rw [e107]
      exact ⟨by omega, fun _ => h1 ⟨by omega, c, fun j j1 j2 => T j j1 (by omega)⟩, fun z => by omega⟩
    | succ m ih =>
      intro i hm i0 i1 T
      by_cases ei : i = p_Fs A f.toNat 0 3
      · exact ih i (by omega) i0 i1 T
      refine u_X11_areTold_35 s f i ?_
      rw [e107, x_w_id (x := 1 + i) (by omega) (by omega)]
      refine ⟨by omega, fun z => by omega, fun z => r_told hR hs (by omega) (by omega) ⟨_, rfl, r_in (fun c2 => x_y1 (by omega) ?_) (fun c2 => x_y0 (h0 (fun t => c2 (t.2.2 (1 + i) (by omega) (by omega)))))⟩⟩
      intro v hv
      rw [x_w_id (by omega) (by omega)] at hv
      rw [hv]
      refine ih (i + 1) (by omega) (by omega) (by omega) (fun j j1 j2 => ?_)
      by_cases ej : j = 1 + i
      · rw [ej]; exact c2
      · exact T j j1 (by omega)
  exact main (p_Fs A f.toNat 0 3).toNat 0 (by omega) (by omega) (by omega) (fun j j1 j2 => by omega)
/-- any best plan does -/
theorem p_abv_eq {F : xM} (wf : p_wf F) {c : Int → Int} {p q : Int} (hpq : p_tm p q) (hc : 1 ≤ c 0) {k : Nat} (hk : k < p_n F) (hb : p_bst F (p_TT F) (p_n F) p q k = true) : (p_ws c (F 3) (F 0 3).toNat * (p_TT F k 3 * q) ≤ p_net F (p_TT F k) p q * c 0) ↔ ¬ p_abv F c p q := by
  have hi := p_ch_is p_ten_ok p_one_ok wf (p := p) (q := q) (how := 0) (Or.inl rfl)
  have hb1 := hi.2.1.1
  have hk1 := hi.1
  unfold p_abv
  rw [Classical.not_not]
  have l1 := (of_decide_eq_true hb) _ hk1
  have l2 := (of_decide_eq_true hb1) _ hk
  have e1 := (p_T_eb wf k (by omega) (by omega)).2.1
  have e2 := (p_T_eb wf (p_ch F p q 0) (by omega) (by omega)).2.1
  have hq := hpq.2.2.1
  revert l1 l2 e1 e2
  generalize p_TT F k 3 = a
  generalize p_TT F (p_ch F p q 0) 3 = b
  generalize p_net F (p_TT F k) p q = x
  generalize p_net F (p_TT F (p_ch F p q 0)) p q = y
  generalize p_ws c (F 3) (F 0 3).toNat = w
  generalize c 0 = d at *
  intro l1 l2 e1 e2
  have e : y * a = x * b := by omega
  have aux : ∀ a b x y : Int, 0 < a → 0 < b → y * a = x * b → w * (a * q) ≤ x * d → w * (b * q) ≤ y * d := by
    intro a b x y ha hb e h
    have h2 : w * (a * q) * b ≤ x * d * b := Int.mul_le_mul_of_nonneg_right h (by omega)
    have h3 : w * (a * q) * b = w * (b * q) * a := by grind
    have h4 : x * d * b = y * d * a := by grind
    rw [h3, h4] at h2
    exact Int.le_of_mul_le_mul_right h2 ha
  exact ⟨aux a b x y e1 e2 e, aux b a y x e2 e1 e.symm⟩
theorem r_weigh (hA : p_WF A) (hR : p_RI A M) {s f : Int} (h : ∀ M1, p_RI (o_weigh A s f).2 M1 → p_rfr M M1 → Q (some (0, (o_weigh A s f).1)) M1) : x_Ev l E (11, 0, 0) m_X11_weigh 0 [(21, 103), (0, s), (0, f)] [] M Q := by
  unfold o_weigh at h
  have w0 := hA.1.1
  have bad : ¬ ((0 ≤ s ∧ s < 4) ∧ 0 ≤ f ∧ f < A 6 0) → x_Ev l E (1, 0, 0) m_X11_finds 0 [(21, 103), (0, 0)] [] M (fun r M3 => ∃ z, r = some (0, z) ∧ Q (some (0, z)) M3) := fun c => by
    rw [p_if_f c] at h
    exact r_tl hA hR (by omega) (fun M1 a b => ⟨_, rfl, h M1 a b⟩)
  refine u_X11_weigh_0 s f (r_Sh (fun c => x_n1 (by omega) (r_F hA hR (fun d => x_y1 (by omega) ⟨by omega, ?_⟩) (fun d => x_y0 (bad (fun q => d q.2))))) (fun c => x_n0 (bad (fun q => c q.1))))
  rw [p_if_t ⟨c, d⟩] at h
  have ws := hA.2.2.2.2.1 s c.1 c.2
  rw [(hR.2.2.2.2.1 s c.1 c.2).1]
  refine ⟨fun g1 => ?_, fun g1 => ?_⟩
  · rw [p_if_f (by omega)] at h
    obtain ⟨rF, wf⟩ := p_RI_f hA hR d
    have f3 := wf.2.2.2.1
    have f2 := wf.2.2.1
    have hpq := (p_W_tm hA).1
    have hT : p_RT M (A 7 0) (A 7 1) := ⟨hR.1.2.2.1, hR.1.2.2.2.1⟩
    obtain ⟨z0, z1, z2, z3, z4, z5, z6⟩ := rF
    have rF' : p_RF M f (p_Fs A f.toNat) := ⟨z0, z1, z2, z3, z4, z5, z6⟩
    refine u_X11_weighed_0 s f (r_atd hA hR d c (fun t => x_y1 (by omega) (r_told hR c (by omega) (by have := t.1; omega) ⟨_, rfl, ?_⟩)) (fun t => x_y0 ⟨_, rfl, ?_⟩))
    · unfold p_wv at h
      rw [p_if_t t] at h
      have tl := t.1
      have t0 := t.2.1
      have main : ∀ (m : Nat) (g : Int), (p_Fs A f.toNat 0 2 - g).toNat = m → 0 ≤ g → g ≤ p_Fs A f.toNat 0 2 → p_f1 (p_lit (p_Fs A f.toNat) (A (547 + s)) (A 7 0) (A 7 1)) (p_Fs A f.toNat 0 2).toNat 0 = p_f1 (p_lit (p_Fs A f.toNat) (A (547 + s)) (A 7 0) (A 7 1)) m g → x_Ev l E (10, 0, 0) m_X11_weighed 21 [(21, 103), (0, s), (0, f), (1, A (547 + s) 0), (5, 0), (0, g), (5, 0), (5, 0), (5, 0)] [] M (fun r zM7 => ∃ zr8, r = some (0, zr8) ∧ Q (some (0, zr8)) zM7) := by
        intro m
        induction m with
        | zero =>
          intro g hm g0 g1 K
          have K2 : p_f1 (p_lit (p_Fs A f.toNat) (A (547 + s)) (A 7 0) (A 7 1)) (p_Fs A f.toNat 0 2).toNat 0 = -1 := K
          rw [K2, p_if_t (by omega)] at h
          refine u_X11_weighed_21 s f _ g ?_
          rw [z2]
          refine ⟨by omega, fun _ => ?_, fun z => by omega⟩
          have bd := p_ws_bd (c := A (547 + s)) (N := p_Fs A f.toNat 3) (r := (p_Fs A f.toNat 0 3).toNat) (by omega) (fun i i1 i2 => t.2.2 i i1 (by omega)) (fun i i1 i2 => wf.2.2.2.2.2.2.2 i i1 (by omega))
          have inner : ∀ (k i : Nat), (p_Fs A f.toNat 0 3).toNat - i ≤ k → i ≤ (p_Fs A f.toNat 0 3).toNat → x_Ev l E (10, 0, 0) m_X11_weighed 121 [(21, 103), (0, s), (0, f), (1, A (547 + s) 0), (5, 0), (1, p_ws (A (547 + s)) (p_Fs A f.toNat 3) i), (5, 0), (0, (i : Int)), (5, 0)] [] M (fun r zM7 => ∃ zr8, r = some (0, zr8) ∧ Q (some (0, zr8)) zM7) := by
            intro k
            induction k with
            | zero =>
              intro i hk hi
              have ei : i = (p_Fs A f.toNat 0 3).toNat := by omega
              refine u_X11_weighed_121 s f _ _ i ?_
              rw [z3]
              refine ⟨by omega, fun _ => r_pl hA hR d (fun M1 hR1 hS fr => ⟨rfl, ?_⟩), fun z => by omega⟩
              have hS' := hS
              obtain ⟨s1, s2, s3, s4, s5⟩ := hS'
              rw [hR1.1.2.2.1, hR1.1.2.2.2.1]
              refine c_bestPlans (by omega) wf hS hpq ⟨_, rfl, ?_⟩
              obtain ⟨b, b1, b2⟩ := p_best_ex (F := p_Fs A f.toNat) (T := p_TT (p_Fs A f.toNat)) (n := p_n (p_Fs A f.toNat)) (p := A 7 0) (q := A 7 1) s3 (fun k k1 k2 => (s5 k k1 k2).2.1)
              have sp := x_set_pos b1 b2
              have sl := x_set_lt (p_bst (p_Fs A f.toNat) (p_TT (p_Fs A f.toNat)) (p_n (p_Fs A f.toNat)) (A 7 0) (A 7 1)) (p_n (p_Fs A f.toNat))
              have l10 : 2 ^ p_n (p_Fs A f.toNat) ≤ 2 ^ 10 := Nat.pow_le_pow_right (by omega) s4
              have sl2 : x_set (p_bst (p_Fs A f.toNat) (p_TT (p_Fs A f.toNat)) (p_n (p_Fs A f.toNat)) (A 7 0) (A 7 1)) (p_n (p_Fs A f.toNat)) < 1024 := by omega
              refine c_ntz _ sp sl2 ⟨_, rfl, ?_⟩
              obtain ⟨-, y2, y3⟩ := x_tz_p sp sl2
              have y4 := x_tz_l sp sl2 (i := b) (by omega) (by rw [x_set_bit _ _ _ b1, b2]; rfl)
              revert y2 y3 y4
              generalize x_tz (x_set (p_bst (p_Fs A f.toNat) (p_TT (p_Fs A f.toNat)) (p_n (p_Fs A f.toNat)) (A 7 0) (A 7 1)) (p_n (p_Fs A f.toNat))) = k at *
              intro y2 y3 y4
              have hb : p_bst (p_Fs A f.toNat) (p_TT (p_Fs A f.toNat)) (p_n (p_Fs A f.toNat)) (A 7 0) (A 7 1) k = true := by
                rw [x_set_bit _ _ _ (by omega)] at y3
                cases e : p_bst (p_Fs A f.toNat) (p_TT (p_Fs A f.toNat)) (p_n (p_Fs A f.toNat)) (A 7 0) (A 7 1) k with
                | true => rfl
                | false => rw [e] at y3; exact absurd y3 (by decide)
              have eb := s5 k (by omega) (by omega)
              have nb := p_net_bd wf eb hpq
              obtain ⟨u1, u2, u3⟩ := s2.2 k (by omega) (by omega)
              obtain ⟨x1, x2, x3⟩ := x_162 (e := p_TT (p_Fs A f.toNat) k 3) (q := A 7 1) ⟨eb.2.1, eb.2.2⟩ ⟨hpq.2.2.1, hpq.2.2.2⟩
              have bi := bd i (by omega)
              rw [hR1.1.2.2.1, hR1.1.2.2.2.1]
              refine c_Rnet (by omega) wf s1 (by omega) eb (s2.2 k (by omega) (by omega)) hpq ⟨_, rfl, by omega, by omega, ?_⟩
              rw [show 274 + 1 + 1 * f = 275 + f by omega, u2, hR1.1.2.2.2.1, x1]
              have q := p_abv_eq wf (c := A (547 + s)) hpq t0.1 (by omega) hb
              have hh := h M1 hR1 (p_rfr_sc fr)
              refine c_compare (by omega) (by omega) (by omega) (by omega) ⟨_, rfl, fun z => ⟨_, rfl, ?_⟩, fun z => ⟨_, rfl, ?_⟩⟩
              · rw [p_cmp_le, ei] at z
                rw [p_if_f (q.mp z)] at hh
                exact hh
              · rw [p_cmp_le, ei, q, Classical.not_not] at z
                rw [p_if_t z] at hh
                exact hh
            | succ k ihk =>
              intro i hk hi
              by_cases ei : i = (p_Fs A f.toNat 0 3).toNat
              · exact ihk i (by omega) hi
              refine u_X11_weighed_121 s f _ _ i ?_
              rw [z3, x_w_id (x := 1 + (i : Int)) (by omega) (by omega)]
              refine ⟨by omega, fun z => by omega, fun _ => r_told hR c (by omega) (by omega) ⟨_, rfl, by omega, by omega, fun v hv v2 hv2 => ?_⟩⟩
              rw [show 137 + 1 + 1 * f = 138 + f by omega, z6 i (by omega) (by omega), show 1 + (i : Int) = (i : Int) + 1 by omega] at hv
              rw [x_w_id (by omega) (by omega)] at hv2
              rw [hv, hv2]
              exact ihk (i + 1) (by omega) (by omega)
          exact inner (p_Fs A f.toNat 0 3).toNat 0 (by omega) (by omega)
        | succ m ih =>
          intro g hm g0 g1 K
          have K2 : p_f1 (p_lit (p_Fs A f.toNat) (A (547 + s)) (A 7 0) (A 7 1)) (p_Fs A f.toNat 0 2).toNat 0 = p_if (p_lit (p_Fs A f.toNat) (A (547 + s)) (A 7 0) (A 7 1) g) g (p_f1 (p_lit (p_Fs A f.toNat) (A (547 + s)) (A 7 0) (A 7 1)) m (g + 1)) := K
          refine u_X11_weighed_21 s f _ g ?_
          rw [z2]
          refine ⟨by omega, fun z => by omega, fun _ => ?_⟩
          have inner : ∀ (k i : Nat), (p_Fs A f.toNat 0 3).toNat - i ≤ k → i ≤ (p_Fs A f.toNat 0 3).toNat → x_Ev l E (10, 0, 0) m_X11_weighed 38 [(21, 103), (0, s), (0, f), (1, A (547 + s) 0), (5, 0), (0, g), (1, p_ws (A (547 + s)) (fun i => p_Fs A f.toNat 2 (3 * i + g)) i), (5, 0), (0, (i : Int))] [] M (fun r zM7 => ∃ zr8, r = some (0, zr8) ∧ Q (some (0, zr8)) zM7) := by
            intro k
            induction k with
            | zero =>
              intro i hk hi
              have ei : i = (p_Fs A f.toNat 0 3).toNat := by omega
              refine u_X11_weighed_38 s f _ g _ i ?_
              rw [z3, hR.1.2.2.2.1]
              refine ⟨by omega, fun _ => c_due (by omega) wf rF' hpq hT (by omega) ⟨_, rfl, fun le v hv => ?_, fun gt => ⟨_, rfl, ?_⟩⟩, fun z => by omega⟩
              · rw [ei] at le
                rw [x_w_id (by omega) (by omega)] at hv
                rw [hv]
                refine ih (g + 1) (by omega) (by omega) (by omega) ?_
                rw [p_if_f (fun t => t le)] at K2
                exact K2
              · rw [ei] at gt
                rw [p_if_t (show p_lit (p_Fs A f.toNat) (A (547 + s)) (A 7 0) (A 7 1) g from gt)] at K2
                have hh := h M hR (p_rfr_rf M)
                rw [K2, p_if_f (by omega)] at hh
                rw [x_w_id (by omega) (by omega)]
                exact hh
            | succ k ihk =>
              intro i hk hi
              by_cases ei : i = (p_Fs A f.toNat 0 3).toNat
              · exact ihk i (by omega) hi
              refine u_X11_weighed_38 s f _ g _ i ?_
              rw [z3, x_w_id (x := 1 + (i : Int)) (by omega) (by omega)]
              refine ⟨by omega, fun z => by omega, fun _ => r_told hR c (by omega) (by omega) ⟨_, rfl, by omega, by omega, by omega, fun v hv v2 hv2 => ?_⟩⟩
              rw [show 121 + 1 + 5 * f + 1 + 1 * (i : Int) = 123 + 5 * f + i by omega, z5 i g (by omega) (by omega) (by omega) (by omega), show 1 + (i : Int) = (i : Int) + 1 by omega] at hv
              rw [x_w_id (by omega) (by omega)] at hv2
              rw [hv, hv2]
              exact ihk (i + 1) (by omega) (by omega)
          exact inner (p_Fs A f.toNat 0 3).toNat 0 (by omega) (by omega)
      exact main (p_Fs A f.toNat 0 2).toNat 0 (by omega) (by omega) (by omega) rfl
    · have := h M hR (p_rfr_rf M)
      unfold p_wv at this
      rw [p_if_f t] at this
      exact this
  · rw [p_if_t (by omega)] at h
    exact r_tl hA hR (by omega) (fun M1 a b => ⟨_, rfl, h M1 a b⟩)
theorem wf_weigh (hA : p_WF A) (s f : Int) : p_WF (o_weigh A s f).2 := by
  unfold o_weigh
  by_cases c : (0 ≤ s ∧ s < 4) ∧ 0 ≤ f ∧ f < A 6 0
  · rw [p_if_t c]
    by_cases d : A 544 s < 0
    · rw [p_if_t d]; exact wf_tl hA 5
    · rw [p_if_f d]; exact hA
  · rw [p_if_f c]; exact wf_tl hA 0
end P22
