/-! prove, judge -/
noncomputable def p_nbr (A : xM) : Nat := (p_BT A (-1) (A 6 1)).1
/-- rows of pieces as they are -/
noncomputable def p_prv0 (A : xM) (n : Int) : xM := fun a k => if a = 100 ∧ 0 ≤ k ∧ k < 6 * n then p_pcA A (k / 6) (k % 6) else A a k
noncomputable def p_prA2 (A : xM) : xM := x_wr (p_prv0 A ((p_nbr A : Int) + 1)) 5 12 ((p_nbr A : Int) + 1)
noncomputable def o_prove (A : xM) : Int × xM := ((p_nbr A : Int) + 1, p_prA2 A)
theorem p_pcA_cg {A A' : xM} (h0 : 0 ≤ A 6 0 ∧ A 6 0 ≤ 3) (e6 : ∀ k, A' 6 k = A 6 k) (e : ∀ a k, 9 ≤ a → a ≤ 20 → A' a k = A a k) (f : Nat) (hf : f < (A 6 0).toNat) : p_Fs A' f = p_Fs A f := p_Fs_cg (fun a a1 a2 => by funext k; exact e a k a1 a2) (by omega)
section P16
variable {l : Launch} {E : xE} {Q : Option xV → xM → Prop} {A M : xM}
theorem p_CI_100 {A' M1 : xM} (hA : p_WF A) (hC : p_CI A M) (hA' : ∀ a k, a ≠ 100 → ¬ (a = 5 ∧ k = 12) → A' a k = A a k) (hM : ∀ a k, a ≠ 100 → ¬ (a = 5 ∧ k = 12) → ¬ p_cs a k → M1 a k = M a k) (e42 : M1 5 12 = A' 5 12) (e : ∀ k, M1 100 k = A' 100 k) : p_CI A' M1 := by
  have w0 := hA.1.1
  obtain ⟨M2, hm, q1, q2, q3, q4, q5, q6, q7, q8⟩ : ∃ M2 : xM, (∀ a k, ¬ ((a = 5 ∧ k = 12) ∨ a = 100) → M2 a k = M1 a k) ∧ p_CI A M2 := ⟨fun a k => if (a = 5 ∧ k = 12) ∨ a = 100 then M a k else M1 a k, fun a k q => if_neg q, p_CI_sc hC (fun a k q => by
    by_cases c : (a = 5 ∧ k = 12) ∨ a = 100
    · rw [if_pos c]
    · rw [if_neg c]; exact hM a k (by omega) (by omega) q)⟩
  have em : ∀ b j, b ≠ 100 → ¬ (b = 5 ∧ j = 12) → M1 b j = M2 b j := fun b j w w2 => (hm b j (by omega)).symm
  have tp : x_tp M1 = x_tp M2 := x_tp_eq (em _ _ (by omega) (by omega))
  have tg : ∀ b, x_tag M1 b = x_tag M2 b := fun b => x_tag_eq (fun k => em _ _ (by omega) (by omega)) b
  refine ⟨fun b j c1 c2 => ?_, ?_, e42, e, fun j => ?_, ?_, ⟨fun s s1 s2 => ?_, fun s t s1 s2 t1 t2 => ?_⟩, fun i i1 i2 => ?_⟩
  · rw [em b j (by omega) (by omega), hA' b j (by omega) (by omega)]; exact q1 b j c1 c2
  · rw [hA' _ _ (by omega) (by omega), em _ _ (by omega) (by omega)]; exact q2
  · rw [hA' _ _ (by omega) (by omega), em _ _ (by omega) (by omega)]; exact q5 j
  · rw [hA' 6 0 (by omega) (by omega)]
    exact p_CW_fr2 q6 (fun f hf => p_Fs_cg (fun b b1 b2 => by funext j; exact hA' b j (by omega) (by omega)) (by omega)) (em 6 0 (by omega) (by omega)) (fun b j w _ => em b j (by omega) (by omega))
  · rw [hA' _ _ (by omega) (by omega), hA' _ _ (by omega) (by omega), em _ _ (by omega) (by omega)]
    rcases q7.1 s s1 s2 with w | ⟨w1, w2, w3⟩
    · exact Or.inl w
    · have hr := w2
      obtain ⟨r1, r2, -⟩ := w2
      refine Or.inr ⟨w1, p_r16_fr hr (by rw [tp]; exact Nat.le_refl _) (fun b _ => tg b) (em _ _ (by omega) (by omega)) (em _ _ (by omega) (by omega)), fun i i1 i2 => ?_⟩
      rw [em _ _ (by omega) (by omega), hA' _ _ (by omega) (by omega)]; exact w3 i i1 i2
  · rw [em _ _ (by omega) (by omega), em _ _ (by omega) (by omega), hA' _ _ (by omega) (by omega), hA' _ _ (by omega) (by omega)]; exact q7.2 s t s1 s2 t1 t2
  · obtain ⟨w1, w2, w3, w4⟩ := q8 i i1 i2
    rw [em _ 0 (by omega) (by omega), em _ 1 (by omega) (by omega), em _ 2 (by omega) (by omega), hA' _ _ (by omega) (by omega), hA' _ _ (by omega) (by omega), hA' _ _ (by omega) (by omega)]
    refine ⟨w1, w2, w3, fun w => ?_⟩
    have hr := w4 w
    have hr' := hr
    obtain ⟨r1, r2, -⟩ := hr'
    exact p_r16_fr hr (by rw [tp]; exact Nat.le_refl _) (fun b _ => tg b) (em _ _ (by omega) (by omega)) (em _ _ (by omega) (by omega))
theorem p_prA_ne {a k : Int} (h : a ≠ 100) (h' : ¬ (a = 5 ∧ k = 12)) : p_prA2 A a k = A a k := by
  unfold p_prA2
  rw [x_wr_ne _ _ h']
  unfold p_prv0
  rw [if_neg (by omega)]
theorem p_prA_12 : p_prA2 A 5 12 = (p_nbr A : Int) + 1 := x_wr_eq ..
theorem p_prA_100 {k i : Int} (hk : 0 ≤ k ∧ k ≤ p_nbr A) (hi : 0 ≤ i ∧ i < 6) : p_prA2 A 100 (6 * k + i) = p_pcA A k i := by
  unfold p_prA2
  rw [x_wr_ne _ _ (by omega)]
  unfold p_prv0
  rw [if_pos (by omega), show (6 * k + i) / 6 = k by omega, show (6 * k + i) % 6 = i by omega]
theorem p_prA_o {j : Int} (h : ¬ (0 ≤ j ∧ j < 6 * ((p_nbr A : Int) + 1))) : p_prA2 A 100 j = A 100 j := by
  unfold p_prA2
  rw [x_wr_ne _ _ (by omega)]
  unfold p_prv0
  rw [if_neg (by omega)]
theorem wf_prA (hA : p_WF A) (hn : p_nbr A ≤ 27) : p_WF (p_prA2 A) := by
  have w : p_WF (p_prv0 A ((p_nbr A : Int) + 1)) := p_WF_fr hA (fun a k h1 h2 => by unfold p_prv0; rw [if_neg (by omega)])
  obtain ⟨w1, w2, w3, w4, w5, w6, w7⟩ := w
  have e : ∀ a, a ≠ 5 → x_wr (p_prv0 A ((p_nbr A : Int) + 1)) 5 12 ((p_nbr A : Int) + 1) a = p_prv0 A ((p_nbr A : Int) + 1) a := fun a h => x_wr_fr _ _ _ h
  have ww : ∀ o, o = 6 ∨ o = 21 → p_wfW (p_prv0 A ((p_nbr A : Int) + 1)) o → p_wfW (x_wr (p_prv0 A ((p_nbr A : Int) + 1)) 5 12 ((p_nbr A : Int) + 1)) o := by
    intro o ho hw
    unfold p_wfW at *
    rw [e o (by omega), e (o + 1) (by omega)]
    refine ⟨hw.1, hw.2.1, hw.2.2.1, hw.2.2.2.1, hw.2.2.2.2.1, hw.2.2.2.2.2.1, hw.2.2.2.2.2.2.1, fun f hf => ?_⟩
    have hn := hw.1
    rw [show x_F (x_wr (p_prv0 A ((p_nbr A : Int) + 1)) 5 12 ((p_nbr A : Int) + 1)) (o + 3 + 4 * (f : Int)) = x_F (p_prv0 A ((p_nbr A : Int) + 1)) (o + 3 + 4 * (f : Int)) from x_F_eq (fun a a1 a2 => e a (by omega))]
    exact hw.2.2.2.2.2.2.2 f hf
  refine ⟨ww 6 (by omega) w1, ww 21 (by omega) w2, ?_, ?_, fun s s1 s2 => ?_, fun i i1 i2 => ?_, fun f f1 f2 => ?_⟩
  · show p_prA2 A 5 2 = 0 ∨ p_prA2 A 5 2 = 1
    rw [p_prA_ne (by omega) (by omega)]; exact hA.2.2.1
  · show 0 ≤ p_prA2 A 5 12 ∧ p_prA2 A 5 12 ≤ 28
    rw [p_prA_12]; omega
  · unfold p_prA2
    rw [e 544 (by omega), e 545 (by omega), e (547 + s) (by omega)]; exact w5 s s1 s2
  · unfold p_prA2
    rw [e 552 (by omega), e 553 (by omega), e 554 (by omega)]; exact w6 i i1 i2
  · unfold p_prA2
    rw [e (9 + 4 * f + 2) (by omega), e (9 + 4 * f + 3) (by omega)]; exact w7 f f1 f2
theorem k_prove (hA : p_WF A) (hC : p_CI A M) (h : ∀ M1, p_WF (o_prove A).2 → p_CI (o_prove A).2 M1 → p_cfr M M1 → Q (some (0, (o_prove A).1)) M1) : x_Ev l E (6, 0, 0) m_X10_prove 0 [(20, 5), (5, 0)] [] M Q := by
  have w1 := (p_W_tm hA).2.1
  refine u_X10_prove_0 ?_
  rw [hC.1 6 1 (by omega) (by omega)]
  refine k_gb hA hC w1 (fun M1 c1 c2 _ c3 c5 c4 => ⟨rfl, ?_⟩)
  have c3' : M1 42 0 = (p_nbr A : Int) := c3.1
  have c4' : p_nbr A ≤ 27 := c4
  rw [c3', x_w_id (by omega) (by omega)]
  intro M2 hM2
  have main : ∀ (m k : Nat) (M' : xM), p_nbr A + 1 - k ≤ m → k ≤ p_nbr A + 1 → p_CW M' (p_Fs A) (A 6 0).toNat → p_bmem M' (p_BT A (-1) (A 6 1)).1 (p_BT A (-1) (A 6 1)).2.1 (p_BT A (-1) (A 6 1)).2.2 → (∀ a j, a ≠ 100 → ¬ (a = 40 ∧ j = 7) → a ≠ 48 → ¬ p_stc a j → M' a j = M2 a j) → (∀ j, ¬ (0 ≤ j ∧ j < 6 * (k : Int)) → M' 100 j = M2 100 j) → (∀ x i, 0 ≤ x → x < (k : Int) → 0 ≤ i → i < 6 → M' 100 (6 * x + i) = p_pcA A x i) → x_Ev l E (6, 0, 0) m_X10_prove 33 [(20, 5), (0, (k : Int))] [] M' Q := by
    intro m
    induction m with
    | zero =>
      intro k M' hm hk hW hb f1 f2 f3
      have e512 : M' 5 12 = (p_nbr A : Int) + 1 := by rw [f1 _ _ (by omega) (by omega) (by omega) (by unfold p_stc; omega), hM2, x_wr_eq]
      refine u_X10_prove_33 k ⟨fun _ => ?_, fun z => by omega⟩
      have ek : k = p_nbr A + 1 := by omega
      rw [e512]
      have fr : ∀ a j, a ≠ 100 → ¬ (a = 5 ∧ j = 12) → ¬ p_cs a j → M' a j = M1 a j := fun a j q1 q2 q3 => by
        rw [f1 a j q1 (fun e => q3 (by unfold p_cs; omega)) (fun e => q3 (by unfold p_cs; omega)) (p_cs_st q3), hM2, x_wr_ne _ _ q2]
      refine h M' (wf_prA hA c4') (p_CI_100 hA c1 (fun a j q1 q2 => p_prA_ne q1 q2) fr ?_ (fun j => ?_)) (p_cfr_tr c2 (fun a j q1 q2 => fr a j (by omega) (by omega) (by unfold p_cs p_stc; omega)))
      · rw [e512]; exact p_prA_12.symm
      · show M' 100 j = p_prA2 A 100 j
        by_cases cj : 0 ≤ j ∧ j < 6 * ((p_nbr A : Int) + 1)
        · have := f3 (j / 6) (j % 6) (by omega) (by omega) (by omega) (by omega)
          rw [show 6 * (j / 6) + j % 6 = j by omega] at this
          have q := p_prA_100 (A := A) (k := j / 6) (i := j % 6) (by omega) (by omega)
          rw [show 6 * (j / 6) + j % 6 = j by omega] at q
          rw [this, q]
        · rw [p_prA_o cj, f2 j (by omega), hM2, x_wr_ne _ _ (by omega)]
          exact c1.2.2.2.1 j
    | succ m ih =>
      intro k M' hm hk hW hb f1 f2 f3
      by_cases ek : k = p_nbr A + 1
      · exact ih k M' (by omega) hk hW hb f1 f2 f3
      have e512 : M' 5 12 = (p_nbr A : Int) + 1 := by rw [f1 _ _ (by omega) (by omega) (by omega) (by unfold p_stc; omega), hM2, x_wr_eq]
      refine u_X10_prove_33 k ⟨fun z => by omega, fun z => ?_⟩
      have m6 : M' 6 1 = A 6 1 := by rw [f1 _ _ (by omega) (by omega) (by omega) (by unfold p_stc; omega), hM2, x_wr_ne _ _ (by omega)]; exact c1.1 6 1 (by omega) (by omega)
      have kn : k ≤ (p_BT A (-1) (A 6 1)).1 := by
        have : k ≤ p_nbr A := by omega
        exact this
      rw [x_w_id (by omega) (by omega)]
      refine c_tellPiece_v2 p_ten_ok p_one_ok hW w1 m6 c4 hb c5 kn (fo := (k : Int) * 6) (by omega) (fun M3 d1 d2 d3 => ⟨rfl, fun v hv => ?_⟩)
      rw [x_w_id (by omega) (by omega)] at hv
      rw [hv]
      refine ih (k + 1) M3 (by omega) (by omega) d1 ⟨?_, fun x x1 x2 => ?_⟩ (fun a j q1 q2 q3 q4 => ?_) (fun j q => ?_) (fun x i x1 x2 i1 i2 => ?_)
      · rw [d3 _ _ (by omega) (by omega) (by unfold p_stc; omega) (by omega)]; exact hb.1
      · rw [d3 _ _ (by omega) (by omega) (by unfold p_stc; omega) (by omega), d3 _ _ (by omega) (by omega) (by unfold p_stc; omega) (by omega)]; exact hb.2 x x1 x2
      · rw [d3 a j q2 q3 q4 (by omega)]; exact f1 a j q1 q2 q3 q4
      · rw [d3 _ _ (by omega) (by omega) (by unfold p_stc; omega) (by omega)]; exact f2 j (by omega)
      · by_cases ex : x = (k : Int)
        · have := d2 i i1 i2
          rw [ex, show 6 * (k : Int) + i = (k : Int) * 6 + i by omega]
          exact this
        · rw [d3 _ _ (by omega) (by omega) (by unfold p_stc; omega) (by omega)]
          exact f3 x i x1 (by omega) i1 i2
  refine main (p_nbr A + 1) 0 M2 (by omega) (by omega) (p_CW_fr c1.2.2.2.2.2.1 (fun a j q1 q2 q3 q4 => by rw [hM2]; exact x_wr_ne _ _ (by omega))) ⟨?_, fun x x1 x2 => ?_⟩ (fun _ _ _ _ _ _ => rfl) (fun _ _ => rfl) (fun x i x1 x2 => by omega)
  · rw [hM2, x_wr_ne _ _ (by omega)]; exact c3.1
  · rw [hM2, x_wr_ne _ _ (by omega), x_wr_ne _ _ (by omega)]; exact c3.2 x x1 x2
theorem r_prove (hA : p_WF A) (hR : p_RI A M) (h : ∀ M1, p_RI (o_prove A).2 M1 → p_rfr M M1 → Q (some (0, (o_prove A).1)) M1) : x_Ev l E (11, 0, 0) m_X11_prove 0 [(21, 103), (5, 0), (5, 0)] [] M Q := by
  refine u_X11_prove_0 (r_gb hA hR (by omega) (fun M2 c1 c2 c6 _ c3 c5 c4 => ⟨rfl, ?_⟩))
  have c3' : M2 103 25 = (p_nbr A : Int) := c3.1
  have c4' : p_nbr A ≤ 135 := c4
  rw [c3', x_w_id (by omega) (by omega)]
  intro M3 hM3
  have main : ∀ (m k : Nat) (M' : xM), p_nbr A + 1 - k ≤ m → k ≤ p_nbr A + 1 → (∀ a j, ¬ (a = 103 ∧ (j = 15 ∨ j = 16)) → ¬ (334 ≤ a ∧ a ≤ 543) → M' a j = M3 a j) → (∀ x i, 0 ≤ x → x < (k : Int) → 0 ≤ i → i < 6 → M' (334 + x) i = p_pcA A x i) → x_Ev l E (11, 0, 0) m_X11_prove 21 [(21, 103), (0, (k : Int)), (5, 0)] [] M' Q := by
    intro m
    induction m with
    | zero =>
      intro k M' hm hk f1 f3
      have e42 : M' 103 42 = (p_nbr A : Int) + 1 := by rw [f1 _ _ (by omega) (by omega), hM3, x_wr_eq]
      refine u_X11_prove_21 k ⟨fun _ => ?_, fun z => by omega⟩
      rw [e42]
      refine h M' (p_RI_100 hA c1 (fun a j q1 q2 => p_prA_ne q1 q2) (fun a j q1 q2 q3 => ?_) ?_ (fun x i x1 x2 i1 i2 => ?_)) (p_rfr_tr c2 (p_rfr_o (fun a j q => ?_)))
      · rw [f1 a j (fun e => q3 (by unfold p_rsc; omega)) q1, hM3, x_wr_ne _ _ q2]
      · rw [e42]; exact p_prA_12.symm
      · have x2' : x < p_prA2 A 5 12 := x2
        rw [p_prA_12] at x2'
        show M' (334 + x) i = p_prA2 A 100 (6 * x + i)
        rw [p_prA_100 (by omega) (by omega)]
        exact f3 x i x1 (by omega) i1 i2
      · rw [f1 a j (by omega) (by omega), hM3, x_wr_ne _ _ (by omega)]
    | succ m ih =>
      intro k M' hm hk f1 f3
      by_cases ek : k = p_nbr A + 1
      · exact ih k M' (by omega) hk f1 f3
      have e42 : M' 103 42 = (p_nbr A : Int) + 1 := by rw [f1 _ _ (by omega) (by omega), hM3, x_wr_eq]
      refine u_X11_prove_21 k ⟨fun z => by omega, fun z => ?_⟩
      have inner : ∀ (m' : Nat) (i : Int) (N : xM), 6 - i ≤ m' → 0 ≤ i → i ≤ 6 → (∀ a j, ¬ (a = 103 ∧ (j = 15 ∨ j = 16)) → a ≠ 334 + (k : Int) → N a j = M' a j) → (∀ x, 0 ≤ x → x < i → N (334 + (k : Int)) x = p_pcA A k x) → x_Ev l E (11, 0, 0) m_X11_prove 31 [(21, 103), (0, (k : Int)), (0, i)] [] N Q := by
        intro m'
        induction m' with
        | zero =>
          intro i N hm' i0 i6 g1 g2
          refine u_X11_prove_31 k i ⟨fun _ v hv => ?_, fun z2 => by omega⟩
          rw [x_w_id (by omega) (by omega)] at hv
          rw [hv]
          refine ih (k + 1) N (by omega) (by omega) (fun a j q1 q2 => ?_) (fun x y x1 x2 y1 y2 => ?_)
          · rw [g1 a j q1 (by omega)]; exact f1 a j q1 q2
          · by_cases ex : x = (k : Int)
            · rw [ex]; exact g2 y y1 (by omega)
            · rw [g1 _ _ (by omega) (by omega)]; exact f3 x y x1 (by omega) y1 y2
        | succ m' im =>
          intro i N hm' i0 i6 g1 g2
          by_cases ei : i = 6
          · exact im i N (by omega) i0 i6 g1 g2
          refine u_X11_prove_31 k i ⟨fun z2 => by omega, fun z2 => ⟨by omega, ?_⟩⟩
          have frN : ∀ a j, (a = 103 ∧ (j = 0 ∨ j = 8 ∨ j = 25)) ∨ (104 ≤ a ∧ a < 142) ∨ (149 ≤ a ∧ a ≤ 283) → N a j = M2 a j := fun a j q => by
            rw [g1 a j (by omega) (by omega), f1 a j (by omega) (by omega), hM3, x_wr_ne _ _ (by omega)]
          have rN : p_RW N (p_Fs A) (A 6 0).toNat := p_RW_fr c6 (fun a j q => frN a j (by omega))
          have bN : p_rbmem N (p_BT A (-1) (A 6 1)).1 (p_BT A (-1) (A 6 1)).2.1 (p_BT A (-1) (A 6 1)).2.2 := ⟨by rw [frN _ _ (by omega)]; exact c3.1, fun x x1 x2 => by rw [frN 282 x (by omega), frN 283 x (by omega)]; exact c3.2 x x1 x2⟩
          have w1 := (p_W_tm hA).2.1
          have e8 : N 103 8 = A 6 1 := by rw [frN _ _ (by omega)]; exact c1.1.2.1
          have kn : k ≤ (p_BT A (-1) (A 6 1)).1 := by
            have : k ≤ p_nbr A := by omega
            exact this
          refine c_pieceOf p_ten_ok p_one_ok rN w1 e8 c4 bN c5 kn (by omega) (fun N2 y1 => ⟨_, rfl, by omega, ?_⟩)
          rw [show 333 + 1 + 1 * (k : Int) = 334 + (k : Int) by omega]
          intro N3 hN3 v hv
          rw [x_w_id (by omega) (by omega)] at hv
          rw [hv]
          refine im (i + 1) N3 (by omega) (by omega) (by omega) (fun a j q1 q2 => ?_) (fun x x1 x2 => ?_)
          · rw [hN3, x_wr_ne _ _ (by omega), y1 a j q1]; exact g1 a j q1 q2
          · by_cases ex : x = i
            · rw [ex, hN3, x_wr_eq]; rfl
            · rw [hN3, x_wr_ne _ _ (by omega), y1 _ _ (by omega)]; exact g2 x x1 (by omega)
      exact inner 6 0 M' (by omega) (by omega) (by omega) (fun _ _ _ _ => rfl) (fun x x1 x2 => by omega)
  exact main (p_nbr A + 1) 0 M3 (by omega) (by omega) (fun _ _ _ _ => rfl) (fun x i x1 x2 => by omega)
/-- the first row of pieces that isn't as it should be -/
def p_same (A : xM) (k : Nat) : Prop := ∀ i, 0 ≤ i → i < 6 → A 100 (6 * (k : Int) + i) = p_pcA A k i
noncomputable def p_jd (A : xM) (b : Nat) : Nat → Int
  | 0 => p_if ((p_nbr A : Int) + 1 = A 5 12) 0 (1 + (b : Int))
  | m + 1 => p_if (p_same A (b - (m + 1))) (p_jd A b m) (1 + ((b - (m + 1) : Nat) : Int))
noncomputable def p_jb (A : xM) : Nat := if (A 5 12).toNat < p_nbr A + 1 then (A 5 12).toNat else p_nbr A + 1
noncomputable def o_judge (A : xM) : Int × xM := (p_jd A (p_jb A) (p_jb A), A)
theorem wf_judge (hA : p_WF A) : p_WF (o_judge A).2 := hA
theorem k_judge (hA : p_WF A) (hC : p_CI A M) (h : ∀ M1, p_CI (o_judge A).2 M1 → p_cfr M M1 → Q (some (0, (o_judge A).1)) M1) : x_Ev l E (6, 0, 0) m_X10_judge 0 [(20, 5), (5, 0), (5, 0), (5, 0), (5, 0)] [] M Q := by
  have w1 := (p_W_tm hA).2.1
  have wp := hA.2.2.2.1
  unfold o_judge at h
  refine u_X10_judge_0 ?_
  rw [hC.1 6 1 (by omega) (by omega)]
  refine k_gb hA hC w1 (fun M1 c1 c2 _ c3 c5 c4 => ⟨rfl, ?_⟩)
  have c3' : M1 42 0 = (p_nbr A : Int) := c3.1
  have c4' : p_nbr A ≤ 27 := c4
  rw [c3', x_w_id (by omega) (by omega), c1.2.2.1]
  intro v hv
  rw [hv]
  have eb : (if A 5 12 < (p_nbr A : Int) + 1 then A 5 12 else (p_nbr A : Int) + 1) = (p_jb A : Int) := by
    unfold p_jb
    by_cases q : A 5 12 < (p_nbr A : Int) + 1
    · rw [if_pos q, if_pos (by omega)]; omega
    · rw [if_neg q, if_neg (by omega)]; omega
  have jb : (p_jb A : Int) ≤ A 5 12 ∧ p_jb A ≤ p_nbr A + 1 := by
    unfold p_jb
    by_cases q : (A 5 12).toNat < p_nbr A + 1
    · rw [if_pos q]; omega
    · rw [if_neg q]; omega
  refine c_min _ _ ⟨_, rfl, ?_⟩
  rw [eb]
  have main : ∀ (m : Nat) (M' : xM), m ≤ p_jb A → p_CI A M' → p_cfr M M' → p_bmem M' (p_BT A (-1) (A 6 1)).1 (p_BT A (-1) (A 6 1)).2.1 (p_BT A (-1) (A 6 1)).2.2 → (∀ N, p_CI A N → p_cfr M N → Q (some (0, p_jd A (p_jb A) m)) N) → x_Ev l E (6, 0, 0) m_X10_judge 39 [(20, 5), (0, (p_nbr A : Int) + 1), (0, (p_jb A : Int)), (0, ((p_jb A - m : Nat) : Int)), (5, 0)] [] M' Q := by
    intro m
    induction m with
    | zero =>
      intro M' hm cI cf hb hq
      refine u_X10_judge_39 _ _ _ ⟨fun _ => ?_, fun z => by omega⟩
      rw [cI.2.2.1]
      have hq' := hq M' cI cf
      unfold p_jd at hq'
      refine ⟨fun z => ?_, fun z => ?_⟩
      · rw [p_if_f z] at hq'
        rw [x_w_id (by omega) (by omega)]; exact hq'
      · rw [p_if_t z] at hq'; exact hq'
    | succ m ih =>
      intro M' hm cI cf hb hq
      refine u_X10_judge_39 _ _ _ ⟨fun z => by omega, fun z => ?_⟩
      have kn : (0 : Int) ≤ ((p_jb A - (m + 1) : Nat) : Int) ∧ ((p_jb A - (m + 1) : Nat) : Int) ≤ (p_BT A (-1) (A 6 1)).1 := by
        have : (p_BT A (-1) (A 6 1)).1 = p_nbr A := rfl
        omega
      refine k_tp hA cI hb c5 c4 kn (fun M2 d1 d2 d3 d4 => ⟨rfl, ?_⟩)
      have hb2 : p_bmem M2 (p_BT A (-1) (A 6 1)).1 (p_BT A (-1) (A 6 1)).2.1 (p_BT A (-1) (A 6 1)).2.2 := ⟨by rw [d4 _ _ (by omega) (by omega) (by unfold p_stc; omega) (by omega)]; exact hb.1, fun x x1 x2 => by rw [d4 43 x (by omega) (by omega) (by unfold p_stc; omega) (by omega), d4 44 x (by omega) (by omega) (by unfold p_stc; omega) (by omega)]; exact hb.2 x x1 x2⟩
      have cf2 := p_cfr_tr cf d2
      have inner : ∀ (m' : Nat) (i : Int), 6 - i ≤ m' → 0 ≤ i → i ≤ 6 → (∀ x, 0 ≤ x → x < i → A 100 (6 * ((p_jb A - (m + 1) : Nat) : Int) + x) = p_pcA A ((p_jb A - (m + 1) : Nat) : Int) x) → x_Ev l E (6, 0, 0) m_X10_judge 60 [(20, 5), (0, (p_nbr A : Int) + 1), (0, (p_jb A : Int)), (0, ((p_jb A - (m + 1) : Nat) : Int)), (0, i)] [] M2 Q := by
        intro m'
        induction m' with
        | zero =>
          intro i hm' i0 i6 g
          refine u_X10_judge_60 _ _ _ i ⟨fun _ v hv => ?_, fun z2 => by omega⟩
          rw [x_w_id (by omega) (by omega)] at hv
          rw [hv, show ((p_jb A - (m + 1) : Nat) : Int) + 1 = ((p_jb A - m : Nat) : Int) by omega]
          refine ih M2 (by omega) d1 cf2 hb2 (fun N n1 n2 => ?_)
          have := hq N n1 n2
          unfold p_jd at this
          rw [p_if_t (c := p_same A (p_jb A - (m + 1))) (fun x x1 x2 => g x x1 (by omega))] at this
          exact this
        | succ m' im =>
          intro i hm' i0 i6 g
          by_cases ei : i = 6
          · exact im i (by omega) i0 i6 g
          refine u_X10_judge_60 _ _ _ i ?_
          rw [x_ix6 (by omega) (by omega) (by omega) (by omega), d3 i i0 (by omega), d1.2.2.2.1]
          refine ⟨fun z2 => by omega, fun z2 => ⟨by omega, by omega, fun q v hv => ?_, fun q => ?_⟩⟩
          · rw [x_w_id (by omega) (by omega)] at hv
            rw [hv]
            refine im (i + 1) (by omega) (by omega) (by omega) (fun x x1 x2 => ?_)
            by_cases ex : x = i
            · rw [ex]; exact q.symm
            · exact g x x1 (by omega)
          · have := hq M2 d1 cf2
            unfold p_jd at this
            rw [p_if_f (c := p_same A (p_jb A - (m + 1))) (fun w => q (w i i0 (by omega)).symm)] at this
            rw [x_w_id (by omega) (by omega)]; exact this
      exact inner 6 0 (by omega) (by omega) (by omega) (fun x x1 x2 => by omega)
  have := main (p_jb A) M1 (Nat.le_refl _) c1 c2 c3 h
  rw [Nat.sub_self] at this
  exact this
theorem r_judge (hA : p_WF A) (hR : p_RI A M) (h : ∀ M1, p_RI (o_judge A).2 M1 → p_rfr M M1 → Q (some (0, (o_judge A).1)) M1) : x_Ev l E (11, 0, 0) m_X11_judge 0 [(21, 103), (5, 0), (5, 0), (5, 0)] [] M Q := by
  have wp := hA.2.2.2.1
  unfold o_judge at h
  refine u_X11_judge_0 (r_gb hA hR (by omega) (fun M2 c1 c2 c6 _ c3 c5 c4 => ⟨rfl, ?_⟩))
  have c3' : M2 103 25 = (p_nbr A : Int) := c3.1
  have c4' : p_nbr A ≤ 135 := c4
  have jb : (p_jb A : Int) ≤ A 5 12 ∧ p_jb A ≤ p_nbr A + 1 ∧ ((p_jb A : Int) = A 5 12 ∨ p_jb A = p_nbr A + 1) := by
    unfold p_jb
    by_cases q : (A 5 12).toNat < p_nbr A + 1
    · rw [if_pos q]; omega
    · rw [if_neg q]; omega
  have main : ∀ (m : Nat) (M' : xM), m ≤ p_jb A → p_RI A M' → p_rfr M M' → p_RW M' (p_Fs A) (A 6 0).toNat → p_rbmem M' (p_BT A (-1) (A 6 1)).1 (p_BT A (-1) (A 6 1)).2.1 (p_BT A (-1) (A 6 1)).2.2 → (∀ N, p_RI A N → p_rfr M N → Q (some (0, p_jd A (p_jb A) m)) N) → x_Ev l E (11, 0, 0) m_X11_judge 11 [(21, 103), (0, ((p_jb A - m : Nat) : Int)), (5, 0), (5, 0)] [] M' Q := by
    intro m
    induction m with
    | zero =>
      intro M' hm rI rf hW hb hq
      have e25 : M' 103 25 = (p_nbr A : Int) := hb.1
      have e42 : M' 103 42 = A 5 12 := rI.2.2.2.1.1
      have hq' := hq M' rI rf
      unfold p_jd at hq'
      refine u_X11_judge_11 _ ?_
      rw [e25, e42, x_w_id (by omega) (by omega)]
      refine ⟨fun z => ⟨fun z2 => ?_, fun z2 => ?_⟩, fun z => ⟨fun z2 => ?_, fun z2 => by omega⟩⟩
      · rw [p_if_t (by omega)] at hq'; exact hq'
      · rw [p_if_f (by omega)] at hq'
        rw [x_w_id (by omega) (by omega), show 2 + (p_nbr A : Int) = 1 + (p_jb A : Int) by omega]; exact hq'
      · rw [p_if_f (by omega)] at hq'
        refine u_X11_judge_35 _ 0 0 ⟨fun z3 => by omega, fun z3 => ⟨fun _ => ?_, fun z4 => absurd rfl z4⟩⟩
        rw [x_w_id (by omega) (by omega), show 1 + ((p_jb A - 0 : Nat) : Int) = 1 + (p_jb A : Int) by omega]
        exact hq'
    | succ m ih =>
      intro M' hm rI rf hW hb hq
      have e25 : M' 103 25 = (p_nbr A : Int) := hb.1
      have e42 : M' 103 42 = A 5 12 := rI.2.2.2.1.1
      refine u_X11_judge_11 _ ?_
      rw [e25, e42]
      refine ⟨fun z => by omega, fun z => ⟨fun z2 => by omega, fun z2 => ?_⟩⟩
      have kn : (0 : Int) ≤ ((p_jb A - (m + 1) : Nat) : Int) ∧ ((p_jb A - (m + 1) : Nat) : Int) ≤ (p_BT A (-1) (A 6 1)).1 := by
        have : (p_BT A (-1) (A 6 1)).1 = p_nbr A := rfl
        omega
      have inner : ∀ (m' : Nat) (i : Int) (N : xM), 6 - i ≤ m' → 0 ≤ i → i ≤ 6 → (∀ a j, ¬ (a = 103 ∧ (j = 15 ∨ j = 16)) → N a j = M' a j) → (∀ x, 0 ≤ x → x < i → A 100 (6 * ((p_jb A - (m + 1) : Nat) : Int) + x) = p_pcA A ((p_jb A - (m + 1) : Nat) : Int) x) → x_Ev l E (11, 0, 0) m_X11_judge 35 [(21, 103), (0, ((p_jb A - (m + 1) : Nat) : Int)), (0, 1), (0, i)] [] N Q := by
        intro m'
        induction m' with
        | zero =>
          intro i N hm' i0 i6 fr g
          have fr' : ∀ a j, ¬ p_rsc a j → N a j = M' a j := fun a j q => fr a j (fun e => q (by unfold p_rsc; omega))
          refine u_X11_judge_35 _ 1 i ⟨fun _ => ⟨fun _ v hv => ?_, fun z3 => by omega⟩, fun z3 => by omega⟩
          rw [x_w_id (by omega) (by omega)] at hv
          rw [hv, show ((p_jb A - (m + 1) : Nat) : Int) + 1 = ((p_jb A - m : Nat) : Int) by omega]
          refine ih N (by omega) (p_RI_sc hA rI fr') (p_rfr_tr rf (p_rfr_sc fr')) (p_RW_fr hW (fun a j q => fr a j (by omega))) ⟨by rw [fr _ _ (by omega)]; exact hb.1, fun x x1 x2 => by rw [fr 282 x (by omega), fr 283 x (by omega)]; exact hb.2 x x1 x2⟩ (fun N' n1 n2 => ?_)
          have := hq N' n1 n2
          unfold p_jd at this
          rw [p_if_t (c := p_same A (p_jb A - (m + 1))) (fun x x1 x2 => g x x1 (by omega))] at this
          exact this
        | succ m' im =>
          intro i N hm' i0 i6 fr g
          by_cases ei : i = 6
          · exact im i N (by omega) i0 i6 fr g
          have fr' : ∀ a j, ¬ p_rsc a j → N a j = M' a j := fun a j q => fr a j (fun e => q (by unfold p_rsc; omega))
          have rN := p_RI_sc hA rI fr'
          have rfN := p_rfr_tr rf (p_rfr_sc fr')
          refine u_X11_judge_35 _ 1 i ⟨fun z3 => by omega, fun z3 => ⟨fun z4 => by omega, fun z4 => ⟨by omega, by omega, ?_⟩⟩⟩
          rw [show 333 + 1 + 1 * ((p_jb A - (m + 1) : Nat) : Int) = 334 + ((p_jb A - (m + 1) : Nat) : Int) by omega, rN.2.2.2.1.2 _ i (by omega) (by omega) i0 (by omega)]
          refine r_po hA rN (p_RW_fr hW (fun a j q => fr a j (by omega))) ⟨by rw [fr _ _ (by omega)]; exact hb.1, fun x x1 x2 => by rw [fr 282 x (by omega), fr 283 x (by omega)]; exact hb.2 x x1 x2⟩ c5 c4 kn (by omega) (fun N2 y => ⟨_, rfl, fun q v hv => ?_, fun q v hv => ?_⟩)
          · have fr2 : ∀ a j, ¬ p_rsc a j → N2 a j = N a j := fun a j q => y a j (fun e => q (by unfold p_rsc; omega))
            have := hq N2 (p_RI_sc hA rN fr2) (p_rfr_tr rfN (p_rfr_sc fr2))
            unfold p_jd at this
            rw [p_if_f (c := p_same A (p_jb A - (m + 1))) (fun w => q (w i i0 (by omega)))] at this
            rw [x_w_id (by omega) (by omega)] at hv
            refine u_X11_judge_35 _ 0 v ⟨fun z5 => ⟨fun z6 => absurd rfl z6, fun _ => ?_⟩, fun z5 => ⟨fun _ => ?_, fun z6 => absurd rfl z6⟩⟩
            · rw [x_w_id (by omega) (by omega)]; exact this
            · rw [x_w_id (by omega) (by omega)]; exact this
          · rw [x_w_id (by omega) (by omega)] at hv
            rw [hv]
            refine im (i + 1) N2 (by omega) (by omega) (by omega) (fun a j q => by rw [y a j q]; exact fr a j q) (fun x x1 x2 => ?_)
            by_cases ex : x = i
            · rw [ex]; exact q
            · exact g x x1 (by omega)
      exact inner 6 0 M' (by omega) (by omega) (by omega) (fun _ _ _ => rfl) (fun x x1 x2 => by omega)
  have := main (p_jb A) M2 (Nat.le_refl _) c1 c2 c6 c3 h
  rw [Nat.sub_self] at this
  exact this
end P16
