/-! The reference's table of plans -/
def p_rrow (M : xM) (f k : Int) (e : Int → Int) : Prop := (∀ c, 0 ≤ c → c < 3 → M (152 + 41 * f + k) c = e c) ∧ M (275 + f) k = e 3 ∧ M (279 + f) k = e 4
def p_rtab (M : xM) (f : Int) (n : Nat) (T : Int → Int → Int) : Prop := M 149 f = n ∧ ∀ k : Int, 0 ≤ k → k < n → p_rrow M f k (T k)
/-- the cells of a follower's table -/
def p_rt (f a k : Int) : Prop := (a = 149 ∧ k = f) ∨ (152 + 41 * f ≤ a ∧ a < 192 + 41 * f) ∨ a = 275 + f ∨ a = 279 + f
theorem p_rtab_fr {M M1 : xM} {f : Int} {n : Nat} {T : Int → Int → Int} (hn : n ≤ 40) (h : ∀ a k, p_rt f a k → M1 a k = M a k) (ht : p_rtab M f n T) : p_rtab M1 f n T := by
  unfold p_rt at h
  refine ⟨?_, fun k k1 k2 => ⟨fun c c1 c2 => ?_, ?_, ?_⟩⟩
  · rw [h _ _ (by omega)]; exact ht.1
  · rw [h _ _ (by omega)]; exact (ht.2 k k1 k2).1 c c1 c2
  · rw [h _ _ (by omega)]; exact (ht.2 k k1 k2).2.1
  · rw [h _ _ (by omega)]; exact (ht.2 k k1 k2).2.2
section RT
variable {l : Launch} {E : xE} {Q : Option xV → xM → Prop}
theorem c_order {f : Int} (hf : 0 ≤ f ∧ f < 3) {M : xM} {F : xM} (hF : p_wf F) (hG : M 106 f = F 0 2) {k : Int} (hk : 0 ≤ k ∧ k < 40) {e e' : Int → Int} (he : p_eb e) (he' : p_eb e') (hz : ∀ c, F 0 2 ≤ c → c < 3 → e c = 0 ∧ e' c = 0) (hX : ∀ c, 0 ≤ c → c < F 0 2 → M 148 c = e c) (hr : p_rrow M f k e')
    (h1 : p_lt e' e → Q (some (0, 1)) M) (h2 : p_lt e e' → Q (some (0, -1)) M) (h0 : p_v e * e' 3 = p_v e' * e 3 → Q (some (0, 0)) M) : x_Ev l E (1, 0, 0) m_X11_order 0 [(21, 103), (0, f), (0, k), (1, e 3), (5, 0), (5, 0), (5, 0), (5, 0), (5, 0), (5, 0)] [] M Q := by
  have hg := hF.2.2.1
  obtain ⟨x1, x2⟩ := p_lex he he'
  have t0 := x2 0 (by omega) (by omega)
  have t1 := x2 1 (by omega) (by omega)
  have t2 := x2 2 (by omega) (by omega)
  have main : ∀ (m : Nat) (j : Int), F 0 2 - j ≤ m → 0 ≤ j → j ≤ F 0 2 → (∀ c, 0 ≤ c → c < j → e c * e' 3 - e' c * e 3 = 0) → x_Ev l E (1, 0, 0) m_X11_order 3 [(21, 103), (0, f), (0, k), (1, e 3), (5, 0), (0, j), (5, 0), (5, 0), (5, 0), (5, 0)] [] M Q := by
    intro m
    induction m with
    | zero =>
      intro j hm hj hj2 hx
      refine u_X11_order_3 f k _ j ⟨by omega, fun q => h0 ?_, fun q => absurd (by rw [hG]; omega) q⟩
      have t : ∀ c, 0 ≤ c → c < 3 → e c * e' 3 - e' c * e 3 = 0 := by
        intro c c1 c2
        by_cases q : c < j
        · exact hx c c1 q
        · have := hz c (by omega) c2
          rw [this.1, this.2]; omega
      have s0 := t 0 (by omega) (by omega)
      have s1 := t 1 (by omega) (by omega)
      have s2 := t 2 (by omega) (by omega)
      omega
    | succ m ih =>
      intro j hm hj hj2 hx
      by_cases hjg : j = F 0 2
      · exact ih j (by omega) hj hj2 hx
      have b1 := x_mb (A := 1080) (B := 162) (he.1 j hj (by omega)) (b := e' 3) ⟨by have := he'.2.1; omega, he'.2.2⟩
      have b2 := x_mb (A := 1080) (B := 162) (he'.1 j hj (by omega)) (b := e 3) ⟨by have := he.2.1; omega, he.2.2⟩
      refine u_X11_order_3 f k _ j ⟨by omega, fun q => by rw [hG] at q; omega, fun q => ⟨by omega, by omega, by omega, ?_⟩⟩
      rw [hX j hj (by omega), show 274 + 1 + 1 * f = 275 + f by omega, hr.2.1, show (150 + 1 + 41 * f) + 1 + 1 * k = 152 + 41 * f + k by omega, hr.1 j hj (by omega)]
      intro v hv
      refine ⟨by omega, by omega, by omega, ?_⟩
      intro v2 hv2
      rw [x_W_id (by omega) (by omega)] at hv hv2
      subst hv hv2
      have hj3 : j = 0 ∨ j = 1 ∨ j = 2 := by omega
      refine ⟨fun d => ?_, fun d => ⟨fun d2 => h1 ?_, fun d2 => h2 ?_⟩⟩
      · intro v3 hv3
        rw [x_w_id (by omega) (by omega)] at hv3
        subst hv3
        refine ih (j + 1) (by omega) (by omega) (by omega) (fun c c1 c2 => ?_)
        by_cases q : c = j
        · rw [q]; omega
        · exact hx c c1 (by omega)
      · unfold p_lt
        rcases hj3 with q | q | q
        · subst q; omega
        · subst q
          have := hx 0 (by omega) (by omega)
          omega
        · subst q
          have := hx 0 (by omega) (by omega)
          have := hx 1 (by omega) (by omega)
          omega
      · unfold p_lt
        rcases hj3 with q | q | q
        · subst q; omega
        · subst q
          have := hx 0 (by omega) (by omega)
          omega
        · subst q
          have := hx 0 (by omega) (by omega)
          have := hx 1 (by omega) (by omega)
          omega
  exact u_X11_order_0 f k _ (main 3 0 (by omega) (by omega) (by omega) (fun c a b => by omega))
theorem c_takesPlan {f : Int} (hf : 0 ≤ f ∧ f < 3) {M0 : xM} {F : xM} (hF : p_wf F) (hR : p_RF M0 f F) {n : Nat} (hn : n < 40) {T : Int → Int → Int} {e : Int → Int} (ht : p_rtab M0 f n T) (he : p_eb e) (heT : ∀ k : Int, 0 ≤ k → k < n → p_eb (T k)) (hz : ∀ c, F 0 2 ≤ c → c < 3 → e c = 0 ∧ ∀ k : Int, 0 ≤ k → k < n → T k c = 0) (hX : ∀ c, 0 ≤ c → c < F 0 2 → M0 148 c = e c) (he4 : e 4 = p_tS F e (e 3)) (hsort : ∀ k k' : Int, 0 ≤ k → k < k' → k' < (n : Int) → p_lt (T k) (T k'))
    (hold : (∃ k : Int, 0 ≤ k ∧ k < n ∧ p_v e * T k 3 = p_v (T k) * e 3) → Q none M0)
    (h : (∀ k : Int, 0 ≤ k → k < n → p_lt e (T k) ∨ p_lt (T k) e) → ∀ M1 : xM, p_rtab M1 f (n + 1) (p_put T (p_pos T e n) e) → (∀ a k, ¬ p_rt f a k → M1 a k = M0 a k) → Q none M1) : x_Ev l E (3, 0, 0) m_X11_takesPlan 0 [(21, 103), (0, f), (1, e 3), (5, 0), (5, 0), (5, 0), (5, 0)] [] M0 Q := by
  have hg := hF.2.2.1
  -- writing the new entry
  have wr : ∀ (p : Int) (M : xM), 0 ≤ p → p ≤ n → (∀ k : Int, 0 ≤ k → k < p → p_lt (T k) e) → (∀ k : Int, p ≤ k → k < n → p_lt e (T k)) → (∀ k : Int, 0 ≤ k → k < p → p_rrow M f k (T k)) → (∀ k : Int, p < k → k ≤ n → p_rrow M f k (T (k - 1))) → M 149 f = n → (∀ a k, ¬ p_rt f a k → M a k = M0 a k) → x_Ev l E (3, 0, 0) m_X11_takesPlan 159 [(21, 103), (0, f), (1, e 3), (5, 0), (0, p), (0, 0), (5, 0)] [] M Q := by
    intro p M hp hp2 l1 l2 r1 r2 r3 r4
    have main : ∀ (m : Nat) (j : Int) (M1 : xM), 3 - j ≤ m → 0 ≤ j → j ≤ 3 → (∀ c, 0 ≤ c → c < j → M1 (152 + 41 * f + p) c = e c) → (∀ a k, ¬ (a = 152 + 41 * f + p) → M1 a k = M a k) → x_Ev l E (3, 0, 0) m_X11_takesPlan 159 [(21, 103), (0, f), (1, e 3), (5, 0), (0, p), (0, j), (5, 0)] [] M1 Q := by
      have fin : ∀ (j : Int) (M1 : xM), 3 ≤ j → (∀ c, 0 ≤ c → c < j → M1 (152 + 41 * f + p) c = e c) → (∀ a k, ¬ (a = 152 + 41 * f + p) → M1 a k = M a k) → (((0 : Int) ≤ f ∧ (f : Int) < 3) ∧ ((0 : Int) ≤ p ∧ p < 40) ∧ ∀ zM1 : xM, zM1 = x_wr M1 (274 + 1 + 1 * f) p (e 3) → ((0 : Int) ≤ f ∧ (f : Int) < 3) ∧ x_Ev l E (2, 0, 0) m_X11_tightPrimal 0 [(21, 103), (0, f), (1, e 3), (5, 0), (5, 0), (5, 0)] [] zM1 (fun r zM2 => ∃ zr3, r = some (0, zr3) ∧ ((0 : Int) ≤ p ∧ p < 40) ∧ ∀ zM4 : xM, zM4 = x_wr zM2 (278 + 1 + 1 * f) p zr3 → ((0 : Int) ≤ f ∧ (f : Int) < 3) ∧ ((0 : Int) ≤ f ∧ f < 3) ∧ ∀ zM5 : xM, zM5 = x_wr zM4 149 f (x_w ((zM4 149 f) + 1)) → Q none zM5)) := by
        intro j M1 hj g1 g2
        refine ⟨by omega, by omega, ?_⟩
        rw [show 274 + 1 + 1 * f = 275 + f by omega, show 278 + 1 + 1 * f = 279 + f by omega]
        intro M2 hM2
        refine ⟨by omega, ?_⟩
        have f2 : ∀ a, a ≠ 275 + f → M2 a = M1 a := fun a ha => by rw [hM2]; exact x_wr_fr _ _ _ ha
        have fr2 : ∀ a k, ¬ p_rt f a k → M2 a k = M0 a k := by
          intro a k q
          rw [f2 a (by unfold p_rt at q; omega), g2 a k (by unfold p_rt at q; omega)]
          exact r4 a k q
        have rf2 : p_RF M2 f F := p_RF_fr hf hF hR (fun a a1 a2 => by funext k; exact fr2 a k (by unfold p_rt; omega))
        have x2 : ∀ c, 0 ≤ c → c < F 0 2 → M2 148 c = e c := fun c c1 c2 => by rw [fr2 148 c (by unfold p_rt; omega)]; exact hX c c1 c2
        refine c_tightPrimal hf hF rf2 (fun c c1 c2 => by rw [x2 c c1 c2]; exact he.1 c c1 (by omega)) ⟨he.2.1, he.2.2⟩ ⟨_, rfl, by omega, ?_⟩
        rw [p_tS_cgg hF x2, ← he4]
        intro M3 hM3
        refine ⟨by omega, by omega, ?_⟩
        intro M4 hM4
        have epos : p_pos T e n = p.toNat := by
          refine p_pos_eq (by omega) (fun k k1 => l1 k (by omega) (by omega)) (fun k k1 k2 q => ?_)
          exact p_lt_ir (p_lt_tr he.2.1 (heT k (by omega) (by omega)).2.1 he.2.1 (l2 k (by omega) (by omega)) q)
        have a1 : ∀ a, 152 + 41 * f ≤ a → a < 192 + 41 * f → M4 a = M1 a := fun a q1 q2 => by rw [hM4, x_wr_fr _ _ _ (by omega), hM3, x_wr_fr _ _ _ (by omega)]; exact f2 a (by omega)
        have a2 : ∀ k, M4 (275 + f) k = if k = p then e 3 else M (275 + f) k := by
          intro k
          rw [hM4, x_wr_fr _ _ _ (by omega), hM3, x_wr_fr _ _ _ (by omega), hM2]
          by_cases c : k = p
          · rw [c, x_wr_eq, if_pos rfl]
          · rw [x_wr_ne _ _ (by omega), if_neg c]; exact g2 _ _ (by omega)
        have a3 : ∀ k, M4 (279 + f) k = if k = p then e 4 else M (279 + f) k := by
          intro k
          rw [hM4, x_wr_fr _ _ _ (by omega), hM3]
          by_cases c : k = p
          · rw [c, x_wr_eq, if_pos rfl]
          · rw [x_wr_ne _ _ (by omega), if_neg c, f2 _ (by omega)]; exact g2 _ _ (by omega)
        refine h (fun k k1 k2 => ?_) M4 ⟨?_, fun k k1 k2 => ?_⟩ (fun a k q => ?_)
        · by_cases c : k < p
          · exact Or.inr (l1 k k1 c)
          · exact Or.inl (l2 k (by omega) k2)
        · rw [hM4, x_wr_eq, hM3, x_wr_ne _ _ (by omega), f2 _ (by omega), g2 _ _ (by omega), r3, x_w_id (by omega) (by omega)]
          omega
        · rw [epos, show ((p.toNat : Nat) : Int) = p by omega]
          unfold p_put
          have out : k ≠ p → ∀ {t}, p_rrow M f k t → p_rrow M4 f k t := by
            intro c t q
            refine ⟨fun c' c1 c2 => ?_, ?_, ?_⟩
            · rw [a1 _ (by omega) (by omega), g2 _ _ (by omega)]; exact q.1 c' c1 c2
            · rw [a2, if_neg c]; exact q.2.1
            · rw [a3, if_neg c]; exact q.2.2
          by_cases c : k < p
          · rw [if_pos c]; exact out (by omega) (r1 k k1 c)
          · rw [if_neg c]
            by_cases c2 : k = p
            · rw [if_pos c2, c2]
              refine ⟨fun c' c1 c2 => ?_, ?_, ?_⟩
              · rw [a1 _ (by omega) (by omega)]; exact g1 c' c1 (by omega)
              · rw [a2, if_pos rfl]
              · rw [a3, if_pos rfl]
            · rw [if_neg c2]; exact out c2 (r2 k (by omega) (by omega))
        · unfold p_rt at q
          rw [hM4, x_wr_ne _ _ (by omega), hM3, x_wr_ne _ _ (by omega)]
          exact fr2 a k (by unfold p_rt; omega)
      intro m
      induction m with
      | zero =>
        intro j M1 hm hj hj2 g1 g2
        exact u_X11_takesPlan_159 f _ p j ⟨fun q => fin j M1 q g1 g2, fun q => by omega⟩
      | succ m ih =>
        intro j M1 hm hj hj2 g1 g2
        by_cases hj3 : j = 3
        · exact ih j M1 (by omega) hj hj2 g1 g2
        have step : ∀ zM : xM, zM = x_wr M1 ((150 + 1 + 41 * f) + 1 + 1 * p) j (e j) → ∀ zv : Int, zv = x_w (j + 1) → x_Ev l E (3, 0, 0) m_X11_takesPlan 159 [(21, 103), (0, f), (1, e 3), (5, 0), (0, p), (0, zv), (5, 0)] [] zM Q := by
          intro M2 hM2 v hv
          rw [x_w_id (by omega) (by omega)] at hv
          rw [show (150 + 1 + 41 * f) + 1 + 1 * p = 152 + 41 * f + p by omega] at hM2
          subst hv hM2
          refine ih (j + 1) _ (by omega) (by omega) (by omega) (fun c c1 c2 => ?_) (fun a k q => ?_)
          · by_cases q : c = j
            · rw [q, x_wr_eq]
            · rw [x_wr_ne _ _ (by omega)]; exact g1 c c1 (by omega)
          · rw [x_wr_ne _ _ (by omega)]; exact g2 a k q
        have fr1 : ∀ a k, ¬ p_rt f a k → M1 a k = M0 a k := by
          intro a k q
          rw [g2 a k (by unfold p_rt at q; omega)]
          exact r4 a k q
        have eg : M1 106 f = F 0 2 := by rw [fr1 106 f (by unfold p_rt; omega)]; exact hR.2.2.1
        refine u_X11_takesPlan_159 f _ p j ⟨fun q => by omega, fun q => ⟨by omega, by omega, by omega, fun d => ⟨by omega, ?_⟩, fun d => ⟨by omega, by omega, ?_⟩⟩⟩
        · rw [eg] at d
          rw [(hz j d (by omega)).1] at step
          exact step
        · rw [eg] at d
          rw [fr1 148 j (by unfold p_rt; omega), hX j hj (by omega)]
          exact step
    exact main 3 0 M (by omega) (by omega) (by omega) (fun c a b => by omega) (fun _ _ _ => rfl)
  -- shifting
  have sh : ∀ (p : Int), 0 ≤ p → p ≤ n → (∀ k : Int, 0 ≤ k → k < p → p_lt (T k) e) → (∀ k : Int, p ≤ k → k < n → p_lt e (T k)) → ∀ (m : Nat) (i : Int) (M : xM), i - p ≤ m → p ≤ i → i ≤ n → (∀ k : Int, 0 ≤ k → k < i → p_rrow M f k (T k)) → (∀ k : Int, i < k → k ≤ n → p_rrow M f k (T (k - 1))) → M 149 f = n → (∀ a k, ¬ p_rt f a k → M a k = M0 a k) → x_Ev l E (3, 0, 0) m_X11_takesPlan 62 [(21, 103), (0, f), (1, e 3), (5, 0), (0, p), (0, i), (5, 0)] [] M Q := by
    intro p hp hp2 l1 l2 m
    induction m with
    | zero =>
      intro i M hm hi hi2 r1 r2 r3 r4
      have ei : i = p := by omega
      subst ei
      exact u_X11_takesPlan_62 f _ i i ⟨fun q => wr i M hp hp2 l1 l2 r1 r2 r3 r4, fun q => absurd (Int.le_refl _) q⟩
    | succ m ih =>
      intro i M hm hi hi2 r1 r2 r3 r4
      by_cases hip : i = p
      · exact ih i M (by omega) hi hi2 r1 r2 r3 r4
      refine u_X11_takesPlan_62 f _ p i ⟨fun q => by omega, fun q => ?_⟩
      have q0 := r1 (i - 1) (by omega) (by omega)
      have inner : ∀ (m' : Nat) (j : Int) (M1 : xM), 3 - j ≤ m' → 0 ≤ j → j ≤ 3 → (∀ c, 0 ≤ c → c < j → M1 (152 + 41 * f + i) c = T (i - 1) c) → (∀ a k, ¬ (a = 152 + 41 * f + i) → M1 a k = M a k) → x_Ev l E (3, 0, 0) m_X11_takesPlan 72 [(21, 103), (0, f), (1, e 3), (5, 0), (0, p), (0, i), (0, j)] [] M1 Q := by
        intro m'
        induction m' with
        | zero =>
          intro j M1 hm' hj hj2 g1 g2
          refine u_X11_takesPlan_72 f _ p i j ⟨fun q => ?_, fun q => by omega⟩
          rw [x_w_id (x := i - 1) (by omega) (by omega), show 274 + 1 + 1 * f = 275 + f by omega, show 278 + 1 + 1 * f = 279 + f by omega]
          refine ⟨by omega, by omega, by omega, by omega, ?_⟩
          intro M2 hM2
          refine ⟨by omega, by omega, by omega, by omega, ?_⟩
          intro M3 hM3 v hv
          rw [x_w_id (by omega) (by omega)] at hv
          subst hv
          have a1 : ∀ a, 152 + 41 * f ≤ a → a < 192 + 41 * f → M3 a = M1 a := fun a q1 q2 => by rw [hM3, x_wr_fr _ _ _ (by omega), hM2, x_wr_fr _ _ _ (by omega)]
          have a2 : ∀ k, M3 (275 + f) k = if k = i then M (275 + f) (i - 1) else M (275 + f) k := by
            intro k
            rw [hM3, x_wr_fr _ _ _ (by omega), hM2]
            by_cases c : k = i
            · rw [c, x_wr_eq, if_pos rfl, g2 _ _ (by omega)]
            · rw [x_wr_ne _ _ (by omega), if_neg c]; exact g2 _ _ (by omega)
          have a3 : ∀ k, M3 (279 + f) k = if k = i then M (279 + f) (i - 1) else M (279 + f) k := by
            intro k
            rw [hM3]
            by_cases c : k = i
            · rw [c, x_wr_eq, if_pos rfl, hM2, x_wr_fr _ _ _ (by omega), g2 _ _ (by omega)]
            · rw [x_wr_ne _ _ (by omega), if_neg c, hM2, x_wr_fr _ _ _ (by omega)]; exact g2 _ _ (by omega)
          have out : ∀ k : Int, 0 ≤ k → k < 40 → k ≠ i → ∀ {t}, p_rrow M f k t → p_rrow M3 f k t := by
            intro k k1 k2 c t q
            refine ⟨fun c' c1 c2 => ?_, ?_, ?_⟩
            · rw [a1 _ (by omega) (by omega), g2 _ _ (by omega)]; exact q.1 c' c1 c2
            · rw [a2, if_neg c]; exact q.2.1
            · rw [a3, if_neg c]; exact q.2.2
          refine ih (i + -1) M3 (by omega) (by omega) (by omega) (fun k k1 k2 => out k k1 (by omega) (by omega) (r1 k k1 (by omega))) (fun k k1 k2 => ?_) ?_ (fun a k q => ?_)
          · by_cases c : k = i
            · rw [c]
              refine ⟨fun c' c1 c2 => ?_, ?_, ?_⟩
              · rw [a1 _ (by omega) (by omega)]; exact g1 c' c1 (by omega)
              · rw [a2, if_pos rfl]; exact q0.2.1
              · rw [a3, if_pos rfl]; exact q0.2.2
            · exact out k (by omega) (by omega) c (r2 k (by omega) k2)
          · rw [hM3, x_wr_fr _ _ _ (by omega), hM2, x_wr_fr _ _ _ (by omega), g2 _ _ (by omega)]; exact r3
          · have q' := q
            unfold p_rt at q
            rw [hM3, x_wr_fr _ _ _ (by omega), hM2, x_wr_fr _ _ _ (by omega), g2 _ _ (by omega)]; exact r4 a k q'
        | succ m' im =>
          intro j M1 hm' hj hj2 g1 g2
          by_cases hj3 : j = 3
          · exact im j M1 (by omega) hj hj2 g1 g2
          refine u_X11_takesPlan_72 f _ p i j ⟨fun q => by omega, fun q => ?_⟩
          rw [x_w_id (x := i - 1) (by omega) (by omega), show (150 + 1 + 41 * f) + 1 + 1 * i = 152 + 41 * f + i by omega, show (150 + 1 + 41 * f) + 1 + 1 * (i - 1) = 152 + 41 * f + (i - 1) by omega, g2 (152 + 41 * f + (i - 1)) j (by omega), q0.1 j hj (by omega)]
          refine ⟨by omega, by omega, by omega, by omega, by omega, by omega, ?_⟩
          intro M2 hM2 v hv
          rw [x_w_id (by omega) (by omega)] at hv
          subst hv hM2
          refine im (j + 1) _ (by omega) (by omega) (by omega) (fun c c1 c2 => ?_) (fun a k q => ?_)
          · by_cases q : c = j
            · rw [q, x_wr_eq]
            · rw [x_wr_ne _ _ (by omega)]; exact g1 c c1 (by omega)
          · rw [x_wr_ne _ _ (by omega)]; exact g2 a k q
      exact inner 3 0 M (by omega) (by omega) (by omega) (fun c a b => by omega) (fun _ _ _ => rfl)
  -- looking for the place
  have main : ∀ (m : Nat) (p : Int), n - p ≤ m → 0 ≤ p → p ≤ n → (∀ k : Int, 0 ≤ k → k < p → p_lt (T k) e) → x_Ev l E (3, 0, 0) m_X11_takesPlan 3 [(21, 103), (0, f), (1, e 3), (5, 0), (0, p), (5, 0), (5, 0)] [] M0 Q := by
    have go : ∀ (p : Int), 0 ≤ p → p ≤ n → (∀ k : Int, 0 ≤ k → k < p → p_lt (T k) e) → (∀ k : Int, p ≤ k → k < n → p_lt e (T k)) → ∀ zv : Int, zv = M0 149 f → x_Ev l E (3, 0, 0) m_X11_takesPlan 62 [(21, 103), (0, f), (1, e 3), (5, 0), (0, p), (0, zv), (5, 0)] [] M0 Q := by
      intro p hp hp2 l1 l2 v hv
      rw [ht.1] at hv
      subst hv
      exact sh p hp hp2 l1 l2 n n M0 (by omega) (by omega) (by omega) (fun k a b => ht.2 k a b) (fun k a b => by omega) ht.1 (fun _ _ _ => rfl)
    intro m
    induction m with
    | zero =>
      intro p hm hp hp2 hx
      refine u_X11_takesPlan_3 f _ p ⟨by omega, fun q => ⟨by omega, fun q2 => ⟨by omega, go p hp hp2 hx (fun k a b => by omega)⟩, fun q2 => absurd q q2⟩, fun q => absurd (by rw [ht.1]; omega) q⟩
    | succ m ih =>
      intro p hm hp hp2 hx
      by_cases hpn : p = n
      · exact ih p (by omega) hp hp2 hx
      refine u_X11_takesPlan_3 f _ p ⟨by omega, fun q => by rw [ht.1] at q; omega, fun q => ?_⟩
      have ez : ∀ c, F 0 2 ≤ c → c < 3 → e c = 0 ∧ T p c = 0 := fun c c1 c2 => ⟨(hz c c1 c2).1, (hz c c1 c2).2 p hp (by omega)⟩
      refine c_order hf hF hR.2.2.1 (by omega) he (heT p hp (by omega)) ez hX (ht.2 p hp (by omega)) (fun d => ⟨_, rfl, fun z => absurd z (by omega), fun _ => ?_⟩) (fun d => ⟨_, rfl, fun _ => ⟨by omega, fun z => by rw [ht.1] at z; omega, fun z => ?_⟩, fun z => absurd (show (-1 : Int) ≤ 0 by omega) z⟩) (fun d => ⟨_, rfl, fun _ => ⟨by omega, fun z => by rw [ht.1] at z; omega, fun z => ?_⟩, fun z => absurd (show (0 : Int) ≤ 0 by omega) z⟩)
      · intro v hv
        rw [x_w_id (by omega) (by omega)] at hv
        subst hv
        refine ih (p + 1) (by omega) (by omega) (by omega) (fun k a b => ?_)
        by_cases c : k = p
        · rw [c]; exact d
        · exact hx k a (by omega)
      · refine c_order hf hF hR.2.2.1 (by omega) he (heT p hp (by omega)) ez hX (ht.2 p hp (by omega)) (fun d2 => absurd (p_lt_tr (heT p hp (by omega)).2.1 he.2.1 (heT p hp (by omega)).2.1 d2 d) p_lt_ir) (fun d2 => ⟨_, rfl, fun _ => ⟨by omega, go p hp hp2 hx (fun k a b => ?_)⟩, fun z => absurd z (by omega)⟩) (fun d2 => by unfold p_lt at d; omega)
        by_cases c : k = p
        · rw [c]; exact d
        · exact p_lt_tr he.2.1 (heT p hp (by omega)).2.1 (heT k (by omega) b).2.1 d (hsort p k hp (by omega) b)
      · refine c_order hf hF hR.2.2.1 (by omega) he (heT p hp (by omega)) ez hX (ht.2 p hp (by omega)) (fun d2 => by unfold p_lt at d2; omega) (fun d2 => by unfold p_lt at d2; omega) (fun d2 => ⟨_, rfl, fun z => absurd rfl z, fun _ => hold ⟨p, hp, by omega, d⟩⟩)
  exact u_X11_takesPlan_0 f _ (main n 0 (by omega) (by omega) (by omega) (fun k a b => by omega))
/-- what the reference's search of plans of a follower may change -/
def p_rp1 (f : Int) (M M1 : xM) : Prop := ∀ a k, ¬ (a = 103 ∧ k = 17) → ¬ (143 ≤ a ∧ a ≤ 148) → ¬ p_rt f a k → M1 a k = M a k
theorem c_Rplans (H10 : p_ten) {f : Int} (hf : 0 ≤ f ∧ f < 3) {M0 : xM} {F : xM} (hF : p_wf F) (hR : p_RF M0 f F) (h : ∀ M1 : xM, p_rtab M1 f (p_n F) (p_TT F) → p_rp1 f M0 M1 → Q none M1) : x_Ev l E (9, 0, 0) m_X11_plans 0 [(21, 103), (0, f), (5, 0), (5, 0), (5, 0)] [] M0 Q := by
  have hpr := p_pr_le hF
  have hg := hF.2.2.1
  have hr := hF.2.2.2.1
  obtain ⟨G, hG⟩ : ∃ G : Nat, F 0 2 = G := ⟨(F 0 2).toNat, by omega⟩
  have rf : ∀ {M : xM}, p_rp1 f M0 M → p_RF M f F := fun q => p_RF_fr hf hF hR (fun a a1 a2 => by funext k; exact q a k (by omega) (by omega) (by unfold p_rt; omega))
  have main : ∀ (m s : Nat) (M : xM), 2 ^ p_pr F - s ≤ m → s ≤ 2 ^ p_pr F → p_rtab M f (p_T F s).1 (p_T F s).2 → p_rp1 f M0 M → x_Ev l E (9, 0, 0) m_X11_plans 9 [(21, 103), (0, f), (0, (s : Int)), (5, 0), (5, 0)] [] M Q := by
    intro m
    induction m with
    | zero =>
      intro s M hm hs ht hfr
      have es : s = 2 ^ p_pr F := by omega
      refine u_X11_plans_9 f s (c_Rpairs hf hF (rf hfr) ⟨_, rfl, fun q => ?_, fun q => ?_⟩)
      · rw [es] at ht
        exact h M ht hfr
      · rw [x_shl (by omega)] at q
        omega
    | succ m ih =>
      intro s M hm hs ht hfr
      by_cases hsp : s = 2 ^ p_pr F
      · exact ih s M (by omega) hs ht hfr
      have len := H10 F hF s hs
      have skip : ∀ M' : xM, ¬ p_new F s (p_T F s) → p_rtab M' f (p_T F s).1 (p_T F s).2 → p_rp1 f M0 M' → ∀ zv : Int, zv = x_w ((s : Int) + 1) → x_Ev l E (9, 0, 0) m_X11_plans 9 [(21, 103), (0, f), (0, zv), (5, 0), (5, 0)] [] M' Q := by
        intro M' hn ht' hfr' v hv
        rw [x_w_id (by omega) (by omega)] at hv
        subst hv
        have e : p_T F (s + 1) = p_T F s := by
          show p_if _ _ _ = _
          rw [p_if_f hn]
        exact ih (s + 1) M' (by omega) (by omega) (by rw [e]; exact ht') hfr'
      refine u_X11_plans_9 f s (c_Rpairs hf hF (rf hfr) ⟨_, rfl, fun q => ?_, fun q => ?_⟩)
      · rw [x_shl (by omega)] at q
        omega
      refine c_bitCount s (by omega) ⟨_, rfl, by omega, ?_⟩
      rw [(rf hfr).2.2.1]
      refine ⟨fun d => ?_, fun d => skip M (fun w => d w.1.1) ht hfr⟩
      have hGp : x_cn s 7 = G := by omega
      refine c_laysPrimal hf hF (rf hfr) (by omega) hG hGp (fun M1 q1 q2 q3 q4 => ⟨rfl, ?_⟩)
      have fr1 : p_rp1 f M0 M1 := fun a k w1 w2 w3 => (q4 a k w1 w2).trans (hfr a k w1 w2 w3)
      have ht1 : p_rtab M1 f (p_T F s).1 (p_T F s).2 := p_rtab_fr (by omega) (fun a k w => q4 a k (by unfold p_rt at w; omega) (by unfold p_rt at w; omega)) ht
      have bC := p_C_d (p_C_bd hF (s := s) (by omega) d)
      have eD : p_det (p_M F s) G = p_d3 (p_C F s) := p_M_d3 hF s hG
      have eDc : ∀ c : Nat, c < G → p_det (p_rp (p_M F s) (p_MR F s) c) G = p_d3 (p_rc (p_C F s) (p_R F s) c) := fun c hc => p_M_rc hF s hG (by omega) (by omega)
      have bR := p_R_bd hF (s := s)
      refine c_solves (C := p_M F s) (R := p_MR F s) (n := G) (by omega) q1 q2 q3 (by rw [eD]; omega) (fun c hc => ?_) ?_ ?_
      · rw [eDc c hc]
        have := p_rc_bd (B := 20) (R := p_R F s) (p_C_bd hF (s := s) (by omega) d) (fun k k1 k2 => by have := bR k k1 k2; omega) (c := c) (by omega) (by omega)
        omega
      · rw [eD]
        intro hd
        exact ⟨_, rfl, fun _ => skip M1 (fun w => w.1.2.1 hd) ht1 fr1, fun z => absurd rfl z⟩
      · rw [eD]
        intro hd M2 g1 g2
        have hbp := p_b_pos hd
        have x2 : ∀ c, 0 ≤ c → c < F 0 2 → M2 148 c = p_x (p_C F s) (p_R F s) c := by
          intro c c1 c2
          have := g1 c.toNat (by omega)
          rw [show ((c.toNat : Nat) : Int) = c by omega] at this
          rw [this]
          have e2 := eDc c.toNat (by omega)
          rw [show ((c.toNat : Nat) : Int) = c by omega] at e2
          rw [e2]
          rfl
        have fr2 : p_rp1 f M0 M2 := fun a k w1 w2 w3 => by rw [g2 a (by omega)]; exact fr1 a k w1 w2 w3
        have ht2 : p_rtab M2 f (p_T F s).1 (p_T F s).2 := p_rtab_fr (by omega) (fun a k w => by rw [g2 a (by unfold p_rt at w; omega)]) ht1
        have bX := p_x_bd hF (s := s) (by omega) d
        have bb := (p_en_eb hF (s := s) (by omega) d hd).2
        rw [p_en_3] at bb
        refine ⟨_, rfl, fun z => absurd z (by unfold p_b at hbp; omega), fun _ => ?_⟩
        refine c_mayChoose hf hF (rf fr2) (fun c c1 c2 => by rw [x2 c c1 c2]; exact bX c c1 (by omega)) bb ?_ ?_
        · rw [p_may_cgg x2]
          intro hmay
          have hok : p_ok F s := ⟨d, hd, hmay⟩
          refine ⟨_, rfl, fun z => absurd z (by omega), fun _ => ?_⟩
          have he3 : p_d3 (p_C F s) * p_sg (p_d3 (p_C F s)) = p_en F s 3 := (p_en_3 F s).symm
          rw [he3]
          refine c_takesPlan hf hF (rf fr2) (n := (p_T F s).1) (by omega) ht2 (p_en_eb hF (by omega) d hd) (fun k a b => (p_TT_eb hF hs k a b).1) (fun c c1 c2 => ⟨p_en_hi hF s c c1 c2, fun k a b => (p_TT_eb hF hs k a b).2 c c1 c2⟩) (fun c c1 c2 => by rw [x2 c c1 c2, p_en_lo F s c (by omega)]) ?_ (p_T_inv hF s hs).2 ?_ ?_
          · rw [p_en_4, p_en_3]
            congr 1
            exact p_tS_cg hF (fun c c1 c2 => (p_en_lo F s c c2).symm)
          · intro ⟨k, k1, k2, k3⟩
            refine ⟨rfl, skip M2 (fun w => ?_) ht2 fr2⟩
            obtain ⟨s', w1, w2, w3⟩ := (p_T_inv hF s hs).1 k k1 k2
            have nn := w.2 k k1 k2
            rw [w3] at nn k3
            rcases p_ne hF (by omega) (by omega) hok w2 nn with z | z
            · unfold p_lt at z; omega
            · unfold p_lt at z; omega
          · intro hall M3 r1 r2
            have hnew : p_new F s (p_T F s) := by
              refine ⟨hok, fun k k1 k2 q => ?_⟩
              obtain ⟨s', w1, w2, w3⟩ := (p_T_inv hF s hs).1 k k1 k2
              have hu := p_uniq hF (s := s) (by omega) d hd (X' := p_x (p_C F s') (p_R F s')) (b' := p_b (p_C F s')) (p_x_hi hF s') (by
                rw [w3, p_en_4, p_en_4] at q
                omega)
              have hv : p_v (p_en F s) * p_en F s' 3 = p_v (p_en F s') * p_en F s 3 := by
                have u0 := hu 0 (by omega) (by omega)
                have u1 := hu 1 (by omega) (by omega)
                have u2 := hu 2 (by omega) (by omega)
                unfold p_v
                rw [p_en_lo F s 0 (by omega), p_en_lo F s 1 (by omega), p_en_lo F s 2 (by omega), p_en_lo F s' 0 (by omega), p_en_lo F s' 1 (by omega), p_en_lo F s' 2 (by omega), p_en_3, p_en_3]
                grind
              have hh := hall k k1 k2
              rw [w3] at hh
              unfold p_lt at hh
              omega
            have e1 : p_T F (s + 1) = ((p_T F s).1 + 1, p_put (p_T F s).2 (p_pos (p_T F s).2 (p_en F s) (p_T F s).1) (p_en F s)) := by
              show p_if _ _ _ = _
              rw [p_if_t hnew]
            refine ⟨rfl, ?_⟩
            intro v hv
            rw [x_w_id (by omega) (by omega)] at hv
            subst hv
            exact ih (s + 1) M3 (by omega) (by omega) (by rw [e1]; exact r1) (fun a k w1 w2 w3 => (r2 a k w3).trans (fr2 a k w1 w2 w3))
        · rw [p_may_cgg x2]
          intro hmay
          exact ⟨_, rfl, fun _ => skip M2 (fun w => hmay w.1.2.2) ht2 fr2, fun z => absurd rfl z⟩
  refine u_X11_plans_0 f ⟨by omega, ?_⟩
  intro M1 hM1
  subst hM1
  have e0 : p_T F 1 = p_T F 0 := by
    show p_if _ _ _ = _
    refine p_if_f (fun w => ?_) _ _
    have w1 : ((x_cn 0 7 : Nat) : Int) = F 0 2 := w.1.1
    have : x_cn 0 7 = 0 := by decide
    omega
  have h2 : 1 ≤ 2 ^ p_pr F := Nat.one_le_two_pow
  refine main (2 ^ p_pr F) 1 _ (by omega) h2 ?_ (fun a k w1 w2 w3 => x_wr_ne _ _ (by unfold p_rt at w3; omega))
  rw [e0]
  refine ⟨x_wr_eq .., fun k a b => ?_⟩
  have : k < ((0 : Nat) : Int) := b
  omega
end RT
