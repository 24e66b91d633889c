/-! The reference's answers -/
section RA
variable {l : Launch} {E : xE} {Q : Option xV → xM → Prop}
theorem c_Rtimes {f : Int} (hf : 0 ≤ f ∧ f < 3) {M : xM} {F : xM} (hF : p_wf F) (hR : p_RF M f F) {k w : Int} (hk : 0 ≤ k ∧ k < 40) (hw : 0 ≤ w ∧ w < 3) {e : Int → Int} (he : p_eb e) (hr : p_rrow M f k e) (h : Q (some (1, p_tr F e w)) M) : x_Ev l E (1, 0, 0) m_X11_times 0 [(21, 103), (0, f), (0, k), (0, w), (5, 0), (5, 0), (5, 0)] [] M Q := by
  have hg := hF.2.2.1
  have ht := hF.2.2.2.2.1
  obtain ⟨G, hG⟩ : ∃ G : Nat, F 0 2 = G := ⟨(F 0 2).toNat, by omega⟩
  have hB : ∀ j : Nat, j ≤ G → -(j * 21600 : Int) ≤ x_sm (fun g => e g * F 1 (3 * w + g)) j ∧ x_sm (fun g => e g * F 1 (3 * w + g)) j ≤ j * 21600 := by
    intro j hj
    refine x_sm_bd j (fun g g1 g2 => ?_)
    have hh := ht g g1 (by omega)
    refine x_mb (A := 1080) (B := 20) (he.1 g g1 (by omega)) ?_
    have : w = 0 ∨ w = 1 ∨ w = 2 := by omega
    rcases this with q | q | q
    · subst q; rw [show 3 * 0 + g = g by omega]; omega
    · subst q; rw [show 3 * 1 + g = 3 + g by omega]; omega
    · subst q; rw [show 3 * 2 + g = 6 + g by omega]; omega
  have main : ∀ (m j : Nat), G - j ≤ m → j ≤ G → x_Ev l E (1, 0, 0) m_X11_times 6 [(21, 103), (0, f), (0, k), (0, w), (1, x_sm (fun g => e g * F 1 (3 * w + g)) j), (5, 0), (0, (j : Int))] [] M Q := by
    intro m
    induction m with
    | zero =>
      intro j hm hj
      have ej : j = G := by omega
      refine u_X11_times_6 f k w _ j ⟨by omega, fun q => ?_, fun q => absurd (by rw [hR.2.2.1]; omega) q⟩
      unfold p_tr at h
      rw [hG, Int.toNat_natCast, ← ej] at h
      exact h
    | succ m ih =>
      intro j hm hj
      by_cases hjG : j = G
      · exact ih j (by omega) hj
      refine u_X11_times_6 f k w _ j ⟨by omega, fun q => by rw [hR.2.2.1] at q; omega, fun q => ⟨by omega, by omega, by omega, by omega, by omega, by omega, ?_⟩⟩
      rw [show (150 + 1 + 41 * f) + 1 + 1 * k = 152 + 41 * f + k by omega, hr.1 j (by omega) (by omega), show (108 + 1 + 4 * f) + 1 + 1 * w = 110 + 4 * f + w by omega, hR.2.2.2.2.1 w j (by omega) (by omega) (by omega) (by omega)]
      intro v hv v2 hv2
      have b1 := hB (j + 1) (by omega)
      rw [x_W_a2] at hv
      rw [x_w_id (by omega) (by omega)] at hv2
      have ev : v = x_sm (fun g => e g * F 1 (3 * w + g)) (j + 1) := by
        rw [hv]
        exact x_W_id (x := x_sm (fun g => e g * F 1 (3 * w + g)) (j + 1)) (by omega) (by omega)
      subst ev hv2
      exact ih (j + 1) (by omega) (by omega)
  exact u_X11_times_0 f k w (main G 0 (by omega) (by omega))
theorem c_Rtwice {f : Int} (hf : 0 ≤ f ∧ f < 3) {M : xM} {F : xM} (hR : M 104 f = F 0 0) (h : Q (some (0, p_tw F)) M) : x_Ev l E (1, 0, 0) m_X11_twice 0 [(21, 103), (0, f)] [] M Q := by
  unfold p_tw at h
  refine u_X11_twice_0 f ⟨by omega, fun c => ?_, fun c => ⟨by omega, fun d => ?_, fun d => ?_⟩⟩
  · rw [hR] at c; rw [if_pos (Or.inl c)] at h; exact h
  · rw [hR] at c d; rw [if_neg (by omega)] at h; exact h
  · rw [hR] at d; rw [if_pos (Or.inr d)] at h; exact h
theorem c_Rmore {f : Int} (hf : 0 ≤ f ∧ f < 3) {M : xM} {F : xM} (hR : M 104 f = F 0 0) (hR1 : M 105 f = F 0 1) (h : Q (some (0, p_ex F)) M) : x_Ev l E (1, 0, 0) m_X11_more 0 [(21, 103), (0, f)] [] M Q := by
  unfold p_ex at h
  rw [← hR1] at h
  refine u_X11_more_0 f ⟨by omega, fun c => ⟨by omega, ?_⟩, fun c => ⟨by omega, fun d => ?_, fun d => ⟨by omega, ?_⟩⟩⟩
  · rw [hR] at c; rw [if_pos (Or.inl c)] at h; exact h
  · rw [hR] at c d; rw [if_neg (by omega)] at h; exact h
  · rw [hR] at d; rw [if_pos (Or.inr d)] at h; exact h
theorem c_Rnet {f : Int} (hf : 0 ≤ f ∧ f < 3) {M : xM} {F : xM} (hF : p_wf F) (hR : p_RF M f F) {k p q : Int} (hk : 0 ≤ k ∧ k < 40) {e : Int → Int} (he : p_eb e) (hr : p_rrow M f k e) (hpq : p_tm p q) (h : Q (some (1, p_net F e p q)) M) : x_Ev l E (2, 0, 0) m_X11_net 0 [(21, 103), (0, f), (0, k), (1, p), (5, 0), (1, q), (5, 0)] [] M Q := by
  have hb := p_net_bd hF he hpq
  refine u_X11_net_0 f k p q (c_Rtimes hf hF hR hk (by omega) he hr ⟨_, rfl, c_Rtwice hf hR.1 ⟨_, rfl, c_Rmore hf hR.1 hR.2.1 ⟨_, rfl, c_Rtimes hf hF hR hk (by omega) he hr ⟨_, rfl, ?_⟩⟩⟩⟩)
  rw [x_W_s1, x_W_s2, x_W_a1, x_W_a2]
  have : x_W (x_W (p_tw F * p + p_ex F * q) * p_tr F e 1) = x_W (p_fe F p q * p_tr F e 1) := by rw [x_W_m1]; rfl
  have e2 : x_W (p_tr F e 0 * q - x_W (p_tw F * p + p_ex F * q) * p_tr F e 1) = p_net F e p q := by
    rw [← x_W_s2, x_W_m1, x_W_s2]
    exact x_W_id (x := p_net F e p q) (by omega) (by omega)
  rw [e2]
  exact h
theorem c_Rgain {f : Int} (hf : 0 ≤ f ∧ f < 3) {M : xM} {F : xM} (hF : p_wf F) (hR : p_RF M f F) {k p q : Int} (hk : 0 ≤ k ∧ k < 40) {e : Int → Int} (he : p_eb e) (hr : p_rrow M f k e) (hpq : p_tm p q) (h : Q (some (1, p_gn F e p q)) M) : x_Ev l E (2, 0, 0) m_X11_gain 0 [(21, 103), (0, f), (0, k), (1, p), (5, 0), (1, q), (5, 0)] [] M Q := by
  have hb := p_gn_bd hF he hpq
  refine u_X11_gain_0 f k p q (c_Rtimes hf hF hR hk (by omega) he hr ⟨_, rfl, c_Rtimes hf hF hR hk (by omega) he hr ⟨_, rfl, ?_⟩⟩)
  rw [x_W_a1, x_W_a2]
  have e2 : x_W (p_tr F e 1 * p + p_tr F e 2 * q) = p_gn F e p q := x_W_id (x := p_gn F e p q) (by omega) (by omega)
  rw [e2]
  exact h
/-- the reference has a follower and its plans -/
def p_RS (M : xM) (f : Int) (F : xM) (n : Nat) (T : Int → Int → Int) : Prop := p_RF M f F ∧ p_rtab M f n T ∧ 1 ≤ n ∧ n ≤ 10 ∧ ∀ k : Int, 0 ≤ k → k < n → p_eb (T k)
theorem c_bestPlans {f : Int} (hf : 0 ≤ f ∧ f < 3) {M : xM} {F : xM} (hF : p_wf F) {n : Nat} {T : Int → Int → Int} (hS : p_RS M f F n T) {p q : Int} (hpq : p_tm p q) (h : Q (some (0, (x_set (p_bst F T n p q) n : Int))) M) : x_Ev l E (3, 0, 0) m_X11_bestPlans 0 [(21, 103), (0, f), (1, p), (5, 0), (1, q), (5, 0), (5, 0), (5, 0), (5, 0), (5, 0), (5, 0)] [] M Q := by
  obtain ⟨hR, ht, hn1, hn, heT⟩ := hS
  obtain ⟨y, hy⟩ := p_emb (fun k => p_net F (T k) p q) (fun k => T k 3) n (fun k a b => (heT k a b).2.1)
  have main : ∀ (m : Nat) (k : Nat) (top : Int), n - k ≤ m → k ≤ n → ((k = 0 ∧ top = 0) ∨ (0 ≤ top ∧ top < k ∧ ∀ j : Int, 0 ≤ j → j < k → y j ≤ y top)) → x_Ev l E (3, 0, 0) m_X11_bestPlans 9 [(21, 103), (0, f), (1, p), (5, 0), (1, q), (5, 0), (0, (x_set (fun j => decide (∀ i : Nat, i < k → y i ≤ y j)) k : Int)), (0, top), (0, (k : Int)), (5, 0), (5, 0)] [] M Q := by
    intro m
    induction m with
    | zero =>
      intro k top hm hk ht0
      have ek : k = n := by omega
      subst ek
      refine u_X11_bestPlans_9 f p q _ top k ⟨by omega, fun c => ?_, fun c => absurd (by rw [ht.1]; omega) c⟩
      have e : x_set (fun j => decide (∀ i : Nat, i < k → y i ≤ y j)) k = x_set (p_bst F T k p q) k := by
        refine x_set_cg _ (fun j hj => ?_)
        unfold p_bst
        refine decide_eq_decide.mpr ⟨fun w i hi => ?_, fun w i hi => ?_⟩
        · have := (hy j i (by omega) (by omega) (by omega) (by omega))
          have := w i hi
          omega
        · have := (hy j i (by omega) (by omega) (by omega) (by omega))
          have := w i hi
          omega
      rw [e]; exact h
    | succ m ih =>
      intro k top hm hk ht0
      by_cases hkn : k = n
      · exact ih k top (by omega) hk ht0
      have htop : 0 ≤ top ∧ top < n := by omega
      have ek := heT k (by omega) (by omega)
      have et := heT top htop.1 (by omega)
      have bn := p_net_bd hF ek hpq
      have bt := p_net_bd hF et hpq
      have rk := ht.2 k (by omega) (by omega)
      have rt := ht.2 top htop.1 (by omega)
      have lt2 : (2 : Nat) ^ k ≤ 2 ^ 9 := Nat.pow_le_pow_right (by omega) (by omega)
      have hlt := x_set_lt (fun j => decide (∀ i : Nat, i < k → y i ≤ y j)) k
      have c1 := hy k top (by omega) (by omega) htop.1 (by omega)
      have c2 := hy top k htop.1 (by omega) (by omega) (by omega)
      have ek2 := ek.2
      have et2 := et.2
      have p1 := x_mb (a := p_net F (T k) p q) (b := T top 3) (A := 4000000000000) (B := 162) (by omega) (by omega)
      have p2 := x_mb (a := p_net F (T top) p q) (b := T k 3) (A := 4000000000000) (B := 162) (by omega) (by omega)
      have newtop : (∀ j : Int, 0 ≤ j → j < k → y j < y k) → ∀ zv6 : Int, zv6 = x_ishl 1 k → ∀ zv7 : Int, zv7 = x_w ((k : Int) + 1) → x_Ev l E (3, 0, 0) m_X11_bestPlans 9 [(21, 103), (0, f), (1, p), (5, 0), (1, q), (5, 0), (0, zv6), (0, (k : Int)), (0, zv7), (5, 0), (5, 0)] [] M Q := by
        intro hl v hv v2 hv2
        rw [x_shl (by omega)] at hv
        rw [x_w_id (by omega) (by omega)] at hv2
        subst hv hv2
        have := ih (k + 1) k (by omega) (by omega) (Or.inr ⟨by omega, by omega, fun j j1 j2 => by
          by_cases e : j = k
          · rw [e]; omega
          · have := hl j j1 (by omega)
            omega⟩)
        unfold x_set at this
        rw [x_set_no k (fun i hi => decide_eq_false (fun w => by
          have := w k (by omega)
          have := hl i (by omega) (by omega)
          omega)), if_pos (decide_eq_true (fun i hi => by
          by_cases e : i = k
          · rw [e]; omega
          · have := hl i (by omega) (by omega)
            omega)), Nat.zero_add] at this
        exact this
      refine u_X11_bestPlans_9 f p q _ top k ⟨by omega, fun c => by rw [ht.1] at c; omega, fun c => ?_⟩
      refine c_Rnet hf hF hR (by omega) ek rk hpq ⟨_, rfl, by omega, by omega, c_Rnet hf hF hR (by omega) et rt hpq ⟨_, rfl, by omega, by omega, ?_⟩⟩
      rw [show 274 + 1 + 1 * f = 275 + f by omega, rt.2.1, rk.2.1, x_W_s1, x_W_s2, x_W_id (by omega) (by omega)]
      intro v5 hv5
      have hv6 : (v5 < 0 ↔ y k < y top) ∧ (0 < v5 ↔ y top < y k) := by rw [← c1, ← c2]; omega
      clear c1 c2 hv5 p1 p2
      refine ⟨fun k0 => newtop (fun j j1 j2 => by omega), fun k0 => ?_⟩
      obtain ⟨t0, t1, t2⟩ := ht0.resolve_left (by omega)
      refine ⟨fun d => ⟨fun d2 => ?_, fun d2 => ?_⟩, fun d => newtop (fun j j1 j2 => by have := t2 j j1 j2; omega)⟩
      · intro v hv
        rw [x_w_id (by omega) (by omega)] at hv
        subst hv
        have := ih (k + 1) top (by omega) (by omega) (Or.inr ⟨t0, by omega, fun j j1 j2 => by
          by_cases e : j = k
          · rw [e]; omega
          · exact t2 j j1 (by omega)⟩)
        have e2 : x_set (fun j => decide (∀ i : Nat, i < k + 1 → y i ≤ y j)) (k + 1) = x_set (fun j => decide (∀ i : Nat, i < k → y i ≤ y j)) k := by
          show x_set _ k + (if _ then _ else _) = _
          rw [if_neg (by
            intro w
            have := of_decide_eq_true w top.toNat (by omega)
            rw [show ((top.toNat : Nat) : Int) = top by omega] at this
            omega), Nat.add_zero]
          refine x_set_cg _ (fun j hj => decide_eq_decide.mpr ⟨fun w i hi => w i (by omega), fun w i hi => ?_⟩)
          by_cases e : i = k
          · have := w top.toNat (by omega)
            rw [show ((top.toNat : Nat) : Int) = top by omega] at this
            rw [e]; omega
          · exact w i (by omega)
        rw [e2] at this
        exact this
      · intro v9 hv9 v hv
        rw [x_or (by omega) hlt] at hv9
        rw [x_w_id (by omega) (by omega)] at hv
        subst hv hv9
        have := ih (k + 1) top (by omega) (by omega) (Or.inr ⟨t0, by omega, fun j j1 j2 => by
          by_cases e : j = k
          · rw [e]; omega
          · exact t2 j j1 (by omega)⟩)
        have e2 : x_set (fun j => decide (∀ i : Nat, i < k + 1 → y i ≤ y j)) (k + 1) = x_set (fun j => decide (∀ i : Nat, i < k → y i ≤ y j)) k + 2 ^ k := by
          show x_set _ k + (if _ then _ else _) = _
          rw [if_pos (decide_eq_true (fun i hi => by
            by_cases e : i = k
            · rw [e]; omega
            · have := t2 i (by omega) (by omega)
              omega))]
          congr 1
          refine x_set_cg _ (fun j hj => decide_eq_decide.mpr ⟨fun w i hi => w i (by omega), fun w i hi => ?_⟩)
          by_cases e : i = k
          · have := w top.toNat (by omega)
            rw [show ((top.toNat : Nat) : Int) = top by omega] at this
            rw [e]; omega
          · exact w i (by omega)
        rw [e2] at this
        exact this
  exact u_X11_bestPlans_0 f p q (main n 0 0 (by omega) (by omega) (Or.inl ⟨rfl, rfl⟩))
end RA
