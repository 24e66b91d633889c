/-! The reference's choice -/
section RC
variable {l : Launch} {E : xE} {Q : Option xV → xM → Prop}
theorem x_set_pos {S : Nat → Bool} {n k : Nat} (hk : k < n) (hS : S k = true) : 0 < x_set S n := by
  apply Classical.byContradiction
  intro h
  have e : x_set S n = 0 := by omega
  have b := x_set_bit S n k hk
  rw [e, hS, Nat.zero_div] at b
  exact absurd b (by decide)
theorem x_set_t {P : Nat → Bool} {n : Nat} (h : P n = true) : x_set P (n + 1) = x_set P n + 2 ^ n := by
  show x_set P n + (if P n then 2 ^ n else 0) = _
  rw [h]; rfl
theorem x_set_f {P : Nat → Bool} {n : Nat} (h : P n = false) : x_set P (n + 1) = x_set P n := by
  show x_set P n + (if P n then 2 ^ n else 0) = _
  rw [h]; rfl
theorem c_byTolls {f : Int} (hf : 0 ≤ f ∧ f < 3) {M : xM} {F : xM} (hF : p_wf F) {n : Nat} {T : Int → Int → Int} (hS : p_RS M f F n T) {S : Nat → Bool} {g : Int} {z : Int → Int} (hz : ∀ i j : Int, 0 ≤ i → i < n → 0 ≤ j → j < n → (z i < z j ↔ if g = 0 then p_tr F (T j) 1 * T i 3 < p_tr F (T i) 1 * T j 3 else p_tr F (T i) 1 * T j 3 < p_tr F (T j) 1 * T i 3)) (h : Q (some (0, (x_set (fun k => S k && decide (∀ j : Nat, j < n → S j = true → z j ≤ z k)) n : Int))) M) : x_Ev l E (2, 0, 0) m_X11_byTolls 0 [(21, 103), (0, f), (0, (x_set S n : Int)), (0, g), (5, 0), (5, 0), (5, 0), (5, 0), (5, 0)] [] M Q := by
  obtain ⟨hR, ht, hn1, hn, heT⟩ := hS
  have slt := x_set_lt S n
  have s10 : 2 ^ n ≤ 2 ^ 10 := Nat.pow_le_pow_right (by omega) hn
  have main : ∀ (m k : Nat) (one : Int), n - k ≤ m → k ≤ n → ((one = -1 ∧ ∀ j : Nat, j < k → S j = false) ∨ (0 ≤ one ∧ one < k ∧ S one.toNat = true ∧ ∀ j : Nat, j < k → S j = true → z j ≤ z one)) → x_Ev l E (2, 0, 0) m_X11_byTolls 9 [(21, 103), (0, f), (0, (x_set S n : Int)), (0, g), (0, (x_set (fun k' => S k' && decide (∀ j : Nat, j < k → S j = true → z j ≤ z k')) k : Int)), (0, one), (0, (k : Int)), (5, 0), (5, 0)] [] M Q := by
    intro m
    induction m with
    | zero =>
      intro k one hm hk ho
      have ek : k = n := by omega
      subst ek
      exact u_X11_byTolls_9 f _ g _ one k ⟨by omega, fun _ => h, fun c => absurd (by rw [ht.1]; omega) c⟩
    | succ m ih =>
      intro k one hm hk ho
      by_cases hkn : k = n
      · exact ih k one (by omega) hk ho
      have hlt := x_set_lt (fun k' => S k' && decide (∀ j : Nat, j < k → S j = true → z j ≤ z k')) k
      have lt2 : (2 : Nat) ^ k ≤ 2 ^ 9 := Nat.pow_le_pow_right (by omega) (by omega)
      have ek := heT k (by omega) (by omega)
      have rk := ht.2 k (by omega) (by omega)
      -- the next step's set
      have same : (S k = false ∨ ∃ o : Nat, o < k ∧ S o = true ∧ z k < z o) → x_set (fun k' => S k' && decide (∀ j : Nat, j < k + 1 → S j = true → z j ≤ z k')) (k + 1) = x_set (fun k' => S k' && decide (∀ j : Nat, j < k → S j = true → z j ≤ z k')) k := by
        intro hh
        have e1 : (S k && decide (∀ j : Nat, j < k + 1 → S j = true → z j ≤ z k)) = false := by
          rcases hh with w | ⟨o, o1, o2, o3⟩
          · rw [w, Bool.false_and]
          · rw [decide_eq_false (fun w => by have := w o (by omega) o2; omega), Bool.and_false]
        refine Eq.trans (x_set_f e1) ?_
        refine x_set_cg _ (fun j hj => ?_)
        congr 1
        refine decide_eq_decide.mpr ⟨fun w i hi si => w i (by omega) si, fun w i hi si => ?_⟩
        by_cases e : i = k
        · rcases hh with q | ⟨o, o1, o2, o3⟩
          · rw [e, q] at si; exact absurd si (by decide)
          · have := w o o1 o2
            rw [e]; omega
        · exact w i (by omega) si
      have plus : S k = true → (∃ o : Nat, o < k ∧ S o = true ∧ z k = z o ∧ ∀ j : Nat, j < k → S j = true → z j ≤ z o) → x_set (fun k' => S k' && decide (∀ j : Nat, j < k + 1 → S j = true → z j ≤ z k')) (k + 1) = x_set (fun k' => S k' && decide (∀ j : Nat, j < k → S j = true → z j ≤ z k')) k + 2 ^ k := by
        intro sk ⟨o, o1, o2, o3, o4⟩
        have e1 : (S k && decide (∀ j : Nat, j < k + 1 → S j = true → z j ≤ z k)) = true := by
          rw [sk, Bool.true_and]
          refine decide_eq_true (fun j hj sj => ?_)
          by_cases e : j = k
          · rw [e]; omega
          · have := o4 j (by omega) sj; omega
        refine Eq.trans (x_set_t e1) ?_
        congr 1
        refine x_set_cg _ (fun j hj => ?_)
        congr 1
        refine decide_eq_decide.mpr ⟨fun w i hi si => w i (by omega) si, fun w i hi si => ?_⟩
        by_cases e : i = k
        · have := w o o1 o2
          rw [e]; omega
        · exact w i (by omega) si
      have fresh : S k = true → (∀ j : Nat, j < k → S j = true → z j < z k) → x_set (fun k' => S k' && decide (∀ j : Nat, j < k + 1 → S j = true → z j ≤ z k')) (k + 1) = 2 ^ k := by
        intro sk hl
        have e1 : (S k && decide (∀ j : Nat, j < k + 1 → S j = true → z j ≤ z k)) = true := by
          rw [sk, Bool.true_and]
          refine decide_eq_true (fun j hj sj => ?_)
          by_cases e : j = k
          · rw [e]; omega
          · have := hl j (by omega) sj; omega
        refine Eq.trans (x_set_t e1) ?_
        rw [x_set_no k (fun i hi => ?_)]
        · exact Nat.zero_add _
        · show (S i && decide _) = false
          cases si : S i
          · rfl
          · rw [Bool.true_and]
            refine decide_eq_false (fun w => ?_)
            have := w k (by omega) sk
            have := hl i hi si
            omega
      have stepnew : S k = true → (∀ j : Nat, j < k → S j = true → z j < z k) → ∀ zv6 : Int, zv6 = x_ishl 1 k → ∀ zv7 : Int, zv7 = x_w ((k : Int) + 1) → x_Ev l E (2, 0, 0) m_X11_byTolls 9 [(21, 103), (0, f), (0, (x_set S n : Int)), (0, g), (0, zv6), (0, (k : Int)), (0, zv7), (5, 0), (5, 0)] [] M Q := by
        intro sk hl v hv v2 hv2
        rw [x_shl (by omega)] at hv
        rw [x_w_id (by omega) (by omega)] at hv2
        subst hv hv2
        have := ih (k + 1) k (by omega) (by omega) (Or.inr ⟨by omega, by omega, by rw [Int.toNat_natCast]; exact sk, fun j hj sj => by
          by_cases e : j = k
          · rw [e]; omega
          · have := hl j (by omega) sj; omega⟩)
        rw [fresh sk hl] at this
        exact this
      refine u_X11_byTolls_9 f _ g _ one k ⟨by omega, fun c => by rw [ht.1] at c; omega, fun c => ?_⟩
      rw [x_bit (by omega) (by omega), x_set_bit _ _ _ (by omega)]
      refine ⟨fun d => ?_, fun d => ?_⟩
      · have sk : S k = true := by
          cases e : S k
          · rw [e] at d; exact absurd rfl d
          · rfl
        refine ⟨fun o0 => ?_, fun o0 => stepnew sk (fun j hj sj => ?_)⟩
        · obtain ⟨o1, o2, o3, o4⟩ := ho.resolve_left (fun w => by omega)
          have eo := heT one o1 (by omega)
          have ro := ht.2 one o1 (by omega)
          have tk := p_tr1_bd hF ek
          have to := p_tr1_bd hF eo
          have ek2 := ek.2
          have eo2 := eo.2
          have m1 := x_mb (a := p_tr F (T k) 1) (b := T one 3) (A := 9720) (B := 162) (by omega) (by omega)
          have m2 := x_mb (a := p_tr F (T one) 1) (b := T k 3) (A := 9720) (B := 162) (by omega) (by omega)
          refine c_Rtimes hf hF hR (by omega) (by omega) ek rk ⟨_, rfl, by omega, by omega, c_Rtimes hf hF hR (by omega) (by omega) eo ro ⟨_, rfl, by omega, by omega, ?_⟩⟩
          rw [show 274 + 1 + 1 * f = 275 + f by omega, ro.2.1, rk.2.1, x_W_s1, x_W_s2, x_W_id (by omega) (by omega)]
          intro v5 hv5
          have z1 := hz k one (by omega) (by omega) o1 (by omega)
          have z2 := hz one k o1 (by omega) (by omega) (by omega)
          have ho' : (∃ o : Nat, o < k ∧ S o = true ∧ (o : Int) = one) := ⟨one.toNat, by omega, o3, by omega⟩
          obtain ⟨o, q1, q2, q3⟩ := ho'
          subst q3
          have stepskip : z k < z o → ∀ zv6 : Int, zv6 = x_w ((k : Int) + 1) → x_Ev l E (2, 0, 0) m_X11_byTolls 9 [(21, 103), (0, f), (0, (x_set S n : Int)), (0, g), (0, (x_set (fun k' => S k' && decide (∀ j : Nat, j < k → S j = true → z j ≤ z k')) k : Int)), (0, (o : Int)), (0, zv6), (5, 0), (5, 0)] [] M Q := by
            intro hl v hv
            rw [x_w_id (by omega) (by omega)] at hv
            subst hv
            have := ih (k + 1) o (by omega) (by omega) (Or.inr ⟨by omega, by omega, by rw [Int.toNat_natCast]; exact q2, fun j hj sj => by
              by_cases e : j = k
              · rw [e]; omega
              · exact o4 j (by omega) sj⟩)
            rw [same (Or.inr ⟨o, q1, q2, hl⟩)] at this
            exact this
          have stepadd : z k = z o → ∀ zv7 : Int, zv7 = (x_ior (x_set (fun k' => S k' && decide (∀ j : Nat, j < k → S j = true → z j ≤ z k')) k : Int) (x_ishl 1 k)) → ∀ zv8 : Int, zv8 = x_w ((k : Int) + 1) → x_Ev l E (2, 0, 0) m_X11_byTolls 9 [(21, 103), (0, f), (0, (x_set S n : Int)), (0, g), (0, zv7), (0, (o : Int)), (0, zv8), (5, 0), (5, 0)] [] M Q := by
            intro hl v hv v2 hv2
            rw [x_or (by omega) hlt] at hv
            rw [x_w_id (by omega) (by omega)] at hv2
            subst hv hv2
            have := ih (k + 1) o (by omega) (by omega) (Or.inr ⟨by omega, by omega, by rw [Int.toNat_natCast]; exact q2, fun j hj sj => by
              by_cases e : j = k
              · rw [e]; omega
              · exact o4 j (by omega) sj⟩)
            rw [plus sk ⟨o, q1, q2, hl, o4⟩] at this
            exact this
          have hnew : z o < z k → ∀ j : Nat, j < k → S j = true → z j < z k := fun hl j hj sj => by have := o4 j hj sj; omega
          refine ⟨fun g0 => ?_, fun g0 => ?_⟩
          · rw [if_pos g0] at z1 z2
            refine ⟨fun d1 => ⟨fun d2 => stepskip (z1.mpr (by omega)), fun d2 => stepadd (by
              have a1 : ¬ z k < z o := fun w => by have := z1.mp w; omega
              have a2 : ¬ z o < z k := fun w => by have := z2.mp w; omega
              omega)⟩, fun d1 => stepnew sk (hnew (z2.mpr (by omega)))⟩
          · rw [if_neg g0] at z1 z2
            refine ⟨fun d1 => ⟨fun d2 => stepskip (z1.mpr (by omega)), fun d2 => stepadd (by
              have a1 : ¬ z k < z o := fun w => by have := z1.mp w; omega
              have a2 : ¬ z o < z k := fun w => by have := z2.mp w; omega
              omega)⟩, fun d1 => stepnew sk (hnew (z2.mpr (by omega)))⟩
        · rcases ho with ⟨w1, w2⟩ | ⟨w1, w2⟩
          · rw [w2 j hj] at sj; exact absurd sj (by decide)
          · omega
      · have sk : S k = false := by
          cases e : S k
          · rfl
          · rw [e] at d; exact absurd d (by decide)
        intro v hv
        rw [x_w_id (by omega) (by omega)] at hv
        subst hv
        have := ih (k + 1) one (by omega) (by omega) (by
          rcases ho with ⟨w1, w2⟩ | ⟨w1, w2, w3, w4⟩
          · refine Or.inl ⟨w1, fun j hj => ?_⟩
            by_cases e : j = k
            · rw [e]; exact sk
            · exact w2 j (by omega)
          · refine Or.inr ⟨w1, by omega, w3, fun j hj sj => ?_⟩
            by_cases e : j = k
            · rw [e, sk] at sj; exact absurd sj (by decide)
            · exact w4 j (by omega) sj)
        rw [same (Or.inl sk)] at this
        exact this
  exact u_X11_byTolls_0 f _ g (main n 0 (-1) (by omega) (by omega) (Or.inl ⟨rfl, fun j hj => by omega⟩))
theorem c_chosen {f : Int} (hf : 0 ≤ f ∧ f < 3) {M : xM} {F : xM} (hF : p_wf F) {n : Nat} {T : Int → Int → Int} (hS : p_RS M f F n T) {p q : Int} (hpq : p_tm p q) {S : Nat → Bool} (hne : ∃ k : Nat, k < n ∧ S k = true) (h : ∀ c : Nat, c < n → S c = true → (∀ j : Nat, j < n → S j = true → p_pf F T p q c j) → Q (some (0, (c : Int))) M) : x_Ev l E (3, 0, 0) m_X11_chosen 0 [(21, 103), (0, f), (0, (x_set S n : Int)), (1, p), (5, 0), (1, q), (5, 0), (5, 0), (5, 0), (5, 0), (5, 0), (5, 0)] [] M Q := by
  obtain ⟨hR, ht, hn1, hn, heT⟩ := hS
  have hkd := hF.1
  have slt := x_set_lt S n
  have s10 : 2 ^ n ≤ 2 ^ 10 := Nat.pow_le_pow_right (by omega) hn
  obtain ⟨k0, k1, k2⟩ := hne
  have spos := x_set_pos k1 k2
  have hbit : ∀ i : Nat, x_set S n / 2 ^ i % 2 = 1 → i < n ∧ S i = true := by
    intro i hi
    have : i < n := by
      apply Classical.byContradiction
      intro hin
      have : 2 ^ n ≤ 2 ^ i := Nat.pow_le_pow_right (by omega) (by omega)
      rw [Nat.div_eq_of_lt (by omega)] at hi
      exact absurd hi (by decide)
    refine ⟨this, ?_⟩
    rw [x_set_bit S n i this] at hi
    cases e : S i
    · rw [e] at hi; exact absurd hi (by decide)
    · rfl
  have hof : ∀ i : Nat, i < n → S i = true → x_set S n / 2 ^ i % 2 = 1 := by
    intro i hi si
    rw [x_set_bit S n i hi, si]
    rfl
  have first : (F 0 0 = 2 ∨ F 0 0 = 4) → x_Ev l E (1, 0, 0) m_J6_numberOfTrailingZeros_0f7a4 0 [(0, (x_set S n : Int)), (5, 0)] [] M (fun r zM2 => ∃ zr3, r = some (0, zr3) ∧ Q (some (0, zr3)) zM2) := by
    intro hk
    obtain ⟨-, t2, t3⟩ := x_tz_p spos (by omega)
    obtain ⟨b1, b2⟩ := hbit _ t3
    refine c_ntz _ spos (by omega) ⟨_, rfl, h _ b1 b2 (fun j hj sj => ?_)⟩
    have := x_tz_l spos (by omega) (i := j) (by omega) (hof j hj sj)
    exact ⟨fun _ => this, fun w => by omega, fun w => by omega, fun w => by omega⟩
  refine u_X11_chosen_0 f _ p q ⟨by omega, ?_⟩
  intro v hv
  rw [hR.1] at hv
  subst hv
  refine ⟨fun c => first (Or.inl c), fun c => ⟨fun c4 => ⟨fun c5 => ?_, fun c5 => ?_⟩, fun c4 => first (Or.inr c4)⟩⟩
  · obtain ⟨yg, hyg⟩ := p_emb (fun k => p_gn F (T k) p q) (fun k => T k 3) n (fun k a b => (heT k a b).2.1)
    have main : ∀ (m k : Nat) (one : Int), n - k ≤ m → k ≤ n → ((one = -1 ∧ ∀ j : Nat, j < k → S j = false) ∨ (0 ≤ one ∧ one < k ∧ S one.toNat = true ∧ ∀ j : Nat, j < k → S j = true → (F 0 0 = 0 → yg j ≤ yg one ∧ ((j : Int) < one → yg j < yg one)) ∧ (F 0 0 ≠ 0 → yg one ≤ yg j ∧ ((j : Int) < one → yg one < yg j)))) → x_Ev l E (3, 0, 0) m_X11_chosen 45 [(21, 103), (0, f), (0, (x_set S n : Int)), (1, p), (5, 0), (1, q), (5, 0), (0, F 0 0), (0, one), (0, (k : Int)), (5, 0), (5, 0)] [] M Q := by
      have fin : ∀ (one : Int), ((one = -1 ∧ ∀ j : Nat, j < n → S j = false) ∨ (0 ≤ one ∧ one < n ∧ S one.toNat = true ∧ ∀ j : Nat, j < n → S j = true → (F 0 0 = 0 → yg j ≤ yg one ∧ ((j : Int) < one → yg j < yg one)) ∧ (F 0 0 ≠ 0 → yg one ≤ yg j ∧ ((j : Int) < one → yg one < yg j)))) → Q (some (0, one)) M := by
        intro one ho
        rcases ho with ⟨w1, w2⟩ | ⟨w1, w2, w3, w4⟩
        · rw [w2 k0 k1] at k2; exact absurd k2 (by decide)
        · have hh := h one.toNat (by omega) w3 (fun j hj sj => ?_)
          · rw [show ((one.toNat : Nat) : Int) = one by omega] at hh
            exact hh
          · obtain ⟨a1, a2⟩ := w4 j hj sj
            have g1 := hyg j one (by omega) (by omega) w1 (by omega)
            have g2 := hyg one j w1 (by omega) (by omega) (by omega)
            unfold p_pf
            rw [show ((one.toNat : Nat) : Int) = one by omega]
            refine ⟨fun w => by omega, fun w => by omega, fun w => ?_, fun w => ?_⟩
            · have := a1 w; omega
            · have := a2 (by omega); omega
      intro m
      induction m with
      | zero =>
        intro k one hm hk ho
        have ek : k = n := by omega
        subst ek
        exact u_X11_chosen_45 f _ p q _ one k ⟨by omega, fun _ => fin one ho, fun w => absurd (by rw [ht.1]; omega) w⟩
      | succ m ih =>
        intro k one hm hk ho
        by_cases hkn : k = n
        · exact ih k one (by omega) hk ho
        have ek := heT k (by omega) (by omega)
        have rk := ht.2 k (by omega) (by omega)
        refine u_X11_chosen_45 f _ p q _ one k ⟨by omega, fun w => by rw [ht.1] at w; omega, fun w => ?_⟩
        rw [x_bit (by omega) (by omega), x_set_bit _ _ _ (by omega)]
        refine ⟨fun d => ?_, fun d => ?_⟩
        · have sk : S k = true := by
            cases e : S k
            · rw [e] at d; exact absurd rfl d
            · rfl
          refine ⟨fun o0 => ?_, fun o0 => ?_⟩
          · obtain ⟨o1, o2, o3, o4⟩ := ho.resolve_left (fun w => by omega)
            have eo := heT one o1 (by omega)
            have ro := ht.2 one o1 (by omega)
            have gk := p_gn_bd hF ek hpq
            have go := p_gn_bd hF eo hpq
            have ek2 := ek.2
            have eo2 := eo.2
            have m1 := x_mb (a := p_gn F (T k) p q) (b := T one 3) (A := 1700000000000) (B := 162) (by omega) (by omega)
            have m2 := x_mb (a := p_gn F (T one) p q) (b := T k 3) (A := 1700000000000) (B := 162) (by omega) (by omega)
            refine c_Rgain hf hF hR (by omega) ek rk hpq ⟨_, rfl, by omega, by omega, c_Rgain hf hF hR (by omega) eo ro hpq ⟨_, rfl, by omega, by omega, ?_⟩⟩
            rw [show 274 + 1 + 1 * f = 275 + f by omega, ro.2.1, rk.2.1, x_W_s1, x_W_s2, x_W_id (by omega) (by omega)]
            intro v5 hv5
            have z1 := hyg k one (by omega) (by omega) o1 (by omega)
            have z2 := hyg one k o1 (by omega) (by omega) (by omega)
            have keep : ((F 0 0 = 0 ∧ yg k ≤ yg one) ∨ (F 0 0 ≠ 0 ∧ yg one ≤ yg k)) → ∀ zv6 : Int, zv6 = x_w ((k : Int) + 1) → x_Ev l E (3, 0, 0) m_X11_chosen 45 [(21, 103), (0, f), (0, (x_set S n : Int)), (1, p), (5, 0), (1, q), (5, 0), (0, F 0 0), (0, one), (0, zv6), (5, 0), (5, 0)] [] M Q := by
              intro hh v hv
              rw [x_w_id (by omega) (by omega)] at hv
              subst hv
              refine ih (k + 1) one (by omega) (by omega) (Or.inr ⟨o1, by omega, o3, fun j hj sj => ?_⟩)
              by_cases e : j = k
              · rw [e]
                exact ⟨fun w => ⟨by omega, fun w2 => by omega⟩, fun w => ⟨by omega, fun w2 => by omega⟩⟩
              · exact o4 j (by omega) sj
            have take : ((F 0 0 = 0 ∧ yg one < yg k) ∨ (F 0 0 ≠ 0 ∧ yg k < yg one)) → ∀ zv6 : Int, zv6 = x_w ((k : Int) + 1) → x_Ev l E (3, 0, 0) m_X11_chosen 45 [(21, 103), (0, f), (0, (x_set S n : Int)), (1, p), (5, 0), (1, q), (5, 0), (0, F 0 0), (0, (k : Int)), (0, zv6), (5, 0), (5, 0)] [] M Q := by
              intro hh v hv
              rw [x_w_id (by omega) (by omega)] at hv
              subst hv
              refine ih (k + 1) k (by omega) (by omega) (Or.inr ⟨by omega, by omega, by rw [Int.toNat_natCast]; exact sk, fun j hj sj => ?_⟩)
              by_cases e : j = k
              · rw [e]
                exact ⟨fun w => ⟨by omega, fun w2 => by omega⟩, fun w => ⟨by omega, fun w2 => by omega⟩⟩
              · obtain ⟨a1, a2⟩ := o4 j (by omega) sj
                refine ⟨fun w => ?_, fun w => ?_⟩
                · have := a1 w
                  exact ⟨by omega, fun w2 => by omega⟩
                · have := a2 w
                  exact ⟨by omega, fun w2 => by omega⟩
            refine ⟨fun n0 => ⟨fun d1 => keep (Or.inr ⟨n0, ?_⟩), fun d1 => take (Or.inr ⟨n0, z1.mp (by omega)⟩)⟩, fun y0 => ⟨fun d1 => keep (Or.inl ⟨y0, ?_⟩), fun d1 => take (Or.inl ⟨y0, z2.mp (by omega)⟩)⟩⟩
            · have : ¬ yg k < yg one := fun w => by have := z1.mpr w; omega
              omega
            · have : ¬ yg one < yg k := fun w => by have := z2.mpr w; omega
              omega
          · intro v hv
            rw [x_w_id (by omega) (by omega)] at hv
            subst hv
            refine ih (k + 1) k (by omega) (by omega) (Or.inr ⟨by omega, by omega, by rw [Int.toNat_natCast]; exact sk, fun j hj sj => ?_⟩)
            by_cases e : j = k
            · rw [e]
              exact ⟨fun w => ⟨by omega, fun w2 => by omega⟩, fun w => ⟨by omega, fun w2 => by omega⟩⟩
            · rcases ho with ⟨w1, w2⟩ | ⟨w1, w2⟩
              · rw [w2 j (by omega)] at sj; exact absurd sj (by decide)
              · omega
        · have sk : S k = false := by
            cases e : S k
            · rfl
            · rw [e] at d; exact absurd d (by decide)
          intro v hv
          rw [x_w_id (by omega) (by omega)] at hv
          subst hv
          refine ih (k + 1) one (by omega) (by omega) ?_
          rcases ho with ⟨w1, w2⟩ | ⟨w1, w2, w3, w4⟩
          · refine Or.inl ⟨w1, fun j hj => ?_⟩
            by_cases e : j = k
            · rw [e]; exact sk
            · exact w2 j (by omega)
          · refine Or.inr ⟨w1, by omega, w3, fun j hj sj => ?_⟩
            by_cases e : j = k
            · rw [e, sk] at sj; exact absurd sj (by decide)
            · exact w4 j (by omega) sj
    exact main n 0 (-1) (by omega) (by omega) (Or.inl ⟨rfl, fun j hj => by omega⟩)
  · obtain ⟨t2, t3⟩ := x_lg_p spos (by omega)
    obtain ⟨b1, b2⟩ := hbit _ t3
    refine c_nlz _ spos (by omega) ⟨_, rfl, ?_⟩
    rw [show (31 : Int) - (31 - ((x_set S n).log2 : Int)) = ((x_set S n).log2 : Int) by omega, x_w_id (by omega) (by omega)]
    refine h _ b1 b2 (fun j hj sj => ?_)
    have := x_lg_l spos (by omega) (i := j) (by omega) (hof j hj sj)
    exact ⟨fun w => by omega, fun _ => this, fun w => by omega, fun w => by omega⟩
theorem c_answer0 {f : Int} (hf : 0 ≤ f ∧ f < 3) {M : xM} {F : xM} (hF : p_wf F) {n : Nat} {T : Int → Int → Int} (hS : p_RS M f F n T) {p q : Int} (hpq : p_tm p q) (h : ∀ c : Nat, p_isch F T n p q 0 c → Q (some (0, (c : Int))) M) : x_Ev l E (3, 0, 0) m_X11_chosen 0 [(21, 103), (0, f), (0, (x_set (p_bst F T n p q) n : Int)), (1, p), (5, 0), (1, q), (5, 0), (5, 0), (5, 0), (5, 0), (5, 0), (5, 0)] [] M Q := by
  refine c_chosen hf hF hS hpq (p_best_ex hS.2.2.1 (fun k a b => (hS.2.2.2.2 k a b).2.1)) (fun c c1 c2 c3 => h c ⟨c1, ⟨c2, fun j hj bj => ⟨fun w => by omega, fun w => by omega⟩⟩, fun j hj cj => c3 j hj cj.1⟩)
theorem c_answer {f : Int} (hf : 0 ≤ f ∧ f < 3) {M : xM} {F : xM} (hF : p_wf F) {n : Nat} {T : Int → Int → Int} (hS : p_RS M f F n T) {p q : Int} (hpq : p_tm p q) (h : ∀ c : Nat, p_isch F T n p q 0 c → Q (some (0, (c : Int))) M) : x_Ev l E (4, 0, 0) m_X11_answer 0 [(21, 103), (0, f), (1, p), (5, 0), (1, q), (5, 0)] [] M Q :=
  u_X11_answer_0 f p q (c_bestPlans hf hF hS hpq ⟨_, rfl, c_answer0 hf hF hS hpq (fun c hc => ⟨_, rfl, h c hc⟩)⟩)
theorem c_answer_ {f : Int} (hf : 0 ≤ f ∧ f < 3) {M : xM} {F : xM} (hF : p_wf F) {n : Nat} {T : Int → Int → Int} (hS : p_RS M f F n T) {p q how : Int} (hpq : p_tm p q) (hh : how = 0 ∨ how = 1 ∨ how = 2) (h : ∀ c : Nat, p_isch F T n p q how c → Q (some (0, (c : Int))) M) : x_Ev l E (4, 0, 0) m_X11_answer_ 0 [(21, 103), (0, f), (1, p), (5, 0), (1, q), (5, 0), (0, how), (5, 0)] [] M Q := by
  have hb : ∀ k : Int, 0 ≤ k → k < n → 0 < T k 3 := fun k a b => (hS.2.2.2.2 k a b).2.1
  obtain ⟨yt, hyt⟩ := p_emb (fun k => p_tr F (T k) 1) (fun k => T k 3) n hb
  have mx : ∀ z : Int → Int, ∃ k : Nat, k < n ∧ (p_bst F T n p q k && decide (∀ j : Nat, j < n → p_bst F T n p q j = true → z j ≤ z k)) = true := by
    intro z
    obtain ⟨k0, k1, k2⟩ := p_best_ex (F := F) (p := p) (q := q) hS.2.2.1 hb
    have : ∀ m : Nat, m ≤ n → ∃ k : Nat, k < n ∧ p_bst F T n p q k = true ∧ ∀ j : Nat, j < m → p_bst F T n p q j = true → z j ≤ z k := by
      intro m
      induction m with
      | zero => intro _; exact ⟨k0, k1, k2, fun j hj => by omega⟩
      | succ m ih =>
        intro hm
        obtain ⟨k, w1, w2, w3⟩ := ih (by omega)
        by_cases d : p_bst F T n p q m = true ∧ z k < z m
        · refine ⟨m, by omega, d.1, fun j hj bj => ?_⟩
          by_cases e : j = m
          · rw [e]; omega
          · have := w3 j (by omega) bj; omega
        · refine ⟨k, w1, w2, fun j hj bj => ?_⟩
          by_cases e : j = m
          · rw [e]
            rw [e] at bj
            apply Classical.byContradiction
            intro hlt
            exact d ⟨bj, by omega⟩
          · exact w3 j (by omega) bj
    obtain ⟨k, w1, w2, w3⟩ := this n (Nat.le_refl _)
    exact ⟨k, w1, by rw [w2, Bool.true_and]; exact decide_eq_true w3⟩
  refine u_X11_answer__0 f p q how (c_bestPlans hf hF hS hpq ⟨_, rfl, fun h0 => ⟨fun h1 => ?_, fun h1 => ?_⟩, fun h0 => ?_⟩)
  · have h2 : how = 2 := by omega
    subst h2
    refine c_byTolls hf hF hS (g := 0) (z := fun k => - yt k) (fun i j i1 i2 j1 j2 => ?_) ⟨_, rfl, ?_⟩
    · rw [if_pos rfl]
      have := hyt j i j1 j2 i1 i2
      try dsimp only at this ⊢
      rw [this]; omega
    · refine c_chosen hf hF hS hpq (mx (fun k => - yt k)) (fun c c1 c2 c3 => ⟨_, rfl, h c ?_⟩)
      rw [Bool.and_eq_true] at c2
      have c22 := of_decide_eq_true c2.2
      refine ⟨c1, ⟨c2.1, fun j hj bj => ⟨fun w => by omega, fun w => ?_⟩⟩, fun j hj cj => c3 j hj ?_⟩
      · have := hyt j c (by omega) (by omega) (by omega) (by omega)
        have := c22 j hj bj
        try dsimp only at *
        omega
      · rw [cj.1, Bool.true_and]
        refine decide_eq_true (fun i hi bi => ?_)
        have h5 := (cj.2 i hi bi).2 rfl
        have := hyt i j (by omega) (by omega) (by omega) (by omega)
        try dsimp only at *
        omega
  · subst h1
    refine c_byTolls hf hF hS (g := 1) (z := yt) (fun i j i1 i2 j1 j2 => ?_) ⟨_, rfl, ?_⟩
    · rw [if_neg (by omega)]
      exact (hyt i j i1 i2 j1 j2).symm
    · refine c_chosen hf hF hS hpq (mx _) (fun c c1 c2 c3 => ⟨_, rfl, h c ?_⟩)
      rw [Bool.and_eq_true] at c2
      have c22 := of_decide_eq_true c2.2
      refine ⟨c1, ⟨c2.1, fun j hj bj => ⟨fun w => ?_, fun w => by omega⟩⟩, fun j hj cj => c3 j hj ?_⟩
      · have := hyt c j (by omega) (by omega) (by omega) (by omega)
        have := c22 j hj bj
        try dsimp only at *
        omega
      · rw [cj.1, Bool.true_and]
        refine decide_eq_true (fun i hi bi => ?_)
        have h5 := (cj.2 i hi bi).1 rfl
        have := hyt j i (by omega) (by omega) (by omega) (by omega)
        try dsimp only at *
        omega
  · subst h0
    exact c_answer0 hf hF hS hpq (fun c hc => ⟨_, rfl, h c hc⟩)
end RC
