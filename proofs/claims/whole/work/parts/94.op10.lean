/-! seed, book, row, alter, count, status -/
theorem x_land_sign (a b : Int64) : 0 ≤ (a &&& b).toInt ↔ (0 ≤ a.toInt ∨ 0 ≤ b.toInt) := by
  have key : ∀ x : Int64, (0 ≤ x.toInt ↔ x.toBitVec.msb = false) := by
    intro x
    have h := BitVec.msb_eq_toInt (x := x.toBitVec)
    show 0 ≤ x.toBitVec.toInt ↔ _
    rw [h]
    simp
  rw [key, key a, key b, Int64.toBitVec_and, BitVec.msb_and]
  cases a.toBitVec.msb <;> cases b.toBitVec.msb <;> simp
theorem x_land_lxor (a b c d : Int) : 0 ≤ x_land (x_lxor a b) (x_lxor c d) ↔ (0 ≤ x_lxor a b ∨ 0 ≤ x_lxor c d) := by
  unfold x_land
  rw [x_land_sign]
  unfold x_lxor
  rw [x_ofL, x_ofL]
def p_so (a b : Int) : Prop := ¬ 0 ≤ x_lxor a (x_W (a + b)) ∧ ¬ 0 ≤ x_lxor b (x_W (a + b))
def p_po (a b : Int) : Prop := ¬ (a = 0 ∨ b = 0) ∧ ((a = -9223372036854775808 ∧ b = -1) ∨ ¬ x_W ((x_W (a * b)).tdiv b) = a)
section P10
variable {l : Launch} {E : xE} {Q : Option xV → xM → Prop} {A M : xM}
theorem x_Ev.rga {z : Nat × Nat × Nat} {y : xMT} {pc : Nat} {ls st : List xV} (a : Nat) (h5 : 5 ≤ a) (h9 : a < 593) (ht : ¬ x_SHT a < 100) (h : (∀ k : Nat, k < (x_AT (x_SHT a - 100)).2.1.toNat → x_rg (x_AT (x_SHT a - 100)).1 (M a k)) → x_Ev l E z y pc ls st M Q) : x_Ev l E z y pc ls st M Q := by
  intro p e R s m args below meth c H locs cells slots lr hM hC hf hl hc hs hN hlo hL hol hos
  refine h (fun k hk => ?_) p e R s m args below meth c H locs cells slots lr hM hC hf hl hc hs hN hlo hL hol hos
  have h1 := hN.1
  have q := (hN.2.2.2.1 a h5 (by omega)).2 k
  have h180 := (x_clo2 a h9 h5 ht).1
  rw [x_tag_lt h9] at q
  unfold x_len x_knd x_ln at q
  rw [if_neg ht, if_neg ht, if_neg (by omega)] at q
  exact q hk
theorem k_so {a b : Int} (h1 : p_so a b → Q (some (0, 1)) M) (h0 : ¬ p_so a b → Q (some (0, 0)) M) : x_Ev l E (1, 0, 0) m_X10_isSumOver 0 [(1, a), (5, 0), (1, b), (5, 0), (5, 0), (5, 0)] [] M Q := by
  refine u_X10_isSumOver_0 a b ?_
  intro v hv
  rw [hv, x_land_lxor]
  refine ⟨fun c => h0 (fun q => ?_), fun c => h1 (not_or.mp c)⟩
  rcases c with c | c
  · exact q.1 c
  · exact q.2 c
theorem r_so {a b : Int} (h1 : p_so a b → Q (some (0, 1)) M) (h0 : ¬ p_so a b → Q (some (0, 0)) M) : x_Ev l E (1, 0, 0) m_X11_isTooMuch 0 [(21, 103), (1, a), (5, 0), (1, b), (5, 0), (5, 0), (5, 0)] [] M Q := by
  refine u_X11_isTooMuch_0 a b ?_
  intro v hv
  rw [hv]
  exact ⟨fun c => h0 (fun q => q.1 c), fun c => ⟨fun d => h0 (fun q => q.2 d), fun d => h1 ⟨c, d⟩⟩⟩
theorem k_po {a b : Int} (h1 : p_po a b → Q (some (0, 1)) M) (h0 : ¬ p_po a b → Q (some (0, 0)) M) : x_Ev l E (1, 0, 0) m_X10_isProductOver 0 [(1, a), (5, 0), (1, b), (5, 0)] [] M Q := by
  refine u_X10_isProductOver_0 a b ⟨fun c => h0 (fun q => q.1 (Or.inl c)), fun c => ⟨fun d => ⟨fun e => ⟨d, fun g => h0 (fun q => ?_), fun g => h1 ⟨fun q => by omega, Or.inr g⟩⟩, fun e => ⟨fun e2 => ⟨d, fun g => h0 (fun q => ?_), fun g => h1 ⟨fun q => by omega, Or.inr g⟩⟩, fun e2 => h1 ⟨fun q => by omega, Or.inl ⟨e, e2⟩⟩⟩⟩, fun d => h0 (fun q => q.1 (Or.inr d))⟩⟩
  · rcases q.2 with q | q
    · exact e q.1
    · exact q g
  · rcases q.2 with q | q
    · exact e2 q.2
    · exact q g
theorem r_po2 {a b : Int} (h1 : p_po a b → Q (some (0, 1)) M) (h0 : ¬ p_po a b → Q (some (0, 0)) M) : x_Ev l E (1, 0, 0) m_X11_isTimesTooMuch 0 [(21, 103), (1, a), (5, 0), (1, b), (5, 0), (5, 0), (5, 0)] [] M Q := by
  refine u_X11_isTimesTooMuch_0 a b ⟨fun c => h0 (fun q => q.1 (Or.inl c)), fun c => ⟨fun d => ?_, fun d => h0 (fun q => q.1 (Or.inr d))⟩⟩
  intro v hv
  rw [hv]
  have plain : ¬ (a = -9223372036854775808 ∧ b = -1) → (b ≠ 0) ∧ ((x_W ((x_W (a * b)).tdiv b)) = a → Q (some (0, 0)) M) ∧ (¬ (x_W ((x_W (a * b)).tdiv b)) = a → Q (some (0, 1)) M) := fun e => ⟨d, fun g => h0 (fun q => by
    rcases q.2 with q | q
    · exact e q
    · exact q g), fun g => h1 ⟨fun q => by omega, Or.inr g⟩⟩
  refine ⟨fun e => ⟨fun e2 => plain (by omega), fun e2 => ⟨fun e3 => h1 ⟨fun q => by omega, Or.inl ⟨e3, e2⟩⟩, fun e3 => plain (by omega)⟩⟩, fun e => ⟨fun e2 => h1 ⟨fun q => by omega, Or.inr ?_⟩, fun e2 => ⟨fun e3 => plain (by omega), fun e3 => plain (by omega)⟩⟩⟩
  rw [e, e2]
  decide
noncomputable def o_seed (A : xM) (v : Int) : Int × xM := (A 6 3, x_wr A 6 3 v)
theorem k_seed (hA : p_WF A) (hC : p_CI A M) {v : Int} (h : ∀ M1, p_CI (o_seed A v).2 M1 → p_cfr M M1 → Q (some (0, (o_seed A v).1)) M1) : x_Ev l E (1, 0, 0) m_X10_seed 0 [(20, 5), (0, v), (5, 0)] [] M Q := by
  refine u_X10_seed_0 v ?_
  intro z hz M1 hM1
  rw [hC.1 6 3 (by omega) (by omega)] at hz
  rw [hz, hM1]
  exact h _ (p_CI_w hA hC (by omega)) (p_cfr_w (by omega))
theorem r_seed (hA : p_WF A) (hR : p_RI A M) {v : Int} (h : ∀ M1, p_RI (o_seed A v).2 M1 → p_rfr M M1 → Q (some (0, (o_seed A v).1)) M1) : x_Ev l E (1, 0, 0) m_X11_seed 0 [(21, 103), (0, v), (5, 0)] [] M Q := by
  refine u_X11_seed_0 v ?_
  intro z hz M1 hM1
  rw [hR.1.2.2.2.2.2.2] at hz
  rw [hz, hM1]
  exact h _ (p_RI_w hA hR (by omega)) (p_rfr_w (by omega))
/-- one of MOST, ROUND, z, LEDGER -/
theorem wf_6 (hA : p_WF A) {k v : Int} (hk : 2 ≤ k ∧ k ≤ 4) (h2 : k = 2 → 0 ≤ v ∧ v ≤ 9999) (h3 : k = 3 → -2147483648 ≤ v ∧ v < 2147483648) (h4 : k = 4 → -9223372036854775808 ≤ v ∧ v < 9223372036854775808) : p_WF (x_wr A 6 k v) := by
  obtain ⟨w1, w2, w3, w4, w5, w6, w7, w8⟩ := hA.1
  have n : ∀ a j, ¬ (a = 6 ∧ j = k) → x_wr A 6 k v a j = A a j := fun a j q => x_wr_ne _ _ q
  refine p_WF_6 hA (fun a j q1 q2 => n a j (by omega)) ?_ ?_ ?_ ?_ ?_ ?_
  · rw [n _ _ (by omega)]; exact w2
  · by_cases c : k = 2
    · rw [c, x_wr_eq]; exact h2 c
    · rw [n _ _ (by omega)]; exact w3
  · by_cases c : k = 3
    · rw [c, x_wr_eq]; exact h3 c
    · rw [n _ _ (by omega)]; exact w4
  · by_cases c : k = 4
    · rw [c, x_wr_eq]; exact h4 c
    · rw [n _ _ (by omega)]; exact w5
  · rw [n 7 0 (by omega), n 7 1 (by omega), n 6 1 (by omega)]; exact w6
  · rw [n 7 1 (by omega)]; exact w7
theorem wf_seed (hA : p_WF A) {v : Int} (hv : -2147483648 ≤ v ∧ v < 2147483648) : p_WF (o_seed A v).2 := wf_6 hA (by omega) (fun e => by omega) (fun _ => hv) (fun e => by omega)
noncomputable def p_bkn (L w v : Int) : Int := if w = 0 then x_W (L + v) else if w = 1 then x_W (L * v) else x_W (L.tdiv v)
def p_bko (L w v : Int) : Prop := (w = 0 ∧ p_so L v) ∨ (w = 1 ∧ p_po L v) ∨ (w = 2 ∧ L = -9223372036854775808 ∧ v = -1)
noncomputable def o_book (A : xM) (w v : Int) : Int × xM := p_if (0 ≤ w ∧ w ≤ 2) (p_if (w = 2 ∧ v = 0) (p_erL A 3) (p_if (p_bko (A 6 4) w v) (p_erL A 7) (p_bkn (A 6 4) w v, x_wr A 6 4 (p_bkn (A 6 4) w v)))) (p_erL A 0)
theorem k_book (hA : p_WF A) (hC : p_CI A M) {w v : Int} (h : ∀ M1, p_CI (o_book A w v).2 M1 → p_cfr M M1 → Q (some (1, (o_book A w v).1)) M1) : x_Ev l E (2, 0, 0) m_X10_book 0 [(20, 5), (0, w), (1, v), (5, 0), (5, 0), (5, 0), (5, 0)] [] M Q := by
  unfold o_book at h
  have bad : ¬ (0 ≤ w ∧ w ≤ 2) → x_Ev l E (1, 0, 0) m_X10_tellLong 0 [(20, 5), (0, 0)] [] M (fun r M3 => ∃ z, r = some (1, z) ∧ Q (some (1, z)) M3) := fun c => by
    rw [p_if_f c] at h
    exact k_tL hA hC (by omega) (fun M1 a b => ⟨_, rfl, h M1 a b⟩)
  refine u_X10_book_0 w v ⟨fun c => bad (by omega), fun c => ⟨fun d => ?_, fun d => bad (by omega)⟩⟩
  rw [p_if_t (by omega)] at h
  have over : ¬ (w = 2 ∧ v = 0) → p_bko (A 6 4) w v → x_Ev l E (1, 0, 0) m_X10_tellLong 0 [(20, 5), (0, 7)] [] M (fun r M3 => ∃ z, r = some (1, z) ∧ Q (some (1, z)) M3) := fun c e => by
    rw [p_if_f c, p_if_t e] at h
    exact k_tL hA hC (by omega) (fun M1 a b => ⟨_, rfl, h M1 a b⟩)
  have ok : ¬ (w = 2 ∧ v = 0) → ¬ p_bko (A 6 4) w v → ∀ (n : Int) (M1 : xM), n = p_bkn (A 6 4) w v → M1 = x_wr M 6 4 n → Q (some (1, M1 6 4)) M1 := fun c e n M1 hn hM1 => by
    rw [p_if_f c, p_if_f e] at h
    rw [hM1, x_wr_eq, hn]
    exact h _ (p_CI_w hA hC (by omega)) (p_cfr_w (by omega))
  rw [hC.1 6 4 (by omega) (by omega)]
  refine ⟨fun e => ?_, fun e => ⟨fun g => ?_, fun g => ?_⟩⟩
  · intro z hz
    rw [hz]
    refine ⟨fun g => k_po (fun q => x_n1 (by omega) (over (fun t => e t.1) (Or.inr (Or.inl ⟨by omega, q⟩)))) (fun q => x_n0 (fun M1 hM1 => ok (fun t => e t.1) (fun t => ?_) _ M1 ?_ hM1)), fun g => k_so (fun q => x_n1 (by omega) (over (fun t => e t.1) (Or.inl ⟨g, q⟩))) (fun q => x_n0 (fun M1 hM1 => ok (fun t => e t.1) (fun t => ?_) _ M1 ?_ hM1))⟩
    · rcases t with t | t | t
      · exact g t.1
      · exact q t.2
      · exact e t.1
    · unfold p_bkn
      rw [if_neg g, if_pos (by omega)]
    · rcases t with t | t | t
      · exact q t.2
      · omega
      · omega
    · unfold p_bkn
      rw [if_pos g]
  · intro z hz
    rw [hz]
    have en : x_W ((A 6 4).tdiv v) = p_bkn (A 6 4) w v := by
      unfold p_bkn
      rw [if_neg (by omega), if_neg (by omega)]
    refine ⟨fun k => ⟨g, fun M1 hM1 => ok (fun t => g t.2) (fun t => ?_) _ M1 en hM1⟩, fun k => ⟨fun k2 => ⟨g, fun M1 hM1 => ok (fun t => g t.2) (fun t => ?_) _ M1 en hM1⟩, fun k2 => over (fun t => g t.2) (Or.inr (Or.inr ⟨e, k, k2⟩))⟩⟩
    · rcases t with t | t | t
      · omega
      · omega
      · exact k t.2.1
    · rcases t with t | t | t
      · omega
      · omega
      · exact k2 t.2.2
  · rw [p_if_t ⟨e, g⟩] at h
    exact k_tL hA hC (by omega) (fun M1 a b => ⟨_, rfl, h M1 a b⟩)
theorem r_book (hA : p_WF A) (hR : p_RI A M) {w v : Int} (h : ∀ M1, p_RI (o_book A w v).2 M1 → p_rfr M M1 → Q (some (1, (o_book A w v).1)) M1) : x_Ev l E (2, 0, 0) m_X11_book 0 [(21, 103), (0, w), (1, v), (5, 0), (5, 0)] [] M Q := by
  unfold o_book at h
  refine u_X11_book_0 w v (r_in (fun d => x_y1 (by omega) ?_) (fun d => x_y0 ?_))
  · rw [p_if_t d] at h
    have over : ¬ (w = 2 ∧ v = 0) → p_bko (A 6 4) w v → x_Ev l E (1, 0, 0) m_X11_findsLong 0 [(21, 103), (0, 7)] [] M (fun r M3 => ∃ z, r = some (1, z) ∧ Q (some (1, z)) M3) := fun c e => by
      rw [p_if_f c, p_if_t e] at h
      exact r_tL hA hR (by omega) (fun M1 a b => ⟨_, rfl, h M1 a b⟩)
    have ok : ¬ (w = 2 ∧ v = 0) → ¬ p_bko (A 6 4) w v → ∀ (n : Int) (M1 : xM), n = p_bkn (A 6 4) w v → M1 = x_wr M 103 11 n → Q (some (1, M1 103 11)) M1 := fun c e n M1 hn hM1 => by
      rw [p_if_f c, p_if_f e] at h
      rw [hM1, x_wr_eq, hn]
      exact h _ (p_RI_w hA hR (by omega)) (p_rfr_w (by omega))
    have e11 : M 103 11 = A 6 4 := hR.1.2.2.2.2.1
    rw [e11]
    have dv : ¬ w = 0 → ¬ w = 1 → v ≠ 0 → ((¬ (A 6 4) = (-9223372036854775808) → (v ≠ 0) ∧ ∀ zM3 : xM, zM3 = x_wr M 103 11 (x_W ((A 6 4).tdiv v)) → Q (some (1, (zM3 103 11))) zM3) ∧ ((A 6 4) = (-9223372036854775808) → (¬ v = (-1) → (v ≠ 0) ∧ ∀ zM4 : xM, zM4 = x_wr M 103 11 (x_W ((A 6 4).tdiv v)) → Q (some (1, (zM4 103 11))) zM4) ∧ (v = (-1) → x_Ev l E (1, 0, 0) m_X11_findsLong 0 [(21, 103), (0, 7)] [] M (fun r zM5 => ∃ zr6, r = some (1, zr6) ∧ Q (some (1, zr6)) zM5)))) := fun c1 c2 g => by
      have en : x_W ((A 6 4).tdiv v) = p_bkn (A 6 4) w v := by
        unfold p_bkn
        rw [if_neg (by omega), if_neg (by omega)]
      refine ⟨fun k => ⟨g, fun M1 hM1 => ok (fun t => g t.2) (fun t => ?_) _ M1 en hM1⟩, fun k => ⟨fun k2 => ⟨g, fun M1 hM1 => ok (fun t => g t.2) (fun t => ?_) _ M1 en hM1⟩, fun k2 => over (fun t => g t.2) (Or.inr (Or.inr ⟨by omega, k, k2⟩))⟩⟩
      · rcases t with t | t | t
        · omega
        · omega
        · exact k t.2.1
      · rcases t with t | t | t
        · omega
        · omega
        · exact k2 t.2.2
    refine ⟨fun e => ⟨fun g => ⟨fun g2 => by omega, fun g2 => r_po2 (fun q => x_n1 (by omega) (over (fun t => e t.1) (Or.inr (Or.inl ⟨g2, q⟩)))) (fun q => x_n0 ?_)⟩, fun g => r_so (fun q => x_n1 (by omega) (over (fun t => e t.1) (Or.inl ⟨g, q⟩))) (fun q => x_n0 ?_)⟩, fun e => ⟨fun g => dv (by omega) (by omega) g, fun g => ?_⟩⟩
    · rw [e11]
      refine fun M1 hM1 => ok (fun t => e t.1) (fun t => ?_) _ M1 ?_ hM1
      · rcases t with t | t | t
        · exact g t.1
        · exact q t.2
        · exact e t.1
      · unfold p_bkn
        rw [if_neg g, if_pos (by omega)]
    · rw [e11]
      refine fun M1 hM1 => ok (fun t => e t.1) (fun t => ?_) _ M1 ?_ hM1
      · rcases t with t | t | t
        · exact q t.2
        · omega
        · omega
      · unfold p_bkn
        rw [if_pos g]
    · rw [p_if_t ⟨e, g⟩] at h
      exact r_tL hA hR (by omega) (fun M1 a b => ⟨_, rfl, h M1 a b⟩)
  · rw [p_if_f d] at h
    exact r_tL hA hR (by omega) (fun M1 a b => ⟨_, rfl, h M1 a b⟩)
theorem wf_book (hA : p_WF A) (w v : Int) : p_WF (o_book A w v).2 := by
  unfold o_book
  by_cases c : 0 ≤ w ∧ w ≤ 2
  · rw [p_if_t c]
    by_cases d : w = 2 ∧ v = 0
    · rw [p_if_t d]; exact wf_tl hA 3
    · rw [p_if_f d]
      by_cases e : p_bko (A 6 4) w v
      · rw [p_if_t e]; exact wf_tl hA 7
      · rw [p_if_f e]
        refine wf_6 hA (by omega) (fun e => by omega) (fun e => by omega) (fun _ => ?_)
        unfold p_bkn
        by_cases c0 : w = 0
        · rw [if_pos c0]; exact x_W_rg _
        · rw [if_neg c0]
          by_cases c1 : w = 1
          · rw [if_pos c1]; exact x_W_rg _
          · rw [if_neg c1]; exact x_W_rg _
  · rw [p_if_f c]; exact wf_tl hA 0
noncomputable def o_row (A : xM) (k w : Int) : Int × xM := p_if ((0 ≤ k ∧ k < A 5 12) ∧ 0 ≤ w ∧ w < 6) (A 100 (6 * k + w), A) (p_erL A 0)
noncomputable def o_alter (A : xM) (k w v : Int) : Int × xM := p_if ((0 ≤ k ∧ k < A 5 12) ∧ 0 ≤ w ∧ w < 6) (A 100 (6 * k + w), x_wr A 100 (6 * k + w) v) (p_erL A 0)
theorem k_NPN (hC : p_CI A M) {k w : Int} (h1 : ¬ ((0 ≤ k ∧ k < A 5 12) ∧ 0 ≤ w ∧ w < 6) → Q (some (0, 1)) M) (h0 : (0 ≤ k ∧ k < A 5 12) ∧ 0 ≤ w ∧ w < 6 → Q (some (0, 0)) M) : x_Ev l E (1, 0, 0) m_X10_isNoPieceNumber 0 [(20, 5), (0, k), (0, w)] [] M Q := by
  have e := hC.2.2.1
  refine u_X10_isNoPieceNumber_0 k w ⟨fun c => h1 (by omega), fun c => ⟨fun d => h1 (by omega), fun d => ⟨fun e => h1 (by omega), fun e => ⟨fun g => h0 (by omega), fun g => h1 (by omega)⟩⟩⟩⟩
theorem r_PR (hA : p_WF A) (hR : p_RI A M) {k w : Int} (h1 : (0 ≤ k ∧ k < A 5 12) ∧ 0 ≤ w ∧ w < 6 → Q (some (0, 1)) M) (h0 : ¬ ((0 ≤ k ∧ k < A 5 12) ∧ 0 ≤ w ∧ w < 6) → Q (some (0, 0)) M) : x_Ev l E (2, 0, 0) m_X11_isPieceRow 0 [(21, 103), (0, k), (0, w)] [] M Q := by
  have w0 := hA.2.2.2.1
  refine u_X11_isPieceRow_0 k w ?_
  rw [hR.2.2.2.1.1, x_w_id (by omega) (by omega)]
  exact r_in (fun c => x_n1 (by omega) (r_in (fun d => x_n1 (by omega) (h1 (by omega))) (fun d => x_n0 (h0 (by omega))))) (fun c => x_n0 (h0 (by omega)))
theorem x_ix6 {a b : Int} (ha : 0 ≤ a) (ha2 : a < 100) (hb : 0 ≤ b) (hb2 : b < 100) : x_w (x_w (a * 6) + b) = 6 * a + b := by unfold x_w; omega
theorem k_row (hA : p_WF A) (hC : p_CI A M) {k w : Int} (h : ∀ M1, p_CI (o_row A k w).2 M1 → p_cfr M M1 → Q (some (1, (o_row A k w).1)) M1) : x_Ev l E (2, 0, 0) m_X10_row 0 [(20, 5), (0, k), (0, w)] [] M Q := by
  unfold o_row at h
  have w0 := hA.2.2.2.1
  refine u_X10_row_0 k w (k_NPN hC (fun c => x_n1 (by omega) ?_) (fun c => x_n0 ?_))
  · rw [p_if_f c] at h
    exact k_tL hA hC (by omega) (fun M1 a b => ⟨_, rfl, h M1 a b⟩)
  · rw [p_if_t c] at h
    rw [x_ix6 (by omega) (by omega) (by omega) (by omega), hC.2.2.2.1]
    exact ⟨by omega, h M hC (p_cfr_rf M)⟩
theorem r_row (hA : p_WF A) (hR : p_RI A M) {k w : Int} (h : ∀ M1, p_RI (o_row A k w).2 M1 → p_rfr M M1 → Q (some (1, (o_row A k w).1)) M1) : x_Ev l E (3, 0, 0) m_X11_row 0 [(21, 103), (0, k), (0, w)] [] M Q := by
  unfold o_row at h
  have w0 := hA.2.2.2.1
  refine u_X11_row_0 k w (r_PR hA hR (fun c => x_n1 (by omega) ?_) (fun c => x_n0 ?_))
  · rw [p_if_t c] at h
    rw [show 333 + 1 + 1 * k = 334 + k by omega, hR.2.2.2.1.2 k w c.1.1 c.1.2 c.2.1 c.2.2]
    exact ⟨by omega, by omega, h M hR (p_rfr_rf M)⟩
  · rw [p_if_f c] at h
    exact r_tL hA hR (by omega) (fun M1 a b => ⟨_, rfl, h M1 a b⟩)
theorem wf_row (hA : p_WF A) (k w : Int) : p_WF (o_row A k w).2 := by
  unfold o_row
  by_cases c : (0 ≤ k ∧ k < A 5 12) ∧ 0 ≤ w ∧ w < 6
  · rw [p_if_t c]; exact hA
  · rw [p_if_f c]; exact wf_tl hA 0
theorem k_alter (hA : p_WF A) (hC : p_CI A M) {k w v : Int} (h : ∀ M1, p_CI (o_alter A k w v).2 M1 → p_cfr M M1 → Q (some (1, (o_alter A k w v).1)) M1) : x_Ev l E (2, 0, 0) m_X10_alter 0 [(20, 5), (0, k), (0, w), (1, v), (5, 0), (5, 0), (5, 0)] [] M Q := by
  unfold o_alter at h
  have w0 := hA.2.2.2.1
  refine u_X10_alter_0 k w v (k_NPN hC (fun c => x_n1 (by omega) ?_) (fun c => x_n0 ?_))
  · rw [p_if_f c] at h
    exact k_tL hA hC (by omega) (fun M1 a b => ⟨_, rfl, h M1 a b⟩)
  · rw [p_if_t c] at h
    rw [x_ix6 (by omega) (by omega) (by omega) (by omega), hC.2.2.2.1]
    refine ⟨by omega, ?_⟩
    intro z hz
    refine ⟨by omega, ?_⟩
    intro M1 hM1
    rw [hz, hM1]
    exact h _ (p_CI_w hA hC (by omega)) (p_cfr_w (by omega))
/-- the reference's rows of pieces change -/
theorem p_RI_100 {A' M1 : xM} (hA : p_WF A) (hR : p_RI A M) (hA' : ∀ a k, a ≠ 100 → ¬ (a = 5 ∧ k = 12) → A' a k = A a k) (hM : ∀ a k, ¬ (334 ≤ a ∧ a ≤ 543) → ¬ (a = 103 ∧ k = 42) → ¬ p_rsc a k → M1 a k = M a k) (e42 : M1 103 42 = A' 5 12) (e : ∀ k i, 0 ≤ k → k < A' 5 12 → 0 ≤ i → i < 6 → M1 (334 + k) i = A' 100 (6 * k + i)) : p_RI A' M1 := by
  have w0 := hA.1.1
  obtain ⟨⟨a0, a1, a2, a3, a4, a5, a6⟩, q2, q3, ⟨q4, q5⟩, q6, q7, q8, q9⟩ := hR
  have em : ∀ b j, (b = 103 ∧ (j < 15 ∨ 43 ≤ j)) ∨ (104 ≤ b ∧ b < 142) ∨ (544 ≤ b ∧ b < 593 ∧ b ≠ 551) → M1 b j = M b j := fun b j w => hM b j (by omega) (by omega) (by unfold p_rsc; omega)
  refine ⟨⟨?_, ?_, ?_, ?_, ?_, ?_, ?_⟩, fun f hf => ?_, fun i i1 i2 => ?_, ⟨e42, e⟩, fun s s1 s2 => ?_, fun i i1 i2 => ?_, ?_, fun w => ?_⟩
  · rw [hA' _ _ (by omega) (by omega), em _ _ (by omega)]; exact a0
  · rw [hA' _ _ (by omega) (by omega), em _ _ (by omega)]; exact a1
  · rw [hA' _ _ (by omega) (by omega), em _ _ (by omega)]; exact a2
  · rw [hA' _ _ (by omega) (by omega), em _ _ (by omega)]; exact a3
  · rw [hA' _ _ (by omega) (by omega), em _ _ (by omega)]; exact a4
  · rw [hA' _ _ (by omega) (by omega), em _ _ (by omega)]; exact a5
  · rw [hA' _ _ (by omega) (by omega), em _ _ (by omega)]; exact a6
  · rw [hA' 6 0 (by omega) (by omega)] at hf
    rw [p_Fs_cg (A := A) (A' := A') (fun b b1 b2 => by funext j; exact hA' b j (by omega) (by omega)) (by omega)]
    exact p_RF_fr (by omega) (hA.1.2.2.2.2.2.2.2 f hf) (q2 f hf) (fun a b1 b2 => by funext k; exact em a k (by omega))
  · rw [em _ _ (by omega), hA' _ _ (by omega) (by omega)]; exact q3 i i1 i2
  · obtain ⟨b1, b2, b3⟩ := q6 s s1 s2
    rw [em _ _ (by omega), em _ _ (by omega), hA' _ _ (by omega) (by omega), hA' _ _ (by omega) (by omega)]
    refine ⟨b1, b2, fun i i1 i2 => ?_⟩
    rw [em _ _ (by omega), hA' _ _ (by omega) (by omega)]; exact b3 i i1 i2
  · rw [em _ _ (by omega), em _ _ (by omega), em _ _ (by omega), hA' _ _ (by omega) (by omega), hA' _ _ (by omega) (by omega), hA' _ _ (by omega) (by omega)]
    exact q7 i i1 i2
  · rw [em _ _ (by omega), hA' _ _ (by omega) (by omega)]; exact q8
  · rw [hA' _ _ (by omega) (by omega)] at w
    exact p_KI_fr hA (q9 w) (fun c c1 c2 => by funext d; exact hA' c d (by omega) (by omega)) (fun e f w => em e f (by omega))
theorem r_alter (hA : p_WF A) (hR : p_RI A M) {k w v : Int} (h : ∀ M1, p_RI (o_alter A k w v).2 M1 → p_rfr M M1 → Q (some (1, (o_alter A k w v).1)) M1) : x_Ev l E (3, 0, 0) m_X11_alter 0 [(21, 103), (0, k), (0, w), (1, v), (5, 0), (5, 0), (5, 0)] [] M Q := by
  unfold o_alter at h
  have w0 := hA.2.2.2.1
  refine u_X11_alter_0 k w v (r_PR hA hR (fun c => x_y1 (by omega) ?_) (fun c => x_y0 ?_))
  · rw [p_if_t c] at h
    rw [show 333 + 1 + 1 * k = 334 + k by omega]
    refine ⟨by omega, by omega, ?_⟩
    intro z hz
    rw [hR.2.2.2.1.2 k w c.1.1 c.1.2 c.2.1 c.2.2] at hz
    refine ⟨by omega, by omega, ?_⟩
    intro M1 hM1
    rw [hz, hM1]
    refine h _ (p_RI_100 (A' := x_wr A 100 (6 * k + w) v) hA hR (fun a j q _ => x_wr_ne _ _ (by omega)) (fun a j q1 q2 q3 => x_wr_ne _ _ (by omega)) ?_ (fun x i x1 x2 i1 i2 => ?_)) (p_rfr_w (by omega))
    · rw [x_wr_ne _ _ (by omega), x_wr_ne _ _ (by omega)]; exact hR.2.2.2.1.1
    · rw [x_wr_ne (a' := 5) _ _ (by omega)] at x2
      by_cases e : x = k ∧ i = w
      · rw [e.1, e.2, x_wr_eq, x_wr_eq]
      · rw [x_wr_ne _ _ (by omega), x_wr_ne _ _ (by omega)]; exact hR.2.2.2.1.2 x i x1 x2 i1 i2
  · rw [p_if_f c] at h
    exact r_tL hA hR (by omega) (fun M1 a b => ⟨_, rfl, h M1 a b⟩)
theorem wf_alter (hA : p_WF A) (k w v : Int) : p_WF (o_alter A k w v).2 := by
  unfold o_alter
  by_cases c : (0 ≤ k ∧ k < A 5 12) ∧ 0 ≤ w ∧ w < 6
  · rw [p_if_t c]
    exact p_WF_fr hA (fun a j h1 h2 => x_wr_ne _ _ (by omega))
  · rw [p_if_f c]; exact wf_tl hA 0
end P10
