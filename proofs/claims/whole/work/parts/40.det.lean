/-! The reference's determinants -/
def p_dl (C : Int → Int → Int) (sub : Nat → Int) (line free : Nat) : Nat → Int × Bool
  | 0 => (0, false)
  | c + 1 => if free / 2 ^ c % 2 = 1 then ((p_dl C sub line free c).1 + (if (p_dl C sub line free c).2 then -(C line c * sub c) else C line c * sub c), !(p_dl C sub line free c).2) else p_dl C sub line free c
def p_D (C : Int → Int → Int) (n : Nat) : Nat → Nat → Nat → Int
  | 0, _, _ => 1
  | k + 1, line, free => (p_dl C (fun c => p_D C n k (line + 1) (free - 2 ^ c)) line free n).1
def p_det (C : Int → Int → Int) (n : Nat) : Int := p_D C n n 0 (2 ^ n - 1)
theorem x_rem1 {s c : Nat} (hs : s < 16) (hc : c < 4) (hb : s / 2 ^ c % 2 = 1) : x_iand s (x_ixor (x_ishl 1 c) (-1)) = ((s - 2 ^ c : Nat) : Int) := by
  have h := x_all2 (P := fun s c => !(decide (s / 2 ^ c % 2 = 1)) || decide (x_iand (s : Int) (x_ixor (x_ishl 1 (c : Int)) (-1)) = ((s - 2 ^ c : Nat) : Int))) 16 4 (by decide +kernel) s hs c hc
  simp only [hb, decide_true, Bool.not_true, Bool.false_or, decide_eq_true_eq] at h
  exact h
theorem p_dl_cg {C C' : Int → Int → Int} {sub sub' : Nat → Int} {line free : Nat} (n : Nat) (h : ∀ c : Nat, c < n → C line c = C' line c ∧ sub c = sub' c) : p_dl C sub line free n = p_dl C' sub' line free n := by
  induction n with
  | zero => rfl
  | succ n ih =>
    unfold p_dl
    rw [ih (fun c hc => h c (by omega)), (h n (by omega)).1, (h n (by omega)).2]
theorem p_D_cg {C C' : Int → Int → Int} {n : Nat} : ∀ (k line free : Nat), line + k = n → (∀ i j : Nat, i < n → j < n → C i j = C' i j) → p_D C n k line free = p_D C' n k line free := by
  intro k
  induction k with
  | zero => intro line free _ _; rfl
  | succ k ih =>
    intro line free hl h
    unfold p_D
    rw [p_dl_cg n (fun c hc => ⟨h line c (by omega) hc, ih (line + 1) (free - 2 ^ c) (by omega) h⟩)]
theorem p_det_cg {C C' : Int → Int → Int} {n : Nat} (h : ∀ i j : Nat, i < n → j < n → C i j = C' i j) : p_det C n = p_det C' n := p_D_cg n 0 _ (by omega) h
section DT
variable {l : Launch} {E : xE}
theorem c_det {M : xM} {C : Int → Int → Int} {n : Nat} (hn : n ≤ 4) (hsz : M 103 17 = n) (hC : ∀ i j : Nat, i < n → j < n → M (143 + i) j = C i j) : ∀ (k line free d : Nat) (Q : Option xV → xM → Prop), line + k = n → k ≤ d → free < 16 → Q (some (1, x_W (p_D C n k line free))) M → x_Ev l E (d + 1, 0, 0) m_X11_determinant 0 [(21, 103), (0, (line : Int)), (0, (free : Int)), (5, 0), (5, 0), (5, 0), (5, 0), (5, 0), (5, 0)] [] M Q := by
  intro k
  induction k with
  | zero =>
    intro line free d Q hl hd hf hQ
    refine u_X11_determinant_0 d _ _ ⟨fun c => absurd (by omega) c, fun c => ?_⟩
    have e : x_W (p_D C n 0 line free) = 1 := by
      show x_W 1 = 1
      decide
    rw [e] at hQ
    exact hQ
  | succ k ih =>
    intro line free d Q hl hd hf hQ
    obtain ⟨d', rfl⟩ : ∃ d', d = d' + 1 := ⟨d - 1, by omega⟩
    refine u_X11_determinant_0 (d' + 1) _ _ ⟨fun c => ?_, fun c => by omega⟩
    have main : ∀ (m c : Nat), n - c ≤ m → c ≤ n → x_Ev l E (d' + 1 + 1, 0, 0) m_X11_determinant 18 [(21, 103), (0, (line : Int)), (0, (free : Int)), (1, x_W (p_dl C (fun c => p_D C n k (line + 1) (free - 2 ^ c)) line free c).1), (5, 0), (0, if (p_dl C (fun c => p_D C n k (line + 1) (free - 2 ^ c)) line free c).2 then 1 else 0), (0, (c : Int)), (5, 0), (5, 0)] [] M Q := by
      intro m
      induction m with
      | zero =>
        intro c hm hc
        have ec : c = n := by omega
        subst ec
        refine u_X11_determinant_18 (d' + 1) _ _ _ _ _ ⟨fun _ => hQ, fun q => absurd (by omega) q⟩
      | succ m im =>
        intro c hm hc
        by_cases hcn : c = n
        · exact im c (by omega) hc
        refine u_X11_determinant_18 (d' + 1) _ _ _ _ _ ⟨fun q => by omega, fun q => ?_⟩
        rw [x_bit (by omega) (by omega)]
        have eC : M (142 + 1 + 1 * (line : Int)) c = C line c := by
          rw [← hC line c (by omega) (by omega)]
          congr 1; omega
        rw [eC]
        have next := im (c + 1) (by omega) (by omega)
        refine ⟨fun hb => ?_, fun hb => ?_⟩
        · have hb1 : free / 2 ^ c % 2 = 1 := by omega
          unfold p_dl at next
          rw [if_pos hb1] at next
          refine ⟨by omega, by omega, fun hz => ?_, fun hz => ⟨by omega, by omega, ?_⟩⟩
          · rw [hz] at next
            simp only [Int.zero_mul, Int.neg_zero, ite_self, Int.add_zero] at next
            refine ⟨fun hm0 => ?_, fun hm0 => ?_⟩
            · intro v hv
              rw [x_w_id (by omega) (by omega)] at hv
              subst hv
              cases hbb : (p_dl C (fun c => p_D C n k (line + 1) (free - 2 ^ c)) line free c).2
              · rw [hbb] at hm0; exact absurd rfl hm0
              · rw [hbb] at next; exact next
            · intro v hv
              rw [x_w_id (by omega) (by omega)] at hv
              subst hv
              cases hbb : (p_dl C (fun c => p_D C n k (line + 1) (free - 2 ^ c)) line free c).2
              · rw [hbb] at next; exact next
              · rw [hbb] at hm0; exact absurd hm0 (by decide)
          · rw [x_w_id (by omega) (by omega), x_rem1 hf (by omega) hb1]
            refine ih (line + 1) (free - 2 ^ c) d' _ (by omega) (by omega) (Nat.lt_of_le_of_lt (Nat.sub_le _ _) hf) ⟨_, rfl, ?_⟩
            intro v hv
            rw [x_W_m2] at hv
            refine ⟨fun hm0 => ?_, fun hm0 => ?_⟩
            · intro v2 hv2 v3 hv3
              rw [x_w_id (by omega) (by omega)] at hv3
              subst hv
              rw [x_W_a1, x_W_a2] at hv2
              subst hv2 hv3
              cases hbb : (p_dl C (fun c => p_D C n k (line + 1) (free - 2 ^ c)) line free c).2
              · rw [hbb] at next; exact next
              · rw [hbb] at hm0; exact absurd hm0 (by decide)
            · intro v2 hv2 v3 hv3
              rw [x_w_id (by omega) (by omega)] at hv3
              subst hv
              rw [x_W_n1, x_W_a1, x_W_a2] at hv2
              subst hv2 hv3
              cases hbb : (p_dl C (fun c => p_D C n k (line + 1) (free - 2 ^ c)) line free c).2
              · rw [hbb] at hm0; exact absurd rfl hm0
              · rw [hbb] at next; exact next
        · have hb0 : ¬ free / 2 ^ c % 2 = 1 := by omega
          unfold p_dl at next
          rw [if_neg hb0] at next
          intro v hv
          rw [x_w_id (by omega) (by omega)] at hv
          subst hv
          exact next
    exact main n 0 (by omega) (by omega)
theorem x_full {n : Nat} (hn : n ≤ 4) : x_w (x_ishl 1 n - 1) = ((2 ^ n - 1 : Nat) : Int) := by
  have : n = 0 ∨ n = 1 ∨ n = 2 ∨ n = 3 ∨ n = 4 := by omega
  rcases this with q | q | q | q | q <;> subst q <;> decide +kernel
theorem c_det0 {M : xM} {Q : Option xV → xM → Prop} {C : Int → Int → Int} {n : Nat} (hn : n ≤ 4) (hsz : M 103 17 = n) (hC : ∀ i j : Nat, i < n → j < n → M (143 + i) j = C i j) (h : Q (some (1, x_W (p_det C n))) M) : x_Ev l E (6, 0, 0) m_X11_determinant 0 [(21, 103), (0, 0), (0, x_w (x_ishl 1 (M 103 17) - 1)), (5, 0), (5, 0), (5, 0), (5, 0), (5, 0), (5, 0)] [] M Q := by
  rw [hsz, x_full hn]
  have : 2 ^ n ≤ 2 ^ 4 := Nat.pow_le_pow_right (by omega) hn
  exact c_det (l := l) (E := E) hn hsz hC n 0 (2 ^ n - 1) 5 Q (by omega) (by omega) (by omega) h
/-- a column replaced by the right side -/
def p_rp (C : Int → Int → Int) (R : Int → Int) (c : Int) : Int → Int → Int := fun i j => if j = c then R i else C i j
theorem c_swapped {M0 : xM} {Q : Option xV → xM → Prop} {C : Int → Int → Int} {R : Int → Int} {n : Nat} (hn : n ≤ 4) (hsz : M0 103 17 = n) (hC : ∀ i j : Nat, i < n → j < n → M0 (143 + i) j = C i j) (hR : ∀ i : Nat, i < n → M0 147 i = R i) {c : Int} (hc : 0 ≤ c) (hc2 : c < n) (h : Q (some (1, x_W (p_det (p_rp C R c) n))) M0) : x_Ev l E (7, 0, 0) m_X11_swapped 0 [(21, 103), (0, c), (5, 0), (5, 0), (5, 0), (5, 0), (5, 0)] [] M0 Q := by
  -- the second loop: what is swapped from i on comes back
  have back : ∀ (m : Nat) (i : Int) (M : xM), n - i ≤ m → 0 ≤ i → i ≤ n → (∀ a k, M a k = if 143 + i ≤ a ∧ a < 143 + n ∧ k = c then M0 147 (a - 143) else if a = 147 ∧ i ≤ k ∧ k < n then M0 (143 + k) c else M0 a k) → x_Ev l E (7, 0, 0) m_X11_swapped 63 [(21, 103), (0, c), (1, x_W (p_det (p_rp C R c) n)), (5, 0), (0, i), (5, 0), (5, 0)] [] M Q := by
    have fin : ∀ (i : Int) (M : xM), i = n → (∀ a k, M a k = if 143 + i ≤ a ∧ a < 143 + n ∧ k = c then M0 147 (a - 143) else if a = 147 ∧ i ≤ k ∧ k < n then M0 (143 + k) c else M0 a k) → Q (some (1, x_W (p_det (p_rp C R c) n))) M := by
      intro i M hi hM
      have : M = M0 := by
        funext a k
        rw [hM a k, if_neg (by omega), if_neg (by omega)]
      rw [this]; exact h
    intro m
    induction m with
    | zero =>
      intro i M hm hi hi2 hM
      have e17 : M 103 17 = n := by rw [hM, if_neg (by omega), if_neg (by omega)]; exact hsz
      exact u_X11_swapped_63 c _ i ⟨fun _ => fin i M (by omega) hM, fun q => by omega⟩
    | succ m ih =>
      intro i M hm hi hi2 hM
      by_cases hin : i = n
      · exact ih i M (by omega) hi hi2 hM
      have e17 : M 103 17 = n := by rw [hM, if_neg (by omega), if_neg (by omega)]; exact hsz
      refine u_X11_swapped_63 c _ i ⟨fun q => by omega, fun q => ⟨by omega, by omega, ?_⟩⟩
      rw [show 142 + 1 + 1 * i = 143 + i by omega]
      intro v hv
      refine ⟨by omega, by omega, by omega, ?_⟩
      intro M1 hM1
      refine ⟨by omega, ?_⟩
      intro M2 hM2 v2 hv2
      rw [x_w_id (by omega) (by omega)] at hv2
      subst hv2
      refine ih (i + 1) M2 (by omega) (by omega) (by omega) ?_
      intro a k
      have ev : v = M0 147 i := by rw [hv, hM, if_pos (by omega), show 143 + i - 143 = i by omega]
      have e7 : M 147 i = M0 (143 + i) c := by rw [hM, if_neg (by omega), if_pos (by omega)]
      rw [hM2]
      by_cases c1 : a = 147 ∧ k = i
      · rw [c1.1, c1.2, x_wr_eq, if_neg (by omega), if_neg (by omega), ev]
      · rw [x_wr_ne _ _ c1, hM1]
        by_cases c2 : a = 143 + i ∧ k = c
        · rw [c2.1, c2.2, x_wr_eq, if_neg (by omega), if_neg (by omega), e7]
        · rw [x_wr_ne _ _ c2, hM a k]
          by_cases c3 : 143 + i ≤ a ∧ a < 143 + n ∧ k = c
          · rw [if_pos c3, if_pos (by omega)]
          · rw [if_neg c3, if_neg (c := 143 + (i + 1) ≤ a ∧ a < 143 + (n : Int) ∧ k = c) (by omega)]
            exact x_ite_cg (by omega) _ _
  have main : ∀ (m : Nat) (i : Int) (M : xM), n - i ≤ m → 0 ≤ i → i ≤ n → (∀ a k, M a k = if 143 ≤ a ∧ a < 143 + i ∧ k = c then M0 147 (a - 143) else if a = 147 ∧ 0 ≤ k ∧ k < i then M0 (143 + k) c else M0 a k) → x_Ev l E (7, 0, 0) m_X11_swapped 2 [(21, 103), (0, c), (0, i), (5, 0), (5, 0), (5, 0), (5, 0)] [] M Q := by
    have fin : ∀ (i : Int) (M : xM), i = n → (∀ a k, M a k = if 143 ≤ a ∧ a < 143 + i ∧ k = c then M0 147 (a - 143) else if a = 147 ∧ 0 ≤ k ∧ k < i then M0 (143 + k) c else M0 a k) → x_Ev l E (6, 0, 0) m_X11_determinant 0 [(21, 103), (0, 0), (0, x_w (x_ishl 1 (M 103 17) - 1)), (5, 0), (5, 0), (5, 0), (5, 0), (5, 0), (5, 0)] [] M (fun r zM1 => ∃ zr2, r = some (1, zr2) ∧ x_Ev l E (7, 0, 0) m_X11_swapped 63 [(21, 103), (0, c), (1, zr2), (5, 0), (0, 0), (5, 0), (5, 0)] [] zM1 Q) := by
      intro i M hi hM
      have e17 : M 103 17 = n := by rw [hM, if_neg (by omega), if_neg (by omega)]; exact hsz
      refine c_det0 (C := p_rp C R c) hn e17 (fun a b ha hb => ?_) ⟨_, rfl, back n 0 M (by omega) (by omega) (by omega) (fun a k => ?_)⟩
      · rw [hM]
        unfold p_rp
        by_cases e : (b : Int) = c
        · rw [if_pos (by omega), if_pos e, show 143 + (a : Int) - 143 = a by omega]; exact hR a ha
        · rw [if_neg (by omega), if_neg (by omega), if_neg e]; exact hC a b ha hb
      · rw [hM a k]
        by_cases c3 : 143 ≤ a ∧ a < 143 + i ∧ k = c
        · rw [if_pos c3, if_pos (by omega)]
        · rw [if_neg c3, if_neg (c := 143 + 0 ≤ a ∧ a < 143 + (n : Int) ∧ k = c) (by omega)]
          exact x_ite_cg (by omega) _ _
    intro m
    induction m with
    | zero =>
      intro i M hm hi hi2 hM
      have e17 : M 103 17 = n := by rw [hM, if_neg (by omega), if_neg (by omega)]; exact hsz
      exact u_X11_swapped_2 c i ⟨fun _ => fin i M (by omega) hM, fun q => by omega⟩
    | succ m ih =>
      intro i M hm hi hi2 hM
      by_cases hin : i = n
      · exact ih i M (by omega) hi hi2 hM
      have e17 : M 103 17 = n := by rw [hM, if_neg (by omega), if_neg (by omega)]; exact hsz
      refine u_X11_swapped_2 c i ⟨fun q => by omega, fun q => ⟨by omega, by omega, ?_⟩⟩
      rw [show 142 + 1 + 1 * i = 143 + i by omega]
      intro v hv
      refine ⟨by omega, by omega, by omega, ?_⟩
      intro M1 hM1
      refine ⟨by omega, ?_⟩
      intro M2 hM2 v2 hv2
      rw [x_w_id (by omega) (by omega)] at hv2
      subst hv2
      refine ih (i + 1) M2 (by omega) (by omega) (by omega) ?_
      intro a k
      have ev : v = M0 (143 + i) c := by rw [hv, hM, if_neg (by omega), if_neg (by omega)]
      have e7 : M 147 i = M0 147 i := by rw [hM, if_neg (by omega), if_neg (by omega)]
      rw [hM2]
      by_cases c1 : a = 147 ∧ k = i
      · rw [c1.1, c1.2, x_wr_eq, if_neg (by omega), if_pos (by omega), ev]
      · rw [x_wr_ne _ _ c1, hM1]
        by_cases c2 : a = 143 + i ∧ k = c
        · rw [c2.1, c2.2, x_wr_eq, if_pos (by omega), e7, show 143 + i - 143 = i by omega]
        · rw [x_wr_ne _ _ c2, hM a k]
          by_cases c3 : 143 ≤ a ∧ a < 143 + i ∧ k = c
          · rw [if_pos c3, if_pos (by omega)]
          · rw [if_neg c3, if_neg (c := 143 ≤ a ∧ a < 143 + (i + 1) ∧ k = c) (by omega)]
            exact x_ite_cg (by omega) _ _
  refine u_X11_swapped_0 c (main n 0 M0 (by omega) (by omega) (by omega) (fun a k => ?_))
  rw [if_neg (by omega), if_neg (by omega)]
theorem c_solves {M0 : xM} {Q : Option xV → xM → Prop} {C : Int → Int → Int} {R : Int → Int} {n : Nat} (hn : n ≤ 4) (hsz : M0 103 17 = n) (hC : ∀ i j : Nat, i < n → j < n → M0 (143 + i) j = C i j) (hR : ∀ i : Nat, i < n → M0 147 i = R i) (hb : -1000000000000000000 ≤ p_det C n ∧ p_det C n ≤ 1000000000000000000) (hbc : ∀ c : Nat, c < n → -1000000000000000000 ≤ p_det (p_rp C R c) n ∧ p_det (p_rp C R c) n ≤ 1000000000000000000)
    (h0 : p_det C n = 0 → Q (some (1, 0)) M0) (h : p_det C n ≠ 0 → ∀ M1 : xM, (∀ c : Nat, c < n → M1 148 c = p_det (p_rp C R c) n * p_sg (p_det C n)) → (∀ a, a ≠ 148 → M1 a = M0 a) → Q (some (1, p_det C n * p_sg (p_det C n))) M1) : x_Ev l E (8, 0, 0) m_X11_solves 0 [(21, 103), (5, 0), (5, 0), (5, 0)] [] M0 Q := by
  have main : p_det C n ≠ 0 → ∀ (m i : Nat) (M : xM), n - i ≤ m → i ≤ n → (∀ c : Nat, c < i → M 148 c = p_det (p_rp C R c) n * p_sg (p_det C n)) → (∀ a, a ≠ 148 → M a = M0 a) → x_Ev l E (8, 0, 0) m_X11_solves 24 [(21, 103), (1, p_det C n), (5, 0), (0, (i : Int))] [] M Q := by
    intro hd
    have fin : ∀ (i : Nat) (M : xM), i = n → (∀ c : Nat, c < i → M 148 c = p_det (p_rp C R c) n * p_sg (p_det C n)) → (∀ a, a ≠ 148 → M a = M0 a) → (0 ≤ p_det C n → Q (some (1, p_det C n)) M) ∧ (¬ 0 ≤ p_det C n → Q (some (1, (x_W (-p_det C n)))) M) := by
      intro i M hi h1 h2
      have hq := h hd M (fun c hc => h1 c (by omega)) h2
      unfold p_sg at hq
      refine ⟨fun q => ?_, fun q => ?_⟩
      · rw [if_neg (by omega), Int.mul_one] at hq; exact hq
      · rw [if_pos (by omega)] at hq
        rw [x_W_id (by omega) (by omega), show -p_det C n = p_det C n * -1 by omega]; exact hq
    intro m
    induction m with
    | zero =>
      intro i M hm hi h1 h2
      have e17 : M 103 17 = n := by rw [h2 103 (by omega)]; exact hsz
      exact u_X11_solves_24 _ _ ⟨fun _ => fin i M (by omega) h1 h2, fun q => absurd (by omega) q⟩
    | succ m ih =>
      intro i M hm hi h1 h2
      by_cases hin : i = n
      · exact ih i M (by omega) hi h1 h2
      have e17 : M 103 17 = n := by rw [h2 103 (by omega)]; exact hsz
      have bd := hbc i (by omega)
      have step : ∀ (M2 : xM), M2 = x_wr M 148 i (p_det (p_rp C R i) n * p_sg (p_det C n)) → ∀ v : Int, v = x_w ((i : Int) + 1) → x_Ev l E (8, 0, 0) m_X11_solves 24 [(21, 103), (1, p_det C n), (5, 0), (0, v)] [] M2 Q := by
        intro M2 hM2 v hv
        rw [x_w_id (by omega) (by omega)] at hv
        subst hv hM2
        refine ih (i + 1) _ (by omega) (by omega) (fun c hc => ?_) (fun a ha => ?_)
        · by_cases e : c = i
          · rw [e, x_wr_eq]
          · rw [x_wr_ne _ _ (by omega)]; exact h1 c (by omega)
        · rw [x_wr_fr _ _ _ ha]; exact h2 a ha
      have hC' : ∀ a b : Nat, a < n → b < n → M (143 + a) b = C a b := fun a b ha hb => by rw [h2 _ (by omega)]; exact hC a b ha hb
      have hR' : ∀ a : Nat, a < n → M 147 a = R a := fun a ha => by rw [h2 147 (by omega)]; exact hR a ha
      refine u_X11_solves_24 _ _ ⟨fun q => by omega, fun q => ⟨fun d => ?_, fun d => ?_⟩⟩
      · refine c_swapped hn e17 hC' hR' (by omega) (by omega) ⟨_, rfl, by omega, ?_⟩
        intro M2 hM2
        refine step M2 ?_
        rw [hM2, x_W_id (by omega) (by omega)]
        unfold p_sg
        rw [if_neg (by omega), Int.mul_one]
      · refine c_swapped hn e17 hC' hR' (by omega) (by omega) ⟨_, rfl, by omega, ?_⟩
        intro M2 hM2
        refine step M2 ?_
        rw [hM2, x_W_n1, x_W_id (by omega) (by omega)]
        unfold p_sg
        rw [if_pos (by omega), show p_det (p_rp C R i) n * -1 = -p_det (p_rp C R i) n by omega]
  refine u_X11_solves_0 (c_det0 hn hsz hC ⟨_, rfl, ?_⟩)
  rw [x_W_id (by omega) (by omega)]
  exact ⟨fun q => main q n 0 M0 (by omega) (by omega) (fun c hc => by omega) (fun _ _ => rfl), fun q => h0 q⟩
end DT
