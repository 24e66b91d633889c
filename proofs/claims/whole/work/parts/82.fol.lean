/-! Followers change: what class and reference do to their numbers -/
def p_setK (M : xM) (w km : Int) : xM := x_wr (x_wr M w 0 (km / 10)) w 1 (km % 10)
def p_fill (M : xM) (w row code base least bound : Int) : xM := x_wr (x_wr (x_wr (x_wr M (w + 2) (3 * row + 2) (code % base + least)) (w + 2) (3 * row + 1) (code / base % base + least)) (w + 2) (3 * row) (code / base / base % base + least)) (w + 3) row bound
def p_ft (k : Int) : Int := if k < 3 then 10 else if k < 6 then 1 else 0
def p_ftr (M : xM) (w n : Int) : xM := fun a k => if a = w + 1 ∧ 0 ≤ k ∧ k < n then p_ft k else M a k
def p_beg (M : xM) (w km g : Int) : xM := p_fill (p_ftr (x_wr (x_wr (p_setK M w km) w 2 g) w 3 1) w 9) w 0 0 3 1 10
def p_dro (M : xM) (w row r : Int) : xM := fun a k => if a = w + 2 ∧ 3 * row ≤ k ∧ k < 3 * r then M a (k + 3) else if a = w + 3 ∧ row ≤ k ∧ k < r then M a (k + 1) else M a k
def p_drop (M : xM) (w row : Int) : xM := x_wr (p_dro M w row (M w 3 - 1)) w 3 (M w 3 - 1)
theorem x_td {a b : Int} (ha : 0 ≤ a) : a.tdiv b = a / b := Int.tdiv_eq_ediv_of_nonneg ha
theorem x_tm0 {a b : Int} (ha : 0 ≤ a) : a.tmod b = a % b := Int.tmod_eq_emod_of_nonneg ha
section FO
variable {l : Launch} {E : xE} {Q : Option xV → xM → Prop} {M : xM}
theorem c_setKind {w km : Int} (hk : 0 ≤ km ∧ km < 70) (h : Q none (p_setK M w km)) : x_Ev l E (1, 0, 0) m_X1_setKind 0 [(11, w), (0, km)] [] M Q := by
  refine u_X1_setKind_0 w km ?_
  intro M1 hM1 M2 hM2
  rw [x_td hk.1, x_w_id (by omega) (by omega)] at hM1
  rw [x_tm0 hk.1, hM1] at hM2
  rw [hM2]
  exact h
theorem c_fillRow {w row code base least bound : Int} (hr : 0 ≤ row ∧ row < 4) (hc : 0 ≤ code ∧ code < 1000) (hb : 1 ≤ base ∧ base ≤ 7) (hl : -3 ≤ least ∧ least ≤ 3) (h : Q none (p_fill M w row code base least bound)) : x_Ev l E (1, 0, 0) m_X1_fillRow 0 [(11, w), (0, row), (0, code), (0, base), (0, least), (0, bound), (5, 0), (5, 0)] [] M Q := by
  have ix : ∀ g : Int, 0 ≤ g → g < 3 → x_w (x_w (row * 3) + g) = 3 * row + g := fun g a b => by unfold x_w; omega
  have st : ∀ c : Int, 0 ≤ c → c < 1000 → (0 ≤ c / base ∧ c / base < 1000) ∧ x_w (c % base + least) = c % base + least := by
    intro c a b
    have h1 := Int.ediv_nonneg a (show 0 ≤ base by omega)
    have h2 := Int.ediv_le_self base a
    have h3 := Int.emod_nonneg c (show base ≠ 0 by omega)
    have h4 := Int.emod_lt_of_pos c (show 0 < base by omega)
    exact ⟨by omega, x_w_id (by omega) (by omega)⟩
  obtain ⟨a1, a2⟩ := st code hc.1 hc.2
  obtain ⟨b1, b2⟩ := st (code / base) a1.1 a1.2
  obtain ⟨c1, c2⟩ := st (code / base / base) b1.1 b1.2
  refine u_X1_fillRow_0 w row code base least bound ?_
  refine u_X1_fillRow_6 w row code base least bound code 2 ⟨fun d => by omega, fun d => ⟨fun d2 => by omega, fun d2 => ⟨by omega, ?_⟩⟩⟩
  rw [ix 2 (by omega) (by omega), x_td hc.1, x_tm0 hc.1, a2, x_w_id (x := code / base) (by omega) (by omega)]
  refine ⟨by omega, ?_⟩
  intro M1 hM1
  refine ⟨by omega, ?_⟩
  intro v hv v2 hv2
  rw [hv, hv2]
  refine u_X1_fillRow_6 w row code base least bound _ 1 ⟨fun d => by omega, fun d => ⟨fun d2 => by omega, fun d2 => ⟨by omega, ?_⟩⟩⟩
  rw [ix 1 (by omega) (by omega), x_td a1.1, x_tm0 a1.1, b2, x_w_id (x := code / base / base) (by omega) (by omega)]
  refine ⟨by omega, ?_⟩
  intro M2 hM2
  refine ⟨by omega, ?_⟩
  intro v hv v2 hv2
  rw [hv, hv2]
  refine u_X1_fillRow_6 w row code base least bound _ 0 ⟨fun d => by omega, fun d => ⟨fun d2 => by omega, fun d2 => ⟨by omega, ?_⟩⟩⟩
  rw [ix 0 (by omega) (by omega), x_td b1.1, x_tm0 b1.1, c2, x_w_id (x := code / base / base / base) (by omega) (by omega), Int.add_zero]
  refine ⟨by omega, ?_⟩
  intro M3 hM3
  refine ⟨by omega, ?_⟩
  intro v hv v2 hv2
  rw [hv, hv2]
  refine u_X1_fillRow_6 w row code base least bound _ (-1) ⟨fun _ => ⟨hr, ?_⟩, fun d => absurd (by decide) d⟩
  intro M4 hM4
  rw [hM3, hM2, hM1] at hM4
  rw [hM4]
  exact h
theorem c_begin {w km g : Int} (hk : 0 ≤ km ∧ km < 70) (h : Q none (p_beg M w km g)) : x_Ev l E (2, 0, 0) m_X1_begin 0 [(11, w), (0, km), (0, g), (5, 0)] [] M Q := by
  refine u_X1_begin_0 w km g (c_setKind hk ⟨rfl, ?_⟩)
  intro M1 hM1 M2 hM2
  have main : ∀ (m : Nat) (i : Int), 9 - i ≤ m → 0 ≤ i → i ≤ 9 → x_Ev l E (2, 0, 0) m_X1_begin 17 [(11, w), (0, km), (0, g), (0, i)] [] (p_ftr M2 w i) Q := by
    intro m
    induction m with
    | zero =>
      intro i hm h0 hi
      have ei : i = 9 := by omega
      refine u_X1_begin_17 w km g i ⟨fun _ => ?_, fun d => by omega⟩
      refine c_fillRow (by omega) (by omega) (by omega) (by omega) ⟨rfl, ?_⟩
      rw [ei, hM2, hM1]
      exact h
    | succ m ih =>
      intro i hm h0 hi
      by_cases e : i = 9
      · exact ih i (by omega) h0 hi
      have d3 : i.tdiv 3 = i / 3 := x_td h0
      refine u_X1_begin_17 w km g i ⟨fun d => by omega, fun d => ?_⟩
      rw [d3, x_w_id (by omega) (by omega)]
      refine ⟨by omega, by omega, ?_⟩
      intro M3 hM3 v hv
      rw [x_w_id (by omega) (by omega)] at hv
      have e3 : M3 = p_ftr M2 w (i + 1) := by
        rw [hM3]
        funext a k
        by_cases c : a = w + 1 ∧ k = i
        · rw [c.1, c.2, x_wr_eq]
          unfold p_ftr
          rw [if_pos (by omega)]
          have : i = 0 ∨ i = 1 ∨ i = 2 ∨ i = 3 ∨ i = 4 ∨ i = 5 ∨ i = 6 ∨ i = 7 ∨ i = 8 := by omega
          rcases this with z | z | z | z | z | z | z | z | z <;> rw [z] <;> decide
        · rw [x_wr_ne _ _ c]
          unfold p_ftr
          by_cases c2 : a = w + 1 ∧ 0 ≤ k ∧ k < i
          · rw [if_pos c2, if_pos (by omega)]
          · rw [if_neg c2, if_neg (by omega)]
      rw [e3, hv]
      exact ih (i + 1) (by omega) (by omega) (by omega)
  have e0 : p_ftr M2 w 0 = M2 := by
    funext a k
    unfold p_ftr
    rw [if_neg (by omega)]
  have := main 9 0 (by omega) (by omega) (by omega)
  rw [e0] at this
  exact this
theorem c_dropRow {w row : Int} (h3 : 1 ≤ M w 3 ∧ M w 3 ≤ 4) (hr : 0 ≤ row ∧ row < M w 3) (h : Q none (p_drop M w row)) : x_Ev l E (2, 0, 0) m_X1_dropRow 0 [(11, w), (0, row), (5, 0)] [] M Q := by
  have er : ∀ r, p_dro M w row r w 3 = M w 3 := by
    intro r
    unfold p_dro
    rw [if_neg (by omega), if_neg (by omega)]
  have main : ∀ (m : Nat) (r : Int), M w 3 - 1 - r ≤ m → row ≤ r → r ≤ M w 3 - 1 → x_Ev l E (2, 0, 0) m_X1_dropRow 2 [(11, w), (0, row), (0, r)] [] (p_dro M w row r) Q := by
    intro m
    induction m with
    | zero =>
      intro r hm h0 hi
      have ei : r = M w 3 - 1 := by omega
      refine u_X1_dropRow_2 w row r ⟨fun _ => ?_, fun d => absurd (by rw [er, x_w_id (by omega) (by omega)]; omega) d⟩
      intro M1 hM1
      rw [er, x_w_id (by omega) (by omega), ei] at hM1
      rw [hM1]
      exact h
    | succ m ih =>
      intro r hm h0 hi
      by_cases e : r = M w 3 - 1
      · exact ih r (by omega) h0 hi
      refine u_X1_dropRow_2 w row r ⟨fun d => by rw [er, x_w_id (by omega) (by omega)] at d; omega, fun d => ?_⟩
      rw [x_w_id (x := r + 1) (by omega) (by omega), x_w_id (x := (r + 1) * 3) (by omega) (by omega), x_w_id (x := r * 3) (by omega) (by omega)]
      refine ⟨by omega, ?_⟩
      intro M1 hM1
      refine ⟨by omega, by omega, ?_⟩
      intro M2 hM2 v hv
      have e2 : M2 = p_dro M w row (r + 1) := by
        rw [hM2]
        funext a k
        by_cases c : a = w + 3 ∧ k = r
        · rw [c.1, c.2, x_wr_eq, hM1]
          unfold x_cpy p_dro
          rw [if_neg (by omega), if_neg (by omega), if_neg (by omega), if_neg (by omega), if_pos (by omega)]
        · rw [x_wr_ne _ _ c, hM1]
          unfold x_cpy
          by_cases c2 : a = w + 2 ∧ r * 3 ≤ k ∧ k < r * 3 + 3
          · rw [if_pos c2]
            unfold p_dro
            rw [if_neg (by omega), if_neg (by omega), if_pos (by omega), c2.1, show (r + 1) * 3 + (k - r * 3) = k + 3 by omega]
          · rw [if_neg c2]
            unfold p_dro
            by_cases c3 : a = w + 2 ∧ 3 * row ≤ k ∧ k < 3 * r
            · rw [if_pos c3, if_pos (by omega)]
            · by_cases c4 : a = w + 3 ∧ row ≤ k ∧ k < r
              · rw [if_neg c3, if_pos c4, if_neg (by omega), if_pos (by omega)]
              · rw [if_neg c3, if_neg c4, if_neg (by omega), if_neg (by omega)]
      rw [e2, hv]
      exact ih (r + 1) (by omega) (by omega) (by omega)
  have e0 : p_dro M w row row = M := by
    funext a k
    unfold p_dro
    rw [if_neg (by omega), if_neg (by omega)]
  have := main (M w 3).toNat row (by omega) (by omega) (by omega)
  rw [e0] at this
  exact u_X1_dropRow_0 w row this
/-- a follower's cells in the reference -/
def p_rF (f a k : Int) : Prop := (104 ≤ a ∧ a ≤ 107 ∧ k = f) ∨ (110 + 4 * f ≤ a ∧ a ≤ 112 + 4 * f) ∨ (123 + 5 * f ≤ a ∧ a ≤ 126 + 5 * f) ∨ a = 138 + f
theorem c_numbers {f row code base least : Int} (hf : 0 ≤ f ∧ f < 3) (hr : 0 ≤ row ∧ row < 4) (hc : 0 ≤ code ∧ code < 1000) (hb : 1 ≤ base ∧ base ≤ 7) (hl : -3 ≤ least ∧ least ≤ 3) (hg : 1 ≤ M 106 f ∧ M 106 f ≤ 3) (h : ∀ M1 : xM, (∀ j, 0 ≤ j → j < M 106 f → M1 (123 + 5 * f + row) j = (if j = 2 then code % base + least else if j = 1 then code / base % base + least else code / base / base % base + least)) → (∀ a k, a ≠ 123 + 5 * f + row → M1 a k = M a k) → Q none M1) : x_Ev l E (1, 0, 0) m_X11_numbers 0 [(21, 103), (0, f), (0, row), (0, code), (0, base), (0, least), (5, 0), (5, 0)] [] M Q := by
  have st : ∀ c : Int, 0 ≤ c → c < 1000 → (0 ≤ c / base ∧ c / base < 1000) ∧ x_w (c % base + least) = c % base + least := by
    intro c a b
    have h1 := Int.ediv_nonneg a (show 0 ≤ base by omega)
    have h2 := Int.ediv_le_self base a
    have h3 := Int.emod_nonneg c (show base ≠ 0 by omega)
    have h4 := Int.emod_lt_of_pos c (show 0 < base by omega)
    exact ⟨by omega, x_w_id (by omega) (by omega)⟩
  have step : ∀ (c j : Int) (M' : xM), 0 ≤ c → c < 1000 → 0 ≤ j → j < 3 → M' 106 f = M 106 f → (∀ M1 : xM, (j < M 106 f → M1 (123 + 5 * f + row) j = c % base + least) → (∀ a k, ¬ (a = 123 + 5 * f + row ∧ k = j) → M1 a k = M' a k) → x_Ev l E (1, 0, 0) m_X11_numbers 6 [(21, 103), (0, f), (0, row), (0, code), (0, base), (0, least), (0, c / base), (0, j - 1)] [] M1 Q) → x_Ev l E (1, 0, 0) m_X11_numbers 6 [(21, 103), (0, f), (0, row), (0, code), (0, base), (0, least), (0, c), (0, j)] [] M' Q := by
    intro c j M' c1 c2 j1 j2 hM hk
    obtain ⟨a1, a2⟩ := st c c1 c2
    refine u_X11_numbers_6 f row code base least c j ⟨fun d => by omega, fun d => ⟨by omega, by omega, by omega, fun d2 => ⟨by omega, ?_⟩, fun d2 => ⟨by omega, by omega, ?_⟩⟩⟩
    · intro M1 hM1
      refine ⟨by omega, ?_⟩
      intro v hv v2 hv2
      rw [x_td c1, x_w_id (by omega) (by omega)] at hv
      rw [x_w_id (by omega) (by omega)] at hv2
      rw [hv, hv2, show j + (-1) = j - 1 by omega]
      refine hk M1 (fun q => by rw [hM] at d2; omega) (fun a k q => ?_)
      rw [hM1]
      exact x_wr_ne _ _ (by omega)
    · rw [x_tm0 c1, a2]
      intro M1 hM1
      refine ⟨by omega, ?_⟩
      intro v hv v2 hv2
      rw [x_td c1, x_w_id (by omega) (by omega)] at hv
      rw [x_w_id (by omega) (by omega)] at hv2
      rw [hv, hv2, show j + (-1) = j - 1 by omega]
      refine hk M1 (fun q => ?_) (fun a k q => ?_)
      · rw [hM1, show (121 + 1 + 5 * f) + 1 + 1 * row = 123 + 5 * f + row by omega, x_wr_eq]
      · rw [hM1]
        exact x_wr_ne _ _ (by omega)
  obtain ⟨a1, a2⟩ := st code hc.1 hc.2
  obtain ⟨b1, b2⟩ := st (code / base) a1.1 a1.2
  refine u_X11_numbers_0 f row code base least ?_
  refine step code 2 M hc.1 hc.2 (by omega) (by omega) rfl (fun M1 p1 p2 => ?_)
  refine step _ 1 M1 a1.1 a1.2 (by omega) (by omega) (by rw [p2 _ _ (by omega)]) (fun M2 q1 q2 => ?_)
  refine step _ 0 M2 b1.1 b1.2 (by omega) (by omega) (by rw [q2 _ _ (by omega), p2 _ _ (by omega)]) (fun M3 r1 r2 => ?_)
  refine u_X11_numbers_6 f row code base least _ _ ⟨fun _ => ?_, fun d => absurd (by omega) d⟩
  refine h M3 (fun j j1 j2 => ?_) (fun a k q => ?_)
  · have : j = 0 ∨ j = 1 ∨ j = 2 := by omega
    rcases this with e | e | e
    · rw [e] at j2 ⊢
      rw [if_neg (by omega), if_neg (by omega)]
      exact r1 (by omega)
    · rw [e] at j2 ⊢
      rw [if_neg (by omega), if_pos rfl, r2 _ _ (by omega)]
      exact q1 (by omega)
    · rw [e] at j2 ⊢
      rw [if_pos rfl, r2 _ _ (by omega), q2 _ _ (by omega)]
      exact p1 (by omega)
  · rw [r2 _ _ (by omega), q2 _ _ (by omega), p2 _ _ (by omega)]
theorem c_takesOut {f row R : Int} (hf : 0 ≤ f ∧ f < 3) (h3 : M 107 f = R) (hR : 1 ≤ R ∧ R ≤ 4) (hr : 0 ≤ row ∧ row < R) (h : ∀ M1 : xM, M1 107 f = R - 1 → (∀ i j, 0 ≤ i → i < R - 1 → 0 ≤ j → j < 3 → M1 (123 + 5 * f + i) j = M (123 + 5 * f + (if i < row then i else i + 1)) j) → (∀ i, 0 ≤ i → i < R - 1 → M1 (138 + f) i = M (138 + f) (if i < row then i else i + 1)) → (∀ a k, ¬ p_rF f a k → M1 a k = M a k) → (∀ a k, a ≠ 107 → a < 123 → M1 a k = M a k) → Q none M1) : x_Ev l E (1, 0, 0) m_X11_takesOut 0 [(21, 103), (0, f), (0, row), (5, 0), (5, 0)] [] M Q := by
  have main : ∀ (m : Nat) (r : Int) (M' : xM), R - 1 - r ≤ m → row ≤ r → r ≤ R - 1 → (∀ i j, 0 ≤ i → i < 4 → 0 ≤ j → j < 3 → M' (123 + 5 * f + i) j = M (123 + 5 * f + (if row ≤ i ∧ i < r then i + 1 else i)) j) → (∀ i, 0 ≤ i → i < 4 → M' (138 + f) i = M (138 + f) (if row ≤ i ∧ i < r then i + 1 else i)) → (∀ a k, ¬ (123 + 5 * f ≤ a ∧ a ≤ 126 + 5 * f) → a ≠ 138 + f → M' a k = M a k) → x_Ev l E (1, 0, 0) m_X11_takesOut 2 [(21, 103), (0, f), (0, row), (0, r), (5, 0)] [] M' Q := by
    intro m
    induction m with
    | zero =>
      intro r M' hm h0 hi g1 g2 g3
      have e7 : M' 107 f = R := by rw [g3 _ _ (by omega) (by omega)]; exact h3
      refine u_X11_takesOut_2 f row r ⟨by omega, fun _ => ⟨by omega, by omega, ?_⟩, fun d => absurd (by rw [e7, x_w_id (by omega) (by omega)]; omega) d⟩
      intro M1 hM1
      rw [e7, x_w_id (by omega) (by omega)] at hM1
      refine h M1 (by rw [hM1, x_wr_eq]) (fun i j i1 i2 j1 j2 => ?_) (fun i i1 i2 => ?_) (fun a k q => ?_) (fun a k q1 q2 => ?_)
      · rw [hM1, x_wr_ne _ _ (by omega), g1 i j i1 (by omega) j1 j2]
        by_cases c : i < row
        · rw [if_neg (by omega), if_pos c]
        · rw [if_pos (by omega), if_neg c]
      · rw [hM1, x_wr_ne _ _ (by omega), g2 i i1 (by omega)]
        by_cases c : i < row
        · rw [if_neg (by omega), if_pos c]
        · rw [if_pos (by omega), if_neg c]
      · unfold p_rF at q
        rw [hM1, x_wr_ne _ _ (by omega), g3 _ _ (by omega) (by omega)]
      · rw [hM1, x_wr_ne _ _ (by omega), g3 _ _ (by omega) (by omega)]
    | succ m ih =>
      intro r M' hm h0 hi g1 g2 g3
      by_cases e : r = R - 1
      · exact ih r M' (by omega) h0 hi g1 g2 g3
      have e7 : M' 107 f = R := by rw [g3 _ _ (by omega) (by omega)]; exact h3
      refine u_X11_takesOut_2 f row r ⟨by omega, fun d => by rw [e7, x_w_id (by omega) (by omega)] at d; omega, fun d => ?_⟩
      have inner : ∀ (m' : Nat) (j : Int) (M2 : xM), 3 - j ≤ m' → 0 ≤ j → j ≤ 3 → (∀ i, 0 ≤ i → i < j → M2 (123 + 5 * f + r) i = M' (123 + 5 * f + (r + 1)) i) → (∀ a k, a ≠ 123 + 5 * f + r → M2 a k = M' a k) → x_Ev l E (1, 0, 0) m_X11_takesOut 17 [(21, 103), (0, f), (0, row), (0, r), (0, j)] [] M2 Q := by
        intro m'
        induction m' with
        | zero =>
          intro j M2 hm' j0 j3 p1 p2
          refine u_X11_takesOut_17 f row r j ⟨fun _ => ?_, fun q => by omega⟩
          rw [x_w_id (x := r + 1) (by omega) (by omega), show 137 + 1 + 1 * f = 138 + f by omega]
          refine ⟨by omega, by omega, by omega, by omega, ?_⟩
          intro M3 hM3 v hv
          rw [hv]
          refine ih (r + 1) M3 (by omega) (by omega) (by omega) (fun i j i1 i2 j1 j2 => ?_) (fun i i1 i2 => ?_) (fun a k q1 q2 => ?_)
          · rw [hM3, x_wr_ne _ _ (by omega)]
            by_cases c : i = r
            · rw [c, p1 j j1 (by omega), g1 (r + 1) j (by omega) (by omega) j1 j2, if_neg (by omega), if_pos (by omega)]
            · rw [p2 _ _ (by omega), g1 i j i1 i2 j1 j2]
              by_cases c2 : row ≤ i ∧ i < r
              · rw [if_pos c2, if_pos (by omega)]
              · rw [if_neg c2, if_neg (by omega)]
          · by_cases c : i = r
            · rw [c, hM3, x_wr_eq, p2 _ _ (by omega), g2 (r + 1) (by omega) (by omega), if_neg (by omega), if_pos (by omega)]
            · rw [hM3, x_wr_ne _ _ (by omega), p2 _ _ (by omega), g2 i i1 i2]
              by_cases c2 : row ≤ i ∧ i < r
              · rw [if_pos c2, if_pos (by omega)]
              · rw [if_neg c2, if_neg (by omega)]
          · rw [hM3, x_wr_ne _ _ (by omega), p2 _ _ (by omega), g3 _ _ q1 q2]
        | succ m' im =>
          intro j M2 hm' j0 j3 p1 p2
          by_cases ej : j = 3
          · exact im j M2 (by omega) j0 j3 p1 p2
          refine u_X11_takesOut_17 f row r j ⟨fun q => by omega, fun q => ?_⟩
          rw [x_w_id (x := r + 1) (by omega) (by omega), show (121 + 1 + 5 * f) + 1 + 1 * r = 123 + 5 * f + r by omega, show (121 + 1 + 5 * f) + 1 + 1 * (r + 1) = 123 + 5 * f + (r + 1) by omega]
          refine ⟨by omega, by omega, by omega, by omega, by omega, by omega, ?_⟩
          intro M3 hM3 v hv
          rw [x_w_id (by omega) (by omega)] at hv
          rw [hv]
          refine im (j + 1) M3 (by omega) (by omega) (by omega) (fun i i1 i2 => ?_) (fun a k q => ?_)
          · by_cases c : i = j
            · rw [c, hM3, x_wr_eq, p2 _ _ (by omega)]
            · rw [hM3, x_wr_ne _ _ (by omega)]; exact p1 i i1 (by omega)
          · rw [hM3, x_wr_ne _ _ (by omega)]; exact p2 a k q
      exact inner 3 0 M' (by omega) (by omega) (by omega) (fun i i1 i2 => by omega) (fun _ _ _ => rfl)
  refine u_X11_takesOut_0 f row (main R.toNat row M (by omega) (by omega) (by omega) (fun i j i1 i2 j1 j2 => ?_) (fun i i1 i2 => ?_) (fun _ _ _ _ => rfl))
  · rw [if_neg (by omega)]
  · rw [if_neg (by omega)]
end FO
