/-! The class's breaks -/
def p_ins (P : Int → Int) (pl a : Int) : Int → Int := fun k => if k < pl then P k else if k = pl then a else P (k - 1)
theorem p_btab_ins {n : Nat} {P Q : Int → Int} {B : Int → Int → Prop} {a b pl : Int} (h : p_btab n P Q B) (ha : 0 < a) (hb : 0 < b) (hg : Int.gcd a b = 1) (hp : 0 ≤ pl ∧ pl ≤ n) (lo : ∀ k : Int, 0 ≤ k → k < pl → P k * b < a * Q k) (hi : ∀ k : Int, pl ≤ k → k < n → a * Q k < P k * b) : p_btab (n + 1) (p_ins P pl a) (p_ins Q pl b) (fun p q => B p q ∨ (p = a ∧ q = b)) := by
  have il : ∀ (X : Int → Int) (x k : Int), k < pl → p_ins X pl x k = X k := fun X x k w => by unfold p_ins; rw [if_pos w]
  have ie : ∀ (X : Int → Int) (x : Int), p_ins X pl x pl = x := fun X x => by unfold p_ins; rw [if_neg (by omega), if_pos rfl]
  have ih : ∀ (X : Int → Int) (x k : Int), pl < k → p_ins X pl x k = X (k - 1) := fun X x k w => by unfold p_ins; rw [if_neg (by omega), if_neg (by omega)]
  refine ⟨fun k k1 k2 => ?_, fun p q hB => ?_, fun k k' k1 k2 k3 => ?_⟩
  · by_cases c : k < pl
    · rw [il P a k c, il Q b k c]
      obtain ⟨f1, f2⟩ := h.1 k k1 (by omega)
      exact ⟨Or.inl f1, f2⟩
    · by_cases d : k = pl
      · rw [d, ie, ie]; exact ⟨Or.inr ⟨rfl, rfl⟩, ha, hb, hg⟩
      · rw [ih P a k (by omega), ih Q b k (by omega)]
        obtain ⟨f1, f2⟩ := h.1 (k - 1) (by omega) (by omega)
        exact ⟨Or.inl f1, f2⟩
  · rcases hB with w | ⟨w1, w2⟩
    · obtain ⟨k, k1, k2, k3, k4⟩ := h.2.1 p q w
      by_cases c : k < pl
      · exact ⟨k, k1, by omega, by rw [il P a k c]; exact k3, by rw [il Q b k c]; exact k4⟩
      · exact ⟨k + 1, by omega, by omega, by rw [ih P a _ (by omega), show k + 1 - 1 = k by omega]; exact k3, by rw [ih Q b _ (by omega), show k + 1 - 1 = k by omega]; exact k4⟩
    · exact ⟨pl, hp.1, by omega, by rw [ie, w1], by rw [ie, w2]⟩
  · by_cases c : k' < pl
    · rw [il P a k (by omega), il Q b k (by omega), il P a k' c, il Q b k' c]
      exact h.2.2 k k' k1 k2 (by omega)
    · by_cases d : k' = pl
      · rw [d, ie, ie, il P a k (by omega), il Q b k (by omega)]
        exact lo k k1 (by omega)
      · rw [ih P a k' (by omega), ih Q b k' (by omega)]
        by_cases e : k < pl
        · rw [il P a k e, il Q b k e]
          exact h.2.2 k (k' - 1) k1 (by omega) (by omega)
        · by_cases f : k = pl
          · rw [f, ie, ie]; exact hi (k' - 1) (by omega) (by omega)
          · rw [ih P a k (by omega), ih Q b k (by omega)]
            exact h.2.2 (k - 1) (k' - 1) (by omega) (by omega) (by omega)
theorem p_btab_old {n : Nat} {P Q : Int → Int} {B : Int → Int → Prop} {a b k : Int} (h : p_btab n P Q B) (hk : 0 ≤ k ∧ k < n) (e1 : P k = a) (e2 : Q k = b) : p_btab n P Q (fun p q => B p q ∨ (p = a ∧ q = b)) := by
  refine ⟨fun k k1 k2 => ?_, fun p q hB => ?_, h.2.2⟩
  · obtain ⟨f1, f2⟩ := h.1 k k1 k2
    exact ⟨Or.inl f1, f2⟩
  · rcases hB with w | ⟨w1, w2⟩
    · exact h.2.1 p q w
    · exact ⟨k, hk.1, hk.2, by rw [e1, w1], by rw [e2, w2]⟩
theorem p_btab_cg {n : Nat} {P Q : Int → Int} {B B' : Int → Int → Prop} (h : p_btab n P Q B) (e : ∀ p q, B p q ↔ B' p q) : p_btab n P Q B' := by
  refine ⟨fun k k1 k2 => ?_, fun p q hB => h.2.1 p q ((e p q).mpr hB), h.2.2⟩
  obtain ⟨f1, f2⟩ := h.1 k k1 k2
  exact ⟨(e _ _).mp f1, f2⟩
def p_bmem (M : xM) (n : Nat) (P Q : Int → Int) : Prop := M 42 0 = n ∧ ∀ k : Int, 0 ≤ k → k < n → M 43 k = P k ∧ M 44 k = Q k
section CB
variable {l : Launch} {E : xE} {Q' : Option xV → xM → Prop}
theorem c_bins {M0 : xM} {n : Nat} {P Q : Int → Int} {B : Int → Int → Prop} (hn : n < 27) (ht : p_btab n P Q B) (hm : p_bmem M0 n P Q) (hB : ∀ k : Int, 0 ≤ k → k < n → p_tm (P k) (Q k)) {a b : Int} (ha : 0 < a ∧ a ≤ 1000000000000000) (hb : 0 < b ∧ b ≤ 100000000) (hab : p_tm (p_nu a b) (p_de a b)) (hnu : 0 < p_nu a b)
    (h : ∀ (M1 : xM) (n1 : Nat) (P1 Q1 : Int → Int), p_btab n1 P1 Q1 (fun p q => B p q ∨ (p = p_nu a b ∧ q = p_de a b)) → p_bmem M1 n1 P1 Q1 → n1 ≤ n + 1 → (∀ a, a < 42 ∨ 45 < a → M1 a = M0 a) → Q' none M1) : x_Ev l E (3, 0, 0) m_X0_insert 0 [(10, 42), (1, a), (5, 0), (1, b), (5, 0), (5, 0), (5, 0), (5, 0)] [] M0 Q' := by
  have hde := p_de_pos (a := a) hb.1
  have hcop := p_nd_cop (a := a) hb.1
  refine u_X0_insert_0 a b (c_put (by omega) (by omega) (fun M1 r1 r2 r3 => ⟨rfl, ?_⟩))
  generalize p_nu a b = x at *
  generalize p_de a b = y at *
  have m1 : p_bmem M1 n P Q := by
    unfold p_bmem
    rw [r3 42 (by omega), r3 43 (by omega), r3 44 (by omega)]; exact hm
  -- the shifting
  have sh : ∀ (pl : Int), 0 ≤ pl → pl ≤ n → (∀ k : Int, 0 ≤ k → k < pl → P k * y < x * Q k) → (∀ k : Int, pl ≤ k → k < n → x * Q k < P k * y) → ∀ (j : Nat) (i : Int) (M : xM), i - pl ≤ j → pl ≤ i → i ≤ n → M 42 0 = n → M 45 0 = x → M 45 1 = y → (∀ k : Int, 0 ≤ k → k < i → M 43 k = P k ∧ M 44 k = Q k) → (∀ k : Int, i < k → k ≤ n → M 43 k = P (k - 1) ∧ M 44 k = Q (k - 1)) → (∀ a, a < 42 ∨ 45 < a → M a = M0 a) → x_Ev l E (3, 0, 0) m_X0_insert 134 [(10, 42), (1, a), (5, 0), (1, b), (5, 0), (0, pl), (0, 0), (0, i)] [] M Q' := by
    intro pl hp1 hp2 lo hi
    have fin : ∀ (M : xM), M 42 0 = n → M 45 0 = x → M 45 1 = y → (∀ k : Int, 0 ≤ k → k < pl → M 43 k = P k ∧ M 44 k = Q k) → (∀ k : Int, pl < k → k ≤ n → M 43 k = P (k - 1) ∧ M 44 k = Q (k - 1)) → (∀ a, a < 42 ∨ 45 < a → M a = M0 a) → ((0 : Int) ≤ pl ∧ pl < 27) ∧ ∀ zM1 : xM, zM1 = x_wr M 43 pl (M 45 0) → ((0 : Int) ≤ pl ∧ pl < 27) ∧ ∀ zM2 : xM, zM2 = x_wr zM1 44 pl (zM1 45 1) → ∀ zM3 : xM, zM3 = x_wr zM2 42 0 (x_w ((zM2 42 0) + 1)) → Q' none zM3 := by
      intro M g1 g2 g3 g4 g5 g6
      refine ⟨by omega, ?_⟩
      intro M2 hM2
      refine ⟨by omega, ?_⟩
      intro M3 hM3 M4 hM4
      have e45 : M2 45 1 = y := by rw [hM2, x_wr_ne _ _ (by omega)]; exact g3
      have e43 : ∀ k, M4 43 k = if k = pl then x else M 43 k := by
        intro k
        rw [hM4, x_wr_ne _ _ (by omega), hM3, x_wr_ne _ _ (by omega), hM2]
        by_cases c : k = pl
        · rw [c, x_wr_eq, if_pos rfl, g2]
        · rw [x_wr_ne _ _ (by omega), if_neg c]
      have e44 : ∀ k, M4 44 k = if k = pl then y else M 44 k := by
        intro k
        rw [hM4, x_wr_ne _ _ (by omega), hM3]
        by_cases c : k = pl
        · rw [c, x_wr_eq, if_pos rfl, e45]
        · rw [x_wr_ne _ _ (by omega), if_neg c, hM2, x_wr_ne _ _ (by omega)]
      refine h M4 (n + 1) (p_ins P pl x) (p_ins Q pl y) (p_btab_ins ht hnu hde hcop ⟨hp1, hp2⟩ lo hi) ⟨?_, fun k k1 k2 => ?_⟩ (by omega) (fun a' ha' => ?_)
      · rw [hM4, x_wr_eq, hM3, x_wr_ne _ _ (by omega), hM2, x_wr_ne _ _ (by omega), g1, x_w_id (by omega) (by omega)]
        omega
      · rw [e43, e44]
        unfold p_ins
        by_cases c : k < pl
        · have kn : ¬ k = pl := by omega
          simp only [if_neg kn, if_pos c]; exact g4 k k1 c
        · by_cases d : k = pl
          · refine ⟨?_, ?_⟩ <;> simp only [if_pos d, if_neg c]
          · simp only [if_neg d, if_neg c]; exact g5 k (by omega) (by omega)
      · rw [hM4, x_wr_fr _ _ _ (by omega), hM3, x_wr_fr _ _ _ (by omega), hM2, x_wr_fr _ _ _ (by omega)]; exact g6 a' ha'
    intro j
    induction j with
    | zero =>
      intro i M hj hi1 hi2 g1 g2 g3 g4 g5 g6
      have ei : i = pl := by omega
      subst ei
      exact u_X0_insert_134 a b i 0 i ⟨fun _ => fin M g1 g2 g3 g4 g5 g6, fun c => absurd (Int.le_refl _) c⟩
    | succ j ih =>
      intro i M hj hi1 hi2 g1 g2 g3 g4 g5 g6
      by_cases hip : i = pl
      · exact ih i M (by omega) hi1 hi2 g1 g2 g3 g4 g5 g6
      refine u_X0_insert_134 a b pl 0 i ⟨fun c => by omega, fun c => ?_⟩
      rw [x_w_id (x := i - 1) (by omega) (by omega)]
      refine ⟨by omega, by omega, ?_⟩
      intro M2 hM2
      refine ⟨by omega, by omega, ?_⟩
      intro M3 hM3 v hv
      rw [x_w_id (by omega) (by omega)] at hv
      subst hv
      have q0 := g4 (i - 1) (by omega) (by omega)
      have e43 : ∀ k, M3 43 k = if k = i then P (i - 1) else M 43 k := by
        intro k
        rw [hM3, x_wr_ne _ _ (by omega), hM2]
        by_cases c : k = i
        · rw [c, x_wr_eq, if_pos rfl]; exact q0.1
        · rw [x_wr_ne _ _ (by omega), if_neg c]
      have e44 : ∀ k, M3 44 k = if k = i then Q (i - 1) else M 44 k := by
        intro k
        rw [hM3]
        by_cases c : k = i
        · rw [c, x_wr_eq, if_pos rfl, hM2, x_wr_ne _ _ (by omega)]; exact q0.2
        · rw [x_wr_ne _ _ (by omega), if_neg c, hM2, x_wr_ne _ _ (by omega)]
      refine ih (i + -1) M3 (by omega) (by omega) (by omega) ?_ ?_ ?_ (fun k k1 k2 => ?_) (fun k k1 k2 => ?_) (fun a' ha' => ?_)
      · rw [hM3, x_wr_ne _ _ (by omega), hM2, x_wr_ne _ _ (by omega)]; exact g1
      · rw [hM3, x_wr_ne _ _ (by omega), hM2, x_wr_ne _ _ (by omega)]; exact g2
      · rw [hM3, x_wr_ne _ _ (by omega), hM2, x_wr_ne _ _ (by omega)]; exact g3
      · rw [e43, e44, if_neg (by omega), if_neg (by omega)]; exact g4 k k1 (by omega)
      · rw [e43, e44]
        by_cases c : k = i
        · rw [if_pos c, if_pos c, c]; exact ⟨rfl, rfl⟩
        · rw [if_neg c, if_neg c]; exact g5 k (by omega) k2
      · rw [hM3, x_wr_fr _ _ _ (by omega), hM2, x_wr_fr _ _ _ (by omega)]; exact g6 a' ha'
  have hfr : ∀ a, a < 42 ∨ 45 < a → M1 a = M0 a := fun a' ha' => r3 a' (by omega)
  have main : ∀ (j : Nat) (pl : Int), n - pl ≤ j → 0 ≤ pl → pl ≤ n → (∀ k : Int, 0 ≤ k → k < pl → P k * y < x * Q k) → x_Ev l E (3, 0, 0) m_X0_insert 12 [(10, 42), (1, a), (5, 0), (1, b), (5, 0), (0, pl), (5, 0), (5, 0)] [] M1 Q' := by
    have go : ∀ (pl : Int), 0 ≤ pl → pl ≤ n → (∀ k : Int, 0 ≤ k → k < pl → P k * y < x * Q k) → (∀ k : Int, pl ≤ k → k < n → x * Q k < P k * y) → ((M1 42 0) < 27 → ∀ zv1 : Int, zv1 = (M1 42 0) → x_Ev l E (3, 0, 0) m_X0_insert 134 [(10, 42), (1, a), (5, 0), (1, b), (5, 0), (0, pl), (0, 0), (0, zv1)] [] M1 Q') ∧ (¬ (M1 42 0) < 27 → Q' none M1) := by
      intro pl p1 p2 lo hi
      refine ⟨fun c v hv => ?_, fun c => by rw [m1.1] at c; omega⟩
      rw [m1.1] at hv
      subst hv
      exact sh pl p1 p2 lo hi n n M1 (by omega) (by omega) (by omega) m1.1 r1 r2 m1.2 (fun k k1 k2 => by omega) hfr
    intro j
    induction j with
    | zero =>
      intro pl hj p1 p2 lo
      have g := go pl p1 p2 lo (fun k k1 k2 => by omega)
      refine u_X0_insert_12 a b pl ⟨fun _ => ⟨fun _ => g, fun c => absurd (by rw [m1.1]; omega) c⟩, fun c => absurd (by rw [m1.1]; omega) c⟩
    | succ j ih =>
      intro pl hj p1 p2 lo
      by_cases hpn : pl = n
      · exact ih pl (by omega) p1 p2 lo
      have mk := m1.2 pl p1 (by omega)
      have tk := hB pl p1 (by omega)
      have fk := ht.1 pl p1 (by omega)
      have b1 := x_mb (a := x) (b := Q pl) (A := 160000000) (B := 4000000) (by have := hab.1; have := hab.2.1; omega) (by have := tk.2.2; omega)
      have b2 := x_mb (a := P pl) (b := y) (A := 160000000) (B := 4000000) (by have := tk.1; have := tk.2.1; omega) (by have := hab.2.2; omega)
      refine u_X0_insert_12 a b pl ⟨fun c => by rw [m1.1] at c; omega, fun c => ⟨by omega, by omega, fun d => ?_, fun d => ?_⟩⟩
      · rw [r1, r2, mk.1, mk.2, x_W_id (by omega) (by omega), x_W_id (by omega) (by omega)] at d
        have up : x * Q pl ≠ P pl * y → ∀ k : Int, pl ≤ k → k < n → x * Q k < P k * y := by
          intro hne k k1 k2
          by_cases e : k = pl
          · rw [e]; omega
          · have s := ht.2.2 pl k p1 (by omega) k2
            exact q_lt_tr hde fk.2.2.1 (ht.1 k (by omega) k2).2.2.1 (by omega) s
        have up2 : (P pl ≠ x ∨ Q pl ≠ y) → x * Q pl ≠ P pl * y := by
          intro hne heq
          have := q_red hde fk.2.2.1 hcop fk.2.2.2 heq
          omega
        rw [r1, r2, mk.1, mk.2]
        refine ⟨fun c2 => absurd c2 c, fun _ => ⟨by omega, fun e1 => go pl p1 p2 lo (up (up2 (Or.inl e1))), fun e1 => ⟨by omega, fun e2 => go pl p1 p2 lo (up (up2 (Or.inr e2))), fun e2 => ?_⟩⟩⟩
        exact h M1 n P Q (p_btab_old ht ⟨p1, by omega⟩ e1 e2) m1 (by omega) hfr
      · rw [r1, r2, mk.1, mk.2, x_W_id (by omega) (by omega), x_W_id (by omega) (by omega)] at d
        intro v hv
        rw [x_w_id (by omega) (by omega)] at hv
        subst hv
        refine ih (pl + 1) (by omega) (by omega) (by omega) (fun k k1 k2 => ?_)
        by_cases e : k = pl
        · rw [e]; omega
        · exact lo k k1 (by omega)
  exact main n 0 (by omega) (by omega) (by omega) (fun k k1 k2 => by omega)
end CB
