/-! The answer: the class's choice -/
def p_cd (F : xM) (T : Int → Int → Int) (n : Nat) (p q how : Int) (k : Nat) : Prop := p_bst F T n p q k = true ∧ ∀ j : Nat, j < n → p_bst F T n p q j = true → (how = 1 → p_tr F (T j) 1 * T k 3 ≤ p_tr F (T k) 1 * T j 3) ∧ (how = 2 → p_tr F (T k) 1 * T j 3 ≤ p_tr F (T j) 1 * T k 3)
def p_pf (F : xM) (T : Int → Int → Int) (p q : Int) (k j : Nat) : Prop := (F 0 0 = 2 ∨ F 0 0 = 4 → k ≤ j) ∧ (F 0 0 = 5 → j ≤ k) ∧ (F 0 0 = 0 → p_gn F (T j) p q * T k 3 ≤ p_gn F (T k) p q * T j 3 ∧ (j < k → p_gn F (T j) p q * T k 3 < p_gn F (T k) p q * T j 3)) ∧ (F 0 0 = 1 ∨ F 0 0 = 3 ∨ F 0 0 = 6 → p_gn F (T k) p q * T j 3 ≤ p_gn F (T j) p q * T k 3 ∧ (j < k → p_gn F (T k) p q * T j 3 < p_gn F (T j) p q * T k 3))
def p_isch (F : xM) (T : Int → Int → Int) (n : Nat) (p q how : Int) (k : Nat) : Prop := k < n ∧ p_cd F T n p q how k ∧ ∀ j : Nat, j < n → p_cd F T n p q how j → p_pf F T p q k j
theorem p_isch_u {F : xM} (hF : p_wf F) {T : Int → Int → Int} {n : Nat} {p q how : Int} {k k' : Nat} (h : p_isch F T n p q how k) (h' : p_isch F T n p q how k') : k = k' := by
  have hk := hF.1
  have a := h.2.2 k' h'.1 h'.2.1
  have b := h'.2.2 k h.1 h.2.1
  unfold p_pf at a b
  generalize p_gn F (T k) p q * T k' 3 = x at *
  generalize p_gn F (T k') p q * T k 3 = y at *
  obtain ⟨a1, a2, a3, a4⟩ := a
  obtain ⟨b1, b2, b3, b4⟩ := b
  have : F 0 0 = 0 ∨ F 0 0 = 1 ∨ F 0 0 = 2 ∨ F 0 0 = 3 ∨ F 0 0 = 4 ∨ F 0 0 = 5 ∨ F 0 0 = 6 := by omega
  rcases this with e | e | e | e | e | e | e
  · have := a3 e; have := b3 e; omega
  · have := a4 (by omega); have := b4 (by omega); omega
  · have := a1 (by omega); have := b1 (by omega); omega
  · have := a4 (by omega); have := b4 (by omega); omega
  · have := a1 (by omega); have := b1 (by omega); omega
  · have := a2 e; have := b2 e; omega
  · have := a4 (by omega); have := b4 (by omega); omega
section CH
variable {l : Launch} {E : xE} {Q : Option xV → xM → Prop}
theorem c_over {f k c how : Int} {M : xM} {tk tc bk bc gk gc kd : Int} (hk : 0 ≤ k ∧ k < 10) (hc : 0 ≤ c ∧ c < 10) (hh : how = 0 ∨ how = 1 ∨ how = 2) (e1 : M (49 + 9 * f + 5) k = tk) (e2 : M (49 + 9 * f + 5) c = tc) (e3 : M (49 + 9 * f + 2) k = bk) (e4 : M (49 + 9 * f + 2) c = bc) (e5 : M (49 + 9 * f + 8) k = gk) (e6 : M (49 + 9 * f + 8) c = gc) (e7 : M (9 + 4 * f) 0 = kd)
    (b1 : -1000000000000000000 ≤ tk * bc ∧ tk * bc ≤ 1000000000000000000) (b2 : -1000000000000000000 ≤ tc * bk ∧ tc * bk ≤ 1000000000000000000) (b3 : -1000000000000000000 ≤ gk * bc ∧ gk * bc ≤ 1000000000000000000) (b4 : -1000000000000000000 ≤ gc * bk ∧ gc * bk ≤ 1000000000000000000)
    (h1 : ((how = 1 ∧ tc * bk < tk * bc) ∨ (how = 2 ∧ tk * bc < tc * bk) ∨ ((how = 0 ∨ tk * bc = tc * bk) ∧ (kd = 5 ∨ (kd = 0 ∧ gc * bk < gk * bc) ∨ (kd ≠ 0 ∧ kd ≠ 2 ∧ kd ≠ 4 ∧ kd ≠ 5 ∧ gk * bc < gc * bk)))) → Q (some (0, 1)) M)
    (h0 : ¬ ((how = 1 ∧ tc * bk < tk * bc) ∨ (how = 2 ∧ tk * bc < tc * bk) ∨ ((how = 0 ∨ tk * bc = tc * bk) ∧ (kd = 5 ∨ (kd = 0 ∧ gc * bk < gk * bc) ∨ (kd ≠ 0 ∧ kd ≠ 2 ∧ kd ≠ 4 ∧ kd ≠ 5 ∧ gk * bc < gc * bk)))) → Q (some (0, 0)) M) :
    x_Ev l E (2, 0, 0) m_X4_isChosenOver 0 [(14, 49 + 9 * f), (0, k), (0, c), (0, how), (5, 0), (5, 0)] [] M Q := by
  refine u_X4_isChosenOver_0 (49 + 9 * f) k c how ⟨hk, hc, hc, hk, ?_⟩
  rw [x_who, e1, e2, e3, e4, x_W_id (x := tk * bc) (by omega) (by omega), x_W_id (x := tc * bk) (by omega) (by omega)]
  generalize tk * bc = A at *
  generalize tc * bk = B at *
  have kk : how = 0 ∨ A = B → (¬ (M (9 + 4 * f) 0) = 5 → ((M (9 + 4 * f) 0) = 2 → Q (some (0, 0)) M) ∧ (¬ (M (9 + 4 * f) 0) = 2 → (¬ (M (9 + 4 * f) 0) = 4 → ((0 : Int) ≤ k ∧ (k : Int) < 10) ∧ ((0 : Int) ≤ c ∧ (c : Int) < 10) ∧ ((0 : Int) ≤ c ∧ (c : Int) < 10) ∧ ((0 : Int) ≤ k ∧ (k : Int) < 10) ∧ x_Ev l E (1, 0, 0) m_J13_compare_74951 0 [(1, (x_W ((M ((49 + 9 * f) + 8) k) * bc))), (5, 0), (1, (x_W ((M ((49 + 9 * f) + 8) c) * bk))), (5, 0)] [] M (fun r zM3 => ∃ zr4, r = some (0, zr4) ∧ (¬ (zM3 (9 + 4 * f) 0) = 0 → (0 ≤ zr4 → Q (some (0, 0)) zM3) ∧ (¬ 0 ≤ zr4 → Q (some (0, 1)) zM3)) ∧ ((zM3 (9 + 4 * f) 0) = 0 → (zr4 ≤ 0 → Q (some (0, 0)) zM3) ∧ (¬ zr4 ≤ 0 → Q (some (0, 1)) zM3)))) ∧ ((M (9 + 4 * f) 0) = 4 → Q (some (0, 0)) M))) ∧ ((M (9 + 4 * f) 0) = 5 → Q (some (0, 1)) M) := by
    intro hab
    rw [e5, e6, e7, x_W_id (x := gk * bc) (by omega) (by omega), x_W_id (x := gc * bk) (by omega) (by omega)]
    generalize gk * bc = G at *
    generalize gc * bk = H at *
    refine ⟨fun n5 => ⟨fun y2 => h0 (by omega), fun n2 => ⟨fun n4 => ⟨hk, hc, hc, hk, c_cmp G H (fun d => ⟨_, rfl, ?_⟩) (fun d => ⟨_, rfl, ?_⟩) (fun d => ⟨_, rfl, ?_⟩)⟩, fun y4 => h0 (by omega)⟩⟩, fun y5 => h1 (by omega)⟩
    · rw [e7]
      exact ⟨fun n0 => ⟨fun z => absurd z (by omega), fun _ => h1 (by omega)⟩, fun y0 => ⟨fun _ => h0 (by omega), fun z => absurd (show (-1 : Int) ≤ 0 by omega) z⟩⟩
    · rw [e7]
      exact ⟨fun n0 => ⟨fun _ => h0 (by omega), fun z => absurd (show (0 : Int) ≤ 0 by omega) z⟩, fun y0 => ⟨fun _ => h0 (by omega), fun z => absurd (show (0 : Int) ≤ 0 by omega) z⟩⟩
    · rw [e7]
      exact ⟨fun n0 => ⟨fun _ => h0 (by omega), fun z => absurd (show (0 : Int) ≤ 1 by omega) z⟩, fun y0 => ⟨fun z => absurd z (by omega), fun _ => h1 (by omega)⟩⟩
  refine c_cmp A B (fun d => ⟨_, rfl, ?_⟩) (fun d => ⟨_, rfl, ?_⟩) (fun d => ⟨_, rfl, ?_⟩)
  · rw [e3, e4]
    refine ⟨fun n1 => ⟨fun n2 => kk (by omega), fun y2 => ⟨fun z => absurd z (by omega), fun _ => ⟨fun z => absurd z (by omega), fun _ => h1 (by omega)⟩⟩⟩, fun y1 => ⟨fun z => absurd z (by omega), fun _ => ⟨fun _ => h0 (by omega), fun z => absurd (show (-1 : Int) ≤ 0 by omega) z⟩⟩⟩
  · rw [e3, e4]
    refine ⟨fun n1 => ⟨fun n2 => kk (by omega), fun y2 => ⟨fun _ => kk (by omega), fun z => absurd rfl z⟩⟩, fun y1 => ⟨fun _ => kk (by omega), fun z => absurd rfl z⟩⟩
  · rw [e3, e4]
    refine ⟨fun n1 => ⟨fun n2 => kk (by omega), fun y2 => ⟨fun z => absurd z (by omega), fun _ => ⟨fun _ => h0 (by omega), fun z => absurd (show (0 : Int) ≤ 1 by omega) z⟩⟩⟩, fun y1 => ⟨fun z => absurd z (by omega), fun _ => ⟨fun z => absurd z (by omega), fun _ => h1 (by omega)⟩⟩⟩
/-- in whole numbers: c is at least as good an answer as j -/
def p_ov (kd how : Int) (yt yg : Int → Int) (c j : Int) : Prop := (how = 1 ∧ yt j < yt c) ∨ (how = 2 ∧ yt c < yt j) ∨ ((how = 0 ∨ yt j = yt c) ∧ (kd = 2 ∨ kd = 4 → c ≤ j) ∧ (kd = 5 → j ≤ c) ∧ (kd = 0 → yg j ≤ yg c ∧ (j < c → yg j < yg c)) ∧ (kd = 1 ∨ kd = 3 ∨ kd = 6 → yg c ≤ yg j ∧ (j < c → yg c < yg j)))
theorem p_ov_isch {F : xM} (hF : p_wf F) {T : Int → Int → Int} {n : Nat} {p q how : Int} (hh : how = 0 ∨ how = 1 ∨ how = 2) {yt yg : Int → Int} (ht : ∀ i j : Int, 0 ≤ i → i < n → 0 ≤ j → j < n → (p_tr F (T i) 1 * T j 3 < p_tr F (T j) 1 * T i 3 ↔ yt i < yt j)) (hg : ∀ i j : Int, 0 ≤ i → i < n → 0 ≤ j → j < n → (p_gn F (T i) p q * T j 3 < p_gn F (T j) p q * T i 3 ↔ yg i < yg j)) {c : Nat} (hc : c < n) (hb : p_bst F T n p q c = true) (h : ∀ j : Nat, j < n → p_bst F T n p q j = true → p_ov (F 0 0) how yt yg c j) : p_isch F T n p q how c := by
  have hk := hF.1
  refine ⟨hc, ⟨hb, fun j hj bj => ?_⟩, fun j hj cj => ?_⟩
  · have o := h j hj bj
    have t1 := ht j c (by omega) (by omega) (by omega) (by omega)
    have t2 := ht c j (by omega) (by omega) (by omega) (by omega)
    unfold p_ov at o
    refine ⟨fun q1 => ?_, fun q2 => ?_⟩
    · have : yt j ≤ yt c := by omega
      omega
    · have : yt c ≤ yt j := by omega
      omega
  · have o := h j hj cj.1
    have cc := cj.2 c hc hb
    have t1 := ht j c (by omega) (by omega) (by omega) (by omega)
    have t2 := ht c j (by omega) (by omega) (by omega) (by omega)
    have g1 := hg j c (by omega) (by omega) (by omega) (by omega)
    have g2 := hg c j (by omega) (by omega) (by omega) (by omega)
    unfold p_ov at o
    have o3 : (F 0 0 = 2 ∨ F 0 0 = 4 → (c : Int) ≤ j) ∧ (F 0 0 = 5 → (j : Int) ≤ c) ∧ (F 0 0 = 0 → yg j ≤ yg c ∧ ((j : Int) < c → yg j < yg c)) ∧ (F 0 0 = 1 ∨ F 0 0 = 3 ∨ F 0 0 = 6 → yg c ≤ yg j ∧ ((j : Int) < c → yg c < yg j)) := by
      rcases o with w | w | w
      · have := cc.1 w.1; omega
      · have := cc.2 w.1; omega
      · exact w.2
    obtain ⟨o4, o5, o6, o7⟩ := o3
    refine ⟨fun z => by have := o4 z; omega, fun z => by have := o5 z; omega, fun z => ?_, fun z => ?_⟩
    · have := o6 z; omega
    · have := o7 z; omega
theorem p_ov_tr {kd how : Int} (hh : how = 0 ∨ how = 1 ∨ how = 2) (hk : 0 ≤ kd ∧ kd ≤ 6) {yt yg : Int → Int} {k c j : Int} (hck : c < k) (hjk : j < k) (h : p_ov kd how yt yg c j) (ho : (how = 1 ∧ yt c < yt k) ∨ (how = 2 ∧ yt k < yt c) ∨ ((how = 0 ∨ yt k = yt c) ∧ (kd = 5 ∨ (kd = 0 ∧ yg c < yg k) ∨ (kd ≠ 0 ∧ kd ≠ 2 ∧ kd ≠ 4 ∧ kd ≠ 5 ∧ yg k < yg c)))) : p_ov kd how yt yg k j := by
  unfold p_ov at *
  generalize yt c = a at *
  generalize yt k = b at *
  generalize yt j = d at *
  generalize yg c = a' at *
  generalize yg k = b' at *
  generalize yg j = d' at *
  have : kd = 0 ∨ kd = 1 ∨ kd = 2 ∨ kd = 3 ∨ kd = 4 ∨ kd = 5 ∨ kd = 6 := by omega
  rcases hh with e | e | e <;> subst e <;> rcases this with w | w | w | w | w | w | w <;> subst w <;> simp at * <;> omega
theorem p_ov_no {kd how : Int} (hh : how = 0 ∨ how = 1 ∨ how = 2) (hk : 0 ≤ kd ∧ kd ≤ 6) {yt yg : Int → Int} {k c : Int} (hck : c < k) (ho : ¬ ((how = 1 ∧ yt c < yt k) ∨ (how = 2 ∧ yt k < yt c) ∨ ((how = 0 ∨ yt k = yt c) ∧ (kd = 5 ∨ (kd = 0 ∧ yg c < yg k) ∨ (kd ≠ 0 ∧ kd ≠ 2 ∧ kd ≠ 4 ∧ kd ≠ 5 ∧ yg k < yg c))))) : p_ov kd how yt yg c k := by
  unfold p_ov at *
  generalize yt c = a at *
  generalize yt k = b at *
  generalize yg c = a' at *
  generalize yg k = b' at *
  have : kd = 0 ∨ kd = 1 ∨ kd = 2 ∨ kd = 3 ∨ kd = 4 ∨ kd = 5 ∨ kd = 6 := by omega
  rcases hh with e | e | e <;> subst e <;> rcases this with w | w | w | w | w | w | w <;> subst w <;> simp at * <;> omega
theorem p_ov_key {kd how a b c d : Int} {u v u' v' : Int} (t1 : a < b ↔ u < v) (t2 : b < a ↔ v < u) (g1 : c < d ↔ u' < v') (g2 : d < c ↔ v' < u') : ((how = 1 ∧ a < b) ∨ (how = 2 ∧ b < a) ∨ ((how = 0 ∨ b = a) ∧ (kd = 5 ∨ (kd = 0 ∧ c < d) ∨ (kd ≠ 0 ∧ kd ≠ 2 ∧ kd ≠ 4 ∧ kd ≠ 5 ∧ d < c)))) ↔ ((how = 1 ∧ u < v) ∨ (how = 2 ∧ v < u) ∨ ((how = 0 ∨ v = u) ∧ (kd = 5 ∨ (kd = 0 ∧ u' < v') ∨ (kd ≠ 0 ∧ kd ≠ 2 ∧ kd ≠ 4 ∧ kd ≠ 5 ∧ v' < u')))) := by
  have teq : b = a ↔ v = u := by omega
  rw [t1, t2, g1, g2, teq]
theorem p_ov_rf {kd how : Int} {yt yg : Int → Int} (hh : how = 0 ∨ how = 1 ∨ how = 2) (k : Int) : p_ov kd how yt yg k k := by
  unfold p_ov
  refine Or.inr (Or.inr ⟨Or.inr rfl, fun _ => Int.le_refl _, fun _ => Int.le_refl _, fun _ => ⟨Int.le_refl _, fun z => by omega⟩, fun _ => ⟨Int.le_refl _, fun z => by omega⟩⟩)
theorem p_best_ex {F : xM} {T : Int → Int → Int} {n : Nat} {p q : Int} (hn : 1 ≤ n) (hb : ∀ k : Int, 0 ≤ k → k < n → 0 < T k 3) : ∃ k : Nat, k < n ∧ p_bst F T n p q k = true := by
  obtain ⟨y, hy⟩ := p_emb (fun k => p_net F (T k) p q) (fun k => T k 3) n hb
  have mx : ∀ m : Nat, 1 ≤ m → m ≤ n → ∃ k : Nat, k < m ∧ ∀ j : Nat, j < m → y j ≤ y k := by
    intro m
    induction m with
    | zero => intro h; omega
    | succ m ih =>
      intro _ h2
      by_cases c : m = 0
      · exact ⟨0, by omega, fun j hj => by have : j = 0 := by omega
                                           rw [this]; omega⟩
      · obtain ⟨k, k1, k2⟩ := ih (by omega) (by omega)
        by_cases d : y k < y m
        · refine ⟨m, by omega, fun j hj => ?_⟩
          by_cases e : j = m
          · rw [e]; omega
          · have := k2 j (by omega); omega
        · refine ⟨k, by omega, fun j hj => ?_⟩
          by_cases e : j = m
          · rw [e]; omega
          · exact k2 j (by omega)
  obtain ⟨k, k1, k2⟩ := mx n hn (Nat.le_refl _)
  refine ⟨k, k1, decide_eq_true (fun j hj => ?_)⟩
  have := hy k j (by omega) (by omega) (by omega) (by omega)
  have := k2 j hj
  omega
theorem c_choose {f : Int} (hf : 0 ≤ f ∧ f < 3) {M : xM} {F : xM} {n : Nat} {T : Int → Int → Int} (hF : p_wf F) (xF : x_F M (9 + 4 * f) = F) (hn : n ≤ 10) (hn1 : 1 ≤ n) (ht : p_tab M (49 + 9 * f) n T) (hs : p_sums M (49 + 9 * f) n F T) (heT : ∀ k : Int, 0 ≤ k → k < n → p_eb (T k)) {p q how : Int} (hpq : p_tm p q) (hst : p_st M (49 + 9 * f) n F T p q) (hh : how = 0 ∨ how = 1 ∨ how = 2) (h : ∀ k : Nat, p_isch F T n p q how k → Q (some (0, (k : Int))) M) : x_Ev l E (3, 0, 0) m_X4_choose 0 [(14, 49 + 9 * f), (0, how), (5, 0), (5, 0)] [] M Q := by
  have hb : ∀ k : Int, 0 ≤ k → k < n → 0 < T k 3 := fun k a b => (heT k a b).2.1
  obtain ⟨yt, hyt⟩ := p_emb (fun k => p_tr F (T k) 1) (fun k => T k 3) n hb
  obtain ⟨yg, hyg⟩ := p_emb (fun k => p_gn F (T k) p q) (fun k => T k 3) n hb
  have hkd : M (9 + 4 * f) 0 = F 0 0 := by rw [← xF, x_F0]
  have slt := x_set_lt (p_bst F T n p q) n
  have s10 : 2 ^ n ≤ 2 ^ 10 := Nat.pow_le_pow_right (by omega) hn
  have main : ∀ (m k : Nat) (c : Int), n - k ≤ m → k ≤ n → ((c = -1 ∧ ∀ j : Nat, j < k → p_bst F T n p q j = false) ∨ (0 ≤ c ∧ c < k ∧ p_bst F T n p q c.toNat = true ∧ ∀ j : Nat, j < k → p_bst F T n p q j = true → p_ov (F 0 0) how yt yg c j)) → x_Ev l E (3, 0, 0) m_X4_choose 4 [(14, 49 + 9 * f), (0, how), (0, c), (0, (k : Int))] [] M Q := by
    have fin : ∀ (c : Int), ((c = -1 ∧ ∀ j : Nat, j < n → p_bst F T n p q j = false) ∨ (0 ≤ c ∧ c < n ∧ p_bst F T n p q c.toNat = true ∧ ∀ j : Nat, j < n → p_bst F T n p q j = true → p_ov (F 0 0) how yt yg c j)) → Q (some (0, c)) M := by
      intro c hc
      rcases hc with ⟨c1, c2⟩ | ⟨c1, c2, c3, c4⟩
      · obtain ⟨k, k1, k2⟩ := p_best_ex (F := F) (p := p) (q := q) hn1 hb
        rw [c2 k k1] at k2
        exact absurd k2 (by decide)
      · have := h c.toNat (p_ov_isch hF hh hyt hyg (by omega) c3 (fun j j1 j2 => by rw [show ((c.toNat : Nat) : Int) = c by omega]; exact c4 j j1 j2))
        rw [show ((c.toNat : Nat) : Int) = c by omega] at this
        exact this
    intro m
    induction m with
    | zero =>
      intro k c hm hk hc
      have ek : k = n := by omega
      subst ek
      exact u_X4_choose_4 (49 + 9 * f) how c k ⟨fun _ => fin c hc, fun z => absurd (by rw [ht.1]; omega) z⟩
    | succ m ih =>
      intro k c hm hk hc
      by_cases hkn : k = n
      · exact ih k c (by omega) hk hc
      refine u_X4_choose_4 (49 + 9 * f) how c k ⟨fun z => by rw [ht.1] at z; omega, fun z => ?_⟩
      rw [hst.2.1, x_bit (by omega) (by omega), x_set_bit _ _ _ (by omega)]
      have ek := heT k (by omega) (by omega)
      have sk := hs k (by omega) (by omega)
      refine ⟨fun d => ?_, fun d => ⟨fun c0 => ?_, fun c0 => ?_⟩⟩
      · have hbk : p_bst F T n p q k = false := by
          cases e : p_bst F T n p q k
          · rfl
          · rw [e] at d; exact absurd d (by decide)
        intro v hv
        rw [x_w_id (by omega) (by omega)] at hv
        subst hv
        refine ih (k + 1) c (by omega) (by omega) ?_
        rcases hc with ⟨c1, c2⟩ | ⟨c1, c2, c3, c4⟩
        · refine Or.inl ⟨c1, fun j hj => ?_⟩
          by_cases e : j = k
          · rw [e]; exact hbk
          · exact c2 j (by omega)
        · refine Or.inr ⟨c1, by omega, c3, fun j hj bj => ?_⟩
          by_cases e : j = k
          · rw [e, hbk] at bj; exact absurd bj (by decide)
          · exact c4 j (by omega) bj
      · have hbk : p_bst F T n p q k = true := by
          cases e : p_bst F T n p q k
          · rw [e] at d; exact absurd rfl d
          · rfl
        intro v hv
        rw [x_w_id (by omega) (by omega)] at hv
        subst hv
        refine ih (k + 1) k (by omega) (by omega) (Or.inr ⟨by omega, by omega, by rw [Int.toNat_natCast]; exact hbk, fun j hj bj => ?_⟩)
        by_cases e : j = k
        · rw [e]; exact p_ov_rf hh k
        · rcases hc with ⟨c1, c2⟩ | ⟨c1, c2, c3, c4⟩
          · rw [c2 j (by omega)] at bj; exact absurd bj (by decide)
          · omega
      · have hbk : p_bst F T n p q k = true := by
          cases e : p_bst F T n p q k
          · rw [e] at d; exact absurd rfl d
          · rfl
        obtain ⟨c1, c2, c3, c4⟩ := hc.resolve_left (fun w => by omega)
        have ec := heT c c1 (by omega)
        have sc := hs c c1 (by omega)
        have tk := p_tr1_bd hF ek
        have tc := p_tr1_bd hF ec
        have gk := p_gn_bd hF ek hpq
        have gc := p_gn_bd hF ec hpq
        have ek2 := ek.2
        have ec2 := ec.2
        have m1 := x_mb (a := p_tr F (T k) 1) (b := T c 3) (A := 9720) (B := 162) (by omega) (by omega)
        have m2 := x_mb (a := p_tr F (T c) 1) (b := T k 3) (A := 9720) (B := 162) (by omega) (by omega)
        have m3 := x_mb (a := p_gn F (T k) p q) (b := T c 3) (A := 1700000000000) (B := 162) (by omega) (by omega)
        have m4 := x_mb (a := p_gn F (T c) p q) (b := T k 3) (A := 1700000000000) (B := 162) (by omega) (by omega)
        have nxt : ∀ c' : Int, ((c' = -1 ∧ ∀ j : Nat, j < k + 1 → p_bst F T n p q j = false) ∨ (0 ≤ c' ∧ c' < (k + 1 : Nat) ∧ p_bst F T n p q c'.toNat = true ∧ ∀ j : Nat, j < k + 1 → p_bst F T n p q j = true → p_ov (F 0 0) how yt yg c' j)) → ∀ zv : Int, zv = x_w ((k : Int) + 1) → x_Ev l E (3, 0, 0) m_X4_choose 4 [(14, 49 + 9 * f), (0, how), (0, c'), (0, zv)] [] M Q := by
          intro c' hi v hv
          rw [x_w_id (by omega) (by omega)] at hv
          subst hv
          exact ih (k + 1) c' (by omega) (by omega) hi
        have r1 : (0 : Int) ≤ k ∧ (k : Int) < (k + 1 : Nat) := by omega
        have r2 : c < (k + 1 : Nat) := by omega
        have r3 : ∀ j : Nat, j < k + 1 → j ≠ k → j < k := fun j a b => by omega
        have r4 : ∀ j : Nat, j < k → (j : Int) < k := fun j a => by omega
        have keyi := fun a b => p_ov_key (kd := F 0 0) (how := how) (hyt c k c1 a (by omega) b) (hyt k c (by omega) b c1 a) (hyg c k c1 a (by omega) b) (hyg k c (by omega) b c1 a)
        have key := keyi (by omega) (by omega)
        clear keyi
        refine c_over (tk := p_tr F (T k) 1) (tc := p_tr F (T c) 1) (bk := T k 3) (bc := T c 3) (gk := p_gn F (T k) p q) (gc := p_gn F (T c) p q) (kd := F 0 0) (by clear key; omega) (by clear key; omega) hh sk.2.1 sc.2.1 (ht.2 k (by clear key; omega) (by clear key; omega)).2.1 (ht.2 c c1 (by clear key; omega)).2.1 (hst.2.2 k (by clear key; omega) (by clear key; omega)).2 (hst.2.2 c c1 (by clear key; omega)).2 hkd (by clear key; omega) (by clear key; omega) (by clear key; omega) (by clear key; omega) (fun o => ⟨_, rfl, fun z => absurd z (by decide), fun _ => ?_⟩) (fun o => ⟨_, rfl, fun _ => ?_, fun z => absurd rfl z⟩)
        · have o' := key.mp o
          clear o key
          refine nxt k (Or.inr ⟨r1.1, r1.2, by rw [Int.toNat_natCast]; exact hbk, fun j hj bj => ?_⟩)
          by_cases e : j = k
          · rw [e]; exact p_ov_rf hh k
          · exact p_ov_tr hh hF.1 c2 (r4 j (r3 j hj e)) (c4 j (r3 j hj e) bj) o'
        · have o' := fun w => o (key.mpr w)
          clear o key
          refine nxt c (Or.inr ⟨c1, r2, c3, fun j hj bj => ?_⟩)
          by_cases e : j = k
          · rw [e]; exact p_ov_no hh hF.1 c2 o'
          · exact c4 j (r3 j hj e) bj
  exact u_X4_choose_0 (49 + 9 * f) how (main n 0 (-1) (by omega) (by omega) (Or.inl ⟨rfl, fun j hj => by omega⟩))
end CH
