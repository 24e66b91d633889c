/-! The class's proofs -/
def p_lx (a c : Int → Int) : Prop := a 0 < c 0 ∨ (a 0 = c 0 ∧ (a 1 < c 1 ∨ (a 1 = c 1 ∧ (a 2 < c 2 ∨ (a 2 = c 2 ∧ a 3 < c 3)))))
noncomputable def p_cnt (P : Nat → Prop) : Nat → Nat
  | 0 => 0
  | n + 1 => p_cnt P n + p_if (P n) 1 0
theorem p_cnt_cg {P P' : Nat → Prop} (n : Nat) (h : ∀ k, k < n → (P k ↔ P' k)) : p_cnt P n = p_cnt P' n := by
  induction n with
  | zero => rfl
  | succ n ih =>
    unfold p_cnt
    rw [ih (fun k hk => h k (by omega))]
    by_cases c : P n
    · rw [p_if_t c, p_if_t ((h n (by omega)).mp c)]
    · rw [p_if_f c, p_if_f (fun w => c ((h n (by omega)).mpr w))]
theorem p_cnt_no {P : Nat → Prop} (n : Nat) (h : ∀ k, k < n → ¬ P k) : p_cnt P n = 0 := by
  induction n with
  | zero => rfl
  | succ n ih =>
    unfold p_cnt
    rw [ih (fun k hk => h k (by omega)), p_if_f (h n (by omega))]
theorem p_cnt_le (P : Nat → Prop) (n : Nat) : p_cnt P n ≤ n := by
  induction n with
  | zero => exact Nat.le_refl _
  | succ n ih =>
    unfold p_cnt
    by_cases c : P n
    · rw [p_if_t c]; omega
    · rw [p_if_f c]; omega
/-- entries of prices: numbers above, below, cost -/
def p_ent (M : xM) (n : Nat) (Y : Nat → Int → Int) (b c : Nat → Int) : Prop := ∀ k, k < n → (∀ r, 0 ≤ r → r < 4 → M 77 (4 * (k : Int) + r) = Y k r ∧ (-61992000000 ≤ Y k r ∧ Y k r ≤ 61992000000)) ∧ M 78 k = b k ∧ (0 < b k ∧ b k ≤ 162) ∧ M 80 k = c k ∧ (-4959360000000 ≤ c k ∧ c k ≤ 4959360000000)
section PF
variable {l : Launch} {E : xE} {Q : Option xV → xM → Prop}
theorem c_pAhead {M : xM} {n : Nat} {Y : Nat → Int → Int} {b c : Nat → Int} (hn : n ≤ 35) (he : p_ent M n Y b c) {k o : Nat} (hk : k < n) (ho : o < n) (h1 : p_lx (fun r => Y k r * b o) (fun r => Y o r * b k) → Q (some (0, 1)) M) (h0 : ¬ p_lx (fun r => Y k r * b o) (fun r => Y o r * b k) → Q (some (0, 0)) M) : x_Ev l E (1, 0, 0) m_X5_isAhead 0 [(15, 76), (0, (k : Int)), (0, (o : Int)), (5, 0), (5, 0), (5, 0), (5, 0), (5, 0)] [] M Q := by
  obtain ⟨k1, k2, k3, -⟩ := he k hk
  obtain ⟨o1, o2, o3, -⟩ := he o ho
  have main : ∀ (m : Nat) (r : Int), 4 - r ≤ m → 0 ≤ r → r ≤ 4 → (∀ i, 0 ≤ i → i < r → Y k i * b o = Y o i * b k) → x_Ev l E (1, 0, 0) m_X5_isAhead 2 [(15, 76), (0, (k : Int)), (0, (o : Int)), (0, r), (5, 0), (5, 0), (5, 0), (5, 0)] [] M Q := by
    intro m
    induction m with
    | zero =>
      intro r hm hr hr4 hx
      refine u_X5_isAhead_2 k o r ⟨fun _ => h0 (fun w => ?_), fun d => by omega⟩
      have a0 := hx 0 (by omega) (by omega)
      have a1 := hx 1 (by omega) (by omega)
      have a2 := hx 2 (by omega) (by omega)
      have a3 := hx 3 (by omega) (by omega)
      unfold p_lx at w
      dsimp only at w
      omega
    | succ m ih =>
      intro r hm hr hr4 hx
      by_cases e4 : r = 4
      · exact ih r (by omega) hr hr4 hx
      obtain ⟨p1, p2⟩ := k1 r hr (by omega)
      obtain ⟨q1, q2⟩ := o1 r hr (by omega)
      have m1 := x_mb (a := Y k r) (b := b o) (A := 61992000000) (B := 162) (by omega) (by omega)
      have m2 := x_mb (a := Y o r) (b := b k) (A := 61992000000) (B := 162) (by omega) (by omega)
      refine u_X5_isAhead_2 k o r ⟨fun d => by omega, fun d => ?_⟩
      rw [x_ix4 (by omega) (by omega) hr (by omega), x_ix4 (by omega) (by omega) hr (by omega), p1, q1, k2, o2, x_W_id (by omega) (by omega), x_W_id (by omega) (by omega)]
      refine ⟨by omega, by omega, ?_⟩
      intro v hv
      refine ⟨by omega, by omega, ?_⟩
      intro v2 hv2
      have fl : ∀ {P : Prop}, (r = 0 → P) → (r = 1 → P) → (r = 2 → P) → (r = 3 → P) → P := fun {P} w0 w1 w2 w3 => by
        have : r = 0 ∨ r = 1 ∨ r = 2 ∨ r = 3 := by omega
        rcases this with e | e | e | e
        · exact w0 e
        · exact w1 e
        · exact w2 e
        · exact w3 e
      refine ⟨fun d2 => ?_, fun d2 => ⟨fun d3 => h0 (fun w => ?_), fun d3 => h1 ?_⟩⟩
      · intro v3 hv3
        rw [x_w_id (by omega) (by omega)] at hv3
        subst hv3
        refine ih (r + 1) (by omega) (by omega) (by omega) (fun i i1 i2 => ?_)
        by_cases e : i = r
        · rw [e]; omega
        · exact hx i i1 (by omega)
      · unfold p_lx at w
        dsimp only at w
        refine fl (fun e => ?_) (fun e => ?_) (fun e => ?_) (fun e => ?_)
        · subst e; omega
        · subst e
          have a0 := hx 0 (by omega) (by omega)
          omega
        · subst e
          have a0 := hx 0 (by omega) (by omega)
          have a1 := hx 1 (by omega) (by omega)
          omega
        · subst e
          have a0 := hx 0 (by omega) (by omega)
          have a1 := hx 1 (by omega) (by omega)
          have a2 := hx 2 (by omega) (by omega)
          omega
      · unfold p_lx
        dsimp only
        refine fl (fun e => ?_) (fun e => ?_) (fun e => ?_) (fun e => ?_)
        · subst e; omega
        · subst e
          have a0 := hx 0 (by omega) (by omega)
          omega
        · subst e
          have a0 := hx 0 (by omega) (by omega)
          have a1 := hx 1 (by omega) (by omega)
          omega
        · subst e
          have a0 := hx 0 (by omega) (by omega)
          have a1 := hx 1 (by omega) (by omega)
          have a2 := hx 2 (by omega) (by omega)
          omega
  exact u_X5_isAhead_0 k o (main 4 0 (by omega) (by omega) (by omega) (fun i a b => by omega))
/-- lexicographic order of whole numbers -/
def q_lx (y : Int → Int → Int) (i j : Int) : Prop := y 0 i < y 0 j ∨ (y 0 i = y 0 j ∧ (y 1 i < y 1 j ∨ (y 1 i = y 1 j ∧ (y 2 i < y 2 j ∨ (y 2 i = y 2 j ∧ y 3 i < y 3 j)))))
theorem q_lx_tr {y : Int → Int → Int} {i j k : Int} (h1 : q_lx y i j) (h2 : q_lx y j k) : q_lx y i k := by
  unfold q_lx at *
  omega
theorem q_lx_ir {y : Int → Int → Int} {i : Int} : ¬ q_lx y i i := by
  unfold q_lx
  omega
theorem q_lx_emb {n : Nat} {Y : Nat → Int → Int} {b : Nat → Int} (hb : ∀ k, k < n → 0 < b k) : ∃ y : Int → Int → Int, ∀ i j : Nat, i < n → j < n → (p_lx (fun r => Y i r * b j) (fun r => Y j r * b i) ↔ q_lx y i j) := by
  have em := fun r => p_emb (fun k => Y k.toNat r) (fun k => b k.toNat) n (fun k a c => hb k.toNat (by omega))
  refine ⟨fun r => Classical.choose (em r), fun i j hi hj => ?_⟩
  have sp := fun r => Classical.choose_spec (em r)
  have t : ∀ r, (Y i r * b j < Y j r * b i ↔ Classical.choose (em r) i < Classical.choose (em r) j) ∧ (Y i r * b j = Y j r * b i ↔ Classical.choose (em r) i = Classical.choose (em r) j) := by
    intro r
    have a1 := sp r i j (by omega) (by omega) (by omega) (by omega)
    have a2 := sp r j i (by omega) (by omega) (by omega) (by omega)
    simp only [Int.toNat_natCast] at a1 a2
    exact ⟨a1, by omega⟩
  unfold p_lx q_lx
  dsimp only
  rw [(t 0).1, (t 0).2, (t 1).1, (t 1).2, (t 2).1, (t 2).2, (t 3).1]
theorem c_findProofs {M0 : xM} {n : Nat} (hn : n ≤ 35) (hn1 : 1 ≤ n) (h76 : M0 76 1 = n) {Y : Nat → Int → Int} {b c : Nat → Int} (he : p_ent M0 n Y b c)
    (h : ∀ (M1 : xM) (k : Nat), k < n → M1 76 3 = k → (∀ j, j < n → c k * b j ≤ c j * b k) → (∀ j, j < n → c j * b k = c k * b j → ¬ p_lx (fun r => Y j r * b k) (fun r => Y k r * b j)) → M1 76 2 = p_cnt (fun j => c j * b k = c k * b j) n → (∀ a j, ¬ (a = 76 ∧ (j = 2 ∨ j = 3)) → M1 a j = M0 a j) → Q none M1) : x_Ev l E (2, 0, 0) m_X5_findProofs 0 [(15, 76), (5, 0), (5, 0)] [] M0 Q := by
  have hb : ∀ k, k < n → 0 < b k := fun k hk => (he k hk).2.2.1.1
  obtain ⟨y, hy⟩ := q_lx_emb (Y := Y) hb
  obtain ⟨z, hz⟩ := p_emb (fun k => c k.toNat) (fun k => b k.toNat) n (fun k a c => hb k.toNat (by omega))
  have zz : ∀ i j : Nat, i < n → j < n → (c i * b j < c j * b i ↔ z i < z j) ∧ (c i * b j = c j * b i ↔ z i = z j) := by
    intro i j hi hj
    have a1 := hz i j (by omega) (by omega) (by omega) (by omega)
    have a2 := hz j i (by omega) (by omega) (by omega) (by omega)
    simp only [Int.toNat_natCast] at a1 a2
    exact ⟨a1, by omega⟩
  have ent_fr : ∀ {M : xM}, (∀ a j, ¬ (a = 76 ∧ (j = 2 ∨ j = 3)) → M a j = M0 a j) → p_ent M n Y b c := by
    intro M w k hk
    obtain ⟨a1, a2, a3, a4, a5⟩ := he k hk
    refine ⟨fun r r1 r2 => ?_, ?_, a3, ?_, a5⟩
    · rw [w _ _ (by omega)]; exact a1 r r1 r2
    · rw [w _ _ (by omega)]; exact a2
    · rw [w _ _ (by omega)]; exact a4
  have main : ∀ (m k : Nat) (o : Nat) (M : xM), n - k ≤ m → k ≤ n → M 76 3 = o → ((k = 0 ∧ o = 0 ∧ M 76 2 = 0) ∨ (o < k ∧ (∀ j : Nat, j < k → z o ≤ z j ∧ (z j = z o → ¬ q_lx y j o)) ∧ M 76 2 = p_cnt (fun j => z j = z o) k)) → (∀ a j, ¬ (a = 76 ∧ (j = 2 ∨ j = 3)) → M a j = M0 a j) → x_Ev l E (2, 0, 0) m_X5_findProofs 12 [(15, 76), (0, (k : Int)), (5, 0)] [] M Q := by
    intro m
    induction m with
    | zero =>
      intro k o M hm hk h3 hi hfr
      have ek : k = n := by omega
      subst ek
      refine u_X5_findProofs_12 _ ⟨fun _ => ?_, fun w => absurd (by rw [hfr 76 1 (by omega), h76]; omega) w⟩
      obtain ⟨i1, i2, i3⟩ := hi.resolve_left (fun w => by omega)
      refine h M o i1 h3 (fun j hj => ?_) (fun j hj e => ?_) ?_ hfr
      · have := (zz j o hj i1).1
        have := (i2 j hj).1
        omega
      · rw [hy j o hj i1]
        exact (i2 j hj).2 ((zz j o hj i1).2.mp e)
      · rw [i3]
        congr 1
        exact p_cnt_cg _ (fun j hj => (zz j o hj i1).2.symm)
    | succ m ih =>
      intro k o M hm hk h3 hi hfr
      by_cases hkn : k = n
      · exact ih k o M (by omega) hk h3 hi hfr
      have hE := ent_fr hfr
      have ho : o < n := by rcases hi with w | w <;> omega
      obtain ⟨-, k2, k3, k4, k5⟩ := hE k (by omega)
      obtain ⟨-, o2, o3, o4, o5⟩ := hE o ho
      have m1 := x_mb (a := c k) (b := b o) (A := 4959360000000) (B := 162) (by omega) (by omega)
      have m2 := x_mb (a := c o) (b := b k) (A := 4959360000000) (B := 162) (by omega) (by omega)
      have cn := p_cnt_le (fun j => z j = z o) k
      have b2 : 0 ≤ M 76 2 ∧ M 76 2 ≤ 35 := by rcases hi with w | w <;> omega
      refine u_X5_findProofs_12 k ⟨fun w => by rw [hfr 76 1 (by omega), h76] at w; omega, fun w => ?_⟩
      rw [h3, k4, o2, o4, k2, x_W_id (by omega) (by omega), x_W_id (by omega) (by omega)]
      refine ⟨by omega, by omega, by omega, by omega, ?_⟩
      have z1 := zz k o (by omega) ho
      have z2 := zz o k ho (by omega)
      -- a new one, as good as those before or better
      have nxt : ∀ (M1 : xM) (o1 : Nat) (v2 : Int), M1 76 3 = o1 → M1 76 2 = v2 → o1 < k + 1 → (∀ j : Nat, j < k + 1 → z o1 ≤ z j ∧ (z j = z o1 → ¬ q_lx y j o1)) → v2 = p_cnt (fun j => z j = z o1) (k + 1) → (∀ a j, ¬ (a = 76 ∧ (j = 2 ∨ j = 3)) → M1 a j = M0 a j) → ∀ zv : Int, zv = x_w ((k : Int) + 1) → x_Ev l E (2, 0, 0) m_X5_findProofs 12 [(15, 76), (0, zv), (5, 0)] [] M1 Q := by
        intro M1 o1 v2 g1 g2 g3 g4 g5 g6 v hv
        rw [x_w_id (by omega) (by omega)] at hv
        subst hv
        exact ih (k + 1) o1 M1 (by omega) (by omega) g1 (Or.inr ⟨g3, g4, g2.trans g5⟩) g6
      have cnt1 : ∀ o1 : Nat, p_cnt (fun j => z j = z o1) (k + 1) = p_cnt (fun j => z j = z o1) k + p_if (z k = z o1) 1 0 := fun _ => rfl
      refine c_cmp _ _ (fun d => ⟨_, rfl, fun e => absurd e (by decide), fun _ => ?_⟩) (fun d => ⟨_, rfl, fun _ => ⟨fun e => absurd rfl e, fun _ => ?_⟩, fun e => absurd (show (0 : Int) ≤ 0 by omega) e⟩) (fun d => ⟨_, rfl, fun _ => ⟨fun _ => ?_, fun e => absurd e (by decide)⟩, fun e => absurd (show (0 : Int) ≤ 1 by omega) e⟩)
      · -- cheaper
        intro M1 hM1 M2 hM2 M3 hM3
        have zl : z k < z o := z1.1.mp d
        have kpos : ¬ k = 0 := fun e => by
          rcases hi with ⟨-, e2, -⟩ | ⟨e2, -⟩
          · rw [e, e2] at zl; omega
          · omega
        obtain ⟨i1, i2, -⟩ := hi.resolve_left (fun w => kpos w.1)
        have f2 : M2 76 2 = 0 := by rw [hM2, x_wr_ne _ _ (by omega), hM1, x_wr_eq]
        rw [f2] at hM3
        refine nxt M3 k 1 ?_ ?_ (by omega) (fun j hj => ?_) ?_ (fun a j w => ?_)
        · rw [hM3, x_wr_ne _ _ (by omega), hM2, x_wr_eq]
        · rw [hM3, x_wr_eq]; decide
        · by_cases e : j = k
          · rw [e]; exact ⟨Int.le_refl _, fun _ => q_lx_ir⟩
          · have := (i2 j (by omega)).1
            exact ⟨by omega, fun e2 => by omega⟩
        · rw [cnt1, p_if_t rfl, p_cnt_no k (fun j hj e => by have := (i2 j hj).1; omega)]; rfl
        · rw [hM3, x_wr_ne _ _ (by omega), hM2, x_wr_ne _ _ (by omega), hM1, x_wr_ne _ _ (by omega)]; exact hfr a j w
      · -- as dear
        have ze : z k = z o := z1.2.mp d
        have cnt2 : M 76 2 + 1 = p_cnt (fun j => z j = z o) (k + 1) := by
          rw [cnt1, p_if_t ze]
          rcases hi with ⟨e1, e2, e3⟩ | ⟨-, -, e3⟩
          · rw [e3, e1]; rfl
          · rw [e3]; omega
        rw [h3]
        refine c_pAhead hn hE (by omega) ho (fun la => ⟨_, rfl, fun e => absurd e (by decide), fun _ => ?_⟩) (fun la => ⟨_, rfl, fun _ => ?_, fun e => absurd rfl e⟩)
        · rw [hy k o (by omega) ho] at la
          intro M1 hM1 M2 hM2
          have f2 : M1 76 2 = M 76 2 := by rw [hM1, x_wr_ne _ _ (by omega)]
          rw [f2, x_w_id (by omega) (by omega)] at hM2
          have kpos : ¬ k = 0 := fun e => by
            rcases hi with ⟨-, e2, -⟩ | ⟨e2, -⟩
            · rw [e, e2] at la; exact q_lx_ir la
            · omega
          obtain ⟨i1, i2, -⟩ := hi.resolve_left (fun w => kpos w.1)
          refine nxt M2 k (M 76 2 + 1) ?_ ?_ (by omega) (fun j hj => ?_) ?_ (fun a j w => ?_)
          · rw [hM2, x_wr_ne _ _ (by omega), hM1, x_wr_eq]
          · rw [hM2, x_wr_eq]
          · by_cases e : j = k
            · rw [e]; exact ⟨Int.le_refl _, fun _ => q_lx_ir⟩
            · have a1 := i2 j (by omega)
              exact ⟨by omega, fun e2 w => a1.2 (by omega) (q_lx_tr w la)⟩
          · rw [cnt2]
            congr 1
            exact p_cnt_cg _ (fun j hj => by rw [ze])
          · rw [hM2, x_wr_ne _ _ (by omega), hM1, x_wr_ne _ _ (by omega)]; exact hfr a j w
        · rw [hy k o (by omega) ho] at la
          intro M1 hM1
          rw [x_w_id (by omega) (by omega)] at hM1
          refine nxt M1 o (M 76 2 + 1) ?_ ?_ (by rcases hi with w | w <;> omega) (fun j hj => ?_) cnt2 (fun a j w => ?_)
          · rw [hM1, x_wr_ne _ _ (by omega)]; exact h3
          · rw [hM1, x_wr_eq]
          · by_cases e : j = k
            · rw [e]; exact ⟨by omega, fun _ => la⟩
            · rcases hi with ⟨e1, -, -⟩ | ⟨-, i2, -⟩
              · omega
              · exact i2 j (by omega)
          · rw [hM1, x_wr_ne _ _ (by omega)]; exact hfr a j w
      · -- dearer
        have zl : z o < z k := z2.1.mp d
        have kpos : ¬ k = 0 := fun e => by
          rcases hi with ⟨-, e2, -⟩ | ⟨e2, -⟩
          · rw [e, e2] at zl; omega
          · omega
        obtain ⟨i1, i2, i3⟩ := hi.resolve_left (fun w => kpos w.1)
        refine nxt M o (M 76 2) h3 rfl (by omega) (fun j hj => ?_) ?_ hfr
        · by_cases e : j = k
          · rw [e]; exact ⟨by omega, fun e2 => by omega⟩
          · exact i2 j (by omega)
        · rw [cnt1, p_if_f (by omega), i3]; rfl
  refine u_X5_findProofs_0 ?_
  intro M1 hM1 M2 hM2
  refine main n 0 0 M2 (by omega) (by omega) (by rw [hM2, x_wr_eq]; rfl) (Or.inl ⟨rfl, rfl, by rw [hM2, x_wr_ne _ _ (by omega), hM1, x_wr_eq]⟩) (fun a j w => ?_)
  rw [hM2, x_wr_ne _ _ (by omega), hM1, x_wr_ne _ _ (by omega)]
end PF
