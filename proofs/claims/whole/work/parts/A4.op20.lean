/-! image, back: class -/
def p_ir (j k : Int) : Prop := (j = 0 ∧ 0 ≤ k ∧ k < 4) ∨ (j = 1 ∧ 0 ≤ k ∧ k < 9) ∨ (j = 2 ∧ 0 ≤ k ∧ k < 12) ∨ (j = 3 ∧ 0 ≤ k ∧ k < 4)
noncomputable def p_tak (A : xM) (n o q : Int) : xM := fun a k => p_if (a = o ∧ 0 ≤ k ∧ k ≤ 4) (A q k) (p_if (a = o + 1 ∧ (k = 0 ∨ k = 1)) (A (q + 1) k) (p_if ((o + 3 ≤ a ∧ a < o + 3 + 4 * n) ∧ p_ir ((a - (o + 3)) % 4) k) (A (a - o + q) k) (A a k)))
section P20
variable {l : Launch} {E : xE} {Q : Option xV → xM → Prop} {A M : xM}
theorem p_tak_0 {n o q k : Int} (hk : 0 ≤ k ∧ k ≤ 4) : p_tak A n o q o k = A q k := by
  unfold p_tak
  rw [p_if_t ⟨rfl, hk.1, hk.2⟩]
theorem p_tak_1 {n o q k : Int} (hk : k = 0 ∨ k = 1) : p_tak A n o q (o + 1) k = A (q + 1) k := by
  unfold p_tak
  rw [p_if_f (by omega), p_if_t ⟨rfl, hk⟩]
theorem p_tak_f {n o q f j k : Int} (hf : 0 ≤ f ∧ f < n) (hj : 0 ≤ j ∧ j < 4) (h : p_ir j k) : p_tak A n o q (o + 3 + 4 * f + j) k = A (q + 3 + 4 * f + j) k := by
  unfold p_tak
  rw [p_if_f (by omega), p_if_f (by omega), p_if_t ⟨by omega, by rw [show (o + 3 + 4 * f + j - (o + 3)) % 4 = j by omega]; exact h⟩, show o + 3 + 4 * f + j - o + q = q + 3 + 4 * f + j by omega]
theorem p_tak_ne {n o q a k : Int} (h1 : ¬ (a = o ∧ 0 ≤ k ∧ k ≤ 4)) (h2 : ¬ (a = o + 1 ∧ (k = 0 ∨ k = 1))) (h3 : ¬ ((o + 3 ≤ a ∧ a < o + 3 + 4 * n) ∧ p_ir ((a - (o + 3)) % 4) k)) : p_tak A n o q a k = A a k := by
  unfold p_tak
  rw [p_if_f h1, p_if_f h2, p_if_f h3]
theorem p_tak_o {n o q a k : Int} (hn : 0 ≤ n ∧ n ≤ 3) (h : a < o ∨ o + 14 < a) : p_tak A n o q a k = A a k := p_tak_ne (by omega) (by omega) (fun z => by omega)
/-- one more follower -/
theorem p_tak_s {n o q a k : Int} (hn : 0 ≤ n) (h : ¬ (o + 3 + 4 * n ≤ a ∧ a < o + 3 + 4 * n + 4)) : p_tak A (n + 1) o q a k = p_tak A n o q a k := by
  unfold p_tak
  by_cases c : (o + 3 ≤ a ∧ a < o + 3 + 4 * n) ∧ p_ir ((a - (o + 3)) % 4) k
  · have c' : (o + 3 ≤ a ∧ a < o + 3 + 4 * (n + 1)) ∧ p_ir ((a - (o + 3)) % 4) k := ⟨by omega, c.2⟩
    rw [p_if_t c, p_if_t c']
  · have c' : ¬ ((o + 3 ≤ a ∧ a < o + 3 + 4 * (n + 1)) ∧ p_ir ((a - (o + 3)) % 4) k) := fun z => c ⟨by omega, z.2⟩
    rw [p_if_f c, p_if_f c']
theorem p_wf_ir {F F' : xM} (hF : p_wf F) (h : ∀ j k, p_ir j k → F' j k = F j k) : p_wf F' := by
  have i0 : ∀ k, 0 ≤ k → k < 4 → F' 0 k = F 0 k := fun k a b => h 0 k (Or.inl ⟨rfl, a, b⟩)
  have i1 : ∀ k, 0 ≤ k → k < 9 → F' 1 k = F 1 k := fun k a b => h 1 k (Or.inr (Or.inl ⟨rfl, a, b⟩))
  have i2 : ∀ k, 0 ≤ k → k < 12 → F' 2 k = F 2 k := fun k a b => h 2 k (Or.inr (Or.inr (Or.inl ⟨rfl, a, b⟩)))
  have i3 : ∀ k, 0 ≤ k → k < 4 → F' 3 k = F 3 k := fun k a b => h 3 k (Or.inr (Or.inr (Or.inr ⟨rfl, a, b⟩)))
  unfold p_wf at *
  rw [i0 0 (by omega) (by omega), i0 1 (by omega) (by omega), i0 2 (by omega) (by omega), i0 3 (by omega) (by omega)]
  refine ⟨hF.1, hF.2.1, hF.2.2.1, hF.2.2.2.1, fun g g1 g2 => ?_, fun k k1 k2 => ?_, fun k k1 k2 => ?_, fun k k1 k2 => ?_⟩
  · rw [i1 g (by omega) (by omega), i1 (3 + g) (by omega) (by omega), i1 (6 + g) (by omega) (by omega)]; exact hF.2.2.2.2.1 g g1 g2
  · rw [i2 k k1 k2]; exact hF.2.2.2.2.2.1 k k1 k2
  · rw [i2 k k1 (by omega)]; exact hF.2.2.2.2.2.2.1 k k1 k2
  · rw [i3 k k1 k2]; exact hF.2.2.2.2.2.2.2 k k1 k2
theorem p_tak_F {n o q f : Int} (hf : 0 ≤ f ∧ f < n) : ∀ j k, p_ir j k → x_F (p_tak A n o q) (o + 3 + 4 * f) j k = x_F A (q + 3 + 4 * f) j k := by
  intro j k h
  have hj : j = 0 ∨ j = 1 ∨ j = 2 ∨ j = 3 := by unfold p_ir at h; omega
  unfold x_F
  rw [if_pos (by omega), if_pos (by omega)]
  exact p_tak_f hf (by omega) h
theorem p_tak_W {o q : Int} (hw : p_wfW A q) (hd : o + 15 ≤ q ∨ q + 15 ≤ o) : p_wfW (p_tak A (A q 0) o q) o := by
  obtain ⟨w1, w2, w3, w4, w5, w6, w7, w8⟩ := hw
  unfold p_wfW
  rw [p_tak_0 (by omega), p_tak_0 (by omega), p_tak_0 (by omega), p_tak_0 (by omega), p_tak_0 (by omega), p_tak_1 (Or.inl rfl), p_tak_1 (Or.inr rfl)]
  exact ⟨w1, w2, w3, w4, w5, w6, w7, fun f hf => p_wf_ir (w8 f hf) (p_tak_F (by omega))⟩
theorem p_wfW_cg {A' : xM} {o : Int} (hw : p_wfW A o) (h : ∀ a, o ≤ a → a ≤ o + 14 → A' a = A a) : p_wfW A' o := by
  unfold p_wfW at *
  rw [h o (by omega) (by omega), h (o + 1) (by omega) (by omega)]
  refine ⟨hw.1, hw.2.1, hw.2.2.1, hw.2.2.2.1, hw.2.2.2.2.1, hw.2.2.2.2.2.1, hw.2.2.2.2.2.2.1, fun f hf => ?_⟩
  have hn := hw.1
  rw [show x_F A' (o + 3 + 4 * (f : Int)) = x_F A (o + 3 + 4 * (f : Int)) from x_F_eq (fun a a1 a2 => h a (by omega) (by omega))]
  exact hw.2.2.2.2.2.2.2 f hf
theorem c_takeI {n : Int} (hn : 0 ≤ n ∧ n ≤ 3) (hM : ∀ a k, 6 ≤ a → a ≤ 35 → M a k = A a k) (h0 : A 6 0 = n) (h : ∀ M1, (∀ a k, 6 ≤ a → a ≤ 35 → M1 a k = p_tak A n 21 6 a k) → (∀ a k, ¬ (6 ≤ a ∧ a ≤ 35) → M1 a k = M a k) → Q none M1) : x_Ev l E (3, 0, 0) m_X9_takeAll 0 [(19, 21), (19, 6), (5, 0)] [] M Q := by
  have main : ∀ (m : Nat) (f : Int) (M' : xM), n - f ≤ m → 0 ≤ f → f ≤ n → (∀ a k, 6 ≤ a → a ≤ 35 → M' a k = p_tak A f 21 6 a k) → (∀ a k, ¬ (6 ≤ a ∧ a ≤ 35) → M' a k = M a k) → x_Ev l E (3, 0, 0) m_X9_takeAll 53 [(19, 21), (19, 6), (0, f)] [] M' Q := by
    intro m
    induction m with
    | zero =>
      intro f M' hm f0 f1 g1 g2
      have e0 : M' 21 0 = n := by rw [g1 _ _ (by omega) (by omega), p_tak_0 (by omega)]; exact h0
      have ef : f = n := by omega
      refine u_X9_takeAll_53 f ⟨fun _ => ?_, fun z => by omega⟩
      rw [ef] at g1
      exact h M' g1 g2
    | succ m ih =>
      intro f M' hm f0 f1 g1 g2
      by_cases ef : f = n
      · exact ih f M' (by omega) f0 f1 g1 g2
      have e0 : M' 21 0 = n := by rw [g1 _ _ (by omega) (by omega), p_tak_0 (by omega)]; exact h0
      refine u_X9_takeAll_53 f ⟨fun z => by omega, fun z => ⟨by omega, by omega, ?_⟩⟩
      rw [show 23 + 1 + 4 * f = 21 + 3 + 4 * f by omega, show 8 + 1 + 4 * f = 6 + 3 + 4 * f by omega]
      refine c_like (by omega) (fun M1 l0 l1 l2 l3 l4 => ⟨rfl, fun v hv => ?_⟩)
      rw [x_w_id (by omega) (by omega)] at hv
      rw [hv]
      have src : ∀ j k, 0 ≤ j → j < 4 → M' (6 + 3 + 4 * f + j) k = A (6 + 3 + 4 * f + j) k := fun j k j1 j2 => by rw [g1 _ _ (by omega) (by omega), p_tak_o (by omega) (by omega)]
      refine ih (f + 1) M1 (by omega) (by omega) (by omega) (fun a k a1 a2 => ?_) (fun a k q => by rw [l4 a k (by omega)]; exact g2 a k q)
      by_cases ca : 21 + 3 + 4 * f ≤ a ∧ a < 21 + 3 + 4 * f + 4
      · by_cases ci : p_ir (a - (21 + 3 + 4 * f)) k
        · have t := p_tak_f (A := A) (n := f + 1) (o := 21) (q := 6) (f := f) (j := a - (21 + 3 + 4 * f)) (k := k) (by omega) (by omega) ci
          rw [show 21 + 3 + 4 * f + (a - (21 + 3 + 4 * f)) = a by omega] at t
          rw [t]
          have s := src (a - (21 + 3 + 4 * f)) k (by omega) (by omega)
          rw [← s]
          unfold p_ir at ci
          rcases ci with ⟨c1, c2, c3⟩ | ⟨c1, c2, c3⟩ | ⟨c1, c2, c3⟩ | ⟨c1, c2, c3⟩
          · rw [c1, show a = 21 + 3 + 4 * f by omega, Int.add_zero]; exact l0 k c2 c3
          · rw [c1, show a = 21 + 3 + 4 * f + 1 by omega]; exact l1 k c2 c3
          · rw [c1, show a = 21 + 3 + 4 * f + 2 by omega]; exact l2 k c2 c3
          · rw [c1, show a = 21 + 3 + 4 * f + 3 by omega]; exact l3 k c2 c3
        · rw [p_tak_ne (by omega) (by omega) (fun w => ci (by rw [show (a - (21 + 3)) % 4 = a - (21 + 3 + 4 * f) by omega] at w; exact w.2)), l4 a k (by unfold p_ir at ci; omega), g1 a k a1 a2, p_tak_ne (by omega) (by omega) (fun w => by omega)]
      · rw [p_tak_s (by omega) ca, l4 a k (by omega)]; exact g1 a k a1 a2
  refine u_X9_takeAll_0 ?_
  intro M1 h1 M2 h2 M3 h3 M4 h4 M5 h5
  have f5 : ∀ a k, ¬ (a = 21 ∧ 0 ≤ k ∧ k ≤ 4) → M5 a k = M a k := fun a k q => by rw [h5, x_wr_ne _ _ (by omega), h4, x_wr_ne _ _ (by omega), h3, x_wr_ne _ _ (by omega), h2, x_wr_ne _ _ (by omega), h1, x_wr_ne _ _ (by omega)]
  have v5 : ∀ k, 0 ≤ k → k ≤ 4 → M5 21 k = M 6 k := fun k k1 k2 => by
    have : k = 0 ∨ k = 1 ∨ k = 2 ∨ k = 3 ∨ k = 4 := by omega
    rcases this with e | e | e | e | e
    · rw [e, h5, x_wr_ne _ _ (by omega), h4, x_wr_ne _ _ (by omega), h3, x_wr_ne _ _ (by omega), h2, x_wr_ne _ _ (by omega), h1, x_wr_eq]
    · rw [e, h5, x_wr_ne _ _ (by omega), h4, x_wr_ne _ _ (by omega), h3, x_wr_ne _ _ (by omega), h2, x_wr_eq, h1, x_wr_ne _ _ (by omega)]
    · rw [e, h5, x_wr_ne _ _ (by omega), h4, x_wr_ne _ _ (by omega), h3, x_wr_eq, h2, x_wr_ne _ _ (by omega), h1, x_wr_ne _ _ (by omega)]
    · rw [e, h5, x_wr_ne _ _ (by omega), h4, x_wr_eq, h3, x_wr_ne _ _ (by omega), h2, x_wr_ne _ _ (by omega), h1, x_wr_ne _ _ (by omega)]
    · rw [e, h5, x_wr_eq, h4, x_wr_ne _ _ (by omega), h3, x_wr_ne _ _ (by omega), h2, x_wr_ne _ _ (by omega), h1, x_wr_ne _ _ (by omega)]
  refine c_takeX (by omega) ⟨rfl, ?_⟩
  refine main n.toNat 0 _ (by omega) (by omega) (by omega) (fun a k a1 a2 => ?_) (fun a k q => by rw [x_wr_ne _ _ (by omega), x_wr_ne _ _ (by omega)]; exact f5 a k (by omega))
  by_cases c0 : a = 21 ∧ 0 ≤ k ∧ k ≤ 4
  · rw [c0.1, x_wr_ne _ _ (by omega), x_wr_ne _ _ (by omega), v5 k c0.2.1 c0.2.2, p_tak_0 c0.2]; exact hM _ _ (by omega) (by omega)
  · by_cases c1 : a = 22 ∧ (k = 0 ∨ k = 1)
    · rw [c1.1]
      have t := p_tak_1 (A := A) (n := 0) (o := 21) (q := 6) (k := k) c1.2
      rw [show (21 : Int) + 1 = 22 by omega, show (6 : Int) + 1 = 7 by omega] at t
      rw [t]
      rcases c1.2 with e | e
      · rw [e, x_wr_ne _ _ (by omega), x_wr_eq, f5 _ _ (by omega)]; exact hM _ _ (by omega) (by omega)
      · rw [e, x_wr_eq, f5 _ _ (by omega)]; exact hM _ _ (by omega) (by omega)
    · rw [p_tak_ne c0 (by omega) (fun w => by omega), x_wr_ne _ _ (by omega), x_wr_ne _ _ (by omega), f5 a k c0]; exact hM a k a1 a2
theorem c_takeB {n : Int} (hn : 0 ≤ n ∧ n ≤ 3) (hM : ∀ a k, 6 ≤ a → a ≤ 35 → M a k = A a k) (h0 : A 21 0 = n) (h : ∀ M1, (∀ a k, 6 ≤ a → a ≤ 35 → M1 a k = p_tak A n 6 21 a k) → (∀ a k, ¬ (6 ≤ a ∧ a ≤ 35) → M1 a k = M a k) → Q none M1) : x_Ev l E (3, 0, 0) m_X9_takeAll 0 [(19, 6), (19, 21), (5, 0)] [] M Q := by
  have main : ∀ (m : Nat) (f : Int) (M' : xM), n - f ≤ m → 0 ≤ f → f ≤ n → (∀ a k, 6 ≤ a → a ≤ 35 → M' a k = p_tak A f 6 21 a k) → (∀ a k, ¬ (6 ≤ a ∧ a ≤ 35) → M' a k = M a k) → x_Ev l E (3, 0, 0) m_X9_takeAll 53 [(19, 6), (19, 21), (0, f)] [] M' Q := by
    intro m
    induction m with
    | zero =>
      intro f M' hm f0 f1 g1 g2
      have e0 : M' 6 0 = n := by rw [g1 _ _ (by omega) (by omega), p_tak_0 (by omega)]; exact h0
      have ef : f = n := by omega
      refine u_X9_takeAll_53_v2 f ⟨fun _ => ?_, fun z => by omega⟩
      rw [ef] at g1
      exact h M' g1 g2
    | succ m ih =>
      intro f M' hm f0 f1 g1 g2
      by_cases ef : f = n
      · exact ih f M' (by omega) f0 f1 g1 g2
      have e0 : M' 6 0 = n := by rw [g1 _ _ (by omega) (by omega), p_tak_0 (by omega)]; exact h0
      refine u_X9_takeAll_53_v2 f ⟨fun z => by omega, fun z => ⟨by omega, by omega, ?_⟩⟩
      rw [show 23 + 1 + 4 * f = 21 + 3 + 4 * f by omega, show 8 + 1 + 4 * f = 6 + 3 + 4 * f by omega]
      refine c_like (by omega) (fun M1 l0 l1 l2 l3 l4 => ⟨rfl, fun v hv => ?_⟩)
      rw [x_w_id (by omega) (by omega)] at hv
      rw [hv]
      have src : ∀ j k, 0 ≤ j → j < 4 → M' (21 + 3 + 4 * f + j) k = A (21 + 3 + 4 * f + j) k := fun j k j1 j2 => by rw [g1 _ _ (by omega) (by omega), p_tak_o (by omega) (by omega)]
      refine ih (f + 1) M1 (by omega) (by omega) (by omega) (fun a k a1 a2 => ?_) (fun a k q => by rw [l4 a k (by omega)]; exact g2 a k q)
      by_cases ca : 6 + 3 + 4 * f ≤ a ∧ a < 6 + 3 + 4 * f + 4
      · by_cases ci : p_ir (a - (6 + 3 + 4 * f)) k
        · have t := p_tak_f (A := A) (n := f + 1) (o := 6) (q := 21) (f := f) (j := a - (6 + 3 + 4 * f)) (k := k) (by omega) (by omega) ci
          rw [show 6 + 3 + 4 * f + (a - (6 + 3 + 4 * f)) = a by omega] at t
          rw [t]
          have s := src (a - (6 + 3 + 4 * f)) k (by omega) (by omega)
          rw [← s]
          unfold p_ir at ci
          rcases ci with ⟨c1, c2, c3⟩ | ⟨c1, c2, c3⟩ | ⟨c1, c2, c3⟩ | ⟨c1, c2, c3⟩
          · rw [c1, show a = 6 + 3 + 4 * f by omega, Int.add_zero]; exact l0 k c2 c3
          · rw [c1, show a = 6 + 3 + 4 * f + 1 by omega]; exact l1 k c2 c3
          · rw [c1, show a = 6 + 3 + 4 * f + 2 by omega]; exact l2 k c2 c3
          · rw [c1, show a = 6 + 3 + 4 * f + 3 by omega]; exact l3 k c2 c3
        · rw [p_tak_ne (by omega) (by omega) (fun w => ci (by rw [show (a - (6 + 3)) % 4 = a - (6 + 3 + 4 * f) by omega] at w; exact w.2)), l4 a k (by unfold p_ir at ci; omega), g1 a k a1 a2, p_tak_ne (by omega) (by omega) (fun w => by omega)]
      · rw [p_tak_s (by omega) ca, l4 a k (by omega)]; exact g1 a k a1 a2
  refine u_X9_takeAll_0_v2 ?_
  intro M1 h1 M2 h2 M3 h3 M4 h4 M5 h5
  have f5 : ∀ a k, ¬ (a = 6 ∧ 0 ≤ k ∧ k ≤ 4) → M5 a k = M a k := fun a k q => by rw [h5, x_wr_ne _ _ (by omega), h4, x_wr_ne _ _ (by omega), h3, x_wr_ne _ _ (by omega), h2, x_wr_ne _ _ (by omega), h1, x_wr_ne _ _ (by omega)]
  have v5 : ∀ k, 0 ≤ k → k ≤ 4 → M5 6 k = M 21 k := fun k k1 k2 => by
    have : k = 0 ∨ k = 1 ∨ k = 2 ∨ k = 3 ∨ k = 4 := by omega
    rcases this with e | e | e | e | e
    · rw [e, h5, x_wr_ne _ _ (by omega), h4, x_wr_ne _ _ (by omega), h3, x_wr_ne _ _ (by omega), h2, x_wr_ne _ _ (by omega), h1, x_wr_eq]
    · rw [e, h5, x_wr_ne _ _ (by omega), h4, x_wr_ne _ _ (by omega), h3, x_wr_ne _ _ (by omega), h2, x_wr_eq, h1, x_wr_ne _ _ (by omega)]
    · rw [e, h5, x_wr_ne _ _ (by omega), h4, x_wr_ne _ _ (by omega), h3, x_wr_eq, h2, x_wr_ne _ _ (by omega), h1, x_wr_ne _ _ (by omega)]
    · rw [e, h5, x_wr_ne _ _ (by omega), h4, x_wr_eq, h3, x_wr_ne _ _ (by omega), h2, x_wr_ne _ _ (by omega), h1, x_wr_ne _ _ (by omega)]
    · rw [e, h5, x_wr_eq, h4, x_wr_ne _ _ (by omega), h3, x_wr_ne _ _ (by omega), h2, x_wr_ne _ _ (by omega), h1, x_wr_ne _ _ (by omega)]
  refine c_takeX (by omega) ⟨rfl, ?_⟩
  refine main n.toNat 0 _ (by omega) (by omega) (by omega) (fun a k a1 a2 => ?_) (fun a k q => by rw [x_wr_ne _ _ (by omega), x_wr_ne _ _ (by omega)]; exact f5 a k (by omega))
  by_cases c0 : a = 6 ∧ 0 ≤ k ∧ k ≤ 4
  · rw [c0.1, x_wr_ne _ _ (by omega), x_wr_ne _ _ (by omega), v5 k c0.2.1 c0.2.2, p_tak_0 c0.2]; exact hM _ _ (by omega) (by omega)
  · by_cases c1 : a = 7 ∧ (k = 0 ∨ k = 1)
    · rw [c1.1]
      have t := p_tak_1 (A := A) (n := 0) (o := 6) (q := 21) (k := k) c1.2
      rw [show (6 : Int) + 1 = 7 by omega, show (21 : Int) + 1 = 22 by omega] at t
      rw [t]
      rcases c1.2 with e | e
      · rw [e, x_wr_ne _ _ (by omega), x_wr_eq, f5 _ _ (by omega)]; exact hM _ _ (by omega) (by omega)
      · rw [e, x_wr_eq, f5 _ _ (by omega)]; exact hM _ _ (by omega) (by omega)
    · rw [p_tak_ne c0 (by omega) (fun w => by omega), x_wr_ne _ _ (by omega), x_wr_ne _ _ (by omega), f5 a k c0]; exact hM a k a1 a2
theorem p_CI_k {A' M1 : xM} (hA : p_WF A) (hC : p_CI A M) (hA' : ∀ a k, ¬ (21 ≤ a ∧ a ≤ 35) → ¬ (a = 5 ∧ k = 2) → A' a k = A a k) (hM : ∀ a k, ¬ (21 ≤ a ∧ a ≤ 35) → ¬ (a = 5 ∧ k = 2) → M1 a k = M a k) (e : ∀ a k, 21 ≤ a → a ≤ 35 → M1 a k = A' a k) (e5 : M1 5 2 = A' 5 2) : p_CI A' M1 := by
  have w0 := hA.1.1
  obtain ⟨q1, q2, q3, q4, q5, q6, q7, q8⟩ := hC
  have tp : x_tp M1 = x_tp M := x_tp_eq (hM _ _ (by omega) (by omega))
  have tg : ∀ b, x_tag M1 b = x_tag M b := fun b => x_tag_eq (fun k => hM _ _ (by omega) (by omega)) b
  refine ⟨fun b j c1 c2 => ?_, e5, ?_, fun j => ?_, fun j => ?_, ?_, ⟨fun s s1 s2 => ?_, fun s t s1 s2 t1 t2 => ?_⟩, fun i i1 i2 => ?_⟩
  · by_cases c : 21 ≤ b
    · exact e b j c c2
    · rw [hM b j (by omega) (by omega), hA' b j (by omega) (by omega)]; exact q1 b j c1 c2
  · rw [hA' _ _ (by omega) (by omega), hM _ _ (by omega) (by omega)]; exact q3
  · rw [hA' _ _ (by omega) (by omega), hM _ _ (by omega) (by omega)]; exact q4 j
  · rw [hA' _ _ (by omega) (by omega), hM _ _ (by omega) (by omega)]; exact q5 j
  · rw [hA' 6 0 (by omega) (by omega)]
    exact p_CW_fr2 q6 (fun f hf => p_Fs_cg (fun b b1 b2 => by funext j; exact hA' b j (by omega) (by omega)) (by omega)) (hM 6 0 (by omega) (by omega)) (fun b j w _ => hM b j (by omega) (by omega))
  · rw [hA' _ _ (by omega) (by omega), hA' _ _ (by omega) (by omega), hM _ _ (by omega) (by omega)]
    rcases q7.1 s s1 s2 with w | ⟨w1, w2, w3⟩
    · exact Or.inl w
    · have hr := w2
      obtain ⟨r1, r2, -⟩ := w2
      refine Or.inr ⟨w1, p_r16_fr hr (by rw [tp]; exact Nat.le_refl _) (fun b _ => tg b) (hM _ _ (by omega) (by omega)) (hM _ _ (by omega) (by omega)), fun i i1 i2 => ?_⟩
      rw [hM _ _ (by omega) (by omega), hA' _ _ (by omega) (by omega)]; exact w3 i i1 i2
  · rw [hM _ _ (by omega) (by omega), hM _ _ (by omega) (by omega), hA' _ _ (by omega) (by omega), hA' _ _ (by omega) (by omega)]; exact q7.2 s t s1 s2 t1 t2
  · obtain ⟨w1, w2, w3, w4⟩ := q8 i i1 i2
    rw [hM _ 0 (by omega) (by omega), hM _ 1 (by omega) (by omega), hM _ 2 (by omega) (by omega), hA' _ _ (by omega) (by omega), hA' _ _ (by omega) (by omega), hA' _ _ (by omega) (by omega)]
    refine ⟨w1, w2, w3, fun w => ?_⟩
    have hr := w4 w
    have hr' := hr
    obtain ⟨r1, r2, -⟩ := hr'
    exact p_r16_fr hr (by rw [tp]; exact Nat.le_refl _) (fun b _ => tg b) (hM _ _ (by omega) (by omega)) (hM _ _ (by omega) (by omega))
theorem p_CI_b {A' M1 : xM} (hA : p_WF A) (hC : p_CI A M) (hA' : ∀ a k, ¬ (6 ≤ a ∧ a ≤ 20) → A' a k = A a k) (hM : ∀ a k, ¬ (6 ≤ a ∧ a ≤ 20) → ¬ (36 ≤ a ∧ a ≤ 75) → M1 a k = M a k) (e : ∀ a k, 6 ≤ a → a ≤ 20 → M1 a k = A' a k) (hW : p_CW M1 (p_Fs A') (A' 6 0).toNat) : p_CI A' M1 := by
  obtain ⟨q1, q2, q3, q4, q5, q6, q7, q8⟩ := hC
  have tp : x_tp M1 = x_tp M := x_tp_eq (hM _ _ (by omega) (by omega))
  have tg : ∀ b, x_tag M1 b = x_tag M b := fun b => x_tag_eq (fun k => hM _ _ (by omega) (by omega)) b
  refine ⟨fun b j c1 c2 => ?_, ?_, ?_, fun j => ?_, fun j => ?_, hW, ⟨fun s s1 s2 => ?_, fun s t s1 s2 t1 t2 => ?_⟩, fun i i1 i2 => ?_⟩
  · by_cases c : b ≤ 20
    · exact e b j c1 c
    · rw [hM b j (by omega) (by omega), hA' b j (by omega)]; exact q1 b j c1 c2
  · rw [hA' _ _ (by omega), hM _ _ (by omega) (by omega)]; exact q2
  · rw [hA' _ _ (by omega), hM _ _ (by omega) (by omega)]; exact q3
  · rw [hA' _ _ (by omega), hM _ _ (by omega) (by omega)]; exact q4 j
  · rw [hA' _ _ (by omega), hM _ _ (by omega) (by omega)]; exact q5 j
  · rw [hA' _ _ (by omega), hA' _ _ (by omega), hM _ _ (by omega) (by omega)]
    rcases q7.1 s s1 s2 with w | ⟨w1, w2, w3⟩
    · exact Or.inl w
    · have hr := w2
      obtain ⟨r1, r2, -⟩ := w2
      refine Or.inr ⟨w1, p_r16_fr hr (by rw [tp]; exact Nat.le_refl _) (fun b _ => tg b) (hM _ _ (by omega) (by omega)) (hM _ _ (by omega) (by omega)), fun i i1 i2 => ?_⟩
      rw [hM _ _ (by omega) (by omega), hA' _ _ (by omega)]; exact w3 i i1 i2
  · rw [hM _ _ (by omega) (by omega), hM _ _ (by omega) (by omega), hA' _ _ (by omega), hA' _ _ (by omega)]; exact q7.2 s t s1 s2 t1 t2
  · obtain ⟨w1, w2, w3, w4⟩ := q8 i i1 i2
    rw [hM _ 0 (by omega) (by omega), hM _ 1 (by omega) (by omega), hM _ 2 (by omega) (by omega), hA' _ _ (by omega), hA' _ _ (by omega), hA' _ _ (by omega)]
    refine ⟨w1, w2, w3, fun w => ?_⟩
    have hr := w4 w
    have hr' := hr
    obtain ⟨r1, r2, -⟩ := hr'
    exact p_r16_fr hr (by rw [tp]; exact Nat.le_refl _) (fun b _ => tg b) (hM _ _ (by omega) (by omega)) (hM _ _ (by omega) (by omega))
noncomputable def p_img (A : xM) : xM := x_wr (p_tak A (A 6 0) 21 6) 5 2 1
noncomputable def o_image (A : xM) : Int × xM := (1, p_img A)
noncomputable def o_back (A : xM) : Int × xM := p_if (A 5 2 = 1) (A 21 0, p_tak A (A 21 0) 6 21) (p_err A 3)
theorem wf_image (hA : p_WF A) : p_WF (o_image A).2 := by
  have w0 := hA.1.1
  have e : ∀ a, a ≠ 5 → ¬ (21 ≤ a ∧ a ≤ 35) → p_img A a = A a := fun a h1 h2 => by
    unfold p_img
    rw [x_wr_fr _ _ _ h1]
    funext k
    exact p_tak_o (by omega) (by omega)
  have e5 : ∀ k, k ≠ 2 → p_img A 5 k = A 5 k := fun k h => by
    unfold p_img
    rw [x_wr_ne _ _ (by omega)]
    exact p_tak_o (by omega) (by omega)
  have e21 : ∀ a, 21 ≤ a → a ≤ 35 → p_img A a = p_tak A (A 6 0) 21 6 a := fun a h1 h2 => x_wr_fr _ _ _ (by omega)
  refine ⟨p_wfW_cg hA.1 (fun a a1 a2 => e a (by omega) (by omega)), p_wfW_cg (p_tak_W hA.1 (by omega)) (fun a a1 a2 => e21 a (by omega) (by omega)), ?_, ?_, fun s s1 s2 => ?_, fun i i1 i2 => ?_, fun f f1 f2 => ?_⟩
  · right; show p_img A 5 2 = 1; unfold p_img; rw [x_wr_eq]
  · show 0 ≤ p_img A 5 12 ∧ p_img A 5 12 ≤ 28
    rw [e5 12 (by omega)]; exact hA.2.2.2.1
  · show (-1 ≤ p_img A 544 s ∧ _) ∧ _
    have := hA.2.2.2.2.1 s s1 s2
    have g4 := e 544 (by omega) (by omega)
    have g5 := e 545 (by omega) (by omega)
    have g7 := e (547 + s) (by omega) (by omega)
    show (-1 ≤ p_img A 544 s ∧ p_img A 544 s ≤ 2) ∧ (0 ≤ p_img A 545 s ∧ p_img A 545 s ≤ 40) ∧ (p_img A 544 s < 0 → p_img A 545 s = 0) ∧ ∀ i, 0 ≤ i → i < 40 → -9223372036854775808 ≤ p_img A (547 + s) i ∧ p_img A (547 + s) i < 9223372036854775808
    rw [g4, g5, g7]; exact this
  · have := hA.2.2.2.2.2.1 i i1 i2
    have g2 := e 552 (by omega) (by omega)
    have g3 := e 553 (by omega) (by omega)
    have g4 := e 554 (by omega) (by omega)
    show (0 ≤ p_img A 552 i ∧ p_img A 552 i ≤ 3) ∧ (p_img A 552 i = 1 ∨ p_img A 552 i = 3 → 0 ≤ p_img A 553 i) ∧ (-2147483648 ≤ p_img A 553 i ∧ p_img A 553 i < 2147483648) ∧ (-1 ≤ p_img A 554 i ∧ p_img A 554 i ≤ 2) ∧ (p_img A 552 i = 3 → 0 ≤ p_img A 554 i)
    rw [g2, g3, g4]; exact this
  · have := hA.2.2.2.2.2.2 f f1 f2
    have g2 := e (9 + 4 * f + 2) (by omega) (by omega)
    have g3 := e (9 + 4 * f + 3) (by omega) (by omega)
    show (∀ k, 0 ≤ k → k < 12 → -3 ≤ p_img A (9 + 4 * f + 2) k ∧ p_img A (9 + 4 * f + 2) k ≤ 3) ∧ ∀ k, 0 ≤ k → k < 4 → 0 ≤ p_img A (9 + 4 * f + 3) k ∧ p_img A (9 + 4 * f + 3) k ≤ 20
    rw [g2, g3]; exact this
theorem wf_tkb (hA : p_WF A) : p_WF (p_tak A (A 21 0) 6 21) := by
  have w0 := hA.2.1.1
  have e : ∀ a, ¬ (6 ≤ a ∧ a ≤ 20) → p_tak A (A 21 0) 6 21 a = A a := fun a h => by funext k; exact p_tak_o (by omega) (by omega)
  refine ⟨p_tak_W hA.2.1 (by omega), p_wfW_cg hA.2.1 (fun a a1 a2 => e a (by omega)), ?_, ?_, fun s s1 s2 => ?_, fun i i1 i2 => ?_, fun f f1 f2 => ?_⟩
  · rw [e 5 (by omega)]; exact hA.2.2.1
  · rw [e 5 (by omega)]; exact hA.2.2.2.1
  · rw [e 544 (by omega), e 545 (by omega), e (547 + s) (by omega)]; exact hA.2.2.2.2.1 s s1 s2
  · rw [e 552 (by omega), e 553 (by omega), e 554 (by omega)]; exact hA.2.2.2.2.2.1 i i1 i2
  · by_cases c : f < A 21 0
    · have w := hA.2.1.2.2.2.2.2.2.2 f.toNat (by omega)
      rw [show ((f.toNat : Nat) : Int) = f by omega] at w
      refine ⟨fun k k1 k2 => ?_, fun k k1 k2 => ?_⟩
      · have t := p_tak_f (A := A) (n := A 21 0) (o := 6) (q := 21) (f := f) (j := 2) (k := k) ⟨f1, c⟩ (by omega) (Or.inr (Or.inr (Or.inl ⟨rfl, k1, k2⟩)))
        have q := w.2.2.2.2.2.1 k k1 k2
        rw [x_F2] at q
        rw [show (9 : Int) + 4 * f + 2 = 6 + 3 + 4 * f + 2 by omega, t]; exact q
      · have t := p_tak_f (A := A) (n := A 21 0) (o := 6) (q := 21) (f := f) (j := 3) (k := k) ⟨f1, c⟩ (by omega) (Or.inr (Or.inr (Or.inr ⟨rfl, k1, k2⟩)))
        have q := w.2.2.2.2.2.2.2 k k1 k2
        rw [x_F3] at q
        rw [show (9 : Int) + 4 * f + 3 = 6 + 3 + 4 * f + 3 by omega, t]; exact q
    · have o := hA.2.2.2.2.2.2 f f1 f2
      refine ⟨fun k k1 k2 => ?_, fun k k1 k2 => ?_⟩
      · rw [p_tak_ne (by omega) (by omega) (fun z => by omega)]; exact o.1 k k1 k2
      · rw [p_tak_ne (by omega) (by omega) (fun z => by omega)]; exact o.2 k k1 k2
theorem wf_back (hA : p_WF A) : p_WF (o_back A).2 := by
  unfold o_back
  by_cases c : A 5 2 = 1
  · rw [p_if_t c]; exact wf_tkb hA
  · rw [p_if_f c]; exact wf_tl hA 3
theorem k_image (hA : p_WF A) (hC : p_CI A M) (h : ∀ M1, p_CI (o_image A).2 M1 → p_cfr M M1 → Q (some (0, (o_image A).1)) M1) : x_Ev l E (4, 0, 0) m_X10_image 0 [(20, 5)] [] M Q := by
  have w0 := hA.1.1
  refine u_X10_image_0 (c_takeI w0 (fun a k a1 a2 => hC.1 a k a1 a2) rfl (fun M1 g1 g2 => ⟨rfl, fun M2 h2 => ?_⟩))
  have f2 : ∀ a k, ¬ (21 ≤ a ∧ a ≤ 35) → ¬ (a = 5 ∧ k = 2) → M2 a k = M a k := fun a k q1 q2 => by
    rw [h2, x_wr_ne _ _ q2]
    by_cases c : 6 ≤ a ∧ a ≤ 35
    · rw [g1 a k c.1 c.2, p_tak_o (by omega) (by omega)]; exact (hC.1 a k c.1 c.2).symm
    · exact g2 a k c
  refine h M2 (p_CI_k (A' := p_img A) hA hC (fun a k q1 q2 => ?_) f2 (fun a k a1 a2 => ?_) ?_) (fun a k q1 q2 => f2 a k (by omega) (by omega))
  · unfold p_img
    rw [x_wr_ne _ _ q2, p_tak_o (by omega) (by omega)]
  · unfold p_img
    rw [h2, x_wr_ne _ _ (by omega), x_wr_ne _ _ (by omega)]
    exact g1 a k (by omega) a2
  · unfold p_img
    rw [h2, x_wr_eq, x_wr_eq]
theorem k_back (hA : p_WF A) (hC : p_CI A M) (h : ∀ M1, p_CI (o_back A).2 M1 → p_cfr M M1 → Q (some (0, (o_back A).1)) M1) : x_Ev l E (5, 0, 0) m_X10_back 0 [(20, 5), (5, 0)] [] M Q := by
  have w0 := hA.2.1.1
  have wk := hA.2.2.1
  unfold o_back at h
  refine u_X10_back_0 ?_
  rw [hC.2.1]
  refine ⟨fun c => ?_, fun c => ?_⟩
  · rw [p_if_t (by omega)] at h
    refine c_takeB w0 (fun a k a1 a2 => hC.1 a k a1 a2) rfl (fun M1 g1 g2 => ⟨rfl, ?_⟩)
    have wB := wf_tkb hA
    have e60 : p_tak A (A 21 0) 6 21 6 0 = A 21 0 := p_tak_0 (by omega)
    have main : ∀ (m f : Nat) (M' : xM), (A 21 0).toNat - f ≤ m → f ≤ (A 21 0).toNat → (∀ a k, ¬ (36 ≤ a ∧ a ≤ 75) → M' a k = M1 a k) → (∀ g : Nat, g < f → p_tab M' (49 + 9 * (g : Int)) (p_n (p_Fs (p_tak A (A 21 0) 6 21) g)) (p_TT (p_Fs (p_tak A (A 21 0) 6 21) g)) ∧ p_sums M' (49 + 9 * (g : Int)) (p_n (p_Fs (p_tak A (A 21 0) 6 21) g)) (p_Fs (p_tak A (A 21 0) 6 21) g) (p_TT (p_Fs (p_tak A (A 21 0) 6 21) g))) → x_Ev l E (5, 0, 0) m_X10_back 26 [(20, 5), (0, (f : Int))] [] M' Q := by
      intro m
      induction m with
      | zero =>
        intro f M' hm hf fr T
        have ef : f = (A 21 0).toNat := by omega
        have e0 : M' 6 0 = A 21 0 := by rw [fr _ _ (by omega), g1 _ _ (by omega) (by omega)]; exact e60
        refine u_X10_back_26 f ⟨fun _ => ?_, fun z => by omega⟩
        rw [e0]
        refine h M' (p_CI_b (A' := p_tak A (A 21 0) 6 21) hA hC (fun a k q => p_tak_o (by omega) (by omega)) (fun a k q1 q2 => ?_) (fun a k a1 a2 => ?_) ⟨?_, ?_, fun g hg => ?_⟩) (fun a k q1 q2 => ?_)
        · rw [fr a k q2]
          by_cases c2 : 6 ≤ a ∧ a ≤ 35
          · rw [g1 a k c2.1 c2.2, p_tak_o (by omega) (by omega)]; exact (hC.1 a k c2.1 c2.2).symm
          · exact g2 a k c2
        · rw [fr a k (by omega)]; exact g1 a k a1 (by omega)
        · rw [e0, e60]; omega
        · rw [e60]; omega
        · rw [e60] at hg
          have wg : p_wf (p_Fs (p_tak A (A 21 0) 6 21) g) := wB.1.2.2.2.2.2.2.2 g (by rw [e60]; omega)
          refine ⟨wg, x_F_eq (fun a a1 a2 => by funext k; rw [fr a k (by omega)]; exact g1 a k (by omega) (by omega)), ?_⟩
          exact T g (by omega)
        · rw [fr a k (by omega)]; exact g2 a k (by omega)
      | succ m ih =>
        intro f M' hm hf fr T
        by_cases ef : f = (A 21 0).toNat
        · exact ih f M' (by omega) hf fr T
        have e0 : M' 6 0 = A 21 0 := by rw [fr _ _ (by omega), g1 _ _ (by omega) (by omega)]; exact e60
        refine u_X10_back_26 f ⟨fun z => by omega, fun z => ⟨by omega, ?_⟩⟩
        rw [show 41 + 8 + 9 * (f : Int) = 49 + 9 * (f : Int) by omega]
        have xf : x_F M' (9 + 4 * (f : Int)) = p_Fs (p_tak A (A 21 0) 6 21) f := x_F_eq (fun a a1 a2 => by funext k; rw [fr a k (by omega)]; exact g1 a k (by omega) (by omega))
        have wg : p_wf (p_Fs (p_tak A (A 21 0) 6 21) f) := wB.1.2.2.2.2.2.2.2 f (by rw [e60]; omega)
        refine c_findAll p_ten_ok (by omega) (by rw [xf]; exact wg) (fun M2 s1 s2 s3 => ⟨rfl, fun v hv => ?_⟩)
        rw [xf] at s1 s2
        rw [x_w_id (by omega) (by omega)] at hv
        rw [hv]
        refine ih (f + 1) M2 (by omega) (by omega) (fun a k q => by rw [s3 a (by omega) (by omega)]; exact fr a k q) (fun g hg => ?_)
        by_cases eg : g = f
        · rw [eg]; exact ⟨s1, s2⟩
        · obtain ⟨t1, t2⟩ := T g (by omega)
          have et : ∀ i, 0 ≤ i → i ≤ 6 → M2 (49 + 9 * (g : Int) + i) = M' (49 + 9 * (g : Int) + i) := fun i i1 i2 => s3 _ (by omega) (by omega)
          refine ⟨p_ctab_fr t1 ?_ (et 1 (by omega) (by omega)) (et 2 (by omega) (by omega)) (et 3 (by omega) (by omega)), p_sums_fr t2 (et 4 (by omega) (by omega)) (et 5 (by omega) (by omega)) (et 6 (by omega) (by omega))⟩
          have := et 0 (by omega) (by omega)
          rw [Int.add_zero] at this
          rw [this]
    exact main _ 0 M1 (Nat.le_refl _) (Nat.zero_le _) (fun _ _ _ => rfl) (fun g hg => by omega)
  · rw [p_if_f (by omega)] at h
    exact k_tl hA hC (by omega) (fun M1 a b => ⟨_, rfl, h M1 a b⟩)
end P20
