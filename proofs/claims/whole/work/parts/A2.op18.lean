/-! hold, taken; sheet of the reference -/
noncomputable def p_shA (A : xM) (s t n : Int) : xM := fun a k => if a = 544 ∧ k = s then t else if a = 545 ∧ k = s then n else if a = 547 + s ∧ 0 ≤ k ∧ k < 40 then 0 else A a k
noncomputable def o_sheet (A : xM) (s t n : Int) : Int × xM := p_if ((0 ≤ s ∧ s < 4) ∧ -1 ≤ t ∧ t ≤ 2) (p_if (t = -1) (0, p_shA A s (-1) 0) (p_if (n < 0) (p_err A 6) (p_if (40 < n) (p_err A 0) (n, p_shA A s t n)))) (p_err A 0)
def p_spA (A : xM) (p x y z : Int) : xM := x_wr (x_wr (x_wr A 552 p x) 553 p y) 554 p z
def p_hk (A : xM) (w n : Int) : Int := if w = 3 ∨ (w = 2 ∧ A 544 n < 0) then 0 else 1 + w
def p_hn (A : xM) (w n : Int) : Int := if w = 0 then n else if w = 1 then x_w (x_W ((A 7 0).tdiv (A 7 1))) else if w = 2 then A 545 n else 0
def p_hs (A : xM) (w n : Int) : Int := if w = 2 then A 544 n else -1
noncomputable def o_hold (A : xM) (p w n : Int) : Int × xM := p_if ((0 ≤ p ∧ p < 10) ∧ (0 ≤ w ∧ w ≤ 3) ∧ (w = 0 → 0 ≤ n ∧ n < A 6 0) ∧ (w = 2 → 0 ≤ n ∧ n < 4)) (1, p_spA A p (p_hk A w n) (p_hn A w n) (p_hs A w n)) (p_err A 0)
section P18
variable {l : Launch} {E : xE} {Q : Option xV → xM → Prop} {A M : xM}
theorem p_shA_ne {s t n a k : Int} (h1 : ¬ (a = 544 ∧ k = s)) (h2 : ¬ (a = 545 ∧ k = s)) (h3 : a ≠ 547 + s) : p_shA A s t n a k = A a k := by
  unfold p_shA
  rw [if_neg h1, if_neg h2, if_neg (by omega)]
theorem p_shA_4 {s t n : Int} : p_shA A s t n 544 s = t := by
  unfold p_shA
  rw [if_pos ⟨rfl, rfl⟩]
theorem p_shA_5 {s t n : Int} : p_shA A s t n 545 s = n := by
  unfold p_shA
  rw [if_neg (by omega), if_pos ⟨rfl, rfl⟩]
theorem p_shA_7 {s t n k : Int} (hs : 0 ≤ s) (hk : 0 ≤ k ∧ k < 40) : p_shA A s t n (547 + s) k = 0 := by
  unfold p_shA
  rw [if_neg (by omega), if_neg (by omega), if_pos (by omega)]
theorem wf_shA (hA : p_WF A) {s t n : Int} (hs : 0 ≤ s ∧ s < 4) (ht : -1 ≤ t ∧ t ≤ 2) (hn : 0 ≤ n ∧ n ≤ 40) (h0 : t < 0 → n = 0) : p_WF (p_shA A s t n) := by
  refine p_WF_s hA (fun a k q => p_shA_ne (by omega) (by omega) (by omega)) (fun x x1 x2 => ?_) (fun x x1 x2 => ?_)
  · obtain ⟨g1, g2, g3, g4⟩ := hA.2.2.2.2.1 x x1 x2
    by_cases e : x = s
    · rw [e, p_shA_4, p_shA_5]
      refine ⟨ht, hn, h0, fun i i1 i2 => ?_⟩
      rw [p_shA_7 (by omega) (by omega)]; omega
    · rw [p_shA_ne (by omega) (by omega) (by omega), p_shA_ne (by omega) (by omega) (by omega)]
      refine ⟨g1, g2, g3, fun i i1 i2 => ?_⟩
      rw [p_shA_ne (by omega) (by omega) (by omega)]; exact g4 i i1 i2
  · rw [p_shA_ne (by omega) (by omega) (by omega), p_shA_ne (by omega) (by omega) (by omega), p_shA_ne (by omega) (by omega) (by omega)]; exact hA.2.2.2.2.2.1 x x1 x2
theorem wf_sheet (hA : p_WF A) (s t n : Int) : p_WF (o_sheet A s t n).2 := by
  unfold o_sheet
  by_cases c : (0 ≤ s ∧ s < 4) ∧ -1 ≤ t ∧ t ≤ 2
  · rw [p_if_t c]
    by_cases d : t = -1
    · rw [p_if_t d]; exact wf_shA hA c.1 (by omega) (by omega) (fun _ => rfl)
    · rw [p_if_f d]
      by_cases e : n < 0
      · rw [p_if_t e]; exact wf_tl hA 6
      · rw [p_if_f e]
        by_cases g : 40 < n
        · rw [p_if_t g]; exact wf_tl hA 0
        · rw [p_if_f g]; exact wf_shA hA c.1 c.2 (by omega) (fun z => by omega)
  · rw [p_if_f c]; exact wf_tl hA 0
theorem r_sheet (hA : p_WF A) (hR : p_RI A M) {s t n : Int} (h : ∀ M1, p_RI (o_sheet A s t n).2 M1 → p_rfr M M1 → Q (some (0, (o_sheet A s t n).1)) M1) : x_Ev l E (3, 0, 0) m_X11_sheet 0 [(21, 103), (0, s), (0, t), (0, n), (5, 0)] [] M Q := by
  unfold o_sheet at h
  have bad : ¬ ((0 ≤ s ∧ s < 4) ∧ -1 ≤ t ∧ t ≤ 2) → x_Ev l E (1, 0, 0) m_X11_finds 0 [(21, 103), (0, 0)] [] M (fun r M3 => ∃ z, r = some (0, z) ∧ Q (some (0, z)) M3) := fun c => by
    rw [p_if_f c] at h
    exact r_tl hA hR (by omega) (fun M1 a b => ⟨_, rfl, h M1 a b⟩)
  refine u_X11_sheet_0 s t n (r_Sh (fun c => x_n1 (by omega) (r_in (fun d => x_y1 (by omega) ?_) (fun d => x_y0 (bad (fun q => d q.2))))) (fun c => x_n0 (bad (fun q => c q.1))))
  rw [p_if_t ⟨c, d⟩] at h
  have go : ∀ (v : Int) (M2 : xM), 0 ≤ v → v ≤ 40 → (∀ M1, p_RI (p_shA A s t v) M1 → p_rfr M M1 → Q (some (0, v)) M1) → (∀ a k, ¬ ((a = 544 ∨ a = 545) ∧ k = s) → M2 a k = M a k) → M2 544 s = t → M2 545 s = v → x_Ev l E (3, 0, 0) m_X11_sheet 83 [(21, 103), (0, s), (0, t), (0, n), (0, 0)] [] M2 Q := by
    intro v M2 v0 v1 hq f0 e4 e5
    have main : ∀ (m : Nat) (k : Int) (M' : xM), 40 - k ≤ m → 0 ≤ k → k ≤ 40 → (∀ a x, a ≠ 547 + s → M' a x = M2 a x) → (∀ x, 0 ≤ x → x < k → M' (547 + s) x = 0) → x_Ev l E (3, 0, 0) m_X11_sheet 83 [(21, 103), (0, s), (0, t), (0, n), (0, k)] [] M' Q := by
      intro m
      induction m with
      | zero =>
        intro k M' hm k0 k1 g1 g2
        refine u_X11_sheet_83 s t n k ⟨fun _ => ⟨by omega, ?_⟩, fun z => by omega⟩
        rw [g1 _ _ (by omega), e5]
        have fr : ∀ a x, ¬ ((a = 544 ∨ a = 545) ∧ x = s) → a ≠ 547 + s → M' a x = M a x := fun a x q1 q2 => by rw [g1 a x q2]; exact f0 a x q1
        refine hq M' (p_RI_s hA hR (fun a x q => p_shA_ne (by omega) (by omega) (by omega)) (fun a x q1 q2 => fr a x (by omega) (by omega)) (fun x x1 x2 => ?_) (fun x x1 x2 => ?_)) (p_rfr_o (fun a x q => fr a x (by omega) (by omega)))
        · by_cases e : x = s
          · rw [e, p_shA_4, p_shA_5]
            refine ⟨by rw [g1 _ _ (by omega)]; exact e4, by rw [g1 _ _ (by omega)]; exact e5, fun i i1 i2 => ?_⟩
            rw [p_shA_7 (by omega) (by omega)]; exact g2 i i1 (by omega)
          · obtain ⟨b1, b2, b3⟩ := hR.2.2.2.2.1 x x1 x2
            rw [p_shA_ne (by omega) (by omega) (by omega), p_shA_ne (by omega) (by omega) (by omega), fr _ _ (by omega) (by omega), fr _ _ (by omega) (by omega)]
            refine ⟨b1, b2, fun i i1 i2 => ?_⟩
            rw [p_shA_ne (by omega) (by omega) (by omega), fr _ _ (by omega) (by omega)]; exact b3 i i1 i2
        · rw [p_shA_ne (by omega) (by omega) (by omega), p_shA_ne (by omega) (by omega) (by omega), p_shA_ne (by omega) (by omega) (by omega), fr _ _ (by omega) (by omega), fr _ _ (by omega) (by omega), fr _ _ (by omega) (by omega)]
          exact hR.2.2.2.2.2.1 x x1 x2
      | succ m ih =>
        intro k M' hm k0 k1 g1 g2
        by_cases ek : k = 40
        · exact ih k M' (by omega) k0 k1 g1 g2
        refine u_X11_sheet_83 s t n k ⟨fun z => by omega, fun z => ⟨by omega, by omega, ?_⟩⟩
        rw [show 546 + 1 + 1 * s = 547 + s by omega]
        intro M1 hM1 v hv
        rw [x_w_id (by omega) (by omega)] at hv
        rw [hv]
        refine ih (k + 1) M1 (by omega) (by omega) (by omega) (fun a x q => by rw [hM1, x_wr_ne _ _ (by omega)]; exact g1 a x q) (fun x x1 x2 => ?_)
        by_cases ex : x = k
        · rw [ex, hM1, x_wr_eq]
        · rw [hM1, x_wr_ne _ _ (by omega)]; exact g2 x x1 (by omega)
    exact main 40 0 M2 (by omega) (by omega) (by omega) (fun _ _ _ => rfl) (fun x x1 x2 => by omega)
  refine ⟨fun e => ⟨by omega, ?_⟩, fun e => ⟨fun g => ⟨fun g2 => ⟨by omega, ?_⟩, fun g2 => ?_⟩, fun g => ?_⟩⟩
  · rw [p_if_t (by omega)] at h
    intro M1 h1
    refine ⟨by omega, ?_⟩
    intro M2 h2
    have et : t = -1 := by omega
    refine go 0 M2 (by omega) (by omega) (by rw [et]; exact h) (fun a k q => by rw [h2, x_wr_ne _ _ (by omega), h1, x_wr_ne _ _ (by omega)]) (by rw [h2, x_wr_ne _ _ (by omega), h1, x_wr_eq]) (by rw [h2, x_wr_eq])
  · rw [p_if_f (by omega), p_if_f (by omega), p_if_f (by omega)] at h
    intro M1 h1
    refine ⟨by omega, ?_⟩
    intro M2 h2
    exact go n M2 (by omega) (by omega) h (fun a k q => by rw [h2, x_wr_ne _ _ (by omega), h1, x_wr_ne _ _ (by omega)]) (by rw [h2, x_wr_ne _ _ (by omega), h1, x_wr_eq]) (by rw [h2, x_wr_eq])
  · rw [p_if_f (by omega), p_if_f (by omega), p_if_t (by omega)] at h
    exact r_tl hA hR (by omega) (fun M1 a b => ⟨_, rfl, h M1 a b⟩)
  · rw [p_if_f (by omega), p_if_t (by omega)] at h
    exact r_tl hA hR (by omega) (fun M1 a b => ⟨_, rfl, h M1 a b⟩)
/-! spots -/
theorem p_spA_ne {p x y z a k : Int} (h : ¬ ((a = 552 ∨ a = 553 ∨ a = 554) ∧ k = p)) : p_spA A p x y z a k = A a k := by
  unfold p_spA
  rw [x_wr_ne _ _ (by omega), x_wr_ne _ _ (by omega), x_wr_ne _ _ (by omega)]
theorem p_spA_v {p x y z : Int} : p_spA A p x y z 552 p = x ∧ p_spA A p x y z 553 p = y ∧ p_spA A p x y z 554 p = z := by
  unfold p_spA
  refine ⟨?_, ?_, ?_⟩
  · rw [x_wr_ne _ _ (by omega), x_wr_ne _ _ (by omega), x_wr_eq]
  · rw [x_wr_ne _ _ (by omega), x_wr_eq]
  · rw [x_wr_eq]
theorem wf_spA (hA : p_WF A) {p x y z : Int} (hx : 0 ≤ x ∧ x ≤ 3) (hy : x = 1 ∨ x = 3 → 0 ≤ y) (hy2 : -2147483648 ≤ y ∧ y < 2147483648) (hz : -1 ≤ z ∧ z ≤ 2) (hz2 : x = 3 → 0 ≤ z) : p_WF (p_spA A p x y z) := by
  refine p_WF_s hA (fun a k q => p_spA_ne (by omega)) (fun s s1 s2 => ?_) (fun i i1 i2 => ?_)
  · rw [p_spA_ne (by omega), p_spA_ne (by omega)]
    obtain ⟨g1, g2, g3, g4⟩ := hA.2.2.2.2.1 s s1 s2
    refine ⟨g1, g2, g3, fun i i1 i2 => ?_⟩
    rw [p_spA_ne (by omega)]; exact g4 i i1 i2
  · obtain ⟨v1, v2, v3⟩ := p_spA_v (A := A) (p := p) (x := x) (y := y) (z := z)
    by_cases e : i = p
    · rw [e, v1, v2, v3]; exact ⟨hx, hy, hy2, hz, hz2⟩
    · rw [p_spA_ne (by omega), p_spA_ne (by omega), p_spA_ne (by omega)]; exact hA.2.2.2.2.2.1 i i1 i2
theorem k_sp (hA : p_WF A) (hC : p_CI A M) {p x y z u r : Int} {M1 : xM} (hp : 0 ≤ p ∧ p < 10) (hM : ∀ a k, a ≠ 90 + p → M1 a k = M a k) (e0 : M1 (90 + p) 0 = x) (e1 : M1 (90 + p) 1 = u) (e2 : M1 (90 + p) 2 = r) (c1 : x = 1 ∨ x = 2 → u = y) (c2 : x ≠ 3 → r = -1) (c3 : x = 3 → p_r16 M r z y) : p_CI (p_spA A p x y z) M1 ∧ p_cfr M M1 := by
  have tp : x_tp M1 = x_tp M := x_tp_eq (hM _ _ (by omega))
  have tg : ∀ b, x_tag M1 b = x_tag M b := fun b => x_tag_eq (fun k => hM _ _ (by omega)) b
  have q7 := hC.2.2.2.2.2.2.1
  have q8 := hC.2.2.2.2.2.2.2
  refine ⟨p_CI_s hA hC (fun a k q => p_spA_ne (by omega)) (fun a k q1 q2 => hM a k (by omega)) ⟨fun s s1 s2 => ?_, fun s t s1 s2 t1 t2 => ?_⟩ (fun i i1 i2 => ?_), fun a k q1 q2 => hM a k (by omega)⟩
  · rw [p_spA_ne (by omega), p_spA_ne (by omega), hM _ _ (by omega)]
    rcases q7.1 s s1 s2 with w | ⟨w1, w2, w3⟩
    · exact Or.inl w
    · have hr := w2
      obtain ⟨r1, r2, -⟩ := w2
      refine Or.inr ⟨w1, p_r16_fr hr (by rw [tp]; exact Nat.le_refl _) (fun b _ => tg b) (hM _ _ (by omega)) (hM _ _ (by omega)), fun i i1 i2 => ?_⟩
      rw [hM _ _ (by omega), p_spA_ne (by omega)]; exact w3 i i1 i2
  · rw [hM _ _ (by omega), hM _ _ (by omega), p_spA_ne (by omega), p_spA_ne (by omega)]; exact q7.2 s t s1 s2 t1 t2
  · by_cases e : i = p
    · obtain ⟨v1, v2, v3⟩ := p_spA_v (A := A) (p := p) (x := x) (y := y) (z := z)
      rw [e, v1, v2, v3, e0, e1, e2]
      refine ⟨rfl, c1, c2, fun w => ?_⟩
      have hr := c3 w
      have hr' := hr
      obtain ⟨r1, r2, -⟩ := hr'
      exact p_r16_fr hr (by rw [tp]; exact Nat.le_refl _) (fun b _ => tg b) (hM _ _ (by omega)) (hM _ _ (by omega))
    · obtain ⟨w1, w2, w3, w4⟩ := q8 i i1 i2
      rw [hM _ 0 (by omega), hM _ 1 (by omega), hM _ 2 (by omega), p_spA_ne (by omega), p_spA_ne (by omega), p_spA_ne (by omega)]
      refine ⟨w1, w2, w3, fun w => ?_⟩
      have hr := w4 w
      have hr' := hr
      obtain ⟨r1, r2, -⟩ := hr'
      exact p_r16_fr hr (by rw [tp]; exact Nat.le_refl _) (fun b _ => tg b) (hM _ _ (by omega)) (hM _ _ (by omega))
theorem k_NSp {a : Int} (h1 : ¬ (0 ≤ a ∧ a < 10) → Q (some (0, 1)) M) (h0 : 0 ≤ a ∧ a < 10 → Q (some (0, 0)) M) : x_Ev l E (1, 0, 0) m_X10_isNoSpot 0 [(20, 5), (0, a)] [] M Q :=
  u_X10_isNoSpot_0 a ⟨fun c => h1 (by omega), fun c => ⟨fun d => h0 (by omega), fun d => h1 (by omega)⟩⟩
theorem k_hold (hA : p_WF A) (hC : p_CI A M) {p w n : Int} (h : ∀ M1, p_CI (o_hold A p w n).2 M1 → p_cfr M M1 → Q (some (0, (o_hold A p w n).1)) M1) : x_Ev l E (2, 0, 0) m_X10_hold 0 [(20, 5), (0, p), (0, w), (0, n), (5, 0), (5, 0)] [] M Q := by
  unfold o_hold at h
  have hpq := (p_W_tm hA).1
  have bad : ¬ ((0 ≤ p ∧ p < 10) ∧ (0 ≤ w ∧ w ≤ 3) ∧ (w = 0 → 0 ≤ n ∧ n < A 6 0) ∧ (w = 2 → 0 ≤ n ∧ n < 4)) → x_Ev l E (1, 0, 0) m_X10_tell 0 [(20, 5), (0, 0)] [] M (fun r M3 => ∃ z, r = some (0, z) ∧ Q (some (0, z)) M3) := fun c => by
    rw [p_if_f c] at h
    exact k_tl hA hC (by omega) (fun M1 a b => ⟨_, rfl, h M1 a b⟩)
  have keep : ∀ (x y z u r : Int) (M1 M2 M3 : xM), ((0 ≤ p ∧ p < 10) ∧ (0 ≤ w ∧ w ≤ 3) ∧ (w = 0 → 0 ≤ n ∧ n < A 6 0) ∧ (w = 2 → 0 ≤ n ∧ n < 4)) → x = p_hk A w n → y = p_hn A w n → z = p_hs A w n → (x = 1 ∨ x = 2 → u = y) → (x ≠ 3 → r = -1) → (x = 3 → p_r16 M r z y) → M1 = x_wr M (89 + 1 + 1 * p) 0 x → M2 = x_wr M1 (89 + 1 + 1 * p) 1 u → M3 = x_wr M2 (89 + 1 + 1 * p) 2 r → Q (some (0, 1)) M3 := by
    intro x y z u r M1 M2 M3 ok hx hy hz c1 c2 c3 h1 h2 h3
    rw [p_if_t ok] at h
    rw [show 89 + 1 + 1 * p = 90 + p by omega] at h1 h2 h3
    obtain ⟨g1, g2⟩ := k_sp (x := x) (y := y) (z := z) (u := u) (r := r) (M1 := M3) hA hC ok.1 (fun a k q => by rw [h3, x_wr_ne _ _ (by omega), h2, x_wr_ne _ _ (by omega), h1, x_wr_ne _ _ (by omega)]) (by rw [h3, x_wr_ne _ _ (by omega), h2, x_wr_ne _ _ (by omega), h1, x_wr_eq]) (by rw [h3, x_wr_ne _ _ (by omega), h2, x_wr_eq]) (by rw [h3, x_wr_eq]) c1 c2 c3
    rw [hx, hy, hz] at g1
    exact h M3 g1 g2
  refine u_X10_hold_0 p w n ⟨fun c => ⟨fun d => k_NSp (fun e => x_y1 (by omega) (bad (fun q => e q.1))) (fun e => x_y0 ⟨fun g => bad (fun q => by omega), fun g => ⟨fun g2 => bad (fun q => by omega), fun g2 => ⟨by omega, fun g3 => ?_, fun g3 => ?_⟩⟩⟩), fun d => k_NS (fun e => x_n1 (by omega) (k_NSp (fun _ => x_y1 (by omega) (bad (fun q => e (q.2.2.2 d)))) (fun _ => x_y0 (bad (fun q => e (q.2.2.2 d)))))) (fun e => x_n0 (k_NSp (fun g => x_y1 (by omega) (bad (fun q => g q.1))) (fun g => x_y0 ⟨by omega, by omega, ?_⟩)))⟩, fun c => k_NF hC (fun d => x_y1 (by omega) (k_NSp (fun _ => x_y1 (by omega) (bad (fun q => d (q.2.2.1 c)))) (fun _ => x_y0 (bad (fun q => d (q.2.2.1 c)))))) (fun d => x_y0 (k_NSp (fun e => x_y1 (by omega) (bad (fun q => e q.1))) (fun e => x_y0 ⟨by omega, ?_⟩)))⟩
  · -- nothing
    have ew : w = 3 := by omega
    refine u_X7_keep_0 _ 0 0 (-1) ?_
    intro M1 h1 M2 h2 M3 h3
    refine ⟨rfl, keep 0 (p_hn A w n) (p_hs A w n) 0 (-1) M1 M2 M3 ⟨e, by omega, fun z => by omega, fun z => by omega⟩ ?_ rfl rfl (fun z => by omega) (fun _ => rfl) (fun z => by omega) h1 h2 h3⟩
    unfold p_hk
    rw [if_pos (Or.inl ew)]
  · -- the term
    have e1 := hpq.2.2.1
    refine u_X2_cut_0 7 ?_
    rw [hC.1 7 0 (by omega) (by omega), hC.1 7 1 (by omega) (by omega)]
    refine ⟨fun z => by omega, fun z => ⟨by omega, _, rfl, u_X7_keep_0 _ 2 _ (-1) ?_⟩⟩
    intro M1 h1 M2 h2 M3 h3
    refine ⟨rfl, keep 2 (p_hn A w n) (p_hs A w n) _ (-1) M1 M2 M3 ⟨e, by omega, fun z => by omega, fun z => by omega⟩ ?_ rfl rfl (fun _ => ?_) (fun _ => rfl) (fun z => by omega) h1 h2 h3⟩
    · unfold p_hk
      rw [if_neg (by omega)]; omega
    · unfold p_hn
      rw [if_neg (by omega), if_pos g3]
  · -- a row
    obtain ⟨z1, z2⟩ := k_88 hC e
    refine ⟨fun q => ?_, fun q => ⟨by omega, ?_⟩⟩
    · refine u_X7_keep_0 _ 0 0 (-1) ?_
      intro M1 h1 M2 h2 M3 h3
      refine ⟨rfl, keep 0 (p_hn A w n) (p_hs A w n) 0 (-1) M1 M2 M3 ⟨g, by omega, fun z => by omega, fun _ => e⟩ ?_ rfl rfl (fun z => by omega) (fun _ => rfl) (fun z => by omega) h1 h2 h3⟩
      unfold p_hk
      rw [if_pos (Or.inr ⟨d, by omega⟩)]
    · refine u_X7_keep_0_v2 _ 3 0 _ ?_
      intro M1 h1 M2 h2 M3 h3
      refine ⟨rfl, keep 3 (p_hn A w n) (p_hs A w n) 0 (M 88 n) M1 M2 M3 ⟨g, by omega, fun z => by omega, fun _ => e⟩ ?_ rfl rfl (fun z => by omega) (fun z => absurd rfl z) (fun _ => ?_) h1 h2 h3⟩
      · unfold p_hk
        rw [if_neg (by omega)]; omega
      · have en : p_hn A w n = A 545 n := by
          unfold p_hn
          rw [if_neg (by omega), if_neg (by omega), if_pos d]
        have es : p_hs A w n = A 544 n := by
          unfold p_hs
          rw [if_pos d]
        rw [en, es]
        rcases hC.2.2.2.2.2.2.1.1 n e.1 e.2 with w' | ⟨w1, w2, w3⟩
        · omega
        · exact w2
  · -- a follower
    refine u_X7_keep_0 _ 1 n (-1) ?_
    intro M1 h1 M2 h2 M3 h3
    refine ⟨rfl, keep 1 (p_hn A w n) (p_hs A w n) n (-1) M1 M2 M3 ⟨e, by omega, fun _ => d, fun z => by omega⟩ ?_ rfl rfl (fun _ => ?_) (fun _ => rfl) (fun z => by omega) h1 h2 h3⟩
    · unfold p_hk
      rw [if_neg (by omega)]; omega
    · unfold p_hn
      rw [if_pos c]
theorem r_sp (hA : p_WF A) (hR : p_RI A M) {p x y z : Int} {M1 : xM} (hp : 0 ≤ p ∧ p < 10) (hM : ∀ a k, ¬ ((a = 552 ∨ a = 553 ∨ a = 554) ∧ k = p) → M1 a k = M a k) (e0 : M1 552 p = x) (e1 : x ≠ 0 → M1 553 p = y) (e2 : x = 3 → M1 554 p = z) : p_RI (p_spA A p x y z) M1 ∧ p_rfr M M1 := by
  have q6 := hR.2.2.2.2.1
  have q7 := hR.2.2.2.2.2.1
  refine ⟨p_RI_s hA hR (fun a k q => p_spA_ne (by omega)) (fun a k q1 q2 => hM a k (by omega)) (fun t t1 t2 => ?_) (fun i i1 i2 => ?_), p_rfr_o (fun a k q => hM a k (by omega))⟩
  · obtain ⟨b1, b2, b3⟩ := q6 t t1 t2
    rw [p_spA_ne (by omega), p_spA_ne (by omega), hM _ _ (by omega), hM _ _ (by omega)]
    refine ⟨b1, b2, fun i i1 i2 => ?_⟩
    rw [p_spA_ne (by omega), hM _ _ (by omega)]; exact b3 i i1 i2
  · by_cases e : i = p
    · obtain ⟨v1, v2, v3⟩ := p_spA_v (A := A) (p := p) (x := x) (y := y) (z := z)
      rw [e, v1, v2, v3]; exact ⟨e0, e1, e2⟩
    · rw [p_spA_ne (by omega), p_spA_ne (by omega), p_spA_ne (by omega), hM _ _ (by omega), hM _ _ (by omega), hM _ _ (by omega)]; exact q7 i i1 i2
theorem r_hold (hA : p_WF A) (hR : p_RI A M) {p w n : Int} (h : ∀ M1, p_RI (o_hold A p w n).2 M1 → p_rfr M M1 → Q (some (0, (o_hold A p w n).1)) M1) : x_Ev l E (3, 0, 0) m_X11_hold 0 [(21, 103), (0, p), (0, w), (0, n)] [] M Q := by
  unfold o_hold at h
  have hpq := (p_W_tm hA).1
  have bad : ¬ ((0 ≤ p ∧ p < 10) ∧ (0 ≤ w ∧ w ≤ 3) ∧ (w = 0 → 0 ≤ n ∧ n < A 6 0) ∧ (w = 2 → 0 ≤ n ∧ n < 4)) → x_Ev l E (1, 0, 0) m_X11_finds 0 [(21, 103), (0, 0)] [] M (fun r M3 => ∃ z, r = some (0, z) ∧ Q (some (0, z)) M3) := fun c => by
    rw [p_if_f c] at h
    exact r_tl hA hR (by omega) (fun M1 a b => ⟨_, rfl, h M1 a b⟩)
  have fin : ∀ (x y z : Int) (M1 M2 M3 : xM), ((0 ≤ p ∧ p < 10) ∧ (0 ≤ w ∧ w ≤ 3) ∧ (w = 0 → 0 ≤ n ∧ n < A 6 0) ∧ (w = 2 → 0 ≤ n ∧ n < 4)) → x = p_hk A w n → (x ≠ 0 → y = p_hn A w n) → (x = 3 → z = p_hs A w n) → M1 = x_wr M 552 p x → M2 = x_wr M1 553 p y → M3 = x_wr M2 554 p z → Q (some (0, 1)) M3 := by
    intro x y z M1 M2 M3 ok hx hy hz h1 h2 h3
    rw [p_if_t ok] at h
    obtain ⟨g1, g2⟩ := r_sp (x := x) (y := p_hn A w n) (z := p_hs A w n) (M1 := M3) hA hR ok.1 (fun a k q => by rw [h3, x_wr_ne _ _ (by omega), h2, x_wr_ne _ _ (by omega), h1, x_wr_ne _ _ (by omega)]) (by rw [h3, x_wr_ne _ _ (by omega), h2, x_wr_ne _ _ (by omega), h1, x_wr_eq]) (fun q => by rw [h3, x_wr_ne _ _ (by omega), h2, x_wr_eq]; exact hy q) (fun q => by rw [h3, x_wr_eq]; exact hz q)
    rw [hx] at g1
    exact h M3 g1 g2
  refine u_X11_hold_0 p w n (r_in (fun c => x_n1 (by omega) (r_in (fun d => x_n1 (by omega) ⟨fun e => ⟨fun e2 => ⟨fun g => ⟨by omega, ?_⟩, fun g => ⟨by omega, ?_⟩⟩, fun e2 => r_Sh (fun g => x_y1 (by omega) ⟨by omega, ?_⟩) (fun g => x_y0 (bad (fun q => g (q.2.2.2 e2))))⟩, fun e => r_F hA hR (fun g => x_n1 (by omega) ⟨by omega, ?_⟩) (fun g => x_n0 (bad (fun q => g (q.2.2.1 e))))⟩) (fun d => x_n0 (bad (fun q => d q.2.1))))) (fun c => x_n0 (bad (fun q => c (by omega)))))
  · intro M1 h1
    refine ⟨by omega, ?_⟩
    intro M2 h2
    refine ⟨by omega, ?_⟩
    intro M3 h3
    refine fin 0 0 (-1) M1 M2 M3 ⟨by omega, d, fun z => by omega, fun z => by omega⟩ ?_ (fun z => absurd rfl z) (fun z => by omega) h1 h2 h3
    unfold p_hk
    rw [if_pos (Or.inl g)]
  · intro M1 h1
    rw [x_w_id (by omega) (by omega)] at h1
    refine ⟨fun g2 => by omega, fun g2 => ?_⟩
    have e1 := hpq.2.2.1
    have v9 : M1 103 9 = A 7 0 := by rw [h1, x_wr_ne _ _ (by omega)]; exact hR.1.2.2.1
    have v10 : M1 103 10 = A 7 1 := by rw [h1, x_wr_ne _ _ (by omega)]; exact hR.1.2.2.2.1
    rw [v9, v10]
    refine ⟨by omega, by omega, ?_⟩
    intro M2 h2
    refine ⟨by omega, ?_⟩
    intro M3 h3
    refine fin (1 + w) _ (-1) M1 M2 M3 ⟨by omega, d, fun z => by omega, fun z => by omega⟩ ?_ (fun _ => ?_) (fun z => by omega) h1 h2 h3
    · unfold p_hk
      rw [if_neg (by omega)]
    · unfold p_hn
      rw [if_neg (by omega), if_pos g2]
  · obtain ⟨b1, b2, -⟩ := hR.2.2.2.2.1 n g.1 g.2
    rw [b1]
    refine ⟨fun k => ⟨by omega, ?_⟩, fun k => ⟨by omega, ?_⟩⟩
    · intro M1 h1
      rw [x_w_id (by omega) (by omega)] at h1
      refine ⟨by omega, by omega, ?_⟩
      have v5 : M1 545 n = A 545 n := by rw [h1, x_wr_ne _ _ (by omega)]; exact b2
      rw [v5]
      intro M2 h2
      refine ⟨by omega, by omega, ?_⟩
      have v4 : M2 544 n = A 544 n := by rw [h2, x_wr_ne _ _ (by omega), h1, x_wr_ne _ _ (by omega)]; exact b1
      rw [v4]
      intro M3 h3
      refine fin (1 + w) _ _ M1 M2 M3 ⟨by omega, d, fun z => by omega, fun _ => g⟩ ?_ (fun _ => ?_) (fun _ => ?_) h1 h2 h3
      · unfold p_hk
        rw [if_neg (by omega)]
      · unfold p_hn
        rw [if_neg (by omega), if_neg (by omega), if_pos e2]
      · unfold p_hs
        rw [if_pos e2]
    · intro M1 h1
      refine ⟨by omega, by omega, ?_⟩
      intro M2 h2
      refine ⟨by omega, by omega, ?_⟩
      intro M3 h3
      refine fin 0 _ _ M1 M2 M3 ⟨by omega, d, fun z => by omega, fun _ => g⟩ ?_ (fun z => absurd rfl z) (fun z => by omega) h1 h2 h3
      unfold p_hk
      rw [if_pos (Or.inr ⟨e2, by omega⟩)]
  · intro M1 h1
    rw [x_w_id (by omega) (by omega)] at h1
    refine ⟨by omega, ?_⟩
    intro M2 h2
    refine ⟨by omega, ?_⟩
    intro M3 h3
    refine fin (1 + w) n (-1) M1 M2 M3 ⟨by omega, d, fun _ => g, fun z => by omega⟩ ?_ (fun _ => ?_) (fun z => by omega) h1 h2 h3
    · unfold p_hk
      rw [if_neg (by omega)]
    · unfold p_hn
      rw [if_pos e]
theorem wf_hold (hA : p_WF A) {p w n : Int} : p_WF (o_hold A p w n).2 := by
  unfold o_hold
  have w0 := hA.1.1
  by_cases c : (0 ≤ p ∧ p < 10) ∧ (0 ≤ w ∧ w ≤ 3) ∧ (w = 0 → 0 ≤ n ∧ n < A 6 0) ∧ (w = 2 → 0 ≤ n ∧ n < 4)
  · rw [p_if_t c]
    obtain ⟨c1, c2, c3, c4⟩ := c
    have kb : 0 ≤ p_hk A w n ∧ p_hk A w n ≤ 3 ∧ (p_hk A w n = 1 ∨ p_hk A w n = 3 → w = 0 ∨ w = 2) ∧ (p_hk A w n = 3 → w = 2 ∧ ¬ A 544 n < 0) := by
      unfold p_hk
      by_cases q : w = 3 ∨ (w = 2 ∧ A 544 n < 0)
      · rw [if_pos q]; omega
      · rw [if_neg q]; omega
    have nb : (-2147483648 ≤ p_hn A w n ∧ p_hn A w n < 2147483648) ∧ (w = 0 ∨ w = 2 → 0 ≤ p_hn A w n) := by
      unfold p_hn
      by_cases q0 : w = 0
      · have := c3 q0
        rw [if_pos q0]; omega
      · rw [if_neg q0]
        by_cases q1 : w = 1
        · rw [if_pos q1]; exact ⟨x_w_rg _, fun z => by omega⟩
        · rw [if_neg q1]
          by_cases q2 : w = 2
          · have := c4 q2
            have := (hA.2.2.2.2.1 n (by omega) (by omega)).2.1
            rw [if_pos q2]; omega
          · rw [if_neg q2]; omega
    have sb : -1 ≤ p_hs A w n ∧ p_hs A w n ≤ 2 := by
      unfold p_hs
      by_cases q2 : w = 2
      · have := c4 q2
        have := (hA.2.2.2.2.1 n (by omega) (by omega)).1
        rw [if_pos q2]; omega
      · rw [if_neg q2]; omega
    refine wf_spA hA ⟨kb.1, kb.2.1⟩ (fun z => nb.2 (kb.2.2.1 z)) nb.1 sb (fun z => ?_)
    have q := kb.2.2.2 z
    unfold p_hs
    rw [if_pos q.1]
    omega
  · rw [p_if_f c]; exact wf_tl hA 0
end P18
