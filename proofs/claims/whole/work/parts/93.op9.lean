/-! kindFor, tollFor -/
section P9
variable {l : Launch} {E : xE} {Q : Option xV → xM → Prop} {A M : xM}
theorem p_gb_of {st : Int → Int} (h : p_bv st) (h4 : 0 ≤ st 4) : p_gb st := ⟨(h.2.2 h4).1, (h.2.2 h4).2.1, (h.2.2 h4).2.2.1⟩
/-- the class keeps the greatest at 87 -/
def p_g87 (M : xM) (s : Int × Int × Int) : Prop := 0 ≤ s.1 → M 87 0 = s.2.1 ∧ M 87 1 = s.2.2
def p_g39 (M : xM) (s : Int × Int × Int) : Prop := M 103 39 = s.1 ∧ (0 ≤ s.1 → M 103 37 = s.2.1 ∧ M 103 38 = s.2.2)
theorem k_gr {s : Int × Int × Int} {st : Int → Int} (hs : p_ge s) (h0 : 0 ≤ s.1) (hg : p_g87 M s) (hb : p_gb st) (h6 : M 46 0 = st 0) (h7 : M 46 1 = st 1) (h1 : 0 < p_cmp (st 0 * s.2.2) (s.2.1 * st 1) → Q (some (0, 1)) M) (h2 : ¬ 0 < p_cmp (st 0 * s.2.2) (s.2.1 * st 1) → Q (some (0, 0)) M) : x_Ev l E (4, 0, 0) m_X10_isGreater 0 [(20, 5)] [] M Q := by
  obtain ⟨a1, a2, a3⟩ := hs h0
  obtain ⟨g1, g2⟩ := hg h0
  obtain ⟨b1, b2, b3⟩ := hb
  refine u_X10_isGreater_0 (c_orderTo (by omega) (by omega) (by omega) (by omega) ⟨_, rfl, ?_⟩)
  rw [h6, h7, g1, g2]
  exact ⟨fun c => h2 (by omega), fun c => h1 (by omega)⟩
/-- one more is tried -/
theorem c_tries {s : Int × Int × Int} {st : Int → Int} {k : Int} (hs : p_ge s) (hg : p_g39 M s) (hb : p_gb st) (h8 : M 103 28 = st 0) (h9 : M 103 29 = st 1) (h : ∀ M1, p_g39 M1 (p_pks s st k) → (∀ a j, ¬ (a = 103 ∧ 37 ≤ j ∧ j ≤ 39) → M1 a j = M a j) → Q none M1) : x_Ev l E (3, 0, 0) m_X11_tries 0 [(21, 103), (0, k)] [] M Q := by
  obtain ⟨g1, g2⟩ := hg
  have set : (s.1 < 0 ∨ 0 < p_cmp (st 0 * s.2.2) (s.2.1 * st 1)) → ∀ zM1 : xM, zM1 = x_wr M 103 39 k → ∀ zM2 : xM, zM2 = x_wr zM1 103 37 (zM1 103 28) → ∀ zM3 : xM, zM3 = x_wr zM2 103 38 (zM2 103 29) → Q none zM3 := by
    intro c M1 h1 M2 h2 M3 h3
    rw [show M1 103 28 = st 0 by rw [h1, x_wr_ne _ _ (by omega)]; exact h8] at h2
    rw [show M2 103 29 = st 1 by rw [h2, x_wr_ne _ _ (by omega), h1, x_wr_ne _ _ (by omega)]; exact h9] at h3
    refine h M3 ?_ (fun a j q => ?_)
    · unfold p_pks
      rw [p_if_t c]
      refine ⟨?_, fun _ => ⟨?_, ?_⟩⟩
      · rw [h3, x_wr_ne _ _ (by omega), h2, x_wr_ne _ _ (by omega), h1, x_wr_eq]
      · rw [h3, x_wr_ne _ _ (by omega), h2, x_wr_eq]
      · rw [h3, x_wr_eq]
    · rw [h3, x_wr_ne _ _ (by omega), h2, x_wr_ne _ _ (by omega), h1, x_wr_ne _ _ (by omega)]
  refine u_X11_tries_0 k ⟨fun c => set (by omega), fun c => ?_⟩
  have h0 : 0 ≤ s.1 := by omega
  obtain ⟨a1, a2, a3⟩ := hs h0
  obtain ⟨g3, g4⟩ := g2 h0
  obtain ⟨b1, b2, b3⟩ := hb
  refine c_compare (by omega) (by omega) (by omega) (by omega) ⟨_, rfl, ?_⟩
  rw [h8, h9, g3, g4]
  refine ⟨fun d => set (Or.inr d), fun d => h M ?_ (fun _ _ _ => rfl)⟩
  unfold p_pks
  rw [p_if_f (by omega)]
  exact ⟨g1, g2⟩
noncomputable def p_kb (A : xM) (f : Int) (k : Nat) : Int → Int := p_bsA (x_wr A (9 + 4 * f) 0 k) (A 6 1)
noncomputable def o_kindFor (A : xM) (f : Int) : Int × xM := p_if (0 ≤ f ∧ f < A 6 0) ((p_pk (p_kb A f) 7).1, A) (p_err A 0)
theorem p_pk_n (b : Nat → Int → Int) : ¬ 0 ≤ (p_pk b 0).1 := by
  show ¬ (0 : Int) ≤ -1
  omega
theorem p_pk_1 (b : Nat → Int → Int) : ∀ k : Nat, k ≤ 100 → -1 ≤ (p_pk b k).1 ∧ (p_pk b k).1 ≤ 100 := by
  intro k
  induction k with
  | zero => intro _; show (-1 : Int) ≤ -1 ∧ (-1 : Int) ≤ 100; omega
  | succ k ih => intro h; exact p_pks_1 (ih (by omega)) (by omega)
theorem p_setk (hA : p_WF A) {f u : Int} (hf : 0 ≤ f ∧ f < A 6 0) (hu : 0 ≤ u ∧ u ≤ 6) : p_WF (x_wr A (9 + 4 * f) 0 u) := by
  refine wf_K hA hf (fun a k q => x_wr_ne _ _ (by omega)) (by rw [x_wr_eq]; exact hu) ?_
  rw [x_wr_ne _ _ (by omega)]
  have := (p_WF_f hA hf).2.1
  rw [p_Fs0 A hf.1] at this
  exact this
theorem p_kd0 (hA : p_WF A) {f : Int} (hf : 0 ≤ f ∧ f < A 6 0) : 0 ≤ A (9 + 4 * f) 0 ∧ A (9 + 4 * f) 0 ≤ 6 := by
  have := (p_WF_f hA hf).1
  rw [p_Fs0 A hf.1] at this
  exact this
theorem k_setk (hA : p_WF A) {f u v : Int} (hf : 0 ≤ f ∧ f < A 6 0) (hu : 0 ≤ u ∧ u ≤ 6) (hv : 0 ≤ v ∧ v ≤ 6) (hC : p_CI (x_wr A (9 + 4 * f) 0 u) M) : p_CI (x_wr A (9 + 4 * f) 0 v) (x_wr M (9 + 4 * f) 0 v) := by
  have w0 := hA.1.1
  have e6 : x_wr A (9 + 4 * f) 0 u 6 0 = A 6 0 := x_wr_ne _ _ (by omega)
  refine (p_CI_K (p_setk hA hf hu) hC (f := f) (by rw [e6]; exact hf) (A' := x_wr A (9 + 4 * f) 0 v) (fun a k q => ?_) (fun a k q => x_wr_ne _ _ (by omega)) ?_ ?_ ?_ ?_).1
  · rw [x_wr_ne _ _ (by omega), x_wr_ne _ _ (by omega)]
  · rw [x_wr_eq, x_wr_eq]
  · rw [x_wr_ne _ _ (by omega), x_wr_ne _ _ (by omega), hC.1 _ _ (by omega) (by omega), x_wr_ne _ _ (by omega)]
  · rw [x_wr_eq]; exact hv
  · rw [x_wr_ne _ _ (by omega)]
    have := (p_WF_f hA hf).2.1
    rw [p_Fs0 A hf.1] at this
    exact this
theorem r_setk (hA : p_WF A) {f u v : Int} (hf : 0 ≤ f ∧ f < A 6 0) (hu : 0 ≤ u ∧ u ≤ 6) (hR : p_RI (x_wr A (9 + 4 * f) 0 u) M) : p_RI (x_wr A (9 + 4 * f) 0 v) (x_wr M 104 f v) := by
  have w0 := hA.1.1
  have e6 : x_wr A (9 + 4 * f) 0 u 6 0 = A 6 0 := x_wr_ne _ _ (by omega)
  refine p_RI_K (p_setk hA hf hu) hR (f := f) (by rw [e6]; exact hf) (A' := x_wr A (9 + 4 * f) 0 v) (fun a k q => ?_) (fun a k q => x_wr_ne _ _ (by omega)) ?_ ?_
  · rw [x_wr_ne _ _ (by omega), x_wr_ne _ _ (by omega)]
  · rw [x_wr_eq, x_wr_eq]
  · have := (p_RI_f (p_setk hA hf hu) hR (by rw [e6]; exact hf)).1.2.1
    rw [p_Fs0 _ hf.1] at this
    rw [x_wr_ne _ _ (by omega), this, x_wr_ne _ _ (by omega), x_wr_ne _ _ (by omega)]
theorem k_kindFor (hA : p_WF A) (hC : p_CI A M) {f : Int} (h : ∀ M1, p_CI (o_kindFor A f).2 M1 → p_cfr M M1 → Q (some (0, (o_kindFor A f).1)) M1) : x_Ev l E (7, 0, 0) m_X10_kindFor 0 [(20, 5), (0, f), (5, 0), (5, 0), (5, 0), (5, 0)] [] M Q := by
  unfold o_kindFor at h
  have w0 := hA.1.1
  have w1 := (p_W_tm hA).2.1
  refine u_X10_kindFor_0 f (k_NF hC (fun c => x_n1 (by omega) ?_) (fun c => x_n0 ⟨by omega, ?_⟩))
  · rw [p_if_f c] at h
    exact k_tl hA hC (by omega) (fun M1 a b => ⟨_, rfl, h M1 a b⟩)
  rw [p_if_t c] at h
  rw [show 8 + 1 + 4 * f = 9 + 4 * f by omega]
  intro v hv
  rw [hC.1 _ _ (by omega) (by omega)] at hv
  rw [hv]
  have kd := p_kd0 hA c
  have main : ∀ (m k : Nat) (u : Int) (M' : xM), 7 - k ≤ m → k ≤ 7 → 0 ≤ u → u ≤ 6 → p_CI (x_wr A (9 + 4 * f) 0 u) M' → p_cfr M M' → p_ge (p_pk (p_kb A f) k) → p_g87 M' (p_pk (p_kb A f) k) → x_Ev l E (7, 0, 0) m_X10_kindFor 35 [(20, 5), (0, f), (11, 9 + 4 * f), (0, A (9 + 4 * f) 0), (0, (p_pk (p_kb A f) k).1), (0, (k : Int))] [] M' Q := by
    intro m
    induction m with
    | zero =>
      intro k u M' hm hk u0 u1 cI cf ge g8
      have ek : k = 7 := by omega
      refine u_X10_kindFor_35 f _ _ _ k ⟨fun _ => ?_, fun z => by omega⟩
      intro M1 hM1
      rw [hM1, ek]
      refine h _ ?_ (p_cfr_tr cf (p_cfr_w (by omega)))
      have := k_setk hA c ⟨u0, u1⟩ kd cI
      rw [x_wr_id] at this
      exact this
    | succ m ih =>
      intro k u M' hm hk u0 u1 cI cf ge g8
      by_cases ek : k = 7
      · exact ih k u M' (by omega) hk u0 u1 cI cf ge g8
      refine u_X10_kindFor_35 f _ _ _ k ⟨fun z => by omega, fun z => ?_⟩
      intro M2 hM2
      have c2 : p_CI (x_wr A (9 + 4 * f) 0 k) M2 := by rw [hM2]; exact k_setk hA c ⟨u0, u1⟩ (by omega) cI
      have wA := p_setk hA c (u := (k : Int)) (by omega)
      have e61 : x_wr A (9 + 4 * f) 0 k 6 1 = A 6 1 := x_wr_ne _ _ (by omega)
      have em : M2 6 1 = A 6 1 := by rw [c2.1 6 1 (by omega) (by omega)]; exact e61
      rw [em]
      refine k_seek wA c2 w1 (fun M3 d1 d2 d3 d4 d5 d6 => ⟨rfl, ?_⟩)
      have gb := p_gb_of d2 d3
      obtain ⟨t0, t1, -, -⟩ := d4.2 d3
      have fr3 : p_cfr M M3 := p_cfr_tr cf (p_cfr_tr (M1 := M2) (by rw [hM2]; exact p_cfr_w (by omega)) (fun a j q1 q2 => d6 a j (by omega) (by unfold p_stc; omega)))
      have g3 : p_g87 M3 (p_pk (p_kb A f) k) := fun w => by
        obtain ⟨x1, x2⟩ := g8 w
        rw [d6 87 0 (by omega) (by unfold p_stc; omega), d6 87 1 (by omega) (by unfold p_stc; omega), hM2, x_wr_ne _ _ (by omega), x_wr_ne _ _ (by omega)]
        exact ⟨x1, x2⟩
      have nx : ∀ (M4 : xM) (q : Int × Int × Int) (v2 : Int), p_CI (x_wr A (9 + 4 * f) 0 k) M4 → p_cfr M M4 → q = p_pk (p_kb A f) (k + 1) → p_g87 M4 q → v2 = x_w ((k : Int) + 1) → x_Ev l E (7, 0, 0) m_X10_kindFor 35 [(20, 5), (0, f), (11, 9 + 4 * f), (0, A (9 + 4 * f) 0), (0, q.1), (0, v2)] [] M4 Q := by
        intro M4 q v2 x1 x2 x3 x4 x5
        rw [x_w_id (by omega) (by omega)] at x5
        rw [x3] at x4 ⊢
        rw [x5]
        exact ih (k + 1) k M4 (by omega) (by omega) (by omega) (by omega) x1 x2 (p_ge_s ge gb) x4
      have sel : ((p_pk (p_kb A f) k).1 < 0 ∨ 0 < p_cmp (p_kb A f k 0 * (p_pk (p_kb A f) k).2.2) ((p_pk (p_kb A f) k).2.1 * p_kb A f k 1)) → ((k : Int), p_kb A f k 0, p_kb A f k 1) = p_pk (p_kb A f) (k + 1) := fun w => (p_if_t w _ _).symm
      have tk : ((p_pk (p_kb A f) k).1 < 0 ∨ 0 < p_cmp (p_kb A f k 0 * (p_pk (p_kb A f) k).2.2) ((p_pk (p_kb A f) k).2.1 * p_kb A f k 1)) → x_Ev l E (1, 0, 0) m_X2_take 0 [(12, 87), (12, 46)] [] M3 (fun r zM4 => r = none ∧ ∀ zv5 : Int, zv5 = x_w ((k : Int) + 1) → x_Ev l E (7, 0, 0) m_X10_kindFor 35 [(20, 5), (0, f), (11, 9 + 4 * f), (0, A (9 + 4 * f) 0), (0, (k : Int)), (0, zv5)] [] zM4 Q) := fun w => by
        refine c_take (by omega) (fun M4 y1 y2 y3 => ⟨rfl, fun v2 hv2 => ?_⟩)
        have fr4 : ∀ a j, ¬ p_cs a j → M4 a j = M3 a j := fun a j q => by rw [y3 a (fun e => q (by unfold p_cs; omega))]
        refine nx M4 ((k : Int), p_kb A f k 0, p_kb A f k 1) v2 (p_CI_sc d1 fr4) (p_cfr_tr fr3 (p_cfr_sc fr4)) (sel w) (fun _ => ⟨?_, ?_⟩) hv2
        · rw [y1]; exact t0
        · rw [y2]; exact t1
      refine ⟨fun z2 => tk (Or.inl z2), fun z2 => ?_⟩
      refine k_gr ge (by omega) g3 gb t0 t1 (fun w => x_n1 (by omega) (tk (Or.inr w))) (fun w => x_n0 (fun v2 hv2 => ?_))
      exact nx M3 (p_pk (p_kb A f) k) v2 d1 fr3 (p_if_f (not_or.mpr ⟨z2, w⟩) _ _).symm g3 hv2
  exact main 7 0 (A (9 + 4 * f) 0) M (by omega) (by omega) kd.1 kd.2 (by rw [x_wr_id]; exact hC) (p_cfr_rf M) (fun w => absurd w (p_pk_n _)) (fun w => absurd w (p_pk_n _))
theorem p_n39 {a k : Int} (h : ¬ p_rsc a k) : ¬ (a = 103 ∧ 37 ≤ k ∧ k ≤ 39) := fun e => h (by unfold p_rsc; omega)
theorem r_kindFor (hA : p_WF A) (hR : p_RI A M) {f : Int} (h : ∀ M1, p_RI (o_kindFor A f).2 M1 → p_rfr M M1 → Q (some (0, (o_kindFor A f).1)) M1) : x_Ev l E (11, 0, 0) m_X11_kindFor 0 [(21, 103), (0, f), (5, 0), (5, 0)] [] M Q := by
  unfold o_kindFor at h
  have w0 := hA.1.1
  refine u_X11_kindFor_0 f (r_F hA hR (fun c => x_y1 (by omega) ?_) (fun c => x_y0 ?_))
  · rw [p_if_t c] at h
    refine r_plans hA hR (fun M1 w2 fr => ⟨rfl, by omega, ?_⟩)
    have hR1 := p_RI_sc hA hR fr
    intro v hv
    rw [(p_RI_f hA hR1 c).1.1, p_Fs0 A c.1] at hv
    rw [hv]
    have kd := p_kd0 hA c
    refine u_X11_begins_0 ?_
    intro M2 hM2
    refine ⟨rfl, ?_⟩
    have main : ∀ (m k : Nat) (u : Int) (M' : xM), 7 - k ≤ m → k ≤ 7 → 0 ≤ u → u ≤ 6 → p_RI (x_wr A (9 + 4 * f) 0 u) M' → p_tabs A M' → p_rfr M M' → p_ge (p_pk (p_kb A f) k) → p_g39 M' (p_pk (p_kb A f) k) → x_Ev l E (11, 0, 0) m_X11_kindFor 31 [(21, 103), (0, f), (0, A (9 + 4 * f) 0), (0, (k : Int))] [] M' Q := by
      intro m
      induction m with
      | zero =>
        intro k u M' hm hk u0 u1 rI T rf ge g9
        have ek : k = 7 := by omega
        refine u_X11_kindFor_31 f _ k ⟨fun _ => ⟨by omega, ?_⟩, fun z => by omega⟩
        intro M3 hM3
        have e39 : M3 103 39 = (p_pk (p_kb A f) 7).1 := by rw [hM3, x_wr_ne _ _ (by omega), g9.1, ek]
        rw [e39, hM3]
        refine h _ ?_ (p_rfr_tr rf (p_rfr_w (by omega)))
        have := r_setk hA c ⟨u0, u1⟩ (v := A (9 + 4 * f) 0) rI
        rw [x_wr_id] at this
        exact this
      | succ m ih =>
        intro k u M' hm hk u0 u1 rI T rf ge g9
        by_cases ek : k = 7
        · exact ih k u M' (by omega) hk u0 u1 rI T rf ge g9
        refine u_X11_kindFor_31 f _ k ⟨fun z => by omega, fun z => ⟨by omega, ?_⟩⟩
        intro M3 hM3
        have r3 : p_RI (x_wr A (9 + 4 * f) 0 k) M3 := by rw [hM3]; exact r_setk hA c ⟨u0, u1⟩ rI
        have wA := p_setk hA c (u := (k : Int)) (by omega)
        have f3 : ∀ a j, a ≠ 104 → M3 a j = M' a j := fun a j q => by rw [hM3]; exact x_wr_ne _ _ (by omega)
        have e61 : x_wr A (9 + 4 * f) 0 k 6 1 = A 6 1 := x_wr_ne _ _ (by omega)
        have T3 : p_tabs (x_wr A (9 + 4 * f) 0 k) M3 := p_tabs_fr hA T (x_wr_ne _ _ (by omega)) (fun g hg => by
          obtain ⟨k0, k1, k2, k3⟩ := p_kk (A := A) (A' := x_wr A (9 + 4 * f) 0 k) (fun a j q => x_wr_ne _ _ (by omega)) hg
          exact ⟨⟨k0 2 (by omega), k0 3 (by omega)⟩, k2, k3⟩) (fun a j q1 q2 => f3 a j (by omega))
        refine r_fb wA r3 (p_RW_mk wA r3 T3) (fun M4 d1 d2 d3 d4 d5 d6 d7 => ⟨rfl, ?_⟩)
        rw [e61] at d3 d4 d5
        have gb := p_gb_of d3 d4
        have g4 : p_g39 M4 (p_pk (p_kb A f) k) := by
          obtain ⟨x1, x2⟩ := g9
          have z : ∀ j, 37 ≤ j → j ≤ 39 → M4 103 j = M' 103 j := fun j j1 j2 => by rw [d6 103 j (by omega) (by omega) (by omega), f3 _ _ (by omega)]
          refine ⟨by rw [z 39 (by omega) (by omega)]; exact x1, fun w => ?_⟩
          rw [z 37 (by omega) (by omega), z 38 (by omega) (by omega)]; exact x2 w
        refine c_tries ge g4 gb (d5 0 (by omega) (by omega)) (d5 1 (by omega) (by omega)) (fun M5 y1 y2 => ⟨rfl, fun v2 hv2 => ?_⟩)
        rw [x_w_id (by omega) (by omega)] at hv2
        rw [hv2]
        have fr5 : ∀ a j, ¬ p_rsc a j → M5 a j = M4 a j := fun a j q => y2 a j (p_n39 q)
        refine ih (k + 1) k M5 (by omega) (by omega) (by omega) (by omega) (p_RI_sc wA d1 fr5) ?_ ?_ (p_ge_s ge gb) y1
        · exact p_tabs_fr hA T rfl (fun g hg => ⟨⟨rfl, rfl⟩, rfl, rfl⟩) (fun a j q1 q2 => by rw [y2 a j (by omega), d6 a j (by omega) (by omega) (by omega), f3 a j (by omega)])
        · exact p_rfr_tr (p_rfr_tr (p_rfr_tr rf (by rw [hM3]; exact p_rfr_w (by omega))) (p_rfr_sc d7)) (p_rfr_sc fr5)
    have f2 : ∀ a j, ¬ (a = 103 ∧ j = 39) → M2 a j = M1 a j := fun a j q => by rw [hM2]; exact x_wr_ne _ _ q
    have fr2 : ∀ a j, ¬ p_rsc a j → M2 a j = M1 a j := fun a j q => f2 a j (fun e => q (by unfold p_rsc; omega))
    refine main 7 0 (A (9 + 4 * f) 0) M2 (by omega) (by omega) kd.1 kd.2 (by rw [x_wr_id]; exact p_RI_sc hA hR1 fr2) ?_ (p_rfr_tr (p_rfr_sc fr) (p_rfr_sc fr2)) (fun w => absurd w (p_pk_n _)) ⟨by rw [hM2, x_wr_eq]; rfl, fun w => absurd w (p_pk_n _)⟩
    exact p_tabs_fr hA (p_tabs_of hA w2) rfl (fun g hg => ⟨⟨rfl, rfl⟩, rfl, rfl⟩) (fun a j q1 q2 => f2 a j (by omega))
  · rw [p_if_f c] at h
    exact r_tl hA hR (by omega) (fun M1 a b => ⟨_, rfl, h M1 a b⟩)
theorem wf_kindFor (hA : p_WF A) (f : Int) : p_WF (o_kindFor A f).2 := by
  unfold o_kindFor
  by_cases c : 0 ≤ f ∧ f < A 6 0
  · rw [p_if_t c]; exact hA
  · rw [p_if_f c]; exact wf_tl hA 0
noncomputable def p_tb (A : xM) (f g : Int) (k : Nat) : Int → Int := p_bsA (x_wr A (9 + 4 * f + 1) (3 * 1 + g) k) (A 6 1)
noncomputable def o_tollFor (A : xM) (f g : Int) : Int × xM := p_if ((0 ≤ f ∧ f < A 6 0) ∧ 0 ≤ g ∧ g < A (9 + 4 * f) 2) ((p_pk (p_tb A f g) 4).1, A) (p_err A 0)
theorem p_tl0 (hA : p_WF A) {f g : Int} (hf : 0 ≤ f ∧ f < A 6 0) (hg : 0 ≤ g ∧ g < 3) : 0 ≤ A (9 + 4 * f + 1) (3 * 1 + g) ∧ A (9 + 4 * f + 1) (3 * 1 + g) ≤ 3 := by
  have := ((p_WF_f hA hf).2.2.2.2.1 g hg.1 hg.2).2.1
  rw [p_Fs1 A hf.1] at this
  exact this
theorem k_tollFor (hA : p_WF A) (hC : p_CI A M) {f g : Int} (h : ∀ M1, p_CI (o_tollFor A f g).2 M1 → p_cfr M M1 → Q (some (0, (o_tollFor A f g).1)) M1) : x_Ev l E (7, 0, 0) m_X10_tollFor 0 [(20, 5), (0, f), (0, g), (5, 0), (5, 0), (5, 0), (5, 0), (5, 0)] [] M Q := by
  unfold o_tollFor at h
  have w0 := hA.1.1
  have w1 := (p_W_tm hA).2.1
  refine u_X10_tollFor_0 f g (k_NG hA hC (fun c => x_n1 (by omega) ?_) (fun c => x_n0 ⟨by omega, ?_⟩))
  · rw [p_if_f c] at h
    exact k_tl hA hC (by omega) (fun M1 a b => ⟨_, rfl, h M1 a b⟩)
  have gd := p_gd hA c.1
  rw [p_if_t c] at h
  intro z hz
  rw [x_w_id (by omega) (by omega)] at hz
  have hz' : z = 3 * 1 + g := by omega
  rw [hz', show 8 + 1 + 4 * f = 9 + 4 * f by omega]
  refine ⟨by omega, ?_⟩
  intro v hv
  rw [hC.1 _ _ (by omega) (by omega)] at hv
  rw [hv]
  have kd := p_tl0 hA c.1 (g := g) (by omega)
  have tv : ∀ u : Int, 0 ≤ u → u ≤ 3 → ((1 : Int) = 0 → 0 ≤ u ∧ u ≤ 20) ∧ ((1 : Int) = 1 → 0 ≤ u ∧ u ≤ 3) ∧ ((1 : Int) = 2 → -9 ≤ u ∧ u ≤ 9) := fun u a b => ⟨fun e => by omega, fun _ => ⟨a, b⟩, fun e => by omega⟩
  have wfT : ∀ u : Int, 0 ≤ u → u ≤ 3 → p_WF (x_wr A (9 + 4 * f + 1) (3 * 1 + g) u) := fun u a b => (wf_T hA c.1 (w := 1) (g := g) (by omega) (by omega) (tv u a b)).2
  have put : ∀ (u v : Int) (M' : xM) (Q2 : Option xV → xM → Prop), 0 ≤ u → u ≤ 3 → 0 ≤ v → v ≤ 3 → p_CI (x_wr A (9 + 4 * f + 1) (3 * 1 + g) u) M' → (∀ M1, p_CI (x_wr A (9 + 4 * f + 1) (3 * 1 + g) v) M1 → p_cfr M' M1 → (∀ a k, ¬ (9 ≤ a ∧ a ≤ 20) → ¬ (49 ≤ a ∧ a ≤ 75) → M1 a k = M' a k) → Q2 none M1) → x_Ev l E (2, 0, 0) m_X4_sumUp 0 [(14, 49 + 9 * f), (5, 0)] [] (x_wr M' (9 + 4 * f + 1) (3 * 1 + g) v) Q2 := by
    intro u v M' Q2 u0 u1 v0 v1 cI hq
    have e6 : x_wr A (9 + 4 * f + 1) (3 * 1 + g) u 6 0 = A 6 0 := x_wr_ne _ _ (by omega)
    refine k_trait (wfT u u0 u1) cI (by rw [e6]; exact c.1) (w := 1) (g := g) (by omega) (by omega) (tv v v0 v1) (fun M1 a1 a2 a3 => hq M1 ?_ a2 a3)
    rw [x_wr_wr] at a1
    exact a1
  have main : ∀ (m k : Nat) (u : Int) (M' : xM), 4 - k ≤ m → k ≤ 4 → 0 ≤ u → u ≤ 3 → p_CI (x_wr A (9 + 4 * f + 1) (3 * 1 + g) u) M' → p_cfr M M' → p_ge (p_pk (p_tb A f g) k) → p_g87 M' (p_pk (p_tb A f g) k) → x_Ev l E (7, 0, 0) m_X10_tollFor 49 [(20, 5), (0, f), (0, g), (11, 9 + 4 * f), (0, 3 * 1 + g), (0, A (9 + 4 * f + 1) (3 * 1 + g)), (0, (p_pk (p_tb A f g) k).1), (0, (k : Int))] [] M' Q := by
    intro m
    induction m with
    | zero =>
      intro k u M' hm hk u0 u1 cI cf ge g8
      have ek : k = 4 := by omega
      refine u_X10_tollFor_49 f g _ _ _ _ k ⟨fun _ => ⟨by omega, ?_⟩, fun z => by omega⟩
      intro M1 hM1
      rw [hM1, ek, show 41 + 8 + 9 * f = 49 + 9 * f by omega]
      refine ⟨by omega, put u _ M' _ u0 u1 kd.1 kd.2 cI (fun M2 a1 a2 _ => ⟨rfl, h M2 ?_ (p_cfr_tr cf a2)⟩)⟩
      rw [x_wr_id] at a1
      exact a1
    | succ m ih =>
      intro k u M' hm hk u0 u1 cI cf ge g8
      by_cases ek : k = 4
      · exact ih k u M' (by omega) hk u0 u1 cI cf ge g8
      refine u_X10_tollFor_49 f g _ _ _ _ k ⟨fun z => by omega, fun z => ⟨by omega, ?_⟩⟩
      intro M2 hM2
      rw [hM2, show 41 + 8 + 9 * f = 49 + 9 * f by omega]
      refine ⟨by omega, put u k M' _ u0 u1 (by omega) (by omega) cI (fun M2 c2 b2 b3 => ⟨rfl, ?_⟩)⟩
      have wA := wfT k (by omega) (by omega)
      have e61 : x_wr A (9 + 4 * f + 1) (3 * 1 + g) k 6 1 = A 6 1 := x_wr_ne _ _ (by omega)
      have em : M2 6 1 = A 6 1 := by rw [c2.1 6 1 (by omega) (by omega)]; exact e61
      rw [em]
      refine k_seek wA c2 w1 (fun M3 d1 d2 d3 d4 d5 d6 => ⟨rfl, ?_⟩)
      have gb := p_gb_of d2 d3
      obtain ⟨t0, t1, -, -⟩ := d4.2 d3
      have fr3 : p_cfr M M3 := p_cfr_tr cf (p_cfr_tr b2 (fun a j q1 q2 => d6 a j (by omega) (by unfold p_stc; omega)))
      have g3 : p_g87 M3 (p_pk (p_tb A f g) k) := fun w => by
        obtain ⟨x1, x2⟩ := g8 w
        rw [d6 87 0 (by omega) (by unfold p_stc; omega), d6 87 1 (by omega) (by unfold p_stc; omega), b3 _ _ (by omega) (by omega), b3 _ _ (by omega) (by omega)]
        exact ⟨x1, x2⟩
      have nx : ∀ (M4 : xM) (q : Int × Int × Int) (v2 : Int), p_CI (x_wr A (9 + 4 * f + 1) (3 * 1 + g) k) M4 → p_cfr M M4 → q = p_pk (p_tb A f g) (k + 1) → p_g87 M4 q → v2 = x_w ((k : Int) + 1) → x_Ev l E (7, 0, 0) m_X10_tollFor 49 [(20, 5), (0, f), (0, g), (11, 9 + 4 * f), (0, 3 * 1 + g), (0, A (9 + 4 * f + 1) (3 * 1 + g)), (0, q.1), (0, v2)] [] M4 Q := by
        intro M4 q v2 x1 x2 x3 x4 x5
        rw [x_w_id (by omega) (by omega)] at x5
        rw [x3] at x4 ⊢
        rw [x5]
        exact ih (k + 1) k M4 (by omega) (by omega) (by omega) (by omega) x1 x2 (p_ge_s ge gb) x4
      have sel : ((p_pk (p_tb A f g) k).1 < 0 ∨ 0 < p_cmp (p_tb A f g k 0 * (p_pk (p_tb A f g) k).2.2) ((p_pk (p_tb A f g) k).2.1 * p_tb A f g k 1)) → ((k : Int), p_tb A f g k 0, p_tb A f g k 1) = p_pk (p_tb A f g) (k + 1) := fun w => (p_if_t w _ _).symm
      have tk : ((p_pk (p_tb A f g) k).1 < 0 ∨ 0 < p_cmp (p_tb A f g k 0 * (p_pk (p_tb A f g) k).2.2) ((p_pk (p_tb A f g) k).2.1 * p_tb A f g k 1)) → x_Ev l E (1, 0, 0) m_X2_take 0 [(12, 87), (12, 46)] [] M3 (fun r zM4 => r = none ∧ ∀ zv5 : Int, zv5 = x_w ((k : Int) + 1) → x_Ev l E (7, 0, 0) m_X10_tollFor 49 [(20, 5), (0, f), (0, g), (11, 9 + 4 * f), (0, 3 * 1 + g), (0, A (9 + 4 * f + 1) (3 * 1 + g)), (0, (k : Int)), (0, zv5)] [] zM4 Q) := fun w => by
        refine c_take (by omega) (fun M4 y1 y2 y3 => ⟨rfl, fun v2 hv2 => ?_⟩)
        have fr4 : ∀ a j, ¬ p_cs a j → M4 a j = M3 a j := fun a j q => by rw [y3 a (fun e => q (by unfold p_cs; omega))]
        refine nx M4 ((k : Int), p_tb A f g k 0, p_tb A f g k 1) v2 (p_CI_sc d1 fr4) (p_cfr_tr fr3 (p_cfr_sc fr4)) (sel w) (fun _ => ⟨?_, ?_⟩) hv2
        · rw [y1]; exact t0
        · rw [y2]; exact t1
      refine ⟨fun z2 => tk (Or.inl z2), fun z2 => ?_⟩
      refine k_gr ge (by omega) g3 gb t0 t1 (fun w => x_n1 (by omega) (tk (Or.inr w))) (fun w => x_n0 (fun v2 hv2 => ?_))
      exact nx M3 (p_pk (p_tb A f g) k) v2 d1 fr3 (p_if_f (not_or.mpr ⟨z2, w⟩) _ _).symm g3 hv2
  exact main 4 0 (A (9 + 4 * f + 1) (3 * 1 + g)) M (by omega) (by omega) kd.1 kd.2 (by rw [x_wr_id]; exact hC) (p_cfr_rf M) (fun w => absurd w (p_pk_n _)) (fun w => absurd w (p_pk_n _))
theorem r_tollFor (hA : p_WF A) (hR : p_RI A M) {f g : Int} (h : ∀ M1, p_RI (o_tollFor A f g).2 M1 → p_rfr M M1 → Q (some (0, (o_tollFor A f g).1)) M1) : x_Ev l E (11, 0, 0) m_X11_tollFor 0 [(21, 103), (0, f), (0, g), (5, 0), (5, 0)] [] M Q := by
  unfold o_tollFor at h
  have w0 := hA.1.1
  refine u_X11_tollFor_0 f g (r_G hA hR (fun c => x_y1 (by omega) ?_) (fun c => x_y0 ?_))
  · have gd := p_gd hA c.1
    rw [p_if_t c] at h
    refine r_plans hA hR (fun M1 w2 fr => ⟨rfl, by omega, by omega, ?_⟩)
    have hR1 := p_RI_sc hA hR fr
    rw [show 108 + 1 + 4 * f + 1 + 1 * 1 = 110 + 4 * f + 1 by omega]
    intro v hv
    rw [(p_RI_f hA hR1 c.1).1.2.2.2.2.1 1 g (by omega) (by omega) (by omega) (by omega), p_Fs1 A c.1.1] at hv
    rw [hv]
    have kd := p_tl0 hA c.1 (g := g) (by omega)
    have tv : ∀ u : Int, 0 ≤ u → u ≤ 3 → ((1 : Int) = 0 → 0 ≤ u ∧ u ≤ 20) ∧ ((1 : Int) = 1 → 0 ≤ u ∧ u ≤ 3) ∧ ((1 : Int) = 2 → -9 ≤ u ∧ u ≤ 9) := fun u a b => ⟨fun e => by omega, fun _ => ⟨a, b⟩, fun e => by omega⟩
    have wfT : ∀ u : Int, 0 ≤ u → u ≤ 3 → p_WF (x_wr A (9 + 4 * f + 1) (3 * 1 + g) u) := fun u a b => (wf_T hA c.1 (w := 1) (g := g) (by omega) (by omega) (tv u a b)).2
    have put : ∀ (u v : Int) (M' : xM), 0 ≤ u → u ≤ 3 → p_RI (x_wr A (9 + 4 * f + 1) (3 * 1 + g) u) M' → p_RI (x_wr A (9 + 4 * f + 1) (3 * 1 + g) v) (x_wr M' (110 + 4 * f + 1) g v) := by
      intro u v M' u0 u1 rI
      have e6 : x_wr A (9 + 4 * f + 1) (3 * 1 + g) u 6 0 = A 6 0 := x_wr_ne _ _ (by omega)
      have := r_trait (wfT u u0 u1) rI (f := f) (by rw [e6]; exact c.1) (w := 1) (g := g) (v := v) (by omega) (by omega)
      rw [x_wr_wr] at this
      exact this
    refine u_X11_begins_0 ?_
    intro M2 hM2
    refine ⟨rfl, ?_⟩
    have main : ∀ (m k : Nat) (u : Int) (M' : xM), 4 - k ≤ m → k ≤ 4 → 0 ≤ u → u ≤ 3 → p_RI (x_wr A (9 + 4 * f + 1) (3 * 1 + g) u) M' → p_tabs A M' → p_rfr M M' → p_ge (p_pk (p_tb A f g) k) → p_g39 M' (p_pk (p_tb A f g) k) → x_Ev l E (11, 0, 0) m_X11_tollFor 37 [(21, 103), (0, f), (0, g), (0, A (9 + 4 * f + 1) (3 * 1 + g)), (0, (k : Int))] [] M' Q := by
      intro m
      induction m with
      | zero =>
        intro k u M' hm hk u0 u1 rI T rf ge g9
        have ek : k = 4 := by omega
        refine u_X11_tollFor_37 f g _ k ⟨fun _ => ⟨by omega, by omega, ?_⟩, fun z => by omega⟩
        rw [show 108 + 1 + 4 * f + 1 + 1 * 1 = 110 + 4 * f + 1 by omega]
        intro M3 hM3
        have e39 : M3 103 39 = (p_pk (p_tb A f g) 4).1 := by rw [hM3, x_wr_ne _ _ (by omega), g9.1, ek]
        rw [e39, hM3]
        refine h _ ?_ (p_rfr_tr rf (p_rfr_w (by omega)))
        have := put u (A (9 + 4 * f + 1) (3 * 1 + g)) M' u0 u1 rI
        rw [x_wr_id] at this
        exact this
      | succ m ih =>
        intro k u M' hm hk u0 u1 rI T rf ge g9
        by_cases ek : k = 4
        · exact ih k u M' (by omega) hk u0 u1 rI T rf ge g9
        refine u_X11_tollFor_37 f g _ k ⟨fun z => by omega, fun z => ⟨by omega, by omega, ?_⟩⟩
        rw [show 108 + 1 + 4 * f + 1 + 1 * 1 = 110 + 4 * f + 1 by omega]
        intro M3 hM3
        have r3 : p_RI (x_wr A (9 + 4 * f + 1) (3 * 1 + g) k) M3 := by rw [hM3]; exact put u k M' u0 u1 rI
        have wA := wfT k (by omega) (by omega)
        have f3 : ∀ a j, a ≠ 110 + 4 * f + 1 → M3 a j = M' a j := fun a j q => by rw [hM3]; exact x_wr_ne _ _ (by omega)
        have e61 : x_wr A (9 + 4 * f + 1) (3 * 1 + g) k 6 1 = A 6 1 := x_wr_ne _ _ (by omega)
        have T3 : p_tabs (x_wr A (9 + 4 * f + 1) (3 * 1 + g) k) M3 := p_tabs_fr hA T (x_wr_ne _ _ (by omega)) (fun x hx => by
          refine ⟨⟨?_, ?_⟩, ?_, ?_⟩
          · rw [(p_Gs _ x 2).1, (p_Gs A x 2).1, x_wr_ne _ _ (by omega)]
          · rw [(p_Gs _ x 3).1, (p_Gs A x 3).1, x_wr_ne _ _ (by omega)]
          · funext j; rw [(p_Gs _ x j).2.2.1, (p_Gs A x j).2.2.1, x_wr_ne _ _ (by omega)]
          · funext j; rw [(p_Gs _ x j).2.2.2, (p_Gs A x j).2.2.2, x_wr_ne _ _ (by omega)]) (fun a j q1 q2 => f3 a j (by omega))
        refine r_fb wA r3 (p_RW_mk wA r3 T3) (fun M4 d1 d2 d3 d4 d5 d6 d7 => ⟨rfl, ?_⟩)
        rw [e61] at d3 d4 d5
        have gb := p_gb_of d3 d4
        have g4 : p_g39 M4 (p_pk (p_tb A f g) k) := by
          obtain ⟨x1, x2⟩ := g9
          have z : ∀ j, 37 ≤ j → j ≤ 39 → M4 103 j = M' 103 j := fun j j1 j2 => by rw [d6 103 j (by omega) (by omega) (by omega), f3 _ _ (by omega)]
          refine ⟨by rw [z 39 (by omega) (by omega)]; exact x1, fun w => ?_⟩
          rw [z 37 (by omega) (by omega), z 38 (by omega) (by omega)]; exact x2 w
        refine c_tries ge g4 gb (d5 0 (by omega) (by omega)) (d5 1 (by omega) (by omega)) (fun M5 y1 y2 => ⟨rfl, fun v2 hv2 => ?_⟩)
        rw [x_w_id (by omega) (by omega)] at hv2
        rw [hv2]
        have fr5 : ∀ a j, ¬ p_rsc a j → M5 a j = M4 a j := fun a j q => y2 a j (p_n39 q)
        refine ih (k + 1) k M5 (by omega) (by omega) (by omega) (by omega) (p_RI_sc wA d1 fr5) ?_ ?_ (p_ge_s ge gb) y1
        · exact p_tabs_fr hA T rfl (fun x hx => ⟨⟨rfl, rfl⟩, rfl, rfl⟩) (fun a j q1 q2 => by rw [y2 a j (by omega), d6 a j (by omega) (by omega) (by omega), f3 a j (by omega)])
        · exact p_rfr_tr (p_rfr_tr (p_rfr_tr rf (by rw [hM3]; exact p_rfr_w (by omega))) (p_rfr_sc d7)) (p_rfr_sc fr5)
    have f2 : ∀ a j, ¬ (a = 103 ∧ j = 39) → M2 a j = M1 a j := fun a j q => by rw [hM2]; exact x_wr_ne _ _ q
    have fr2 : ∀ a j, ¬ p_rsc a j → M2 a j = M1 a j := fun a j q => f2 a j (fun e => q (by unfold p_rsc; omega))
    refine main 4 0 (A (9 + 4 * f + 1) (3 * 1 + g)) M2 (by omega) (by omega) kd.1 kd.2 (by rw [x_wr_id]; exact p_RI_sc hA hR1 fr2) ?_ (p_rfr_tr (p_rfr_sc fr) (p_rfr_sc fr2)) (fun w => absurd w (p_pk_n _)) ⟨by rw [hM2, x_wr_eq]; rfl, fun w => absurd w (p_pk_n _)⟩
    exact p_tabs_fr hA (p_tabs_of hA w2) rfl (fun x hx => ⟨⟨rfl, rfl⟩, rfl, rfl⟩) (fun a j q1 q2 => f2 a j (by omega))
  · rw [p_if_f c] at h
    exact r_tl hA hR (by omega) (fun M1 a b => ⟨_, rfl, h M1 a b⟩)
theorem wf_tollFor (hA : p_WF A) (f g : Int) : p_WF (o_tollFor A f g).2 := by
  unfold o_tollFor
  by_cases c : (0 ≤ f ∧ f < A 6 0) ∧ 0 ≤ g ∧ g < A (9 + 4 * f) 2
  · rw [p_if_t c]; exact hA
  · rw [p_if_f c]; exact wf_tl hA 0
end P9
