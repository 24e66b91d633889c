/-! The first memory -/
def x_M0 : xM := fun a k => if a = -1 ∧ k = 0 then 593 else if 0 ≤ a ∧ a < 593 ∧ 0 ≤ k then ((gs_188 a.toNat).2.2 k.toNat).2 else 0
theorem x_M0_at {a k : Nat} (ha : a < 593) : x_M0 a k = ((gs_188 a).2.2 k).2 := by
  unfold x_M0
  rw [if_neg (by omega), if_pos (by omega), Int.toNat_natCast, Int.toNat_natCast]
theorem x_M0_tp : x_tp x_M0 = 593 := rfl
def g_sok (kd : Nat) (pf : Int) (v : xV) : Bool := match kd with
  | 0 => v.1 == 0 && (decide (-2147483648 ≤ v.2) && decide (v.2 < 2147483648))
  | 1 => v.1 == 1 && (decide (-9223372036854775808 ≤ v.2) && decide (v.2 < 9223372036854775808))
  | 2 => v.1 == 2 && (v.2 == pf && decide (0 ≤ pf))
  | 4 => v.1 == 0 && (v.2 == 0 || v.2 == 1)
  | _ => v.1 == 2
theorem g_sokv {kd : Nat} {pf : Int} {v : xV} (h : g_sok kd pf v = true) : x_vv v = x_sl kd pf v.2 ∧ x_rg kd v.2 := by
  obtain ⟨t, x⟩ := v
  match kd, h with
  | 0, h =>
    simp only [g_sok, Bool.and_eq_true, beq_iff_eq, decide_eq_true_eq] at h
    obtain ⟨h0, h1, h2⟩ := h
    subst h0
    exact ⟨rfl, h1, h2⟩
  | 1, h =>
    simp only [g_sok, Bool.and_eq_true, beq_iff_eq, decide_eq_true_eq] at h
    obtain ⟨h0, h1, h2⟩ := h
    subst h0
    exact ⟨rfl, h1, h2⟩
  | 2, h =>
    simp only [g_sok, Bool.and_eq_true, beq_iff_eq, decide_eq_true_eq] at h
    obtain ⟨h0, h1, h2⟩ := h
    subst h0
    subst h1
    refine ⟨?_, trivial⟩
    show (if x < 0 then Value.null else .ref x.toNat) = .ref x.toNat
    rw [if_neg (by omega)]
  | 3, h =>
    simp only [g_sok, beq_iff_eq] at h
    subst h
    exact ⟨rfl, trivial⟩
  | 4, h =>
    simp only [g_sok, Bool.and_eq_true, Bool.or_eq_true, beq_iff_eq] at h
    obtain ⟨h0, h1⟩ := h
    subst h0
    exact ⟨rfl, h1⟩
  | kd + 5, h =>
    simp only [g_sok, beq_iff_eq] at h
    subst h
    exact ⟨rfl, trivial⟩
def g_pf (t a k : Nat) : Int := if t < 100 then x_PF (t - 10) k a else a + (x_AT (t - 100)).2.2.1 + (x_AT (t - 100)).2.2.2.1 * k
def g_chq (a t : Nat) (q : gC) : Bool := (decide (q.1 < 12) && (decide (t = 10 + q.1) && (List.range (x_N q.1)).all (fun k => g_sok (x_knd t k) (g_pf t a k) (q.2.2 k)))) || (decide (100 ≤ q.1) && (decide (100 ≤ t ∧ t ≠ 190) && (decide (x_gt t = q.1 - 100) && (decide (q.2.1 = (x_AT (t - 100)).2.1.toNat) && (List.range q.2.1).all (fun k => g_sok (x_knd t k) (g_pf t a k) (q.2.2 k))))))
def g_chk (a : Nat) : Bool := g_chq a (x_SHT a) (gs_188 a)
theorem g_chk1 : (List.range 98).all (fun a => g_chk (5 + a)) = true := by decide +kernel
theorem g_chk2 : (List.range 123).all (fun a => g_chk (103 + a)) = true := by decide +kernel
theorem g_chk3 : (List.range 123).all (fun a => g_chk (226 + a)) = true := by decide +kernel
theorem g_chk4 : (List.range 123).all (fun a => g_chk (349 + a)) = true := by decide +kernel
theorem g_chk5 : (List.range 121).all (fun a => g_chk (472 + a)) = true := by decide +kernel
theorem g_chk_ok {a : Nat} (h5 : 5 ≤ a) (h : a < 593) : g_chk a = true := by
  rcases (show a < 103 ∨ (103 ≤ a ∧ a < 226) ∨ (226 ≤ a ∧ a < 349) ∨ (349 ≤ a ∧ a < 472) ∨ 472 ≤ a by omega) with q | q | q | q | q
  · have := List.all_eq_true.mp g_chk1 (a - 5) (List.mem_range.mpr (by omega))
    rw [show 5 + (a - 5) = a by omega] at this; exact this
  · have := List.all_eq_true.mp g_chk2 (a - 103) (List.mem_range.mpr (by omega))
    rw [show 103 + (a - 103) = a by omega] at this; exact this
  · have := List.all_eq_true.mp g_chk3 (a - 226) (List.mem_range.mpr (by omega))
    rw [show 226 + (a - 226) = a by omega] at this; exact this
  · have := List.all_eq_true.mp g_chk4 (a - 349) (List.mem_range.mpr (by omega))
    rw [show 349 + (a - 349) = a by omega] at this; exact this
  · have := List.all_eq_true.mp g_chk5 (a - 472) (List.mem_range.mpr (by omega))
    rw [show 472 + (a - 472) = a by omega] at this; exact this
theorem g_cell {E : xE} {H : Heap} (h : g_H E H 593 gs_188) {a : Nat} (h5 : 5 ≤ a) (ha : a < 593) : x_cell E H x_M0 a := by
  have hc := g_chk_ok h5 ha
  have hi := h.2.2.2 a h5 ha
  have em : ∀ k : Nat, x_M0 a k = ((gs_188 a).2.2 k).2 := fun k => x_M0_at ha
  unfold x_cell
  rw [x_tag_lt ha]
  unfold g_chk at hc
  generalize gs_188 a = q at hc hi em
  generalize x_SHT a = t at hc
  unfold g_chq at hc
  rw [Bool.or_eq_true] at hc
  unfold g_is at hi
  rcases hc with hc | hc
  · simp only [Bool.and_eq_true, decide_eq_true_eq] at hc
    obtain ⟨c1, c2, c3⟩ := hc
    rw [if_pos (by omega)] at hi
    have hk : ∀ k, k < x_N q.1 → x_vv (q.2.2 k) = x_fn x_M0 t a k ∧ x_rg (x_knd t k) (x_M0 a k) := by
      intro k hk
      have := g_sokv (List.all_eq_true.mp c3 k (List.mem_range.mpr hk))
      unfold x_fn
      rw [em]
      exact this
    have el : x_len x_M0 t a = x_N q.1 := by unfold x_len; rw [if_pos (by omega), c2, show 10 + q.1 - 10 = q.1 by omega]
    refine ⟨?_, fun k hkl => ?_⟩
    · rw [if_pos (by omega), c2, show 10 + q.1 - 10 = q.1 by omega, ← c2]
      exact t_OB.to hi (fun k hkl => congrArg (x_cv E) (hk k hkl).1)
    · rw [el] at hkl
      exact (hk k hkl).2
  · simp only [Bool.and_eq_true, decide_eq_true_eq] at hc
    obtain ⟨c1, ⟨c2, c2b⟩, c3, c4, c5⟩ := hc
    rw [if_neg (by omega)] at hi
    have hk : ∀ k, k < q.2.1 → x_vv (q.2.2 k) = x_fn x_M0 t a k ∧ x_rg (x_knd t k) (x_M0 a k) := by
      intro k hk
      have := g_sokv (List.all_eq_true.mp c5 k (List.mem_range.mpr hk))
      unfold x_fn
      rw [em]
      exact this
    have el : x_len x_M0 t a = q.2.1 := by unfold x_len x_ln; rw [if_neg (by omega), if_neg c2b, c4]
    rw [el]
    refine ⟨?_, fun k hkl => (hk k hkl).2⟩
    rw [if_neg (by omega), c3]
    unfold x_CLa at hi ⊢
    rw [hi]
    exact congrArg some (m_arrV _ _ _ _ (fun j hj => congrArg (x_cv E) (hk j hj).1))
theorem g_fin {N : Nat} {P : Int → Prop} (h : ∀ s : Nat, s < N → P (s : Int)) : ∀ s : Int, 0 ≤ s → s < N → P s := fun s h0 h1 => by
  have := h s.toNat (by omega)
  rw [Int.toNat_of_nonneg h0] at this
  exact this
theorem f0_88 : ∀ i : Nat, i < 4 → x_M0 88 i = -1 := by decide +kernel
theorem f0_90 : ∀ i : Nat, i < 10 → x_M0 (90 + (i : Int)) 0 = 0 ∧ x_M0 (90 + (i : Int)) 2 = -1 := by decide +kernel
theorem g_NR {E : xE} {H : Heap} (h : g_H E H 593 gs_188) : x_NR E H x_M0 := by
  refine ⟨Nat.le_of_eq x_M0_tp.symm, ?_, h.2.2.1, fun a h5 ha => g_cell h h5 (by rw [x_M0_tp] at ha; exact ha), fun a h1 h2 => ?_, fun i hi => Or.inl (f0_88 i hi), fun i hi => Or.inl (f0_90 i hi).2⟩
  · rw [x_M0_tp]; exact h.2.1
  · rw [x_M0_tp] at h2; omega
theorem f0_5 : x_M0 5 2 = 0 ∧ x_M0 5 12 = 0 := by decide +kernel
theorem f0_6 : x_M0 6 0 = 0 ∧ x_M0 6 1 = 20 ∧ x_M0 6 2 = 0 ∧ x_M0 6 3 = 1 ∧ x_M0 6 4 = 0 ∧ x_M0 7 0 = 0 ∧ x_M0 7 1 = 1 := by decide +kernel
theorem f0_21 : x_M0 21 0 = 0 ∧ x_M0 21 1 = 20 ∧ x_M0 21 2 = 0 ∧ x_M0 21 3 = 1 ∧ x_M0 21 4 = 0 ∧ x_M0 22 0 = 0 ∧ x_M0 22 1 = 1 := by decide +kernel
theorem f0_103 : x_M0 103 0 = 0 ∧ x_M0 103 8 = 20 ∧ x_M0 103 9 = 0 ∧ x_M0 103 10 = 1 ∧ x_M0 103 11 = 0 ∧ x_M0 103 12 = 0 ∧ x_M0 103 13 = 1 ∧ x_M0 103 42 = 0 ∧ x_M0 103 51 = 0 := by decide +kernel
theorem f0_old : ∀ f : Nat, f < 3 → (∀ k : Nat, k < 12 → x_M0 (9 + 4 * (f : Int) + 2) k = 0) ∧ ∀ k : Nat, k < 4 → x_M0 (9 + 4 * (f : Int) + 3) k = 0 := by decide +kernel
theorem f0_sh : ∀ s : Nat, s < 4 → x_M0 544 s = -1 ∧ x_M0 545 s = 0 ∧ ∀ i : Nat, i < 40 → x_M0 (547 + (s : Int)) i = 0 := by decide +kernel
theorem f0_sp : ∀ i : Nat, i < 10 → x_M0 552 i = 0 ∧ x_M0 553 i = 0 ∧ x_M0 554 i = 0 := by decide +kernel
theorem f0_fd : ∀ k : Nat, k < 8 → x_M0 141 k = 0 ∧ x_M0 102 k = 0 := by decide +kernel
theorem g_wfW {o : Int} (h : x_M0 o 0 = 0 ∧ x_M0 o 1 = 20 ∧ x_M0 o 2 = 0 ∧ x_M0 o 3 = 1 ∧ x_M0 o 4 = 0 ∧ x_M0 (o + 1) 0 = 0 ∧ x_M0 (o + 1) 1 = 1) : p_wfW x_M0 o := by
  obtain ⟨h0, h1, h2, h3, h4, h5, h6⟩ := h
  unfold p_wfW
  rw [h0, h1, h2, h3, h4, h5, h6]
  exact ⟨⟨by omega, by omega⟩, ⟨by omega, by omega⟩, ⟨by omega, by omega⟩, ⟨by omega, by omega⟩, ⟨by omega, by omega⟩, ⟨by omega, by omega⟩, ⟨by omega, by omega⟩, fun f hf => by omega⟩
theorem g_WF : p_WF x_M0 := by
  refine ⟨g_wfW f0_6, g_wfW f0_21, Or.inl f0_5.1, ⟨by rw [f0_5.2]; omega, by rw [f0_5.2]; omega⟩, ?_, ?_, ?_⟩
  · refine g_fin (N := 4) (fun s hs => ?_)
    obtain ⟨h1, h2, h3⟩ := f0_sh s hs
    rw [h1, h2]
    refine ⟨⟨by omega, by omega⟩, ⟨by omega, by omega⟩, fun _ => rfl, ?_⟩
    refine g_fin (N := 40) (fun i hi => ?_)
    rw [h3 i hi]
    exact ⟨by omega, by omega⟩
  · refine g_fin (N := 10) (fun i hi => ?_)
    obtain ⟨h1, h2, h3⟩ := f0_sp i hi
    rw [h1, h2, h3]
    exact ⟨⟨by omega, by omega⟩, fun q => by omega, ⟨by omega, by omega⟩, ⟨by omega, by omega⟩, fun q => by omega⟩
  · refine g_fin (N := 3) (fun f hf => ?_)
    obtain ⟨h1, h2⟩ := f0_old f hf
    refine ⟨?_, ?_⟩
    · refine g_fin (N := 12) (fun k hk => ?_)
      rw [h1 k hk]
      exact ⟨by omega, by omega⟩
    · refine g_fin (N := 4) (fun k hk => ?_)
      rw [h2 k hk]
      exact ⟨by omega, by omega⟩
theorem g_CI : p_CI x_M0 x_M0 := by
  refine ⟨fun a k _ _ => rfl, rfl, rfl, fun k => rfl, fun k => rfl, ⟨?_, ?_, fun f hf => ?_⟩, ⟨?_, ?_⟩, ?_⟩
  · rw [f0_6.1]; rfl
  · rw [f0_6.1]; exact Nat.zero_le _
  · rw [f0_6.1] at hf; exact absurd hf (Nat.not_lt_zero _)
  · refine g_fin (N := 4) (fun s hs => ?_)
    exact Or.inl ⟨by rw [(f0_sh s hs).1]; omega, f0_88 s hs⟩
  · intro s t s1 s2 t1 t2 ne h1 h2
    have := g_fin (N := 4) (P := fun s => x_M0 544 s = -1) (fun s hs => (f0_sh s hs).1) s s1 s2
    rw [this] at h1
    omega
  · refine g_fin (N := 10) (fun i hi => ?_)
    obtain ⟨h1, h2, h3⟩ := f0_sp i hi
    obtain ⟨q1, q2⟩ := f0_90 i hi
    rw [h1]
    exact ⟨q1, fun w => by omega, fun _ => q2, fun w => by omega⟩
theorem g_RI : p_RI x_M0 x_M0 := by
  obtain ⟨a0, a1, a2, a3, a4, a5, a6⟩ := f0_6
  obtain ⟨b0, b1, b2, b3, b4, b5, b6, b7, b8⟩ := f0_103
  refine ⟨⟨by rw [b0, a0], by rw [b1, a1], by rw [b2, a5], by rw [b3, a6], by rw [b4, a4], by rw [b5, a2], by rw [b6, a3]⟩, fun f hf => ?_, ?_, ⟨by rw [b7, f0_5.2], fun k i k1 k2 => ?_⟩, ?_, ?_, by rw [b8, f0_5.1], fun w => ?_⟩
  · rw [a0] at hf; omega
  · exact g_fin (N := 8) (fun k hk => by rw [(f0_fd k hk).1, (f0_fd k hk).2])
  · rw [f0_5.2] at k2; omega
  · exact fun s _ _ => ⟨rfl, rfl, fun i _ _ => rfl⟩
  · exact fun i _ _ => ⟨rfl, fun _ => rfl, fun _ => rfl⟩
  · rw [f0_5.1] at w; omega
/-- at the loop's head: from the cells as they are made to the memory -/
theorem g_head {l : Launch} {E : xE} {Q : Option xV → xM → Prop} (k : x_Ev l E (13, 1026, 21546) m_L_law 18 [(180, 0), (20, 5), (21, 103), (0, 0)] [] x_M0 Q) : g_Ev l E (13, 1026, 21546) m_L_law 18 [(2, ((0 : Nat) : Int)), (2, ((5 : Nat) : Int)), (2, ((103 : Nat) : Int)), (0, 0)] [] 593 gs_188 (x_QQ E x_M0 Q) := by
  intro p e R s m args below meth c H locs cells slots lr hM hC hA hf hl hc hs hN hlo hL
  have hL2 : x_LR E [(180, 0), (20, 5), (21, 103), (0, 0)] lr m_L_law.2.2.1 := hL
  refine k p e R s m args below meth c H locs cells slots lr hM hC hf hl hc hs (g_NR hN) hlo hL2 (fun v hv => ?_) (fun v hv => by cases hv)
  simp only [List.mem_cons, List.not_mem_nil, or_false] at hv
  rcases hv with rfl | rfl | rfl | rfl
  · exact ⟨by decide, by rw [x_M0_tp]; decide, by decide +kernel⟩
  · exact ⟨by decide, by rw [x_M0_tp]; decide, by decide +kernel⟩
  · exact ⟨by decide, by rw [x_M0_tp]; decide, by decide +kernel⟩
  · exact ⟨by decide, by decide⟩
