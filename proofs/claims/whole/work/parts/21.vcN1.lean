/-! Printed by wip/whole/tools/gen_vc.py: what is enough at each cut point -/
theorem u_X4_cutGain_0 {l : Launch} {E : xE} (a0 a1 : Int) {M : xM} {Q : Option xV → xM → Prop} (h : (a1 < 0 → Q (some (1, 0)) M) ∧ (¬ a1 < 0 → ((M a0 2) ≤ a1 → Q (some (1, 0)) M) ∧ (¬ (M a0 2) ≤ a1 → ((0 : Int) ≤ a1 ∧ (a1 : Int) < 10) ∧ (¬ (x_W ((M (a0 + 2) a1) * (M a0 11))) = 0 → ((0 : Int) ≤ a1 ∧ (a1 : Int) < 10) ∧ ((0 : Int) ≤ a1 ∧ (a1 : Int) < 10) ∧ ((x_W ((M (a0 + 2) a1) * (M a0 11))) ≠ 0) ∧ Q (some (1, (x_W ((M (a0 + 8) a1).tdiv (x_W ((M (a0 + 2) a1) * (M a0 11))))))) M) ∧ ((x_W ((M (a0 + 2) a1) * (M a0 11))) = 0 → Q (some (1, 0)) M)))) : x_Ev l E (1, 0, 0) m_X4_cutGain 0 [(14, a0), (0, a1)] [] M Q := by
  refine i_iload_n 0 rfl rfl ?_
  refine i_if_lt 28 1 rfl (by decide) (fun c => ?_) (fun c => ?_)
  · replace h := h.1 c
    refine i_lconst (w := 0) 16 rfl (by decide) ?_
    exact i_lreturn 17 rfl rfl h
  · replace h := h.2 c
    refine i_iload_n 2 rfl rfl ?_
    refine i_aload_n 3 rfl rfl (by decide) ?_
    refine i_getI (c := 4) (k := 2) 4 rfl fl_205 (by decide) (by decide) ?_
    refine i_icmp_ge 28 5 rfl (by decide) (fun c => ?_) (fun c => ?_)
    · replace h := h.1 c
      refine i_lconst (w := 0) 16 rfl (by decide) ?_
      exact i_lreturn 17 rfl rfl h
    · replace h := h.2 c
      refine i_aload_n 6 rfl rfl (by decide) ?_
      refine i_getP (c := 4) (k := 4) (t := 109) (b := (a0 + 2)) 7 rfl fl_209 (by decide) rfl (by decide) rfl ?_
      refine i_iload_n 8 rfl rfl ?_
      refine i_lald (τ := 9) 9 rfl ⟨rfl, rfl, rfl, by decide⟩ h.1.1 h.1.2 ?_
      replace h := h.2
      refine i_aload_n 10 rfl rfl (by decide) ?_
      refine i_getL (c := 4) (k := 11) 11 rfl fl_223 (by decide) rfl ?_
      refine i_lmul 12 rfl ?_
      refine i_lconst (w := 0) 13 rfl (by decide) ?_
      refine i_lcmp_ne 30 14 rfl rfl (by decide) (fun c => ?_) (fun c => ?_)
      · replace h := h.1 c
        refine i_aload_n 18 rfl rfl (by decide) ?_
        refine i_getP (c := 4) (k := 10) (t := 109) (b := (a0 + 8)) 19 rfl fl_220 (by decide) rfl (by decide) rfl ?_
        refine i_iload_n 20 rfl rfl ?_
        refine i_lald (τ := 9) 21 rfl ⟨rfl, rfl, rfl, by decide⟩ h.1.1 h.1.2 ?_
        replace h := h.2
        refine i_aload_n 22 rfl rfl (by decide) ?_
        refine i_getP (c := 4) (k := 4) (t := 109) (b := (a0 + 2)) 23 rfl fl_209 (by decide) rfl (by decide) rfl ?_
        refine i_iload_n 24 rfl rfl ?_
        refine i_lald (τ := 9) 25 rfl ⟨rfl, rfl, rfl, by decide⟩ h.1.1 h.1.2 ?_
        replace h := h.2
        refine i_aload_n 26 rfl rfl (by decide) ?_
        refine i_getL (c := 4) (k := 11) 27 rfl fl_223 (by decide) rfl ?_
        refine i_lmul 28 rfl ?_
        refine i_ldiv 29 rfl h.1 ?_
        replace h := h.2
        exact i_lreturn 30 rfl rfl h
      · replace h := h.2 c
        refine i_lconst (w := 0) 16 rfl (by decide) ?_
        exact i_lreturn 17 rfl rfl h
theorem u_X3_putSum_0_v2 {l : Launch} {E : xE} (a2 : Int) {M : xM} {Q : Option xV → xM → Prop} (h : (0 ≤ a2 ∧ a2 < 168) ∧ ∀ zM1 : xM, zM1 = x_wr M 100 a2 (M 48 0) → (0 ≤ (x_w (a2 + 1)) ∧ (x_w (a2 + 1)) < 168) ∧ ∀ zM2 : xM, zM2 = x_wr zM1 100 (x_w (a2 + 1)) (zM1 48 1) → Q none zM2) : x_Ev l E (1, 0, 0) m_X3_putSum 0 [(13, 40), (117, 100), (0, a2)] [] M Q := by
  refine i_aload_n 0 rfl rfl (by decide) ?_
  refine i_iload_n 1 rfl rfl ?_
  refine i_aload_n 2 rfl rfl (by decide) ?_
  refine i_getP (c := 3) (k := 6) (t := 12) (b := 48) 3 rfl fl_264 (by decide) rfl (by decide) rfl ?_
  refine i_getL (c := 2) (k := 0) 4 rfl fl_37 (by decide) rfl ?_
  have hb := h.1
  replace h := h.2 _ rfl
  refine i_last (τ := 17) 5 rfl ⟨rfl, rfl, rfl, by decide⟩ hb.1 hb.2 ?_
  refine i_aload_n 6 rfl rfl (by decide) ?_
  refine i_iload_n 7 rfl rfl ?_
  refine i_iconst 8 rfl (by decide) ?_
  refine i_iadd 9 rfl ?_
  refine i_aload_n 10 rfl rfl (by decide) ?_
  refine i_getP (c := 3) (k := 6) (t := 12) (b := 48) 11 rfl fl_264 (by decide) rfl (by decide) rfl ?_
  refine i_getL (c := 2) (k := 1) 12 rfl fl_44 (by decide) rfl ?_
  have hb := h.1
  replace h := h.2 _ rfl
  refine i_last (τ := 17) 13 rfl ⟨rfl, rfl, rfl, by decide⟩ hb.1 hb.2 ?_
  exact i_return 14 rfl rfl h
theorem u_X8_clear_0 {l : Launch} {E : xE} (a1 : Int) {M : xM} {Q : Option xV → xM → Prop} (h : x_Ev l E (1, 0, 0) m_X8_clear 2 [(18, 36), (0, a1), (0, 0), (5, 0)] [] M Q) : x_Ev l E (1, 0, 0) m_X8_clear 0 [(18, 36), (0, a1), (5, 0), (5, 0)] [] M Q := by
  refine i_iconst 0 rfl (by decide) ?_
  refine i_istore_n 1 rfl (by decide) rfl ?_
  exact h
theorem u_X8_clear_2 {l : Launch} {E : xE} (l1 l2 : Int) {M : xM} {Q : Option xV → xM → Prop} (h : (3 ≤ l2 → Q none M) ∧ (¬ 3 ≤ l2 → (0 ≤ l2 ∧ l2 < 3) ∧ ∀ zM1 : xM, zM1 = x_wr M 38 l2 0 → x_Ev l E (1, 0, 0) m_X8_clear 16 [(18, 36), (0, l1), (0, l2), (0, 0)] [] zM1 Q)) : x_Ev l E (1, 0, 0) m_X8_clear 2 [(18, 36), (0, l1), (0, l2), (5, 0)] [] M Q := by
  refine i_iload_n 2 rfl rfl ?_
  refine i_iconst 3 rfl (by decide) ?_
  refine i_icmp_ge 58 4 rfl (by decide) (fun c => ?_) (fun c => ?_)
  · replace h := h.1 c
    exact i_return 36 rfl rfl h
  · replace h := h.2 c
    refine i_aload_n 5 rfl rfl (by decide) ?_
    refine i_getP (c := 8) (k := 1) (t := 105) (b := 38) 6 rfl fl_144 (by decide) rfl (by decide) rfl ?_
    refine i_iload_n 7 rfl rfl ?_
    refine i_lconst (w := 0) 8 rfl (by decide) ?_
    have hb := h.1
    replace h := h.2 _ rfl
    refine i_last (τ := 5) 9 rfl ⟨rfl, rfl, rfl, by decide⟩ hb.1 hb.2 ?_
    refine i_iconst 10 rfl (by decide) ?_
    refine i_istore_n 11 rfl (by decide) rfl ?_
    exact h
theorem u_X8_clear_16 {l : Launch} {E : xE} (l1 l2 l3 : Int) {M : xM} {Q : Option xV → xM → Prop} (h : (3 ≤ l3 → ∀ zv1 : Int, zv1 = x_w (l2 + 1) → x_Ev l E (1, 0, 0) m_X8_clear 2 [(18, 36), (0, l1), (0, zv1), (5, 0)] [] M Q) ∧ (¬ 3 ≤ l3 → (¬ l2 = l3 → (0 ≤ (x_w ((x_w (l2 * 3)) + l3)) ∧ (x_w ((x_w (l2 * 3)) + l3)) < 9) ∧ ∀ zM2 : xM, zM2 = x_wr M 37 (x_w ((x_w (l2 * 3)) + l3)) 0 → ∀ zv3 : Int, zv3 = x_w (l3 + 1) → x_Ev l E (1, 0, 0) m_X8_clear 16 [(18, 36), (0, l1), (0, l2), (0, zv3)] [] zM2 Q) ∧ (l2 = l3 → (l2 < l1 → (0 ≤ (x_w ((x_w (l2 * 3)) + l3)) ∧ (x_w ((x_w (l2 * 3)) + l3)) < 9) ∧ ∀ zM4 : xM, zM4 = x_wr M 37 (x_w ((x_w (l2 * 3)) + l3)) 0 → ∀ zv5 : Int, zv5 = x_w (l3 + 1) → x_Ev l E (1, 0, 0) m_X8_clear 16 [(18, 36), (0, l1), (0, l2), (0, zv5)] [] zM4 Q) ∧ (¬ l2 < l1 → (0 ≤ (x_w ((x_w (l2 * 3)) + l3)) ∧ (x_w ((x_w (l2 * 3)) + l3)) < 9) ∧ ∀ zM6 : xM, zM6 = x_wr M 37 (x_w ((x_w (l2 * 3)) + l3)) 1 → ∀ zv7 : Int, zv7 = x_w (l3 + 1) → x_Ev l E (1, 0, 0) m_X8_clear 16 [(18, 36), (0, l1), (0, l2), (0, zv7)] [] zM6 Q)))) : x_Ev l E (1, 0, 0) m_X8_clear 16 [(18, 36), (0, l1), (0, l2), (0, l3)] [] M Q := by
  refine i_iload_n 12 rfl rfl ?_
  refine i_iconst 13 rfl (by decide) ?_
  refine i_icmp_ge 52 14 rfl (by decide) (fun c => ?_) (fun c => ?_)
  · replace h := h.1 c
    replace h := h _ rfl
    refine i_iinc 34 rfl rfl (by decide) rfl ?_
    refine i_goto 2 35 rfl (by decide) ?_
    refine i_weak ?_ h
    exact (And.intro (Or.inr rfl) (And.intro (Or.inr rfl) (And.intro (Or.inr rfl) (And.intro (Or.inl rfl) trivial))))
  · replace h := h.2 c
    refine i_aload_n 15 rfl rfl (by decide) ?_
    refine i_getP (c := 8) (k := 0) (t := 104) (b := 37) 16 rfl fl_143 (by decide) rfl (by decide) rfl ?_
    refine i_iload_n 17 rfl rfl ?_
    refine i_iconst 18 rfl (by decide) ?_
    refine i_imul 19 rfl ?_
    refine i_iload_n 20 rfl rfl ?_
    refine i_iadd 21 rfl ?_
    refine i_iload_n 22 rfl rfl ?_
    refine i_iload_n 23 rfl rfl ?_
    refine i_icmp_ne 44 24 rfl (by decide) (fun c => ?_) (fun c => ?_)
    · replace h := h.1 c
      refine i_lconst (w := 0) 30 rfl (by decide) ?_
      have hb := h.1
      replace h := h.2 _ rfl
      refine i_last (τ := 4) 31 rfl ⟨rfl, rfl, rfl, by decide⟩ hb.1 hb.2 ?_
      replace h := h _ rfl
      refine i_iinc 32 rfl rfl (by decide) rfl ?_
      refine i_goto 16 33 rfl (by decide) ?_
      exact h
    · replace h := h.2 c
      refine i_iload_n 25 rfl rfl ?_
      refine i_iload_n 26 rfl rfl ?_
      refine i_icmp_lt 44 27 rfl (by decide) (fun c => ?_) (fun c => ?_)
      · replace h := h.1 c
        refine i_lconst (w := 0) 30 rfl (by decide) ?_
        have hb := h.1
        replace h := h.2 _ rfl
        refine i_last (τ := 4) 31 rfl ⟨rfl, rfl, rfl, by decide⟩ hb.1 hb.2 ?_
        replace h := h _ rfl
        refine i_iinc 32 rfl rfl (by decide) rfl ?_
        refine i_goto 16 33 rfl (by decide) ?_
        exact h
      · replace h := h.2 c
        refine i_lconst (w := 1) 28 rfl (by decide) ?_
        refine i_goto 45 29 rfl (by decide) ?_
        have hb := h.1
        replace h := h.2 _ rfl
        refine i_last (τ := 4) 31 rfl ⟨rfl, rfl, rfl, by decide⟩ hb.1 hb.2 ?_
        replace h := h _ rfl
        refine i_iinc 32 rfl rfl (by decide) rfl ?_
        refine i_goto 16 33 rfl (by decide) ?_
        exact h
theorem u_X8_solve_0 {l : Launch} {E : xE} {M : xM} {Q : Option xV → xM → Prop} (h : x_Ev l E (1, 0, 0) m_X8_measure 0 [(18, 36)] [] M (fun r zM1 => ∃ zr2, r = some (1, zr2) ∧ ∀ zM3 : xM, zM3 = x_wr zM1 36 3 zr2 → (¬ (zM3 36 3) = 0 → (0 ≤ (zM3 36 3) → x_Ev l E (2, 0, 0) m_X8_solve 38 [(18, 36), (1, 1), (5, 0), (0, 0)] [] zM3 Q) ∧ (¬ 0 ≤ (zM3 36 3) → x_Ev l E (2, 0, 0) m_X8_solve 38 [(18, 36), (1, (-1)), (5, 0), (0, 0)] [] zM3 Q)) ∧ ((zM3 36 3) = 0 → Q (some (0, 0)) zM3))) : x_Ev l E (2, 0, 0) m_X8_solve 0 [(18, 36), (5, 0), (5, 0), (5, 0)] [] M Q := by
  refine i_aload_n 0 rfl rfl (by decide) ?_
  refine i_aload_n 1 rfl rfl (by decide) ?_
  refine i_callV (c := 8) (y1 := m_X8_measure) (z1 := (1, 0, 0)) (z2 := (2, 0, 0)) [] 2 rfl ml_449 ok_X8_measure vk_X8_measure ⟨by decide, rfl⟩ rfl ⟨rfl, Nat.le_of_ble_eq_true rfl⟩ (Nat.le_of_ble_eq_true rfl) ⟨by decide, rfl, rfl, rfl⟩ ?_
  refine h.mono (fun r zM1 h => ?_)
  obtain ⟨zr2, rfl, h⟩ := h
  simp only [Option.toList_some, Option.toList_none, List.cons_append, List.nil_append]
  replace h := h _ rfl
  refine i_putL (c := 8) (k := 3) 3 rfl fl_150 (by decide) ⟨rfl, rfl, rfl⟩ ?_
  refine i_aload_n 4 rfl rfl (by decide) ?_
  refine i_getL (c := 8) (k := 3) 5 rfl fl_150 (by decide) rfl ?_
  refine i_lconst (w := 0) 6 rfl (by decide) ?_
  refine i_lcmp_ne 19 7 rfl rfl (by decide) (fun c => ?_) (fun c => ?_)
  · replace h := h.1 c
    refine i_aload_n 11 rfl rfl (by decide) ?_
    refine i_getL (c := 8) (k := 3) 12 rfl fl_150 (by decide) rfl ?_
    refine i_lconst (w := 0) 13 rfl (by decide) ?_
    refine i_lcmp_ge 34 14 rfl rfl (by decide) (fun c => ?_) (fun c => ?_)
    · replace h := h.1 c
      refine i_lconst (w := 1) 18 rfl (by decide) ?_
      refine i_lstore_n 19 rfl (by decide) rfl ?_
      refine i_iconst 20 rfl (by decide) ?_
      refine i_istore_n 21 rfl (by decide) rfl ?_
      exact h
    · replace h := h.2 c
      refine i_ldc2 (v := (-1)) 16 rfl cw_453 (by decide) ?_
      refine i_goto 35 17 rfl (by decide) ?_
      refine i_lstore_n 19 rfl (by decide) rfl ?_
      refine i_iconst 20 rfl (by decide) ?_
      refine i_istore_n 21 rfl (by decide) rfl ?_
      exact h
  · replace h := h.2 c
    refine i_iconst 9 rfl (by decide) ?_
    exact i_zreturn 10 rfl rfl (by decide) h
theorem u_X8_solve_38 {l : Launch} {E : xE} (l1 l3 : Int) {M : xM} {Q : Option xV → xM → Prop} (h : (3 ≤ l3 → ∀ zM1 : xM, zM1 = x_wr M 36 3 (x_W ((M 36 3) * l1)) → Q (some (0, 1)) zM1) ∧ (¬ 3 ≤ l3 → x_Ev l E (1, 0, 0) m_X8_turnColumn 0 [(18, 36), (0, l3), (5, 0), (5, 0), (5, 0)] [] M (fun r zM2 => r = none ∧ x_Ev l E (1, 0, 0) m_X8_measure 0 [(18, 36)] [] zM2 (fun r zM3 => ∃ zr4, r = some (1, zr4) ∧ (0 ≤ l3 ∧ l3 < 3) ∧ ∀ zM5 : xM, zM5 = x_wr zM3 39 l3 (x_W (zr4 * l1)) → x_Ev l E (1, 0, 0) m_X8_turnColumn 0 [(18, 36), (0, l3), (5, 0), (5, 0), (5, 0)] [] zM5 (fun r zM6 => r = none ∧ ∀ zv7 : Int, zv7 = x_w (l3 + 1) → x_Ev l E (2, 0, 0) m_X8_solve 38 [(18, 36), (1, l1), (5, 0), (0, zv7)] [] zM6 Q))))) : x_Ev l E (2, 0, 0) m_X8_solve 38 [(18, 36), (1, l1), (5, 0), (0, l3)] [] M Q := by
  refine i_iload_n 22 rfl rfl ?_
  refine i_iconst 23 rfl (by decide) ?_
  refine i_icmp_ge 71 24 rfl (by decide) (fun c => ?_) (fun c => ?_)
  · replace h := h.1 c
    refine i_aload_n 41 rfl rfl (by decide) ?_
    refine i_aload_n 42 rfl rfl (by decide) ?_
    refine i_getL (c := 8) (k := 3) 43 rfl fl_150 (by decide) rfl ?_
    refine i_lload_n 44 rfl rfl ?_
    refine i_lmul 45 rfl ?_
    replace h := h _ rfl
    refine i_putL (c := 8) (k := 3) 46 rfl fl_150 (by decide) ⟨rfl, rfl, rfl⟩ ?_
    refine i_iconst 47 rfl (by decide) ?_
    exact i_zreturn 48 rfl rfl (by decide) h
  · replace h := h.2 c
    refine i_aload_n 25 rfl rfl (by decide) ?_
    refine i_iload_n 26 rfl rfl ?_
    refine i_callV (c := 8) (y1 := m_X8_turnColumn) (z1 := (1, 0, 0)) (z2 := (2, 0, 0)) [(0, l3)] 27 rfl ml_454 ok_X8_turnColumn vk_X8_turnColumn ⟨by decide, rfl⟩ rfl ⟨rfl, Nat.le_of_ble_eq_true rfl⟩ (Nat.le_of_ble_eq_true rfl) ⟨by decide, rfl, rfl, rfl⟩ ?_
    refine h.mono (fun r zM2 h => ?_)
    obtain ⟨rfl, h⟩ := h
    simp only [Option.toList_some, Option.toList_none, List.cons_append, List.nil_append]
    refine i_aload_n 28 rfl rfl (by decide) ?_
    refine i_getP (c := 8) (k := 2) (t := 105) (b := 39) 29 rfl fl_145 (by decide) rfl (by decide) rfl ?_
    refine i_iload_n 30 rfl rfl ?_
    refine i_aload_n 31 rfl rfl (by decide) ?_
    refine i_callV (c := 8) (y1 := m_X8_measure) (z1 := (1, 0, 0)) (z2 := (2, 0, 0)) [] 32 rfl ml_449 ok_X8_measure vk_X8_measure ⟨by decide, rfl⟩ rfl ⟨rfl, Nat.le_of_ble_eq_true rfl⟩ (Nat.le_of_ble_eq_true rfl) ⟨by decide, rfl, rfl, rfl⟩ ?_
    refine h.mono (fun r zM3 h => ?_)
    obtain ⟨zr4, rfl, h⟩ := h
    simp only [Option.toList_some, Option.toList_none, List.cons_append, List.nil_append]
    refine i_lload_n 33 rfl rfl ?_
    refine i_lmul 34 rfl ?_
    have hb := h.1
    replace h := h.2 _ rfl
    refine i_last (τ := 5) 35 rfl ⟨rfl, rfl, rfl, by decide⟩ hb.1 hb.2 ?_
    refine i_aload_n 36 rfl rfl (by decide) ?_
    refine i_iload_n 37 rfl rfl ?_
    refine i_callV (c := 8) (y1 := m_X8_turnColumn) (z1 := (1, 0, 0)) (z2 := (2, 0, 0)) [(0, l3)] 38 rfl ml_454 ok_X8_turnColumn vk_X8_turnColumn ⟨by decide, rfl⟩ rfl ⟨rfl, Nat.le_of_ble_eq_true rfl⟩ (Nat.le_of_ble_eq_true rfl) ⟨by decide, rfl, rfl, rfl⟩ ?_
    refine h.mono (fun r zM6 h => ?_)
    obtain ⟨rfl, h⟩ := h
    simp only [Option.toList_some, Option.toList_none, List.cons_append, List.nil_append]
    replace h := h _ rfl
    refine i_iinc 39 rfl rfl (by decide) rfl ?_
    refine i_goto 38 40 rfl (by decide) ?_
    exact h
theorem u_X8_cellOf_0 {l : Launch} {E : xE} (a0 a1 a2 : Int) {M : xM} {Q : Option xV → xM → Prop} (h : ((M a0 3) ≤ a1 → (¬ (x_w (a1 - (M a0 3))) = a2 → Q (some (1, 0)) M) ∧ ((x_w (a1 - (M a0 3))) = a2 → Q (some (1, 1)) M)) ∧ (¬ (M a0 3) ≤ a1 → ((0 : Int) ≤ (x_w ((x_w (a1 * 3)) + a2)) ∧ ((x_w ((x_w (a1 * 3)) + a2)) : Int) < 12) ∧ Q (some (1, (M (a0 + 2) (x_w ((x_w (a1 * 3)) + a2))))) M)) : x_Ev l E (1, 0, 0) m_X8_cellOf 0 [(11, a0), (0, a1), (0, a2)] [] M Q := by
  refine i_iload_n 0 rfl rfl ?_
  refine i_aload_n 1 rfl rfl (by decide) ?_
  refine i_getI (c := 1) (k := 3) 2 rfl fl_71 (by decide) (by decide) ?_
  refine i_icmp_ge 20 3 rfl (by decide) (fun c => ?_) (fun c => ?_)
  · replace h := h.1 c
    refine i_iload_n 14 rfl rfl ?_
    refine i_aload_n 15 rfl rfl (by decide) ?_
    refine i_getI (c := 1) (k := 3) 16 rfl fl_71 (by decide) (by decide) ?_
    refine i_isub 17 rfl ?_
    refine i_iload_n 18 rfl rfl ?_
    refine i_icmp_ne 34 19 rfl (by decide) (fun c => ?_) (fun c => ?_)
    · replace h := h.1 c
      refine i_lconst (w := 0) 22 rfl (by decide) ?_
      exact i_lreturn 23 rfl rfl h
    · replace h := h.2 c
      refine i_lconst (w := 1) 20 rfl (by decide) ?_
      refine i_goto 35 21 rfl (by decide) ?_
      exact i_lreturn 23 rfl rfl h
  · replace h := h.2 c
    refine i_aload_n 4 rfl rfl (by decide) ?_
    refine i_getP (c := 1) (k := 5) (t := 102) (b := (a0 + 2)) 5 rfl fl_80 (by decide) rfl (by decide) rfl ?_
    refine i_iload_n 6 rfl rfl ?_
    refine i_iconst 7 rfl (by decide) ?_
    refine i_imul 8 rfl ?_
    refine i_iload_n 9 rfl rfl ?_
    refine i_iadd 10 rfl ?_
    refine i_iald (τ := 2) 11 rfl ⟨rfl, rfl, rfl, by decide⟩ h.1.1 h.1.2 ?_
    replace h := h.2
    refine i_i2l 12 rfl ?_
    exact i_lreturn 13 rfl rfl h
theorem u_X4_isBehind_0 {l : Launch} {E : xE} (a0 a1 : Int) {M : xM} {Q : Option xV → xM → Prop} (h : x_Ev l E (1, 0, 0) m_X4_isBehind 2 [(14, a0), (0, a1), (0, 0), (5, 0), (5, 0), (5, 0), (5, 0)] [] M Q) : x_Ev l E (1, 0, 0) m_X4_isBehind 0 [(14, a0), (0, a1), (5, 0), (5, 0), (5, 0), (5, 0), (5, 0)] [] M Q := by
  refine i_iconst 0 rfl (by decide) ?_
  refine i_istore_n 1 rfl (by decide) rfl ?_
  exact h
theorem u_X4_isBehind_2 {l : Launch} {E : xE} (l0 l1 l2 : Int) {M : xM} {Q : Option xV → xM → Prop} (h : ((M (9 + 4 * ((l0 - 49) / 9)) 2) ≤ l2 → Q (some (0, 0)) M) ∧ (¬ (M (9 + 4 * ((l0 - 49) / 9)) 2) ≤ l2 → ((0 : Int) ≤ (x_w ((x_w (l1 * 3)) + l2)) ∧ ((x_w ((x_w (l1 * 3)) + l2)) : Int) < 30) ∧ ∀ zv1 : Int, zv1 = (x_W ((M (l0 + 1) (x_w ((x_w (l1 * 3)) + l2))) * (M 36 3))) → ((0 : Int) ≤ l2 ∧ (l2 : Int) < 3) ∧ ((0 : Int) ≤ l1 ∧ (l1 : Int) < 10) ∧ ∀ zv2 : Int, zv2 = (x_W ((M 39 l2) * (M (l0 + 2) l1))) → (zv1 = zv2 → ∀ zv3 : Int, zv3 = x_w (l2 + 1) → x_Ev l E (1, 0, 0) m_X4_isBehind 2 [(14, l0), (0, l1), (0, zv3), (5, 0), (5, 0), (5, 0), (5, 0)] [] M Q) ∧ (¬ zv1 = zv2 → (zv1 ≤ zv2 → Q (some (0, 0)) M) ∧ (¬ zv1 ≤ zv2 → Q (some (0, 1)) M)))) : x_Ev l E (1, 0, 0) m_X4_isBehind 2 [(14, l0), (0, l1), (0, l2), (5, 0), (5, 0), (5, 0), (5, 0)] [] M Q := by
  refine i_iload_n 2 rfl rfl ?_
  refine i_aload_n 3 rfl rfl (by decide) ?_
  refine i_getP (c := 4) (k := 0) (t := 11) (b := (9 + 4 * ((l0 - 49) / 9))) 4 rfl fl_203 (by decide) rfl (by decide) rfl ?_
  refine i_getI (c := 1) (k := 2) 5 rfl fl_67 (by decide) (by decide) ?_
  refine i_icmp_ge 76 6 rfl (by decide) (fun c => ?_) (fun c => ?_)
  · replace h := h.1 c
    refine i_iconst 45 rfl (by decide) ?_
    exact i_zreturn 46 rfl rfl (by decide) h
  · replace h := h.2 c
    refine i_aload_n 7 rfl rfl (by decide) ?_
    refine i_getP (c := 4) (k := 3) (t := 108) (b := (l0 + 1)) 8 rfl fl_207 (by decide) rfl (by decide) rfl ?_
    refine i_iload_n 9 rfl rfl ?_
    refine i_iconst 10 rfl (by decide) ?_
    refine i_imul 11 rfl ?_
    refine i_iload_n 12 rfl rfl ?_
    refine i_iadd 13 rfl ?_
    refine i_lald (τ := 8) 14 rfl ⟨rfl, rfl, rfl, by decide⟩ h.1.1 h.1.2 ?_
    replace h := h.2
    refine i_aload_n 15 rfl rfl (by decide) ?_
    refine i_getP (c := 4) (k := 1) (t := 18) (b := 36) 16 rfl fl_204 (by decide) rfl (by decide) rfl ?_
    refine i_getL (c := 8) (k := 3) 17 rfl fl_148 (by decide) rfl ?_
    refine i_lmul 18 rfl ?_
    replace h := h _ rfl
    refine i_lstore_n 19 rfl (by decide) rfl ?_
    refine i_aload_n 20 rfl rfl (by decide) ?_
    refine i_getP (c := 4) (k := 1) (t := 18) (b := 36) 21 rfl fl_204 (by decide) rfl (by decide) rfl ?_
    refine i_getP (c := 8) (k := 2) (t := 105) (b := 39) 22 rfl fl_147 (by decide) rfl (by decide) rfl ?_
    refine i_iload_n 23 rfl rfl ?_
    refine i_lald (τ := 5) 24 rfl ⟨rfl, rfl, rfl, by decide⟩ h.1.1 h.1.2 ?_
    replace h := h.2
    refine i_aload_n 25 rfl rfl (by decide) ?_
    refine i_getP (c := 4) (k := 4) (t := 109) (b := (l0 + 2)) 26 rfl fl_209 (by decide) rfl (by decide) rfl ?_
    refine i_iload_n 27 rfl rfl ?_
    refine i_lald (τ := 9) 28 rfl ⟨rfl, rfl, rfl, by decide⟩ h.1.1 h.1.2 ?_
    replace h := h.2
    refine i_lmul 29 rfl ?_
    replace h := h _ rfl
    refine i_lstore 30 rfl (by decide) rfl ?_
    refine i_lload_n 31 rfl rfl ?_
    refine i_lload 32 rfl rfl ?_
    refine i_lcmp_eq 70 33 rfl rfl (by decide) (fun c => ?_) (fun c => ?_)
    · replace h := h.1 c
      replace h := h _ rfl
      refine i_iinc 43 rfl rfl (by decide) rfl ?_
      refine i_goto 2 44 rfl (by decide) ?_
      refine i_weak ?_ h
      exact (And.intro (Or.inr rfl) (And.intro (Or.inr rfl) (And.intro (Or.inr rfl) (And.intro (Or.inl rfl) (And.intro (Or.inr rfl) (And.intro (Or.inl rfl) (And.intro (Or.inr rfl) trivial)))))))
    · replace h := h.2 c
      refine i_lload_n 35 rfl rfl ?_
      refine i_lload 36 rfl rfl ?_
      refine i_lcmp_le 68 37 rfl rfl (by decide) (fun c => ?_) (fun c => ?_)
      · replace h := h.1 c
        refine i_iconst 41 rfl (by decide) ?_
        exact i_zreturn 42 rfl rfl (by decide) h
      · replace h := h.2 c
        refine i_iconst 39 rfl (by decide) ?_
        refine i_goto 69 40 rfl (by decide) ?_
        exact i_zreturn 42 rfl rfl (by decide) h
theorem u_X4_isChosenOver_0 {l : Launch} {E : xE} (a0 a1 a2 a3 : Int) {M : xM} {Q : Option xV → xM → Prop} (h : ((0 : Int) ≤ a1 ∧ (a1 : Int) < 10) ∧ ((0 : Int) ≤ a2 ∧ (a2 : Int) < 10) ∧ ((0 : Int) ≤ a2 ∧ (a2 : Int) < 10) ∧ ((0 : Int) ≤ a1 ∧ (a1 : Int) < 10) ∧ x_Ev l E (1, 0, 0) m_J13_compare_74951 0 [(1, (x_W ((M (a0 + 5) a1) * (M (a0 + 2) a2)))), (5, 0), (1, (x_W ((M (a0 + 5) a2) * (M (a0 + 2) a1)))), (5, 0)] [] M (fun r zM1 => ∃ zr2, r = some (0, zr2) ∧ (¬ a3 = 1 → (¬ a3 = 2 → (¬ (zM1 (9 + 4 * ((a0 - 49) / 9)) 0) = 5 → ((zM1 (9 + 4 * ((a0 - 49) / 9)) 0) = 2 → Q (some (0, 0)) zM1) ∧ (¬ (zM1 (9 + 4 * ((a0 - 49) / 9)) 0) = 2 → (¬ (zM1 (9 + 4 * ((a0 - 49) / 9)) 0) = 4 → ((0 : Int) ≤ a1 ∧ (a1 : Int) < 10) ∧ ((0 : Int) ≤ a2 ∧ (a2 : Int) < 10) ∧ ((0 : Int) ≤ a2 ∧ (a2 : Int) < 10) ∧ ((0 : Int) ≤ a1 ∧ (a1 : Int) < 10) ∧ x_Ev l E (1, 0, 0) m_J13_compare_74951 0 [(1, (x_W ((zM1 (a0 + 8) a1) * (zM1 (a0 + 2) a2)))), (5, 0), (1, (x_W ((zM1 (a0 + 8) a2) * (zM1 (a0 + 2) a1)))), (5, 0)] [] zM1 (fun r zM3 => ∃ zr4, r = some (0, zr4) ∧ (¬ (zM3 (9 + 4 * ((a0 - 49) / 9)) 0) = 0 → (0 ≤ zr4 → Q (some (0, 0)) zM3) ∧ (¬ 0 ≤ zr4 → Q (some (0, 1)) zM3)) ∧ ((zM3 (9 + 4 * ((a0 - 49) / 9)) 0) = 0 → (zr4 ≤ 0 → Q (some (0, 0)) zM3) ∧ (¬ zr4 ≤ 0 → Q (some (0, 1)) zM3)))) ∧ ((zM1 (9 + 4 * ((a0 - 49) / 9)) 0) = 4 → Q (some (0, 0)) zM1))) ∧ ((zM1 (9 + 4 * ((a0 - 49) / 9)) 0) = 5 → Q (some (0, 1)) zM1)) ∧ (a3 = 2 → (zr2 = 0 → (¬ (zM1 (9 + 4 * ((a0 - 49) / 9)) 0) = 5 → ((zM1 (9 + 4 * ((a0 - 49) / 9)) 0) = 2 → Q (some (0, 0)) zM1) ∧ (¬ (zM1 (9 + 4 * ((a0 - 49) / 9)) 0) = 2 → (¬ (zM1 (9 + 4 * ((a0 - 49) / 9)) 0) = 4 → ((0 : Int) ≤ a1 ∧ (a1 : Int) < 10) ∧ ((0 : Int) ≤ a2 ∧ (a2 : Int) < 10) ∧ ((0 : Int) ≤ a2 ∧ (a2 : Int) < 10) ∧ ((0 : Int) ≤ a1 ∧ (a1 : Int) < 10) ∧ x_Ev l E (1, 0, 0) m_J13_compare_74951 0 [(1, (x_W ((zM1 (a0 + 8) a1) * (zM1 (a0 + 2) a2)))), (5, 0), (1, (x_W ((zM1 (a0 + 8) a2) * (zM1 (a0 + 2) a1)))), (5, 0)] [] zM1 (fun r zM5 => ∃ zr6, r = some (0, zr6) ∧ (¬ (zM5 (9 + 4 * ((a0 - 49) / 9)) 0) = 0 → (0 ≤ zr6 → Q (some (0, 0)) zM5) ∧ (¬ 0 ≤ zr6 → Q (some (0, 1)) zM5)) ∧ ((zM5 (9 + 4 * ((a0 - 49) / 9)) 0) = 0 → (zr6 ≤ 0 → Q (some (0, 0)) zM5) ∧ (¬ zr6 ≤ 0 → Q (some (0, 1)) zM5)))) ∧ ((zM1 (9 + 4 * ((a0 - 49) / 9)) 0) = 4 → Q (some (0, 0)) zM1))) ∧ ((zM1 (9 + 4 * ((a0 - 49) / 9)) 0) = 5 → Q (some (0, 1)) zM1)) ∧ (¬ zr2 = 0 → (0 ≤ zr2 → Q (some (0, 0)) zM1) ∧ (¬ 0 ≤ zr2 → Q (some (0, 1)) zM1)))) ∧ (a3 = 1 → (zr2 = 0 → (¬ (zM1 (9 + 4 * ((a0 - 49) / 9)) 0) = 5 → ((zM1 (9 + 4 * ((a0 - 49) / 9)) 0) = 2 → Q (some (0, 0)) zM1) ∧ (¬ (zM1 (9 + 4 * ((a0 - 49) / 9)) 0) = 2 → (¬ (zM1 (9 + 4 * ((a0 - 49) / 9)) 0) = 4 → ((0 : Int) ≤ a1 ∧ (a1 : Int) < 10) ∧ ((0 : Int) ≤ a2 ∧ (a2 : Int) < 10) ∧ ((0 : Int) ≤ a2 ∧ (a2 : Int) < 10) ∧ ((0 : Int) ≤ a1 ∧ (a1 : Int) < 10) ∧ x_Ev l E (1, 0, 0) m_J13_compare_74951 0 [(1, (x_W ((zM1 (a0 + 8) a1) * (zM1 (a0 + 2) a2)))), (5, 0), (1, (x_W ((zM1 (a0 + 8) a2) * (zM1 (a0 + 2) a1)))), (5, 0)] [] zM1 (fun r zM7 => ∃ zr8, r = some (0, zr8) ∧ (¬ (zM7 (9 + 4 * ((a0 - 49) / 9)) 0) = 0 → (0 ≤ zr8 → Q (some (0, 0)) zM7) ∧ (¬ 0 ≤ zr8 → Q (some (0, 1)) zM7)) ∧ ((zM7 (9 + 4 * ((a0 - 49) / 9)) 0) = 0 → (zr8 ≤ 0 → Q (some (0, 0)) zM7) ∧ (¬ zr8 ≤ 0 → Q (some (0, 1)) zM7)))) ∧ ((zM1 (9 + 4 * ((a0 - 49) / 9)) 0) = 4 → Q (some (0, 0)) zM1))) ∧ ((zM1 (9 + 4 * ((a0 - 49) / 9)) 0) = 5 → Q (some (0, 1)) zM1)) ∧ (¬ zr2 = 0 → (zr2 ≤ 0 → Q (some (0, 0)) zM1) ∧ (¬ zr2 ≤ 0 → Q (some (0, 1)) zM1))))) : x_Ev l E (2, 0, 0) m_X4_isChosenOver 0 [(14, a0), (0, a1), (0, a2), (0, a3), (5, 0), (5, 0)] [] M Q := by
  refine i_aload_n 0 rfl rfl (by decide) ?_
  refine i_getP (c := 4) (k := 7) (t := 109) (b := (a0 + 5)) 1 rfl fl_215 (by decide) rfl (by decide) rfl ?_
  refine i_iload_n 2 rfl rfl ?_
  refine i_lald (τ := 9) 3 rfl ⟨rfl, rfl, rfl, by decide⟩ h.1.1 h.1.2 ?_
  replace h := h.2
  refine i_aload_n 4 rfl rfl (by decide) ?_
  refine i_getP (c := 4) (k := 4) (t := 109) (b := (a0 + 2)) 5 rfl fl_209 (by decide) rfl (by decide) rfl ?_
  refine i_iload_n 6 rfl rfl ?_
  refine i_lald (τ := 9) 7 rfl ⟨rfl, rfl, rfl, by decide⟩ h.1.1 h.1.2 ?_
  replace h := h.2
  refine i_lmul 8 rfl ?_
  refine i_aload_n 9 rfl rfl (by decide) ?_
  refine i_getP (c := 4) (k := 7) (t := 109) (b := (a0 + 5)) 10 rfl fl_215 (by decide) rfl (by decide) rfl ?_
  refine i_iload_n 11 rfl rfl ?_
  refine i_lald (τ := 9) 12 rfl ⟨rfl, rfl, rfl, by decide⟩ h.1.1 h.1.2 ?_
  replace h := h.2
  refine i_aload_n 13 rfl rfl (by decide) ?_
  refine i_getP (c := 4) (k := 4) (t := 109) (b := (a0 + 2)) 14 rfl fl_209 (by decide) rfl (by decide) rfl ?_
  refine i_iload_n 15 rfl rfl ?_
  refine i_lald (τ := 9) 16 rfl ⟨rfl, rfl, rfl, by decide⟩ h.1.1 h.1.2 ?_
  replace h := h.2
  refine i_lmul 17 rfl ?_
  refine i_callS (y1 := m_J13_compare_74951) (z1 := (1, 0, 0)) (z2 := (2, 0, 0)) [(1, (x_W ((M (a0 + 5) a1) * (M (a0 + 2) a2)))), (1, (x_W ((M (a0 + 5) a2) * (M (a0 + 2) a1))))] 18 rfl ml_517 ok_J13_compare_74951 vk_J13_compare_74951 rfl ⟨rfl, Nat.le_of_ble_eq_true rfl⟩ (Nat.le_of_ble_eq_true rfl) ⟨by decide, rfl, rfl, rfl⟩ ?_
  refine h.mono (fun r zM1 h => ?_)
  obtain ⟨zr2, rfl, h⟩ := h
  simp only [Option.toList_some, Option.toList_none, List.cons_append, List.nil_append]
  refine i_istore 19 rfl (by decide) rfl ?_
  refine i_iload_n 20 rfl rfl ?_
  refine i_iconst 21 rfl (by decide) ?_
  refine i_icmp_ne 52 22 rfl (by decide) (fun c => ?_) (fun c => ?_)
  · replace h := h.1 c
    refine i_iload_n 31 rfl rfl ?_
    refine i_iconst 32 rfl (by decide) ?_
    refine i_icmp_ne 73 33 rfl (by decide) (fun c => ?_) (fun c => ?_)
    · replace h := h.1 c
      refine i_aload_n 42 rfl rfl (by decide) ?_
      refine i_getP (c := 4) (k := 0) (t := 11) (b := (9 + 4 * ((a0 - 49) / 9))) 43 rfl fl_203 (by decide) rfl (by decide) rfl ?_
      refine i_getI (c := 1) (k := 0) 44 rfl fl_62 (by decide) (by decide) ?_
      refine i_iconst 45 rfl (by decide) ?_
      refine i_icmp_ne 86 46 rfl (by decide) (fun c => ?_) (fun c => ?_)
      · replace h := h.1 c
        refine i_aload_n 49 rfl rfl (by decide) ?_
        refine i_getP (c := 4) (k := 0) (t := 11) (b := (9 + 4 * ((a0 - 49) / 9))) 50 rfl fl_203 (by decide) rfl (by decide) rfl ?_
        refine i_getI (c := 1) (k := 0) 51 rfl fl_62 (by decide) (by decide) ?_
        refine i_iconst 52 rfl (by decide) ?_
        refine i_icmp_eq 108 53 rfl (by decide) (fun c => ?_) (fun c => ?_)
        · replace h := h.1 c
          refine i_iconst 59 rfl (by decide) ?_
          exact i_zreturn 60 rfl rfl (by decide) h
        · replace h := h.2 c
          refine i_aload_n 54 rfl rfl (by decide) ?_
          refine i_getP (c := 4) (k := 0) (t := 11) (b := (9 + 4 * ((a0 - 49) / 9))) 55 rfl fl_203 (by decide) rfl (by decide) rfl ?_
          refine i_getI (c := 1) (k := 0) 56 rfl fl_62 (by decide) (by decide) ?_
          refine i_iconst 57 rfl (by decide) ?_
          refine i_icmp_ne 110 58 rfl (by decide) (fun c => ?_) (fun c => ?_)
          · replace h := h.1 c
            refine i_aload_n 61 rfl rfl (by decide) ?_
            refine i_getP (c := 4) (k := 10) (t := 109) (b := (a0 + 8)) 62 rfl fl_220 (by decide) rfl (by decide) rfl ?_
            refine i_iload_n 63 rfl rfl ?_
            refine i_lald (τ := 9) 64 rfl ⟨rfl, rfl, rfl, by decide⟩ h.1.1 h.1.2 ?_
            replace h := h.2
            refine i_aload_n 65 rfl rfl (by decide) ?_
            refine i_getP (c := 4) (k := 4) (t := 109) (b := (a0 + 2)) 66 rfl fl_209 (by decide) rfl (by decide) rfl ?_
            refine i_iload_n 67 rfl rfl ?_
            refine i_lald (τ := 9) 68 rfl ⟨rfl, rfl, rfl, by decide⟩ h.1.1 h.1.2 ?_
            replace h := h.2
            refine i_lmul 69 rfl ?_
            refine i_aload_n 70 rfl rfl (by decide) ?_
            refine i_getP (c := 4) (k := 10) (t := 109) (b := (a0 + 8)) 71 rfl fl_220 (by decide) rfl (by decide) rfl ?_
            refine i_iload_n 72 rfl rfl ?_
            refine i_lald (τ := 9) 73 rfl ⟨rfl, rfl, rfl, by decide⟩ h.1.1 h.1.2 ?_
            replace h := h.2
            refine i_aload_n 74 rfl rfl (by decide) ?_
            refine i_getP (c := 4) (k := 4) (t := 109) (b := (a0 + 2)) 75 rfl fl_209 (by decide) rfl (by decide) rfl ?_
            refine i_iload_n 76 rfl rfl ?_
            refine i_lald (τ := 9) 77 rfl ⟨rfl, rfl, rfl, by decide⟩ h.1.1 h.1.2 ?_
            replace h := h.2
            refine i_lmul 78 rfl ?_
            refine i_callS (y1 := m_J13_compare_74951) (z1 := (1, 0, 0)) (z2 := (2, 0, 0)) [(1, (x_W ((zM1 (a0 + 8) a1) * (zM1 (a0 + 2) a2)))), (1, (x_W ((zM1 (a0 + 8) a2) * (zM1 (a0 + 2) a1))))] 79 rfl ml_517 ok_J13_compare_74951 vk_J13_compare_74951 rfl ⟨rfl, Nat.le_of_ble_eq_true rfl⟩ (Nat.le_of_ble_eq_true rfl) ⟨by decide, rfl, rfl, rfl⟩ ?_
            refine h.mono (fun r zM3 h => ?_)
            obtain ⟨zr4, rfl, h⟩ := h
            simp only [Option.toList_some, Option.toList_none, List.cons_append, List.nil_append]
            refine i_istore 80 rfl (by decide) rfl ?_
            refine i_aload_n 81 rfl rfl (by decide) ?_
            refine i_getP (c := 4) (k := 0) (t := 11) (b := (9 + 4 * ((a0 - 49) / 9))) 82 rfl fl_203 (by decide) rfl (by decide) rfl ?_
            refine i_getI (c := 1) (k := 0) 83 rfl fl_62 (by decide) (by decide) ?_
            refine i_if_ne 164 84 rfl (by decide) (fun c => ?_) (fun c => ?_)
            · replace h := h.1 c
              refine i_iload 91 rfl rfl ?_
              refine i_if_ge 173 92 rfl (by decide) (fun c => ?_) (fun c => ?_)
              · replace h := h.1 c
                refine i_iconst 95 rfl (by decide) ?_
                exact i_zreturn 96 rfl rfl (by decide) h
              · replace h := h.2 c
                refine i_iconst 93 rfl (by decide) ?_
                refine i_goto 174 94 rfl (by decide) ?_
                exact i_zreturn 96 rfl rfl (by decide) h
            · replace h := h.2 c
              refine i_iload 85 rfl rfl ?_
              refine i_if_le 160 86 rfl (by decide) (fun c => ?_) (fun c => ?_)
              · replace h := h.1 c
                refine i_iconst 89 rfl (by decide) ?_
                refine i_goto 174 90 rfl (by decide) ?_
                exact i_zreturn 96 rfl rfl (by decide) h
              · replace h := h.2 c
                refine i_iconst 87 rfl (by decide) ?_
                refine i_goto 174 88 rfl (by decide) ?_
                exact i_zreturn 96 rfl rfl (by decide) h
          · replace h := h.2 c
            refine i_iconst 59 rfl (by decide) ?_
            exact i_zreturn 60 rfl rfl (by decide) h
      · replace h := h.2 c
        refine i_iconst 47 rfl (by decide) ?_
        exact i_zreturn 48 rfl rfl (by decide) h
    · replace h := h.2 c
      refine i_iload 34 rfl rfl ?_
      refine i_if_eq 73 35 rfl (by decide) (fun c => ?_) (fun c => ?_)
      · replace h := h.1 c
        refine i_aload_n 42 rfl rfl (by decide) ?_
        refine i_getP (c := 4) (k := 0) (t := 11) (b := (9 + 4 * ((a0 - 49) / 9))) 43 rfl fl_203 (by decide) rfl (by decide) rfl ?_
        refine i_getI (c := 1) (k := 0) 44 rfl fl_62 (by decide) (by decide) ?_
        refine i_iconst 45 rfl (by decide) ?_
        refine i_icmp_ne 86 46 rfl (by decide) (fun c => ?_) (fun c => ?_)
        · replace h := h.1 c
          refine i_aload_n 49 rfl rfl (by decide) ?_
          refine i_getP (c := 4) (k := 0) (t := 11) (b := (9 + 4 * ((a0 - 49) / 9))) 50 rfl fl_203 (by decide) rfl (by decide) rfl ?_
          refine i_getI (c := 1) (k := 0) 51 rfl fl_62 (by decide) (by decide) ?_
          refine i_iconst 52 rfl (by decide) ?_
          refine i_icmp_eq 108 53 rfl (by decide) (fun c => ?_) (fun c => ?_)
          · replace h := h.1 c
            refine i_iconst 59 rfl (by decide) ?_
            exact i_zreturn 60 rfl rfl (by decide) h
          · replace h := h.2 c
            refine i_aload_n 54 rfl rfl (by decide) ?_
            refine i_getP (c := 4) (k := 0) (t := 11) (b := (9 + 4 * ((a0 - 49) / 9))) 55 rfl fl_203 (by decide) rfl (by decide) rfl ?_
            refine i_getI (c := 1) (k := 0) 56 rfl fl_62 (by decide) (by decide) ?_
            refine i_iconst 57 rfl (by decide) ?_
            refine i_icmp_ne 110 58 rfl (by decide) (fun c => ?_) (fun c => ?_)
            · replace h := h.1 c
              refine i_aload_n 61 rfl rfl (by decide) ?_
              refine i_getP (c := 4) (k := 10) (t := 109) (b := (a0 + 8)) 62 rfl fl_220 (by decide) rfl (by decide) rfl ?_
              refine i_iload_n 63 rfl rfl ?_
              refine i_lald (τ := 9) 64 rfl ⟨rfl, rfl, rfl, by decide⟩ h.1.1 h.1.2 ?_
              replace h := h.2
              refine i_aload_n 65 rfl rfl (by decide) ?_
              refine i_getP (c := 4) (k := 4) (t := 109) (b := (a0 + 2)) 66 rfl fl_209 (by decide) rfl (by decide) rfl ?_
              refine i_iload_n 67 rfl rfl ?_
              refine i_lald (τ := 9) 68 rfl ⟨rfl, rfl, rfl, by decide⟩ h.1.1 h.1.2 ?_
              replace h := h.2
              refine i_lmul 69 rfl ?_
              refine i_aload_n 70 rfl rfl (by decide) ?_
              refine i_getP (c := 4) (k := 10) (t := 109) (b := (a0 + 8)) 71 rfl fl_220 (by decide) rfl (by decide) rfl ?_
              refine i_iload_n 72 rfl rfl ?_
              refine i_lald (τ := 9) 73 rfl ⟨rfl, rfl, rfl, by decide⟩ h.1.1 h.1.2 ?_
              replace h := h.2
              refine i_aload_n 74 rfl rfl (by decide) ?_
              refine i_getP (c := 4) (k := 4) (t := 109) (b := (a0 + 2)) 75 rfl fl_209 (by decide) rfl (by decide) rfl ?_
              refine i_iload_n 76 rfl rfl ?_
              refine i_lald (τ := 9) 77 rfl ⟨rfl, rfl, rfl, by decide⟩ h.1.1 h.1.2 ?_
              replace h := h.2
              refine i_lmul 78 rfl ?_
              refine i_callS (y1 := m_J13_compare_74951) (z1 := (1, 0, 0)) (z2 := (2, 0, 0)) [(1, (x_W ((zM1 (a0 + 8) a1) * (zM1 (a0 + 2) a2)))), (1, (x_W ((zM1 (a0 + 8) a2) * (zM1 (a0 + 2) a1))))] 79 rfl ml_517 ok_J13_compare_74951 vk_J13_compare_74951 rfl ⟨rfl, Nat.le_of_ble_eq_true rfl⟩ (Nat.le_of_ble_eq_true rfl) ⟨by decide, rfl, rfl, rfl⟩ ?_
              refine h.mono (fun r zM5 h => ?_)
              obtain ⟨zr6, rfl, h⟩ := h
              simp only [Option.toList_some, Option.toList_none, List.cons_append, List.nil_append]
              refine i_istore 80 rfl (by decide) rfl ?_
              refine i_aload_n 81 rfl rfl (by decide) ?_
              refine i_getP (c := 4) (k := 0) (t := 11) (b := (9 + 4 * ((a0 - 49) / 9))) 82 rfl fl_203 (by decide) rfl (by decide) rfl ?_
              refine i_getI (c := 1) (k := 0) 83 rfl fl_62 (by decide) (by decide) ?_
              refine i_if_ne 164 84 rfl (by decide) (fun c => ?_) (fun c => ?_)
              · replace h := h.1 c
                refine i_iload 91 rfl rfl ?_
                refine i_if_ge 173 92 rfl (by decide) (fun c => ?_) (fun c => ?_)
                · replace h := h.1 c
                  refine i_iconst 95 rfl (by decide) ?_
                  exact i_zreturn 96 rfl rfl (by decide) h
                · replace h := h.2 c
                  refine i_iconst 93 rfl (by decide) ?_
                  refine i_goto 174 94 rfl (by decide) ?_
                  exact i_zreturn 96 rfl rfl (by decide) h
              · replace h := h.2 c
                refine i_iload 85 rfl rfl ?_
                refine i_if_le 160 86 rfl (by decide) (fun c => ?_) (fun c => ?_)
                · replace h := h.1 c
                  refine i_iconst 89 rfl (by decide) ?_
                  refine i_goto 174 90 rfl (by decide) ?_
                  exact i_zreturn 96 rfl rfl (by decide) h
                · replace h := h.2 c
                  refine i_iconst 87 rfl (by decide) ?_
                  refine i_goto 174 88 rfl (by decide) ?_
                  exact i_zreturn 96 rfl rfl (by decide) h
            · replace h := h.2 c
              refine i_iconst 59 rfl (by decide) ?_
              exact i_zreturn 60 rfl rfl (by decide) h
        · replace h := h.2 c
          refine i_iconst 47 rfl (by decide) ?_
          exact i_zreturn 48 rfl rfl (by decide) h
      · replace h := h.2 c
        refine i_iload 36 rfl rfl ?_
        refine i_if_ge 71 37 rfl (by decide) (fun c => ?_) (fun c => ?_)
        · replace h := h.1 c
          refine i_iconst 40 rfl (by decide) ?_
          exact i_zreturn 41 rfl rfl (by decide) h
        · replace h := h.2 c
          refine i_iconst 38 rfl (by decide) ?_
          refine i_goto 72 39 rfl (by decide) ?_
          exact i_zreturn 41 rfl rfl (by decide) h
  · replace h := h.2 c
    refine i_iload 23 rfl rfl ?_
    refine i_if_eq 52 24 rfl (by decide) (fun c => ?_) (fun c => ?_)
    · replace h := h.1 c
      refine i_iload_n 31 rfl rfl ?_
      refine i_iconst 32 rfl (by decide) ?_
      refine i_icmp_ne 73 33 rfl (by decide) (fun c => ?_) (fun c => ?_)
      · refine i_aload_n 42 rfl rfl (by decide) ?_
        refine i_getP (c := 4) (k := 0) (t := 11) (b := (9 + 4 * ((a0 - 49) / 9))) 43 rfl fl_203 (by decide) rfl (by decide) rfl ?_
        refine i_getI (c := 1) (k := 0) 44 rfl fl_62 (by decide) (by decide) ?_
        refine i_iconst 45 rfl (by decide) ?_
        refine i_icmp_ne 86 46 rfl (by decide) (fun c => ?_) (fun c => ?_)
        · replace h := h.1 c
          refine i_aload_n 49 rfl rfl (by decide) ?_
          refine i_getP (c := 4) (k := 0) (t := 11) (b := (9 + 4 * ((a0 - 49) / 9))) 50 rfl fl_203 (by decide) rfl (by decide) rfl ?_
          refine i_getI (c := 1) (k := 0) 51 rfl fl_62 (by decide) (by decide) ?_
          refine i_iconst 52 rfl (by decide) ?_
          refine i_icmp_eq 108 53 rfl (by decide) (fun c => ?_) (fun c => ?_)
          · replace h := h.1 c
            refine i_iconst 59 rfl (by decide) ?_
            exact i_zreturn 60 rfl rfl (by decide) h
          · replace h := h.2 c
            refine i_aload_n 54 rfl rfl (by decide) ?_
            refine i_getP (c := 4) (k := 0) (t := 11) (b := (9 + 4 * ((a0 - 49) / 9))) 55 rfl fl_203 (by decide) rfl (by decide) rfl ?_
            refine i_getI (c := 1) (k := 0) 56 rfl fl_62 (by decide) (by decide) ?_
            refine i_iconst 57 rfl (by decide) ?_
            refine i_icmp_ne 110 58 rfl (by decide) (fun c => ?_) (fun c => ?_)
            · replace h := h.1 c
              refine i_aload_n 61 rfl rfl (by decide) ?_
              refine i_getP (c := 4) (k := 10) (t := 109) (b := (a0 + 8)) 62 rfl fl_220 (by decide) rfl (by decide) rfl ?_
              refine i_iload_n 63 rfl rfl ?_
              refine i_lald (τ := 9) 64 rfl ⟨rfl, rfl, rfl, by decide⟩ h.1.1 h.1.2 ?_
              replace h := h.2
              refine i_aload_n 65 rfl rfl (by decide) ?_
              refine i_getP (c := 4) (k := 4) (t := 109) (b := (a0 + 2)) 66 rfl fl_209 (by decide) rfl (by decide) rfl ?_
              refine i_iload_n 67 rfl rfl ?_
              refine i_lald (τ := 9) 68 rfl ⟨rfl, rfl, rfl, by decide⟩ h.1.1 h.1.2 ?_
              replace h := h.2
              refine i_lmul 69 rfl ?_
              refine i_aload_n 70 rfl rfl (by decide) ?_
              refine i_getP (c := 4) (k := 10) (t := 109) (b := (a0 + 8)) 71 rfl fl_220 (by decide) rfl (by decide) rfl ?_
              refine i_iload_n 72 rfl rfl ?_
              refine i_lald (τ := 9) 73 rfl ⟨rfl, rfl, rfl, by decide⟩ h.1.1 h.1.2 ?_
              replace h := h.2
              refine i_aload_n 74 rfl rfl (by decide) ?_
              refine i_getP (c := 4) (k := 4) (t := 109) (b := (a0 + 2)) 75 rfl fl_209 (by decide) rfl (by decide) rfl ?_
              refine i_iload_n 76 rfl rfl ?_
              refine i_lald (τ := 9) 77 rfl ⟨rfl, rfl, rfl, by decide⟩ h.1.1 h.1.2 ?_
              replace h := h.2
              refine i_lmul 78 rfl ?_
              refine i_callS (y1 := m_J13_compare_74951) (z1 := (1, 0, 0)) (z2 := (2, 0, 0)) [(1, (x_W ((zM1 (a0 + 8) a1) * (zM1 (a0 + 2) a2)))), (1, (x_W ((zM1 (a0 + 8) a2) * (zM1 (a0 + 2) a1))))] 79 rfl ml_517 ok_J13_compare_74951 vk_J13_compare_74951 rfl ⟨rfl, Nat.le_of_ble_eq_true rfl⟩ (Nat.le_of_ble_eq_true rfl) ⟨by decide, rfl, rfl, rfl⟩ ?_
              refine h.mono (fun r zM7 h => ?_)
              obtain ⟨zr8, rfl, h⟩ := h
              simp only [Option.toList_some, Option.toList_none, List.cons_append, List.nil_append]
              refine i_istore 80 rfl (by decide) rfl ?_
              refine i_aload_n 81 rfl rfl (by decide) ?_
              refine i_getP (c := 4) (k := 0) (t := 11) (b := (9 + 4 * ((a0 - 49) / 9))) 82 rfl fl_203 (by decide) rfl (by decide) rfl ?_
              refine i_getI (c := 1) (k := 0) 83 rfl fl_62 (by decide) (by decide) ?_
              refine i_if_ne 164 84 rfl (by decide) (fun c => ?_) (fun c => ?_)
              · replace h := h.1 c
                refine i_iload 91 rfl rfl ?_
                refine i_if_ge 173 92 rfl (by decide) (fun c => ?_) (fun c => ?_)
                · replace h := h.1 c
                  refine i_iconst 95 rfl (by decide) ?_
                  exact i_zreturn 96 rfl rfl (by decide) h
                · replace h := h.2 c
                  refine i_iconst 93 rfl (by decide) ?_
                  refine i_goto 174 94 rfl (by decide) ?_
                  exact i_zreturn 96 rfl rfl (by decide) h
              · replace h := h.2 c
                refine i_iload 85 rfl rfl ?_
                refine i_if_le 160 86 rfl (by decide) (fun c => ?_) (fun c => ?_)
                · replace h := h.1 c
                  refine i_iconst 89 rfl (by decide) ?_
                  refine i_goto 174 90 rfl (by decide) ?_
                  exact i_zreturn 96 rfl rfl (by decide) h
                · replace h := h.2 c
                  refine i_iconst 87 rfl (by decide) ?_
                  refine i_goto 174 88 rfl (by decide) ?_
                  exact i_zreturn 96 rfl rfl (by decide) h
            · replace h := h.2 c
              refine i_iconst 59 rfl (by decide) ?_
              exact i_zreturn 60 rfl rfl (by decide) h
        · replace h := h.2 c
          refine i_iconst 47 rfl (by decide) ?_
          exact i_zreturn 48 rfl rfl (by decide) h
      · exact absurd c (by omega)
    · replace h := h.2 c
      refine i_iload 25 rfl rfl ?_
      refine i_if_le 50 26 rfl (by decide) (fun c => ?_) (fun c => ?_)
      · replace h := h.1 c
        refine i_iconst 29 rfl (by decide) ?_
        exact i_zreturn 30 rfl rfl (by decide) h
      · replace h := h.2 c
        refine i_iconst 27 rfl (by decide) ?_
        refine i_goto 51 28 rfl (by decide) ?_
        exact i_zreturn 30 rfl rfl (by decide) h
theorem u_X5_findProofs_0 {l : Launch} {E : xE} {M : xM} {Q : Option xV → xM → Prop} (h : ∀ zM1 : xM, zM1 = x_wr M 76 2 0 → ∀ zM2 : xM, zM2 = x_wr zM1 76 3 0 → x_Ev l E (2, 0, 0) m_X5_findProofs 12 [(15, 76), (0, 0), (5, 0)] [] zM2 Q) : x_Ev l E (2, 0, 0) m_X5_findProofs 0 [(15, 76), (5, 0), (5, 0)] [] M Q := by
  refine i_aload_n 0 rfl rfl (by decide) ?_
  refine i_iconst 1 rfl (by decide) ?_
  replace h := h _ rfl
  refine i_putI (c := 5) (k := 2) 2 rfl fl_292 (by decide) ⟨rfl, rfl, rfl⟩ ?_
  refine i_aload_n 3 rfl rfl (by decide) ?_
  refine i_iconst 4 rfl (by decide) ?_
  replace h := h _ rfl
  refine i_putI (c := 5) (k := 3) 5 rfl fl_294 (by decide) ⟨rfl, rfl, rfl⟩ ?_
  refine i_iconst 6 rfl (by decide) ?_
  refine i_istore_n 7 rfl (by decide) rfl ?_
  exact h
theorem u_X5_findProofs_12 {l : Launch} {E : xE} (l1 : Int) {M : xM} {Q : Option xV → xM → Prop} (h : ((M 76 1) ≤ l1 → Q none M) ∧ (¬ (M 76 1) ≤ l1 → ((0 : Int) ≤ l1 ∧ (l1 : Int) < 35) ∧ ((0 : Int) ≤ (M 76 3) ∧ ((M 76 3) : Int) < 35) ∧ ((0 : Int) ≤ (M 76 3) ∧ ((M 76 3) : Int) < 35) ∧ ((0 : Int) ≤ l1 ∧ (l1 : Int) < 35) ∧ x_Ev l E (1, 0, 0) m_J13_compare_74951 0 [(1, (x_W ((M 80 l1) * (M 78 (M 76 3))))), (5, 0), (1, (x_W ((M 80 (M 76 3)) * (M 78 l1)))), (5, 0)] [] M (fun r zM1 => ∃ zr2, r = some (0, zr2) ∧ (0 ≤ zr2 → (¬ zr2 = 0 → ∀ zv3 : Int, zv3 = x_w (l1 + 1) → x_Ev l E (2, 0, 0) m_X5_findProofs 12 [(15, 76), (0, zv3), (5, 0)] [] zM1 Q) ∧ (zr2 = 0 → x_Ev l E (1, 0, 0) m_X5_isAhead 0 [(15, 76), (0, l1), (0, (zM1 76 3)), (5, 0), (5, 0), (5, 0), (5, 0), (5, 0)] [] zM1 (fun r zM4 => ∃ zr5, r = some (0, zr5) ∧ (zr5 = 0 → ∀ zM6 : xM, zM6 = x_wr zM4 76 2 (x_w ((zM4 76 2) + 1)) → ∀ zv7 : Int, zv7 = x_w (l1 + 1) → x_Ev l E (2, 0, 0) m_X5_findProofs 12 [(15, 76), (0, zv7), (5, 0)] [] zM6 Q) ∧ (¬ zr5 = 0 → ∀ zM8 : xM, zM8 = x_wr zM4 76 3 l1 → ∀ zM9 : xM, zM9 = x_wr zM8 76 2 (x_w ((zM8 76 2) + 1)) → ∀ zv10 : Int, zv10 = x_w (l1 + 1) → x_Ev l E (2, 0, 0) m_X5_findProofs 12 [(15, 76), (0, zv10), (5, 0)] [] zM9 Q)))) ∧ (¬ 0 ≤ zr2 → ∀ zM11 : xM, zM11 = x_wr zM1 76 2 0 → ∀ zM12 : xM, zM12 = x_wr zM11 76 3 l1 → ∀ zM13 : xM, zM13 = x_wr zM12 76 2 (x_w ((zM12 76 2) + 1)) → ∀ zv14 : Int, zv14 = x_w (l1 + 1) → x_Ev l E (2, 0, 0) m_X5_findProofs 12 [(15, 76), (0, zv14), (5, 0)] [] zM13 Q)))) : x_Ev l E (2, 0, 0) m_X5_findProofs 12 [(15, 76), (0, l1), (5, 0)] [] M Q := by
  refine i_iload_n 8 rfl rfl ?_
  refine i_aload_n 9 rfl rfl (by decide) ?_
  refine i_getI (c := 5) (k := 1) 10 rfl fl_290 (by decide) (by decide) ?_
  refine i_icmp_ge 110 11 rfl (by decide) (fun c => ?_) (fun c => ?_)
  · replace h := h.1 c
    exact i_return 62 rfl rfl h
  · replace h := h.2 c
    refine i_aload_n 12 rfl rfl (by decide) ?_
    refine i_getP (c := 5) (k := 8) (t := 112) (b := 80) 13 rfl fl_300 (by decide) rfl (by decide) rfl ?_
    refine i_iload_n 14 rfl rfl ?_
    refine i_lald (τ := 12) 15 rfl ⟨rfl, rfl, rfl, by decide⟩ h.1.1 h.1.2 ?_
    replace h := h.2
    refine i_aload_n 16 rfl rfl (by decide) ?_
    refine i_getP (c := 5) (k := 6) (t := 112) (b := 78) 17 rfl fl_297 (by decide) rfl (by decide) rfl ?_
    refine i_aload_n 18 rfl rfl (by decide) ?_
    refine i_getI (c := 5) (k := 3) 19 rfl fl_294 (by decide) (by decide) ?_
    refine i_lald (τ := 12) 20 rfl ⟨rfl, rfl, rfl, by decide⟩ h.1.1 h.1.2 ?_
    replace h := h.2
    refine i_lmul 21 rfl ?_
    refine i_aload_n 22 rfl rfl (by decide) ?_
    refine i_getP (c := 5) (k := 8) (t := 112) (b := 80) 23 rfl fl_300 (by decide) rfl (by decide) rfl ?_
    refine i_aload_n 24 rfl rfl (by decide) ?_
    refine i_getI (c := 5) (k := 3) 25 rfl fl_294 (by decide) (by decide) ?_
    refine i_lald (τ := 12) 26 rfl ⟨rfl, rfl, rfl, by decide⟩ h.1.1 h.1.2 ?_
    replace h := h.2
    refine i_aload_n 27 rfl rfl (by decide) ?_
    refine i_getP (c := 5) (k := 6) (t := 112) (b := 78) 28 rfl fl_297 (by decide) rfl (by decide) rfl ?_
    refine i_iload_n 29 rfl rfl ?_
    refine i_lald (τ := 12) 30 rfl ⟨rfl, rfl, rfl, by decide⟩ h.1.1 h.1.2 ?_
    replace h := h.2
    refine i_lmul 31 rfl ?_
    refine i_callS (y1 := m_J13_compare_74951) (z1 := (1, 0, 0)) (z2 := (2, 0, 0)) [(1, (x_W ((M 80 l1) * (M 78 (M 76 3))))), (1, (x_W ((M 80 (M 76 3)) * (M 78 l1))))] 32 rfl ml_677 ok_J13_compare_74951 vk_J13_compare_74951 rfl ⟨rfl, Nat.le_of_ble_eq_true rfl⟩ (Nat.le_of_ble_eq_true rfl) ⟨by decide, rfl, rfl, rfl⟩ ?_
    refine h.mono (fun r zM1 h => ?_)
    obtain ⟨zr2, rfl, h⟩ := h
    simp only [Option.toList_some, Option.toList_none, List.cons_append, List.nil_append]
    refine i_istore_n 33 rfl (by decide) rfl ?_
    refine i_iload_n 34 rfl rfl ?_
    refine i_if_ge 65 35 rfl (by decide) (fun c => ?_) (fun c => ?_)
    · replace h := h.1 c
      refine i_iload_n 39 rfl rfl ?_
      refine i_if_lt 85 40 rfl (by decide) (fun c => ?_) (fun c => ?_)
      · exact absurd c (by omega)
      · refine i_iload_n 41 rfl rfl ?_
        refine i_if_ne 90 42 rfl (by decide) (fun c => ?_) (fun c => ?_)
        · replace h := h.1 c
          refine i_iload_n 52 rfl rfl ?_
          refine i_if_gt 104 53 rfl (by decide) (fun c => ?_) (fun c => ?_)
          · replace h := h _ rfl
            refine i_iinc 60 rfl rfl (by decide) rfl ?_
            refine i_goto 12 61 rfl (by decide) ?_
            refine i_weak ?_ h
            exact (And.intro (Or.inr rfl) (And.intro (Or.inr rfl) (And.intro (Or.inl rfl) trivial)))
          · exact absurd c (by omega)
        · replace h := h.2 c
          refine i_aload_n 43 rfl rfl (by decide) ?_
          refine i_iload_n 44 rfl rfl ?_
          refine i_aload_n 45 rfl rfl (by decide) ?_
          refine i_getI (c := 5) (k := 3) 46 rfl fl_294 (by decide) (by decide) ?_
          refine i_callV (c := 5) (y1 := m_X5_isAhead) (z1 := (1, 0, 0)) (z2 := (2, 0, 0)) [(0, l1), (0, (zM1 76 3))] 47 rfl ml_678 ok_X5_isAhead vk_X5_isAhead ⟨by decide, rfl⟩ rfl ⟨rfl, Nat.le_of_ble_eq_true rfl⟩ (Nat.le_of_ble_eq_true rfl) ⟨by decide, rfl, rfl, rfl⟩ ?_
          refine h.mono (fun r zM4 h => ?_)
          obtain ⟨zr5, rfl, h⟩ := h
          simp only [Option.toList_some, Option.toList_none, List.cons_append, List.nil_append]
          refine i_if_eq 90 48 rfl (by decide) (fun c => ?_) (fun c => ?_)
          · replace h := h.1 c
            refine i_iload_n 52 rfl rfl ?_
            refine i_if_gt 104 53 rfl (by decide) (fun c => ?_) (fun c => ?_)
            · exact absurd c (by omega)
            · refine i_aload_n 54 rfl rfl (by decide) ?_
              refine i_dup 55 rfl (Nat.ne_of_beq_eq_false rfl) ?_
              refine i_getI (c := 5) (k := 2) 56 rfl fl_292 (by decide) (by decide) ?_
              refine i_iconst 57 rfl (by decide) ?_
              refine i_iadd 58 rfl ?_
              replace h := h _ rfl
              refine i_putI (c := 5) (k := 2) 59 rfl fl_292 (by decide) ⟨rfl, rfl, rfl⟩ ?_
              replace h := h _ rfl
              refine i_iinc 60 rfl rfl (by decide) rfl ?_
              refine i_goto 12 61 rfl (by decide) ?_
              refine i_weak ?_ h
              exact (And.intro (Or.inr rfl) (And.intro (Or.inr rfl) (And.intro (Or.inl rfl) trivial)))
          · replace h := h.2 c
            refine i_aload_n 49 rfl rfl (by decide) ?_
            refine i_iload_n 50 rfl rfl ?_
            replace h := h _ rfl
            refine i_putI (c := 5) (k := 3) 51 rfl fl_294 (by decide) ⟨rfl, rfl, rfl⟩ ?_
            refine i_iload_n 52 rfl rfl ?_
            refine i_if_gt 104 53 rfl (by decide) (fun c => ?_) (fun c => ?_)
            · exact absurd c (by omega)
            · refine i_aload_n 54 rfl rfl (by decide) ?_
              refine i_dup 55 rfl (Nat.ne_of_beq_eq_false rfl) ?_
              refine i_getI (c := 5) (k := 2) 56 rfl fl_292 (by decide) (by decide) ?_
              refine i_iconst 57 rfl (by decide) ?_
              refine i_iadd 58 rfl ?_
              replace h := h _ rfl
              refine i_putI (c := 5) (k := 2) 59 rfl fl_292 (by decide) ⟨rfl, rfl, rfl⟩ ?_
              replace h := h _ rfl
              refine i_iinc 60 rfl rfl (by decide) rfl ?_
              refine i_goto 12 61 rfl (by decide) ?_
              refine i_weak ?_ h
              exact (And.intro (Or.inr rfl) (And.intro (Or.inr rfl) (And.intro (Or.inl rfl) trivial)))
    · replace h := h.2 c
      refine i_aload_n 36 rfl rfl (by decide) ?_
      refine i_iconst 37 rfl (by decide) ?_
      replace h := h _ rfl
      refine i_putI (c := 5) (k := 2) 38 rfl fl_292 (by decide) ⟨rfl, rfl, rfl⟩ ?_
      refine i_iload_n 39 rfl rfl ?_
      refine i_if_lt 85 40 rfl (by decide) (fun c => ?_) (fun c => ?_)
      · refine i_aload_n 49 rfl rfl (by decide) ?_
        refine i_iload_n 50 rfl rfl ?_
        replace h := h _ rfl
        refine i_putI (c := 5) (k := 3) 51 rfl fl_294 (by decide) ⟨rfl, rfl, rfl⟩ ?_
        refine i_iload_n 52 rfl rfl ?_
        refine i_if_gt 104 53 rfl (by decide) (fun c => ?_) (fun c => ?_)
        · exact absurd c (by omega)
        · refine i_aload_n 54 rfl rfl (by decide) ?_
          refine i_dup 55 rfl (Nat.ne_of_beq_eq_false rfl) ?_
          refine i_getI (c := 5) (k := 2) 56 rfl fl_292 (by decide) (by decide) ?_
          refine i_iconst 57 rfl (by decide) ?_
          refine i_iadd 58 rfl ?_
          replace h := h _ rfl
          refine i_putI (c := 5) (k := 2) 59 rfl fl_292 (by decide) ⟨rfl, rfl, rfl⟩ ?_
          replace h := h _ rfl
          refine i_iinc 60 rfl rfl (by decide) rfl ?_
          refine i_goto 12 61 rfl (by decide) ?_
          refine i_weak ?_ h
          exact (And.intro (Or.inr rfl) (And.intro (Or.inr rfl) (And.intro (Or.inl rfl) trivial)))
      · exact absurd c (by omega)
theorem u_X8_solveWeights_0 {l : Launch} {E : xE} (a1 a2 a3 : Int) {M : xM} {Q : Option xV → xM → Prop} (h : x_Ev l E (1, 0, 0) m_X8_clear 0 [(18, 36), (0, (M a1 2)), (5, 0), (5, 0)] [] M (fun r zM1 => r = none ∧ x_Ev l E (2, 0, 0) m_X1_feels 0 [(11, a1), (1, (zM1 a3 0)), (5, 0), (1, (zM1 a3 1)), (5, 0)] [] zM1 (fun r zM2 => ∃ zr3, r = some (1, zr3) ∧ x_Ev l E (3, 0, 0) m_X8_solveWeights 28 [(18, 36), (11, a1), (0, a2), (12, a3), (1, zr3), (5, 0), (0, 0), (0, 0), (5, 0)] [] zM2 Q))) : x_Ev l E (3, 0, 0) m_X8_solveWeights 0 [(18, 36), (11, a1), (0, a2), (12, a3), (5, 0), (5, 0), (5, 0), (5, 0), (5, 0)] [] M Q := by
  refine i_aload_n 0 rfl rfl (by decide) ?_
  refine i_aload_n 1 rfl rfl (by decide) ?_
  refine i_getI (c := 1) (k := 2) 2 rfl fl_65 (by decide) (by decide) ?_
  refine i_callV (c := 8) (y1 := m_X8_clear) (z1 := (1, 0, 0)) (z2 := (3, 0, 0)) [(0, (M a1 2))] 3 rfl ml_437 ok_X8_clear vk_X8_clear ⟨by decide, rfl⟩ rfl ⟨rfl, Nat.le_of_ble_eq_true rfl⟩ (Nat.le_of_ble_eq_true rfl) ⟨by decide, rfl, rfl, rfl⟩ ?_
  refine h.mono (fun r zM1 h => ?_)
  obtain ⟨rfl, h⟩ := h
  simp only [Option.toList_some, Option.toList_none, List.cons_append, List.nil_append]
  refine i_aload_n 4 rfl rfl (by decide) ?_
  refine i_aload_n 5 rfl rfl (by decide) ?_
  refine i_getL (c := 2) (k := 0) 6 rfl fl_40 (by decide) rfl ?_
  refine i_aload_n 7 rfl rfl (by decide) ?_
  refine i_getL (c := 2) (k := 1) 8 rfl fl_46 (by decide) rfl ?_
  refine i_callV (c := 1) (y1 := m_X1_feels) (z1 := (2, 0, 0)) (z2 := (3, 0, 0)) [(1, (zM1 a3 0)), (1, (zM1 a3 1))] 9 rfl ml_659 ok_X1_feels vk_X1_feels ⟨by decide, rfl⟩ rfl ⟨rfl, Nat.le_of_ble_eq_true rfl⟩ (Nat.le_of_ble_eq_true rfl) ⟨by decide, rfl, rfl, rfl⟩ ?_
  refine h.mono (fun r zM2 h => ?_)
  obtain ⟨zr3, rfl, h⟩ := h
  simp only [Option.toList_some, Option.toList_none, List.cons_append, List.nil_append]
  refine i_lstore 10 rfl (by decide) rfl ?_
  refine i_iconst 11 rfl (by decide) ?_
  refine i_istore 12 rfl (by decide) rfl ?_
  refine i_iconst 13 rfl (by decide) ?_
  refine i_istore 14 rfl (by decide) rfl ?_
  exact h
theorem u_X8_solveWeights_28 {l : Launch} {E : xE} (l1 l2 l3 l4 l6 l7 : Int) {M : xM} {Q : Option xV → xM → Prop} (h : x_Ev l E (1, 0, 0) m_X1_pairs 0 [(11, l1)] [] M (fun r zM1 => ∃ zr2, r = some (0, zr2) ∧ (zr2 ≤ l7 → x_Ev l E (3, 0, 0) m_X8_solveWeights 105 [(18, 36), (11, l1), (0, l2), (12, l3), (1, l4), (5, 0), (0, l6), (0, 0), (5, 0)] [] zM1 Q) ∧ (¬ zr2 ≤ l7 → ((zM1 l1 2) ≤ l6 → x_Ev l E (3, 0, 0) m_X8_solveWeights 105 [(18, 36), (11, l1), (0, l2), (12, l3), (1, l4), (5, 0), (0, l6), (0, 0), (5, 0)] [] zM1 Q) ∧ (¬ (zM1 l1 2) ≤ l6 → ((x_iand (x_ishr l2 l7) 1) = 0 → ∀ zv3 : Int, zv3 = x_w (l7 + 1) → x_Ev l E (3, 0, 0) m_X8_solveWeights 28 [(18, 36), (11, l1), (0, l2), (12, l3), (1, l4), (5, 0), (0, l6), (0, zv3), (5, 0)] [] zM1 Q) ∧ (¬ (x_iand (x_ishr l2 l7) 1) = 0 → x_Ev l E (3, 0, 0) m_X8_solveWeights 58 [(18, 36), (11, l1), (0, l2), (12, l3), (1, l4), (5, 0), (0, l6), (0, l7), (0, 0)] [] zM1 Q))))) : x_Ev l E (3, 0, 0) m_X8_solveWeights 28 [(18, 36), (11, l1), (0, l2), (12, l3), (1, l4), (5, 0), (0, l6), (0, l7), (5, 0)] [] M Q := by
  refine i_iload 15 rfl rfl ?_
  refine i_aload_n 16 rfl rfl (by decide) ?_
  refine i_callV (c := 1) (y1 := m_X1_pairs) (z1 := (1, 0, 0)) (z2 := (3, 0, 0)) [] 17 rfl ml_441 ok_X1_pairs vk_X1_pairs ⟨by decide, rfl⟩ rfl ⟨rfl, Nat.le_of_ble_eq_true rfl⟩ (Nat.le_of_ble_eq_true rfl) ⟨by decide, rfl, rfl, rfl⟩ ?_
  refine h.mono (fun r zM1 h => ?_)
  obtain ⟨zr2, rfl, h⟩ := h
  simp only [Option.toList_some, Option.toList_none, List.cons_append, List.nil_append]
  refine i_icmp_ge 102 18 rfl (by decide) (fun c => ?_) (fun c => ?_)
  · replace h := h.1 c
    refine i_iconst 52 rfl (by decide) ?_
    refine i_istore 53 rfl (by decide) rfl ?_
    exact h
  · replace h := h.2 c
    refine i_iload 19 rfl rfl ?_
    refine i_aload_n 20 rfl rfl (by decide) ?_
    refine i_getI (c := 1) (k := 2) 21 rfl fl_65 (by decide) (by decide) ?_
    refine i_icmp_ge 102 22 rfl (by decide) (fun c => ?_) (fun c => ?_)
    · replace h := h.1 c
      refine i_iconst 52 rfl (by decide) ?_
      refine i_istore 53 rfl (by decide) rfl ?_
      exact h
    · replace h := h.2 c
      refine i_iload_n 23 rfl rfl ?_
      refine i_iload 24 rfl rfl ?_
      refine i_ishr 25 rfl ?_
      refine i_iconst 26 rfl (by decide) ?_
      refine i_iand 27 rfl ?_
      refine i_if_eq 96 28 rfl (by decide) (fun c => ?_) (fun c => ?_)
      · replace h := h.1 c
        replace h := h _ rfl
        refine i_iinc 50 rfl rfl (by decide) rfl ?_
        refine i_goto 28 51 rfl (by decide) ?_
        exact h
      · replace h := h.2 c
        refine i_iconst 29 rfl (by decide) ?_
        refine i_istore 30 rfl (by decide) rfl ?_
        exact h
theorem u_X8_solveWeights_58 {l : Launch} {E : xE} (l1 l2 l3 l4 l6 l7 l8 : Int) {M : xM} {Q : Option xV → xM → Prop} (h : ((M l1 2) ≤ l8 → ∀ zv1 : Int, zv1 = x_w (l6 + 1) → ∀ zv2 : Int, zv2 = x_w (l7 + 1) → x_Ev l E (3, 0, 0) m_X8_solveWeights 28 [(18, 36), (11, l1), (0, l2), (12, l3), (1, l4), (5, 0), (0, zv1), (0, zv2), (5, 0)] [] M Q) ∧ (¬ (M l1 2) ≤ l8 → x_Ev l E (1, 0, 0) m_X8_cellOf 0 [(11, l1), (0, l7), (0, l8)] [] M (fun r zM3 => ∃ zr4, r = some (1, zr4) ∧ (0 ≤ (x_w ((x_w (l8 * 3)) + l6)) ∧ (x_w ((x_w (l8 * 3)) + l6)) < 9) ∧ ∀ zM5 : xM, zM5 = x_wr zM3 37 (x_w ((x_w (l8 * 3)) + l6)) zr4 → ∀ zv6 : Int, zv6 = x_w (l8 + 1) → x_Ev l E (3, 0, 0) m_X8_solveWeights 58 [(18, 36), (11, l1), (0, l2), (12, l3), (1, l4), (5, 0), (0, l6), (0, l7), (0, zv6)] [] zM5 Q))) : x_Ev l E (3, 0, 0) m_X8_solveWeights 58 [(18, 36), (11, l1), (0, l2), (12, l3), (1, l4), (5, 0), (0, l6), (0, l7), (0, l8)] [] M Q := by
  refine i_iload 31 rfl rfl ?_
  refine i_aload_n 32 rfl rfl (by decide) ?_
  refine i_getI (c := 1) (k := 2) 33 rfl fl_65 (by decide) (by decide) ?_
  refine i_icmp_ge 93 34 rfl (by decide) (fun c => ?_) (fun c => ?_)
  · replace h := h.1 c
    replace h := h _ rfl
    refine i_iinc 49 rfl rfl (by decide) rfl ?_
    replace h := h _ rfl
    refine i_iinc 50 rfl rfl (by decide) rfl ?_
    refine i_goto 28 51 rfl (by decide) ?_
    refine i_weak ?_ h
    exact (And.intro (Or.inr rfl) (And.intro (Or.inr rfl) (And.intro (Or.inr rfl) (And.intro (Or.inr rfl) (And.intro (Or.inr rfl) (And.intro (Or.inr rfl) (And.intro (Or.inr rfl) (And.intro (Or.inr rfl) (And.intro (Or.inl rfl) trivial)))))))))
  · replace h := h.2 c
    refine i_aload_n 35 rfl rfl (by decide) ?_
    refine i_getP (c := 8) (k := 0) (t := 104) (b := 37) 36 rfl fl_143 (by decide) rfl (by decide) rfl ?_
    refine i_iload 37 rfl rfl ?_
    refine i_iconst 38 rfl (by decide) ?_
    refine i_imul 39 rfl ?_
    refine i_iload 40 rfl rfl ?_
    refine i_iadd 41 rfl ?_
    refine i_aload_n 42 rfl rfl (by decide) ?_
    refine i_iload 43 rfl rfl ?_
    refine i_iload 44 rfl rfl ?_
    refine i_callS (y1 := m_X8_cellOf) (z1 := (1, 0, 0)) (z2 := (3, 0, 0)) [(11, l1), (0, l7), (0, l8)] 45 rfl ml_442 ok_X8_cellOf vk_X8_cellOf rfl ⟨rfl, Nat.le_of_ble_eq_true rfl⟩ (Nat.le_of_ble_eq_true rfl) ⟨by decide, rfl, rfl, rfl⟩ ?_
    refine h.mono (fun r zM3 h => ?_)
    obtain ⟨zr4, rfl, h⟩ := h
    simp only [Option.toList_some, Option.toList_none, List.cons_append, List.nil_append]
    have hb := h.1
    replace h := h.2 _ rfl
    refine i_last (τ := 4) 46 rfl ⟨rfl, rfl, rfl, by decide⟩ hb.1 hb.2 ?_
    replace h := h _ rfl
    refine i_iinc 47 rfl rfl (by decide) rfl ?_
    refine i_goto 58 48 rfl (by decide) ?_
    exact h
theorem u_X8_solveWeights_105 {l : Launch} {E : xE} (l1 l2 l3 l4 l6 l7 : Int) {M : xM} {Q : Option xV → xM → Prop} (h : ((M l1 2) ≤ l7 → x_Ev l E (2, 0, 0) m_X8_solve 0 [(18, 36), (5, 0), (5, 0), (5, 0)] [] M (fun r zM1 => ∃ zr2, r = some (0, zr2) ∧ (zr2 = 0 ∨ zr2 = 1) ∧ Q (some (0, zr2)) zM1)) ∧ (¬ (M l1 2) ≤ l7 → x_Ev l E (1, 0, 0) m_X1_leftAbove 0 [(11, l1), (0, l7), (1, l4), (5, 0), (1, (M l3 1)), (5, 0)] [] M (fun r zM3 => ∃ zr4, r = some (1, zr4) ∧ (0 ≤ l7 ∧ l7 < 3) ∧ ∀ zM5 : xM, zM5 = x_wr zM3 38 l7 zr4 → ∀ zv6 : Int, zv6 = x_w (l7 + 1) → x_Ev l E (3, 0, 0) m_X8_solveWeights 105 [(18, 36), (11, l1), (0, l2), (12, l3), (1, l4), (5, 0), (0, l6), (0, zv6), (5, 0)] [] zM5 Q))) : x_Ev l E (3, 0, 0) m_X8_solveWeights 105 [(18, 36), (11, l1), (0, l2), (12, l3), (1, l4), (5, 0), (0, l6), (0, l7), (5, 0)] [] M Q := by
  refine i_iload 54 rfl rfl ?_
  refine i_aload_n 55 rfl rfl (by decide) ?_
  refine i_getI (c := 1) (k := 2) 56 rfl fl_65 (by decide) (by decide) ?_
  refine i_icmp_ge 139 57 rfl (by decide) (fun c => ?_) (fun c => ?_)
  · replace h := h.1 c
    refine i_aload_n 70 rfl rfl (by decide) ?_
    refine i_callV (c := 8) (y1 := m_X8_solve) (z1 := (2, 0, 0)) (z2 := (3, 0, 0)) [] 71 rfl ml_445 ok_X8_solve vk_X8_solve ⟨by decide, rfl⟩ rfl ⟨rfl, Nat.le_of_ble_eq_true rfl⟩ (Nat.le_of_ble_eq_true rfl) ⟨by decide, rfl, rfl, rfl⟩ ?_
    refine h.mono (fun r zM1 h => ?_)
    obtain ⟨zr2, rfl, h⟩ := h
    simp only [Option.toList_some, Option.toList_none, List.cons_append, List.nil_append]
    exact i_zreturn 72 rfl rfl h.1 h.2
  · replace h := h.2 c
    refine i_aload_n 58 rfl rfl (by decide) ?_
    refine i_getP (c := 8) (k := 1) (t := 105) (b := 38) 59 rfl fl_144 (by decide) rfl (by decide) rfl ?_
    refine i_iload 60 rfl rfl ?_
    refine i_aload_n 61 rfl rfl (by decide) ?_
    refine i_iload 62 rfl rfl ?_
    refine i_lload 63 rfl rfl ?_
    refine i_aload_n 64 rfl rfl (by decide) ?_
    refine i_getL (c := 2) (k := 1) 65 rfl fl_46 (by decide) rfl ?_
    refine i_callV (c := 1) (y1 := m_X1_leftAbove) (z1 := (1, 0, 0)) (z2 := (3, 0, 0)) [(0, l7), (1, l4), (1, (M l3 1))] 66 rfl ml_660 ok_X1_leftAbove vk_X1_leftAbove ⟨by decide, rfl⟩ rfl ⟨rfl, Nat.le_of_ble_eq_true rfl⟩ (Nat.le_of_ble_eq_true rfl) ⟨by decide, rfl, rfl, rfl⟩ ?_
    refine h.mono (fun r zM3 h => ?_)
    obtain ⟨zr4, rfl, h⟩ := h
    simp only [Option.toList_some, Option.toList_none, List.cons_append, List.nil_append]
    have hb := h.1
    replace h := h.2 _ rfl
    refine i_last (τ := 5) 67 rfl ⟨rfl, rfl, rfl, by decide⟩ hb.1 hb.2 ?_
    replace h := h _ rfl
    refine i_iinc 68 rfl rfl (by decide) rfl ?_
    refine i_goto 105 69 rfl (by decide) ?_
    exact h
theorem u_X5_tightPairs_0 {l : Launch} {E : xE} (a1 a2 : Int) {M : xM} {Q : Option xV → xM → Prop} (h : x_Ev l E (1, 0, 0) m_X1_pairs 0 [(11, a1)] [] M (fun r zM1 => ∃ zr2, r = some (0, zr2) ∧ ∀ zv3 : Int, zv3 = (x_iand (x_w ((x_ishl 1 zr2) - 1)) (x_ixor a2 (-1))) → x_Ev l E (2, 0, 0) m_X5_tightPairs 19 [(15, 76), (11, a1), (0, a2), (0, zv3), (0, 0), (0, 0), (5, 0), (5, 0)] [] zM1 Q)) : x_Ev l E (2, 0, 0) m_X5_tightPairs 0 [(15, 76), (11, a1), (0, a2), (5, 0), (5, 0), (5, 0), (5, 0), (5, 0)] [] M Q := by
  refine i_iconst 0 rfl (by decide) ?_
  refine i_aload_n 1 rfl rfl (by decide) ?_
  refine i_callV (c := 1) (y1 := m_X1_pairs) (z1 := (1, 0, 0)) (z2 := (2, 0, 0)) [] 2 rfl ml_653 ok_X1_pairs vk_X1_pairs ⟨by decide, rfl⟩ rfl ⟨rfl, Nat.le_of_ble_eq_true rfl⟩ (Nat.le_of_ble_eq_true rfl) ⟨by decide, rfl, rfl, rfl⟩ ?_
  refine h.mono (fun r zM1 h => ?_)
  obtain ⟨zr2, rfl, h⟩ := h
  simp only [Option.toList_some, Option.toList_none, List.cons_append, List.nil_append]
  refine i_ishl 3 rfl ?_
  refine i_iconst 4 rfl (by decide) ?_
  refine i_isub 5 rfl ?_
  refine i_iload_n 6 rfl rfl ?_
  refine i_iconst 7 rfl (by decide) ?_
  refine i_ixor 8 rfl ?_
  refine i_iand 9 rfl ?_
  replace h := h _ rfl
  refine i_istore_n 10 rfl (by decide) rfl ?_
  refine i_iconst 11 rfl (by decide) ?_
  refine i_istore 12 rfl (by decide) rfl ?_
  refine i_iconst 13 rfl (by decide) ?_
  refine i_istore 14 rfl (by decide) rfl ?_
  exact h
theorem u_X5_tightPairs_19 {l : Launch} {E : xE} (l1 l2 l3 l4 l5 : Int) {M : xM} {Q : Option xV → xM → Prop} (h : x_Ev l E (1, 0, 0) m_X1_pairs 0 [(11, l1)] [] M (fun r zM1 => ∃ zr2, r = some (0, zr2) ∧ (zr2 ≤ l5 → Q (some (0, l3)) zM1) ∧ (¬ zr2 ≤ l5 → (3 ≤ l4 → Q (some (0, l3)) zM1) ∧ (¬ 3 ≤ l4 → ((x_iand (x_ishr l2 l5) 1) = 0 → ∀ zv3 : Int, zv3 = x_w (l5 + 1) → x_Ev l E (2, 0, 0) m_X5_tightPairs 19 [(15, 76), (11, l1), (0, l2), (0, l3), (0, l4), (0, zv3), (5, 0), (5, 0)] [] zM1 Q) ∧ (¬ (x_iand (x_ishr l2 l5) 1) = 0 → ((0 : Int) ≤ l4 ∧ (l4 : Int) < 3) ∧ ∀ zv4 : Int, zv4 = (zM1 39 l4) → ((zM1 l1 3) ≤ l5 → (zv4 ≤ 0 → (¬ zv4 = 0 → ∀ zv5 : Int, zv5 = (x_ior l3 0) → ∀ zv6 : Int, zv6 = x_w (l4 + 1) → ∀ zv7 : Int, zv7 = x_w (l5 + 1) → x_Ev l E (2, 0, 0) m_X5_tightPairs 19 [(15, 76), (11, l1), (0, l2), (0, zv5), (0, zv6), (0, zv7), (5, 0), (5, 0)] [] zM1 Q) ∧ (zv4 = 0 → ∀ zv8 : Int, zv8 = (x_ior l3 (x_ishl 1 l5)) → ∀ zv9 : Int, zv9 = x_w (l4 + 1) → ∀ zv10 : Int, zv10 = x_w (l5 + 1) → x_Ev l E (2, 0, 0) m_X5_tightPairs 19 [(15, 76), (11, l1), (0, l2), (0, zv8), (0, zv9), (0, zv10), (5, 0), (5, 0)] [] zM1 Q)) ∧ (¬ zv4 ≤ 0 → Q (some (0, (-1))) zM1)) ∧ (¬ (zM1 l1 3) ≤ l5 → (0 ≤ zv4 → (¬ zv4 = 0 → ∀ zv11 : Int, zv11 = (x_ior l3 0) → ∀ zv12 : Int, zv12 = x_w (l4 + 1) → ∀ zv13 : Int, zv13 = x_w (l5 + 1) → x_Ev l E (2, 0, 0) m_X5_tightPairs 19 [(15, 76), (11, l1), (0, l2), (0, zv11), (0, zv12), (0, zv13), (5, 0), (5, 0)] [] zM1 Q) ∧ (zv4 = 0 → ∀ zv14 : Int, zv14 = (x_ior l3 (x_ishl 1 l5)) → ∀ zv15 : Int, zv15 = x_w (l4 + 1) → ∀ zv16 : Int, zv16 = x_w (l5 + 1) → x_Ev l E (2, 0, 0) m_X5_tightPairs 19 [(15, 76), (11, l1), (0, l2), (0, zv14), (0, zv15), (0, zv16), (5, 0), (5, 0)] [] zM1 Q)) ∧ (¬ 0 ≤ zv4 → Q (some (0, (-1))) zM1))))))) : x_Ev l E (2, 0, 0) m_X5_tightPairs 19 [(15, 76), (11, l1), (0, l2), (0, l3), (0, l4), (0, l5), (5, 0), (5, 0)] [] M Q := by
  refine i_iload 15 rfl rfl ?_
  refine i_aload_n 16 rfl rfl (by decide) ?_
  refine i_callV (c := 1) (y1 := m_X1_pairs) (z1 := (1, 0, 0)) (z2 := (2, 0, 0)) [] 17 rfl ml_653 ok_X1_pairs vk_X1_pairs ⟨by decide, rfl⟩ rfl ⟨rfl, Nat.le_of_ble_eq_true rfl⟩ (Nat.le_of_ble_eq_true rfl) ⟨by decide, rfl, rfl, rfl⟩ ?_
  refine h.mono (fun r zM1 h => ?_)
  obtain ⟨zr2, rfl, h⟩ := h
  simp only [Option.toList_some, Option.toList_none, List.cons_append, List.nil_append]
  refine i_icmp_ge 110 18 rfl (by decide) (fun c => ?_) (fun c => ?_)
  · replace h := h.1 c
    refine i_iload_n 64 rfl rfl ?_
    exact i_ireturn 65 rfl rfl h
  · replace h := h.2 c
    refine i_iload 19 rfl rfl ?_
    refine i_iconst 20 rfl (by decide) ?_
    refine i_icmp_ge 110 21 rfl (by decide) (fun c => ?_) (fun c => ?_)
    · replace h := h.1 c
      refine i_iload_n 64 rfl rfl ?_
      exact i_ireturn 65 rfl rfl h
    · replace h := h.2 c
      refine i_iload_n 22 rfl rfl ?_
      refine i_iload 23 rfl rfl ?_
      refine i_ishr 24 rfl ?_
      refine i_iconst 25 rfl (by decide) ?_
      refine i_iand 26 rfl ?_
      refine i_if_eq 104 27 rfl (by decide) (fun c => ?_) (fun c => ?_)
      · replace h := h.1 c
        replace h := h _ rfl
        refine i_iinc 62 rfl rfl (by decide) rfl ?_
        refine i_goto 19 63 rfl (by decide) ?_
        exact h
      · replace h := h.2 c
        refine i_aload_n 28 rfl rfl (by decide) ?_
        refine i_getP (c := 5) (k := 0) (t := 18) (b := 36) 29 rfl fl_289 (by decide) rfl (by decide) rfl ?_
        refine i_getP (c := 8) (k := 2) (t := 105) (b := 39) 30 rfl fl_146 (by decide) rfl (by decide) rfl ?_
        refine i_iload 31 rfl rfl ?_
        refine i_lald (τ := 5) 32 rfl ⟨rfl, rfl, rfl, by decide⟩ h.1.1 h.1.2 ?_
        replace h := h.2
        replace h := h _ rfl
        refine i_lstore 33 rfl (by decide) rfl ?_
        refine i_iload 34 rfl rfl ?_
        refine i_aload_n 35 rfl rfl (by decide) ?_
        refine i_getI (c := 1) (k := 3) 36 rfl fl_73 (by decide) (by decide) ?_
        refine i_icmp_ge 74 37 rfl (by decide) (fun c => ?_) (fun c => ?_)
        · replace h := h.1 c
          refine i_lload 43 rfl rfl ?_
          refine i_lconst (w := 0) 44 rfl (by decide) ?_
          refine i_lcmp_le 83 45 rfl rfl (by decide) (fun c => ?_) (fun c => ?_)
          · replace h := h.1 c
            refine i_iload_n 49 rfl rfl ?_
            refine i_lload 50 rfl rfl ?_
            refine i_lconst (w := 0) 51 rfl (by decide) ?_
            refine i_lcmp_ne 98 52 rfl rfl (by decide) (fun c => ?_) (fun c => ?_)
            · replace h := h.1 c
              refine i_iconst 58 rfl (by decide) ?_
              refine i_ior 59 rfl ?_
              replace h := h _ rfl
              refine i_istore_n 60 rfl (by decide) rfl ?_
              replace h := h _ rfl
              refine i_iinc 61 rfl rfl (by decide) rfl ?_
              replace h := h _ rfl
              refine i_iinc 62 rfl rfl (by decide) rfl ?_
              refine i_goto 19 63 rfl (by decide) ?_
              refine i_weak ?_ h
              exact (And.intro (Or.inr rfl) (And.intro (Or.inr rfl) (And.intro (Or.inr rfl) (And.intro (Or.inr rfl) (And.intro (Or.inr rfl) (And.intro (Or.inr rfl) (And.intro (Or.inl rfl) (And.intro (Or.inr rfl) trivial))))))))
            · replace h := h.2 c
              refine i_iconst 54 rfl (by decide) ?_
              refine i_iload 55 rfl rfl ?_
              refine i_ishl 56 rfl ?_
              refine i_goto 99 57 rfl (by decide) ?_
              refine i_ior 59 rfl ?_
              replace h := h _ rfl
              refine i_istore_n 60 rfl (by decide) rfl ?_
              replace h := h _ rfl
              refine i_iinc 61 rfl rfl (by decide) rfl ?_
              replace h := h _ rfl
              refine i_iinc 62 rfl rfl (by decide) rfl ?_
              refine i_goto 19 63 rfl (by decide) ?_
              refine i_weak ?_ h
              exact (And.intro (Or.inr rfl) (And.intro (Or.inr rfl) (And.intro (Or.inr rfl) (And.intro (Or.inr rfl) (And.intro (Or.inr rfl) (And.intro (Or.inr rfl) (And.intro (Or.inl rfl) (And.intro (Or.inr rfl) trivial))))))))
          · replace h := h.2 c
            refine i_iconst 47 rfl (by decide) ?_
            exact i_ireturn 48 rfl rfl h
        · replace h := h.2 c
          refine i_lload 38 rfl rfl ?_
          refine i_lconst (w := 0) 39 rfl (by decide) ?_
          refine i_lcmp_ge 83 40 rfl rfl (by decide) (fun c => ?_) (fun c => ?_)
          · replace h := h.1 c
            refine i_iload_n 49 rfl rfl ?_
            refine i_lload 50 rfl rfl ?_
            refine i_lconst (w := 0) 51 rfl (by decide) ?_
            refine i_lcmp_ne 98 52 rfl rfl (by decide) (fun c => ?_) (fun c => ?_)
            · replace h := h.1 c
              refine i_iconst 58 rfl (by decide) ?_
              refine i_ior 59 rfl ?_
              replace h := h _ rfl
              refine i_istore_n 60 rfl (by decide) rfl ?_
              replace h := h _ rfl
              refine i_iinc 61 rfl rfl (by decide) rfl ?_
              replace h := h _ rfl
              refine i_iinc 62 rfl rfl (by decide) rfl ?_
              refine i_goto 19 63 rfl (by decide) ?_
              refine i_weak ?_ h
              exact (And.intro (Or.inr rfl) (And.intro (Or.inr rfl) (And.intro (Or.inr rfl) (And.intro (Or.inr rfl) (And.intro (Or.inr rfl) (And.intro (Or.inr rfl) (And.intro (Or.inl rfl) (And.intro (Or.inr rfl) trivial))))))))
            · replace h := h.2 c
              refine i_iconst 54 rfl (by decide) ?_
              refine i_iload 55 rfl rfl ?_
              refine i_ishl 56 rfl ?_
              refine i_goto 99 57 rfl (by decide) ?_
              refine i_ior 59 rfl ?_
              replace h := h _ rfl
              refine i_istore_n 60 rfl (by decide) rfl ?_
              replace h := h _ rfl
              refine i_iinc 61 rfl rfl (by decide) rfl ?_
              replace h := h _ rfl
              refine i_iinc 62 rfl rfl (by decide) rfl ?_
              refine i_goto 19 63 rfl (by decide) ?_
              refine i_weak ?_ h
              exact (And.intro (Or.inr rfl) (And.intro (Or.inr rfl) (And.intro (Or.inr rfl) (And.intro (Or.inr rfl) (And.intro (Or.inr rfl) (And.intro (Or.inr rfl) (And.intro (Or.inl rfl) (And.intro (Or.inr rfl) trivial))))))))
          · replace h := h.2 c
            refine i_goto 81 42 rfl (by decide) ?_
            refine i_iconst 47 rfl (by decide) ?_
            exact i_ireturn 48 rfl rfl h
theorem u_X5_insert_0 {l : Launch} {E : xE} (a1 a2 a3 : Int) {M : xM} {Q : Option xV → xM → Prop} (h : ((M 76 1) < 35 → (0 ≤ (M 76 1) ∧ (M 76 1) < 35) ∧ ∀ zM1 : xM, zM1 = x_wr M 80 (M 76 1) 0 → x_Ev l E (1, 0, 0) m_X5_insert 26 [(15, 76), (11, a1), (0, a2), (0, a3), (0, 0), (0, 0), (5, 0), (5, 0)] [] zM1 Q) ∧ (¬ (M 76 1) < 35 → Q none M)) : x_Ev l E (1, 0, 0) m_X5_insert 0 [(15, 76), (11, a1), (0, a2), (0, a3), (5, 0), (5, 0), (5, 0), (5, 0)] [] M Q := by
  refine i_aload_n 0 rfl rfl (by decide) ?_
  refine i_getI (c := 5) (k := 1) 1 rfl fl_290 (by decide) (by decide) ?_
  refine i_bipush 2 rfl (by decide) ?_
  refine i_icmp_lt 10 3 rfl (by decide) (fun c => ?_) (fun c => ?_)
  · replace h := h.1 c
    refine i_iconst 5 rfl (by decide) ?_
    refine i_istore 6 rfl (by decide) rfl ?_
    refine i_aload_n 7 rfl rfl (by decide) ?_
    refine i_getP (c := 5) (k := 8) (t := 112) (b := 80) 8 rfl fl_300 (by decide) rfl (by decide) rfl ?_
    refine i_aload_n 9 rfl rfl (by decide) ?_
    refine i_getI (c := 5) (k := 1) 10 rfl fl_290 (by decide) (by decide) ?_
    refine i_lconst (w := 0) 11 rfl (by decide) ?_
    have hb := h.1
    replace h := h.2 _ rfl
    refine i_last (τ := 12) 12 rfl ⟨rfl, rfl, rfl, by decide⟩ hb.1 hb.2 ?_
    refine i_iconst 13 rfl (by decide) ?_
    refine i_istore 14 rfl (by decide) rfl ?_
    exact h
  · replace h := h.2 c
    exact i_return 4 rfl rfl h
theorem u_X5_insert_26 {l : Launch} {E : xE} (l1 l2 l3 l4 l5 : Int) {M : xM} {Q : Option xV → xM → Prop} (h : (4 ≤ l5 → (0 ≤ (M 76 1) ∧ (M 76 1) < 35) ∧ ∀ zM1 : xM, zM1 = x_wr M 78 (M 76 1) (M 36 3) → (0 ≤ (zM1 76 1) ∧ (zM1 76 1) < 35) ∧ ∀ zM2 : xM, zM2 = x_wr zM1 79 (zM1 76 1) l3 → ∀ zM3 : xM, zM3 = x_wr zM2 76 1 (x_w ((zM2 76 1) + 1)) → Q none zM3) ∧ (¬ 4 ≤ l5 → ((M l1 3) ≤ l5 → (0 ≤ (x_w ((x_w ((M 76 1) * 4)) + l5)) ∧ (x_w ((x_w ((M 76 1) * 4)) + l5)) < 140) ∧ ∀ zM4 : xM, zM4 = x_wr M 77 (x_w ((x_w ((M 76 1) * 4)) + l5)) 0 → ((0 : Int) ≤ (zM4 76 1) ∧ ((zM4 76 1) : Int) < 35) ∧ ((0 : Int) ≤ l5 ∧ (l5 : Int) < 4) ∧ (0 ≤ (zM4 76 1) ∧ (zM4 76 1) < 35) ∧ ∀ zM5 : xM, zM5 = x_wr zM4 80 (zM4 76 1) (x_W ((zM4 80 (zM4 76 1)) + (x_W (0 * (zM4 (l1 + 3) l5))))) → ∀ zv6 : Int, zv6 = x_w (l5 + 1) → x_Ev l E (1, 0, 0) m_X5_insert 26 [(15, 76), (11, l1), (0, l2), (0, l3), (0, l4), (0, zv6), (5, 0), (5, 0)] [] zM5 Q) ∧ (¬ (M l1 3) ≤ l5 → ((x_iand (x_ishr l2 l5) 1) = 0 → (0 ≤ (x_w ((x_w ((M 76 1) * 4)) + l5)) ∧ (x_w ((x_w ((M 76 1) * 4)) + l5)) < 140) ∧ ∀ zM7 : xM, zM7 = x_wr M 77 (x_w ((x_w ((M 76 1) * 4)) + l5)) 0 → ((0 : Int) ≤ (zM7 76 1) ∧ ((zM7 76 1) : Int) < 35) ∧ ((0 : Int) ≤ l5 ∧ (l5 : Int) < 4) ∧ (0 ≤ (zM7 76 1) ∧ (zM7 76 1) < 35) ∧ ∀ zM8 : xM, zM8 = x_wr zM7 80 (zM7 76 1) (x_W ((zM7 80 (zM7 76 1)) + (x_W (0 * (zM7 (l1 + 3) l5))))) → ∀ zv9 : Int, zv9 = x_w (l5 + 1) → x_Ev l E (1, 0, 0) m_X5_insert 26 [(15, 76), (11, l1), (0, l2), (0, l3), (0, l4), (0, zv9), (5, 0), (5, 0)] [] zM8 Q) ∧ (¬ (x_iand (x_ishr l2 l5) 1) = 0 → (3 ≤ l4 → (0 ≤ (x_w ((x_w ((M 76 1) * 4)) + l5)) ∧ (x_w ((x_w ((M 76 1) * 4)) + l5)) < 140) ∧ ∀ zM10 : xM, zM10 = x_wr M 77 (x_w ((x_w ((M 76 1) * 4)) + l5)) 0 → ((0 : Int) ≤ (zM10 76 1) ∧ ((zM10 76 1) : Int) < 35) ∧ ((0 : Int) ≤ l5 ∧ (l5 : Int) < 4) ∧ (0 ≤ (zM10 76 1) ∧ (zM10 76 1) < 35) ∧ ∀ zM11 : xM, zM11 = x_wr zM10 80 (zM10 76 1) (x_W ((zM10 80 (zM10 76 1)) + (x_W (0 * (zM10 (l1 + 3) l5))))) → ∀ zv12 : Int, zv12 = x_w (l5 + 1) → x_Ev l E (1, 0, 0) m_X5_insert 26 [(15, 76), (11, l1), (0, l2), (0, l3), (0, l4), (0, zv12), (5, 0), (5, 0)] [] zM11 Q) ∧ (¬ 3 ≤ l4 → ((0 : Int) ≤ l4 ∧ (l4 : Int) < 3) ∧ ∀ zv13 : Int, zv13 = (M 39 l4) → ∀ zv14 : Int, zv14 = x_w (l4 + 1) → (0 ≤ (x_w ((x_w ((M 76 1) * 4)) + l5)) ∧ (x_w ((x_w ((M 76 1) * 4)) + l5)) < 140) ∧ ∀ zM15 : xM, zM15 = x_wr M 77 (x_w ((x_w ((M 76 1) * 4)) + l5)) zv13 → ((0 : Int) ≤ (zM15 76 1) ∧ ((zM15 76 1) : Int) < 35) ∧ ((0 : Int) ≤ l5 ∧ (l5 : Int) < 4) ∧ (0 ≤ (zM15 76 1) ∧ (zM15 76 1) < 35) ∧ ∀ zM16 : xM, zM16 = x_wr zM15 80 (zM15 76 1) (x_W ((zM15 80 (zM15 76 1)) + (x_W (zv13 * (zM15 (l1 + 3) l5))))) → ∀ zv17 : Int, zv17 = x_w (l5 + 1) → x_Ev l E (1, 0, 0) m_X5_insert 26 [(15, 76), (11, l1), (0, l2), (0, l3), (0, zv14), (0, zv17), (5, 0), (5, 0)] [] zM16 Q))))) : x_Ev l E (1, 0, 0) m_X5_insert 26 [(15, 76), (11, l1), (0, l2), (0, l3), (0, l4), (0, l5), (5, 0), (5, 0)] [] M Q := by
  refine i_iload 15 rfl rfl ?_
  refine i_iconst 16 rfl (by decide) ?_
  refine i_icmp_ge 119 17 rfl (by decide) (fun c => ?_) (fun c => ?_)
  · replace h := h.1 c
    refine i_aload_n 67 rfl rfl (by decide) ?_
    refine i_getP (c := 5) (k := 6) (t := 112) (b := 78) 68 rfl fl_297 (by decide) rfl (by decide) rfl ?_
    refine i_aload_n 69 rfl rfl (by decide) ?_
    refine i_getI (c := 5) (k := 1) 70 rfl fl_290 (by decide) (by decide) ?_
    refine i_aload_n 71 rfl rfl (by decide) ?_
    refine i_getP (c := 5) (k := 0) (t := 18) (b := 36) 72 rfl fl_289 (by decide) rfl (by decide) rfl ?_
    refine i_getL (c := 8) (k := 3) 73 rfl fl_149 (by decide) rfl ?_
    have hb := h.1
    replace h := h.2 _ rfl
    refine i_last (τ := 12) 74 rfl ⟨rfl, rfl, rfl, by decide⟩ hb.1 hb.2 ?_
    refine i_aload_n 75 rfl rfl (by decide) ?_
    refine i_getP (c := 5) (k := 7) (t := 113) (b := 79) 76 rfl fl_298 (by decide) rfl (by decide) rfl ?_
    refine i_aload_n 77 rfl rfl (by decide) ?_
    refine i_getI (c := 5) (k := 1) 78 rfl fl_290 (by decide) (by decide) ?_
    refine i_iload_n 79 rfl rfl ?_
    have hb := h.1
    replace h := h.2 _ rfl
    refine i_iast (τ := 13) 80 rfl ⟨rfl, rfl, rfl, by decide⟩ hb.1 hb.2 ?_
    refine i_aload_n 81 rfl rfl (by decide) ?_
    refine i_dup 82 rfl (Nat.ne_of_beq_eq_false rfl) ?_
    refine i_getI (c := 5) (k := 1) 83 rfl fl_290 (by decide) (by decide) ?_
    refine i_iconst 84 rfl (by decide) ?_
    refine i_iadd 85 rfl ?_
    replace h := h _ rfl
    refine i_putI (c := 5) (k := 1) 86 rfl fl_290 (by decide) ⟨rfl, rfl, rfl⟩ ?_
    exact i_return 87 rfl rfl h
  · replace h := h.2 c
    refine i_lconst (w := 0) 18 rfl (by decide) ?_
    refine i_lstore 19 rfl (by decide) rfl ?_
    refine i_iload 20 rfl rfl ?_
    refine i_aload_n 21 rfl rfl (by decide) ?_
    refine i_getI (c := 1) (k := 3) 22 rfl fl_73 (by decide) (by decide) ?_
    refine i_icmp_ge 74 23 rfl (by decide) (fun c => ?_) (fun c => ?_)
    · replace h := h.1 c
      refine i_aload_n 40 rfl rfl (by decide) ?_
      refine i_getP (c := 5) (k := 5) (t := 111) (b := 77) 41 rfl fl_296 (by decide) rfl (by decide) rfl ?_
      refine i_aload_n 42 rfl rfl (by decide) ?_
      refine i_getI (c := 5) (k := 1) 43 rfl fl_290 (by decide) (by decide) ?_
      refine i_iconst 44 rfl (by decide) ?_
      refine i_imul 45 rfl ?_
      refine i_iload 46 rfl rfl ?_
      refine i_iadd 47 rfl ?_
      refine i_lload 48 rfl rfl ?_
      have hb := h.1
      replace h := h.2 _ rfl
      refine i_last (τ := 11) 49 rfl ⟨rfl, rfl, rfl, by decide⟩ hb.1 hb.2 ?_
      refine i_aload_n 50 rfl rfl (by decide) ?_
      refine i_getP (c := 5) (k := 8) (t := 112) (b := 80) 51 rfl fl_300 (by decide) rfl (by decide) rfl ?_
      refine i_aload_n 52 rfl rfl (by decide) ?_
      refine i_getI (c := 5) (k := 1) 53 rfl fl_290 (by decide) (by decide) ?_
      refine i_dup2 54 rfl ⟨Nat.ne_of_beq_eq_false rfl, Nat.ne_of_beq_eq_false rfl⟩ ?_
      refine i_lald (τ := 12) 55 rfl ⟨rfl, rfl, rfl, by decide⟩ h.1.1 h.1.2 ?_
      replace h := h.2
      refine i_lload 56 rfl rfl ?_
      refine i_aload_n 57 rfl rfl (by decide) ?_
      refine i_getP (c := 1) (k := 6) (t := 103) (b := (l1 + 3)) 58 rfl fl_85 (by decide) rfl (by decide) rfl ?_
      refine i_iload 59 rfl rfl ?_
      refine i_iald (τ := 3) 60 rfl ⟨rfl, rfl, rfl, by decide⟩ h.1.1 h.1.2 ?_
      replace h := h.2
      refine i_i2l 61 rfl ?_
      refine i_lmul 62 rfl ?_
      refine i_ladd 63 rfl ?_
      have hb := h.1
      replace h := h.2 _ rfl
      refine i_last (τ := 12) 64 rfl ⟨rfl, rfl, rfl, by decide⟩ hb.1 hb.2 ?_
      replace h := h _ rfl
      refine i_iinc 65 rfl rfl (by decide) rfl ?_
      refine i_goto 26 66 rfl (by decide) ?_
      refine i_weak ?_ h
      exact (And.intro (Or.inr rfl) (And.intro (Or.inr rfl) (And.intro (Or.inr rfl) (And.intro (Or.inr rfl) (And.intro (Or.inr rfl) (And.intro (Or.inr rfl) (And.intro (Or.inl rfl) (And.intro (Or.inr rfl) trivial))))))))
    · replace h := h.2 c
      refine i_iload_n 24 rfl rfl ?_
      refine i_iload 25 rfl rfl ?_
      refine i_ishr 26 rfl ?_
      refine i_iconst 27 rfl (by decide) ?_
      refine i_iand 28 rfl ?_
      refine i_if_eq 74 29 rfl (by decide) (fun c => ?_) (fun c => ?_)
      · replace h := h.1 c
        refine i_aload_n 40 rfl rfl (by decide) ?_
        refine i_getP (c := 5) (k := 5) (t := 111) (b := 77) 41 rfl fl_296 (by decide) rfl (by decide) rfl ?_
        refine i_aload_n 42 rfl rfl (by decide) ?_
        refine i_getI (c := 5) (k := 1) 43 rfl fl_290 (by decide) (by decide) ?_
        refine i_iconst 44 rfl (by decide) ?_
        refine i_imul 45 rfl ?_
        refine i_iload 46 rfl rfl ?_
        refine i_iadd 47 rfl ?_
        refine i_lload 48 rfl rfl ?_
        have hb := h.1
        replace h := h.2 _ rfl
        refine i_last (τ := 11) 49 rfl ⟨rfl, rfl, rfl, by decide⟩ hb.1 hb.2 ?_
        refine i_aload_n 50 rfl rfl (by decide) ?_
        refine i_getP (c := 5) (k := 8) (t := 112) (b := 80) 51 rfl fl_300 (by decide) rfl (by decide) rfl ?_
        refine i_aload_n 52 rfl rfl (by decide) ?_
        refine i_getI (c := 5) (k := 1) 53 rfl fl_290 (by decide) (by decide) ?_
        refine i_dup2 54 rfl ⟨Nat.ne_of_beq_eq_false rfl, Nat.ne_of_beq_eq_false rfl⟩ ?_
        refine i_lald (τ := 12) 55 rfl ⟨rfl, rfl, rfl, by decide⟩ h.1.1 h.1.2 ?_
        replace h := h.2
        refine i_lload 56 rfl rfl ?_
        refine i_aload_n 57 rfl rfl (by decide) ?_
        refine i_getP (c := 1) (k := 6) (t := 103) (b := (l1 + 3)) 58 rfl fl_85 (by decide) rfl (by decide) rfl ?_
        refine i_iload 59 rfl rfl ?_
        refine i_iald (τ := 3) 60 rfl ⟨rfl, rfl, rfl, by decide⟩ h.1.1 h.1.2 ?_
        replace h := h.2
        refine i_i2l 61 rfl ?_
        refine i_lmul 62 rfl ?_
        refine i_ladd 63 rfl ?_
        have hb := h.1
        replace h := h.2 _ rfl
        refine i_last (τ := 12) 64 rfl ⟨rfl, rfl, rfl, by decide⟩ hb.1 hb.2 ?_
        replace h := h _ rfl
        refine i_iinc 65 rfl rfl (by decide) rfl ?_
        refine i_goto 26 66 rfl (by decide) ?_
        refine i_weak ?_ h
        exact (And.intro (Or.inr rfl) (And.intro (Or.inr rfl) (And.intro (Or.inr rfl) (And.intro (Or.inr rfl) (And.intro (Or.inr rfl) (And.intro (Or.inr rfl) (And.intro (Or.inl rfl) (And.intro (Or.inr rfl) trivial))))))))
      · replace h := h.2 c
        refine i_iload 30 rfl rfl ?_
        refine i_iconst 31 rfl (by decide) ?_
        refine i_icmp_ge 74 32 rfl (by decide) (fun c => ?_) (fun c => ?_)
        · replace h := h.1 c
          refine i_aload_n 40 rfl rfl (by decide) ?_
          refine i_getP (c := 5) (k := 5) (t := 111) (b := 77) 41 rfl fl_296 (by decide) rfl (by decide) rfl ?_
          refine i_aload_n 42 rfl rfl (by decide) ?_
          refine i_getI (c := 5) (k := 1) 43 rfl fl_290 (by decide) (by decide) ?_
          refine i_iconst 44 rfl (by decide) ?_
          refine i_imul 45 rfl ?_
          refine i_iload 46 rfl rfl ?_
          refine i_iadd 47 rfl ?_
          refine i_lload 48 rfl rfl ?_
          have hb := h.1
          replace h := h.2 _ rfl
          refine i_last (τ := 11) 49 rfl ⟨rfl, rfl, rfl, by decide⟩ hb.1 hb.2 ?_
          refine i_aload_n 50 rfl rfl (by decide) ?_
          refine i_getP (c := 5) (k := 8) (t := 112) (b := 80) 51 rfl fl_300 (by decide) rfl (by decide) rfl ?_
          refine i_aload_n 52 rfl rfl (by decide) ?_
          refine i_getI (c := 5) (k := 1) 53 rfl fl_290 (by decide) (by decide) ?_
          refine i_dup2 54 rfl ⟨Nat.ne_of_beq_eq_false rfl, Nat.ne_of_beq_eq_false rfl⟩ ?_
          refine i_lald (τ := 12) 55 rfl ⟨rfl, rfl, rfl, by decide⟩ h.1.1 h.1.2 ?_
          replace h := h.2
          refine i_lload 56 rfl rfl ?_
          refine i_aload_n 57 rfl rfl (by decide) ?_
          refine i_getP (c := 1) (k := 6) (t := 103) (b := (l1 + 3)) 58 rfl fl_85 (by decide) rfl (by decide) rfl ?_
          refine i_iload 59 rfl rfl ?_
          refine i_iald (τ := 3) 60 rfl ⟨rfl, rfl, rfl, by decide⟩ h.1.1 h.1.2 ?_
          replace h := h.2
          refine i_i2l 61 rfl ?_
          refine i_lmul 62 rfl ?_
          refine i_ladd 63 rfl ?_
          have hb := h.1
          replace h := h.2 _ rfl
          refine i_last (τ := 12) 64 rfl ⟨rfl, rfl, rfl, by decide⟩ hb.1 hb.2 ?_
          replace h := h _ rfl
          refine i_iinc 65 rfl rfl (by decide) rfl ?_
          refine i_goto 26 66 rfl (by decide) ?_
          refine i_weak ?_ h
          exact (And.intro (Or.inr rfl) (And.intro (Or.inr rfl) (And.intro (Or.inr rfl) (And.intro (Or.inr rfl) (And.intro (Or.inr rfl) (And.intro (Or.inr rfl) (And.intro (Or.inl rfl) (And.intro (Or.inr rfl) trivial))))))))
        · replace h := h.2 c
          refine i_aload_n 33 rfl rfl (by decide) ?_
          refine i_getP (c := 5) (k := 0) (t := 18) (b := 36) 34 rfl fl_289 (by decide) rfl (by decide) rfl ?_
          refine i_getP (c := 8) (k := 2) (t := 105) (b := 39) 35 rfl fl_146 (by decide) rfl (by decide) rfl ?_
          refine i_iload 36 rfl rfl ?_
          refine i_lald (τ := 5) 37 rfl ⟨rfl, rfl, rfl, by decide⟩ h.1.1 h.1.2 ?_
          replace h := h.2
          replace h := h _ rfl
          refine i_lstore 38 rfl (by decide) rfl ?_
          replace h := h _ rfl
          refine i_iinc 39 rfl rfl (by decide) rfl ?_
          refine i_aload_n 40 rfl rfl (by decide) ?_
          refine i_getP (c := 5) (k := 5) (t := 111) (b := 77) 41 rfl fl_296 (by decide) rfl (by decide) rfl ?_
          refine i_aload_n 42 rfl rfl (by decide) ?_
          refine i_getI (c := 5) (k := 1) 43 rfl fl_290 (by decide) (by decide) ?_
          refine i_iconst 44 rfl (by decide) ?_
          refine i_imul 45 rfl ?_
          refine i_iload 46 rfl rfl ?_
          refine i_iadd 47 rfl ?_
          refine i_lload 48 rfl rfl ?_
          have hb := h.1
          replace h := h.2 _ rfl
          refine i_last (τ := 11) 49 rfl ⟨rfl, rfl, rfl, by decide⟩ hb.1 hb.2 ?_
          refine i_aload_n 50 rfl rfl (by decide) ?_
          refine i_getP (c := 5) (k := 8) (t := 112) (b := 80) 51 rfl fl_300 (by decide) rfl (by decide) rfl ?_
          refine i_aload_n 52 rfl rfl (by decide) ?_
          refine i_getI (c := 5) (k := 1) 53 rfl fl_290 (by decide) (by decide) ?_
          refine i_dup2 54 rfl ⟨Nat.ne_of_beq_eq_false rfl, Nat.ne_of_beq_eq_false rfl⟩ ?_
          refine i_lald (τ := 12) 55 rfl ⟨rfl, rfl, rfl, by decide⟩ h.1.1 h.1.2 ?_
          replace h := h.2
          refine i_lload 56 rfl rfl ?_
          refine i_aload_n 57 rfl rfl (by decide) ?_
          refine i_getP (c := 1) (k := 6) (t := 103) (b := (l1 + 3)) 58 rfl fl_85 (by decide) rfl (by decide) rfl ?_
          refine i_iload 59 rfl rfl ?_
          refine i_iald (τ := 3) 60 rfl ⟨rfl, rfl, rfl, by decide⟩ h.1.1 h.1.2 ?_
          replace h := h.2
          refine i_i2l 61 rfl ?_
          refine i_lmul 62 rfl ?_
          refine i_ladd 63 rfl ?_
          have hb := h.1
          replace h := h.2 _ rfl
          refine i_last (τ := 12) 64 rfl ⟨rfl, rfl, rfl, by decide⟩ hb.1 hb.2 ?_
          replace h := h _ rfl
          refine i_iinc 65 rfl rfl (by decide) rfl ?_
          refine i_goto 26 66 rfl (by decide) ?_
          refine i_weak ?_ h
          exact (And.intro (Or.inr rfl) (And.intro (Or.inr rfl) (And.intro (Or.inr rfl) (And.intro (Or.inr rfl) (And.intro (Or.inr rfl) (And.intro (Or.inr rfl) (And.intro (Or.inl rfl) (And.intro (Or.inr rfl) trivial))))))))
theorem u_X1_times_0 {l : Launch} {E : xE} (a0 : Int) {M : xM} {Q : Option xV → xM → Prop} (h : ((M a0 0) = 3 → Q (some (0, 2)) M) ∧ (¬ (M a0 0) = 3 → (¬ (M a0 0) = 6 → Q (some (0, 1)) M) ∧ ((M a0 0) = 6 → Q (some (0, 2)) M))) : x_Ev l E (1, 0, 0) m_X1_times 0 [(11, a0)] [] M Q := by
  refine i_aload_n 0 rfl rfl (by decide) ?_
  refine i_getI (c := 1) (k := 0) 1 rfl fl_60 (by decide) (by decide) ?_
  refine i_iconst 2 rfl (by decide) ?_
  refine i_icmp_eq 17 3 rfl (by decide) (fun c => ?_) (fun c => ?_)
  · replace h := h.1 c
    refine i_iconst 8 rfl (by decide) ?_
    refine i_goto 22 9 rfl (by decide) ?_
    exact i_ireturn 11 rfl rfl h
  · replace h := h.2 c
    refine i_aload_n 4 rfl rfl (by decide) ?_
    refine i_getI (c := 1) (k := 0) 5 rfl fl_60 (by decide) (by decide) ?_
    refine i_bipush 6 rfl (by decide) ?_
    refine i_icmp_ne 21 7 rfl (by decide) (fun c => ?_) (fun c => ?_)
    · replace h := h.1 c
      refine i_iconst 10 rfl (by decide) ?_
      exact i_ireturn 11 rfl rfl h
    · replace h := h.2 c
      refine i_iconst 8 rfl (by decide) ?_
      refine i_goto 22 9 rfl (by decide) ?_
      exact i_ireturn 11 rfl rfl h
theorem u_X1_extra_0 {l : Launch} {E : xE} (a0 : Int) {M : xM} {Q : Option xV → xM → Prop} (h : ((M a0 0) = 4 → Q (some (0, (M a0 1))) M) ∧ (¬ (M a0 0) = 4 → (¬ (M a0 0) = 6 → Q (some (0, 0)) M) ∧ ((M a0 0) = 6 → Q (some (0, (M a0 1))) M))) : x_Ev l E (1, 0, 0) m_X1_extra 0 [(11, a0)] [] M Q := by
  refine i_aload_n 0 rfl rfl (by decide) ?_
  refine i_getI (c := 1) (k := 0) 1 rfl fl_60 (by decide) (by decide) ?_
  refine i_iconst 2 rfl (by decide) ?_
  refine i_icmp_eq 17 3 rfl (by decide) (fun c => ?_) (fun c => ?_)
  · replace h := h.1 c
    refine i_aload_n 8 rfl rfl (by decide) ?_
    refine i_getI (c := 1) (k := 1) 9 rfl fl_63 (by decide) (by decide) ?_
    refine i_goto 25 10 rfl (by decide) ?_
    exact i_ireturn 12 rfl rfl h
  · replace h := h.2 c
    refine i_aload_n 4 rfl rfl (by decide) ?_
    refine i_getI (c := 1) (k := 0) 5 rfl fl_60 (by decide) (by decide) ?_
    refine i_bipush 6 rfl (by decide) ?_
    refine i_icmp_ne 24 7 rfl (by decide) (fun c => ?_) (fun c => ?_)
    · replace h := h.1 c
      refine i_iconst 11 rfl (by decide) ?_
      exact i_ireturn 12 rfl rfl h
    · replace h := h.2 c
      refine i_aload_n 8 rfl rfl (by decide) ?_
      refine i_getI (c := 1) (k := 1) 9 rfl fl_63 (by decide) (by decide) ?_
      refine i_goto 25 10 rfl (by decide) ?_
      exact i_ireturn 12 rfl rfl h
theorem u_X4_nextTurn_0 {l : Launch} {E : xE} (a0 a1 : Int) {M : xM} {Q : Option xV → xM → Prop} (h : x_Ev l E (3, 0, 0) m_X4_nextTurn 4 [(14, a0), (0, a1), (0, (-1)), (0, 0)] [] M Q) : x_Ev l E (3, 0, 0) m_X4_nextTurn 0 [(14, a0), (0, a1), (5, 0), (5, 0)] [] M Q := by
  refine i_iconst 0 rfl (by decide) ?_
  refine i_istore_n 1 rfl (by decide) rfl ?_
  refine i_iconst 2 rfl (by decide) ?_
  refine i_istore_n 3 rfl (by decide) rfl ?_
  exact h
theorem u_X4_nextTurn_4 {l : Launch} {E : xE} (l0 l1 l2 l3 : Int) {M : xM} {Q : Option xV → xM → Prop} (h : ((M l0 2) ≤ l3 → Q (some (0, l2)) M) ∧ (¬ (M l0 2) ≤ l3 → x_Ev l E (1, 0, 0) m_X4_tollLess 0 [(14, l0), (0, l1), (0, l3)] [] M (fun r zM1 => ∃ zr2, r = some (1, zr2) ∧ (zr2 ≤ 0 → ∀ zv3 : Int, zv3 = x_w (l3 + 1) → x_Ev l E (3, 0, 0) m_X4_nextTurn 4 [(14, l0), (0, l1), (0, l2), (0, zv3)] [] zM1 Q) ∧ (¬ zr2 ≤ 0 → (l2 < 0 → ∀ zv4 : Int, zv4 = x_w (l3 + 1) → x_Ev l E (3, 0, 0) m_X4_nextTurn 4 [(14, l0), (0, l1), (0, l3), (0, zv4)] [] zM1 Q) ∧ (¬ l2 < 0 → x_Ev l E (2, 0, 0) m_X4_turnsAhead 0 [(14, l0), (0, l1), (0, l3), (0, l2), (5, 0), (5, 0), (5, 0), (5, 0)] [] zM1 (fun r zM5 => ∃ zr6, r = some (0, zr6) ∧ (zr6 = 0 → ∀ zv7 : Int, zv7 = x_w (l3 + 1) → x_Ev l E (3, 0, 0) m_X4_nextTurn 4 [(14, l0), (0, l1), (0, l2), (0, zv7)] [] zM5 Q) ∧ (¬ zr6 = 0 → ∀ zv8 : Int, zv8 = x_w (l3 + 1) → x_Ev l E (3, 0, 0) m_X4_nextTurn 4 [(14, l0), (0, l1), (0, l3), (0, zv8)] [] zM5 Q))))))) : x_Ev l E (3, 0, 0) m_X4_nextTurn 4 [(14, l0), (0, l1), (0, l2), (0, l3)] [] M Q := by
  refine i_iload_n 4 rfl rfl ?_
  refine i_aload_n 5 rfl rfl (by decide) ?_
  refine i_getI (c := 4) (k := 2) 6 rfl fl_205 (by decide) (by decide) ?_
  refine i_icmp_ge 45 7 rfl (by decide) (fun c => ?_) (fun c => ?_)
  · replace h := h.1 c
    refine i_iload_n 27 rfl rfl ?_
    exact i_ireturn 28 rfl rfl h
  · replace h := h.2 c
    refine i_aload_n 8 rfl rfl (by decide) ?_
    refine i_iload_n 9 rfl rfl ?_
    refine i_iload_n 10 rfl rfl ?_
    refine i_callV (c := 4) (y1 := m_X4_tollLess) (z1 := (1, 0, 0)) (z2 := (3, 0, 0)) [(0, l1), (0, l3)] 11 rfl ml_760 ok_X4_tollLess vk_X4_tollLess ⟨by decide, rfl⟩ rfl ⟨rfl, Nat.le_of_ble_eq_true rfl⟩ (Nat.le_of_ble_eq_true rfl) ⟨by decide, rfl, rfl, rfl⟩ ?_
    refine h.mono (fun r zM1 h => ?_)
    obtain ⟨zr2, rfl, h⟩ := h
    simp only [Option.toList_some, Option.toList_none, List.cons_append, List.nil_append]
    refine i_lconst (w := 0) 12 rfl (by decide) ?_
    refine i_lcmp_le 39 13 rfl rfl (by decide) (fun c => ?_) (fun c => ?_)
    · replace h := h.1 c
      replace h := h _ rfl
      refine i_iinc 25 rfl rfl (by decide) rfl ?_
      refine i_goto 4 26 rfl (by decide) ?_
      exact h
    · replace h := h.2 c
      refine i_iload_n 15 rfl rfl ?_
      refine i_if_lt 37 16 rfl (by decide) (fun c => ?_) (fun c => ?_)
      · replace h := h.1 c
        refine i_iload_n 23 rfl rfl ?_
        refine i_istore_n 24 rfl (by decide) rfl ?_
        replace h := h _ rfl
        refine i_iinc 25 rfl rfl (by decide) rfl ?_
        refine i_goto 4 26 rfl (by decide) ?_
        exact h
      · replace h := h.2 c
        refine i_aload_n 17 rfl rfl (by decide) ?_
        refine i_iload_n 18 rfl rfl ?_
        refine i_iload_n 19 rfl rfl ?_
        refine i_iload_n 20 rfl rfl ?_
        refine i_callV (c := 4) (y1 := m_X4_turnsAhead) (z1 := (2, 0, 0)) (z2 := (3, 0, 0)) [(0, l1), (0, l3), (0, l2)] 21 rfl ml_764 ok_X4_turnsAhead vk_X4_turnsAhead ⟨by decide, rfl⟩ rfl ⟨rfl, Nat.le_of_ble_eq_true rfl⟩ (Nat.le_of_ble_eq_true rfl) ⟨by decide, rfl, rfl, rfl⟩ ?_
        refine h.mono (fun r zM5 h => ?_)
        obtain ⟨zr6, rfl, h⟩ := h
        simp only [Option.toList_some, Option.toList_none, List.cons_append, List.nil_append]
        refine i_if_eq 39 22 rfl (by decide) (fun c => ?_) (fun c => ?_)
        · replace h := h.1 c
          replace h := h _ rfl
          refine i_iinc 25 rfl rfl (by decide) rfl ?_
          refine i_goto 4 26 rfl (by decide) ?_
          exact h
        · replace h := h.2 c
          refine i_iload_n 23 rfl rfl ?_
          refine i_istore_n 24 rfl (by decide) rfl ?_
          replace h := h _ rfl
          refine i_iinc 25 rfl rfl (by decide) rfl ?_
          refine i_goto 4 26 rfl (by decide) ?_
          exact h
theorem u_X4_tollLess_0 {l : Launch} {E : xE} (a0 a1 a2 : Int) {M : xM} {Q : Option xV → xM → Prop} (h : ((0 : Int) ≤ a1 ∧ (a1 : Int) < 10) ∧ ((0 : Int) ≤ a2 ∧ (a2 : Int) < 10) ∧ ((0 : Int) ≤ a2 ∧ (a2 : Int) < 10) ∧ ((0 : Int) ≤ a1 ∧ (a1 : Int) < 10) ∧ Q (some (1, (x_W ((x_W ((M (a0 + 5) a1) * (M (a0 + 2) a2))) - (x_W ((M (a0 + 5) a2) * (M (a0 + 2) a1))))))) M) : x_Ev l E (1, 0, 0) m_X4_tollLess 0 [(14, a0), (0, a1), (0, a2)] [] M Q := by
  refine i_aload_n 0 rfl rfl (by decide) ?_
  refine i_getP (c := 4) (k := 7) (t := 109) (b := (a0 + 5)) 1 rfl fl_215 (by decide) rfl (by decide) rfl ?_
  refine i_iload_n 2 rfl rfl ?_
  refine i_lald (τ := 9) 3 rfl ⟨rfl, rfl, rfl, by decide⟩ h.1.1 h.1.2 ?_
  replace h := h.2
  refine i_aload_n 4 rfl rfl (by decide) ?_
  refine i_getP (c := 4) (k := 4) (t := 109) (b := (a0 + 2)) 5 rfl fl_209 (by decide) rfl (by decide) rfl ?_
  refine i_iload_n 6 rfl rfl ?_
  refine i_lald (τ := 9) 7 rfl ⟨rfl, rfl, rfl, by decide⟩ h.1.1 h.1.2 ?_
  replace h := h.2
  refine i_lmul 8 rfl ?_
  refine i_aload_n 9 rfl rfl (by decide) ?_
  refine i_getP (c := 4) (k := 7) (t := 109) (b := (a0 + 5)) 10 rfl fl_215 (by decide) rfl (by decide) rfl ?_
  refine i_iload_n 11 rfl rfl ?_
  refine i_lald (τ := 9) 12 rfl ⟨rfl, rfl, rfl, by decide⟩ h.1.1 h.1.2 ?_
  replace h := h.2
  refine i_aload_n 13 rfl rfl (by decide) ?_
  refine i_getP (c := 4) (k := 4) (t := 109) (b := (a0 + 2)) 14 rfl fl_209 (by decide) rfl (by decide) rfl ?_
  refine i_iload_n 15 rfl rfl ?_
  refine i_lald (τ := 9) 16 rfl ⟨rfl, rfl, rfl, by decide⟩ h.1.1 h.1.2 ?_
  replace h := h.2
  refine i_lmul 17 rfl ?_
  refine i_lsub 18 rfl ?_
  exact i_lreturn 19 rfl rfl h
theorem u_X4_worthLess_0 {l : Launch} {E : xE} (a0 a1 a2 : Int) {M : xM} {Q : Option xV → xM → Prop} (h : ((0 : Int) ≤ a1 ∧ (a1 : Int) < 10) ∧ ((0 : Int) ≤ a2 ∧ (a2 : Int) < 10) ∧ ((0 : Int) ≤ a2 ∧ (a2 : Int) < 10) ∧ ((0 : Int) ≤ a1 ∧ (a1 : Int) < 10) ∧ Q (some (1, (x_W ((x_W ((M (a0 + 4) a1) * (M (a0 + 2) a2))) - (x_W ((M (a0 + 4) a2) * (M (a0 + 2) a1))))))) M) : x_Ev l E (1, 0, 0) m_X4_worthLess 0 [(14, a0), (0, a1), (0, a2)] [] M Q := by
  refine i_aload_n 0 rfl rfl (by decide) ?_
  refine i_getP (c := 4) (k := 6) (t := 109) (b := (a0 + 4)) 1 rfl fl_214 (by decide) rfl (by decide) rfl ?_
  refine i_iload_n 2 rfl rfl ?_
  refine i_lald (τ := 9) 3 rfl ⟨rfl, rfl, rfl, by decide⟩ h.1.1 h.1.2 ?_
  replace h := h.2
  refine i_aload_n 4 rfl rfl (by decide) ?_
  refine i_getP (c := 4) (k := 4) (t := 109) (b := (a0 + 2)) 5 rfl fl_209 (by decide) rfl (by decide) rfl ?_
  refine i_iload_n 6 rfl rfl ?_
  refine i_lald (τ := 9) 7 rfl ⟨rfl, rfl, rfl, by decide⟩ h.1.1 h.1.2 ?_
  replace h := h.2
  refine i_lmul 8 rfl ?_
  refine i_aload_n 9 rfl rfl (by decide) ?_
  refine i_getP (c := 4) (k := 6) (t := 109) (b := (a0 + 4)) 10 rfl fl_214 (by decide) rfl (by decide) rfl ?_
  refine i_iload_n 11 rfl rfl ?_
  refine i_lald (τ := 9) 12 rfl ⟨rfl, rfl, rfl, by decide⟩ h.1.1 h.1.2 ?_
  replace h := h.2
  refine i_aload_n 13 rfl rfl (by decide) ?_
  refine i_getP (c := 4) (k := 4) (t := 109) (b := (a0 + 2)) 14 rfl fl_209 (by decide) rfl (by decide) rfl ?_
  refine i_iload_n 15 rfl rfl ?_
  refine i_lald (τ := 9) 16 rfl ⟨rfl, rfl, rfl, by decide⟩ h.1.1 h.1.2 ?_
  replace h := h.2
  refine i_lmul 17 rfl ?_
  refine i_lsub 18 rfl ?_
  exact i_lreturn 19 rfl rfl h
theorem u_X0_insert_0 {l : Launch} {E : xE} (a1 a2 : Int) {M : xM} {Q : Option xV → xM → Prop} (h : x_Ev l E (2, 0, 0) m_X2_put 0 [(12, 45), (1, a1), (5, 0), (1, a2), (5, 0), (5, 0), (5, 0)] [] M (fun r zM1 => r = none ∧ x_Ev l E (3, 0, 0) m_X0_insert 12 [(10, 42), (1, a1), (5, 0), (1, a2), (5, 0), (0, 0), (5, 0), (5, 0)] [] zM1 Q)) : x_Ev l E (3, 0, 0) m_X0_insert 0 [(10, 42), (1, a1), (5, 0), (1, a2), (5, 0), (5, 0), (5, 0), (5, 0)] [] M Q := by
  refine i_aload_n 0 rfl rfl (by decide) ?_
  refine i_getP (c := 0) (k := 3) (t := 12) (b := 45) 1 rfl fl_186 (by decide) rfl (by decide) rfl ?_
  refine i_lload_n 2 rfl rfl ?_
  refine i_lload_n 3 rfl rfl ?_
  refine i_callV (c := 2) (y1 := m_X2_put) (z1 := (2, 0, 0)) (z2 := (3, 0, 0)) [(1, a1), (1, a2)] 4 rfl ml_778 ok_X2_put vk_X2_put ⟨by decide, rfl⟩ rfl ⟨rfl, Nat.le_of_ble_eq_true rfl⟩ (Nat.le_of_ble_eq_true rfl) ⟨by decide, rfl, rfl, rfl⟩ ?_
  refine h.mono (fun r zM1 h => ?_)
  obtain ⟨rfl, h⟩ := h
  simp only [Option.toList_some, Option.toList_none, List.cons_append, List.nil_append]
  refine i_iconst 5 rfl (by decide) ?_
  refine i_istore 6 rfl (by decide) rfl ?_
  exact h
theorem u_X0_insert_12 {l : Launch} {E : xE} (l1 l3 l5 : Int) {M : xM} {Q : Option xV → xM → Prop} (h : ((M 42 0) ≤ l5 → ((M 42 0) ≤ l5 → ((M 42 0) < 27 → ∀ zv1 : Int, zv1 = (M 42 0) → x_Ev l E (3, 0, 0) m_X0_insert 134 [(10, 42), (1, l1), (5, 0), (1, l3), (5, 0), (0, l5), (0, 0), (0, zv1)] [] M Q) ∧ (¬ (M 42 0) < 27 → Q none M)) ∧ (¬ (M 42 0) ≤ l5 → ((0 : Int) ≤ l5 ∧ (l5 : Int) < 27) ∧ (¬ (M 43 l5) = (M 45 0) → ((M 42 0) < 27 → ∀ zv2 : Int, zv2 = (M 42 0) → x_Ev l E (3, 0, 0) m_X0_insert 134 [(10, 42), (1, l1), (5, 0), (1, l3), (5, 0), (0, l5), (0, 0), (0, zv2)] [] M Q) ∧ (¬ (M 42 0) < 27 → Q none M)) ∧ ((M 43 l5) = (M 45 0) → ((0 : Int) ≤ l5 ∧ (l5 : Int) < 27) ∧ (¬ (M 44 l5) = (M 45 1) → ((M 42 0) < 27 → ∀ zv3 : Int, zv3 = (M 42 0) → x_Ev l E (3, 0, 0) m_X0_insert 134 [(10, 42), (1, l1), (5, 0), (1, l3), (5, 0), (0, l5), (0, 0), (0, zv3)] [] M Q) ∧ (¬ (M 42 0) < 27 → Q none M)) ∧ ((M 44 l5) = (M 45 1) → Q none M)))) ∧ (¬ (M 42 0) ≤ l5 → ((0 : Int) ≤ l5 ∧ (l5 : Int) < 27) ∧ ((0 : Int) ≤ l5 ∧ (l5 : Int) < 27) ∧ ((x_W ((M 45 0) * (M 44 l5))) ≤ (x_W ((M 43 l5) * (M 45 1))) → ((M 42 0) ≤ l5 → ((M 42 0) < 27 → ∀ zv4 : Int, zv4 = (M 42 0) → x_Ev l E (3, 0, 0) m_X0_insert 134 [(10, 42), (1, l1), (5, 0), (1, l3), (5, 0), (0, l5), (0, 0), (0, zv4)] [] M Q) ∧ (¬ (M 42 0) < 27 → Q none M)) ∧ (¬ (M 42 0) ≤ l5 → ((0 : Int) ≤ l5 ∧ (l5 : Int) < 27) ∧ (¬ (M 43 l5) = (M 45 0) → ((M 42 0) < 27 → ∀ zv5 : Int, zv5 = (M 42 0) → x_Ev l E (3, 0, 0) m_X0_insert 134 [(10, 42), (1, l1), (5, 0), (1, l3), (5, 0), (0, l5), (0, 0), (0, zv5)] [] M Q) ∧ (¬ (M 42 0) < 27 → Q none M)) ∧ ((M 43 l5) = (M 45 0) → ((0 : Int) ≤ l5 ∧ (l5 : Int) < 27) ∧ (¬ (M 44 l5) = (M 45 1) → ((M 42 0) < 27 → ∀ zv6 : Int, zv6 = (M 42 0) → x_Ev l E (3, 0, 0) m_X0_insert 134 [(10, 42), (1, l1), (5, 0), (1, l3), (5, 0), (0, l5), (0, 0), (0, zv6)] [] M Q) ∧ (¬ (M 42 0) < 27 → Q none M)) ∧ ((M 44 l5) = (M 45 1) → Q none M)))) ∧ (¬ (x_W ((M 45 0) * (M 44 l5))) ≤ (x_W ((M 43 l5) * (M 45 1))) → ∀ zv7 : Int, zv7 = x_w (l5 + 1) → x_Ev l E (3, 0, 0) m_X0_insert 12 [(10, 42), (1, l1), (5, 0), (1, l3), (5, 0), (0, zv7), (5, 0), (5, 0)] [] M Q))) : x_Ev l E (3, 0, 0) m_X0_insert 12 [(10, 42), (1, l1), (5, 0), (1, l3), (5, 0), (0, l5), (5, 0), (5, 0)] [] M Q := by
  refine i_iload 7 rfl rfl ?_
  refine i_aload_n 8 rfl rfl (by decide) ?_
  refine i_getI (c := 0) (k := 0) 9 rfl fl_177 (by decide) (by decide) ?_
  refine i_icmp_ge 61 10 rfl (by decide) (fun c => ?_) (fun c => ?_)
  · replace h := h.1 c
    refine i_iload 31 rfl rfl ?_
    refine i_aload_n 32 rfl rfl (by decide) ?_
    refine i_getI (c := 0) (k := 0) 33 rfl fl_177 (by decide) (by decide) ?_
    refine i_icmp_ge 110 34 rfl (by decide) (fun c => ?_) (fun c => ?_)
    · replace h := h.1 c
      refine i_iconst 55 rfl (by decide) ?_
      refine i_istore 56 rfl (by decide) rfl ?_
      refine i_iload 57 rfl rfl ?_
      refine i_if_ne 127 58 rfl (by decide) (fun c => ?_) (fun c => ?_)
      · exact absurd c (by decide)
      · refine i_aload_n 59 rfl rfl (by decide) ?_
        refine i_getI (c := 0) (k := 0) 60 rfl fl_177 (by decide) (by decide) ?_
        refine i_bipush 61 rfl (by decide) ?_
        refine i_icmp_lt 128 62 rfl (by decide) (fun c => ?_) (fun c => ?_)
        · replace h := h.1 c
          refine i_aload_n 64 rfl rfl (by decide) ?_
          refine i_getI (c := 0) (k := 0) 65 rfl fl_177 (by decide) (by decide) ?_
          replace h := h _ rfl
          refine i_istore 66 rfl (by decide) rfl ?_
          exact h
        · replace h := h.2 c
          exact i_return 63 rfl rfl h
    · replace h := h.2 c
      refine i_aload_n 35 rfl rfl (by decide) ?_
      refine i_getP (c := 0) (k := 1) (t := 107) (b := 43) 36 rfl fl_180 (by decide) rfl (by decide) rfl ?_
      refine i_iload 37 rfl rfl ?_
      refine i_lald (τ := 7) 38 rfl ⟨rfl, rfl, rfl, by decide⟩ h.1.1 h.1.2 ?_
      replace h := h.2
      refine i_aload_n 39 rfl rfl (by decide) ?_
      refine i_getP (c := 0) (k := 3) (t := 12) (b := 45) 40 rfl fl_186 (by decide) rfl (by decide) rfl ?_
      refine i_getL (c := 2) (k := 0) 41 rfl fl_39 (by decide) rfl ?_
      refine i_lcmp_ne 110 42 rfl rfl (by decide) (fun c => ?_) (fun c => ?_)
      · replace h := h.1 c
        refine i_iconst 55 rfl (by decide) ?_
        refine i_istore 56 rfl (by decide) rfl ?_
        refine i_iload 57 rfl rfl ?_
        refine i_if_ne 127 58 rfl (by decide) (fun c => ?_) (fun c => ?_)
        · exact absurd c (by decide)
        · refine i_aload_n 59 rfl rfl (by decide) ?_
          refine i_getI (c := 0) (k := 0) 60 rfl fl_177 (by decide) (by decide) ?_
          refine i_bipush 61 rfl (by decide) ?_
          refine i_icmp_lt 128 62 rfl (by decide) (fun c => ?_) (fun c => ?_)
          · replace h := h.1 c
            refine i_aload_n 64 rfl rfl (by decide) ?_
            refine i_getI (c := 0) (k := 0) 65 rfl fl_177 (by decide) (by decide) ?_
            replace h := h _ rfl
            refine i_istore 66 rfl (by decide) rfl ?_
            exact h
          · replace h := h.2 c
            exact i_return 63 rfl rfl h
      · replace h := h.2 c
        refine i_aload_n 44 rfl rfl (by decide) ?_
        refine i_getP (c := 0) (k := 2) (t := 107) (b := 44) 45 rfl fl_183 (by decide) rfl (by decide) rfl ?_
        refine i_iload 46 rfl rfl ?_
        refine i_lald (τ := 7) 47 rfl ⟨rfl, rfl, rfl, by decide⟩ h.1.1 h.1.2 ?_
        replace h := h.2
        refine i_aload_n 48 rfl rfl (by decide) ?_
        refine i_getP (c := 0) (k := 3) (t := 12) (b := 45) 49 rfl fl_186 (by decide) rfl (by decide) rfl ?_
        refine i_getL (c := 2) (k := 1) 50 rfl fl_45 (by decide) rfl ?_
        refine i_lcmp_ne 110 51 rfl rfl (by decide) (fun c => ?_) (fun c => ?_)
        · replace h := h.1 c
          refine i_iconst 55 rfl (by decide) ?_
          refine i_istore 56 rfl (by decide) rfl ?_
          refine i_iload 57 rfl rfl ?_
          refine i_if_ne 127 58 rfl (by decide) (fun c => ?_) (fun c => ?_)
          · exact absurd c (by decide)
          · refine i_aload_n 59 rfl rfl (by decide) ?_
            refine i_getI (c := 0) (k := 0) 60 rfl fl_177 (by decide) (by decide) ?_
            refine i_bipush 61 rfl (by decide) ?_
            refine i_icmp_lt 128 62 rfl (by decide) (fun c => ?_) (fun c => ?_)
            · replace h := h.1 c
              refine i_aload_n 64 rfl rfl (by decide) ?_
              refine i_getI (c := 0) (k := 0) 65 rfl fl_177 (by decide) (by decide) ?_
              replace h := h _ rfl
              refine i_istore 66 rfl (by decide) rfl ?_
              exact h
            · replace h := h.2 c
              exact i_return 63 rfl rfl h
        · replace h := h.2 c
          refine i_iconst 53 rfl (by decide) ?_
          refine i_goto 111 54 rfl (by decide) ?_
          refine i_istore 56 rfl (by decide) rfl ?_
          refine i_iload 57 rfl rfl ?_
          refine i_if_ne 127 58 rfl (by decide) (fun c => ?_) (fun c => ?_)
          · exact i_return 63 rfl rfl h
          · exact absurd c (by decide)
  · replace h := h.2 c
    refine i_aload_n 11 rfl rfl (by decide) ?_
    refine i_getP (c := 0) (k := 1) (t := 107) (b := 43) 12 rfl fl_180 (by decide) rfl (by decide) rfl ?_
    refine i_iload 13 rfl rfl ?_
    refine i_lald (τ := 7) 14 rfl ⟨rfl, rfl, rfl, by decide⟩ h.1.1 h.1.2 ?_
    replace h := h.2
    refine i_aload_n 15 rfl rfl (by decide) ?_
    refine i_getP (c := 0) (k := 3) (t := 12) (b := 45) 16 rfl fl_186 (by decide) rfl (by decide) rfl ?_
    refine i_getL (c := 2) (k := 1) 17 rfl fl_45 (by decide) rfl ?_
    refine i_lmul 18 rfl ?_
    refine i_aload_n 19 rfl rfl (by decide) ?_
    refine i_getP (c := 0) (k := 3) (t := 12) (b := 45) 20 rfl fl_186 (by decide) rfl (by decide) rfl ?_
    refine i_getL (c := 2) (k := 0) 21 rfl fl_39 (by decide) rfl ?_
    refine i_aload_n 22 rfl rfl (by decide) ?_
    refine i_getP (c := 0) (k := 2) (t := 107) (b := 44) 23 rfl fl_183 (by decide) rfl (by decide) rfl ?_
    refine i_iload 24 rfl rfl ?_
    refine i_lald (τ := 7) 25 rfl ⟨rfl, rfl, rfl, by decide⟩ h.1.1 h.1.2 ?_
    replace h := h.2
    refine i_lmul 26 rfl ?_
    refine i_lcmp_ge 61 27 rfl rfl (by decide) (fun c => ?_) (fun c => ?_)
    · replace h := h.1 c
      refine i_iload 31 rfl rfl ?_
      refine i_aload_n 32 rfl rfl (by decide) ?_
      refine i_getI (c := 0) (k := 0) 33 rfl fl_177 (by decide) (by decide) ?_
      refine i_icmp_ge 110 34 rfl (by decide) (fun c => ?_) (fun c => ?_)
      · replace h := h.1 c
        refine i_iconst 55 rfl (by decide) ?_
        refine i_istore 56 rfl (by decide) rfl ?_
        refine i_iload 57 rfl rfl ?_
        refine i_if_ne 127 58 rfl (by decide) (fun c => ?_) (fun c => ?_)
        · exact absurd c (by decide)
        · refine i_aload_n 59 rfl rfl (by decide) ?_
          refine i_getI (c := 0) (k := 0) 60 rfl fl_177 (by decide) (by decide) ?_
          refine i_bipush 61 rfl (by decide) ?_
          refine i_icmp_lt 128 62 rfl (by decide) (fun c => ?_) (fun c => ?_)
          · replace h := h.1 c
            refine i_aload_n 64 rfl rfl (by decide) ?_
            refine i_getI (c := 0) (k := 0) 65 rfl fl_177 (by decide) (by decide) ?_
            replace h := h _ rfl
            refine i_istore 66 rfl (by decide) rfl ?_
            exact h
          · replace h := h.2 c
            exact i_return 63 rfl rfl h
      · replace h := h.2 c
        refine i_aload_n 35 rfl rfl (by decide) ?_
        refine i_getP (c := 0) (k := 1) (t := 107) (b := 43) 36 rfl fl_180 (by decide) rfl (by decide) rfl ?_
        refine i_iload 37 rfl rfl ?_
        refine i_lald (τ := 7) 38 rfl ⟨rfl, rfl, rfl, by decide⟩ h.1.1 h.1.2 ?_
        replace h := h.2
        refine i_aload_n 39 rfl rfl (by decide) ?_
        refine i_getP (c := 0) (k := 3) (t := 12) (b := 45) 40 rfl fl_186 (by decide) rfl (by decide) rfl ?_
        refine i_getL (c := 2) (k := 0) 41 rfl fl_39 (by decide) rfl ?_
        refine i_lcmp_ne 110 42 rfl rfl (by decide) (fun c => ?_) (fun c => ?_)
        · replace h := h.1 c
          refine i_iconst 55 rfl (by decide) ?_
          refine i_istore 56 rfl (by decide) rfl ?_
          refine i_iload 57 rfl rfl ?_
          refine i_if_ne 127 58 rfl (by decide) (fun c => ?_) (fun c => ?_)
          · exact absurd c (by decide)
          · refine i_aload_n 59 rfl rfl (by decide) ?_
            refine i_getI (c := 0) (k := 0) 60 rfl fl_177 (by decide) (by decide) ?_
            refine i_bipush 61 rfl (by decide) ?_
            refine i_icmp_lt 128 62 rfl (by decide) (fun c => ?_) (fun c => ?_)
            · replace h := h.1 c
              refine i_aload_n 64 rfl rfl (by decide) ?_
              refine i_getI (c := 0) (k := 0) 65 rfl fl_177 (by decide) (by decide) ?_
              replace h := h _ rfl
              refine i_istore 66 rfl (by decide) rfl ?_
              exact h
            · replace h := h.2 c
              exact i_return 63 rfl rfl h
        · replace h := h.2 c
          refine i_aload_n 44 rfl rfl (by decide) ?_
          refine i_getP (c := 0) (k := 2) (t := 107) (b := 44) 45 rfl fl_183 (by decide) rfl (by decide) rfl ?_
          refine i_iload 46 rfl rfl ?_
          refine i_lald (τ := 7) 47 rfl ⟨rfl, rfl, rfl, by decide⟩ h.1.1 h.1.2 ?_
          replace h := h.2
          refine i_aload_n 48 rfl rfl (by decide) ?_
          refine i_getP (c := 0) (k := 3) (t := 12) (b := 45) 49 rfl fl_186 (by decide) rfl (by decide) rfl ?_
          refine i_getL (c := 2) (k := 1) 50 rfl fl_45 (by decide) rfl ?_
          refine i_lcmp_ne 110 51 rfl rfl (by decide) (fun c => ?_) (fun c => ?_)
          · replace h := h.1 c
            refine i_iconst 55 rfl (by decide) ?_
            refine i_istore 56 rfl (by decide) rfl ?_
            refine i_iload 57 rfl rfl ?_
            refine i_if_ne 127 58 rfl (by decide) (fun c => ?_) (fun c => ?_)
            · exact absurd c (by decide)
            · refine i_aload_n 59 rfl rfl (by decide) ?_
              refine i_getI (c := 0) (k := 0) 60 rfl fl_177 (by decide) (by decide) ?_
              refine i_bipush 61 rfl (by decide) ?_
              refine i_icmp_lt 128 62 rfl (by decide) (fun c => ?_) (fun c => ?_)
              · replace h := h.1 c
                refine i_aload_n 64 rfl rfl (by decide) ?_
                refine i_getI (c := 0) (k := 0) 65 rfl fl_177 (by decide) (by decide) ?_
                replace h := h _ rfl
                refine i_istore 66 rfl (by decide) rfl ?_
                exact h
              · replace h := h.2 c
                exact i_return 63 rfl rfl h
          · replace h := h.2 c
            refine i_iconst 53 rfl (by decide) ?_
            refine i_goto 111 54 rfl (by decide) ?_
            refine i_istore 56 rfl (by decide) rfl ?_
            refine i_iload 57 rfl rfl ?_
            refine i_if_ne 127 58 rfl (by decide) (fun c => ?_) (fun c => ?_)
            · exact i_return 63 rfl rfl h
            · exact absurd c (by decide)
    · replace h := h.2 c
      replace h := h _ rfl
      refine i_iinc 29 rfl rfl (by decide) rfl ?_
      refine i_goto 12 30 rfl (by decide) ?_
      exact h
theorem u_X0_insert_134 {l : Launch} {E : xE} (l1 l3 l5 l6 l7 : Int) {M : xM} {Q : Option xV → xM → Prop} (h : (l7 ≤ l5 → (0 ≤ l5 ∧ l5 < 27) ∧ ∀ zM1 : xM, zM1 = x_wr M 43 l5 (M 45 0) → (0 ≤ l5 ∧ l5 < 27) ∧ ∀ zM2 : xM, zM2 = x_wr zM1 44 l5 (zM1 45 1) → ∀ zM3 : xM, zM3 = x_wr zM2 42 0 (x_w ((zM2 42 0) + 1)) → Q none zM3) ∧ (¬ l7 ≤ l5 → ((0 : Int) ≤ (x_w (l7 - 1)) ∧ ((x_w (l7 - 1)) : Int) < 27) ∧ (0 ≤ l7 ∧ l7 < 27) ∧ ∀ zM4 : xM, zM4 = x_wr M 43 l7 (M 43 (x_w (l7 - 1))) → ((0 : Int) ≤ (x_w (l7 - 1)) ∧ ((x_w (l7 - 1)) : Int) < 27) ∧ (0 ≤ l7 ∧ l7 < 27) ∧ ∀ zM5 : xM, zM5 = x_wr zM4 44 l7 (zM4 44 (x_w (l7 - 1))) → ∀ zv6 : Int, zv6 = x_w (l7 + (-1)) → x_Ev l E (3, 0, 0) m_X0_insert 134 [(10, 42), (1, l1), (5, 0), (1, l3), (5, 0), (0, l5), (0, l6), (0, zv6)] [] zM5 Q)) : x_Ev l E (3, 0, 0) m_X0_insert 134 [(10, 42), (1, l1), (5, 0), (1, l3), (5, 0), (0, l5), (0, l6), (0, l7)] [] M Q := by
  refine i_iload 67 rfl rfl ?_
  refine i_iload 68 rfl rfl ?_
  refine i_icmp_le 179 69 rfl (by decide) (fun c => ?_) (fun c => ?_)
  · replace h := h.1 c
    refine i_aload_n 92 rfl rfl (by decide) ?_
    refine i_getP (c := 0) (k := 1) (t := 107) (b := 43) 93 rfl fl_180 (by decide) rfl (by decide) rfl ?_
    refine i_iload 94 rfl rfl ?_
    refine i_aload_n 95 rfl rfl (by decide) ?_
    refine i_getP (c := 0) (k := 3) (t := 12) (b := 45) 96 rfl fl_186 (by decide) rfl (by decide) rfl ?_
    refine i_getL (c := 2) (k := 0) 97 rfl fl_39 (by decide) rfl ?_
    have hb := h.1
    replace h := h.2 _ rfl
    refine i_last (τ := 7) 98 rfl ⟨rfl, rfl, rfl, by decide⟩ hb.1 hb.2 ?_
    refine i_aload_n 99 rfl rfl (by decide) ?_
    refine i_getP (c := 0) (k := 2) (t := 107) (b := 44) 100 rfl fl_183 (by decide) rfl (by decide) rfl ?_
    refine i_iload 101 rfl rfl ?_
    refine i_aload_n 102 rfl rfl (by decide) ?_
    refine i_getP (c := 0) (k := 3) (t := 12) (b := 45) 103 rfl fl_186 (by decide) rfl (by decide) rfl ?_
    refine i_getL (c := 2) (k := 1) 104 rfl fl_45 (by decide) rfl ?_
    have hb := h.1
    replace h := h.2 _ rfl
    refine i_last (τ := 7) 105 rfl ⟨rfl, rfl, rfl, by decide⟩ hb.1 hb.2 ?_
    refine i_aload_n 106 rfl rfl (by decide) ?_
    refine i_dup 107 rfl (Nat.ne_of_beq_eq_false rfl) ?_
    refine i_getI (c := 0) (k := 0) 108 rfl fl_177 (by decide) (by decide) ?_
    refine i_iconst 109 rfl (by decide) ?_
    refine i_iadd 110 rfl ?_
    replace h := h _ rfl
    refine i_putI (c := 0) (k := 0) 111 rfl fl_177 (by decide) ⟨rfl, rfl, rfl⟩ ?_
    exact i_return 112 rfl rfl h
  · replace h := h.2 c
    refine i_aload_n 70 rfl rfl (by decide) ?_
    refine i_getP (c := 0) (k := 1) (t := 107) (b := 43) 71 rfl fl_180 (by decide) rfl (by decide) rfl ?_
    refine i_iload 72 rfl rfl ?_
    refine i_aload_n 73 rfl rfl (by decide) ?_
    refine i_getP (c := 0) (k := 1) (t := 107) (b := 43) 74 rfl fl_180 (by decide) rfl (by decide) rfl ?_
    refine i_iload 75 rfl rfl ?_
    refine i_iconst 76 rfl (by decide) ?_
    refine i_isub 77 rfl ?_
    refine i_lald (τ := 7) 78 rfl ⟨rfl, rfl, rfl, by decide⟩ h.1.1 h.1.2 ?_
    replace h := h.2
    have hb := h.1
    replace h := h.2 _ rfl
    refine i_last (τ := 7) 79 rfl ⟨rfl, rfl, rfl, by decide⟩ hb.1 hb.2 ?_
    refine i_aload_n 80 rfl rfl (by decide) ?_
    refine i_getP (c := 0) (k := 2) (t := 107) (b := 44) 81 rfl fl_183 (by decide) rfl (by decide) rfl ?_
    refine i_iload 82 rfl rfl ?_
    refine i_aload_n 83 rfl rfl (by decide) ?_
    refine i_getP (c := 0) (k := 2) (t := 107) (b := 44) 84 rfl fl_183 (by decide) rfl (by decide) rfl ?_
    refine i_iload 85 rfl rfl ?_
    refine i_iconst 86 rfl (by decide) ?_
    refine i_isub 87 rfl ?_
    refine i_lald (τ := 7) 88 rfl ⟨rfl, rfl, rfl, by decide⟩ h.1.1 h.1.2 ?_
    replace h := h.2
    have hb := h.1
    replace h := h.2 _ rfl
    refine i_last (τ := 7) 89 rfl ⟨rfl, rfl, rfl, by decide⟩ hb.1 hb.2 ?_
    replace h := h _ rfl
    refine i_iinc 90 rfl rfl (by decide) rfl ?_
    refine i_goto 134 91 rfl (by decide) ?_
    exact h
theorem u_X8_measure_0 {l : Launch} {E : xE} {M : xM} {Q : Option xV → xM → Prop} (h : Q (some (1, (x_W ((x_W ((x_W ((M 37 0) * (x_W ((x_W ((M 37 4) * (M 37 8))) - (x_W ((M 37 5) * (M 37 7))))))) + (x_W ((M 37 1) * (x_W ((x_W ((M 37 5) * (M 37 6))) - (x_W ((M 37 3) * (M 37 8))))))))) + (x_W ((M 37 2) * (x_W ((x_W ((M 37 3) * (M 37 7))) - (x_W ((M 37 4) * (M 37 6))))))))))) M) : x_Ev l E (1, 0, 0) m_X8_measure 0 [(18, 36)] [] M Q := by
  refine i_aload_n 0 rfl rfl (by decide) ?_
  refine i_getP (c := 8) (k := 0) (t := 104) (b := 37) 1 rfl fl_143 (by decide) rfl (by decide) rfl ?_
  refine i_iconst 2 rfl (by decide) ?_
  refine i_lald (τ := 4) 3 rfl ⟨rfl, rfl, rfl, by decide⟩ (by decide) (by decide) ?_
  refine i_aload_n 4 rfl rfl (by decide) ?_
  refine i_getP (c := 8) (k := 0) (t := 104) (b := 37) 5 rfl fl_143 (by decide) rfl (by decide) rfl ?_
  refine i_iconst 6 rfl (by decide) ?_
  refine i_lald (τ := 4) 7 rfl ⟨rfl, rfl, rfl, by decide⟩ (by decide) (by decide) ?_
  refine i_aload_n 8 rfl rfl (by decide) ?_
  refine i_getP (c := 8) (k := 0) (t := 104) (b := 37) 9 rfl fl_143 (by decide) rfl (by decide) rfl ?_
  refine i_bipush 10 rfl (by decide) ?_
  refine i_lald (τ := 4) 11 rfl ⟨rfl, rfl, rfl, by decide⟩ (by decide) (by decide) ?_
  refine i_lmul 12 rfl ?_
  refine i_aload_n 13 rfl rfl (by decide) ?_
  refine i_getP (c := 8) (k := 0) (t := 104) (b := 37) 14 rfl fl_143 (by decide) rfl (by decide) rfl ?_
  refine i_iconst 15 rfl (by decide) ?_
  refine i_lald (τ := 4) 16 rfl ⟨rfl, rfl, rfl, by decide⟩ (by decide) (by decide) ?_
  refine i_aload_n 17 rfl rfl (by decide) ?_
  refine i_getP (c := 8) (k := 0) (t := 104) (b := 37) 18 rfl fl_143 (by decide) rfl (by decide) rfl ?_
  refine i_bipush 19 rfl (by decide) ?_
  refine i_lald (τ := 4) 20 rfl ⟨rfl, rfl, rfl, by decide⟩ (by decide) (by decide) ?_
  refine i_lmul 21 rfl ?_
  refine i_lsub 22 rfl ?_
  refine i_lmul 23 rfl ?_
  refine i_aload_n 24 rfl rfl (by decide) ?_
  refine i_getP (c := 8) (k := 0) (t := 104) (b := 37) 25 rfl fl_143 (by decide) rfl (by decide) rfl ?_
  refine i_iconst 26 rfl (by decide) ?_
  refine i_lald (τ := 4) 27 rfl ⟨rfl, rfl, rfl, by decide⟩ (by decide) (by decide) ?_
  refine i_aload_n 28 rfl rfl (by decide) ?_
  refine i_getP (c := 8) (k := 0) (t := 104) (b := 37) 29 rfl fl_143 (by decide) rfl (by decide) rfl ?_
  refine i_iconst 30 rfl (by decide) ?_
  refine i_lald (τ := 4) 31 rfl ⟨rfl, rfl, rfl, by decide⟩ (by decide) (by decide) ?_
  refine i_aload_n 32 rfl rfl (by decide) ?_
  refine i_getP (c := 8) (k := 0) (t := 104) (b := 37) 33 rfl fl_143 (by decide) rfl (by decide) rfl ?_
  refine i_bipush 34 rfl (by decide) ?_
  refine i_lald (τ := 4) 35 rfl ⟨rfl, rfl, rfl, by decide⟩ (by decide) (by decide) ?_
  refine i_lmul 36 rfl ?_
  refine i_aload_n 37 rfl rfl (by decide) ?_
  refine i_getP (c := 8) (k := 0) (t := 104) (b := 37) 38 rfl fl_143 (by decide) rfl (by decide) rfl ?_
  refine i_iconst 39 rfl (by decide) ?_
  refine i_lald (τ := 4) 40 rfl ⟨rfl, rfl, rfl, by decide⟩ (by decide) (by decide) ?_
  refine i_aload_n 41 rfl rfl (by decide) ?_
  refine i_getP (c := 8) (k := 0) (t := 104) (b := 37) 42 rfl fl_143 (by decide) rfl (by decide) rfl ?_
  refine i_bipush 43 rfl (by decide) ?_
  refine i_lald (τ := 4) 44 rfl ⟨rfl, rfl, rfl, by decide⟩ (by decide) (by decide) ?_
  refine i_lmul 45 rfl ?_
  refine i_lsub 46 rfl ?_
  refine i_lmul 47 rfl ?_
  refine i_ladd 48 rfl ?_
  refine i_aload_n 49 rfl rfl (by decide) ?_
  refine i_getP (c := 8) (k := 0) (t := 104) (b := 37) 50 rfl fl_143 (by decide) rfl (by decide) rfl ?_
  refine i_iconst 51 rfl (by decide) ?_
  refine i_lald (τ := 4) 52 rfl ⟨rfl, rfl, rfl, by decide⟩ (by decide) (by decide) ?_
  refine i_aload_n 53 rfl rfl (by decide) ?_
  refine i_getP (c := 8) (k := 0) (t := 104) (b := 37) 54 rfl fl_143 (by decide) rfl (by decide) rfl ?_
  refine i_iconst 55 rfl (by decide) ?_
  refine i_lald (τ := 4) 56 rfl ⟨rfl, rfl, rfl, by decide⟩ (by decide) (by decide) ?_
  refine i_aload_n 57 rfl rfl (by decide) ?_
  refine i_getP (c := 8) (k := 0) (t := 104) (b := 37) 58 rfl fl_143 (by decide) rfl (by decide) rfl ?_
  refine i_bipush 59 rfl (by decide) ?_
  refine i_lald (τ := 4) 60 rfl ⟨rfl, rfl, rfl, by decide⟩ (by decide) (by decide) ?_
  refine i_lmul 61 rfl ?_
  refine i_aload_n 62 rfl rfl (by decide) ?_
  refine i_getP (c := 8) (k := 0) (t := 104) (b := 37) 63 rfl fl_143 (by decide) rfl (by decide) rfl ?_
  refine i_iconst 64 rfl (by decide) ?_
  refine i_lald (τ := 4) 65 rfl ⟨rfl, rfl, rfl, by decide⟩ (by decide) (by decide) ?_
  refine i_aload_n 66 rfl rfl (by decide) ?_
  refine i_getP (c := 8) (k := 0) (t := 104) (b := 37) 67 rfl fl_143 (by decide) rfl (by decide) rfl ?_
  refine i_bipush 68 rfl (by decide) ?_
  refine i_lald (τ := 4) 69 rfl ⟨rfl, rfl, rfl, by decide⟩ (by decide) (by decide) ?_
  refine i_lmul 70 rfl ?_
  refine i_lsub 71 rfl ?_
  refine i_lmul 72 rfl ?_
  refine i_ladd 73 rfl ?_
  exact i_lreturn 74 rfl rfl h
theorem u_X8_turnColumn_0 {l : Launch} {E : xE} (a1 : Int) {M : xM} {Q : Option xV → xM → Prop} (h : x_Ev l E (1, 0, 0) m_X8_turnColumn 2 [(18, 36), (0, a1), (0, 0), (5, 0), (5, 0)] [] M Q) : x_Ev l E (1, 0, 0) m_X8_turnColumn 0 [(18, 36), (0, a1), (5, 0), (5, 0), (5, 0)] [] M Q := by
  refine i_iconst 0 rfl (by decide) ?_
  refine i_istore_n 1 rfl (by decide) rfl ?_
  exact h
theorem u_X8_turnColumn_2 {l : Launch} {E : xE} (l1 l2 : Int) {M : xM} {Q : Option xV → xM → Prop} (h : (3 ≤ l2 → Q none M) ∧ (¬ 3 ≤ l2 → ((0 : Int) ≤ (x_w ((x_w (l2 * 3)) + l1)) ∧ ((x_w ((x_w (l2 * 3)) + l1)) : Int) < 9) ∧ ∀ zv1 : Int, zv1 = (M 37 (x_w ((x_w (l2 * 3)) + l1))) → ((0 : Int) ≤ l2 ∧ (l2 : Int) < 3) ∧ (0 ≤ (x_w ((x_w (l2 * 3)) + l1)) ∧ (x_w ((x_w (l2 * 3)) + l1)) < 9) ∧ ∀ zM2 : xM, zM2 = x_wr M 37 (x_w ((x_w (l2 * 3)) + l1)) (M 38 l2) → (0 ≤ l2 ∧ l2 < 3) ∧ ∀ zM3 : xM, zM3 = x_wr zM2 38 l2 zv1 → ∀ zv4 : Int, zv4 = x_w (l2 + 1) → x_Ev l E (1, 0, 0) m_X8_turnColumn 2 [(18, 36), (0, l1), (0, zv4), (5, 0), (5, 0)] [] zM3 Q)) : x_Ev l E (1, 0, 0) m_X8_turnColumn 2 [(18, 36), (0, l1), (0, l2), (5, 0), (5, 0)] [] M Q := by
  refine i_iload_n 2 rfl rfl ?_
  refine i_iconst 3 rfl (by decide) ?_
  refine i_icmp_ge 47 4 rfl (by decide) (fun c => ?_) (fun c => ?_)
  · replace h := h.1 c
    exact i_return 33 rfl rfl h
  · replace h := h.2 c
    refine i_aload_n 5 rfl rfl (by decide) ?_
    refine i_getP (c := 8) (k := 0) (t := 104) (b := 37) 6 rfl fl_143 (by decide) rfl (by decide) rfl ?_
    refine i_iload_n 7 rfl rfl ?_
    refine i_iconst 8 rfl (by decide) ?_
    refine i_imul 9 rfl ?_
    refine i_iload_n 10 rfl rfl ?_
    refine i_iadd 11 rfl ?_
    refine i_lald (τ := 4) 12 rfl ⟨rfl, rfl, rfl, by decide⟩ h.1.1 h.1.2 ?_
    replace h := h.2
    replace h := h _ rfl
    refine i_lstore_n 13 rfl (by decide) rfl ?_
    refine i_aload_n 14 rfl rfl (by decide) ?_
    refine i_getP (c := 8) (k := 0) (t := 104) (b := 37) 15 rfl fl_143 (by decide) rfl (by decide) rfl ?_
    refine i_iload_n 16 rfl rfl ?_
    refine i_iconst 17 rfl (by decide) ?_
    refine i_imul 18 rfl ?_
    refine i_iload_n 19 rfl rfl ?_
    refine i_iadd 20 rfl ?_
    refine i_aload_n 21 rfl rfl (by decide) ?_
    refine i_getP (c := 8) (k := 1) (t := 105) (b := 38) 22 rfl fl_144 (by decide) rfl (by decide) rfl ?_
    refine i_iload_n 23 rfl rfl ?_
    refine i_lald (τ := 5) 24 rfl ⟨rfl, rfl, rfl, by decide⟩ h.1.1 h.1.2 ?_
    replace h := h.2
    have hb := h.1
    replace h := h.2 _ rfl
    refine i_last (τ := 4) 25 rfl ⟨rfl, rfl, rfl, by decide⟩ hb.1 hb.2 ?_
    refine i_aload_n 26 rfl rfl (by decide) ?_
    refine i_getP (c := 8) (k := 1) (t := 105) (b := 38) 27 rfl fl_144 (by decide) rfl (by decide) rfl ?_
    refine i_iload_n 28 rfl rfl ?_
    refine i_lload_n 29 rfl rfl ?_
    have hb := h.1
    replace h := h.2 _ rfl
    refine i_last (τ := 5) 30 rfl ⟨rfl, rfl, rfl, by decide⟩ hb.1 hb.2 ?_
    replace h := h _ rfl
    refine i_iinc 31 rfl rfl (by decide) rfl ?_
    refine i_goto 2 32 rfl (by decide) ?_
    refine i_weak ?_ h
    exact (And.intro (Or.inr rfl) (And.intro (Or.inr rfl) (And.intro (Or.inr rfl) (And.intro (Or.inl rfl) (And.intro (Or.inr rfl) trivial)))))
theorem u_X5_isAhead_0 {l : Launch} {E : xE} (a1 a2 : Int) {M : xM} {Q : Option xV → xM → Prop} (h : x_Ev l E (1, 0, 0) m_X5_isAhead 2 [(15, 76), (0, a1), (0, a2), (0, 0), (5, 0), (5, 0), (5, 0), (5, 0)] [] M Q) : x_Ev l E (1, 0, 0) m_X5_isAhead 0 [(15, 76), (0, a1), (0, a2), (5, 0), (5, 0), (5, 0), (5, 0), (5, 0)] [] M Q := by
  refine i_iconst 0 rfl (by decide) ?_
  refine i_istore_n 1 rfl (by decide) rfl ?_
  exact h
theorem u_X5_isAhead_2 {l : Launch} {E : xE} (l1 l2 l3 : Int) {M : xM} {Q : Option xV → xM → Prop} (h : (4 ≤ l3 → Q (some (0, 0)) M) ∧ (¬ 4 ≤ l3 → ((0 : Int) ≤ (x_w ((x_w (l1 * 4)) + l3)) ∧ ((x_w ((x_w (l1 * 4)) + l3)) : Int) < 140) ∧ ((0 : Int) ≤ l2 ∧ (l2 : Int) < 35) ∧ ∀ zv1 : Int, zv1 = (x_W ((M 77 (x_w ((x_w (l1 * 4)) + l3))) * (M 78 l2))) → ((0 : Int) ≤ (x_w ((x_w (l2 * 4)) + l3)) ∧ ((x_w ((x_w (l2 * 4)) + l3)) : Int) < 140) ∧ ((0 : Int) ≤ l1 ∧ (l1 : Int) < 35) ∧ ∀ zv2 : Int, zv2 = (x_W ((M 77 (x_w ((x_w (l2 * 4)) + l3))) * (M 78 l1))) → (zv1 = zv2 → ∀ zv3 : Int, zv3 = x_w (l3 + 1) → x_Ev l E (1, 0, 0) m_X5_isAhead 2 [(15, 76), (0, l1), (0, l2), (0, zv3), (5, 0), (5, 0), (5, 0), (5, 0)] [] M Q) ∧ (¬ zv1 = zv2 → (zv2 ≤ zv1 → Q (some (0, 0)) M) ∧ (¬ zv2 ≤ zv1 → Q (some (0, 1)) M)))) : x_Ev l E (1, 0, 0) m_X5_isAhead 2 [(15, 76), (0, l1), (0, l2), (0, l3), (5, 0), (5, 0), (5, 0), (5, 0)] [] M Q := by
  refine i_iload_n 2 rfl rfl ?_
  refine i_iconst 3 rfl (by decide) ?_
  refine i_icmp_ge 73 4 rfl (by decide) (fun c => ?_) (fun c => ?_)
  · replace h := h.1 c
    refine i_iconst 47 rfl (by decide) ?_
    exact i_zreturn 48 rfl rfl (by decide) h
  · replace h := h.2 c
    refine i_aload_n 5 rfl rfl (by decide) ?_
    refine i_getP (c := 5) (k := 5) (t := 111) (b := 77) 6 rfl fl_296 (by decide) rfl (by decide) rfl ?_
    refine i_iload_n 7 rfl rfl ?_
    refine i_iconst 8 rfl (by decide) ?_
    refine i_imul 9 rfl ?_
    refine i_iload_n 10 rfl rfl ?_
    refine i_iadd 11 rfl ?_
    refine i_lald (τ := 11) 12 rfl ⟨rfl, rfl, rfl, by decide⟩ h.1.1 h.1.2 ?_
    replace h := h.2
    refine i_aload_n 13 rfl rfl (by decide) ?_
    refine i_getP (c := 5) (k := 6) (t := 112) (b := 78) 14 rfl fl_297 (by decide) rfl (by decide) rfl ?_
    refine i_iload_n 15 rfl rfl ?_
    refine i_lald (τ := 12) 16 rfl ⟨rfl, rfl, rfl, by decide⟩ h.1.1 h.1.2 ?_
    replace h := h.2
    refine i_lmul 17 rfl ?_
    replace h := h _ rfl
    refine i_lstore 18 rfl (by decide) rfl ?_
    refine i_aload_n 19 rfl rfl (by decide) ?_
    refine i_getP (c := 5) (k := 5) (t := 111) (b := 77) 20 rfl fl_296 (by decide) rfl (by decide) rfl ?_
    refine i_iload_n 21 rfl rfl ?_
    refine i_iconst 22 rfl (by decide) ?_
    refine i_imul 23 rfl ?_
    refine i_iload_n 24 rfl rfl ?_
    refine i_iadd 25 rfl ?_
    refine i_lald (τ := 11) 26 rfl ⟨rfl, rfl, rfl, by decide⟩ h.1.1 h.1.2 ?_
    replace h := h.2
    refine i_aload_n 27 rfl rfl (by decide) ?_
    refine i_getP (c := 5) (k := 6) (t := 112) (b := 78) 28 rfl fl_297 (by decide) rfl (by decide) rfl ?_
    refine i_iload_n 29 rfl rfl ?_
    refine i_lald (τ := 12) 30 rfl ⟨rfl, rfl, rfl, by decide⟩ h.1.1 h.1.2 ?_
    replace h := h.2
    refine i_lmul 31 rfl ?_
    replace h := h _ rfl
    refine i_lstore 32 rfl (by decide) rfl ?_
    refine i_lload 33 rfl rfl ?_
    refine i_lload 34 rfl rfl ?_
    refine i_lcmp_eq 67 35 rfl rfl (by decide) (fun c => ?_) (fun c => ?_)
    · replace h := h.1 c
      replace h := h _ rfl
      refine i_iinc 45 rfl rfl (by decide) rfl ?_
      refine i_goto 2 46 rfl (by decide) ?_
      refine i_weak ?_ h
      exact (And.intro (Or.inr rfl) (And.intro (Or.inr rfl) (And.intro (Or.inr rfl) (And.intro (Or.inr rfl) (And.intro (Or.inl rfl) (And.intro (Or.inr rfl) (And.intro (Or.inl rfl) (And.intro (Or.inr rfl) trivial))))))))
    · replace h := h.2 c
      refine i_lload 37 rfl rfl ?_
      refine i_lload 38 rfl rfl ?_
      refine i_lcmp_ge 65 39 rfl rfl (by decide) (fun c => ?_) (fun c => ?_)
      · replace h := h.1 c
        refine i_iconst 43 rfl (by decide) ?_
        exact i_zreturn 44 rfl rfl (by decide) h
      · replace h := h.2 c
        refine i_iconst 41 rfl (by decide) ?_
        refine i_goto 66 42 rfl (by decide) ?_
        exact i_zreturn 44 rfl rfl (by decide) h
theorem u_X4_turnsAhead_0 {l : Launch} {E : xE} (a0 a1 a2 a3 : Int) {M : xM} {Q : Option xV → xM → Prop} (h : x_Ev l E (1, 0, 0) m_X4_worthLess 0 [(14, a0), (0, a1), (0, a2)] [] M (fun r zM1 => ∃ zr2, r = some (1, zr2) ∧ x_Ev l E (1, 0, 0) m_X4_tollLess 0 [(14, a0), (0, a1), (0, a3)] [] zM1 (fun r zM3 => ∃ zr4, r = some (1, zr4) ∧ ∀ zv5 : Int, zv5 = (x_W (zr2 * zr4)) → x_Ev l E (1, 0, 0) m_X4_worthLess 0 [(14, a0), (0, a1), (0, a3)] [] zM3 (fun r zM6 => ∃ zr7, r = some (1, zr7) ∧ x_Ev l E (1, 0, 0) m_X4_tollLess 0 [(14, a0), (0, a1), (0, a2)] [] zM6 (fun r zM8 => ∃ zr9, r = some (1, zr9) ∧ ∀ zv10 : Int, zv10 = (x_W (zr7 * zr9)) → (zv5 = zv10 → x_Ev l E (1, 0, 0) m_X4_tollLess 0 [(14, a0), (0, a3), (0, a2)] [] zM8 (fun r zM11 => ∃ zr12, r = some (1, zr12) ∧ (zr12 ≤ 0 → Q (some (0, 0)) zM11) ∧ (¬ zr12 ≤ 0 → Q (some (0, 1)) zM11))) ∧ (¬ zv5 = zv10 → (zv10 ≤ zv5 → Q (some (0, 0)) zM8) ∧ (¬ zv10 ≤ zv5 → Q (some (0, 1)) zM8))))))) : x_Ev l E (2, 0, 0) m_X4_turnsAhead 0 [(14, a0), (0, a1), (0, a2), (0, a3), (5, 0), (5, 0), (5, 0), (5, 0)] [] M Q := by
  refine i_aload_n 0 rfl rfl (by decide) ?_
  refine i_iload_n 1 rfl rfl ?_
  refine i_iload_n 2 rfl rfl ?_
  refine i_callV (c := 4) (y1 := m_X4_worthLess) (z1 := (1, 0, 0)) (z2 := (2, 0, 0)) [(0, a1), (0, a2)] 3 rfl ml_768 ok_X4_worthLess vk_X4_worthLess ⟨by decide, rfl⟩ rfl ⟨rfl, Nat.le_of_ble_eq_true rfl⟩ (Nat.le_of_ble_eq_true rfl) ⟨by decide, rfl, rfl, rfl⟩ ?_
  refine h.mono (fun r zM1 h => ?_)
  obtain ⟨zr2, rfl, h⟩ := h
  simp only [Option.toList_some, Option.toList_none, List.cons_append, List.nil_append]
  refine i_aload_n 4 rfl rfl (by decide) ?_
  refine i_iload_n 5 rfl rfl ?_
  refine i_iload_n 6 rfl rfl ?_
  refine i_callV (c := 4) (y1 := m_X4_tollLess) (z1 := (1, 0, 0)) (z2 := (2, 0, 0)) [(0, a1), (0, a3)] 7 rfl ml_760 ok_X4_tollLess vk_X4_tollLess ⟨by decide, rfl⟩ rfl ⟨rfl, Nat.le_of_ble_eq_true rfl⟩ (Nat.le_of_ble_eq_true rfl) ⟨by decide, rfl, rfl, rfl⟩ ?_
  refine h.mono (fun r zM3 h => ?_)
  obtain ⟨zr4, rfl, h⟩ := h
  simp only [Option.toList_some, Option.toList_none, List.cons_append, List.nil_append]
  refine i_lmul 8 rfl ?_
  replace h := h _ rfl
  refine i_lstore 9 rfl (by decide) rfl ?_
  refine i_aload_n 10 rfl rfl (by decide) ?_
  refine i_iload_n 11 rfl rfl ?_
  refine i_iload_n 12 rfl rfl ?_
  refine i_callV (c := 4) (y1 := m_X4_worthLess) (z1 := (1, 0, 0)) (z2 := (2, 0, 0)) [(0, a1), (0, a3)] 13 rfl ml_768 ok_X4_worthLess vk_X4_worthLess ⟨by decide, rfl⟩ rfl ⟨rfl, Nat.le_of_ble_eq_true rfl⟩ (Nat.le_of_ble_eq_true rfl) ⟨by decide, rfl, rfl, rfl⟩ ?_
  refine h.mono (fun r zM6 h => ?_)
  obtain ⟨zr7, rfl, h⟩ := h
  simp only [Option.toList_some, Option.toList_none, List.cons_append, List.nil_append]
  refine i_aload_n 14 rfl rfl (by decide) ?_
  refine i_iload_n 15 rfl rfl ?_
  refine i_iload_n 16 rfl rfl ?_
  refine i_callV (c := 4) (y1 := m_X4_tollLess) (z1 := (1, 0, 0)) (z2 := (2, 0, 0)) [(0, a1), (0, a2)] 17 rfl ml_760 ok_X4_tollLess vk_X4_tollLess ⟨by decide, rfl⟩ rfl ⟨rfl, Nat.le_of_ble_eq_true rfl⟩ (Nat.le_of_ble_eq_true rfl) ⟨by decide, rfl, rfl, rfl⟩ ?_
  refine h.mono (fun r zM8 h => ?_)
  obtain ⟨zr9, rfl, h⟩ := h
  simp only [Option.toList_some, Option.toList_none, List.cons_append, List.nil_append]
  refine i_lmul 18 rfl ?_
  replace h := h _ rfl
  refine i_lstore 19 rfl (by decide) rfl ?_
  refine i_lload 20 rfl rfl ?_
  refine i_lload 21 rfl rfl ?_
  refine i_lcmp_eq 54 22 rfl rfl (by decide) (fun c => ?_) (fun c => ?_)
  · replace h := h.1 c
    refine i_aload_n 32 rfl rfl (by decide) ?_
    refine i_iload_n 33 rfl rfl ?_
    refine i_iload_n 34 rfl rfl ?_
    refine i_callV (c := 4) (y1 := m_X4_tollLess) (z1 := (1, 0, 0)) (z2 := (2, 0, 0)) [(0, a3), (0, a2)] 35 rfl ml_760 ok_X4_tollLess vk_X4_tollLess ⟨by decide, rfl⟩ rfl ⟨rfl, Nat.le_of_ble_eq_true rfl⟩ (Nat.le_of_ble_eq_true rfl) ⟨by decide, rfl, rfl, rfl⟩ ?_
    refine h.mono (fun r zM11 h => ?_)
    obtain ⟨zr12, rfl, h⟩ := h
    simp only [Option.toList_some, Option.toList_none, List.cons_append, List.nil_append]
    refine i_lconst (w := 0) 36 rfl (by decide) ?_
    refine i_lcmp_le 69 37 rfl rfl (by decide) (fun c => ?_) (fun c => ?_)
    · replace h := h.1 c
      refine i_iconst 41 rfl (by decide) ?_
      exact i_zreturn 42 rfl rfl (by decide) h
    · replace h := h.2 c
      refine i_iconst 39 rfl (by decide) ?_
      refine i_goto 70 40 rfl (by decide) ?_
      exact i_zreturn 42 rfl rfl (by decide) h
  · replace h := h.2 c
    refine i_lload 24 rfl rfl ?_
    refine i_lload 25 rfl rfl ?_
    refine i_lcmp_ge 50 26 rfl rfl (by decide) (fun c => ?_) (fun c => ?_)
    · replace h := h.1 c
      refine i_iconst 30 rfl (by decide) ?_
      refine i_goto 70 31 rfl (by decide) ?_
      exact i_zreturn 42 rfl rfl (by decide) h
    · replace h := h.2 c
      refine i_iconst 28 rfl (by decide) ?_
      refine i_goto 70 29 rfl (by decide) ?_
      exact i_zreturn 42 rfl rfl (by decide) h
