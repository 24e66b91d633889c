/-! Printed by wip/whole/tools/gen_vc.py: what is enough at each cut point -/
theorem u_X11_alter_0 {l : Launch} {E : xE} (a1 a2 a3 : Int) {M : xM} {Q : Option xV → xM → Prop} (h : x_Ev l E (2, 0, 0) m_X11_isPieceRow 0 [(21, 103), (0, a1), (0, a2)] [] M (fun r zM1 => ∃ zr2, r = some (0, zr2) ∧ (¬ zr2 = 0 → ((0 : Int) ≤ a1 ∧ (a1 : Int) < 210) ∧ ((0 : Int) ≤ a2 ∧ (a2 : Int) < 6) ∧ ∀ zv3 : Int, zv3 = (zM1 (333 + 1 + 1 * a1) a2) → ((0 : Int) ≤ a1 ∧ (a1 : Int) < 210) ∧ (0 ≤ a2 ∧ a2 < 6) ∧ ∀ zM4 : xM, zM4 = x_wr zM1 (333 + 1 + 1 * a1) a2 a3 → Q (some (1, zv3)) zM4) ∧ (zr2 = 0 → x_Ev l E (1, 0, 0) m_X11_findsLong 0 [(21, 103), (0, 0)] [] zM1 (fun r zM5 => ∃ zr6, r = some (1, zr6) ∧ Q (some (1, zr6)) zM5)))) : x_Ev l E (3, 0, 0) m_X11_alter 0 [(21, 103), (0, a1), (0, a2), (1, a3), (5, 0), (5, 0), (5, 0)] [] M Q := by
  refine i_aload_n 0 rfl rfl (by decide) ?_
  refine i_iload_n 1 rfl rfl ?_
  refine i_iload_n 2 rfl rfl ?_
  refine i_callV (c := 11) (y1 := m_X11_isPieceRow) (z1 := (2, 0, 0)) (z2 := (3, 0, 0)) [(0, a1), (0, a2)] 3 rfl ml_1705 ok_X11_isPieceRow vk_X11_isPieceRow ⟨by decide, rfl⟩ rfl ⟨rfl, Nat.le_of_ble_eq_true rfl⟩ (Nat.le_of_ble_eq_true rfl) ⟨by decide, rfl, rfl, rfl⟩ ?_
  refine h.mono (fun r zM1 h => ?_)
  obtain ⟨zr2, rfl, h⟩ := h
  simp only [Option.toList_some, Option.toList_none, List.cons_append, List.nil_append]
  refine i_if_ne 15 4 rfl (by decide) (fun c => ?_) (fun c => ?_)
  · replace h := h.1 c
    refine i_aload_n 9 rfl rfl (by decide) ?_
    refine i_getP (c := 11) (k := 43) (t := 135) (b := 333) 10 rfl fl_1092 (by decide) rfl (by decide) rfl ?_
    refine i_iload_n 11 rfl rfl ?_
    refine i_aald (τ := 35) (t := 118) (len := 210) (b := (333 + 1 + 1 * a1)) 12 rfl (by decide) rfl h.1.1 h.1.2 ?_
    replace h := h.2
    refine i_iload_n 13 rfl rfl ?_
    refine i_lald (τ := 18) 14 rfl ⟨rfl, rfl, rfl, by decide⟩ h.1.1 h.1.2 ?_
    replace h := h.2
    replace h := h _ rfl
    refine i_lstore 15 rfl (by decide) rfl ?_
    refine i_aload_n 16 rfl rfl (by decide) ?_
    refine i_getP (c := 11) (k := 43) (t := 135) (b := 333) 17 rfl fl_1092 (by decide) rfl (by decide) rfl ?_
    refine i_iload_n 18 rfl rfl ?_
    refine i_aald (τ := 35) (t := 118) (len := 210) (b := (333 + 1 + 1 * a1)) 19 rfl (by decide) rfl h.1.1 h.1.2 ?_
    replace h := h.2
    refine i_iload_n 20 rfl rfl ?_
    refine i_lload_n 21 rfl rfl ?_
    have hb := h.1
    replace h := h.2 _ rfl
    refine i_last (τ := 18) 22 rfl ⟨rfl, rfl, rfl, by decide⟩ hb.1 hb.2 ?_
    refine i_lload 23 rfl rfl ?_
    exact i_lreturn 24 rfl rfl h
  · replace h := h.2 c
    refine i_aload_n 5 rfl rfl (by decide) ?_
    refine i_iconst 6 rfl (by decide) ?_
    refine i_callV (c := 11) (y1 := m_X11_findsLong) (z1 := (1, 0, 0)) (z2 := (3, 0, 0)) [(0, 0)] 7 rfl ml_1407 ok_X11_findsLong vk_X11_findsLong ⟨by decide, rfl⟩ rfl ⟨rfl, Nat.le_of_ble_eq_true rfl⟩ (Nat.le_of_ble_eq_true rfl) ⟨by decide, rfl, rfl, rfl⟩ ?_
    refine h.mono (fun r zM5 h => ?_)
    obtain ⟨zr6, rfl, h⟩ := h
    simp only [Option.toList_some, Option.toList_none, List.cons_append, List.nil_append]
    exact i_lreturn 8 rfl rfl h
theorem u_X11_judge_0 {l : Launch} {E : xE} {M : xM} {Q : Option xV → xM → Prop} (h : x_Ev l E (10, 0, 0) m_X11_plans_ 0 [(21, 103), (5, 0)] [] M (fun r zM1 => r = none ∧ x_Ev l E (6, 0, 0) m_X11_findsBreaks 0 [(21, 103), (0, (-1)), (5, 0)] [] zM1 (fun r zM2 => r = none ∧ x_Ev l E (11, 0, 0) m_X11_judge 11 [(21, 103), (0, 0), (5, 0), (5, 0)] [] zM2 Q))) : x_Ev l E (11, 0, 0) m_X11_judge 0 [(21, 103), (5, 0), (5, 0), (5, 0)] [] M Q := by
  refine i_aload_n 0 rfl rfl (by decide) ?_
  refine i_callV (c := 11) (y1 := m_X11_plans_) (z1 := (10, 0, 0)) (z2 := (11, 0, 0)) [] 1 rfl ml_1425 ok_X11_plans_ vk_X11_plans_ ⟨by decide, rfl⟩ rfl ⟨rfl, Nat.le_of_ble_eq_true rfl⟩ (Nat.le_of_ble_eq_true rfl) ⟨by decide, rfl, rfl, rfl⟩ ?_
  refine h.mono (fun r zM1 h => ?_)
  obtain ⟨rfl, h⟩ := h
  simp only [Option.toList_some, Option.toList_none, List.cons_append, List.nil_append]
  refine i_aload_n 2 rfl rfl (by decide) ?_
  refine i_iconst 3 rfl (by decide) ?_
  refine i_callV (c := 11) (y1 := m_X11_findsBreaks) (z1 := (6, 0, 0)) (z2 := (11, 0, 0)) [(0, (-1))] 4 rfl ml_1566 ok_X11_findsBreaks vk_X11_findsBreaks ⟨by decide, rfl⟩ rfl ⟨rfl, Nat.le_of_ble_eq_true rfl⟩ (Nat.le_of_ble_eq_true rfl) ⟨by decide, rfl, rfl, rfl⟩ ?_
  refine h.mono (fun r zM2 h => ?_)
  obtain ⟨rfl, h⟩ := h
  simp only [Option.toList_some, Option.toList_none, List.cons_append, List.nil_append]
  refine i_iconst 5 rfl (by decide) ?_
  refine i_istore_n 6 rfl (by decide) rfl ?_
  exact h
theorem u_X11_judge_11 {l : Launch} {E : xE} (l1 : Int) {M : xM} {Q : Option xV → xM → Prop} (h : ((M 103 25) < l1 → ((M 103 42) ≤ (x_w ((M 103 25) + 1)) → Q (some (0, 0)) M) ∧ (¬ (M 103 42) ≤ (x_w ((M 103 25) + 1)) → Q (some (0, (x_w (2 + (M 103 25))))) M)) ∧ (¬ (M 103 25) < l1 → ((M 103 42) ≤ l1 → x_Ev l E (11, 0, 0) m_X11_judge 35 [(21, 103), (0, l1), (0, 0), (0, 0)] [] M Q) ∧ (¬ (M 103 42) ≤ l1 → x_Ev l E (11, 0, 0) m_X11_judge 35 [(21, 103), (0, l1), (0, 1), (0, 0)] [] M Q))) : x_Ev l E (11, 0, 0) m_X11_judge 11 [(21, 103), (0, l1), (5, 0), (5, 0)] [] M Q := by
  refine i_iload_n 7 rfl rfl ?_
  refine i_aload_n 8 rfl rfl (by decide) ?_
  refine i_getI (c := 11) (k := 25) 9 rfl fl_1074 (by decide) (by decide) ?_
  refine i_icmp_gt 89 10 rfl (by decide) (fun c => ?_) (fun c => ?_)
  · replace h := h.1 c
    refine i_aload_n 52 rfl rfl (by decide) ?_
    refine i_getI (c := 11) (k := 42) 53 rfl fl_1091 (by decide) (by decide) ?_
    refine i_aload_n 54 rfl rfl (by decide) ?_
    refine i_getI (c := 11) (k := 25) 55 rfl fl_1074 (by decide) (by decide) ?_
    refine i_iconst 56 rfl (by decide) ?_
    refine i_iadd 57 rfl ?_
    refine i_icmp_le 111 58 rfl (by decide) (fun c => ?_) (fun c => ?_)
    · replace h := h.1 c
      refine i_iconst 64 rfl (by decide) ?_
      exact i_ireturn 65 rfl rfl h
    · replace h := h.2 c
      refine i_iconst 59 rfl (by decide) ?_
      refine i_aload_n 60 rfl rfl (by decide) ?_
      refine i_getI (c := 11) (k := 25) 61 rfl fl_1074 (by decide) (by decide) ?_
      refine i_iadd 62 rfl ?_
      refine i_goto 112 63 rfl (by decide) ?_
      exact i_ireturn 65 rfl rfl h
  · replace h := h.2 c
    refine i_iload_n 11 rfl rfl ?_
    refine i_aload_n 12 rfl rfl (by decide) ?_
    refine i_getI (c := 11) (k := 42) 13 rfl fl_1091 (by decide) (by decide) ?_
    refine i_icmp_ge 31 14 rfl (by decide) (fun c => ?_) (fun c => ?_)
    · replace h := h.1 c
      refine i_iconst 17 rfl (by decide) ?_
      refine i_istore_n 18 rfl (by decide) rfl ?_
      refine i_iconst 19 rfl (by decide) ?_
      refine i_istore_n 20 rfl (by decide) rfl ?_
      exact h
    · replace h := h.2 c
      refine i_iconst 15 rfl (by decide) ?_
      refine i_goto 32 16 rfl (by decide) ?_
      refine i_istore_n 18 rfl (by decide) rfl ?_
      refine i_iconst 19 rfl (by decide) ?_
      refine i_istore_n 20 rfl (by decide) rfl ?_
      exact h
theorem u_X11_judge_35 {l : Launch} {E : xE} (l1 l2 l3 : Int) {M : xM} {Q : Option xV → xM → Prop} (h : (6 ≤ l3 → (¬ l2 = 0 → ∀ zv1 : Int, zv1 = x_w (l1 + 1) → x_Ev l E (11, 0, 0) m_X11_judge 11 [(21, 103), (0, zv1), (5, 0), (5, 0)] [] M Q) ∧ (l2 = 0 → Q (some (0, (x_w (1 + l1)))) M)) ∧ (¬ 6 ≤ l3 → (l2 = 0 → Q (some (0, (x_w (1 + l1)))) M) ∧ (¬ l2 = 0 → ((0 : Int) ≤ l1 ∧ (l1 : Int) < 210) ∧ ((0 : Int) ≤ l3 ∧ (l3 : Int) < 6) ∧ x_Ev l E (6, 0, 0) m_X11_pieceOf 0 [(21, 103), (0, l1), (0, l3)] [] M (fun r zM2 => ∃ zr3, r = some (1, zr3) ∧ (¬ (M (333 + 1 + 1 * l1) l3) = zr3 → ∀ zv4 : Int, zv4 = x_w (l3 + 1) → x_Ev l E (11, 0, 0) m_X11_judge 35 [(21, 103), (0, l1), (0, 0), (0, zv4)] [] zM2 Q) ∧ ((M (333 + 1 + 1 * l1) l3) = zr3 → ∀ zv5 : Int, zv5 = x_w (l3 + 1) → x_Ev l E (11, 0, 0) m_X11_judge 35 [(21, 103), (0, l1), (0, 1), (0, zv5)] [] zM2 Q))))) : x_Ev l E (11, 0, 0) m_X11_judge 35 [(21, 103), (0, l1), (0, l2), (0, l3)] [] M Q := by
  refine i_iload_n 21 rfl rfl ?_
  refine i_bipush 22 rfl (by decide) ?_
  refine i_icmp_ge 75 23 rfl (by decide) (fun c => ?_) (fun c => ?_)
  · replace h := h.1 c
    refine i_iload_n 44 rfl rfl ?_
    refine i_if_ne 83 45 rfl (by decide) (fun c => ?_) (fun c => ?_)
    · replace h := h.1 c
      replace h := h _ rfl
      refine i_iinc 50 rfl rfl (by decide) rfl ?_
      refine i_goto 11 51 rfl (by decide) ?_
      refine i_weak ?_ h
      exact (And.intro (Or.inr rfl) (And.intro (Or.inr rfl) (And.intro (Or.inl rfl) (And.intro (Or.inl rfl) trivial))))
    · replace h := h.2 c
      refine i_iconst 46 rfl (by decide) ?_
      refine i_iload_n 47 rfl rfl ?_
      refine i_iadd 48 rfl ?_
      exact i_ireturn 49 rfl rfl h
  · replace h := h.2 c
    refine i_iload_n 24 rfl rfl ?_
    refine i_if_eq 75 25 rfl (by decide) (fun c => ?_) (fun c => ?_)
    · replace h := h.1 c
      refine i_iload_n 44 rfl rfl ?_
      refine i_if_ne 83 45 rfl (by decide) (fun c => ?_) (fun c => ?_)
      · exact absurd c (by omega)
      · refine i_iconst 46 rfl (by decide) ?_
        refine i_iload_n 47 rfl rfl ?_
        refine i_iadd 48 rfl ?_
        exact i_ireturn 49 rfl rfl h
    · replace h := h.2 c
      refine i_aload_n 26 rfl rfl (by decide) ?_
      refine i_getP (c := 11) (k := 43) (t := 135) (b := 333) 27 rfl fl_1092 (by decide) rfl (by decide) rfl ?_
      refine i_iload_n 28 rfl rfl ?_
      refine i_aald (τ := 35) (t := 118) (len := 210) (b := (333 + 1 + 1 * l1)) 29 rfl (by decide) rfl h.1.1 h.1.2 ?_
      replace h := h.2
      refine i_iload_n 30 rfl rfl ?_
      refine i_lald (τ := 18) 31 rfl ⟨rfl, rfl, rfl, by decide⟩ h.1.1 h.1.2 ?_
      replace h := h.2
      refine i_aload_n 32 rfl rfl (by decide) ?_
      refine i_iload_n 33 rfl rfl ?_
      refine i_iload_n 34 rfl rfl ?_
      refine i_callV (c := 11) (y1 := m_X11_pieceOf) (z1 := (6, 0, 0)) (z2 := (11, 0, 0)) [(0, l1), (0, l3)] 35 rfl ml_1591 ok_X11_pieceOf vk_X11_pieceOf ⟨by decide, rfl⟩ rfl ⟨rfl, Nat.le_of_ble_eq_true rfl⟩ (Nat.le_of_ble_eq_true rfl) ⟨by decide, rfl, rfl, rfl⟩ ?_
      refine h.mono (fun r zM2 h => ?_)
      obtain ⟨zr3, rfl, h⟩ := h
      simp only [Option.toList_some, Option.toList_none, List.cons_append, List.nil_append]
      refine i_lcmp_ne 67 36 rfl rfl (by decide) (fun c => ?_) (fun c => ?_)
      · replace h := h.1 c
        refine i_iconst 40 rfl (by decide) ?_
        refine i_istore_n 41 rfl (by decide) rfl ?_
        replace h := h _ rfl
        refine i_iinc 42 rfl rfl (by decide) rfl ?_
        refine i_goto 35 43 rfl (by decide) ?_
        exact h
      · replace h := h.2 c
        refine i_iconst 38 rfl (by decide) ?_
        refine i_goto 68 39 rfl (by decide) ?_
        refine i_istore_n 41 rfl (by decide) rfl ?_
        replace h := h _ rfl
        refine i_iinc 42 rfl rfl (by decide) rfl ?_
        refine i_goto 35 43 rfl (by decide) ?_
        exact h
theorem u_X11_sheet_0 {l : Launch} {E : xE} (a1 a2 a3 : Int) {M : xM} {Q : Option xV → xM → Prop} (h : x_Ev l E (2, 0, 0) m_X11_isSheet 0 [(0, a1)] [] M (fun r zM1 => ∃ zr2, r = some (0, zr2) ∧ (zr2 = 0 → x_Ev l E (1, 0, 0) m_X11_finds 0 [(21, 103), (0, 0)] [] zM1 (fun r zM3 => ∃ zr4, r = some (0, zr4) ∧ Q (some (0, zr4)) zM3)) ∧ (¬ zr2 = 0 → x_Ev l E (1, 0, 0) m_X11_in 0 [(1, a2), (5, 0), (1, (-1)), (5, 0), (1, 2), (5, 0)] [] zM1 (fun r zM5 => ∃ zr6, r = some (0, zr6) ∧ (¬ zr6 = 0 → (a2 < 0 → (0 ≤ a1 ∧ a1 < 4) ∧ ∀ zM7 : xM, zM7 = x_wr zM5 544 a1 a2 → (0 ≤ a1 ∧ a1 < 4) ∧ ∀ zM8 : xM, zM8 = x_wr zM7 545 a1 0 → x_Ev l E (3, 0, 0) m_X11_sheet 83 [(21, 103), (0, a1), (0, a2), (0, a3), (0, 0)] [] zM8 Q) ∧ (¬ a2 < 0 → (0 ≤ a3 → (a3 ≤ 40 → (0 ≤ a1 ∧ a1 < 4) ∧ ∀ zM9 : xM, zM9 = x_wr zM5 544 a1 a2 → (0 ≤ a1 ∧ a1 < 4) ∧ ∀ zM10 : xM, zM10 = x_wr zM9 545 a1 a3 → x_Ev l E (3, 0, 0) m_X11_sheet 83 [(21, 103), (0, a1), (0, a2), (0, a3), (0, 0)] [] zM10 Q) ∧ (¬ a3 ≤ 40 → x_Ev l E (1, 0, 0) m_X11_finds 0 [(21, 103), (0, 0)] [] zM5 (fun r zM11 => ∃ zr12, r = some (0, zr12) ∧ Q (some (0, zr12)) zM11))) ∧ (¬ 0 ≤ a3 → x_Ev l E (1, 0, 0) m_X11_finds 0 [(21, 103), (0, 6)] [] zM5 (fun r zM13 => ∃ zr14, r = some (0, zr14) ∧ Q (some (0, zr14)) zM13)))) ∧ (zr6 = 0 → x_Ev l E (1, 0, 0) m_X11_finds 0 [(21, 103), (0, 0)] [] zM5 (fun r zM15 => ∃ zr16, r = some (0, zr16) ∧ Q (some (0, zr16)) zM15)))))) : x_Ev l E (3, 0, 0) m_X11_sheet 0 [(21, 103), (0, a1), (0, a2), (0, a3), (5, 0)] [] M Q := by
  refine i_iload_n 0 rfl rfl ?_
  refine i_callS (y1 := m_X11_isSheet) (z1 := (2, 0, 0)) (z2 := (3, 0, 0)) [(0, a1)] 1 rfl ml_1541 ok_X11_isSheet vk_X11_isSheet rfl ⟨rfl, Nat.le_of_ble_eq_true rfl⟩ (Nat.le_of_ble_eq_true rfl) ⟨by decide, rfl, rfl, rfl⟩ ?_
  refine h.mono (fun r zM1 h => ?_)
  obtain ⟨zr2, rfl, h⟩ := h
  simp only [Option.toList_some, Option.toList_none, List.cons_append, List.nil_append]
  refine i_if_eq 21 2 rfl (by decide) (fun c => ?_) (fun c => ?_)
  · replace h := h.1 c
    refine i_aload_n 9 rfl rfl (by decide) ?_
    refine i_iconst 10 rfl (by decide) ?_
    refine i_callV (c := 11) (y1 := m_X11_finds) (z1 := (1, 0, 0)) (z2 := (3, 0, 0)) [(0, 0)] 11 rfl ml_1233 ok_X11_finds vk_X11_finds ⟨by decide, rfl⟩ rfl ⟨rfl, Nat.le_of_ble_eq_true rfl⟩ (Nat.le_of_ble_eq_true rfl) ⟨by decide, rfl, rfl, rfl⟩ ?_
    refine h.mono (fun r zM3 h => ?_)
    obtain ⟨zr4, rfl, h⟩ := h
    simp only [Option.toList_some, Option.toList_none, List.cons_append, List.nil_append]
    exact i_ireturn 12 rfl rfl h
  · replace h := h.2 c
    refine i_iload_n 3 rfl rfl ?_
    refine i_i2l 4 rfl ?_
    refine i_ldc2 (v := (-1)) 5 rfl cw_1420 (by decide) ?_
    refine i_ldc2 (v := 2) 6 rfl cw_1353 (by decide) ?_
    refine i_callS (y1 := m_X11_in) (z1 := (1, 0, 0)) (z2 := (3, 0, 0)) [(1, a2), (1, (-1)), (1, 2)] 7 rfl ml_1229 ok_X11_in vk_X11_in rfl ⟨rfl, Nat.le_of_ble_eq_true rfl⟩ (Nat.le_of_ble_eq_true rfl) ⟨by decide, rfl, rfl, rfl⟩ ?_
    refine h.mono (fun r zM5 h => ?_)
    obtain ⟨zr6, rfl, h⟩ := h
    simp only [Option.toList_some, Option.toList_none, List.cons_append, List.nil_append]
    refine i_if_ne 27 8 rfl (by decide) (fun c => ?_) (fun c => ?_)
    · replace h := h.1 c
      refine i_iload_n 13 rfl rfl ?_
      refine i_if_lt 42 14 rfl (by decide) (fun c => ?_) (fun c => ?_)
      · replace h := h.1 c
        refine i_iload_n 21 rfl rfl ?_
        refine i_if_lt 58 22 rfl (by decide) (fun c => ?_) (fun c => ?_)
        · refine i_aload_n 30 rfl rfl (by decide) ?_
          refine i_getP (c := 11) (k := 44) (t := 103) (b := 544) 31 rfl fl_1093 (by decide) rfl (by decide) rfl ?_
          refine i_iload_n 32 rfl rfl ?_
          refine i_iload_n 33 rfl rfl ?_
          have hb := h.1
          replace h := h.2 _ rfl
          refine i_iast (τ := 3) 34 rfl ⟨rfl, rfl, rfl, by decide⟩ hb.1 hb.2 ?_
          refine i_aload_n 35 rfl rfl (by decide) ?_
          refine i_getP (c := 11) (k := 45) (t := 103) (b := 545) 36 rfl fl_1094 (by decide) rfl (by decide) rfl ?_
          refine i_iload_n 37 rfl rfl ?_
          refine i_iload_n 38 rfl rfl ?_
          refine i_if_ge 78 39 rfl (by decide) (fun c => ?_) (fun c => ?_)
          · exact absurd c (by omega)
          · refine i_iconst 40 rfl (by decide) ?_
            refine i_goto 79 41 rfl (by decide) ?_
            have hb := h.1
            replace h := h.2 _ rfl
            refine i_iast (τ := 3) 43 rfl ⟨rfl, rfl, rfl, by decide⟩ hb.1 hb.2 ?_
            refine i_iconst 44 rfl (by decide) ?_
            refine i_istore 45 rfl (by decide) rfl ?_
            exact h
        · exact absurd c (by omega)
      · replace h := h.2 c
        refine i_iload_n 15 rfl rfl ?_
        refine i_if_ge 42 16 rfl (by decide) (fun c => ?_) (fun c => ?_)
        · replace h := h.1 c
          refine i_iload_n 21 rfl rfl ?_
          refine i_if_lt 58 22 rfl (by decide) (fun c => ?_) (fun c => ?_)
          · exact absurd c (by omega)
          · refine i_iload_n 23 rfl rfl ?_
            refine i_bipush 24 rfl (by decide) ?_
            refine i_icmp_le 58 25 rfl (by decide) (fun c => ?_) (fun c => ?_)
            · replace h := h.1 c
              refine i_aload_n 30 rfl rfl (by decide) ?_
              refine i_getP (c := 11) (k := 44) (t := 103) (b := 544) 31 rfl fl_1093 (by decide) rfl (by decide) rfl ?_
              refine i_iload_n 32 rfl rfl ?_
              refine i_iload_n 33 rfl rfl ?_
              have hb := h.1
              replace h := h.2 _ rfl
              refine i_iast (τ := 3) 34 rfl ⟨rfl, rfl, rfl, by decide⟩ hb.1 hb.2 ?_
              refine i_aload_n 35 rfl rfl (by decide) ?_
              refine i_getP (c := 11) (k := 45) (t := 103) (b := 545) 36 rfl fl_1094 (by decide) rfl (by decide) rfl ?_
              refine i_iload_n 37 rfl rfl ?_
              refine i_iload_n 38 rfl rfl ?_
              refine i_if_ge 78 39 rfl (by decide) (fun c => ?_) (fun c => ?_)
              · refine i_iload_n 42 rfl rfl ?_
                have hb := h.1
                replace h := h.2 _ rfl
                refine i_iast (τ := 3) 43 rfl ⟨rfl, rfl, rfl, by decide⟩ hb.1 hb.2 ?_
                refine i_iconst 44 rfl (by decide) ?_
                refine i_istore 45 rfl (by decide) rfl ?_
                exact h
              · exact absurd c (by omega)
            · replace h := h.2 c
              refine i_aload_n 26 rfl rfl (by decide) ?_
              refine i_iconst 27 rfl (by decide) ?_
              refine i_callV (c := 11) (y1 := m_X11_finds) (z1 := (1, 0, 0)) (z2 := (3, 0, 0)) [(0, 0)] 28 rfl ml_1233 ok_X11_finds vk_X11_finds ⟨by decide, rfl⟩ rfl ⟨rfl, Nat.le_of_ble_eq_true rfl⟩ (Nat.le_of_ble_eq_true rfl) ⟨by decide, rfl, rfl, rfl⟩ ?_
              refine h.mono (fun r zM11 h => ?_)
              obtain ⟨zr12, rfl, h⟩ := h
              simp only [Option.toList_some, Option.toList_none, List.cons_append, List.nil_append]
              exact i_ireturn 29 rfl rfl h
        · replace h := h.2 c
          refine i_aload_n 17 rfl rfl (by decide) ?_
          refine i_bipush 18 rfl (by decide) ?_
          refine i_callV (c := 11) (y1 := m_X11_finds) (z1 := (1, 0, 0)) (z2 := (3, 0, 0)) [(0, 6)] 19 rfl ml_1233 ok_X11_finds vk_X11_finds ⟨by decide, rfl⟩ rfl ⟨rfl, Nat.le_of_ble_eq_true rfl⟩ (Nat.le_of_ble_eq_true rfl) ⟨by decide, rfl, rfl, rfl⟩ ?_
          refine h.mono (fun r zM13 h => ?_)
          obtain ⟨zr14, rfl, h⟩ := h
          simp only [Option.toList_some, Option.toList_none, List.cons_append, List.nil_append]
          exact i_ireturn 20 rfl rfl h
    · replace h := h.2 c
      refine i_aload_n 9 rfl rfl (by decide) ?_
      refine i_iconst 10 rfl (by decide) ?_
      refine i_callV (c := 11) (y1 := m_X11_finds) (z1 := (1, 0, 0)) (z2 := (3, 0, 0)) [(0, 0)] 11 rfl ml_1233 ok_X11_finds vk_X11_finds ⟨by decide, rfl⟩ rfl ⟨rfl, Nat.le_of_ble_eq_true rfl⟩ (Nat.le_of_ble_eq_true rfl) ⟨by decide, rfl, rfl, rfl⟩ ?_
      refine h.mono (fun r zM15 h => ?_)
      obtain ⟨zr16, rfl, h⟩ := h
      simp only [Option.toList_some, Option.toList_none, List.cons_append, List.nil_append]
      exact i_ireturn 12 rfl rfl h
theorem u_X11_sheet_83 {l : Launch} {E : xE} (l1 l2 l3 l4 : Int) {M : xM} {Q : Option xV → xM → Prop} (h : (40 ≤ l4 → ((0 : Int) ≤ l1 ∧ (l1 : Int) < 4) ∧ Q (some (0, (M 545 l1))) M) ∧ (¬ 40 ≤ l4 → ((0 : Int) ≤ l1 ∧ (l1 : Int) < 4) ∧ (0 ≤ l4 ∧ l4 < 40) ∧ ∀ zM1 : xM, zM1 = x_wr M (546 + 1 + 1 * l1) l4 0 → ∀ zv2 : Int, zv2 = x_w (l4 + 1) → x_Ev l E (3, 0, 0) m_X11_sheet 83 [(21, 103), (0, l1), (0, l2), (0, l3), (0, zv2)] [] zM1 Q)) : x_Ev l E (3, 0, 0) m_X11_sheet 83 [(21, 103), (0, l1), (0, l2), (0, l3), (0, l4)] [] M Q := by
  refine i_iload 46 rfl rfl ?_
  refine i_bipush 47 rfl (by decide) ?_
  refine i_icmp_ge 106 48 rfl (by decide) (fun c => ?_) (fun c => ?_)
  · replace h := h.1 c
    refine i_aload_n 58 rfl rfl (by decide) ?_
    refine i_getP (c := 11) (k := 45) (t := 103) (b := 545) 59 rfl fl_1094 (by decide) rfl (by decide) rfl ?_
    refine i_iload_n 60 rfl rfl ?_
    refine i_iald (τ := 3) 61 rfl ⟨rfl, rfl, rfl, by decide⟩ h.1.1 h.1.2 ?_
    replace h := h.2
    exact i_ireturn 62 rfl rfl h
  · replace h := h.2 c
    refine i_aload_n 49 rfl rfl (by decide) ?_
    refine i_getP (c := 11) (k := 46) (t := 136) (b := 546) 50 rfl fl_1095 (by decide) rfl (by decide) rfl ?_
    refine i_iload_n 51 rfl rfl ?_
    refine i_aald (τ := 36) (t := 129) (len := 4) (b := (546 + 1 + 1 * l1)) 52 rfl (by decide) rfl h.1.1 h.1.2 ?_
    replace h := h.2
    refine i_iload 53 rfl rfl ?_
    refine i_lconst (w := 0) 54 rfl (by decide) ?_
    have hb := h.1
    replace h := h.2 _ rfl
    refine i_last (τ := 29) 55 rfl ⟨rfl, rfl, rfl, by decide⟩ hb.1 hb.2 ?_
    replace h := h _ rfl
    refine i_iinc 56 rfl rfl (by decide) rfl ?_
    refine i_goto 83 57 rfl (by decide) ?_
    exact h
theorem u_X11_write_0 {l : Launch} {E : xE} (a1 a2 a3 : Int) {M : xM} {Q : Option xV → xM → Prop} (h : x_Ev l E (3, 0, 0) m_X11_whyNot 0 [(21, 103), (0, a1), (0, a2)] [] M (fun r zM1 => ∃ zr2, r = some (0, zr2) ∧ (zr2 < 0 → ((0 : Int) ≤ a1 ∧ (a1 : Int) < 4) ∧ ((0 : Int) ≤ a1 ∧ (a1 : Int) < 4) ∧ (¬ (zM1 544 a1) = 0 → ((0 : Int) ≤ a1 ∧ (a1 : Int) < 4) ∧ (¬ (zM1 544 a1) = 1 → (0 ≤ a2 ∧ a2 < 40) ∧ ∀ zM3 : xM, zM3 = x_wr zM1 (546 + 1 + 1 * a1) a2 a3 → Q (some (0, 1)) zM3) ∧ ((zM1 544 a1) = 1 → (0 ≤ a2 ∧ a2 < 40) ∧ ∀ zM4 : xM, zM4 = x_wr zM1 (546 + 1 + 1 * a1) a2 (x_w a3) → Q (some (0, 1)) zM4)) ∧ ((zM1 544 a1) = 0 → (0 ≤ a2 ∧ a2 < 40) ∧ ∀ zM5 : xM, zM5 = x_wr zM1 (546 + 1 + 1 * a1) a2 (x_i2b (x_w a3)) → Q (some (0, 1)) zM5)) ∧ (¬ zr2 < 0 → x_Ev l E (1, 0, 0) m_X11_finds 0 [(21, 103), (0, zr2)] [] zM1 (fun r zM6 => ∃ zr7, r = some (0, zr7) ∧ Q (some (0, zr7)) zM6)))) : x_Ev l E (4, 0, 0) m_X11_write 0 [(21, 103), (0, a1), (0, a2), (1, a3), (5, 0), (5, 0)] [] M Q := by
  refine i_aload_n 0 rfl rfl (by decide) ?_
  refine i_iload_n 1 rfl rfl ?_
  refine i_iload_n 2 rfl rfl ?_
  refine i_callV (c := 11) (y1 := m_X11_whyNot) (z1 := (3, 0, 0)) (z2 := (4, 0, 0)) [(0, a1), (0, a2)] 3 rfl ml_1725 ok_X11_whyNot vk_X11_whyNot ⟨by decide, rfl⟩ rfl ⟨rfl, Nat.le_of_ble_eq_true rfl⟩ (Nat.le_of_ble_eq_true rfl) ⟨by decide, rfl, rfl, rfl⟩ ?_
  refine h.mono (fun r zM1 h => ?_)
  obtain ⟨zr2, rfl, h⟩ := h
  simp only [Option.toList_some, Option.toList_none, List.cons_append, List.nil_append]
  refine i_istore 4 rfl (by decide) rfl ?_
  refine i_iload 5 rfl rfl ?_
  refine i_if_lt 20 6 rfl (by decide) (fun c => ?_) (fun c => ?_)
  · replace h := h.1 c
    refine i_aload_n 11 rfl rfl (by decide) ?_
    refine i_getP (c := 11) (k := 46) (t := 136) (b := 546) 12 rfl fl_1095 (by decide) rfl (by decide) rfl ?_
    refine i_iload_n 13 rfl rfl ?_
    refine i_aald (τ := 36) (t := 129) (len := 4) (b := (546 + 1 + 1 * a1)) 14 rfl (by decide) rfl h.1.1 h.1.2 ?_
    replace h := h.2
    refine i_iload_n 15 rfl rfl ?_
    refine i_aload_n 16 rfl rfl (by decide) ?_
    refine i_getP (c := 11) (k := 44) (t := 103) (b := 544) 17 rfl fl_1093 (by decide) rfl (by decide) rfl ?_
    refine i_iload_n 18 rfl rfl ?_
    refine i_iald (τ := 3) 19 rfl ⟨rfl, rfl, rfl, by decide⟩ h.1.1 h.1.2 ?_
    replace h := h.2
    refine i_if_ne 43 20 rfl (by decide) (fun c => ?_) (fun c => ?_)
    · replace h := h.1 c
      refine i_aload_n 26 rfl rfl (by decide) ?_
      refine i_getP (c := 11) (k := 44) (t := 103) (b := 544) 27 rfl fl_1093 (by decide) rfl (by decide) rfl ?_
      refine i_iload_n 28 rfl rfl ?_
      refine i_iald (τ := 3) 29 rfl ⟨rfl, rfl, rfl, by decide⟩ h.1.1 h.1.2 ?_
      replace h := h.2
      refine i_iconst 30 rfl (by decide) ?_
      refine i_icmp_ne 59 31 rfl (by decide) (fun c => ?_) (fun c => ?_)
      · replace h := h.1 c
        refine i_lload_n 36 rfl rfl ?_
        have hb := h.1
        replace h := h.2 _ rfl
        refine i_last (τ := 29) 37 rfl ⟨rfl, rfl, rfl, by decide⟩ hb.1 hb.2 ?_
        refine i_iconst 38 rfl (by decide) ?_
        exact i_ireturn 39 rfl rfl h
      · replace h := h.2 c
        refine i_lload_n 32 rfl rfl ?_
        refine i_l2i 33 rfl ?_
        refine i_i2l 34 rfl ?_
        refine i_goto 60 35 rfl (by decide) ?_
        have hb := h.1
        replace h := h.2 _ rfl
        refine i_last (τ := 29) 37 rfl ⟨rfl, rfl, rfl, by decide⟩ hb.1 hb.2 ?_
        refine i_iconst 38 rfl (by decide) ?_
        exact i_ireturn 39 rfl rfl h
    · replace h := h.2 c
      refine i_lload_n 21 rfl rfl ?_
      refine i_l2i 22 rfl ?_
      refine i_i2b 23 rfl ?_
      refine i_i2l 24 rfl ?_
      refine i_goto 60 25 rfl (by decide) ?_
      have hb := h.1
      replace h := h.2 _ rfl
      refine i_last (τ := 29) 37 rfl ⟨rfl, rfl, rfl, by decide⟩ hb.1 hb.2 ?_
      refine i_iconst 38 rfl (by decide) ?_
      exact i_ireturn 39 rfl rfl h
  · replace h := h.2 c
    refine i_aload_n 7 rfl rfl (by decide) ?_
    refine i_iload 8 rfl rfl ?_
    refine i_callV (c := 11) (y1 := m_X11_finds) (z1 := (1, 0, 0)) (z2 := (4, 0, 0)) [(0, zr2)] 9 rfl ml_1233 ok_X11_finds vk_X11_finds ⟨by decide, rfl⟩ rfl ⟨rfl, Nat.le_of_ble_eq_true rfl⟩ (Nat.le_of_ble_eq_true rfl) ⟨by decide, rfl, rfl, rfl⟩ ?_
    refine h.mono (fun r zM6 h => ?_)
    obtain ⟨zr7, rfl, h⟩ := h
    simp only [Option.toList_some, Option.toList_none, List.cons_append, List.nil_append]
    exact i_ireturn 10 rfl rfl h
theorem u_X11_item_0 {l : Launch} {E : xE} (a1 a2 : Int) {M : xM} {Q : Option xV → xM → Prop} (h : x_Ev l E (3, 0, 0) m_X11_whyNot 0 [(21, 103), (0, a1), (0, a2)] [] M (fun r zM1 => ∃ zr2, r = some (0, zr2) ∧ (zr2 < 0 → ((0 : Int) ≤ a1 ∧ (a1 : Int) < 4) ∧ ((0 : Int) ≤ a2 ∧ (a2 : Int) < 40) ∧ Q (some (1, (zM1 (546 + 1 + 1 * a1) a2))) zM1) ∧ (¬ zr2 < 0 → x_Ev l E (1, 0, 0) m_X11_findsLong 0 [(21, 103), (0, zr2)] [] zM1 (fun r zM3 => ∃ zr4, r = some (1, zr4) ∧ Q (some (1, zr4)) zM3)))) : x_Ev l E (4, 0, 0) m_X11_item 0 [(21, 103), (0, a1), (0, a2), (5, 0)] [] M Q := by
  refine i_aload_n 0 rfl rfl (by decide) ?_
  refine i_iload_n 1 rfl rfl ?_
  refine i_iload_n 2 rfl rfl ?_
  refine i_callV (c := 11) (y1 := m_X11_whyNot) (z1 := (3, 0, 0)) (z2 := (4, 0, 0)) [(0, a1), (0, a2)] 3 rfl ml_1725 ok_X11_whyNot vk_X11_whyNot ⟨by decide, rfl⟩ rfl ⟨rfl, Nat.le_of_ble_eq_true rfl⟩ (Nat.le_of_ble_eq_true rfl) ⟨by decide, rfl, rfl, rfl⟩ ?_
  refine h.mono (fun r zM1 h => ?_)
  obtain ⟨zr2, rfl, h⟩ := h
  simp only [Option.toList_some, Option.toList_none, List.cons_append, List.nil_append]
  refine i_istore_n 4 rfl (by decide) rfl ?_
  refine i_iload_n 5 rfl rfl ?_
  refine i_if_lt 19 6 rfl (by decide) (fun c => ?_) (fun c => ?_)
  · replace h := h.1 c
    refine i_aload_n 11 rfl rfl (by decide) ?_
    refine i_getP (c := 11) (k := 46) (t := 136) (b := 546) 12 rfl fl_1095 (by decide) rfl (by decide) rfl ?_
    refine i_iload_n 13 rfl rfl ?_
    refine i_aald (τ := 36) (t := 129) (len := 4) (b := (546 + 1 + 1 * a1)) 14 rfl (by decide) rfl h.1.1 h.1.2 ?_
    replace h := h.2
    refine i_iload_n 15 rfl rfl ?_
    refine i_lald (τ := 29) 16 rfl ⟨rfl, rfl, rfl, by decide⟩ h.1.1 h.1.2 ?_
    replace h := h.2
    exact i_lreturn 17 rfl rfl h
  · replace h := h.2 c
    refine i_aload_n 7 rfl rfl (by decide) ?_
    refine i_iload_n 8 rfl rfl ?_
    refine i_callV (c := 11) (y1 := m_X11_findsLong) (z1 := (1, 0, 0)) (z2 := (4, 0, 0)) [(0, zr2)] 9 rfl ml_1407 ok_X11_findsLong vk_X11_findsLong ⟨by decide, rfl⟩ rfl ⟨rfl, Nat.le_of_ble_eq_true rfl⟩ (Nat.le_of_ble_eq_true rfl) ⟨by decide, rfl, rfl, rfl⟩ ?_
    refine h.mono (fun r zM3 h => ?_)
    obtain ⟨zr4, rfl, h⟩ := h
    simp only [Option.toList_some, Option.toList_none, List.cons_append, List.nil_append]
    refine i_goto 27 10 rfl (by decide) ?_
    exact i_lreturn 17 rfl rfl h
theorem u_X11_copy_0 {l : Launch} {E : xE} (a1 a2 a3 a4 a5 : Int) {M : xM} {Q : Option xV → xM → Prop} (h : x_Ev l E (2, 0, 0) m_X11_isSheet 0 [(0, a1)] [] M (fun r zM1 => ∃ zr2, r = some (0, zr2) ∧ (zr2 = 0 → x_Ev l E (1, 0, 0) m_X11_finds 0 [(21, 103), (0, 0)] [] zM1 (fun r zM3 => ∃ zr4, r = some (0, zr4) ∧ Q (some (0, zr4)) zM3)) ∧ (¬ zr2 = 0 → x_Ev l E (2, 0, 0) m_X11_isSheet 0 [(0, a3)] [] zM1 (fun r zM5 => ∃ zr6, r = some (0, zr6) ∧ (¬ zr6 = 0 → ((0 : Int) ≤ a1 ∧ (a1 : Int) < 4) ∧ ((zM5 544 a1) < 0 → x_Ev l E (1, 0, 0) m_X11_finds 0 [(21, 103), (0, 5)] [] zM5 (fun r zM7 => ∃ zr8, r = some (0, zr8) ∧ Q (some (0, zr8)) zM7)) ∧ (¬ (zM5 544 a1) < 0 → ((0 : Int) ≤ a3 ∧ (a3 : Int) < 4) ∧ (0 ≤ (zM5 544 a3) → ((0 : Int) ≤ a1 ∧ (a1 : Int) < 4) ∧ ((0 : Int) ≤ a3 ∧ (a3 : Int) < 4) ∧ ((zM5 544 a1) = (zM5 544 a3) → (a2 < 0 → x_Ev l E (1, 0, 0) m_X11_finds 0 [(21, 103), (0, 0)] [] zM5 (fun r zM9 => ∃ zr10, r = some (0, zr10) ∧ Q (some (0, zr10)) zM9)) ∧ (¬ a2 < 0 → (a4 < 0 → x_Ev l E (1, 0, 0) m_X11_finds 0 [(21, 103), (0, 0)] [] zM5 (fun r zM11 => ∃ zr12, r = some (0, zr12) ∧ Q (some (0, zr12)) zM11)) ∧ (¬ a4 < 0 → (a5 < 0 → x_Ev l E (1, 0, 0) m_X11_finds 0 [(21, 103), (0, 0)] [] zM5 (fun r zM13 => ∃ zr14, r = some (0, zr14) ∧ Q (some (0, zr14)) zM13)) ∧ (¬ a5 < 0 → ((0 : Int) ≤ a1 ∧ (a1 : Int) < 4) ∧ ((zM5 545 a1) < (x_W (a2 + a5)) → x_Ev l E (1, 0, 0) m_X11_finds 0 [(21, 103), (0, 0)] [] zM5 (fun r zM15 => ∃ zr16, r = some (0, zr16) ∧ Q (some (0, zr16)) zM15)) ∧ (¬ (zM5 545 a1) < (x_W (a2 + a5)) → ((0 : Int) ≤ a3 ∧ (a3 : Int) < 4) ∧ ((x_W (a4 + a5)) ≤ (zM5 545 a3) → x_Ev l E (3, 0, 0) m_X11_copy 123 [(21, 103), (0, a1), (0, a2), (0, a3), (0, a4), (0, a5), (0, 0)] [] zM5 Q) ∧ (¬ (x_W (a4 + a5)) ≤ (zM5 545 a3) → x_Ev l E (1, 0, 0) m_X11_finds 0 [(21, 103), (0, 0)] [] zM5 (fun r zM17 => ∃ zr18, r = some (0, zr18) ∧ Q (some (0, zr18)) zM17))))))) ∧ (¬ (zM5 544 a1) = (zM5 544 a3) → x_Ev l E (1, 0, 0) m_X11_finds 0 [(21, 103), (0, 2)] [] zM5 (fun r zM19 => ∃ zr20, r = some (0, zr20) ∧ Q (some (0, zr20)) zM19))) ∧ (¬ 0 ≤ (zM5 544 a3) → x_Ev l E (1, 0, 0) m_X11_finds 0 [(21, 103), (0, 5)] [] zM5 (fun r zM21 => ∃ zr22, r = some (0, zr22) ∧ Q (some (0, zr22)) zM21)))) ∧ (zr6 = 0 → x_Ev l E (1, 0, 0) m_X11_finds 0 [(21, 103), (0, 0)] [] zM5 (fun r zM23 => ∃ zr24, r = some (0, zr24) ∧ Q (some (0, zr24)) zM23)))))) : x_Ev l E (3, 0, 0) m_X11_copy 0 [(21, 103), (0, a1), (0, a2), (0, a3), (0, a4), (0, a5), (5, 0)] [] M Q := by
  refine i_iload_n 0 rfl rfl ?_
  refine i_callS (y1 := m_X11_isSheet) (z1 := (2, 0, 0)) (z2 := (3, 0, 0)) [(0, a1)] 1 rfl ml_1541 ok_X11_isSheet vk_X11_isSheet rfl ⟨rfl, Nat.le_of_ble_eq_true rfl⟩ (Nat.le_of_ble_eq_true rfl) ⟨by decide, rfl, rfl, rfl⟩ ?_
  refine h.mono (fun r zM1 h => ?_)
  obtain ⟨zr2, rfl, h⟩ := h
  simp only [Option.toList_some, Option.toList_none, List.cons_append, List.nil_append]
  refine i_if_eq 14 2 rfl (by decide) (fun c => ?_) (fun c => ?_)
  · replace h := h.1 c
    refine i_aload_n 6 rfl rfl (by decide) ?_
    refine i_iconst 7 rfl (by decide) ?_
    refine i_callV (c := 11) (y1 := m_X11_finds) (z1 := (1, 0, 0)) (z2 := (3, 0, 0)) [(0, 0)] 8 rfl ml_1233 ok_X11_finds vk_X11_finds ⟨by decide, rfl⟩ rfl ⟨rfl, Nat.le_of_ble_eq_true rfl⟩ (Nat.le_of_ble_eq_true rfl) ⟨by decide, rfl, rfl, rfl⟩ ?_
    refine h.mono (fun r zM3 h => ?_)
    obtain ⟨zr4, rfl, h⟩ := h
    simp only [Option.toList_some, Option.toList_none, List.cons_append, List.nil_append]
    exact i_ireturn 9 rfl rfl h
  · replace h := h.2 c
    refine i_iload_n 3 rfl rfl ?_
    refine i_callS (y1 := m_X11_isSheet) (z1 := (2, 0, 0)) (z2 := (3, 0, 0)) [(0, a3)] 4 rfl ml_1541 ok_X11_isSheet vk_X11_isSheet rfl ⟨rfl, Nat.le_of_ble_eq_true rfl⟩ (Nat.le_of_ble_eq_true rfl) ⟨by decide, rfl, rfl, rfl⟩ ?_
    refine h.mono (fun r zM5 h => ?_)
    obtain ⟨zr6, rfl, h⟩ := h
    simp only [Option.toList_some, Option.toList_none, List.cons_append, List.nil_append]
    refine i_if_ne 20 5 rfl (by decide) (fun c => ?_) (fun c => ?_)
    · replace h := h.1 c
      refine i_aload_n 10 rfl rfl (by decide) ?_
      refine i_getP (c := 11) (k := 44) (t := 103) (b := 544) 11 rfl fl_1093 (by decide) rfl (by decide) rfl ?_
      refine i_iload_n 12 rfl rfl ?_
      refine i_iald (τ := 3) 13 rfl ⟨rfl, rfl, rfl, by decide⟩ h.1.1 h.1.2 ?_
      replace h := h.2
      refine i_if_lt 38 14 rfl (by decide) (fun c => ?_) (fun c => ?_)
      · replace h := h.1 c
        refine i_aload_n 20 rfl rfl (by decide) ?_
        refine i_iconst 21 rfl (by decide) ?_
        refine i_callV (c := 11) (y1 := m_X11_finds) (z1 := (1, 0, 0)) (z2 := (3, 0, 0)) [(0, 5)] 22 rfl ml_1233 ok_X11_finds vk_X11_finds ⟨by decide, rfl⟩ rfl ⟨rfl, Nat.le_of_ble_eq_true rfl⟩ (Nat.le_of_ble_eq_true rfl) ⟨by decide, rfl, rfl, rfl⟩ ?_
        refine h.mono (fun r zM7 h => ?_)
        obtain ⟨zr8, rfl, h⟩ := h
        simp only [Option.toList_some, Option.toList_none, List.cons_append, List.nil_append]
        exact i_ireturn 23 rfl rfl h
      · replace h := h.2 c
        refine i_aload_n 15 rfl rfl (by decide) ?_
        refine i_getP (c := 11) (k := 44) (t := 103) (b := 544) 16 rfl fl_1093 (by decide) rfl (by decide) rfl ?_
        refine i_iload_n 17 rfl rfl ?_
        refine i_iald (τ := 3) 18 rfl ⟨rfl, rfl, rfl, by decide⟩ h.1.1 h.1.2 ?_
        replace h := h.2
        refine i_if_ge 44 19 rfl (by decide) (fun c => ?_) (fun c => ?_)
        · replace h := h.1 c
          refine i_aload_n 24 rfl rfl (by decide) ?_
          refine i_getP (c := 11) (k := 44) (t := 103) (b := 544) 25 rfl fl_1093 (by decide) rfl (by decide) rfl ?_
          refine i_iload_n 26 rfl rfl ?_
          refine i_iald (τ := 3) 27 rfl ⟨rfl, rfl, rfl, by decide⟩ h.1.1 h.1.2 ?_
          replace h := h.2
          refine i_aload_n 28 rfl rfl (by decide) ?_
          refine i_getP (c := 11) (k := 44) (t := 103) (b := 544) 29 rfl fl_1093 (by decide) rfl (by decide) rfl ?_
          refine i_iload_n 30 rfl rfl ?_
          refine i_iald (τ := 3) 31 rfl ⟨rfl, rfl, rfl, by decide⟩ h.1.1 h.1.2 ?_
          replace h := h.2
          refine i_icmp_eq 65 32 rfl (by decide) (fun c => ?_) (fun c => ?_)
          · replace h := h.1 c
            refine i_iload_n 37 rfl rfl ?_
            refine i_if_lt 114 38 rfl (by decide) (fun c => ?_) (fun c => ?_)
            · replace h := h.1 c
              refine i_aload_n 67 rfl rfl (by decide) ?_
              refine i_iconst 68 rfl (by decide) ?_
              refine i_callV (c := 11) (y1 := m_X11_finds) (z1 := (1, 0, 0)) (z2 := (3, 0, 0)) [(0, 0)] 69 rfl ml_1233 ok_X11_finds vk_X11_finds ⟨by decide, rfl⟩ rfl ⟨rfl, Nat.le_of_ble_eq_true rfl⟩ (Nat.le_of_ble_eq_true rfl) ⟨by decide, rfl, rfl, rfl⟩ ?_
              refine h.mono (fun r zM9 h => ?_)
              obtain ⟨zr10, rfl, h⟩ := h
              simp only [Option.toList_some, Option.toList_none, List.cons_append, List.nil_append]
              exact i_ireturn 70 rfl rfl h
            · replace h := h.2 c
              refine i_iload 39 rfl rfl ?_
              refine i_if_lt 114 40 rfl (by decide) (fun c => ?_) (fun c => ?_)
              · replace h := h.1 c
                refine i_aload_n 67 rfl rfl (by decide) ?_
                refine i_iconst 68 rfl (by decide) ?_
                refine i_callV (c := 11) (y1 := m_X11_finds) (z1 := (1, 0, 0)) (z2 := (3, 0, 0)) [(0, 0)] 69 rfl ml_1233 ok_X11_finds vk_X11_finds ⟨by decide, rfl⟩ rfl ⟨rfl, Nat.le_of_ble_eq_true rfl⟩ (Nat.le_of_ble_eq_true rfl) ⟨by decide, rfl, rfl, rfl⟩ ?_
                refine h.mono (fun r zM11 h => ?_)
                obtain ⟨zr12, rfl, h⟩ := h
                simp only [Option.toList_some, Option.toList_none, List.cons_append, List.nil_append]
                exact i_ireturn 70 rfl rfl h
              · replace h := h.2 c
                refine i_iload 41 rfl rfl ?_
                refine i_if_lt 114 42 rfl (by decide) (fun c => ?_) (fun c => ?_)
                · replace h := h.1 c
                  refine i_aload_n 67 rfl rfl (by decide) ?_
                  refine i_iconst 68 rfl (by decide) ?_
                  refine i_callV (c := 11) (y1 := m_X11_finds) (z1 := (1, 0, 0)) (z2 := (3, 0, 0)) [(0, 0)] 69 rfl ml_1233 ok_X11_finds vk_X11_finds ⟨by decide, rfl⟩ rfl ⟨rfl, Nat.le_of_ble_eq_true rfl⟩ (Nat.le_of_ble_eq_true rfl) ⟨by decide, rfl, rfl, rfl⟩ ?_
                  refine h.mono (fun r zM13 h => ?_)
                  obtain ⟨zr14, rfl, h⟩ := h
                  simp only [Option.toList_some, Option.toList_none, List.cons_append, List.nil_append]
                  exact i_ireturn 70 rfl rfl h
                · replace h := h.2 c
                  refine i_iload_n 43 rfl rfl ?_
                  refine i_i2l 44 rfl ?_
                  refine i_iload 45 rfl rfl ?_
                  refine i_i2l 46 rfl ?_
                  refine i_ladd 47 rfl ?_
                  refine i_aload_n 48 rfl rfl (by decide) ?_
                  refine i_getP (c := 11) (k := 45) (t := 103) (b := 545) 49 rfl fl_1094 (by decide) rfl (by decide) rfl ?_
                  refine i_iload_n 50 rfl rfl ?_
                  refine i_iald (τ := 3) 51 rfl ⟨rfl, rfl, rfl, by decide⟩ h.1.1 h.1.2 ?_
                  replace h := h.2
                  refine i_i2l 52 rfl ?_
                  refine i_lcmp_gt 114 53 rfl rfl (by decide) (fun c => ?_) (fun c => ?_)
                  · replace h := h.1 c
                    refine i_aload_n 67 rfl rfl (by decide) ?_
                    refine i_iconst 68 rfl (by decide) ?_
                    refine i_callV (c := 11) (y1 := m_X11_finds) (z1 := (1, 0, 0)) (z2 := (3, 0, 0)) [(0, 0)] 69 rfl ml_1233 ok_X11_finds vk_X11_finds ⟨by decide, rfl⟩ rfl ⟨rfl, Nat.le_of_ble_eq_true rfl⟩ (Nat.le_of_ble_eq_true rfl) ⟨by decide, rfl, rfl, rfl⟩ ?_
                    refine h.mono (fun r zM15 h => ?_)
                    obtain ⟨zr16, rfl, h⟩ := h
                    simp only [Option.toList_some, Option.toList_none, List.cons_append, List.nil_append]
                    exact i_ireturn 70 rfl rfl h
                  · replace h := h.2 c
                    refine i_iload 55 rfl rfl ?_
                    refine i_i2l 56 rfl ?_
                    refine i_iload 57 rfl rfl ?_
                    refine i_i2l 58 rfl ?_
                    refine i_ladd 59 rfl ?_
                    refine i_aload_n 60 rfl rfl (by decide) ?_
                    refine i_getP (c := 11) (k := 45) (t := 103) (b := 545) 61 rfl fl_1094 (by decide) rfl (by decide) rfl ?_
                    refine i_iload_n 62 rfl rfl ?_
                    refine i_iald (τ := 3) 63 rfl ⟨rfl, rfl, rfl, by decide⟩ h.1.1 h.1.2 ?_
                    replace h := h.2
                    refine i_i2l 64 rfl ?_
                    refine i_lcmp_le 120 65 rfl rfl (by decide) (fun c => ?_) (fun c => ?_)
                    · replace h := h.1 c
                      refine i_iconst 71 rfl (by decide) ?_
                      refine i_istore 72 rfl (by decide) rfl ?_
                      exact h
                    · replace h := h.2 c
                      refine i_aload_n 67 rfl rfl (by decide) ?_
                      refine i_iconst 68 rfl (by decide) ?_
                      refine i_callV (c := 11) (y1 := m_X11_finds) (z1 := (1, 0, 0)) (z2 := (3, 0, 0)) [(0, 0)] 69 rfl ml_1233 ok_X11_finds vk_X11_finds ⟨by decide, rfl⟩ rfl ⟨rfl, Nat.le_of_ble_eq_true rfl⟩ (Nat.le_of_ble_eq_true rfl) ⟨by decide, rfl, rfl, rfl⟩ ?_
                      refine h.mono (fun r zM17 h => ?_)
                      obtain ⟨zr18, rfl, h⟩ := h
                      simp only [Option.toList_some, Option.toList_none, List.cons_append, List.nil_append]
                      exact i_ireturn 70 rfl rfl h
          · replace h := h.2 c
            refine i_aload_n 33 rfl rfl (by decide) ?_
            refine i_iconst 34 rfl (by decide) ?_
            refine i_callV (c := 11) (y1 := m_X11_finds) (z1 := (1, 0, 0)) (z2 := (3, 0, 0)) [(0, 2)] 35 rfl ml_1233 ok_X11_finds vk_X11_finds ⟨by decide, rfl⟩ rfl ⟨rfl, Nat.le_of_ble_eq_true rfl⟩ (Nat.le_of_ble_eq_true rfl) ⟨by decide, rfl, rfl, rfl⟩ ?_
            refine h.mono (fun r zM19 h => ?_)
            obtain ⟨zr20, rfl, h⟩ := h
            simp only [Option.toList_some, Option.toList_none, List.cons_append, List.nil_append]
            exact i_ireturn 36 rfl rfl h
        · replace h := h.2 c
          refine i_aload_n 20 rfl rfl (by decide) ?_
          refine i_iconst 21 rfl (by decide) ?_
          refine i_callV (c := 11) (y1 := m_X11_finds) (z1 := (1, 0, 0)) (z2 := (3, 0, 0)) [(0, 5)] 22 rfl ml_1233 ok_X11_finds vk_X11_finds ⟨by decide, rfl⟩ rfl ⟨rfl, Nat.le_of_ble_eq_true rfl⟩ (Nat.le_of_ble_eq_true rfl) ⟨by decide, rfl, rfl, rfl⟩ ?_
          refine h.mono (fun r zM21 h => ?_)
          obtain ⟨zr22, rfl, h⟩ := h
          simp only [Option.toList_some, Option.toList_none, List.cons_append, List.nil_append]
          exact i_ireturn 23 rfl rfl h
    · replace h := h.2 c
      refine i_aload_n 6 rfl rfl (by decide) ?_
      refine i_iconst 7 rfl (by decide) ?_
      refine i_callV (c := 11) (y1 := m_X11_finds) (z1 := (1, 0, 0)) (z2 := (3, 0, 0)) [(0, 0)] 8 rfl ml_1233 ok_X11_finds vk_X11_finds ⟨by decide, rfl⟩ rfl ⟨rfl, Nat.le_of_ble_eq_true rfl⟩ (Nat.le_of_ble_eq_true rfl) ⟨by decide, rfl, rfl, rfl⟩ ?_
      refine h.mono (fun r zM23 h => ?_)
      obtain ⟨zr24, rfl, h⟩ := h
      simp only [Option.toList_some, Option.toList_none, List.cons_append, List.nil_append]
      exact i_ireturn 9 rfl rfl h
theorem u_X11_copy_123 {l : Launch} {E : xE} (l1 l2 l3 l4 l5 l6 : Int) {M : xM} {Q : Option xV → xM → Prop} (h : (l5 ≤ l6 → x_Ev l E (3, 0, 0) m_X11_copy 157 [(21, 103), (0, l1), (0, l2), (0, l3), (0, l4), (0, l5), (0, 0)] [] M Q) ∧ (¬ l5 ≤ l6 → ((0 : Int) ≤ l1 ∧ (l1 : Int) < 4) ∧ ((0 : Int) ≤ (x_w (l2 + l6)) ∧ ((x_w (l2 + l6)) : Int) < 40) ∧ (0 ≤ l6 ∧ l6 < 40) ∧ ∀ zM1 : xM, zM1 = x_wr M 551 l6 (M (546 + 1 + 1 * l1) (x_w (l2 + l6))) → ∀ zv2 : Int, zv2 = x_w (l6 + 1) → x_Ev l E (3, 0, 0) m_X11_copy 123 [(21, 103), (0, l1), (0, l2), (0, l3), (0, l4), (0, l5), (0, zv2)] [] zM1 Q)) : x_Ev l E (3, 0, 0) m_X11_copy 123 [(21, 103), (0, l1), (0, l2), (0, l3), (0, l4), (0, l5), (0, l6)] [] M Q := by
  refine i_iload 73 rfl rfl ?_
  refine i_iload 74 rfl rfl ?_
  refine i_icmp_ge 154 75 rfl (by decide) (fun c => ?_) (fun c => ?_)
  · replace h := h.1 c
    refine i_iconst 90 rfl (by decide) ?_
    refine i_istore 91 rfl (by decide) rfl ?_
    exact h
  · replace h := h.2 c
    refine i_aload_n 76 rfl rfl (by decide) ?_
    refine i_getP (c := 11) (k := 47) (t := 129) (b := 551) 77 rfl fl_1096 (by decide) rfl (by decide) rfl ?_
    refine i_iload 78 rfl rfl ?_
    refine i_aload_n 79 rfl rfl (by decide) ?_
    refine i_getP (c := 11) (k := 46) (t := 136) (b := 546) 80 rfl fl_1095 (by decide) rfl (by decide) rfl ?_
    refine i_iload_n 81 rfl rfl ?_
    refine i_aald (τ := 36) (t := 129) (len := 4) (b := (546 + 1 + 1 * l1)) 82 rfl (by decide) rfl h.1.1 h.1.2 ?_
    replace h := h.2
    refine i_iload_n 83 rfl rfl ?_
    refine i_iload 84 rfl rfl ?_
    refine i_iadd 85 rfl ?_
    refine i_lald (τ := 29) 86 rfl ⟨rfl, rfl, rfl, by decide⟩ h.1.1 h.1.2 ?_
    replace h := h.2
    have hb := h.1
    replace h := h.2 _ rfl
    refine i_last (τ := 29) 87 rfl ⟨rfl, rfl, rfl, by decide⟩ hb.1 hb.2 ?_
    replace h := h _ rfl
    refine i_iinc 88 rfl rfl (by decide) rfl ?_
    refine i_goto 123 89 rfl (by decide) ?_
    exact h
theorem u_X11_copy_157 {l : Launch} {E : xE} (l1 l2 l3 l4 l5 l6 : Int) {M : xM} {Q : Option xV → xM → Prop} (h : (l5 ≤ l6 → Q (some (0, l5)) M) ∧ (¬ l5 ≤ l6 → ((0 : Int) ≤ l3 ∧ (l3 : Int) < 4) ∧ ((0 : Int) ≤ l6 ∧ (l6 : Int) < 40) ∧ (0 ≤ (x_w (l4 + l6)) ∧ (x_w (l4 + l6)) < 40) ∧ ∀ zM1 : xM, zM1 = x_wr M (546 + 1 + 1 * l3) (x_w (l4 + l6)) (M 551 l6) → ∀ zv2 : Int, zv2 = x_w (l6 + 1) → x_Ev l E (3, 0, 0) m_X11_copy 157 [(21, 103), (0, l1), (0, l2), (0, l3), (0, l4), (0, l5), (0, zv2)] [] zM1 Q)) : x_Ev l E (3, 0, 0) m_X11_copy 157 [(21, 103), (0, l1), (0, l2), (0, l3), (0, l4), (0, l5), (0, l6)] [] M Q := by
  refine i_iload 92 rfl rfl ?_
  refine i_iload 93 rfl rfl ?_
  refine i_icmp_ge 189 94 rfl (by decide) (fun c => ?_) (fun c => ?_)
  · replace h := h.1 c
    refine i_iload 109 rfl rfl ?_
    exact i_ireturn 110 rfl rfl h
  · replace h := h.2 c
    refine i_aload_n 95 rfl rfl (by decide) ?_
    refine i_getP (c := 11) (k := 46) (t := 136) (b := 546) 96 rfl fl_1095 (by decide) rfl (by decide) rfl ?_
    refine i_iload_n 97 rfl rfl ?_
    refine i_aald (τ := 36) (t := 129) (len := 4) (b := (546 + 1 + 1 * l3)) 98 rfl (by decide) rfl h.1.1 h.1.2 ?_
    replace h := h.2
    refine i_iload 99 rfl rfl ?_
    refine i_iload 100 rfl rfl ?_
    refine i_iadd 101 rfl ?_
    refine i_aload_n 102 rfl rfl (by decide) ?_
    refine i_getP (c := 11) (k := 47) (t := 129) (b := 551) 103 rfl fl_1096 (by decide) rfl (by decide) rfl ?_
    refine i_iload 104 rfl rfl ?_
    refine i_lald (τ := 29) 105 rfl ⟨rfl, rfl, rfl, by decide⟩ h.1.1 h.1.2 ?_
    replace h := h.2
    have hb := h.1
    replace h := h.2 _ rfl
    refine i_last (τ := 29) 106 rfl ⟨rfl, rfl, rfl, by decide⟩ hb.1 hb.2 ?_
    replace h := h _ rfl
    refine i_iinc 107 rfl rfl (by decide) rfl ?_
    refine i_goto 157 108 rfl (by decide) ?_
    exact h
theorem u_X11_hold_0 {l : Launch} {E : xE} (a1 a2 a3 : Int) {M : xM} {Q : Option xV → xM → Prop} (h : x_Ev l E (1, 0, 0) m_X11_in 0 [(1, a1), (5, 0), (1, 0), (5, 0), (1, 9), (5, 0)] [] M (fun r zM1 => ∃ zr2, r = some (0, zr2) ∧ (zr2 = 0 → x_Ev l E (1, 0, 0) m_X11_finds 0 [(21, 103), (0, 0)] [] zM1 (fun r zM3 => ∃ zr4, r = some (0, zr4) ∧ Q (some (0, zr4)) zM3)) ∧ (¬ zr2 = 0 → x_Ev l E (1, 0, 0) m_X11_in 0 [(1, a2), (5, 0), (1, 0), (5, 0), (1, 3), (5, 0)] [] zM1 (fun r zM5 => ∃ zr6, r = some (0, zr6) ∧ (zr6 = 0 → x_Ev l E (1, 0, 0) m_X11_finds 0 [(21, 103), (0, 0)] [] zM5 (fun r zM7 => ∃ zr8, r = some (0, zr8) ∧ Q (some (0, zr8)) zM7)) ∧ (¬ zr6 = 0 → (¬ a2 = 0 → (¬ a2 = 2 → (a2 = 3 → (0 ≤ a1 ∧ a1 < 10) ∧ ∀ zM9 : xM, zM9 = x_wr zM5 552 a1 0 → (0 ≤ a1 ∧ a1 < 10) ∧ ∀ zM10 : xM, zM10 = x_wr zM9 553 a1 0 → (0 ≤ a1 ∧ a1 < 10) ∧ ∀ zM11 : xM, zM11 = x_wr zM10 554 a1 (-1) → Q (some (0, 1)) zM11) ∧ (¬ a2 = 3 → (0 ≤ a1 ∧ a1 < 10) ∧ ∀ zM12 : xM, zM12 = x_wr zM5 552 a1 (x_w (1 + a2)) → (¬ a2 = 1 → (0 ≤ a1 ∧ a1 < 10) ∧ ∀ zM13 : xM, zM13 = x_wr zM12 553 a1 0 → (0 ≤ a1 ∧ a1 < 10) ∧ ∀ zM14 : xM, zM14 = x_wr zM13 554 a1 (-1) → Q (some (0, 1)) zM14) ∧ (a2 = 1 → ((zM12 103 10) ≠ 0) ∧ (0 ≤ a1 ∧ a1 < 10) ∧ ∀ zM15 : xM, zM15 = x_wr zM12 553 a1 (x_w (x_W ((zM12 103 9).tdiv (zM12 103 10)))) → (0 ≤ a1 ∧ a1 < 10) ∧ ∀ zM16 : xM, zM16 = x_wr zM15 554 a1 (-1) → Q (some (0, 1)) zM16))) ∧ (a2 = 2 → x_Ev l E (2, 0, 0) m_X11_isSheet 0 [(0, a3)] [] zM5 (fun r zM17 => ∃ zr18, r = some (0, zr18) ∧ (¬ zr18 = 0 → ((0 : Int) ≤ a3 ∧ (a3 : Int) < 4) ∧ (0 ≤ (zM17 544 a3) → (0 ≤ a1 ∧ a1 < 10) ∧ ∀ zM19 : xM, zM19 = x_wr zM17 552 a1 (x_w (1 + a2)) → ((0 : Int) ≤ a3 ∧ (a3 : Int) < 4) ∧ (0 ≤ a1 ∧ a1 < 10) ∧ ∀ zM20 : xM, zM20 = x_wr zM19 553 a1 (zM19 545 a3) → ((0 : Int) ≤ a3 ∧ (a3 : Int) < 4) ∧ (0 ≤ a1 ∧ a1 < 10) ∧ ∀ zM21 : xM, zM21 = x_wr zM20 554 a1 (zM20 544 a3) → Q (some (0, 1)) zM21) ∧ (¬ 0 ≤ (zM17 544 a3) → (0 ≤ a1 ∧ a1 < 10) ∧ ∀ zM22 : xM, zM22 = x_wr zM17 552 a1 0 → ((0 : Int) ≤ a3 ∧ (a3 : Int) < 4) ∧ (0 ≤ a1 ∧ a1 < 10) ∧ ∀ zM23 : xM, zM23 = x_wr zM22 553 a1 (zM22 545 a3) → ((0 : Int) ≤ a3 ∧ (a3 : Int) < 4) ∧ (0 ≤ a1 ∧ a1 < 10) ∧ ∀ zM24 : xM, zM24 = x_wr zM23 554 a1 (zM23 544 a3) → Q (some (0, 1)) zM24)) ∧ (zr18 = 0 → x_Ev l E (1, 0, 0) m_X11_finds 0 [(21, 103), (0, 0)] [] zM17 (fun r zM25 => ∃ zr26, r = some (0, zr26) ∧ Q (some (0, zr26)) zM25))))) ∧ (a2 = 0 → x_Ev l E (2, 0, 0) m_X11_isFollower 0 [(21, 103), (0, a3)] [] zM5 (fun r zM27 => ∃ zr28, r = some (0, zr28) ∧ (zr28 = 0 → x_Ev l E (1, 0, 0) m_X11_finds 0 [(21, 103), (0, 0)] [] zM27 (fun r zM29 => ∃ zr30, r = some (0, zr30) ∧ Q (some (0, zr30)) zM29)) ∧ (¬ zr28 = 0 → (0 ≤ a1 ∧ a1 < 10) ∧ ∀ zM31 : xM, zM31 = x_wr zM27 552 a1 (x_w (1 + a2)) → (0 ≤ a1 ∧ a1 < 10) ∧ ∀ zM32 : xM, zM32 = x_wr zM31 553 a1 a3 → (0 ≤ a1 ∧ a1 < 10) ∧ ∀ zM33 : xM, zM33 = x_wr zM32 554 a1 (-1) → Q (some (0, 1)) zM33)))))))) : x_Ev l E (3, 0, 0) m_X11_hold 0 [(21, 103), (0, a1), (0, a2), (0, a3)] [] M Q := by
  refine i_iload_n 0 rfl rfl ?_
  refine i_i2l 1 rfl ?_
  refine i_lconst (w := 0) 2 rfl (by decide) ?_
  refine i_ldc2 (v := 9) 3 rfl cw_1348 (by decide) ?_
  refine i_callS (y1 := m_X11_in) (z1 := (1, 0, 0)) (z2 := (3, 0, 0)) [(1, a1), (1, 0), (1, 9)] 4 rfl ml_1229 ok_X11_in vk_X11_in rfl ⟨rfl, Nat.le_of_ble_eq_true rfl⟩ (Nat.le_of_ble_eq_true rfl) ⟨by decide, rfl, rfl, rfl⟩ ?_
  refine h.mono (fun r zM1 h => ?_)
  obtain ⟨zr2, rfl, h⟩ := h
  simp only [Option.toList_some, Option.toList_none, List.cons_append, List.nil_append]
  refine i_if_eq 48 5 rfl (by decide) (fun c => ?_) (fun c => ?_)
  · replace h := h.1 c
    refine i_aload_n 24 rfl rfl (by decide) ?_
    refine i_iconst 25 rfl (by decide) ?_
    refine i_callV (c := 11) (y1 := m_X11_finds) (z1 := (1, 0, 0)) (z2 := (3, 0, 0)) [(0, 0)] 26 rfl ml_1233 ok_X11_finds vk_X11_finds ⟨by decide, rfl⟩ rfl ⟨rfl, Nat.le_of_ble_eq_true rfl⟩ (Nat.le_of_ble_eq_true rfl) ⟨by decide, rfl, rfl, rfl⟩ ?_
    refine h.mono (fun r zM3 h => ?_)
    obtain ⟨zr4, rfl, h⟩ := h
    simp only [Option.toList_some, Option.toList_none, List.cons_append, List.nil_append]
    exact i_ireturn 27 rfl rfl h
  · replace h := h.2 c
    refine i_iload_n 6 rfl rfl ?_
    refine i_i2l 7 rfl ?_
    refine i_lconst (w := 0) 8 rfl (by decide) ?_
    refine i_ldc2 (v := 3) 9 rfl cw_1232 (by decide) ?_
    refine i_callS (y1 := m_X11_in) (z1 := (1, 0, 0)) (z2 := (3, 0, 0)) [(1, a2), (1, 0), (1, 3)] 10 rfl ml_1229 ok_X11_in vk_X11_in rfl ⟨rfl, Nat.le_of_ble_eq_true rfl⟩ (Nat.le_of_ble_eq_true rfl) ⟨by decide, rfl, rfl, rfl⟩ ?_
    refine h.mono (fun r zM5 h => ?_)
    obtain ⟨zr6, rfl, h⟩ := h
    simp only [Option.toList_some, Option.toList_none, List.cons_append, List.nil_append]
    refine i_if_eq 48 11 rfl (by decide) (fun c => ?_) (fun c => ?_)
    · replace h := h.1 c
      refine i_aload_n 24 rfl rfl (by decide) ?_
      refine i_iconst 25 rfl (by decide) ?_
      refine i_callV (c := 11) (y1 := m_X11_finds) (z1 := (1, 0, 0)) (z2 := (3, 0, 0)) [(0, 0)] 26 rfl ml_1233 ok_X11_finds vk_X11_finds ⟨by decide, rfl⟩ rfl ⟨rfl, Nat.le_of_ble_eq_true rfl⟩ (Nat.le_of_ble_eq_true rfl) ⟨by decide, rfl, rfl, rfl⟩ ?_
      refine h.mono (fun r zM7 h => ?_)
      obtain ⟨zr8, rfl, h⟩ := h
      simp only [Option.toList_some, Option.toList_none, List.cons_append, List.nil_append]
      exact i_ireturn 27 rfl rfl h
    · replace h := h.2 c
      refine i_iload_n 12 rfl rfl ?_
      refine i_if_ne 36 13 rfl (by decide) (fun c => ?_) (fun c => ?_)
      · replace h := h.1 c
        refine i_iload_n 18 rfl rfl ?_
        refine i_iconst 19 rfl (by decide) ?_
        refine i_icmp_ne 54 20 rfl (by decide) (fun c => ?_) (fun c => ?_)
        · replace h := h.1 c
          refine i_aload_n 28 rfl rfl (by decide) ?_
          refine i_getP (c := 11) (k := 48) (t := 110) (b := 552) 29 rfl fl_1097 (by decide) rfl (by decide) rfl ?_
          refine i_iload_n 30 rfl rfl ?_
          refine i_iload_n 31 rfl rfl ?_
          refine i_iconst 32 rfl (by decide) ?_
          refine i_icmp_eq 78 33 rfl (by decide) (fun c => ?_) (fun c => ?_)
          · replace h := h.1 c
            refine i_iconst 42 rfl (by decide) ?_
            refine i_goto 85 43 rfl (by decide) ?_
            have hb := h.1
            replace h := h.2 _ rfl
            refine i_iast (τ := 10) 47 rfl ⟨rfl, rfl, rfl, by decide⟩ hb.1 hb.2 ?_
            refine i_aload_n 48 rfl rfl (by decide) ?_
            refine i_getP (c := 11) (k := 49) (t := 110) (b := 553) 49 rfl fl_1098 (by decide) rfl (by decide) rfl ?_
            refine i_iload_n 50 rfl rfl ?_
            refine i_iload_n 51 rfl rfl ?_
            refine i_if_ne 99 52 rfl (by decide) (fun c => ?_) (fun c => ?_)
            · refine i_iload_n 55 rfl rfl ?_
              refine i_iconst 56 rfl (by decide) ?_
              refine i_icmp_ne 117 57 rfl (by decide) (fun c => ?_) (fun c => ?_)
              · refine i_iload_n 65 rfl rfl ?_
                refine i_iconst 66 rfl (by decide) ?_
                refine i_icmp_ne 131 67 rfl (by decide) (fun c => ?_) (fun c => ?_)
                · refine i_iconst 73 rfl (by decide) ?_
                  have hb := h.1
                  replace h := h.2 _ rfl
                  refine i_iast (τ := 10) 74 rfl ⟨rfl, rfl, rfl, by decide⟩ hb.1 hb.2 ?_
                  refine i_aload_n 75 rfl rfl (by decide) ?_
                  refine i_getP (c := 11) (k := 50) (t := 110) (b := 554) 76 rfl fl_1099 (by decide) rfl (by decide) rfl ?_
                  refine i_iload_n 77 rfl rfl ?_
                  refine i_iload_n 78 rfl rfl ?_
                  refine i_iconst 79 rfl (by decide) ?_
                  refine i_icmp_ne 152 80 rfl (by decide) (fun c => ?_) (fun c => ?_)
                  · refine i_iconst 86 rfl (by decide) ?_
                    have hb := h.1
                    replace h := h.2 _ rfl
                    refine i_iast (τ := 10) 87 rfl ⟨rfl, rfl, rfl, by decide⟩ hb.1 hb.2 ?_
                    refine i_iconst 88 rfl (by decide) ?_
                    exact i_ireturn 89 rfl rfl h
                  · exact absurd c (by omega)
                · exact absurd c (by omega)
              · exact absurd c (by omega)
            · exact absurd c (by omega)
          · replace h := h.2 c
            refine i_iload_n 34 rfl rfl ?_
            refine i_iconst 35 rfl (by decide) ?_
            refine i_icmp_ne 82 36 rfl (by decide) (fun c => ?_) (fun c => ?_)
            · refine i_iconst 44 rfl (by decide) ?_
              refine i_iload_n 45 rfl rfl ?_
              refine i_iadd 46 rfl ?_
              have hb := h.1
              replace h := h.2 _ rfl
              refine i_iast (τ := 10) 47 rfl ⟨rfl, rfl, rfl, by decide⟩ hb.1 hb.2 ?_
              refine i_aload_n 48 rfl rfl (by decide) ?_
              refine i_getP (c := 11) (k := 49) (t := 110) (b := 553) 49 rfl fl_1098 (by decide) rfl (by decide) rfl ?_
              refine i_iload_n 50 rfl rfl ?_
              refine i_iload_n 51 rfl rfl ?_
              refine i_if_ne 99 52 rfl (by decide) (fun c => ?_) (fun c => ?_)
              · refine i_iload_n 55 rfl rfl ?_
                refine i_iconst 56 rfl (by decide) ?_
                refine i_icmp_ne 117 57 rfl (by decide) (fun c => ?_) (fun c => ?_)
                · replace h := h.1 c
                  refine i_iload_n 65 rfl rfl ?_
                  refine i_iconst 66 rfl (by decide) ?_
                  refine i_icmp_ne 131 67 rfl (by decide) (fun c => ?_) (fun c => ?_)
                  · refine i_iconst 73 rfl (by decide) ?_
                    have hb := h.1
                    replace h := h.2 _ rfl
                    refine i_iast (τ := 10) 74 rfl ⟨rfl, rfl, rfl, by decide⟩ hb.1 hb.2 ?_
                    refine i_aload_n 75 rfl rfl (by decide) ?_
                    refine i_getP (c := 11) (k := 50) (t := 110) (b := 554) 76 rfl fl_1099 (by decide) rfl (by decide) rfl ?_
                    refine i_iload_n 77 rfl rfl ?_
                    refine i_iload_n 78 rfl rfl ?_
                    refine i_iconst 79 rfl (by decide) ?_
                    refine i_icmp_ne 152 80 rfl (by decide) (fun c => ?_) (fun c => ?_)
                    · refine i_iconst 86 rfl (by decide) ?_
                      have hb := h.1
                      replace h := h.2 _ rfl
                      refine i_iast (τ := 10) 87 rfl ⟨rfl, rfl, rfl, by decide⟩ hb.1 hb.2 ?_
                      refine i_iconst 88 rfl (by decide) ?_
                      exact i_ireturn 89 rfl rfl h
                    · exact absurd c (by omega)
                  · exact absurd c (by omega)
                · replace h := h.2 c
                  refine i_aload_n 58 rfl rfl (by decide) ?_
                  refine i_getL (c := 11) (k := 9) 59 rfl fl_1058 (by decide) rfl ?_
                  refine i_aload_n 60 rfl rfl (by decide) ?_
                  refine i_getL (c := 11) (k := 10) 61 rfl fl_1059 (by decide) rfl ?_
                  refine i_ldiv 62 rfl h.1 ?_
                  replace h := h.2
                  refine i_l2i 63 rfl ?_
                  refine i_goto 132 64 rfl (by decide) ?_
                  have hb := h.1
                  replace h := h.2 _ rfl
                  refine i_iast (τ := 10) 74 rfl ⟨rfl, rfl, rfl, by decide⟩ hb.1 hb.2 ?_
                  refine i_aload_n 75 rfl rfl (by decide) ?_
                  refine i_getP (c := 11) (k := 50) (t := 110) (b := 554) 76 rfl fl_1099 (by decide) rfl (by decide) rfl ?_
                  refine i_iload_n 77 rfl rfl ?_
                  refine i_iload_n 78 rfl rfl ?_
                  refine i_iconst 79 rfl (by decide) ?_
                  refine i_icmp_ne 152 80 rfl (by decide) (fun c => ?_) (fun c => ?_)
                  · refine i_iconst 86 rfl (by decide) ?_
                    have hb := h.1
                    replace h := h.2 _ rfl
                    refine i_iast (τ := 10) 87 rfl ⟨rfl, rfl, rfl, by decide⟩ hb.1 hb.2 ?_
                    refine i_iconst 88 rfl (by decide) ?_
                    exact i_ireturn 89 rfl rfl h
                  · exact absurd c (by omega)
              · exact absurd c (by omega)
            · exact absurd c (by omega)
        · replace h := h.2 c
          refine i_iload_n 21 rfl rfl ?_
          refine i_callS (y1 := m_X11_isSheet) (z1 := (2, 0, 0)) (z2 := (3, 0, 0)) [(0, a3)] 22 rfl ml_1541 ok_X11_isSheet vk_X11_isSheet rfl ⟨rfl, Nat.le_of_ble_eq_true rfl⟩ (Nat.le_of_ble_eq_true rfl) ⟨by decide, rfl, rfl, rfl⟩ ?_
          refine h.mono (fun r zM17 h => ?_)
          obtain ⟨zr18, rfl, h⟩ := h
          simp only [Option.toList_some, Option.toList_none, List.cons_append, List.nil_append]
          refine i_if_ne 54 23 rfl (by decide) (fun c => ?_) (fun c => ?_)
          · replace h := h.1 c
            refine i_aload_n 28 rfl rfl (by decide) ?_
            refine i_getP (c := 11) (k := 48) (t := 110) (b := 552) 29 rfl fl_1097 (by decide) rfl (by decide) rfl ?_
            refine i_iload_n 30 rfl rfl ?_
            refine i_iload_n 31 rfl rfl ?_
            refine i_iconst 32 rfl (by decide) ?_
            refine i_icmp_eq 78 33 rfl (by decide) (fun c => ?_) (fun c => ?_)
            · exact absurd c (by omega)
            · refine i_iload_n 34 rfl rfl ?_
              refine i_iconst 35 rfl (by decide) ?_
              refine i_icmp_ne 82 36 rfl (by decide) (fun c => ?_) (fun c => ?_)
              · exact absurd c (by omega)
              · refine i_aload_n 37 rfl rfl (by decide) ?_
                refine i_getP (c := 11) (k := 44) (t := 103) (b := 544) 38 rfl fl_1093 (by decide) rfl (by decide) rfl ?_
                refine i_iload_n 39 rfl rfl ?_
                refine i_iald (τ := 3) 40 rfl ⟨rfl, rfl, rfl, by decide⟩ h.1.1 h.1.2 ?_
                replace h := h.2
                refine i_if_ge 82 41 rfl (by decide) (fun c => ?_) (fun c => ?_)
                · replace h := h.1 c
                  refine i_iconst 44 rfl (by decide) ?_
                  refine i_iload_n 45 rfl rfl ?_
                  refine i_iadd 46 rfl ?_
                  have hb := h.1
                  replace h := h.2 _ rfl
                  refine i_iast (τ := 10) 47 rfl ⟨rfl, rfl, rfl, by decide⟩ hb.1 hb.2 ?_
                  refine i_aload_n 48 rfl rfl (by decide) ?_
                  refine i_getP (c := 11) (k := 49) (t := 110) (b := 553) 49 rfl fl_1098 (by decide) rfl (by decide) rfl ?_
                  refine i_iload_n 50 rfl rfl ?_
                  refine i_iload_n 51 rfl rfl ?_
                  refine i_if_ne 99 52 rfl (by decide) (fun c => ?_) (fun c => ?_)
                  · refine i_iload_n 55 rfl rfl ?_
                    refine i_iconst 56 rfl (by decide) ?_
                    refine i_icmp_ne 117 57 rfl (by decide) (fun c => ?_) (fun c => ?_)
                    · refine i_iload_n 65 rfl rfl ?_
                      refine i_iconst 66 rfl (by decide) ?_
                      refine i_icmp_ne 131 67 rfl (by decide) (fun c => ?_) (fun c => ?_)
                      · exact absurd c (by omega)
                      · refine i_aload_n 68 rfl rfl (by decide) ?_
                        refine i_getP (c := 11) (k := 45) (t := 103) (b := 545) 69 rfl fl_1094 (by decide) rfl (by decide) rfl ?_
                        refine i_iload_n 70 rfl rfl ?_
                        refine i_iald (τ := 3) 71 rfl ⟨rfl, rfl, rfl, by decide⟩ h.1.1 h.1.2 ?_
                        replace h := h.2
                        refine i_goto 132 72 rfl (by decide) ?_
                        have hb := h.1
                        replace h := h.2 _ rfl
                        refine i_iast (τ := 10) 74 rfl ⟨rfl, rfl, rfl, by decide⟩ hb.1 hb.2 ?_
                        refine i_aload_n 75 rfl rfl (by decide) ?_
                        refine i_getP (c := 11) (k := 50) (t := 110) (b := 554) 76 rfl fl_1099 (by decide) rfl (by decide) rfl ?_
                        refine i_iload_n 77 rfl rfl ?_
                        refine i_iload_n 78 rfl rfl ?_
                        refine i_iconst 79 rfl (by decide) ?_
                        refine i_icmp_ne 152 80 rfl (by decide) (fun c => ?_) (fun c => ?_)
                        · exact absurd c (by omega)
                        · refine i_aload_n 81 rfl rfl (by decide) ?_
                          refine i_getP (c := 11) (k := 44) (t := 103) (b := 544) 82 rfl fl_1093 (by decide) rfl (by decide) rfl ?_
                          refine i_iload_n 83 rfl rfl ?_
                          refine i_iald (τ := 3) 84 rfl ⟨rfl, rfl, rfl, by decide⟩ h.1.1 h.1.2 ?_
                          replace h := h.2
                          refine i_goto 153 85 rfl (by decide) ?_
                          have hb := h.1
                          replace h := h.2 _ rfl
                          refine i_iast (τ := 10) 87 rfl ⟨rfl, rfl, rfl, by decide⟩ hb.1 hb.2 ?_
                          refine i_iconst 88 rfl (by decide) ?_
                          exact i_ireturn 89 rfl rfl h
                    · exact absurd c (by omega)
                  · exact absurd c (by omega)
                · replace h := h.2 c
                  refine i_iconst 42 rfl (by decide) ?_
                  refine i_goto 85 43 rfl (by decide) ?_
                  have hb := h.1
                  replace h := h.2 _ rfl
                  refine i_iast (τ := 10) 47 rfl ⟨rfl, rfl, rfl, by decide⟩ hb.1 hb.2 ?_
                  refine i_aload_n 48 rfl rfl (by decide) ?_
                  refine i_getP (c := 11) (k := 49) (t := 110) (b := 553) 49 rfl fl_1098 (by decide) rfl (by decide) rfl ?_
                  refine i_iload_n 50 rfl rfl ?_
                  refine i_iload_n 51 rfl rfl ?_
                  refine i_if_ne 99 52 rfl (by decide) (fun c => ?_) (fun c => ?_)
                  · refine i_iload_n 55 rfl rfl ?_
                    refine i_iconst 56 rfl (by decide) ?_
                    refine i_icmp_ne 117 57 rfl (by decide) (fun c => ?_) (fun c => ?_)
                    · refine i_iload_n 65 rfl rfl ?_
                      refine i_iconst 66 rfl (by decide) ?_
                      refine i_icmp_ne 131 67 rfl (by decide) (fun c => ?_) (fun c => ?_)
                      · exact absurd c (by omega)
                      · refine i_aload_n 68 rfl rfl (by decide) ?_
                        refine i_getP (c := 11) (k := 45) (t := 103) (b := 545) 69 rfl fl_1094 (by decide) rfl (by decide) rfl ?_
                        refine i_iload_n 70 rfl rfl ?_
                        refine i_iald (τ := 3) 71 rfl ⟨rfl, rfl, rfl, by decide⟩ h.1.1 h.1.2 ?_
                        replace h := h.2
                        refine i_goto 132 72 rfl (by decide) ?_
                        have hb := h.1
                        replace h := h.2 _ rfl
                        refine i_iast (τ := 10) 74 rfl ⟨rfl, rfl, rfl, by decide⟩ hb.1 hb.2 ?_
                        refine i_aload_n 75 rfl rfl (by decide) ?_
                        refine i_getP (c := 11) (k := 50) (t := 110) (b := 554) 76 rfl fl_1099 (by decide) rfl (by decide) rfl ?_
                        refine i_iload_n 77 rfl rfl ?_
                        refine i_iload_n 78 rfl rfl ?_
                        refine i_iconst 79 rfl (by decide) ?_
                        refine i_icmp_ne 152 80 rfl (by decide) (fun c => ?_) (fun c => ?_)
                        · exact absurd c (by omega)
                        · refine i_aload_n 81 rfl rfl (by decide) ?_
                          refine i_getP (c := 11) (k := 44) (t := 103) (b := 544) 82 rfl fl_1093 (by decide) rfl (by decide) rfl ?_
                          refine i_iload_n 83 rfl rfl ?_
                          refine i_iald (τ := 3) 84 rfl ⟨rfl, rfl, rfl, by decide⟩ h.1.1 h.1.2 ?_
                          replace h := h.2
                          refine i_goto 153 85 rfl (by decide) ?_
                          have hb := h.1
                          replace h := h.2 _ rfl
                          refine i_iast (τ := 10) 87 rfl ⟨rfl, rfl, rfl, by decide⟩ hb.1 hb.2 ?_
                          refine i_iconst 88 rfl (by decide) ?_
                          exact i_ireturn 89 rfl rfl h
                    · exact absurd c (by omega)
                  · exact absurd c (by omega)
          · replace h := h.2 c
            refine i_aload_n 24 rfl rfl (by decide) ?_
            refine i_iconst 25 rfl (by decide) ?_
            refine i_callV (c := 11) (y1 := m_X11_finds) (z1 := (1, 0, 0)) (z2 := (3, 0, 0)) [(0, 0)] 26 rfl ml_1233 ok_X11_finds vk_X11_finds ⟨by decide, rfl⟩ rfl ⟨rfl, Nat.le_of_ble_eq_true rfl⟩ (Nat.le_of_ble_eq_true rfl) ⟨by decide, rfl, rfl, rfl⟩ ?_
            refine h.mono (fun r zM25 h => ?_)
            obtain ⟨zr26, rfl, h⟩ := h
            simp only [Option.toList_some, Option.toList_none, List.cons_append, List.nil_append]
            exact i_ireturn 27 rfl rfl h
      · replace h := h.2 c
        refine i_aload_n 14 rfl rfl (by decide) ?_
        refine i_iload_n 15 rfl rfl ?_
        refine i_callV (c := 11) (y1 := m_X11_isFollower) (z1 := (2, 0, 0)) (z2 := (3, 0, 0)) [(0, a3)] 16 rfl ml_1242 ok_X11_isFollower vk_X11_isFollower ⟨by decide, rfl⟩ rfl ⟨rfl, Nat.le_of_ble_eq_true rfl⟩ (Nat.le_of_ble_eq_true rfl) ⟨by decide, rfl, rfl, rfl⟩ ?_
        refine h.mono (fun r zM27 h => ?_)
        obtain ⟨zr28, rfl, h⟩ := h
        simp only [Option.toList_some, Option.toList_none, List.cons_append, List.nil_append]
        refine i_if_eq 48 17 rfl (by decide) (fun c => ?_) (fun c => ?_)
        · replace h := h.1 c
          refine i_aload_n 24 rfl rfl (by decide) ?_
          refine i_iconst 25 rfl (by decide) ?_
          refine i_callV (c := 11) (y1 := m_X11_finds) (z1 := (1, 0, 0)) (z2 := (3, 0, 0)) [(0, 0)] 26 rfl ml_1233 ok_X11_finds vk_X11_finds ⟨by decide, rfl⟩ rfl ⟨rfl, Nat.le_of_ble_eq_true rfl⟩ (Nat.le_of_ble_eq_true rfl) ⟨by decide, rfl, rfl, rfl⟩ ?_
          refine h.mono (fun r zM29 h => ?_)
          obtain ⟨zr30, rfl, h⟩ := h
          simp only [Option.toList_some, Option.toList_none, List.cons_append, List.nil_append]
          exact i_ireturn 27 rfl rfl h
        · replace h := h.2 c
          refine i_iload_n 18 rfl rfl ?_
          refine i_iconst 19 rfl (by decide) ?_
          refine i_icmp_ne 54 20 rfl (by decide) (fun c => ?_) (fun c => ?_)
          · refine i_aload_n 28 rfl rfl (by decide) ?_
            refine i_getP (c := 11) (k := 48) (t := 110) (b := 552) 29 rfl fl_1097 (by decide) rfl (by decide) rfl ?_
            refine i_iload_n 30 rfl rfl ?_
            refine i_iload_n 31 rfl rfl ?_
            refine i_iconst 32 rfl (by decide) ?_
            refine i_icmp_eq 78 33 rfl (by decide) (fun c => ?_) (fun c => ?_)
            · exact absurd c (by omega)
            · refine i_iload_n 34 rfl rfl ?_
              refine i_iconst 35 rfl (by decide) ?_
              refine i_icmp_ne 82 36 rfl (by decide) (fun c => ?_) (fun c => ?_)
              · refine i_iconst 44 rfl (by decide) ?_
                refine i_iload_n 45 rfl rfl ?_
                refine i_iadd 46 rfl ?_
                have hb := h.1
                replace h := h.2 _ rfl
                refine i_iast (τ := 10) 47 rfl ⟨rfl, rfl, rfl, by decide⟩ hb.1 hb.2 ?_
                refine i_aload_n 48 rfl rfl (by decide) ?_
                refine i_getP (c := 11) (k := 49) (t := 110) (b := 553) 49 rfl fl_1098 (by decide) rfl (by decide) rfl ?_
                refine i_iload_n 50 rfl rfl ?_
                refine i_iload_n 51 rfl rfl ?_
                refine i_if_ne 99 52 rfl (by decide) (fun c => ?_) (fun c => ?_)
                · exact absurd c (by omega)
                · refine i_iload_n 53 rfl rfl ?_
                  refine i_goto 132 54 rfl (by decide) ?_
                  have hb := h.1
                  replace h := h.2 _ rfl
                  refine i_iast (τ := 10) 74 rfl ⟨rfl, rfl, rfl, by decide⟩ hb.1 hb.2 ?_
                  refine i_aload_n 75 rfl rfl (by decide) ?_
                  refine i_getP (c := 11) (k := 50) (t := 110) (b := 554) 76 rfl fl_1099 (by decide) rfl (by decide) rfl ?_
                  refine i_iload_n 77 rfl rfl ?_
                  refine i_iload_n 78 rfl rfl ?_
                  refine i_iconst 79 rfl (by decide) ?_
                  refine i_icmp_ne 152 80 rfl (by decide) (fun c => ?_) (fun c => ?_)
                  · refine i_iconst 86 rfl (by decide) ?_
                    have hb := h.1
                    replace h := h.2 _ rfl
                    refine i_iast (τ := 10) 87 rfl ⟨rfl, rfl, rfl, by decide⟩ hb.1 hb.2 ?_
                    refine i_iconst 88 rfl (by decide) ?_
                    exact i_ireturn 89 rfl rfl h
                  · exact absurd c (by omega)
              · exact absurd c (by omega)
          · exact absurd c (by omega)
theorem u_X11_taken_0 {l : Launch} {E : xE} (a1 a2 : Int) {M : xM} {Q : Option xV → xM → Prop} (h : x_Ev l E (1, 0, 0) m_X11_in 0 [(1, a1), (5, 0), (1, 0), (5, 0), (1, 9), (5, 0)] [] M (fun r zM1 => ∃ zr2, r = some (0, zr2) ∧ (zr2 = 0 → x_Ev l E (1, 0, 0) m_X11_finds 0 [(21, 103), (0, 0)] [] zM1 (fun r zM3 => ∃ zr4, r = some (0, zr4) ∧ Q (some (0, zr4)) zM3)) ∧ (¬ zr2 = 0 → x_Ev l E (1, 0, 0) m_X11_in 0 [(1, a2), (5, 0), (1, 0), (5, 0), (1, 10), (5, 0)] [] zM1 (fun r zM5 => ∃ zr6, r = some (0, zr6) ∧ (¬ zr6 = 0 → x_Ev l E (1, 0, 0) m_X11_holds 0 [(21, 103), (0, a1)] [] zM5 (fun r zM7 => ∃ zr8, r = some (0, zr8) ∧ (¬ zr8 = 0 → (7 ≤ a2 → (¬ a2 = 7 → ((0 : Int) ≤ a1 ∧ (a1 : Int) < 10) ∧ (¬ (zM7 552 a1) = 3 → x_Ev l E (1, 0, 0) m_X11_finds 0 [(21, 103), (0, 2)] [] zM7 (fun r zM9 => ∃ zr10, r = some (0, zr10) ∧ Q (some (0, zr10)) zM9)) ∧ ((zM7 552 a1) = 3 → ((0 : Int) ≤ a1 ∧ (a1 : Int) < 10) ∧ (¬ (zM7 554 a1) = (x_w (a2 - 8)) → x_Ev l E (1, 0, 0) m_X11_finds 0 [(21, 103), (0, 2)] [] zM7 (fun r zM11 => ∃ zr12, r = some (0, zr12) ∧ Q (some (0, zr12)) zM11)) ∧ ((zM7 554 a1) = (x_w (a2 - 8)) → ((0 : Int) ≤ a1 ∧ (a1 : Int) < 10) ∧ Q (some (0, (zM7 553 a1))) zM7))) ∧ (a2 = 7 → ((0 : Int) ≤ a1 ∧ (a1 : Int) < 10) ∧ (¬ (zM7 552 a1) = 2 → x_Ev l E (1, 0, 0) m_X11_finds 0 [(21, 103), (0, 2)] [] zM7 (fun r zM13 => ∃ zr14, r = some (0, zr14) ∧ Q (some (0, zr14)) zM13)) ∧ ((zM7 552 a1) = 2 → ((0 : Int) ≤ a1 ∧ (a1 : Int) < 10) ∧ Q (some (0, (zM7 553 a1))) zM7))) ∧ (¬ 7 ≤ a2 → ((0 : Int) ≤ a1 ∧ (a1 : Int) < 10) ∧ (¬ (zM7 552 a1) = 1 → x_Ev l E (1, 0, 0) m_X11_finds 0 [(21, 103), (0, 2)] [] zM7 (fun r zM15 => ∃ zr16, r = some (0, zr16) ∧ Q (some (0, zr16)) zM15)) ∧ ((zM7 552 a1) = 1 → ((0 : Int) ≤ a1 ∧ (a1 : Int) < 10) ∧ ((0 : Int) ≤ (zM7 553 a1) ∧ ((zM7 553 a1) : Int) < 3) ∧ x_Ev l E (1, 0, 0) m_X11_isUnder 0 [(21, 103), (0, (zM7 104 (zM7 553 a1))), (0, a2)] [] zM7 (fun r zM17 => ∃ zr18, r = some (0, zr18) ∧ (zr18 = 0 → x_Ev l E (1, 0, 0) m_X11_finds 0 [(21, 103), (0, 2)] [] zM17 (fun r zM19 => ∃ zr20, r = some (0, zr20) ∧ Q (some (0, zr20)) zM19)) ∧ (¬ zr18 = 0 → ((0 : Int) ≤ a1 ∧ (a1 : Int) < 10) ∧ Q (some (0, (zM17 553 a1))) zM17))))) ∧ (zr8 = 0 → x_Ev l E (1, 0, 0) m_X11_finds 0 [(21, 103), (0, 5)] [] zM7 (fun r zM21 => ∃ zr22, r = some (0, zr22) ∧ Q (some (0, zr22)) zM21)))) ∧ (zr6 = 0 → x_Ev l E (1, 0, 0) m_X11_finds 0 [(21, 103), (0, 0)] [] zM5 (fun r zM23 => ∃ zr24, r = some (0, zr24) ∧ Q (some (0, zr24)) zM23)))))) : x_Ev l E (2, 0, 0) m_X11_taken 0 [(21, 103), (0, a1), (0, a2), (5, 0)] [] M Q := by
  refine i_iload_n 0 rfl rfl ?_
  refine i_i2l 1 rfl ?_
  refine i_lconst (w := 0) 2 rfl (by decide) ?_
  refine i_ldc2 (v := 9) 3 rfl cw_1348 (by decide) ?_
  refine i_callS (y1 := m_X11_in) (z1 := (1, 0, 0)) (z2 := (2, 0, 0)) [(1, a1), (1, 0), (1, 9)] 4 rfl ml_1229 ok_X11_in vk_X11_in rfl ⟨rfl, Nat.le_of_ble_eq_true rfl⟩ (Nat.le_of_ble_eq_true rfl) ⟨by decide, rfl, rfl, rfl⟩ ?_
  refine h.mono (fun r zM1 h => ?_)
  obtain ⟨zr2, rfl, h⟩ := h
  simp only [Option.toList_some, Option.toList_none, List.cons_append, List.nil_append]
  refine i_if_eq 24 5 rfl (by decide) (fun c => ?_) (fun c => ?_)
  · replace h := h.1 c
    refine i_aload_n 12 rfl rfl (by decide) ?_
    refine i_iconst 13 rfl (by decide) ?_
    refine i_callV (c := 11) (y1 := m_X11_finds) (z1 := (1, 0, 0)) (z2 := (2, 0, 0)) [(0, 0)] 14 rfl ml_1233 ok_X11_finds vk_X11_finds ⟨by decide, rfl⟩ rfl ⟨rfl, Nat.le_of_ble_eq_true rfl⟩ (Nat.le_of_ble_eq_true rfl) ⟨by decide, rfl, rfl, rfl⟩ ?_
    refine h.mono (fun r zM3 h => ?_)
    obtain ⟨zr4, rfl, h⟩ := h
    simp only [Option.toList_some, Option.toList_none, List.cons_append, List.nil_append]
    exact i_ireturn 15 rfl rfl h
  · replace h := h.2 c
    refine i_iload_n 6 rfl rfl ?_
    refine i_i2l 7 rfl ?_
    refine i_lconst (w := 0) 8 rfl (by decide) ?_
    refine i_ldc2 (v := 10) 9 rfl cw_1745 (by decide) ?_
    refine i_callS (y1 := m_X11_in) (z1 := (1, 0, 0)) (z2 := (2, 0, 0)) [(1, a2), (1, 0), (1, 10)] 10 rfl ml_1229 ok_X11_in vk_X11_in rfl ⟨rfl, Nat.le_of_ble_eq_true rfl⟩ (Nat.le_of_ble_eq_true rfl) ⟨by decide, rfl, rfl, rfl⟩ ?_
    refine h.mono (fun r zM5 h => ?_)
    obtain ⟨zr6, rfl, h⟩ := h
    simp only [Option.toList_some, Option.toList_none, List.cons_append, List.nil_append]
    refine i_if_ne 30 11 rfl (by decide) (fun c => ?_) (fun c => ?_)
    · replace h := h.1 c
      refine i_aload_n 16 rfl rfl (by decide) ?_
      refine i_iload_n 17 rfl rfl ?_
      refine i_callV (c := 11) (y1 := m_X11_holds) (z1 := (1, 0, 0)) (z2 := (2, 0, 0)) [(0, a1)] 18 rfl ml_1746 ok_X11_holds vk_X11_holds ⟨by decide, rfl⟩ rfl ⟨rfl, Nat.le_of_ble_eq_true rfl⟩ (Nat.le_of_ble_eq_true rfl) ⟨by decide, rfl, rfl, rfl⟩ ?_
      refine h.mono (fun r zM7 h => ?_)
      obtain ⟨zr8, rfl, h⟩ := h
      simp only [Option.toList_some, Option.toList_none, List.cons_append, List.nil_append]
      refine i_if_ne 44 19 rfl (by decide) (fun c => ?_) (fun c => ?_)
      · replace h := h.1 c
        refine i_iload_n 24 rfl rfl ?_
        refine i_bipush 25 rfl (by decide) ?_
        refine i_icmp_ge 87 26 rfl (by decide) (fun c => ?_) (fun c => ?_)
        · replace h := h.1 c
          refine i_iload_n 48 rfl rfl ?_
          refine i_bipush 49 rfl (by decide) ?_
          refine i_icmp_ne 111 50 rfl (by decide) (fun c => ?_) (fun c => ?_)
          · replace h := h.1 c
            refine i_aload_n 61 rfl rfl (by decide) ?_
            refine i_getP (c := 11) (k := 48) (t := 110) (b := 552) 62 rfl fl_1097 (by decide) rfl (by decide) rfl ?_
            refine i_iload_n 63 rfl rfl ?_
            refine i_iald (τ := 10) 64 rfl ⟨rfl, rfl, rfl, by decide⟩ h.1.1 h.1.2 ?_
            replace h := h.2
            refine i_iconst 65 rfl (by decide) ?_
            refine i_icmp_ne 138 66 rfl (by decide) (fun c => ?_) (fun c => ?_)
            · replace h := h.1 c
              refine i_iconst 77 rfl (by decide) ?_
              refine i_istore_n 78 rfl (by decide) rfl ?_
              refine i_iload_n 79 rfl rfl ?_
              refine i_if_eq 153 80 rfl (by decide) (fun c => ?_) (fun c => ?_)
              · refine i_aload_n 86 rfl rfl (by decide) ?_
                refine i_iconst 87 rfl (by decide) ?_
                refine i_callV (c := 11) (y1 := m_X11_finds) (z1 := (1, 0, 0)) (z2 := (2, 0, 0)) [(0, 2)] 88 rfl ml_1233 ok_X11_finds vk_X11_finds ⟨by decide, rfl⟩ rfl ⟨rfl, Nat.le_of_ble_eq_true rfl⟩ (Nat.le_of_ble_eq_true rfl) ⟨by decide, rfl, rfl, rfl⟩ ?_
                refine h.mono (fun r zM9 h => ?_)
                obtain ⟨zr10, rfl, h⟩ := h
                simp only [Option.toList_some, Option.toList_none, List.cons_append, List.nil_append]
                exact i_ireturn 89 rfl rfl h
              · exact absurd c (by decide)
            · replace h := h.2 c
              refine i_aload_n 67 rfl rfl (by decide) ?_
              refine i_getP (c := 11) (k := 50) (t := 110) (b := 554) 68 rfl fl_1099 (by decide) rfl (by decide) rfl ?_
              refine i_iload_n 69 rfl rfl ?_
              refine i_iald (τ := 10) 70 rfl ⟨rfl, rfl, rfl, by decide⟩ h.1.1 h.1.2 ?_
              replace h := h.2
              refine i_iload_n 71 rfl rfl ?_
              refine i_bipush 72 rfl (by decide) ?_
              refine i_isub 73 rfl ?_
              refine i_icmp_ne 138 74 rfl (by decide) (fun c => ?_) (fun c => ?_)
              · replace h := h.1 c
                refine i_iconst 77 rfl (by decide) ?_
                refine i_istore_n 78 rfl (by decide) rfl ?_
                refine i_iload_n 79 rfl rfl ?_
                refine i_if_eq 153 80 rfl (by decide) (fun c => ?_) (fun c => ?_)
                · refine i_aload_n 86 rfl rfl (by decide) ?_
                  refine i_iconst 87 rfl (by decide) ?_
                  refine i_callV (c := 11) (y1 := m_X11_finds) (z1 := (1, 0, 0)) (z2 := (2, 0, 0)) [(0, 2)] 88 rfl ml_1233 ok_X11_finds vk_X11_finds ⟨by decide, rfl⟩ rfl ⟨rfl, Nat.le_of_ble_eq_true rfl⟩ (Nat.le_of_ble_eq_true rfl) ⟨by decide, rfl, rfl, rfl⟩ ?_
                  refine h.mono (fun r zM11 h => ?_)
                  obtain ⟨zr12, rfl, h⟩ := h
                  simp only [Option.toList_some, Option.toList_none, List.cons_append, List.nil_append]
                  exact i_ireturn 89 rfl rfl h
                · exact absurd c (by decide)
              · replace h := h.2 c
                refine i_iconst 75 rfl (by decide) ?_
                refine i_goto 139 76 rfl (by decide) ?_
                refine i_istore_n 78 rfl (by decide) rfl ?_
                refine i_iload_n 79 rfl rfl ?_
                refine i_if_eq 153 80 rfl (by decide) (fun c => ?_) (fun c => ?_)
                · exact absurd c (by decide)
                · refine i_aload_n 81 rfl rfl (by decide) ?_
                  refine i_getP (c := 11) (k := 49) (t := 110) (b := 553) 82 rfl fl_1098 (by decide) rfl (by decide) rfl ?_
                  refine i_iload_n 83 rfl rfl ?_
                  refine i_iald (τ := 10) 84 rfl ⟨rfl, rfl, rfl, by decide⟩ h.1.1 h.1.2 ?_
                  replace h := h.2
                  refine i_goto 158 85 rfl (by decide) ?_
                  exact i_ireturn 89 rfl rfl h
          · replace h := h.2 c
            refine i_aload_n 51 rfl rfl (by decide) ?_
            refine i_getP (c := 11) (k := 48) (t := 110) (b := 552) 52 rfl fl_1097 (by decide) rfl (by decide) rfl ?_
            refine i_iload_n 53 rfl rfl ?_
            refine i_iald (τ := 10) 54 rfl ⟨rfl, rfl, rfl, by decide⟩ h.1.1 h.1.2 ?_
            replace h := h.2
            refine i_iconst 55 rfl (by decide) ?_
            refine i_icmp_ne 107 56 rfl (by decide) (fun c => ?_) (fun c => ?_)
            · replace h := h.1 c
              refine i_iconst 59 rfl (by decide) ?_
              refine i_goto 139 60 rfl (by decide) ?_
              refine i_istore_n 78 rfl (by decide) rfl ?_
              refine i_iload_n 79 rfl rfl ?_
              refine i_if_eq 153 80 rfl (by decide) (fun c => ?_) (fun c => ?_)
              · refine i_aload_n 86 rfl rfl (by decide) ?_
                refine i_iconst 87 rfl (by decide) ?_
                refine i_callV (c := 11) (y1 := m_X11_finds) (z1 := (1, 0, 0)) (z2 := (2, 0, 0)) [(0, 2)] 88 rfl ml_1233 ok_X11_finds vk_X11_finds ⟨by decide, rfl⟩ rfl ⟨rfl, Nat.le_of_ble_eq_true rfl⟩ (Nat.le_of_ble_eq_true rfl) ⟨by decide, rfl, rfl, rfl⟩ ?_
                refine h.mono (fun r zM13 h => ?_)
                obtain ⟨zr14, rfl, h⟩ := h
                simp only [Option.toList_some, Option.toList_none, List.cons_append, List.nil_append]
                exact i_ireturn 89 rfl rfl h
              · exact absurd c (by decide)
            · replace h := h.2 c
              refine i_iconst 57 rfl (by decide) ?_
              refine i_goto 139 58 rfl (by decide) ?_
              refine i_istore_n 78 rfl (by decide) rfl ?_
              refine i_iload_n 79 rfl rfl ?_
              refine i_if_eq 153 80 rfl (by decide) (fun c => ?_) (fun c => ?_)
              · exact absurd c (by decide)
              · refine i_aload_n 81 rfl rfl (by decide) ?_
                refine i_getP (c := 11) (k := 49) (t := 110) (b := 553) 82 rfl fl_1098 (by decide) rfl (by decide) rfl ?_
                refine i_iload_n 83 rfl rfl ?_
                refine i_iald (τ := 10) 84 rfl ⟨rfl, rfl, rfl, by decide⟩ h.1.1 h.1.2 ?_
                replace h := h.2
                refine i_goto 158 85 rfl (by decide) ?_
                exact i_ireturn 89 rfl rfl h
        · replace h := h.2 c
          refine i_aload_n 27 rfl rfl (by decide) ?_
          refine i_getP (c := 11) (k := 48) (t := 110) (b := 552) 28 rfl fl_1097 (by decide) rfl (by decide) rfl ?_
          refine i_iload_n 29 rfl rfl ?_
          refine i_iald (τ := 10) 30 rfl ⟨rfl, rfl, rfl, by decide⟩ h.1.1 h.1.2 ?_
          replace h := h.2
          refine i_iconst 31 rfl (by decide) ?_
          refine i_icmp_ne 83 32 rfl (by decide) (fun c => ?_) (fun c => ?_)
          · replace h := h.1 c
            refine i_iconst 46 rfl (by decide) ?_
            refine i_goto 139 47 rfl (by decide) ?_
            refine i_istore_n 78 rfl (by decide) rfl ?_
            refine i_iload_n 79 rfl rfl ?_
            refine i_if_eq 153 80 rfl (by decide) (fun c => ?_) (fun c => ?_)
            · refine i_aload_n 86 rfl rfl (by decide) ?_
              refine i_iconst 87 rfl (by decide) ?_
              refine i_callV (c := 11) (y1 := m_X11_finds) (z1 := (1, 0, 0)) (z2 := (2, 0, 0)) [(0, 2)] 88 rfl ml_1233 ok_X11_finds vk_X11_finds ⟨by decide, rfl⟩ rfl ⟨rfl, Nat.le_of_ble_eq_true rfl⟩ (Nat.le_of_ble_eq_true rfl) ⟨by decide, rfl, rfl, rfl⟩ ?_
              refine h.mono (fun r zM15 h => ?_)
              obtain ⟨zr16, rfl, h⟩ := h
              simp only [Option.toList_some, Option.toList_none, List.cons_append, List.nil_append]
              exact i_ireturn 89 rfl rfl h
            · exact absurd c (by decide)
          · replace h := h.2 c
            refine i_aload_n 33 rfl rfl (by decide) ?_
            refine i_aload_n 34 rfl rfl (by decide) ?_
            refine i_getP (c := 11) (k := 1) (t := 114) (b := 104) 35 rfl fl_1050 (by decide) rfl (by decide) rfl ?_
            refine i_aload_n 36 rfl rfl (by decide) ?_
            refine i_getP (c := 11) (k := 49) (t := 110) (b := 553) 37 rfl fl_1098 (by decide) rfl (by decide) rfl ?_
            refine i_iload_n 38 rfl rfl ?_
            refine i_iald (τ := 10) 39 rfl ⟨rfl, rfl, rfl, by decide⟩ h.1.1 h.1.2 ?_
            replace h := h.2
            refine i_iald (τ := 14) 40 rfl ⟨rfl, rfl, rfl, by decide⟩ h.1.1 h.1.2 ?_
            replace h := h.2
            refine i_iload_n 41 rfl rfl ?_
            refine i_callV (c := 11) (y1 := m_X11_isUnder) (z1 := (1, 0, 0)) (z2 := (2, 0, 0)) [(0, (zM7 104 (zM7 553 a1))), (0, a2)] 42 rfl ml_1750 ok_X11_isUnder vk_X11_isUnder ⟨by decide, rfl⟩ rfl ⟨rfl, Nat.le_of_ble_eq_true rfl⟩ (Nat.le_of_ble_eq_true rfl) ⟨by decide, rfl, rfl, rfl⟩ ?_
            refine h.mono (fun r zM17 h => ?_)
            obtain ⟨zr18, rfl, h⟩ := h
            simp only [Option.toList_some, Option.toList_none, List.cons_append, List.nil_append]
            refine i_if_eq 83 43 rfl (by decide) (fun c => ?_) (fun c => ?_)
            · replace h := h.1 c
              refine i_iconst 46 rfl (by decide) ?_
              refine i_goto 139 47 rfl (by decide) ?_
              refine i_istore_n 78 rfl (by decide) rfl ?_
              refine i_iload_n 79 rfl rfl ?_
              refine i_if_eq 153 80 rfl (by decide) (fun c => ?_) (fun c => ?_)
              · refine i_aload_n 86 rfl rfl (by decide) ?_
                refine i_iconst 87 rfl (by decide) ?_
                refine i_callV (c := 11) (y1 := m_X11_finds) (z1 := (1, 0, 0)) (z2 := (2, 0, 0)) [(0, 2)] 88 rfl ml_1233 ok_X11_finds vk_X11_finds ⟨by decide, rfl⟩ rfl ⟨rfl, Nat.le_of_ble_eq_true rfl⟩ (Nat.le_of_ble_eq_true rfl) ⟨by decide, rfl, rfl, rfl⟩ ?_
                refine h.mono (fun r zM19 h => ?_)
                obtain ⟨zr20, rfl, h⟩ := h
                simp only [Option.toList_some, Option.toList_none, List.cons_append, List.nil_append]
                exact i_ireturn 89 rfl rfl h
              · exact absurd c (by decide)
            · replace h := h.2 c
              refine i_iconst 44 rfl (by decide) ?_
              refine i_goto 139 45 rfl (by decide) ?_
              refine i_istore_n 78 rfl (by decide) rfl ?_
              refine i_iload_n 79 rfl rfl ?_
              refine i_if_eq 153 80 rfl (by decide) (fun c => ?_) (fun c => ?_)
              · exact absurd c (by decide)
              · refine i_aload_n 81 rfl rfl (by decide) ?_
                refine i_getP (c := 11) (k := 49) (t := 110) (b := 553) 82 rfl fl_1098 (by decide) rfl (by decide) rfl ?_
                refine i_iload_n 83 rfl rfl ?_
                refine i_iald (τ := 10) 84 rfl ⟨rfl, rfl, rfl, by decide⟩ h.1.1 h.1.2 ?_
                replace h := h.2
                refine i_goto 158 85 rfl (by decide) ?_
                exact i_ireturn 89 rfl rfl h
      · replace h := h.2 c
        refine i_aload_n 20 rfl rfl (by decide) ?_
        refine i_iconst 21 rfl (by decide) ?_
        refine i_callV (c := 11) (y1 := m_X11_finds) (z1 := (1, 0, 0)) (z2 := (2, 0, 0)) [(0, 5)] 22 rfl ml_1233 ok_X11_finds vk_X11_finds ⟨by decide, rfl⟩ rfl ⟨rfl, Nat.le_of_ble_eq_true rfl⟩ (Nat.le_of_ble_eq_true rfl) ⟨by decide, rfl, rfl, rfl⟩ ?_
        refine h.mono (fun r zM21 h => ?_)
        obtain ⟨zr22, rfl, h⟩ := h
        simp only [Option.toList_some, Option.toList_none, List.cons_append, List.nil_append]
        exact i_ireturn 23 rfl rfl h
    · replace h := h.2 c
      refine i_aload_n 12 rfl rfl (by decide) ?_
      refine i_iconst 13 rfl (by decide) ?_
      refine i_callV (c := 11) (y1 := m_X11_finds) (z1 := (1, 0, 0)) (z2 := (2, 0, 0)) [(0, 0)] 14 rfl ml_1233 ok_X11_finds vk_X11_finds ⟨by decide, rfl⟩ rfl ⟨rfl, Nat.le_of_ble_eq_true rfl⟩ (Nat.le_of_ble_eq_true rfl) ⟨by decide, rfl, rfl, rfl⟩ ?_
      refine h.mono (fun r zM23 h => ?_)
      obtain ⟨zr24, rfl, h⟩ := h
      simp only [Option.toList_some, Option.toList_none, List.cons_append, List.nil_append]
      exact i_ireturn 15 rfl rfl h
theorem u_X11_image_0 {l : Launch} {E : xE} {M : xM} {Q : Option xV → xM → Prop} (h : ∀ zM1 : xM, zM1 = x_wr M 103 51 1 → ∀ zM2 : xM, zM2 = x_wr zM1 103 52 (zM1 103 0) → x_Ev l E (2, 0, 0) m_X11_image 15 [(21, 103), (0, 0)] [] zM2 Q) : x_Ev l E (2, 0, 0) m_X11_image 0 [(21, 103), (5, 0)] [] M Q := by
  refine i_aload_n 0 rfl rfl (by decide) ?_
  refine i_iconst 1 rfl (by decide) ?_
  replace h := h _ rfl
  refine i_putZ (c := 11) (k := 51) 2 rfl fl_1100 (by decide) ⟨rfl, rfl, rfl⟩ (by decide) ?_
  refine i_aload_n 3 rfl rfl (by decide) ?_
  refine i_aload_n 4 rfl rfl (by decide) ?_
  refine i_getI (c := 11) (k := 0) 5 rfl fl_1049 (by decide) (by decide) ?_
  replace h := h _ rfl
  refine i_putI (c := 11) (k := 52) 6 rfl fl_1101 (by decide) ⟨rfl, rfl, rfl⟩ ?_
  refine i_iconst 7 rfl (by decide) ?_
  refine i_istore_n 8 rfl (by decide) rfl ?_
  exact h
theorem u_X11_image_15 {l : Launch} {E : xE} (l1 : Int) {M : xM} {Q : Option xV → xM → Prop} (h : (3 ≤ l1 → x_Ev l E (1, 0, 0) m_X11_copies 0 [(124, 137), (124, 588), (5, 0), (5, 0)] [] M (fun r zM1 => r = none ∧ ∀ zM2 : xM, zM2 = x_wr zM1 592 0 (zM1 103 8) → ∀ zM3 : xM, zM3 = x_wr zM2 592 1 (zM2 103 9) → ∀ zM4 : xM, zM4 = x_wr zM3 592 2 (zM3 103 10) → ∀ zM5 : xM, zM5 = x_wr zM4 592 3 (zM4 103 11) → ∀ zM6 : xM, zM6 = x_wr zM5 592 4 (zM5 103 12) → ∀ zM7 : xM, zM7 = x_wr zM6 592 5 (zM6 103 13) → Q (some (0, 1)) zM7)) ∧ (¬ 3 ≤ l1 → ((0 : Int) ≤ l1 ∧ (l1 : Int) < 3) ∧ ((0 : Int) ≤ l1 ∧ (l1 : Int) < 3) ∧ ∀ zM8 : xM, zM8 = x_wr M (555 + 1 + 1 * l1) 0 (M 104 l1) → ((0 : Int) ≤ l1 ∧ (l1 : Int) < 3) ∧ ((0 : Int) ≤ l1 ∧ (l1 : Int) < 3) ∧ ∀ zM9 : xM, zM9 = x_wr zM8 (555 + 1 + 1 * l1) 1 (zM8 105 l1) → ((0 : Int) ≤ l1 ∧ (l1 : Int) < 3) ∧ ((0 : Int) ≤ l1 ∧ (l1 : Int) < 3) ∧ ∀ zM10 : xM, zM10 = x_wr zM9 (555 + 1 + 1 * l1) 2 (zM9 106 l1) → ((0 : Int) ≤ l1 ∧ (l1 : Int) < 3) ∧ ((0 : Int) ≤ l1 ∧ (l1 : Int) < 3) ∧ ∀ zM11 : xM, zM11 = x_wr zM10 (555 + 1 + 1 * l1) 3 (zM10 107 l1) → ((0 : Int) ≤ l1 ∧ (l1 : Int) < 3) ∧ ((0 : Int) ≤ l1 ∧ (l1 : Int) < 3) ∧ x_Ev l E (1, 0, 0) m_X11_copies 0 [(120, (108 + 1 + 4 * l1)), (120, (559 + 1 + 4 * l1)), (5, 0), (5, 0)] [] zM11 (fun r zM12 => r = none ∧ ((0 : Int) ≤ l1 ∧ (l1 : Int) < 3) ∧ ((0 : Int) ≤ l1 ∧ (l1 : Int) < 3) ∧ x_Ev l E (1, 0, 0) m_X11_copies 0 [(122, (121 + 1 + 5 * l1)), (122, (572 + 1 + 5 * l1)), (5, 0), (5, 0)] [] zM12 (fun r zM13 => r = none ∧ ∀ zv14 : Int, zv14 = x_w (l1 + 1) → x_Ev l E (2, 0, 0) m_X11_image 15 [(21, 103), (0, zv14)] [] zM13 Q)))) : x_Ev l E (2, 0, 0) m_X11_image 15 [(21, 103), (0, l1)] [] M Q := by
  refine i_iload_n 9 rfl rfl ?_
  refine i_iconst 10 rfl (by decide) ?_
  refine i_icmp_ge 112 11 rfl (by decide) (fun c => ?_) (fun c => ?_)
  · replace h := h.1 c
    refine i_aload_n 72 rfl rfl (by decide) ?_
    refine i_getP (c := 11) (k := 7) (t := 124) (b := 137) 73 rfl fl_1056 (by decide) rfl (by decide) rfl ?_
    refine i_aload_n 74 rfl rfl (by decide) ?_
    refine i_getP (c := 11) (k := 56) (t := 124) (b := 588) 75 rfl fl_1105 (by decide) rfl (by decide) rfl ?_
    refine i_callS (y1 := m_X11_copies) (z1 := (1, 0, 0)) (z2 := (2, 0, 0)) [(124, 137), (124, 588)] 76 rfl ml_1758 ok_X11_copies vk_X11_copies rfl ⟨rfl, Nat.le_of_ble_eq_true rfl⟩ (Nat.le_of_ble_eq_true rfl) ⟨by decide, rfl, rfl, rfl⟩ ?_
    refine h.mono (fun r zM1 h => ?_)
    obtain ⟨rfl, h⟩ := h
    simp only [Option.toList_some, Option.toList_none, List.cons_append, List.nil_append]
    refine i_aload_n 77 rfl rfl (by decide) ?_
    refine i_getP (c := 11) (k := 57) (t := 118) (b := 592) 78 rfl fl_1106 (by decide) rfl (by decide) rfl ?_
    refine i_iconst 79 rfl (by decide) ?_
    refine i_aload_n 80 rfl rfl (by decide) ?_
    refine i_getI (c := 11) (k := 8) 81 rfl fl_1057 (by decide) (by decide) ?_
    refine i_i2l 82 rfl ?_
    replace h := h _ rfl
    refine i_last (τ := 18) 83 rfl ⟨rfl, rfl, rfl, by decide⟩ (by decide) (by decide) ?_
    refine i_aload_n 84 rfl rfl (by decide) ?_
    refine i_getP (c := 11) (k := 57) (t := 118) (b := 592) 85 rfl fl_1106 (by decide) rfl (by decide) rfl ?_
    refine i_iconst 86 rfl (by decide) ?_
    refine i_aload_n 87 rfl rfl (by decide) ?_
    refine i_getL (c := 11) (k := 9) 88 rfl fl_1058 (by decide) rfl ?_
    replace h := h _ rfl
    refine i_last (τ := 18) 89 rfl ⟨rfl, rfl, rfl, by decide⟩ (by decide) (by decide) ?_
    refine i_aload_n 90 rfl rfl (by decide) ?_
    refine i_getP (c := 11) (k := 57) (t := 118) (b := 592) 91 rfl fl_1106 (by decide) rfl (by decide) rfl ?_
    refine i_iconst 92 rfl (by decide) ?_
    refine i_aload_n 93 rfl rfl (by decide) ?_
    refine i_getL (c := 11) (k := 10) 94 rfl fl_1059 (by decide) rfl ?_
    replace h := h _ rfl
    refine i_last (τ := 18) 95 rfl ⟨rfl, rfl, rfl, by decide⟩ (by decide) (by decide) ?_
    refine i_aload_n 96 rfl rfl (by decide) ?_
    refine i_getP (c := 11) (k := 57) (t := 118) (b := 592) 97 rfl fl_1106 (by decide) rfl (by decide) rfl ?_
    refine i_iconst 98 rfl (by decide) ?_
    refine i_aload_n 99 rfl rfl (by decide) ?_
    refine i_getL (c := 11) (k := 11) 100 rfl fl_1060 (by decide) rfl ?_
    replace h := h _ rfl
    refine i_last (τ := 18) 101 rfl ⟨rfl, rfl, rfl, by decide⟩ (by decide) (by decide) ?_
    refine i_aload_n 102 rfl rfl (by decide) ?_
    refine i_getP (c := 11) (k := 57) (t := 118) (b := 592) 103 rfl fl_1106 (by decide) rfl (by decide) rfl ?_
    refine i_iconst 104 rfl (by decide) ?_
    refine i_aload_n 105 rfl rfl (by decide) ?_
    refine i_getI (c := 11) (k := 12) 106 rfl fl_1061 (by decide) (by decide) ?_
    refine i_i2l 107 rfl ?_
    replace h := h _ rfl
    refine i_last (τ := 18) 108 rfl ⟨rfl, rfl, rfl, by decide⟩ (by decide) (by decide) ?_
    refine i_aload_n 109 rfl rfl (by decide) ?_
    refine i_getP (c := 11) (k := 57) (t := 118) (b := 592) 110 rfl fl_1106 (by decide) rfl (by decide) rfl ?_
    refine i_iconst 111 rfl (by decide) ?_
    refine i_aload_n 112 rfl rfl (by decide) ?_
    refine i_getI (c := 11) (k := 13) 113 rfl fl_1062 (by decide) (by decide) ?_
    refine i_i2l 114 rfl ?_
    replace h := h _ rfl
    refine i_last (τ := 18) 115 rfl ⟨rfl, rfl, rfl, by decide⟩ (by decide) (by decide) ?_
    refine i_iconst 116 rfl (by decide) ?_
    exact i_ireturn 117 rfl rfl h
  · replace h := h.2 c
    refine i_aload_n 12 rfl rfl (by decide) ?_
    refine i_getP (c := 11) (k := 53) (t := 124) (b := 555) 13 rfl fl_1102 (by decide) rfl (by decide) rfl ?_
    refine i_iload_n 14 rfl rfl ?_
    refine i_aald (τ := 24) (t := 103) (len := 3) (b := (555 + 1 + 1 * l1)) 15 rfl (by decide) rfl h.1.1 h.1.2 ?_
    replace h := h.2
    refine i_iconst 16 rfl (by decide) ?_
    refine i_aload_n 17 rfl rfl (by decide) ?_
    refine i_getP (c := 11) (k := 1) (t := 114) (b := 104) 18 rfl fl_1050 (by decide) rfl (by decide) rfl ?_
    refine i_iload_n 19 rfl rfl ?_
    refine i_iald (τ := 14) 20 rfl ⟨rfl, rfl, rfl, by decide⟩ h.1.1 h.1.2 ?_
    replace h := h.2
    replace h := h _ rfl
    refine i_iast (τ := 3) 21 rfl ⟨rfl, rfl, rfl, by decide⟩ (by decide) (by decide) ?_
    refine i_aload_n 22 rfl rfl (by decide) ?_
    refine i_getP (c := 11) (k := 53) (t := 124) (b := 555) 23 rfl fl_1102 (by decide) rfl (by decide) rfl ?_
    refine i_iload_n 24 rfl rfl ?_
    refine i_aald (τ := 24) (t := 103) (len := 3) (b := (555 + 1 + 1 * l1)) 25 rfl (by decide) rfl h.1.1 h.1.2 ?_
    replace h := h.2
    refine i_iconst 26 rfl (by decide) ?_
    refine i_aload_n 27 rfl rfl (by decide) ?_
    refine i_getP (c := 11) (k := 2) (t := 114) (b := 105) 28 rfl fl_1051 (by decide) rfl (by decide) rfl ?_
    refine i_iload_n 29 rfl rfl ?_
    refine i_iald (τ := 14) 30 rfl ⟨rfl, rfl, rfl, by decide⟩ h.1.1 h.1.2 ?_
    replace h := h.2
    replace h := h _ rfl
    refine i_iast (τ := 3) 31 rfl ⟨rfl, rfl, rfl, by decide⟩ (by decide) (by decide) ?_
    refine i_aload_n 32 rfl rfl (by decide) ?_
    refine i_getP (c := 11) (k := 53) (t := 124) (b := 555) 33 rfl fl_1102 (by decide) rfl (by decide) rfl ?_
    refine i_iload_n 34 rfl rfl ?_
    refine i_aald (τ := 24) (t := 103) (len := 3) (b := (555 + 1 + 1 * l1)) 35 rfl (by decide) rfl h.1.1 h.1.2 ?_
    replace h := h.2
    refine i_iconst 36 rfl (by decide) ?_
    refine i_aload_n 37 rfl rfl (by decide) ?_
    refine i_getP (c := 11) (k := 3) (t := 114) (b := 106) 38 rfl fl_1052 (by decide) rfl (by decide) rfl ?_
    refine i_iload_n 39 rfl rfl ?_
    refine i_iald (τ := 14) 40 rfl ⟨rfl, rfl, rfl, by decide⟩ h.1.1 h.1.2 ?_
    replace h := h.2
    replace h := h _ rfl
    refine i_iast (τ := 3) 41 rfl ⟨rfl, rfl, rfl, by decide⟩ (by decide) (by decide) ?_
    refine i_aload_n 42 rfl rfl (by decide) ?_
    refine i_getP (c := 11) (k := 53) (t := 124) (b := 555) 43 rfl fl_1102 (by decide) rfl (by decide) rfl ?_
    refine i_iload_n 44 rfl rfl ?_
    refine i_aald (τ := 24) (t := 103) (len := 3) (b := (555 + 1 + 1 * l1)) 45 rfl (by decide) rfl h.1.1 h.1.2 ?_
    replace h := h.2
    refine i_iconst 46 rfl (by decide) ?_
    refine i_aload_n 47 rfl rfl (by decide) ?_
    refine i_getP (c := 11) (k := 4) (t := 114) (b := 107) 48 rfl fl_1053 (by decide) rfl (by decide) rfl ?_
    refine i_iload_n 49 rfl rfl ?_
    refine i_iald (τ := 14) 50 rfl ⟨rfl, rfl, rfl, by decide⟩ h.1.1 h.1.2 ?_
    replace h := h.2
    replace h := h _ rfl
    refine i_iast (τ := 3) 51 rfl ⟨rfl, rfl, rfl, by decide⟩ (by decide) (by decide) ?_
    refine i_aload_n 52 rfl rfl (by decide) ?_
    refine i_getP (c := 11) (k := 5) (t := 121) (b := 108) 53 rfl fl_1054 (by decide) rfl (by decide) rfl ?_
    refine i_iload_n 54 rfl rfl ?_
    refine i_aald (τ := 21) (t := 120) (len := 3) (b := (108 + 1 + 4 * l1)) 55 rfl (by decide) rfl h.1.1 h.1.2 ?_
    replace h := h.2
    refine i_aload_n 56 rfl rfl (by decide) ?_
    refine i_getP (c := 11) (k := 54) (t := 121) (b := 559) 57 rfl fl_1103 (by decide) rfl (by decide) rfl ?_
    refine i_iload_n 58 rfl rfl ?_
    refine i_aald (τ := 21) (t := 120) (len := 3) (b := (559 + 1 + 4 * l1)) 59 rfl (by decide) rfl h.1.1 h.1.2 ?_
    replace h := h.2
    refine i_callS (y1 := m_X11_copies) (z1 := (1, 0, 0)) (z2 := (2, 0, 0)) [(120, (108 + 1 + 4 * l1)), (120, (559 + 1 + 4 * l1))] 60 rfl ml_1758 ok_X11_copies vk_X11_copies rfl ⟨rfl, Nat.le_of_ble_eq_true rfl⟩ (Nat.le_of_ble_eq_true rfl) ⟨by decide, rfl, rfl, rfl⟩ ?_
    refine h.mono (fun r zM12 h => ?_)
    obtain ⟨rfl, h⟩ := h
    simp only [Option.toList_some, Option.toList_none, List.cons_append, List.nil_append]
    refine i_aload_n 61 rfl rfl (by decide) ?_
    refine i_getP (c := 11) (k := 6) (t := 123) (b := 121) 62 rfl fl_1055 (by decide) rfl (by decide) rfl ?_
    refine i_iload_n 63 rfl rfl ?_
    refine i_aald (τ := 23) (t := 122) (len := 3) (b := (121 + 1 + 5 * l1)) 64 rfl (by decide) rfl h.1.1 h.1.2 ?_
    replace h := h.2
    refine i_aload_n 65 rfl rfl (by decide) ?_
    refine i_getP (c := 11) (k := 55) (t := 123) (b := 572) 66 rfl fl_1104 (by decide) rfl (by decide) rfl ?_
    refine i_iload_n 67 rfl rfl ?_
    refine i_aald (τ := 23) (t := 122) (len := 3) (b := (572 + 1 + 5 * l1)) 68 rfl (by decide) rfl h.1.1 h.1.2 ?_
    replace h := h.2
    refine i_callS (y1 := m_X11_copies) (z1 := (1, 0, 0)) (z2 := (2, 0, 0)) [(122, (121 + 1 + 5 * l1)), (122, (572 + 1 + 5 * l1))] 69 rfl ml_1758 ok_X11_copies vk_X11_copies rfl ⟨rfl, Nat.le_of_ble_eq_true rfl⟩ (Nat.le_of_ble_eq_true rfl) ⟨by decide, rfl, rfl, rfl⟩ ?_
    refine h.mono (fun r zM13 h => ?_)
    obtain ⟨rfl, h⟩ := h
    simp only [Option.toList_some, Option.toList_none, List.cons_append, List.nil_append]
    replace h := h _ rfl
    refine i_iinc 70 rfl rfl (by decide) rfl ?_
    refine i_goto 15 71 rfl (by decide) ?_
    exact h
theorem u_X11_back_0 {l : Launch} {E : xE} {M : xM} {Q : Option xV → xM → Prop} (h : (¬ (M 103 51) = 0 → ∀ zM1 : xM, zM1 = x_wr M 103 0 (M 103 52) → x_Ev l E (2, 0, 0) m_X11_back 23 [(21, 103), (0, 0)] [] zM1 Q) ∧ ((M 103 51) = 0 → x_Ev l E (1, 0, 0) m_X11_finds 0 [(21, 103), (0, 3)] [] M (fun r zM2 => ∃ zr3, r = some (0, zr3) ∧ Q (some (0, zr3)) zM2))) : x_Ev l E (2, 0, 0) m_X11_back 0 [(21, 103), (5, 0)] [] M Q := by
  refine i_aload_n 0 rfl rfl (by decide) ?_
  refine i_getI (c := 11) (k := 51) 1 rfl fl_1100 (by decide) (by decide) ?_
  refine i_if_ne 13 2 rfl (by decide) (fun c => ?_) (fun c => ?_)
  · replace h := h.1 c
    refine i_aload_n 7 rfl rfl (by decide) ?_
    refine i_aload_n 8 rfl rfl (by decide) ?_
    refine i_getI (c := 11) (k := 52) 9 rfl fl_1101 (by decide) (by decide) ?_
    replace h := h _ rfl
    refine i_putI (c := 11) (k := 0) 10 rfl fl_1049 (by decide) ⟨rfl, rfl, rfl⟩ ?_
    refine i_iconst 11 rfl (by decide) ?_
    refine i_istore_n 12 rfl (by decide) rfl ?_
    exact h
  · replace h := h.2 c
    refine i_aload_n 3 rfl rfl (by decide) ?_
    refine i_iconst 4 rfl (by decide) ?_
    refine i_callV (c := 11) (y1 := m_X11_finds) (z1 := (1, 0, 0)) (z2 := (2, 0, 0)) [(0, 3)] 5 rfl ml_1233 ok_X11_finds vk_X11_finds ⟨by decide, rfl⟩ rfl ⟨rfl, Nat.le_of_ble_eq_true rfl⟩ (Nat.le_of_ble_eq_true rfl) ⟨by decide, rfl, rfl, rfl⟩ ?_
    refine h.mono (fun r zM2 h => ?_)
    obtain ⟨zr3, rfl, h⟩ := h
    simp only [Option.toList_some, Option.toList_none, List.cons_append, List.nil_append]
    exact i_ireturn 6 rfl rfl h
theorem u_X11_back_23 {l : Launch} {E : xE} (l1 : Int) {M : xM} {Q : Option xV → xM → Prop} (h : (3 ≤ l1 → x_Ev l E (1, 0, 0) m_X11_copies 0 [(124, 588), (124, 137), (5, 0), (5, 0)] [] M (fun r zM1 => r = none ∧ ∀ zM2 : xM, zM2 = x_wr zM1 103 8 (x_w (zM1 592 0)) → ∀ zM3 : xM, zM3 = x_wr zM2 103 9 (zM2 592 1) → ∀ zM4 : xM, zM4 = x_wr zM3 103 10 (zM3 592 2) → ∀ zM5 : xM, zM5 = x_wr zM4 103 11 (zM4 592 3) → ∀ zM6 : xM, zM6 = x_wr zM5 103 12 (x_w (zM5 592 4)) → ∀ zM7 : xM, zM7 = x_wr zM6 103 13 (x_w (zM6 592 5)) → Q (some (0, (zM7 103 0))) zM7)) ∧ (¬ 3 ≤ l1 → ((0 : Int) ≤ l1 ∧ (l1 : Int) < 3) ∧ (0 ≤ l1 ∧ l1 < 3) ∧ ∀ zM8 : xM, zM8 = x_wr M 104 l1 (M (555 + 1 + 1 * l1) 0) → ((0 : Int) ≤ l1 ∧ (l1 : Int) < 3) ∧ (0 ≤ l1 ∧ l1 < 3) ∧ ∀ zM9 : xM, zM9 = x_wr zM8 105 l1 (zM8 (555 + 1 + 1 * l1) 1) → ((0 : Int) ≤ l1 ∧ (l1 : Int) < 3) ∧ (0 ≤ l1 ∧ l1 < 3) ∧ ∀ zM10 : xM, zM10 = x_wr zM9 106 l1 (zM9 (555 + 1 + 1 * l1) 2) → ((0 : Int) ≤ l1 ∧ (l1 : Int) < 3) ∧ (0 ≤ l1 ∧ l1 < 3) ∧ ∀ zM11 : xM, zM11 = x_wr zM10 107 l1 (zM10 (555 + 1 + 1 * l1) 3) → ((0 : Int) ≤ l1 ∧ (l1 : Int) < 3) ∧ ((0 : Int) ≤ l1 ∧ (l1 : Int) < 3) ∧ x_Ev l E (1, 0, 0) m_X11_copies 0 [(120, (559 + 1 + 4 * l1)), (120, (108 + 1 + 4 * l1)), (5, 0), (5, 0)] [] zM11 (fun r zM12 => r = none ∧ ((0 : Int) ≤ l1 ∧ (l1 : Int) < 3) ∧ ((0 : Int) ≤ l1 ∧ (l1 : Int) < 3) ∧ x_Ev l E (1, 0, 0) m_X11_copies 0 [(122, (572 + 1 + 5 * l1)), (122, (121 + 1 + 5 * l1)), (5, 0), (5, 0)] [] zM12 (fun r zM13 => r = none ∧ ∀ zv14 : Int, zv14 = x_w (l1 + 1) → x_Ev l E (2, 0, 0) m_X11_back 23 [(21, 103), (0, zv14)] [] zM13 Q)))) : x_Ev l E (2, 0, 0) m_X11_back 23 [(21, 103), (0, l1)] [] M Q := by
  refine i_iload_n 13 rfl rfl ?_
  refine i_iconst 14 rfl (by decide) ?_
  refine i_icmp_ge 120 15 rfl (by decide) (fun c => ?_) (fun c => ?_)
  · replace h := h.1 c
    refine i_aload_n 76 rfl rfl (by decide) ?_
    refine i_getP (c := 11) (k := 56) (t := 124) (b := 588) 77 rfl fl_1105 (by decide) rfl (by decide) rfl ?_
    refine i_aload_n 78 rfl rfl (by decide) ?_
    refine i_getP (c := 11) (k := 7) (t := 124) (b := 137) 79 rfl fl_1056 (by decide) rfl (by decide) rfl ?_
    refine i_callS (y1 := m_X11_copies) (z1 := (1, 0, 0)) (z2 := (2, 0, 0)) [(124, 588), (124, 137)] 80 rfl ml_1758 ok_X11_copies vk_X11_copies rfl ⟨rfl, Nat.le_of_ble_eq_true rfl⟩ (Nat.le_of_ble_eq_true rfl) ⟨by decide, rfl, rfl, rfl⟩ ?_
    refine h.mono (fun r zM1 h => ?_)
    obtain ⟨rfl, h⟩ := h
    simp only [Option.toList_some, Option.toList_none, List.cons_append, List.nil_append]
    refine i_aload_n 81 rfl rfl (by decide) ?_
    refine i_aload_n 82 rfl rfl (by decide) ?_
    refine i_getP (c := 11) (k := 57) (t := 118) (b := 592) 83 rfl fl_1106 (by decide) rfl (by decide) rfl ?_
    refine i_iconst 84 rfl (by decide) ?_
    refine i_lald (τ := 18) 85 rfl ⟨rfl, rfl, rfl, by decide⟩ (by decide) (by decide) ?_
    refine i_l2i 86 rfl ?_
    replace h := h _ rfl
    refine i_putI (c := 11) (k := 8) 87 rfl fl_1057 (by decide) ⟨rfl, rfl, rfl⟩ ?_
    refine i_aload_n 88 rfl rfl (by decide) ?_
    refine i_aload_n 89 rfl rfl (by decide) ?_
    refine i_getP (c := 11) (k := 57) (t := 118) (b := 592) 90 rfl fl_1106 (by decide) rfl (by decide) rfl ?_
    refine i_iconst 91 rfl (by decide) ?_
    refine i_lald (τ := 18) 92 rfl ⟨rfl, rfl, rfl, by decide⟩ (by decide) (by decide) ?_
    replace h := h _ rfl
    refine i_putL (c := 11) (k := 9) 93 rfl fl_1058 (by decide) ⟨rfl, rfl, rfl⟩ ?_
    refine i_aload_n 94 rfl rfl (by decide) ?_
    refine i_aload_n 95 rfl rfl (by decide) ?_
    refine i_getP (c := 11) (k := 57) (t := 118) (b := 592) 96 rfl fl_1106 (by decide) rfl (by decide) rfl ?_
    refine i_iconst 97 rfl (by decide) ?_
    refine i_lald (τ := 18) 98 rfl ⟨rfl, rfl, rfl, by decide⟩ (by decide) (by decide) ?_
    replace h := h _ rfl
    refine i_putL (c := 11) (k := 10) 99 rfl fl_1059 (by decide) ⟨rfl, rfl, rfl⟩ ?_
    refine i_aload_n 100 rfl rfl (by decide) ?_
    refine i_aload_n 101 rfl rfl (by decide) ?_
    refine i_getP (c := 11) (k := 57) (t := 118) (b := 592) 102 rfl fl_1106 (by decide) rfl (by decide) rfl ?_
    refine i_iconst 103 rfl (by decide) ?_
    refine i_lald (τ := 18) 104 rfl ⟨rfl, rfl, rfl, by decide⟩ (by decide) (by decide) ?_
    replace h := h _ rfl
    refine i_putL (c := 11) (k := 11) 105 rfl fl_1060 (by decide) ⟨rfl, rfl, rfl⟩ ?_
    refine i_aload_n 106 rfl rfl (by decide) ?_
    refine i_aload_n 107 rfl rfl (by decide) ?_
    refine i_getP (c := 11) (k := 57) (t := 118) (b := 592) 108 rfl fl_1106 (by decide) rfl (by decide) rfl ?_
    refine i_iconst 109 rfl (by decide) ?_
    refine i_lald (τ := 18) 110 rfl ⟨rfl, rfl, rfl, by decide⟩ (by decide) (by decide) ?_
    refine i_l2i 111 rfl ?_
    replace h := h _ rfl
    refine i_putI (c := 11) (k := 12) 112 rfl fl_1061 (by decide) ⟨rfl, rfl, rfl⟩ ?_
    refine i_aload_n 113 rfl rfl (by decide) ?_
    refine i_aload_n 114 rfl rfl (by decide) ?_
    refine i_getP (c := 11) (k := 57) (t := 118) (b := 592) 115 rfl fl_1106 (by decide) rfl (by decide) rfl ?_
    refine i_iconst 116 rfl (by decide) ?_
    refine i_lald (τ := 18) 117 rfl ⟨rfl, rfl, rfl, by decide⟩ (by decide) (by decide) ?_
    refine i_l2i 118 rfl ?_
    replace h := h _ rfl
    refine i_putI (c := 11) (k := 13) 119 rfl fl_1062 (by decide) ⟨rfl, rfl, rfl⟩ ?_
    refine i_aload_n 120 rfl rfl (by decide) ?_
    refine i_getI (c := 11) (k := 0) 121 rfl fl_1049 (by decide) (by decide) ?_
    exact i_ireturn 122 rfl rfl h
  · replace h := h.2 c
    refine i_aload_n 16 rfl rfl (by decide) ?_
    refine i_getP (c := 11) (k := 1) (t := 114) (b := 104) 17 rfl fl_1050 (by decide) rfl (by decide) rfl ?_
    refine i_iload_n 18 rfl rfl ?_
    refine i_aload_n 19 rfl rfl (by decide) ?_
    refine i_getP (c := 11) (k := 53) (t := 124) (b := 555) 20 rfl fl_1102 (by decide) rfl (by decide) rfl ?_
    refine i_iload_n 21 rfl rfl ?_
    refine i_aald (τ := 24) (t := 103) (len := 3) (b := (555 + 1 + 1 * l1)) 22 rfl (by decide) rfl h.1.1 h.1.2 ?_
    replace h := h.2
    refine i_iconst 23 rfl (by decide) ?_
    refine i_iald (τ := 3) 24 rfl ⟨rfl, rfl, rfl, by decide⟩ (by decide) (by decide) ?_
    have hb := h.1
    replace h := h.2 _ rfl
    refine i_iast (τ := 14) 25 rfl ⟨rfl, rfl, rfl, by decide⟩ hb.1 hb.2 ?_
    refine i_aload_n 26 rfl rfl (by decide) ?_
    refine i_getP (c := 11) (k := 2) (t := 114) (b := 105) 27 rfl fl_1051 (by decide) rfl (by decide) rfl ?_
    refine i_iload_n 28 rfl rfl ?_
    refine i_aload_n 29 rfl rfl (by decide) ?_
    refine i_getP (c := 11) (k := 53) (t := 124) (b := 555) 30 rfl fl_1102 (by decide) rfl (by decide) rfl ?_
    refine i_iload_n 31 rfl rfl ?_
    refine i_aald (τ := 24) (t := 103) (len := 3) (b := (555 + 1 + 1 * l1)) 32 rfl (by decide) rfl h.1.1 h.1.2 ?_
    replace h := h.2
    refine i_iconst 33 rfl (by decide) ?_
    refine i_iald (τ := 3) 34 rfl ⟨rfl, rfl, rfl, by decide⟩ (by decide) (by decide) ?_
    have hb := h.1
    replace h := h.2 _ rfl
    refine i_iast (τ := 14) 35 rfl ⟨rfl, rfl, rfl, by decide⟩ hb.1 hb.2 ?_
    refine i_aload_n 36 rfl rfl (by decide) ?_
    refine i_getP (c := 11) (k := 3) (t := 114) (b := 106) 37 rfl fl_1052 (by decide) rfl (by decide) rfl ?_
    refine i_iload_n 38 rfl rfl ?_
    refine i_aload_n 39 rfl rfl (by decide) ?_
    refine i_getP (c := 11) (k := 53) (t := 124) (b := 555) 40 rfl fl_1102 (by decide) rfl (by decide) rfl ?_
    refine i_iload_n 41 rfl rfl ?_
    refine i_aald (τ := 24) (t := 103) (len := 3) (b := (555 + 1 + 1 * l1)) 42 rfl (by decide) rfl h.1.1 h.1.2 ?_
    replace h := h.2
    refine i_iconst 43 rfl (by decide) ?_
    refine i_iald (τ := 3) 44 rfl ⟨rfl, rfl, rfl, by decide⟩ (by decide) (by decide) ?_
    have hb := h.1
    replace h := h.2 _ rfl
    refine i_iast (τ := 14) 45 rfl ⟨rfl, rfl, rfl, by decide⟩ hb.1 hb.2 ?_
    refine i_aload_n 46 rfl rfl (by decide) ?_
    refine i_getP (c := 11) (k := 4) (t := 114) (b := 107) 47 rfl fl_1053 (by decide) rfl (by decide) rfl ?_
    refine i_iload_n 48 rfl rfl ?_
    refine i_aload_n 49 rfl rfl (by decide) ?_
    refine i_getP (c := 11) (k := 53) (t := 124) (b := 555) 50 rfl fl_1102 (by decide) rfl (by decide) rfl ?_
    refine i_iload_n 51 rfl rfl ?_
    refine i_aald (τ := 24) (t := 103) (len := 3) (b := (555 + 1 + 1 * l1)) 52 rfl (by decide) rfl h.1.1 h.1.2 ?_
    replace h := h.2
    refine i_iconst 53 rfl (by decide) ?_
    refine i_iald (τ := 3) 54 rfl ⟨rfl, rfl, rfl, by decide⟩ (by decide) (by decide) ?_
    have hb := h.1
    replace h := h.2 _ rfl
    refine i_iast (τ := 14) 55 rfl ⟨rfl, rfl, rfl, by decide⟩ hb.1 hb.2 ?_
    refine i_aload_n 56 rfl rfl (by decide) ?_
    refine i_getP (c := 11) (k := 54) (t := 121) (b := 559) 57 rfl fl_1103 (by decide) rfl (by decide) rfl ?_
    refine i_iload_n 58 rfl rfl ?_
    refine i_aald (τ := 21) (t := 120) (len := 3) (b := (559 + 1 + 4 * l1)) 59 rfl (by decide) rfl h.1.1 h.1.2 ?_
    replace h := h.2
    refine i_aload_n 60 rfl rfl (by decide) ?_
    refine i_getP (c := 11) (k := 5) (t := 121) (b := 108) 61 rfl fl_1054 (by decide) rfl (by decide) rfl ?_
    refine i_iload_n 62 rfl rfl ?_
    refine i_aald (τ := 21) (t := 120) (len := 3) (b := (108 + 1 + 4 * l1)) 63 rfl (by decide) rfl h.1.1 h.1.2 ?_
    replace h := h.2
    refine i_callS (y1 := m_X11_copies) (z1 := (1, 0, 0)) (z2 := (2, 0, 0)) [(120, (559 + 1 + 4 * l1)), (120, (108 + 1 + 4 * l1))] 64 rfl ml_1758 ok_X11_copies vk_X11_copies rfl ⟨rfl, Nat.le_of_ble_eq_true rfl⟩ (Nat.le_of_ble_eq_true rfl) ⟨by decide, rfl, rfl, rfl⟩ ?_
    refine h.mono (fun r zM12 h => ?_)
    obtain ⟨rfl, h⟩ := h
    simp only [Option.toList_some, Option.toList_none, List.cons_append, List.nil_append]
    refine i_aload_n 65 rfl rfl (by decide) ?_
    refine i_getP (c := 11) (k := 55) (t := 123) (b := 572) 66 rfl fl_1104 (by decide) rfl (by decide) rfl ?_
    refine i_iload_n 67 rfl rfl ?_
    refine i_aald (τ := 23) (t := 122) (len := 3) (b := (572 + 1 + 5 * l1)) 68 rfl (by decide) rfl h.1.1 h.1.2 ?_
    replace h := h.2
    refine i_aload_n 69 rfl rfl (by decide) ?_
    refine i_getP (c := 11) (k := 6) (t := 123) (b := 121) 70 rfl fl_1055 (by decide) rfl (by decide) rfl ?_
    refine i_iload_n 71 rfl rfl ?_
    refine i_aald (τ := 23) (t := 122) (len := 3) (b := (121 + 1 + 5 * l1)) 72 rfl (by decide) rfl h.1.1 h.1.2 ?_
    replace h := h.2
    refine i_callS (y1 := m_X11_copies) (z1 := (1, 0, 0)) (z2 := (2, 0, 0)) [(122, (572 + 1 + 5 * l1)), (122, (121 + 1 + 5 * l1))] 73 rfl ml_1758 ok_X11_copies vk_X11_copies rfl ⟨rfl, Nat.le_of_ble_eq_true rfl⟩ (Nat.le_of_ble_eq_true rfl) ⟨by decide, rfl, rfl, rfl⟩ ?_
    refine h.mono (fun r zM13 h => ?_)
    obtain ⟨rfl, h⟩ := h
    simp only [Option.toList_some, Option.toList_none, List.cons_append, List.nil_append]
    replace h := h _ rfl
    refine i_iinc 74 rfl rfl (by decide) rfl ?_
    refine i_goto 23 75 rfl (by decide) ?_
    exact h
theorem u_X11_count_0 {l : Launch} {E : xE} (a1 : Int) {M : xM} {Q : Option xV → xM → Prop} (h : ((a1 < 0 ∨ 7 < a1) → x_Ev l E (1, 0, 0) m_X11_finds 0 [(21, 103), (0, 0)] [] M (fun r zM1 => ∃ zr2, r = some (0, zr2) ∧ Q (some (0, zr2)) zM1)) ∧ (a1 = 0 → Q (some (0, (M 103 0))) M) ∧ (a1 = 1 → Q (some (0, (M 103 8))) M) ∧ (a1 = 2 → Q (some (0, (M 103 12))) M) ∧ (a1 = 3 → Q (some (0, (M 103 13))) M) ∧ (a1 = 4 → Q (some (0, (M 103 42))) M) ∧ (a1 = 5 → x_Ev l E (2, 0, 0) m_X11_held 0 [(21, 103), (5, 0), (5, 0)] [] M (fun r zM3 => ∃ zr4, r = some (0, zr4) ∧ Q (some (0, zr4)) zM3)) ∧ (a1 = 6 → x_Ev l E (10, 0, 0) m_X11_plans_ 0 [(21, 103), (5, 0)] [] M (fun r zM5 => r = none ∧ x_Ev l E (6, 0, 0) m_X11_findsBreaks 0 [(21, 103), (0, (-1)), (5, 0)] [] zM5 (fun r zM6 => r = none ∧ Q (some (0, (x_w ((zM6 103 25) + 1)))) zM6))) ∧ (a1 = 7 → (¬ (M 103 11) = (x_w (M 103 11)) → x_Ev l E (1, 0, 0) m_X11_finds 0 [(21, 103), (0, 7)] [] M (fun r zM7 => ∃ zr8, r = some (0, zr8) ∧ Q (some (0, zr8)) zM7)) ∧ ((M 103 11) = (x_w (M 103 11)) → Q (some (0, (x_w (M 103 11)))) M))) : x_Ev l E (11, 0, 0) m_X11_count 0 [(21, 103), (0, a1)] [] M Q := by
  refine i_iload_n 0 rfl rfl ?_
  refine i_switch 123 1 rfl (by decide) (fun c => ?_) (fun c1 c2 => ?_)
  · replace h := h.1 c
    refine i_aload_n 46 rfl rfl (by decide) ?_
    refine i_iconst 47 rfl (by decide) ?_
    refine i_callV (c := 11) (y1 := m_X11_finds) (z1 := (1, 0, 0)) (z2 := (11, 0, 0)) [(0, 0)] 48 rfl ml_1233 ok_X11_finds vk_X11_finds ⟨by decide, rfl⟩ rfl ⟨rfl, Nat.le_of_ble_eq_true rfl⟩ (Nat.le_of_ble_eq_true rfl) ⟨by decide, rfl, rfl, rfl⟩ ?_
    refine h.mono (fun r zM1 h => ?_)
    obtain ⟨zr2, rfl, h⟩ := h
    simp only [Option.toList_some, Option.toList_none, List.cons_append, List.nil_append]
    exact i_ireturn 49 rfl rfl h
  · replace h := h.2
    by_cases e0 : a1 = 0
    · refine ⟨47, 48, by rw [e0]; rfl, by decide, ?_⟩
      replace h := h.1 e0
      refine i_aload_n 2 rfl rfl (by decide) ?_
      refine i_getI (c := 11) (k := 0) 3 rfl fl_1049 (by decide) (by decide) ?_
      exact i_ireturn 4 rfl rfl h
    replace h := h.2
    by_cases e1 : a1 = 1
    · refine ⟨52, 53, by rw [e1]; rfl, by decide, ?_⟩
      replace h := h.1 e1
      refine i_aload_n 5 rfl rfl (by decide) ?_
      refine i_getI (c := 11) (k := 8) 6 rfl fl_1057 (by decide) (by decide) ?_
      exact i_ireturn 7 rfl rfl h
    replace h := h.2
    by_cases e2 : a1 = 2
    · refine ⟨57, 58, by rw [e2]; rfl, by decide, ?_⟩
      replace h := h.1 e2
      refine i_aload_n 8 rfl rfl (by decide) ?_
      refine i_getI (c := 11) (k := 12) 9 rfl fl_1061 (by decide) (by decide) ?_
      exact i_ireturn 10 rfl rfl h
    replace h := h.2
    by_cases e3 : a1 = 3
    · refine ⟨62, 63, by rw [e3]; rfl, by decide, ?_⟩
      replace h := h.1 e3
      refine i_aload_n 11 rfl rfl (by decide) ?_
      refine i_getI (c := 11) (k := 13) 12 rfl fl_1062 (by decide) (by decide) ?_
      exact i_ireturn 13 rfl rfl h
    replace h := h.2
    by_cases e4 : a1 = 4
    · refine ⟨67, 68, by rw [e4]; rfl, by decide, ?_⟩
      replace h := h.1 e4
      refine i_aload_n 14 rfl rfl (by decide) ?_
      refine i_getI (c := 11) (k := 42) 15 rfl fl_1091 (by decide) (by decide) ?_
      exact i_ireturn 16 rfl rfl h
    replace h := h.2
    by_cases e5 : a1 = 5
    · refine ⟨72, 73, by rw [e5]; rfl, by decide, ?_⟩
      replace h := h.1 e5
      refine i_aload_n 17 rfl rfl (by decide) ?_
      refine i_callV (c := 11) (y1 := m_X11_held) (z1 := (2, 0, 0)) (z2 := (11, 0, 0)) [] 18 rfl ml_1769 ok_X11_held vk_X11_held ⟨by decide, rfl⟩ rfl ⟨rfl, Nat.le_of_ble_eq_true rfl⟩ (Nat.le_of_ble_eq_true rfl) ⟨by decide, rfl, rfl, rfl⟩ ?_
      refine h.mono (fun r zM3 h => ?_)
      obtain ⟨zr4, rfl, h⟩ := h
      simp only [Option.toList_some, Option.toList_none, List.cons_append, List.nil_append]
      exact i_ireturn 19 rfl rfl h
    replace h := h.2
    by_cases e6 : a1 = 6
    · refine ⟨77, 78, by rw [e6]; rfl, by decide, ?_⟩
      replace h := h.1 e6
      refine i_aload_n 20 rfl rfl (by decide) ?_
      refine i_callV (c := 11) (y1 := m_X11_plans_) (z1 := (10, 0, 0)) (z2 := (11, 0, 0)) [] 21 rfl ml_1425 ok_X11_plans_ vk_X11_plans_ ⟨by decide, rfl⟩ rfl ⟨rfl, Nat.le_of_ble_eq_true rfl⟩ (Nat.le_of_ble_eq_true rfl) ⟨by decide, rfl, rfl, rfl⟩ ?_
      refine h.mono (fun r zM5 h => ?_)
      obtain ⟨rfl, h⟩ := h
      simp only [Option.toList_some, Option.toList_none, List.cons_append, List.nil_append]
      refine i_aload_n 22 rfl rfl (by decide) ?_
      refine i_iconst 23 rfl (by decide) ?_
      refine i_callV (c := 11) (y1 := m_X11_findsBreaks) (z1 := (6, 0, 0)) (z2 := (11, 0, 0)) [(0, (-1))] 24 rfl ml_1566 ok_X11_findsBreaks vk_X11_findsBreaks ⟨by decide, rfl⟩ rfl ⟨rfl, Nat.le_of_ble_eq_true rfl⟩ (Nat.le_of_ble_eq_true rfl) ⟨by decide, rfl, rfl, rfl⟩ ?_
      refine h.mono (fun r zM6 h => ?_)
      obtain ⟨rfl, h⟩ := h
      simp only [Option.toList_some, Option.toList_none, List.cons_append, List.nil_append]
      refine i_aload_n 25 rfl rfl (by decide) ?_
      refine i_getI (c := 11) (k := 25) 26 rfl fl_1074 (by decide) (by decide) ?_
      refine i_iconst 27 rfl (by decide) ?_
      refine i_iadd 28 rfl ?_
      exact i_ireturn 29 rfl rfl h
    replace h := h.2
    by_cases e7 : a1 = 7
    · refine ⟨93, 94, by rw [e7]; rfl, by decide, ?_⟩
      replace h := h e7
      refine i_aload_n 30 rfl rfl (by decide) ?_
      refine i_getL (c := 11) (k := 11) 31 rfl fl_1060 (by decide) rfl ?_
      refine i_aload_n 32 rfl rfl (by decide) ?_
      refine i_getL (c := 11) (k := 11) 33 rfl fl_1060 (by decide) rfl ?_
      refine i_l2i 34 rfl ?_
      refine i_i2l 35 rfl ?_
      refine i_lcmp_ne 116 36 rfl rfl (by decide) (fun c => ?_) (fun c => ?_)
      · replace h := h.1 c
        refine i_aload_n 42 rfl rfl (by decide) ?_
        refine i_bipush 43 rfl (by decide) ?_
        refine i_callV (c := 11) (y1 := m_X11_finds) (z1 := (1, 0, 0)) (z2 := (11, 0, 0)) [(0, 7)] 44 rfl ml_1233 ok_X11_finds vk_X11_finds ⟨by decide, rfl⟩ rfl ⟨rfl, Nat.le_of_ble_eq_true rfl⟩ (Nat.le_of_ble_eq_true rfl) ⟨by decide, rfl, rfl, rfl⟩ ?_
        refine h.mono (fun r zM7 h => ?_)
        obtain ⟨zr8, rfl, h⟩ := h
        simp only [Option.toList_some, Option.toList_none, List.cons_append, List.nil_append]
        exact i_ireturn 45 rfl rfl h
      · replace h := h.2 c
        refine i_aload_n 38 rfl rfl (by decide) ?_
        refine i_getL (c := 11) (k := 11) 39 rfl fl_1060 (by decide) rfl ?_
        refine i_l2i 40 rfl ?_
        refine i_goto 122 41 rfl (by decide) ?_
        exact i_ireturn 45 rfl rfl h
    exact absurd c1 (by omega)
theorem u_X11_status_0 {l : Launch} {E : xE} (a1 : Int) {M : xM} {Q : Option xV → xM → Prop} (h : x_Ev l E (1, 0, 0) m_X11_in 0 [(1, a1), (5, 0), (1, (-1)), (5, 0), (1, 7), (5, 0)] [] M (fun r zM1 => ∃ zr2, r = some (0, zr2) ∧ (¬ zr2 = 0 → x_Ev l E (2, 0, 0) m_X11_status 24 [(21, 103), (0, a1), (0, 0), (0, 0)] [] zM1 Q) ∧ (zr2 = 0 → x_Ev l E (1, 0, 0) m_X11_finds 0 [(21, 103), (0, 0)] [] zM1 (fun r zM3 => ∃ zr4, r = some (0, zr4) ∧ Q (some (0, zr4)) zM3)))) : x_Ev l E (2, 0, 0) m_X11_status 0 [(21, 103), (0, a1), (5, 0), (5, 0)] [] M Q := by
  refine i_iload_n 0 rfl rfl ?_
  refine i_i2l 1 rfl ?_
  refine i_ldc2 (v := (-1)) 2 rfl cw_1420 (by decide) ?_
  refine i_ldc2 (v := 7) 3 rfl cw_1777 (by decide) ?_
  refine i_callS (y1 := m_X11_in) (z1 := (1, 0, 0)) (z2 := (2, 0, 0)) [(1, a1), (1, (-1)), (1, 7)] 4 rfl ml_1229 ok_X11_in vk_X11_in rfl ⟨rfl, Nat.le_of_ble_eq_true rfl⟩ (Nat.le_of_ble_eq_true rfl) ⟨by decide, rfl, rfl, rfl⟩ ?_
  refine h.mono (fun r zM1 h => ?_)
  obtain ⟨zr2, rfl, h⟩ := h
  simp only [Option.toList_some, Option.toList_none, List.cons_append, List.nil_append]
  refine i_if_ne 20 5 rfl (by decide) (fun c => ?_) (fun c => ?_)
  · replace h := h.1 c
    refine i_iconst 10 rfl (by decide) ?_
    refine i_istore_n 11 rfl (by decide) rfl ?_
    refine i_iconst 12 rfl (by decide) ?_
    refine i_istore_n 13 rfl (by decide) rfl ?_
    exact h
  · replace h := h.2 c
    refine i_aload_n 6 rfl rfl (by decide) ?_
    refine i_iconst 7 rfl (by decide) ?_
    refine i_callV (c := 11) (y1 := m_X11_finds) (z1 := (1, 0, 0)) (z2 := (2, 0, 0)) [(0, 0)] 8 rfl ml_1233 ok_X11_finds vk_X11_finds ⟨by decide, rfl⟩ rfl ⟨rfl, Nat.le_of_ble_eq_true rfl⟩ (Nat.le_of_ble_eq_true rfl) ⟨by decide, rfl, rfl, rfl⟩ ?_
    refine h.mono (fun r zM3 h => ?_)
    obtain ⟨zr4, rfl, h⟩ := h
    simp only [Option.toList_some, Option.toList_none, List.cons_append, List.nil_append]
    exact i_ireturn 9 rfl rfl h
theorem u_X11_status_24 {l : Launch} {E : xE} (l1 l2 l3 : Int) {M : xM} {Q : Option xV → xM → Prop} (h : (8 ≤ l3 → Q (some (0, l2)) M) ∧ (¬ 8 ≤ l3 → (l1 < 0 → ((0 : Int) ≤ l3 ∧ (l3 : Int) < 8) ∧ ∀ zv1 : Int, zv1 = (x_w (l2 + (M 141 l3))) → ∀ zv2 : Int, zv2 = x_w (l3 + 1) → x_Ev l E (2, 0, 0) m_X11_status 24 [(21, 103), (0, l1), (0, zv1), (0, zv2)] [] M Q) ∧ (¬ l1 < 0 → (¬ l1 = l3 → ∀ zv3 : Int, zv3 = (x_w (l2 + 0)) → ∀ zv4 : Int, zv4 = x_w (l3 + 1) → x_Ev l E (2, 0, 0) m_X11_status 24 [(21, 103), (0, l1), (0, zv3), (0, zv4)] [] M Q) ∧ (l1 = l3 → ((0 : Int) ≤ l3 ∧ (l3 : Int) < 8) ∧ ∀ zv5 : Int, zv5 = (x_w (l2 + (M 141 l3))) → ∀ zv6 : Int, zv6 = x_w (l3 + 1) → x_Ev l E (2, 0, 0) m_X11_status 24 [(21, 103), (0, l1), (0, zv5), (0, zv6)] [] M Q)))) : x_Ev l E (2, 0, 0) m_X11_status 24 [(21, 103), (0, l1), (0, l2), (0, l3)] [] M Q := by
  refine i_iload_n 14 rfl rfl ?_
  refine i_bipush 15 rfl (by decide) ?_
  refine i_icmp_ge 58 16 rfl (by decide) (fun c => ?_) (fun c => ?_)
  · replace h := h.1 c
    refine i_iload_n 33 rfl rfl ?_
    exact i_ireturn 34 rfl rfl h
  · replace h := h.2 c
    refine i_iload_n 17 rfl rfl ?_
    refine i_iload_n 18 rfl rfl ?_
    refine i_if_lt 40 19 rfl (by decide) (fun c => ?_) (fun c => ?_)
    · replace h := h.1 c
      refine i_aload_n 23 rfl rfl (by decide) ?_
      refine i_getP (c := 11) (k := 14) (t := 119) (b := 141) 24 rfl fl_1063 (by decide) rfl (by decide) rfl ?_
      refine i_iload_n 25 rfl rfl ?_
      refine i_iald (τ := 19) 26 rfl ⟨rfl, rfl, rfl, by decide⟩ h.1.1 h.1.2 ?_
      replace h := h.2
      refine i_goto 50 27 rfl (by decide) ?_
      refine i_iadd 29 rfl ?_
      replace h := h _ rfl
      refine i_istore_n 30 rfl (by decide) rfl ?_
      replace h := h _ rfl
      refine i_iinc 31 rfl rfl (by decide) rfl ?_
      refine i_goto 24 32 rfl (by decide) ?_
      exact h
    · replace h := h.2 c
      refine i_iload_n 20 rfl rfl ?_
      refine i_iload_n 21 rfl rfl ?_
      refine i_icmp_ne 49 22 rfl (by decide) (fun c => ?_) (fun c => ?_)
      · replace h := h.1 c
        refine i_iconst 28 rfl (by decide) ?_
        refine i_iadd 29 rfl ?_
        replace h := h _ rfl
        refine i_istore_n 30 rfl (by decide) rfl ?_
        replace h := h _ rfl
        refine i_iinc 31 rfl rfl (by decide) rfl ?_
        refine i_goto 24 32 rfl (by decide) ?_
        exact h
      · replace h := h.2 c
        refine i_aload_n 23 rfl rfl (by decide) ?_
        refine i_getP (c := 11) (k := 14) (t := 119) (b := 141) 24 rfl fl_1063 (by decide) rfl (by decide) rfl ?_
        refine i_iload_n 25 rfl rfl ?_
        refine i_iald (τ := 19) 26 rfl ⟨rfl, rfl, rfl, by decide⟩ h.1.1 h.1.2 ?_
        replace h := h.2
        refine i_goto 50 27 rfl (by decide) ?_
        refine i_iadd 29 rfl ?_
        replace h := h _ rfl
        refine i_istore_n 30 rfl (by decide) rfl ?_
        replace h := h _ rfl
        refine i_iinc 31 rfl rfl (by decide) rfl ?_
        refine i_goto 24 32 rfl (by decide) ?_
        exact h
theorem u_X11_in_0 {l : Launch} {E : xE} (a0 a1 a2 : Int) {M : xM} {Q : Option xV → xM → Prop} (h : (a0 < a1 → Q (some (0, 0)) M) ∧ (¬ a0 < a1 → (a2 < a0 → Q (some (0, 0)) M) ∧ (¬ a2 < a0 → Q (some (0, 1)) M))) : x_Ev l E (1, 0, 0) m_X11_in 0 [(1, a0), (5, 0), (1, a1), (5, 0), (1, a2), (5, 0)] [] M Q := by
  refine i_lload_n 0 rfl rfl ?_
  refine i_lload_n 1 rfl rfl ?_
  refine i_lcmp_lt 17 2 rfl rfl (by decide) (fun c => ?_) (fun c => ?_)
  · replace h := h.1 c
    refine i_iconst 10 rfl (by decide) ?_
    exact i_zreturn 11 rfl rfl (by decide) h
  · replace h := h.2 c
    refine i_lload_n 4 rfl rfl ?_
    refine i_lload 5 rfl rfl ?_
    refine i_lcmp_gt 17 6 rfl rfl (by decide) (fun c => ?_) (fun c => ?_)
    · replace h := h.1 c
      refine i_iconst 10 rfl (by decide) ?_
      exact i_zreturn 11 rfl rfl (by decide) h
    · replace h := h.2 c
      refine i_iconst 8 rfl (by decide) ?_
      refine i_goto 18 9 rfl (by decide) ?_
      exact i_zreturn 11 rfl rfl (by decide) h
theorem u_X11_finds_0 {l : Launch} {E : xE} (a1 : Int) {M : xM} {Q : Option xV → xM → Prop} (h : ((0 : Int) ≤ a1 ∧ (a1 : Int) < 8) ∧ (0 ≤ a1 ∧ a1 < 8) ∧ ∀ zM1 : xM, zM1 = x_wr M 141 a1 (x_w ((M 141 a1) + 1)) → Q (some (0, (x_w ((-1000001) - a1)))) zM1) : x_Ev l E (1, 0, 0) m_X11_finds 0 [(21, 103), (0, a1)] [] M Q := by
  refine i_aload_n 0 rfl rfl (by decide) ?_
  refine i_getP (c := 11) (k := 14) (t := 119) (b := 141) 1 rfl fl_1063 (by decide) rfl (by decide) rfl ?_
  refine i_iload_n 2 rfl rfl ?_
  refine i_dup2 3 rfl ⟨Nat.ne_of_beq_eq_false rfl, Nat.ne_of_beq_eq_false rfl⟩ ?_
  refine i_iald (τ := 19) 4 rfl ⟨rfl, rfl, rfl, by decide⟩ h.1.1 h.1.2 ?_
  replace h := h.2
  refine i_iconst 5 rfl (by decide) ?_
  refine i_iadd 6 rfl ?_
  have hb := h.1
  replace h := h.2 _ rfl
  refine i_iast (τ := 19) 7 rfl ⟨rfl, rfl, rfl, by decide⟩ hb.1 hb.2 ?_
  refine i_ldc (v := (-1000001)) 8 rfl cw_1237 (by decide) ?_
  refine i_iload_n 9 rfl rfl ?_
  refine i_isub 10 rfl ?_
  exact i_ireturn 11 rfl rfl h
theorem u_X11_isFollower_0 {l : Launch} {E : xE} (a1 : Int) {M : xM} {Q : Option xV → xM → Prop} (h : x_Ev l E (1, 0, 0) m_X11_in 0 [(1, a1), (5, 0), (1, 0), (5, 0), (1, (x_w ((M 103 0) - 1))), (5, 0)] [] M (fun r zM1 => ∃ zr2, r = some (0, zr2) ∧ (zr2 = 0 ∨ zr2 = 1) ∧ Q (some (0, zr2)) zM1)) : x_Ev l E (2, 0, 0) m_X11_isFollower 0 [(21, 103), (0, a1)] [] M Q := by
  refine i_iload_n 0 rfl rfl ?_
  refine i_i2l 1 rfl ?_
  refine i_lconst (w := 0) 2 rfl (by decide) ?_
  refine i_aload_n 3 rfl rfl (by decide) ?_
  refine i_getI (c := 11) (k := 0) 4 rfl fl_1049 (by decide) (by decide) ?_
  refine i_iconst 5 rfl (by decide) ?_
  refine i_isub 6 rfl ?_
  refine i_i2l 7 rfl ?_
  refine i_callS (y1 := m_X11_in) (z1 := (1, 0, 0)) (z2 := (2, 0, 0)) [(1, a1), (1, 0), (1, (x_w ((M 103 0) - 1)))] 8 rfl ml_1229 ok_X11_in vk_X11_in rfl ⟨rfl, Nat.le_of_ble_eq_true rfl⟩ (Nat.le_of_ble_eq_true rfl) ⟨by decide, rfl, rfl, rfl⟩ ?_
  refine h.mono (fun r zM1 h => ?_)
  obtain ⟨zr2, rfl, h⟩ := h
  simp only [Option.toList_some, Option.toList_none, List.cons_append, List.nil_append]
  exact i_zreturn 9 rfl rfl h.1 h.2
theorem u_X11_plans_0 {l : Launch} {E : xE} (a1 : Int) {M : xM} {Q : Option xV → xM → Prop} (h : (0 ≤ a1 ∧ a1 < 3) ∧ ∀ zM1 : xM, zM1 = x_wr M 149 a1 0 → x_Ev l E (9, 0, 0) m_X11_plans 9 [(21, 103), (0, a1), (0, 1), (5, 0), (5, 0)] [] zM1 Q) : x_Ev l E (9, 0, 0) m_X11_plans 0 [(21, 103), (0, a1), (5, 0), (5, 0), (5, 0)] [] M Q := by
  refine i_aload_n 0 rfl rfl (by decide) ?_
  refine i_getP (c := 11) (k := 21) (t := 114) (b := 149) 1 rfl fl_1070 (by decide) rfl (by decide) rfl ?_
  refine i_iload_n 2 rfl rfl ?_
  refine i_iconst 3 rfl (by decide) ?_
  have hb := h.1
  replace h := h.2 _ rfl
  refine i_iast (τ := 14) 4 rfl ⟨rfl, rfl, rfl, by decide⟩ hb.1 hb.2 ?_
  refine i_iconst 5 rfl (by decide) ?_
  refine i_istore_n 6 rfl (by decide) rfl ?_
  exact h
theorem u_X11_plans_9 {l : Launch} {E : xE} (l1 l2 : Int) {M : xM} {Q : Option xV → xM → Prop} (h : x_Ev l E (1, 0, 0) m_X11_pairs 0 [(21, 103), (0, l1)] [] M (fun r zM1 => ∃ zr2, r = some (0, zr2) ∧ ((x_ishl 1 zr2) ≤ l2 → Q none zM1) ∧ (¬ (x_ishl 1 zr2) ≤ l2 → x_Ev l E (1, 0, 0) m_J6_bitCount_0f7a4 0 [(0, l2)] [] zM1 (fun r zM3 => ∃ zr4, r = some (0, zr4) ∧ ((0 : Int) ≤ l1 ∧ (l1 : Int) < 3) ∧ (zr4 = (zM3 106 l1) → x_Ev l E (2, 0, 0) m_X11_laysPrimal 0 [(21, 103), (0, l1), (0, l2), (5, 0), (5, 0)] [] zM3 (fun r zM5 => r = none ∧ x_Ev l E (8, 0, 0) m_X11_solves 0 [(21, 103), (5, 0), (5, 0), (5, 0)] [] zM5 (fun r zM6 => ∃ zr7, r = some (1, zr7) ∧ (zr7 = 0 → ∀ zv8 : Int, zv8 = x_w (l2 + 1) → x_Ev l E (9, 0, 0) m_X11_plans 9 [(21, 103), (0, l1), (0, zv8), (5, 0), (5, 0)] [] zM6 Q) ∧ (¬ zr7 = 0 → x_Ev l E (2, 0, 0) m_X11_mayChoose 0 [(21, 103), (0, l1), (1, zr7), (5, 0), (5, 0)] [] zM6 (fun r zM9 => ∃ zr10, r = some (0, zr10) ∧ (zr10 = 0 → ∀ zv11 : Int, zv11 = x_w (l2 + 1) → x_Ev l E (9, 0, 0) m_X11_plans 9 [(21, 103), (0, l1), (0, zv11), (5, 0), (5, 0)] [] zM9 Q) ∧ (¬ zr10 = 0 → x_Ev l E (3, 0, 0) m_X11_takesPlan 0 [(21, 103), (0, l1), (1, zr7), (5, 0), (5, 0), (5, 0), (5, 0)] [] zM9 (fun r zM12 => r = none ∧ ∀ zv13 : Int, zv13 = x_w (l2 + 1) → x_Ev l E (9, 0, 0) m_X11_plans 9 [(21, 103), (0, l1), (0, zv13), (5, 0), (5, 0)] [] zM12 Q))))))) ∧ (¬ zr4 = (zM3 106 l1) → ∀ zv14 : Int, zv14 = x_w (l2 + 1) → x_Ev l E (9, 0, 0) m_X11_plans 9 [(21, 103), (0, l1), (0, zv14), (5, 0), (5, 0)] [] zM3 Q))))) : x_Ev l E (9, 0, 0) m_X11_plans 9 [(21, 103), (0, l1), (0, l2), (5, 0), (5, 0)] [] M Q := by
  refine i_iload_n 7 rfl rfl ?_
  refine i_iconst 8 rfl (by decide) ?_
  refine i_aload_n 9 rfl rfl (by decide) ?_
  refine i_iload_n 10 rfl rfl ?_
  refine i_callV (c := 11) (y1 := m_X11_pairs) (z1 := (1, 0, 0)) (z2 := (9, 0, 0)) [(0, l1)] 11 rfl ml_1255 ok_X11_pairs vk_X11_pairs ⟨by decide, rfl⟩ rfl ⟨rfl, Nat.le_of_ble_eq_true rfl⟩ (Nat.le_of_ble_eq_true rfl) ⟨by decide, rfl, rfl, rfl⟩ ?_
  refine h.mono (fun r zM1 h => ?_)
  obtain ⟨zr2, rfl, h⟩ := h
  simp only [Option.toList_some, Option.toList_none, List.cons_append, List.nil_append]
  refine i_ishl 12 rfl ?_
  refine i_icmp_ge 74 13 rfl (by decide) (fun c => ?_) (fun c => ?_)
  · replace h := h.1 c
    exact i_return 44 rfl rfl h
  · replace h := h.2 c
    refine i_iload_n 14 rfl rfl ?_
    refine i_callS (y1 := m_J6_bitCount_0f7a4) (z1 := (1, 0, 0)) (z2 := (9, 0, 0)) [(0, l2)] 15 rfl ml_1259 ok_J6_bitCount_0f7a4 vk_J6_bitCount_0f7a4 rfl ⟨rfl, Nat.le_of_ble_eq_true rfl⟩ (Nat.le_of_ble_eq_true rfl) ⟨by decide, rfl, rfl, rfl⟩ ?_
    refine h.mono (fun r zM3 h => ?_)
    obtain ⟨zr4, rfl, h⟩ := h
    simp only [Option.toList_some, Option.toList_none, List.cons_append, List.nil_append]
    refine i_aload_n 16 rfl rfl (by decide) ?_
    refine i_getP (c := 11) (k := 3) (t := 114) (b := 106) 17 rfl fl_1052 (by decide) rfl (by decide) rfl ?_
    refine i_iload_n 18 rfl rfl ?_
    refine i_iald (τ := 14) 19 rfl ⟨rfl, rfl, rfl, by decide⟩ h.1.1 h.1.2 ?_
    replace h := h.2
    refine i_icmp_eq 36 20 rfl (by decide) (fun c => ?_) (fun c => ?_)
    · replace h := h.1 c
      refine i_aload_n 22 rfl rfl (by decide) ?_
      refine i_iload_n 23 rfl rfl ?_
      refine i_iload_n 24 rfl rfl ?_
      refine i_callV (c := 11) (y1 := m_X11_laysPrimal) (z1 := (2, 0, 0)) (z2 := (9, 0, 0)) [(0, l1), (0, l2)] 25 rfl ml_1260 ok_X11_laysPrimal vk_X11_laysPrimal ⟨by decide, rfl⟩ rfl ⟨rfl, Nat.le_of_ble_eq_true rfl⟩ (Nat.le_of_ble_eq_true rfl) ⟨by decide, rfl, rfl, rfl⟩ ?_
      refine h.mono (fun r zM5 h => ?_)
      obtain ⟨rfl, h⟩ := h
      simp only [Option.toList_some, Option.toList_none, List.cons_append, List.nil_append]
      refine i_aload_n 26 rfl rfl (by decide) ?_
      refine i_callV (c := 11) (y1 := m_X11_solves) (z1 := (8, 0, 0)) (z2 := (9, 0, 0)) [] 27 rfl ml_1264 ok_X11_solves vk_X11_solves ⟨by decide, rfl⟩ rfl ⟨rfl, Nat.le_of_ble_eq_true rfl⟩ (Nat.le_of_ble_eq_true rfl) ⟨by decide, rfl, rfl, rfl⟩ ?_
      refine h.mono (fun r zM6 h => ?_)
      obtain ⟨zr7, rfl, h⟩ := h
      simp only [Option.toList_some, Option.toList_none, List.cons_append, List.nil_append]
      refine i_lstore_n 28 rfl (by decide) rfl ?_
      refine i_lload_n 29 rfl rfl ?_
      refine i_lconst (w := 0) 30 rfl (by decide) ?_
      refine i_lcmp_eq 68 31 rfl rfl (by decide) (fun c => ?_) (fun c => ?_)
      · replace h := h.1 c
        replace h := h _ rfl
        refine i_iinc 42 rfl rfl (by decide) rfl ?_
        refine i_goto 9 43 rfl (by decide) ?_
        refine i_weak ?_ h
        exact (And.intro (Or.inr rfl) (And.intro (Or.inr rfl) (And.intro (Or.inr rfl) (And.intro (Or.inl rfl) (And.intro (Or.inr rfl) trivial)))))
      · replace h := h.2 c
        refine i_aload_n 33 rfl rfl (by decide) ?_
        refine i_iload_n 34 rfl rfl ?_
        refine i_lload_n 35 rfl rfl ?_
        refine i_callV (c := 11) (y1 := m_X11_mayChoose) (z1 := (2, 0, 0)) (z2 := (9, 0, 0)) [(0, l1), (1, zr7)] 36 rfl ml_1276 ok_X11_mayChoose vk_X11_mayChoose ⟨by decide, rfl⟩ rfl ⟨rfl, Nat.le_of_ble_eq_true rfl⟩ (Nat.le_of_ble_eq_true rfl) ⟨by decide, rfl, rfl, rfl⟩ ?_
        refine h.mono (fun r zM9 h => ?_)
        obtain ⟨zr10, rfl, h⟩ := h
        simp only [Option.toList_some, Option.toList_none, List.cons_append, List.nil_append]
        refine i_if_eq 68 37 rfl (by decide) (fun c => ?_) (fun c => ?_)
        · replace h := h.1 c
          replace h := h _ rfl
          refine i_iinc 42 rfl rfl (by decide) rfl ?_
          refine i_goto 9 43 rfl (by decide) ?_
          refine i_weak ?_ h
          exact (And.intro (Or.inr rfl) (And.intro (Or.inr rfl) (And.intro (Or.inr rfl) (And.intro (Or.inl rfl) (And.intro (Or.inr rfl) trivial)))))
        · replace h := h.2 c
          refine i_aload_n 38 rfl rfl (by decide) ?_
          refine i_iload_n 39 rfl rfl ?_
          refine i_lload_n 40 rfl rfl ?_
          refine i_callV (c := 11) (y1 := m_X11_takesPlan) (z1 := (3, 0, 0)) (z2 := (9, 0, 0)) [(0, l1), (1, zr7)] 41 rfl ml_1284 ok_X11_takesPlan vk_X11_takesPlan ⟨by decide, rfl⟩ rfl ⟨rfl, Nat.le_of_ble_eq_true rfl⟩ (Nat.le_of_ble_eq_true rfl) ⟨by decide, rfl, rfl, rfl⟩ ?_
          refine h.mono (fun r zM12 h => ?_)
          obtain ⟨rfl, h⟩ := h
          simp only [Option.toList_some, Option.toList_none, List.cons_append, List.nil_append]
          replace h := h _ rfl
          refine i_iinc 42 rfl rfl (by decide) rfl ?_
          refine i_goto 9 43 rfl (by decide) ?_
          refine i_weak ?_ h
          exact (And.intro (Or.inr rfl) (And.intro (Or.inr rfl) (And.intro (Or.inr rfl) (And.intro (Or.inl rfl) (And.intro (Or.inr rfl) trivial)))))
    · replace h := h.2 c
      refine i_goto 68 21 rfl (by decide) ?_
      replace h := h _ rfl
      refine i_iinc 42 rfl rfl (by decide) rfl ?_
      refine i_goto 9 43 rfl (by decide) ?_
      exact h
theorem u_X11_bestPlans_0 {l : Launch} {E : xE} (a1 a2 a3 : Int) {M : xM} {Q : Option xV → xM → Prop} (h : x_Ev l E (3, 0, 0) m_X11_bestPlans 9 [(21, 103), (0, a1), (1, a2), (5, 0), (1, a3), (5, 0), (0, 0), (0, 0), (0, 0), (5, 0), (5, 0)] [] M Q) : x_Ev l E (3, 0, 0) m_X11_bestPlans 0 [(21, 103), (0, a1), (1, a2), (5, 0), (1, a3), (5, 0), (5, 0), (5, 0), (5, 0), (5, 0), (5, 0)] [] M Q := by
  refine i_iconst 0 rfl (by decide) ?_
  refine i_istore 1 rfl (by decide) rfl ?_
  refine i_iconst 2 rfl (by decide) ?_
  refine i_istore 3 rfl (by decide) rfl ?_
  refine i_iconst 4 rfl (by decide) ?_
  refine i_istore 5 rfl (by decide) rfl ?_
  exact h
theorem u_X11_bestPlans_9 {l : Launch} {E : xE} (l1 l2 l4 l6 l7 l8 : Int) {M : xM} {Q : Option xV → xM → Prop} (h : ((0 : Int) ≤ l1 ∧ (l1 : Int) < 3) ∧ ((M 149 l1) ≤ l8 → Q (some (0, l6)) M) ∧ (¬ (M 149 l1) ≤ l8 → x_Ev l E (2, 0, 0) m_X11_net 0 [(21, 103), (0, l1), (0, l8), (1, l2), (5, 0), (1, l4), (5, 0)] [] M (fun r zM1 => ∃ zr2, r = some (1, zr2) ∧ ((0 : Int) ≤ l1 ∧ (l1 : Int) < 3) ∧ ((0 : Int) ≤ l7 ∧ (l7 : Int) < 40) ∧ x_Ev l E (2, 0, 0) m_X11_net 0 [(21, 103), (0, l1), (0, l7), (1, l2), (5, 0), (1, l4), (5, 0)] [] zM1 (fun r zM3 => ∃ zr4, r = some (1, zr4) ∧ ((0 : Int) ≤ l1 ∧ (l1 : Int) < 3) ∧ ((0 : Int) ≤ l8 ∧ (l8 : Int) < 40) ∧ ∀ zv5 : Int, zv5 = (x_W ((x_W (zr2 * (zM1 (274 + 1 + 1 * l1) l7))) - (x_W (zr4 * (zM3 (274 + 1 + 1 * l1) l8))))) → (l8 = 0 → ∀ zv6 : Int, zv6 = (x_ishl 1 l8) → ∀ zv7 : Int, zv7 = x_w (l8 + 1) → x_Ev l E (3, 0, 0) m_X11_bestPlans 9 [(21, 103), (0, l1), (1, l2), (5, 0), (1, l4), (5, 0), (0, zv6), (0, l8), (0, zv7), (5, 0), (5, 0)] [] zM3 Q) ∧ (¬ l8 = 0 → (zv5 ≤ 0 → (¬ zv5 = 0 → ∀ zv8 : Int, zv8 = x_w (l8 + 1) → x_Ev l E (3, 0, 0) m_X11_bestPlans 9 [(21, 103), (0, l1), (1, l2), (5, 0), (1, l4), (5, 0), (0, l6), (0, l7), (0, zv8), (5, 0), (5, 0)] [] zM3 Q) ∧ (zv5 = 0 → ∀ zv9 : Int, zv9 = (x_ior l6 (x_ishl 1 l8)) → ∀ zv10 : Int, zv10 = x_w (l8 + 1) → x_Ev l E (3, 0, 0) m_X11_bestPlans 9 [(21, 103), (0, l1), (1, l2), (5, 0), (1, l4), (5, 0), (0, zv9), (0, l7), (0, zv10), (5, 0), (5, 0)] [] zM3 Q)) ∧ (¬ zv5 ≤ 0 → ∀ zv11 : Int, zv11 = (x_ishl 1 l8) → ∀ zv12 : Int, zv12 = x_w (l8 + 1) → x_Ev l E (3, 0, 0) m_X11_bestPlans 9 [(21, 103), (0, l1), (1, l2), (5, 0), (1, l4), (5, 0), (0, zv11), (0, l8), (0, zv12), (5, 0), (5, 0)] [] zM3 Q)))))) : x_Ev l E (3, 0, 0) m_X11_bestPlans 9 [(21, 103), (0, l1), (1, l2), (5, 0), (1, l4), (5, 0), (0, l6), (0, l7), (0, l8), (5, 0), (5, 0)] [] M Q := by
  refine i_iload 6 rfl rfl ?_
  refine i_aload_n 7 rfl rfl (by decide) ?_
  refine i_getP (c := 11) (k := 21) (t := 114) (b := 149) 8 rfl fl_1070 (by decide) rfl (by decide) rfl ?_
  refine i_iload_n 9 rfl rfl ?_
  refine i_iald (τ := 14) 10 rfl ⟨rfl, rfl, rfl, by decide⟩ h.1.1 h.1.2 ?_
  replace h := h.2
  refine i_icmp_ge 110 11 rfl (by decide) (fun c => ?_) (fun c => ?_)
  · replace h := h.1 c
    refine i_iload 65 rfl rfl ?_
    exact i_ireturn 66 rfl rfl h
  · replace h := h.2 c
    refine i_aload_n 12 rfl rfl (by decide) ?_
    refine i_iload_n 13 rfl rfl ?_
    refine i_iload 14 rfl rfl ?_
    refine i_lload_n 15 rfl rfl ?_
    refine i_lload 16 rfl rfl ?_
    refine i_callV (c := 11) (y1 := m_X11_net) (z1 := (2, 0, 0)) (z2 := (3, 0, 0)) [(0, l1), (0, l8), (1, l2), (1, l4)] 17 rfl ml_1304 ok_X11_net vk_X11_net ⟨by decide, rfl⟩ rfl ⟨rfl, Nat.le_of_ble_eq_true rfl⟩ (Nat.le_of_ble_eq_true rfl) ⟨by decide, rfl, rfl, rfl⟩ ?_
    refine h.mono (fun r zM1 h => ?_)
    obtain ⟨zr2, rfl, h⟩ := h
    simp only [Option.toList_some, Option.toList_none, List.cons_append, List.nil_append]
    refine i_aload_n 18 rfl rfl (by decide) ?_
    refine i_getP (c := 11) (k := 23) (t := 130) (b := 274) 19 rfl fl_1072 (by decide) rfl (by decide) rfl ?_
    refine i_iload_n 20 rfl rfl ?_
    refine i_aald (τ := 30) (t := 129) (len := 3) (b := (274 + 1 + 1 * l1)) 21 rfl (by decide) rfl h.1.1 h.1.2 ?_
    replace h := h.2
    refine i_iload 22 rfl rfl ?_
    refine i_lald (τ := 29) 23 rfl ⟨rfl, rfl, rfl, by decide⟩ h.1.1 h.1.2 ?_
    replace h := h.2
    refine i_lmul 24 rfl ?_
    refine i_aload_n 25 rfl rfl (by decide) ?_
    refine i_iload_n 26 rfl rfl ?_
    refine i_iload 27 rfl rfl ?_
    refine i_lload_n 28 rfl rfl ?_
    refine i_lload 29 rfl rfl ?_
    refine i_callV (c := 11) (y1 := m_X11_net) (z1 := (2, 0, 0)) (z2 := (3, 0, 0)) [(0, l1), (0, l7), (1, l2), (1, l4)] 30 rfl ml_1304 ok_X11_net vk_X11_net ⟨by decide, rfl⟩ rfl ⟨rfl, Nat.le_of_ble_eq_true rfl⟩ (Nat.le_of_ble_eq_true rfl) ⟨by decide, rfl, rfl, rfl⟩ ?_
    refine h.mono (fun r zM3 h => ?_)
    obtain ⟨zr4, rfl, h⟩ := h
    simp only [Option.toList_some, Option.toList_none, List.cons_append, List.nil_append]
    refine i_aload_n 31 rfl rfl (by decide) ?_
    refine i_getP (c := 11) (k := 23) (t := 130) (b := 274) 32 rfl fl_1072 (by decide) rfl (by decide) rfl ?_
    refine i_iload_n 33 rfl rfl ?_
    refine i_aald (τ := 30) (t := 129) (len := 3) (b := (274 + 1 + 1 * l1)) 34 rfl (by decide) rfl h.1.1 h.1.2 ?_
    replace h := h.2
    refine i_iload 35 rfl rfl ?_
    refine i_lald (τ := 29) 36 rfl ⟨rfl, rfl, rfl, by decide⟩ h.1.1 h.1.2 ?_
    replace h := h.2
    refine i_lmul 37 rfl ?_
    refine i_lsub 38 rfl ?_
    replace h := h _ rfl
    refine i_lstore 39 rfl (by decide) rfl ?_
    refine i_iload 40 rfl rfl ?_
    refine i_if_eq 75 41 rfl (by decide) (fun c => ?_) (fun c => ?_)
    · replace h := h.1 c
      refine i_iconst 46 rfl (by decide) ?_
      refine i_iload 47 rfl rfl ?_
      refine i_ishl 48 rfl ?_
      replace h := h _ rfl
      refine i_istore 49 rfl (by decide) rfl ?_
      refine i_iload 50 rfl rfl ?_
      refine i_istore 51 rfl (by decide) rfl ?_
      refine i_goto 104 52 rfl (by decide) ?_
      replace h := h _ rfl
      refine i_iinc 63 rfl rfl (by decide) rfl ?_
      refine i_goto 9 64 rfl (by decide) ?_
      refine i_weak ?_ h
      exact (And.intro (Or.inr rfl) (And.intro (Or.inr rfl) (And.intro (Or.inr rfl) (And.intro (Or.inr rfl) (And.intro (Or.inr rfl) (And.intro (Or.inr rfl) (And.intro (Or.inr rfl) (And.intro (Or.inr rfl) (And.intro (Or.inr rfl) (And.intro (Or.inl rfl) (And.intro (Or.inr rfl) trivial)))))))))))
    · replace h := h.2 c
      refine i_lload 42 rfl rfl ?_
      refine i_lconst (w := 0) 43 rfl (by decide) ?_
      refine i_lcmp_le 88 44 rfl rfl (by decide) (fun c => ?_) (fun c => ?_)
      · replace h := h.1 c
        refine i_lload 53 rfl rfl ?_
        refine i_lconst (w := 0) 54 rfl (by decide) ?_
        refine i_lcmp_ne 104 55 rfl rfl (by decide) (fun c => ?_) (fun c => ?_)
        · replace h := h.1 c
          replace h := h _ rfl
          refine i_iinc 63 rfl rfl (by decide) rfl ?_
          refine i_goto 9 64 rfl (by decide) ?_
          refine i_weak ?_ h
          exact (And.intro (Or.inr rfl) (And.intro (Or.inr rfl) (And.intro (Or.inr rfl) (And.intro (Or.inr rfl) (And.intro (Or.inr rfl) (And.intro (Or.inr rfl) (And.intro (Or.inr rfl) (And.intro (Or.inr rfl) (And.intro (Or.inr rfl) (And.intro (Or.inl rfl) (And.intro (Or.inr rfl) trivial)))))))))))
        · replace h := h.2 c
          refine i_iload 57 rfl rfl ?_
          refine i_iconst 58 rfl (by decide) ?_
          refine i_iload 59 rfl rfl ?_
          refine i_ishl 60 rfl ?_
          refine i_ior 61 rfl ?_
          replace h := h _ rfl
          refine i_istore 62 rfl (by decide) rfl ?_
          replace h := h _ rfl
          refine i_iinc 63 rfl rfl (by decide) rfl ?_
          refine i_goto 9 64 rfl (by decide) ?_
          refine i_weak ?_ h
          exact (And.intro (Or.inr rfl) (And.intro (Or.inr rfl) (And.intro (Or.inr rfl) (And.intro (Or.inr rfl) (And.intro (Or.inr rfl) (And.intro (Or.inr rfl) (And.intro (Or.inr rfl) (And.intro (Or.inr rfl) (And.intro (Or.inr rfl) (And.intro (Or.inl rfl) (And.intro (Or.inr rfl) trivial)))))))))))
      · replace h := h.2 c
        refine i_iconst 46 rfl (by decide) ?_
        refine i_iload 47 rfl rfl ?_
        refine i_ishl 48 rfl ?_
        replace h := h _ rfl
        refine i_istore 49 rfl (by decide) rfl ?_
        refine i_iload 50 rfl rfl ?_
        refine i_istore 51 rfl (by decide) rfl ?_
        refine i_goto 104 52 rfl (by decide) ?_
        replace h := h _ rfl
        refine i_iinc 63 rfl rfl (by decide) rfl ?_
        refine i_goto 9 64 rfl (by decide) ?_
        refine i_weak ?_ h
        exact (And.intro (Or.inr rfl) (And.intro (Or.inr rfl) (And.intro (Or.inr rfl) (And.intro (Or.inr rfl) (And.intro (Or.inr rfl) (And.intro (Or.inr rfl) (And.intro (Or.inr rfl) (And.intro (Or.inr rfl) (And.intro (Or.inr rfl) (And.intro (Or.inl rfl) (And.intro (Or.inr rfl) trivial)))))))))))
theorem u_X11_answer_0 {l : Launch} {E : xE} (a1 a2 a3 : Int) {M : xM} {Q : Option xV → xM → Prop} (h : x_Ev l E (3, 0, 0) m_X11_bestPlans 0 [(21, 103), (0, a1), (1, a2), (5, 0), (1, a3), (5, 0), (5, 0), (5, 0), (5, 0), (5, 0), (5, 0)] [] M (fun r zM1 => ∃ zr2, r = some (0, zr2) ∧ x_Ev l E (3, 0, 0) m_X11_chosen 0 [(21, 103), (0, a1), (0, zr2), (1, a2), (5, 0), (1, a3), (5, 0), (5, 0), (5, 0), (5, 0), (5, 0), (5, 0)] [] zM1 (fun r zM3 => ∃ zr4, r = some (0, zr4) ∧ Q (some (0, zr4)) zM3))) : x_Ev l E (4, 0, 0) m_X11_answer 0 [(21, 103), (0, a1), (1, a2), (5, 0), (1, a3), (5, 0)] [] M Q := by
  refine i_aload_n 0 rfl rfl (by decide) ?_
  refine i_iload_n 1 rfl rfl ?_
  refine i_aload_n 2 rfl rfl (by decide) ?_
  refine i_iload_n 3 rfl rfl ?_
  refine i_lload_n 4 rfl rfl ?_
  refine i_lload 5 rfl rfl ?_
  refine i_callV (c := 11) (y1 := m_X11_bestPlans) (z1 := (3, 0, 0)) (z2 := (4, 0, 0)) [(0, a1), (1, a2), (1, a3)] 6 rfl ml_1300 ok_X11_bestPlans vk_X11_bestPlans ⟨by decide, rfl⟩ rfl ⟨rfl, Nat.le_of_ble_eq_true rfl⟩ (Nat.le_of_ble_eq_true rfl) ⟨by decide, rfl, rfl, rfl⟩ ?_
  refine h.mono (fun r zM1 h => ?_)
  obtain ⟨zr2, rfl, h⟩ := h
  simp only [Option.toList_some, Option.toList_none, List.cons_append, List.nil_append]
  refine i_lload_n 7 rfl rfl ?_
  refine i_lload 8 rfl rfl ?_
  refine i_callV (c := 11) (y1 := m_X11_chosen) (z1 := (3, 0, 0)) (z2 := (4, 0, 0)) [(0, a1), (0, zr2), (1, a2), (1, a3)] 9 rfl ml_1320 ok_X11_chosen vk_X11_chosen ⟨by decide, rfl⟩ rfl ⟨rfl, Nat.le_of_ble_eq_true rfl⟩ (Nat.le_of_ble_eq_true rfl) ⟨by decide, rfl, rfl, rfl⟩ ?_
  refine h.mono (fun r zM3 h => ?_)
  obtain ⟨zr4, rfl, h⟩ := h
  simp only [Option.toList_some, Option.toList_none, List.cons_append, List.nil_append]
  exact i_ireturn 10 rfl rfl h
theorem u_X11_isGood_0 {l : Launch} {E : xE} (a1 a2 : Int) {M : xM} {Q : Option xV → xM → Prop} (h : x_Ev l E (2, 0, 0) m_X11_isFollower 0 [(21, 103), (0, a1)] [] M (fun r zM1 => ∃ zr2, r = some (0, zr2) ∧ (zr2 = 0 → Q (some (0, 0)) zM1) ∧ (¬ zr2 = 0 → ((0 : Int) ≤ a1 ∧ (a1 : Int) < 3) ∧ x_Ev l E (1, 0, 0) m_X11_in 0 [(1, a2), (5, 0), (1, 0), (5, 0), (1, (x_w ((zM1 106 a1) - 1))), (5, 0)] [] zM1 (fun r zM3 => ∃ zr4, r = some (0, zr4) ∧ (zr4 = 0 → Q (some (0, 0)) zM3) ∧ (¬ zr4 = 0 → Q (some (0, 1)) zM3))))) : x_Ev l E (3, 0, 0) m_X11_isGood 0 [(21, 103), (0, a1), (0, a2)] [] M Q := by
  refine i_aload_n 0 rfl rfl (by decide) ?_
  refine i_iload_n 1 rfl rfl ?_
  refine i_callV (c := 11) (y1 := m_X11_isFollower) (z1 := (2, 0, 0)) (z2 := (3, 0, 0)) [(0, a1)] 2 rfl ml_1242 ok_X11_isFollower vk_X11_isFollower ⟨by decide, rfl⟩ rfl ⟨rfl, Nat.le_of_ble_eq_true rfl⟩ (Nat.le_of_ble_eq_true rfl) ⟨by decide, rfl, rfl, rfl⟩ ?_
  refine h.mono (fun r zM1 h => ?_)
  obtain ⟨zr2, rfl, h⟩ := h
  simp only [Option.toList_some, Option.toList_none, List.cons_append, List.nil_append]
  refine i_if_eq 30 3 rfl (by decide) (fun c => ?_) (fun c => ?_)
  · replace h := h.1 c
    refine i_iconst 18 rfl (by decide) ?_
    exact i_zreturn 19 rfl rfl (by decide) h
  · replace h := h.2 c
    refine i_iload_n 4 rfl rfl ?_
    refine i_i2l 5 rfl ?_
    refine i_lconst (w := 0) 6 rfl (by decide) ?_
    refine i_aload_n 7 rfl rfl (by decide) ?_
    refine i_getP (c := 11) (k := 3) (t := 114) (b := 106) 8 rfl fl_1052 (by decide) rfl (by decide) rfl ?_
    refine i_iload_n 9 rfl rfl ?_
    refine i_iald (τ := 14) 10 rfl ⟨rfl, rfl, rfl, by decide⟩ h.1.1 h.1.2 ?_
    replace h := h.2
    refine i_iconst 11 rfl (by decide) ?_
    refine i_isub 12 rfl ?_
    refine i_i2l 13 rfl ?_
    refine i_callS (y1 := m_X11_in) (z1 := (1, 0, 0)) (z2 := (3, 0, 0)) [(1, a2), (1, 0), (1, (x_w ((zM1 106 a1) - 1)))] 14 rfl ml_1229 ok_X11_in vk_X11_in rfl ⟨rfl, Nat.le_of_ble_eq_true rfl⟩ (Nat.le_of_ble_eq_true rfl) ⟨by decide, rfl, rfl, rfl⟩ ?_
    refine h.mono (fun r zM3 h => ?_)
    obtain ⟨zr4, rfl, h⟩ := h
    simp only [Option.toList_some, Option.toList_none, List.cons_append, List.nil_append]
    refine i_if_eq 30 15 rfl (by decide) (fun c => ?_) (fun c => ?_)
    · replace h := h.1 c
      refine i_iconst 18 rfl (by decide) ?_
      exact i_zreturn 19 rfl rfl (by decide) h
    · replace h := h.2 c
      refine i_iconst 16 rfl (by decide) ?_
      refine i_goto 31 17 rfl (by decide) ?_
      exact i_zreturn 19 rfl rfl (by decide) h
theorem u_X11_isOfGood_0 {l : Launch} {E : xE} (a0 a1 : Int) {M : xM} {Q : Option xV → xM → Prop} (h : (¬ a0 = 0 → (¬ a0 = 1 → (¬ a0 = 2 → Q (some (0, 0)) M) ∧ (a0 = 2 → x_Ev l E (1, 0, 0) m_X11_in 0 [(1, a1), (5, 0), (1, (-9)), (5, 0), (1, 9), (5, 0)] [] M (fun r zM1 => ∃ zr2, r = some (0, zr2) ∧ (zr2 = 0 → Q (some (0, 0)) zM1) ∧ (¬ zr2 = 0 → Q (some (0, 1)) zM1)))) ∧ (a0 = 1 → x_Ev l E (1, 0, 0) m_X11_in 0 [(1, a1), (5, 0), (1, 0), (5, 0), (1, 3), (5, 0)] [] M (fun r zM3 => ∃ zr4, r = some (0, zr4) ∧ (zr4 = 0 ∨ zr4 = 1) ∧ Q (some (0, zr4)) zM3))) ∧ (a0 = 0 → x_Ev l E (1, 0, 0) m_X11_in 0 [(1, a1), (5, 0), (1, 0), (5, 0), (1, 20), (5, 0)] [] M (fun r zM5 => ∃ zr6, r = some (0, zr6) ∧ (zr6 = 0 ∨ zr6 = 1) ∧ Q (some (0, zr6)) zM5))) : x_Ev l E (2, 0, 0) m_X11_isOfGood 0 [(0, a0), (0, a1)] [] M Q := by
  refine i_iload_n 0 rfl rfl ?_
  refine i_if_ne 16 1 rfl (by decide) (fun c => ?_) (fun c => ?_)
  · replace h := h.1 c
    refine i_iload_n 8 rfl rfl ?_
    refine i_iconst 9 rfl (by decide) ?_
    refine i_icmp_ne 33 10 rfl (by decide) (fun c => ?_) (fun c => ?_)
    · replace h := h.1 c
      refine i_iload_n 17 rfl rfl ?_
      refine i_iconst 18 rfl (by decide) ?_
      refine i_icmp_ne 56 19 rfl (by decide) (fun c => ?_) (fun c => ?_)
      · replace h := h.1 c
        refine i_iconst 28 rfl (by decide) ?_
        exact i_zreturn 29 rfl rfl (by decide) h
      · replace h := h.2 c
        refine i_iload_n 20 rfl rfl ?_
        refine i_i2l 21 rfl ?_
        refine i_ldc2 (v := (-9)) 22 rfl cw_1347 (by decide) ?_
        refine i_ldc2 (v := 9) 23 rfl cw_1348 (by decide) ?_
        refine i_callS (y1 := m_X11_in) (z1 := (1, 0, 0)) (z2 := (2, 0, 0)) [(1, a1), (1, (-9)), (1, 9)] 24 rfl ml_1229 ok_X11_in vk_X11_in rfl ⟨rfl, Nat.le_of_ble_eq_true rfl⟩ (Nat.le_of_ble_eq_true rfl) ⟨by decide, rfl, rfl, rfl⟩ ?_
        refine h.mono (fun r zM1 h => ?_)
        obtain ⟨zr2, rfl, h⟩ := h
        simp only [Option.toList_some, Option.toList_none, List.cons_append, List.nil_append]
        refine i_if_eq 56 25 rfl (by decide) (fun c => ?_) (fun c => ?_)
        · replace h := h.1 c
          refine i_iconst 28 rfl (by decide) ?_
          exact i_zreturn 29 rfl rfl (by decide) h
        · replace h := h.2 c
          refine i_iconst 26 rfl (by decide) ?_
          refine i_goto 57 27 rfl (by decide) ?_
          exact i_zreturn 29 rfl rfl (by decide) h
    · replace h := h.2 c
      refine i_iload_n 11 rfl rfl ?_
      refine i_i2l 12 rfl ?_
      refine i_lconst (w := 0) 13 rfl (by decide) ?_
      refine i_ldc2 (v := 3) 14 rfl cw_1232 (by decide) ?_
      refine i_callS (y1 := m_X11_in) (z1 := (1, 0, 0)) (z2 := (2, 0, 0)) [(1, a1), (1, 0), (1, 3)] 15 rfl ml_1229 ok_X11_in vk_X11_in rfl ⟨rfl, Nat.le_of_ble_eq_true rfl⟩ (Nat.le_of_ble_eq_true rfl) ⟨by decide, rfl, rfl, rfl⟩ ?_
      refine h.mono (fun r zM3 h => ?_)
      obtain ⟨zr4, rfl, h⟩ := h
      simp only [Option.toList_some, Option.toList_none, List.cons_append, List.nil_append]
      refine i_goto 57 16 rfl (by decide) ?_
      exact i_zreturn 29 rfl rfl h.1 h.2
  · replace h := h.2 c
    refine i_iload_n 2 rfl rfl ?_
    refine i_i2l 3 rfl ?_
    refine i_lconst (w := 0) 4 rfl (by decide) ?_
    refine i_ldc2 (v := 20) 5 rfl cw_1346 (by decide) ?_
    refine i_callS (y1 := m_X11_in) (z1 := (1, 0, 0)) (z2 := (2, 0, 0)) [(1, a1), (1, 0), (1, 20)] 6 rfl ml_1229 ok_X11_in vk_X11_in rfl ⟨rfl, Nat.le_of_ble_eq_true rfl⟩ (Nat.le_of_ble_eq_true rfl) ⟨by decide, rfl, rfl, rfl⟩ ?_
    refine h.mono (fun r zM5 h => ?_)
    obtain ⟨zr6, rfl, h⟩ := h
    simp only [Option.toList_some, Option.toList_none, List.cons_append, List.nil_append]
    refine i_goto 57 7 rfl (by decide) ?_
    exact i_zreturn 29 rfl rfl h.1 h.2
theorem u_X11_numbers_0 {l : Launch} {E : xE} (a1 a2 a3 a4 a5 : Int) {M : xM} {Q : Option xV → xM → Prop} (h : x_Ev l E (1, 0, 0) m_X11_numbers 6 [(21, 103), (0, a1), (0, a2), (0, a3), (0, a4), (0, a5), (0, a3), (0, 2)] [] M Q) : x_Ev l E (1, 0, 0) m_X11_numbers 0 [(21, 103), (0, a1), (0, a2), (0, a3), (0, a4), (0, a5), (5, 0), (5, 0)] [] M Q := by
  refine i_iload_n 0 rfl rfl ?_
  refine i_istore 1 rfl (by decide) rfl ?_
  refine i_iconst 2 rfl (by decide) ?_
  refine i_istore 3 rfl (by decide) rfl ?_
  exact h
theorem u_X11_numbers_6 {l : Launch} {E : xE} (l1 l2 l3 l4 l5 l6 l7 : Int) {M : xM} {Q : Option xV → xM → Prop} (h : (l7 < 0 → Q none M) ∧ (¬ l7 < 0 → ((0 : Int) ≤ l1 ∧ (l1 : Int) < 3) ∧ ((0 : Int) ≤ l2 ∧ (l2 : Int) < 4) ∧ ((0 : Int) ≤ l1 ∧ (l1 : Int) < 3) ∧ ((M 106 l1) ≤ l7 → (0 ≤ l7 ∧ l7 < 3) ∧ ∀ zM1 : xM, zM1 = x_wr M ((121 + 1 + 5 * l1) + 1 + 1 * l2) l7 0 → (l4 ≠ 0) ∧ ∀ zv2 : Int, zv2 = (x_w (l6.tdiv l4)) → ∀ zv3 : Int, zv3 = x_w (l7 + (-1)) → x_Ev l E (1, 0, 0) m_X11_numbers 6 [(21, 103), (0, l1), (0, l2), (0, l3), (0, l4), (0, l5), (0, zv2), (0, zv3)] [] zM1 Q) ∧ (¬ (M 106 l1) ≤ l7 → (l4 ≠ 0) ∧ (0 ≤ l7 ∧ l7 < 3) ∧ ∀ zM4 : xM, zM4 = x_wr M ((121 + 1 + 5 * l1) + 1 + 1 * l2) l7 (x_w ((l6.tmod l4) + l5)) → (l4 ≠ 0) ∧ ∀ zv5 : Int, zv5 = (x_w (l6.tdiv l4)) → ∀ zv6 : Int, zv6 = x_w (l7 + (-1)) → x_Ev l E (1, 0, 0) m_X11_numbers 6 [(21, 103), (0, l1), (0, l2), (0, l3), (0, l4), (0, l5), (0, zv5), (0, zv6)] [] zM4 Q))) : x_Ev l E (1, 0, 0) m_X11_numbers 6 [(21, 103), (0, l1), (0, l2), (0, l3), (0, l4), (0, l5), (0, l6), (0, l7)] [] M Q := by
  refine i_iload 4 rfl rfl ?_
  refine i_if_lt 58 5 rfl (by decide) (fun c => ?_) (fun c => ?_)
  · replace h := h.1 c
    exact i_return 33 rfl rfl h
  · replace h := h.2 c
    refine i_aload_n 6 rfl rfl (by decide) ?_
    refine i_getP (c := 11) (k := 6) (t := 123) (b := 121) 7 rfl fl_1055 (by decide) rfl (by decide) rfl ?_
    refine i_iload_n 8 rfl rfl ?_
    refine i_aald (τ := 23) (t := 122) (len := 3) (b := (121 + 1 + 5 * l1)) 9 rfl (by decide) rfl h.1.1 h.1.2 ?_
    replace h := h.2
    refine i_iload_n 10 rfl rfl ?_
    refine i_aald (τ := 22) (t := 114) (len := 4) (b := ((121 + 1 + 5 * l1) + 1 + 1 * l2)) 11 rfl (by decide) rfl h.1.1 h.1.2 ?_
    replace h := h.2
    refine i_iload 12 rfl rfl ?_
    refine i_iload 13 rfl rfl ?_
    refine i_aload_n 14 rfl rfl (by decide) ?_
    refine i_getP (c := 11) (k := 3) (t := 114) (b := 106) 15 rfl fl_1052 (by decide) rfl (by decide) rfl ?_
    refine i_iload_n 16 rfl rfl ?_
    refine i_iald (τ := 14) 17 rfl ⟨rfl, rfl, rfl, by decide⟩ h.1.1 h.1.2 ?_
    replace h := h.2
    refine i_icmp_ge 43 18 rfl (by decide) (fun c => ?_) (fun c => ?_)
    · replace h := h.1 c
      refine i_iconst 25 rfl (by decide) ?_
      have hb := h.1
      replace h := h.2 _ rfl
      refine i_iast (τ := 14) 26 rfl ⟨rfl, rfl, rfl, by decide⟩ hb.1 hb.2 ?_
      refine i_iload 27 rfl rfl ?_
      refine i_iload 28 rfl rfl ?_
      refine i_idiv 29 rfl h.1 ?_
      replace h := h.2
      replace h := h _ rfl
      refine i_istore 30 rfl (by decide) rfl ?_
      replace h := h _ rfl
      refine i_iinc 31 rfl rfl (by decide) rfl ?_
      refine i_goto 6 32 rfl (by decide) ?_
      exact h
    · replace h := h.2 c
      refine i_iload 19 rfl rfl ?_
      refine i_iload 20 rfl rfl ?_
      refine i_irem 21 rfl h.1 ?_
      replace h := h.2
      refine i_iload 22 rfl rfl ?_
      refine i_iadd 23 rfl ?_
      refine i_goto 44 24 rfl (by decide) ?_
      have hb := h.1
      replace h := h.2 _ rfl
      refine i_iast (τ := 14) 26 rfl ⟨rfl, rfl, rfl, by decide⟩ hb.1 hb.2 ?_
      refine i_iload 27 rfl rfl ?_
      refine i_iload 28 rfl rfl ?_
      refine i_idiv 29 rfl h.1 ?_
      replace h := h.2
      replace h := h _ rfl
      refine i_istore 30 rfl (by decide) rfl ?_
      replace h := h _ rfl
      refine i_iinc 31 rfl rfl (by decide) rfl ?_
      refine i_goto 6 32 rfl (by decide) ?_
      exact h
theorem u_X11_isRow_0 {l : Launch} {E : xE} (a1 a2 : Int) {M : xM} {Q : Option xV → xM → Prop} (h : x_Ev l E (2, 0, 0) m_X11_isFollower 0 [(21, 103), (0, a1)] [] M (fun r zM1 => ∃ zr2, r = some (0, zr2) ∧ (zr2 = 0 → Q (some (0, 0)) zM1) ∧ (¬ zr2 = 0 → ((0 : Int) ≤ a1 ∧ (a1 : Int) < 3) ∧ x_Ev l E (1, 0, 0) m_X11_in 0 [(1, a2), (5, 0), (1, 0), (5, 0), (1, (x_w ((zM1 107 a1) - 1))), (5, 0)] [] zM1 (fun r zM3 => ∃ zr4, r = some (0, zr4) ∧ (zr4 = 0 → Q (some (0, 0)) zM3) ∧ (¬ zr4 = 0 → Q (some (0, 1)) zM3))))) : x_Ev l E (3, 0, 0) m_X11_isRow 0 [(21, 103), (0, a1), (0, a2)] [] M Q := by
  refine i_aload_n 0 rfl rfl (by decide) ?_
  refine i_iload_n 1 rfl rfl ?_
  refine i_callV (c := 11) (y1 := m_X11_isFollower) (z1 := (2, 0, 0)) (z2 := (3, 0, 0)) [(0, a1)] 2 rfl ml_1242 ok_X11_isFollower vk_X11_isFollower ⟨by decide, rfl⟩ rfl ⟨rfl, Nat.le_of_ble_eq_true rfl⟩ (Nat.le_of_ble_eq_true rfl) ⟨by decide, rfl, rfl, rfl⟩ ?_
  refine h.mono (fun r zM1 h => ?_)
  obtain ⟨zr2, rfl, h⟩ := h
  simp only [Option.toList_some, Option.toList_none, List.cons_append, List.nil_append]
  refine i_if_eq 30 3 rfl (by decide) (fun c => ?_) (fun c => ?_)
  · replace h := h.1 c
    refine i_iconst 18 rfl (by decide) ?_
    exact i_zreturn 19 rfl rfl (by decide) h
  · replace h := h.2 c
    refine i_iload_n 4 rfl rfl ?_
    refine i_i2l 5 rfl ?_
    refine i_lconst (w := 0) 6 rfl (by decide) ?_
    refine i_aload_n 7 rfl rfl (by decide) ?_
    refine i_getP (c := 11) (k := 4) (t := 114) (b := 107) 8 rfl fl_1053 (by decide) rfl (by decide) rfl ?_
    refine i_iload_n 9 rfl rfl ?_
    refine i_iald (τ := 14) 10 rfl ⟨rfl, rfl, rfl, by decide⟩ h.1.1 h.1.2 ?_
    replace h := h.2
    refine i_iconst 11 rfl (by decide) ?_
    refine i_isub 12 rfl ?_
    refine i_i2l 13 rfl ?_
    refine i_callS (y1 := m_X11_in) (z1 := (1, 0, 0)) (z2 := (3, 0, 0)) [(1, a2), (1, 0), (1, (x_w ((zM1 107 a1) - 1)))] 14 rfl ml_1229 ok_X11_in vk_X11_in rfl ⟨rfl, Nat.le_of_ble_eq_true rfl⟩ (Nat.le_of_ble_eq_true rfl) ⟨by decide, rfl, rfl, rfl⟩ ?_
    refine h.mono (fun r zM3 h => ?_)
    obtain ⟨zr4, rfl, h⟩ := h
    simp only [Option.toList_some, Option.toList_none, List.cons_append, List.nil_append]
    refine i_if_eq 30 15 rfl (by decide) (fun c => ?_) (fun c => ?_)
    · replace h := h.1 c
      refine i_iconst 18 rfl (by decide) ?_
      exact i_zreturn 19 rfl rfl (by decide) h
    · replace h := h.2 c
      refine i_iconst 16 rfl (by decide) ?_
      refine i_goto 31 17 rfl (by decide) ?_
      exact i_zreturn 19 rfl rfl (by decide) h
theorem u_X11_takesOut_0 {l : Launch} {E : xE} (a1 a2 : Int) {M : xM} {Q : Option xV → xM → Prop} (h : x_Ev l E (1, 0, 0) m_X11_takesOut 2 [(21, 103), (0, a1), (0, a2), (0, a2), (5, 0)] [] M Q) : x_Ev l E (1, 0, 0) m_X11_takesOut 0 [(21, 103), (0, a1), (0, a2), (5, 0), (5, 0)] [] M Q := by
  refine i_iload_n 0 rfl rfl ?_
  refine i_istore_n 1 rfl (by decide) rfl ?_
  exact h
theorem u_X11_takesOut_2 {l : Launch} {E : xE} (l1 l2 l3 : Int) {M : xM} {Q : Option xV → xM → Prop} (h : ((0 : Int) ≤ l1 ∧ (l1 : Int) < 3) ∧ ((x_w ((M 107 l1) - 1)) ≤ l3 → ((0 : Int) ≤ l1 ∧ (l1 : Int) < 3) ∧ (0 ≤ l1 ∧ l1 < 3) ∧ ∀ zM1 : xM, zM1 = x_wr M 107 l1 (x_w ((M 107 l1) - 1)) → Q none zM1) ∧ (¬ (x_w ((M 107 l1) - 1)) ≤ l3 → x_Ev l E (1, 0, 0) m_X11_takesOut 17 [(21, 103), (0, l1), (0, l2), (0, l3), (0, 0)] [] M Q)) : x_Ev l E (1, 0, 0) m_X11_takesOut 2 [(21, 103), (0, l1), (0, l2), (0, l3), (5, 0)] [] M Q := by
  refine i_iload_n 2 rfl rfl ?_
  refine i_aload_n 3 rfl rfl (by decide) ?_
  refine i_getP (c := 11) (k := 4) (t := 114) (b := 107) 4 rfl fl_1053 (by decide) rfl (by decide) rfl ?_
  refine i_iload_n 5 rfl rfl ?_
  refine i_iald (τ := 14) 6 rfl ⟨rfl, rfl, rfl, by decide⟩ h.1.1 h.1.2 ?_
  replace h := h.2
  refine i_iconst 7 rfl (by decide) ?_
  refine i_isub 8 rfl ?_
  refine i_icmp_ge 77 9 rfl (by decide) (fun c => ?_) (fun c => ?_)
  · replace h := h.1 c
    refine i_aload_n 51 rfl rfl (by decide) ?_
    refine i_getP (c := 11) (k := 4) (t := 114) (b := 107) 52 rfl fl_1053 (by decide) rfl (by decide) rfl ?_
    refine i_iload_n 53 rfl rfl ?_
    refine i_dup2 54 rfl ⟨Nat.ne_of_beq_eq_false rfl, Nat.ne_of_beq_eq_false rfl⟩ ?_
    refine i_iald (τ := 14) 55 rfl ⟨rfl, rfl, rfl, by decide⟩ h.1.1 h.1.2 ?_
    replace h := h.2
    refine i_iconst 56 rfl (by decide) ?_
    refine i_isub 57 rfl ?_
    have hb := h.1
    replace h := h.2 _ rfl
    refine i_iast (τ := 14) 58 rfl ⟨rfl, rfl, rfl, by decide⟩ hb.1 hb.2 ?_
    exact i_return 59 rfl rfl h
  · replace h := h.2 c
    refine i_iconst 10 rfl (by decide) ?_
    refine i_istore 11 rfl (by decide) rfl ?_
    exact h
theorem u_X11_takesOut_17 {l : Launch} {E : xE} (l1 l2 l3 l4 : Int) {M : xM} {Q : Option xV → xM → Prop} (h : (3 ≤ l4 → ((0 : Int) ≤ l1 ∧ (l1 : Int) < 3) ∧ ((0 : Int) ≤ l1 ∧ (l1 : Int) < 3) ∧ ((0 : Int) ≤ (x_w (l3 + 1)) ∧ ((x_w (l3 + 1)) : Int) < 4) ∧ (0 ≤ l3 ∧ l3 < 4) ∧ ∀ zM1 : xM, zM1 = x_wr M (137 + 1 + 1 * l1) l3 (M (137 + 1 + 1 * l1) (x_w (l3 + 1))) → ∀ zv2 : Int, zv2 = x_w (l3 + 1) → x_Ev l E (1, 0, 0) m_X11_takesOut 2 [(21, 103), (0, l1), (0, l2), (0, zv2), (5, 0)] [] zM1 Q) ∧ (¬ 3 ≤ l4 → ((0 : Int) ≤ l1 ∧ (l1 : Int) < 3) ∧ ((0 : Int) ≤ l3 ∧ (l3 : Int) < 4) ∧ ((0 : Int) ≤ l1 ∧ (l1 : Int) < 3) ∧ ((0 : Int) ≤ (x_w (l3 + 1)) ∧ ((x_w (l3 + 1)) : Int) < 4) ∧ ((0 : Int) ≤ l4 ∧ (l4 : Int) < 3) ∧ (0 ≤ l4 ∧ l4 < 3) ∧ ∀ zM3 : xM, zM3 = x_wr M ((121 + 1 + 5 * l1) + 1 + 1 * l3) l4 (M ((121 + 1 + 5 * l1) + 1 + 1 * (x_w (l3 + 1))) l4) → ∀ zv4 : Int, zv4 = x_w (l4 + 1) → x_Ev l E (1, 0, 0) m_X11_takesOut 17 [(21, 103), (0, l1), (0, l2), (0, l3), (0, zv4)] [] zM3 Q)) : x_Ev l E (1, 0, 0) m_X11_takesOut 17 [(21, 103), (0, l1), (0, l2), (0, l3), (0, l4)] [] M Q := by
  refine i_iload 12 rfl rfl ?_
  refine i_iconst 13 rfl (by decide) ?_
  refine i_icmp_ge 53 14 rfl (by decide) (fun c => ?_) (fun c => ?_)
  · replace h := h.1 c
    refine i_aload_n 35 rfl rfl (by decide) ?_
    refine i_getP (c := 11) (k := 7) (t := 124) (b := 137) 36 rfl fl_1056 (by decide) rfl (by decide) rfl ?_
    refine i_iload_n 37 rfl rfl ?_
    refine i_aald (τ := 24) (t := 103) (len := 3) (b := (137 + 1 + 1 * l1)) 38 rfl (by decide) rfl h.1.1 h.1.2 ?_
    replace h := h.2
    refine i_iload_n 39 rfl rfl ?_
    refine i_aload_n 40 rfl rfl (by decide) ?_
    refine i_getP (c := 11) (k := 7) (t := 124) (b := 137) 41 rfl fl_1056 (by decide) rfl (by decide) rfl ?_
    refine i_iload_n 42 rfl rfl ?_
    refine i_aald (τ := 24) (t := 103) (len := 3) (b := (137 + 1 + 1 * l1)) 43 rfl (by decide) rfl h.1.1 h.1.2 ?_
    replace h := h.2
    refine i_iload_n 44 rfl rfl ?_
    refine i_iconst 45 rfl (by decide) ?_
    refine i_iadd 46 rfl ?_
    refine i_iald (τ := 3) 47 rfl ⟨rfl, rfl, rfl, by decide⟩ h.1.1 h.1.2 ?_
    replace h := h.2
    have hb := h.1
    replace h := h.2 _ rfl
    refine i_iast (τ := 3) 48 rfl ⟨rfl, rfl, rfl, by decide⟩ hb.1 hb.2 ?_
    replace h := h _ rfl
    refine i_iinc 49 rfl rfl (by decide) rfl ?_
    refine i_goto 2 50 rfl (by decide) ?_
    refine i_weak ?_ h
    exact (And.intro (Or.inr rfl) (And.intro (Or.inr rfl) (And.intro (Or.inr rfl) (And.intro (Or.inr rfl) (And.intro (Or.inl rfl) trivial)))))
  · replace h := h.2 c
    refine i_aload_n 15 rfl rfl (by decide) ?_
    refine i_getP (c := 11) (k := 6) (t := 123) (b := 121) 16 rfl fl_1055 (by decide) rfl (by decide) rfl ?_
    refine i_iload_n 17 rfl rfl ?_
    refine i_aald (τ := 23) (t := 122) (len := 3) (b := (121 + 1 + 5 * l1)) 18 rfl (by decide) rfl h.1.1 h.1.2 ?_
    replace h := h.2
    refine i_iload_n 19 rfl rfl ?_
    refine i_aald (τ := 22) (t := 114) (len := 4) (b := ((121 + 1 + 5 * l1) + 1 + 1 * l3)) 20 rfl (by decide) rfl h.1.1 h.1.2 ?_
    replace h := h.2
    refine i_iload 21 rfl rfl ?_
    refine i_aload_n 22 rfl rfl (by decide) ?_
    refine i_getP (c := 11) (k := 6) (t := 123) (b := 121) 23 rfl fl_1055 (by decide) rfl (by decide) rfl ?_
    refine i_iload_n 24 rfl rfl ?_
    refine i_aald (τ := 23) (t := 122) (len := 3) (b := (121 + 1 + 5 * l1)) 25 rfl (by decide) rfl h.1.1 h.1.2 ?_
    replace h := h.2
    refine i_iload_n 26 rfl rfl ?_
    refine i_iconst 27 rfl (by decide) ?_
    refine i_iadd 28 rfl ?_
    refine i_aald (τ := 22) (t := 114) (len := 4) (b := ((121 + 1 + 5 * l1) + 1 + 1 * (x_w (l3 + 1)))) 29 rfl (by decide) rfl h.1.1 h.1.2 ?_
    replace h := h.2
    refine i_iload 30 rfl rfl ?_
    refine i_iald (τ := 14) 31 rfl ⟨rfl, rfl, rfl, by decide⟩ h.1.1 h.1.2 ?_
    replace h := h.2
    have hb := h.1
    replace h := h.2 _ rfl
    refine i_iast (τ := 14) 32 rfl ⟨rfl, rfl, rfl, by decide⟩ hb.1 hb.2 ?_
    replace h := h _ rfl
    refine i_iinc 33 rfl rfl (by decide) rfl ?_
    refine i_goto 17 34 rfl (by decide) ?_
    exact h
theorem u_X11_part_0 {l : Launch} {E : xE} (a0 a1 a2 : Int) {M : xM} {Q : Option xV → xM → Prop} (h : x_Ev l E (1, 0, 0) m_X11_divisor 0 [(1, a0), (5, 0), (1, a1), (5, 0), (5, 0), (5, 0), (5, 0), (5, 0), (5, 0), (5, 0)] [] M (fun r zM1 => ∃ zr2, r = some (1, zr2) ∧ (¬ a2 = 0 → (zr2 ≠ 0) ∧ Q (some (1, (x_W (a1.tdiv zr2)))) zM1) ∧ (a2 = 0 → (zr2 ≠ 0) ∧ Q (some (1, (x_W (a0.tdiv zr2)))) zM1))) : x_Ev l E (2, 0, 0) m_X11_part 0 [(1, a0), (5, 0), (1, a1), (5, 0), (0, a2), (5, 0), (5, 0)] [] M Q := by
  refine i_lload_n 0 rfl rfl ?_
  refine i_lload_n 1 rfl rfl ?_
  refine i_callS (y1 := m_X11_divisor) (z1 := (1, 0, 0)) (z2 := (2, 0, 0)) [(1, a0), (1, a1)] 2 rfl ml_1397 ok_X11_divisor vk_X11_divisor rfl ⟨rfl, Nat.le_of_ble_eq_true rfl⟩ (Nat.le_of_ble_eq_true rfl) ⟨by decide, rfl, rfl, rfl⟩ ?_
  refine h.mono (fun r zM1 h => ?_)
  obtain ⟨zr2, rfl, h⟩ := h
  simp only [Option.toList_some, Option.toList_none, List.cons_append, List.nil_append]
  refine i_lstore 3 rfl (by decide) rfl ?_
  refine i_iload 4 rfl rfl ?_
  refine i_if_ne 19 5 rfl (by decide) (fun c => ?_) (fun c => ?_)
  · replace h := h.1 c
    refine i_lload_n 10 rfl rfl ?_
    refine i_lload 11 rfl rfl ?_
    refine i_ldiv 12 rfl h.1 ?_
    replace h := h.2
    exact i_lreturn 13 rfl rfl h
  · replace h := h.2 c
    refine i_lload_n 6 rfl rfl ?_
    refine i_lload 7 rfl rfl ?_
    refine i_ldiv 8 rfl h.1 ?_
    replace h := h.2
    refine i_goto 23 9 rfl (by decide) ?_
    exact i_lreturn 13 rfl rfl h
theorem u_X11_isPart_0 {l : Launch} {E : xE} (a0 : Int) {M : xM} {Q : Option xV → xM → Prop} (h : x_Ev l E (1, 0, 0) m_X11_in 0 [(1, a0), (5, 0), (1, 0), (5, 0), (1, 1), (5, 0)] [] M (fun r zM1 => ∃ zr2, r = some (0, zr2) ∧ (zr2 = 0 ∨ zr2 = 1) ∧ Q (some (0, zr2)) zM1)) : x_Ev l E (2, 0, 0) m_X11_isPart 0 [(0, a0)] [] M Q := by
  refine i_iload_n 0 rfl rfl ?_
  refine i_i2l 1 rfl ?_
  refine i_lconst (w := 0) 2 rfl (by decide) ?_
  refine i_lconst (w := 1) 3 rfl (by decide) ?_
  refine i_callS (y1 := m_X11_in) (z1 := (1, 0, 0)) (z2 := (2, 0, 0)) [(1, a0), (1, 0), (1, 1)] 4 rfl ml_1229 ok_X11_in vk_X11_in rfl ⟨rfl, Nat.le_of_ble_eq_true rfl⟩ (Nat.le_of_ble_eq_true rfl) ⟨by decide, rfl, rfl, rfl⟩ ?_
  refine h.mono (fun r zM1 h => ?_)
  obtain ⟨zr2, rfl, h⟩ := h
  simp only [Option.toList_some, Option.toList_none, List.cons_append, List.nil_append]
  exact i_zreturn 5 rfl rfl h.1 h.2
theorem u_X11_findsLong_0 {l : Launch} {E : xE} (a1 : Int) {M : xM} {Q : Option xV → xM → Prop} (h : ((0 : Int) ≤ a1 ∧ (a1 : Int) < 8) ∧ (0 ≤ a1 ∧ a1 < 8) ∧ ∀ zM1 : xM, zM1 = x_wr M 141 a1 (x_w ((M 141 a1) + 1)) → Q (some (1, (x_W ((-1000000000000000001) - a1)))) zM1) : x_Ev l E (1, 0, 0) m_X11_findsLong 0 [(21, 103), (0, a1)] [] M Q := by
  refine i_aload_n 0 rfl rfl (by decide) ?_
  refine i_getP (c := 11) (k := 14) (t := 119) (b := 141) 1 rfl fl_1063 (by decide) rfl (by decide) rfl ?_
  refine i_iload_n 2 rfl rfl ?_
  refine i_dup2 3 rfl ⟨Nat.ne_of_beq_eq_false rfl, Nat.ne_of_beq_eq_false rfl⟩ ?_
  refine i_iald (τ := 19) 4 rfl ⟨rfl, rfl, rfl, by decide⟩ h.1.1 h.1.2 ?_
  replace h := h.2
  refine i_iconst 5 rfl (by decide) ?_
  refine i_iadd 6 rfl ?_
  have hb := h.1
  replace h := h.2 _ rfl
  refine i_iast (τ := 19) 7 rfl ⟨rfl, rfl, rfl, by decide⟩ hb.1 hb.2 ?_
  refine i_ldc2 (v := (-1000000000000000001)) 8 rfl cw_1411 (by decide) ?_
  refine i_iload_n 9 rfl rfl ?_
  refine i_i2l 10 rfl ?_
  refine i_lsub 11 rfl ?_
  exact i_lreturn 12 rfl rfl h
theorem u_X11_gain_0 {l : Launch} {E : xE} (a1 a2 a3 a4 : Int) {M : xM} {Q : Option xV → xM → Prop} (h : x_Ev l E (1, 0, 0) m_X11_times 0 [(21, 103), (0, a1), (0, a2), (0, 1), (5, 0), (5, 0), (5, 0)] [] M (fun r zM1 => ∃ zr2, r = some (1, zr2) ∧ x_Ev l E (1, 0, 0) m_X11_times 0 [(21, 103), (0, a1), (0, a2), (0, 2), (5, 0), (5, 0), (5, 0)] [] zM1 (fun r zM3 => ∃ zr4, r = some (1, zr4) ∧ Q (some (1, (x_W ((x_W (zr2 * a3)) + (x_W (zr4 * a4)))))) zM3))) : x_Ev l E (2, 0, 0) m_X11_gain 0 [(21, 103), (0, a1), (0, a2), (1, a3), (5, 0), (1, a4), (5, 0)] [] M Q := by
  refine i_aload_n 0 rfl rfl (by decide) ?_
  refine i_iload_n 1 rfl rfl ?_
  refine i_iload_n 2 rfl rfl ?_
  refine i_iconst 3 rfl (by decide) ?_
  refine i_callV (c := 11) (y1 := m_X11_times) (z1 := (1, 0, 0)) (z2 := (2, 0, 0)) [(0, a1), (0, a2), (0, 1)] 4 rfl ml_1308 ok_X11_times vk_X11_times ⟨by decide, rfl⟩ rfl ⟨rfl, Nat.le_of_ble_eq_true rfl⟩ (Nat.le_of_ble_eq_true rfl) ⟨by decide, rfl, rfl, rfl⟩ ?_
  refine h.mono (fun r zM1 h => ?_)
  obtain ⟨zr2, rfl, h⟩ := h
  simp only [Option.toList_some, Option.toList_none, List.cons_append, List.nil_append]
  refine i_lload_n 5 rfl rfl ?_
  refine i_lmul 6 rfl ?_
  refine i_aload_n 7 rfl rfl (by decide) ?_
  refine i_iload_n 8 rfl rfl ?_
  refine i_iload_n 9 rfl rfl ?_
  refine i_iconst 10 rfl (by decide) ?_
  refine i_callV (c := 11) (y1 := m_X11_times) (z1 := (1, 0, 0)) (z2 := (2, 0, 0)) [(0, a1), (0, a2), (0, 2)] 11 rfl ml_1308 ok_X11_times vk_X11_times ⟨by decide, rfl⟩ rfl ⟨rfl, Nat.le_of_ble_eq_true rfl⟩ (Nat.le_of_ble_eq_true rfl) ⟨by decide, rfl, rfl, rfl⟩ ?_
  refine h.mono (fun r zM3 h => ?_)
  obtain ⟨zr4, rfl, h⟩ := h
  simp only [Option.toList_some, Option.toList_none, List.cons_append, List.nil_append]
  refine i_lload 12 rfl rfl ?_
  refine i_lmul 13 rfl ?_
  refine i_ladd 14 rfl ?_
  exact i_lreturn 15 rfl rfl h
theorem u_X11_net_0 {l : Launch} {E : xE} (a1 a2 a3 a4 : Int) {M : xM} {Q : Option xV → xM → Prop} (h : x_Ev l E (1, 0, 0) m_X11_times 0 [(21, 103), (0, a1), (0, a2), (0, 0), (5, 0), (5, 0), (5, 0)] [] M (fun r zM1 => ∃ zr2, r = some (1, zr2) ∧ x_Ev l E (1, 0, 0) m_X11_twice 0 [(21, 103), (0, a1)] [] zM1 (fun r zM3 => ∃ zr4, r = some (0, zr4) ∧ x_Ev l E (1, 0, 0) m_X11_more 0 [(21, 103), (0, a1)] [] zM3 (fun r zM5 => ∃ zr6, r = some (0, zr6) ∧ x_Ev l E (1, 0, 0) m_X11_times 0 [(21, 103), (0, a1), (0, a2), (0, 1), (5, 0), (5, 0), (5, 0)] [] zM5 (fun r zM7 => ∃ zr8, r = some (1, zr8) ∧ Q (some (1, (x_W ((x_W (zr2 * a4)) - (x_W ((x_W ((x_W (zr4 * a3)) + (x_W (zr6 * a4)))) * zr8)))))) zM7))))) : x_Ev l E (2, 0, 0) m_X11_net 0 [(21, 103), (0, a1), (0, a2), (1, a3), (5, 0), (1, a4), (5, 0)] [] M Q := by
  refine i_aload_n 0 rfl rfl (by decide) ?_
  refine i_iload_n 1 rfl rfl ?_
  refine i_iload_n 2 rfl rfl ?_
  refine i_iconst 3 rfl (by decide) ?_
  refine i_callV (c := 11) (y1 := m_X11_times) (z1 := (1, 0, 0)) (z2 := (2, 0, 0)) [(0, a1), (0, a2), (0, 0)] 4 rfl ml_1308 ok_X11_times vk_X11_times ⟨by decide, rfl⟩ rfl ⟨rfl, Nat.le_of_ble_eq_true rfl⟩ (Nat.le_of_ble_eq_true rfl) ⟨by decide, rfl, rfl, rfl⟩ ?_
  refine h.mono (fun r zM1 h => ?_)
  obtain ⟨zr2, rfl, h⟩ := h
  simp only [Option.toList_some, Option.toList_none, List.cons_append, List.nil_append]
  refine i_lload 5 rfl rfl ?_
  refine i_lmul 6 rfl ?_
  refine i_aload_n 7 rfl rfl (by decide) ?_
  refine i_iload_n 8 rfl rfl ?_
  refine i_callV (c := 11) (y1 := m_X11_twice) (z1 := (1, 0, 0)) (z2 := (2, 0, 0)) [(0, a1)] 9 rfl ml_1312 ok_X11_twice vk_X11_twice ⟨by decide, rfl⟩ rfl ⟨rfl, Nat.le_of_ble_eq_true rfl⟩ (Nat.le_of_ble_eq_true rfl) ⟨by decide, rfl, rfl, rfl⟩ ?_
  refine h.mono (fun r zM3 h => ?_)
  obtain ⟨zr4, rfl, h⟩ := h
  simp only [Option.toList_some, Option.toList_none, List.cons_append, List.nil_append]
  refine i_i2l 10 rfl ?_
  refine i_lload_n 11 rfl rfl ?_
  refine i_lmul 12 rfl ?_
  refine i_aload_n 13 rfl rfl (by decide) ?_
  refine i_iload_n 14 rfl rfl ?_
  refine i_callV (c := 11) (y1 := m_X11_more) (z1 := (1, 0, 0)) (z2 := (2, 0, 0)) [(0, a1)] 15 rfl ml_1316 ok_X11_more vk_X11_more ⟨by decide, rfl⟩ rfl ⟨rfl, Nat.le_of_ble_eq_true rfl⟩ (Nat.le_of_ble_eq_true rfl) ⟨by decide, rfl, rfl, rfl⟩ ?_
  refine h.mono (fun r zM5 h => ?_)
  obtain ⟨zr6, rfl, h⟩ := h
  simp only [Option.toList_some, Option.toList_none, List.cons_append, List.nil_append]
  refine i_i2l 16 rfl ?_
  refine i_lload 17 rfl rfl ?_
  refine i_lmul 18 rfl ?_
  refine i_ladd 19 rfl ?_
  refine i_aload_n 20 rfl rfl (by decide) ?_
  refine i_iload_n 21 rfl rfl ?_
  refine i_iload_n 22 rfl rfl ?_
  refine i_iconst 23 rfl (by decide) ?_
  refine i_callV (c := 11) (y1 := m_X11_times) (z1 := (1, 0, 0)) (z2 := (2, 0, 0)) [(0, a1), (0, a2), (0, 1)] 24 rfl ml_1308 ok_X11_times vk_X11_times ⟨by decide, rfl⟩ rfl ⟨rfl, Nat.le_of_ble_eq_true rfl⟩ (Nat.le_of_ble_eq_true rfl) ⟨by decide, rfl, rfl, rfl⟩ ?_
  refine h.mono (fun r zM7 h => ?_)
  obtain ⟨zr8, rfl, h⟩ := h
  simp only [Option.toList_some, Option.toList_none, List.cons_append, List.nil_append]
  refine i_lmul 25 rfl ?_
  refine i_lsub 26 rfl ?_
  exact i_lreturn 27 rfl rfl h
theorem u_X11_plans__0 {l : Launch} {E : xE} {M : xM} {Q : Option xV → xM → Prop} (h : x_Ev l E (10, 0, 0) m_X11_plans_ 2 [(21, 103), (0, 0)] [] M Q) : x_Ev l E (10, 0, 0) m_X11_plans_ 0 [(21, 103), (5, 0)] [] M Q := by
  refine i_iconst 0 rfl (by decide) ?_
  refine i_istore_n 1 rfl (by decide) rfl ?_
  exact h
theorem u_X11_plans__2 {l : Launch} {E : xE} (l1 : Int) {M : xM} {Q : Option xV → xM → Prop} (h : ((M 103 0) ≤ l1 → Q none M) ∧ (¬ (M 103 0) ≤ l1 → x_Ev l E (9, 0, 0) m_X11_plans 0 [(21, 103), (0, l1), (5, 0), (5, 0), (5, 0)] [] M (fun r zM1 => r = none ∧ ∀ zv2 : Int, zv2 = x_w (l1 + 1) → x_Ev l E (10, 0, 0) m_X11_plans_ 2 [(21, 103), (0, zv2)] [] zM1 Q))) : x_Ev l E (10, 0, 0) m_X11_plans_ 2 [(21, 103), (0, l1)] [] M Q := by
  refine i_iload_n 2 rfl rfl ?_
  refine i_aload_n 3 rfl rfl (by decide) ?_
  refine i_getI (c := 11) (k := 0) 4 rfl fl_1049 (by decide) (by decide) ?_
  refine i_icmp_ge 21 5 rfl (by decide) (fun c => ?_) (fun c => ?_)
  · replace h := h.1 c
    exact i_return 11 rfl rfl h
  · replace h := h.2 c
    refine i_aload_n 6 rfl rfl (by decide) ?_
    refine i_iload_n 7 rfl rfl ?_
    refine i_callV (c := 11) (y1 := m_X11_plans) (z1 := (9, 0, 0)) (z2 := (10, 0, 0)) [(0, l1)] 8 rfl ml_1251 ok_X11_plans vk_X11_plans ⟨by decide, rfl⟩ rfl ⟨rfl, Nat.le_of_ble_eq_true rfl⟩ (Nat.le_of_ble_eq_true rfl) ⟨by decide, rfl, rfl, rfl⟩ ?_
    refine h.mono (fun r zM1 h => ?_)
    obtain ⟨rfl, h⟩ := h
    simp only [Option.toList_some, Option.toList_none, List.cons_append, List.nil_append]
    replace h := h _ rfl
    refine i_iinc 9 rfl rfl (by decide) rfl ?_
    refine i_goto 2 10 rfl (by decide) ?_
    exact h
theorem u_X11_totals_0 {l : Launch} {E : xE} (a1 a2 a3 : Int) {M : xM} {Q : Option xV → xM → Prop} (h : x_Ev l E (1, 0, 0) m_X11_sums 0 [(21, 103)] [] M (fun r zM1 => r = none ∧ x_Ev l E (5, 0, 0) m_X11_totals 7 [(21, 103), (1, a1), (5, 0), (1, a2), (5, 0), (0, a3), (0, 0), (5, 0)] [] zM1 Q)) : x_Ev l E (5, 0, 0) m_X11_totals 0 [(21, 103), (1, a1), (5, 0), (1, a2), (5, 0), (0, a3), (5, 0), (5, 0)] [] M Q := by
  refine i_aload_n 0 rfl rfl (by decide) ?_
  refine i_callV (c := 11) (y1 := m_X11_sums) (z1 := (1, 0, 0)) (z2 := (5, 0, 0)) [] 1 rfl ml_1433 ok_X11_sums vk_X11_sums ⟨by decide, rfl⟩ rfl ⟨rfl, Nat.le_of_ble_eq_true rfl⟩ (Nat.le_of_ble_eq_true rfl) ⟨by decide, rfl, rfl, rfl⟩ ?_
  refine h.mono (fun r zM1 h => ?_)
  obtain ⟨rfl, h⟩ := h
  simp only [Option.toList_some, Option.toList_none, List.cons_append, List.nil_append]
  refine i_iconst 2 rfl (by decide) ?_
  refine i_istore 3 rfl (by decide) rfl ?_
  exact h
theorem u_X11_totals_7 {l : Launch} {E : xE} (l1 l3 l5 l6 : Int) {M : xM} {Q : Option xV → xM → Prop} (h : ((M 103 0) ≤ l6 → Q none M) ∧ (¬ (M 103 0) ≤ l6 → x_Ev l E (4, 0, 0) m_X11_answer_ 0 [(21, 103), (0, l6), (1, l1), (5, 0), (1, l3), (5, 0), (0, l5), (5, 0)] [] M (fun r zM1 => ∃ zr2, r = some (0, zr2) ∧ x_Ev l E (2, 0, 0) m_X11_gain 0 [(21, 103), (0, l6), (0, zr2), (1, l1), (5, 0), (1, l3), (5, 0)] [] zM1 (fun r zM3 => ∃ zr4, r = some (1, zr4) ∧ ((0 : Int) ≤ l6 ∧ (l6 : Int) < 3) ∧ ((0 : Int) ≤ zr2 ∧ (zr2 : Int) < 40) ∧ x_Ev l E (2, 0, 0) m_X11_adds 0 [(21, 103), (1, zr4), (5, 0), (1, (x_W ((zM3 (274 + 1 + 1 * l6) zr2) * l3))), (5, 0), (5, 0), (5, 0), (5, 0), (5, 0), (5, 0), (5, 0), (5, 0), (5, 0), (5, 0), (5, 0), (5, 0), (5, 0), (5, 0), (5, 0)] [] zM3 (fun r zM5 => r = none ∧ ∀ zv6 : Int, zv6 = x_w (l6 + 1) → x_Ev l E (5, 0, 0) m_X11_totals 7 [(21, 103), (1, l1), (5, 0), (1, l3), (5, 0), (0, l5), (0, zv6), (5, 0)] [] zM5 Q))))) : x_Ev l E (5, 0, 0) m_X11_totals 7 [(21, 103), (1, l1), (5, 0), (1, l3), (5, 0), (0, l5), (0, l6), (5, 0)] [] M Q := by
  refine i_iload 4 rfl rfl ?_
  refine i_aload_n 5 rfl rfl (by decide) ?_
  refine i_getI (c := 11) (k := 0) 6 rfl fl_1049 (by decide) (by decide) ?_
  refine i_icmp_ge 60 7 rfl (by decide) (fun c => ?_) (fun c => ?_)
  · replace h := h.1 c
    exact i_return 33 rfl rfl h
  · replace h := h.2 c
    refine i_aload_n 8 rfl rfl (by decide) ?_
    refine i_iload 9 rfl rfl ?_
    refine i_lload_n 10 rfl rfl ?_
    refine i_lload_n 11 rfl rfl ?_
    refine i_iload 12 rfl rfl ?_
    refine i_callV (c := 11) (y1 := m_X11_answer_) (z1 := (4, 0, 0)) (z2 := (5, 0, 0)) [(0, l6), (1, l1), (1, l3), (0, l5)] 13 rfl ml_1437 ok_X11_answer_ vk_X11_answer_ ⟨by decide, rfl⟩ rfl ⟨rfl, Nat.le_of_ble_eq_true rfl⟩ (Nat.le_of_ble_eq_true rfl) ⟨by decide, rfl, rfl, rfl⟩ ?_
    refine h.mono (fun r zM1 h => ?_)
    obtain ⟨zr2, rfl, h⟩ := h
    simp only [Option.toList_some, Option.toList_none, List.cons_append, List.nil_append]
    refine i_istore 14 rfl (by decide) rfl ?_
    refine i_aload_n 15 rfl rfl (by decide) ?_
    refine i_aload_n 16 rfl rfl (by decide) ?_
    refine i_iload 17 rfl rfl ?_
    refine i_iload 18 rfl rfl ?_
    refine i_lload_n 19 rfl rfl ?_
    refine i_lload_n 20 rfl rfl ?_
    refine i_callV (c := 11) (y1 := m_X11_gain) (z1 := (2, 0, 0)) (z2 := (5, 0, 0)) [(0, l6), (0, zr2), (1, l1), (1, l3)] 21 rfl ml_1331 ok_X11_gain vk_X11_gain ⟨by decide, rfl⟩ rfl ⟨rfl, Nat.le_of_ble_eq_true rfl⟩ (Nat.le_of_ble_eq_true rfl) ⟨by decide, rfl, rfl, rfl⟩ ?_
    refine h.mono (fun r zM3 h => ?_)
    obtain ⟨zr4, rfl, h⟩ := h
    simp only [Option.toList_some, Option.toList_none, List.cons_append, List.nil_append]
    refine i_aload_n 22 rfl rfl (by decide) ?_
    refine i_getP (c := 11) (k := 23) (t := 130) (b := 274) 23 rfl fl_1072 (by decide) rfl (by decide) rfl ?_
    refine i_iload 24 rfl rfl ?_
    refine i_aald (τ := 30) (t := 129) (len := 3) (b := (274 + 1 + 1 * l6)) 25 rfl (by decide) rfl h.1.1 h.1.2 ?_
    replace h := h.2
    refine i_iload 26 rfl rfl ?_
    refine i_lald (τ := 29) 27 rfl ⟨rfl, rfl, rfl, by decide⟩ h.1.1 h.1.2 ?_
    replace h := h.2
    refine i_lload_n 28 rfl rfl ?_
    refine i_lmul 29 rfl ?_
    refine i_callV (c := 11) (y1 := m_X11_adds) (z1 := (2, 0, 0)) (z2 := (5, 0, 0)) [(1, zr4), (1, (x_W ((zM3 (274 + 1 + 1 * l6) zr2) * l3)))] 30 rfl ml_1445 ok_X11_adds vk_X11_adds ⟨by decide, rfl⟩ rfl ⟨rfl, Nat.le_of_ble_eq_true rfl⟩ (Nat.le_of_ble_eq_true rfl) ⟨by decide, rfl, rfl, rfl⟩ ?_
    refine h.mono (fun r zM5 h => ?_)
    obtain ⟨rfl, h⟩ := h
    simp only [Option.toList_some, Option.toList_none, List.cons_append, List.nil_append]
    replace h := h _ rfl
    refine i_iinc 31 rfl rfl (by decide) rfl ?_
    refine i_goto 7 32 rfl (by decide) ?_
    refine i_weak ?_ h
    exact (And.intro (Or.inr rfl) (And.intro (Or.inr rfl) (And.intro (Or.inr rfl) (And.intro (Or.inr rfl) (And.intro (Or.inr rfl) (And.intro (Or.inr rfl) (And.intro (Or.inr rfl) (And.intro (Or.inl rfl) trivial))))))))
theorem u_X11_bothOf_0 {l : Launch} {E : xE} (a1 : Int) {M : xM} {Q : Option xV → xM → Prop} (h : x_Ev l E (9, 0, 0) m_X11_plans 0 [(21, 103), (0, a1), (5, 0), (5, 0), (5, 0)] [] M (fun r zM1 => r = none ∧ x_Ev l E (9, 0, 0) m_X11_prices 0 [(21, 103), (0, a1), (5, 0), (5, 0), (5, 0)] [] zM1 (fun r zM2 => r = none ∧ Q none zM2))) : x_Ev l E (10, 0, 0) m_X11_bothOf 0 [(21, 103), (0, a1)] [] M Q := by
  refine i_aload_n 0 rfl rfl (by decide) ?_
  refine i_iload_n 1 rfl rfl ?_
  refine i_callV (c := 11) (y1 := m_X11_plans) (z1 := (9, 0, 0)) (z2 := (10, 0, 0)) [(0, a1)] 2 rfl ml_1251 ok_X11_plans vk_X11_plans ⟨by decide, rfl⟩ rfl ⟨rfl, Nat.le_of_ble_eq_true rfl⟩ (Nat.le_of_ble_eq_true rfl) ⟨by decide, rfl, rfl, rfl⟩ ?_
  refine h.mono (fun r zM1 h => ?_)
  obtain ⟨rfl, h⟩ := h
  simp only [Option.toList_some, Option.toList_none, List.cons_append, List.nil_append]
  refine i_aload_n 3 rfl rfl (by decide) ?_
  refine i_iload_n 4 rfl rfl ?_
  refine i_callV (c := 11) (y1 := m_X11_prices) (z1 := (9, 0, 0)) (z2 := (10, 0, 0)) [(0, a1)] 5 rfl ml_1457 ok_X11_prices vk_X11_prices ⟨by decide, rfl⟩ rfl ⟨rfl, Nat.le_of_ble_eq_true rfl⟩ (Nat.le_of_ble_eq_true rfl) ⟨by decide, rfl, rfl, rfl⟩ ?_
  refine h.mono (fun r zM2 h => ?_)
  obtain ⟨rfl, h⟩ := h
  simp only [Option.toList_some, Option.toList_none, List.cons_append, List.nil_append]
  exact i_return 6 rfl rfl h
theorem u_X11_proofMany_0 {l : Launch} {E : xE} (a1 : Int) {M : xM} {Q : Option xV → xM → Prop} (h : x_Ev l E (4, 0, 0) m_X11_proofMany 4 [(21, 103), (0, a1), (0, 0), (0, 0)] [] M Q) : x_Ev l E (4, 0, 0) m_X11_proofMany 0 [(21, 103), (0, a1), (5, 0), (5, 0)] [] M Q := by
  refine i_iconst 0 rfl (by decide) ?_
  refine i_istore_n 1 rfl (by decide) rfl ?_
  refine i_iconst 2 rfl (by decide) ?_
  refine i_istore_n 3 rfl (by decide) rfl ?_
  exact h
theorem u_X11_proofMany_4 {l : Launch} {E : xE} (l1 l2 l3 : Int) {M : xM} {Q : Option xV → xM → Prop} (h : ((M 103 33) ≤ l3 → Q (some (0, l2)) M) ∧ (¬ (M 103 33) ≤ l3 → x_Ev l E (3, 0, 0) m_X11_isProof 0 [(21, 103), (0, l1), (0, l3), (5, 0)] [] M (fun r zM1 => ∃ zr2, r = some (0, zr2) ∧ (zr2 = 0 → ∀ zv3 : Int, zv3 = (x_w (l2 + 0)) → ∀ zv4 : Int, zv4 = x_w (l3 + 1) → x_Ev l E (4, 0, 0) m_X11_proofMany 4 [(21, 103), (0, l1), (0, zv3), (0, zv4)] [] zM1 Q) ∧ (¬ zr2 = 0 → ∀ zv5 : Int, zv5 = (x_w (l2 + 1)) → ∀ zv6 : Int, zv6 = x_w (l3 + 1) → x_Ev l E (4, 0, 0) m_X11_proofMany 4 [(21, 103), (0, l1), (0, zv5), (0, zv6)] [] zM1 Q)))) : x_Ev l E (4, 0, 0) m_X11_proofMany 4 [(21, 103), (0, l1), (0, l2), (0, l3)] [] M Q := by
  refine i_iload_n 4 rfl rfl ?_
  refine i_aload_n 5 rfl rfl (by decide) ?_
  refine i_getI (c := 11) (k := 33) 6 rfl fl_1082 (by decide) (by decide) ?_
  refine i_icmp_ge 35 7 rfl (by decide) (fun c => ?_) (fun c => ?_)
  · replace h := h.1 c
    refine i_iload_n 21 rfl rfl ?_
    exact i_ireturn 22 rfl rfl h
  · replace h := h.2 c
    refine i_iload_n 8 rfl rfl ?_
    refine i_aload_n 9 rfl rfl (by decide) ?_
    refine i_iload_n 10 rfl rfl ?_
    refine i_iload_n 11 rfl rfl ?_
    refine i_callV (c := 11) (y1 := m_X11_isProof) (z1 := (3, 0, 0)) (z2 := (4, 0, 0)) [(0, l1), (0, l3)] 12 rfl ml_1505 ok_X11_isProof vk_X11_isProof ⟨by decide, rfl⟩ rfl ⟨rfl, Nat.le_of_ble_eq_true rfl⟩ (Nat.le_of_ble_eq_true rfl) ⟨by decide, rfl, rfl, rfl⟩ ?_
    refine h.mono (fun r zM1 h => ?_)
    obtain ⟨zr2, rfl, h⟩ := h
    simp only [Option.toList_some, Option.toList_none, List.cons_append, List.nil_append]
    refine i_if_eq 26 13 rfl (by decide) (fun c => ?_) (fun c => ?_)
    · replace h := h.1 c
      refine i_iconst 16 rfl (by decide) ?_
      refine i_iadd 17 rfl ?_
      replace h := h _ rfl
      refine i_istore_n 18 rfl (by decide) rfl ?_
      replace h := h _ rfl
      refine i_iinc 19 rfl rfl (by decide) rfl ?_
      refine i_goto 4 20 rfl (by decide) ?_
      exact h
    · replace h := h.2 c
      refine i_iconst 14 rfl (by decide) ?_
      refine i_goto 27 15 rfl (by decide) ?_
      refine i_iadd 17 rfl ?_
      replace h := h _ rfl
      refine i_istore_n 18 rfl (by decide) rfl ?_
      replace h := h _ rfl
      refine i_iinc 19 rfl rfl (by decide) rfl ?_
      refine i_goto 4 20 rfl (by decide) ?_
      exact h
theorem u_X11_liveMany_0 {l : Launch} {E : xE} (a1 : Int) {M : xM} {Q : Option xV → xM → Prop} (h : x_Ev l E (2, 0, 0) m_X11_liveMany 4 [(21, 103), (0, a1), (0, 0), (0, 0), (5, 0)] [] M Q) : x_Ev l E (2, 0, 0) m_X11_liveMany 0 [(21, 103), (0, a1), (5, 0), (5, 0), (5, 0)] [] M Q := by
  refine i_iconst 0 rfl (by decide) ?_
  refine i_istore_n 1 rfl (by decide) rfl ?_
  refine i_iconst 2 rfl (by decide) ?_
  refine i_istore_n 3 rfl (by decide) rfl ?_
  exact h
theorem u_X11_liveMany_4 {l : Launch} {E : xE} (l1 l2 l3 : Int) {M : xM} {Q : Option xV → xM → Prop} (h : x_Ev l E (1, 0, 0) m_X11_pairs 0 [(21, 103), (0, l1)] [] M (fun r zM1 => ∃ zr2, r = some (0, zr2) ∧ (zr2 < l3 → Q (some (0, l2)) zM1) ∧ (¬ zr2 < l3 → x_Ev l E (2, 0, 0) m_X11_liveMany 16 [(21, 103), (0, l1), (0, l2), (0, l3), (0, 0)] [] zM1 Q))) : x_Ev l E (2, 0, 0) m_X11_liveMany 4 [(21, 103), (0, l1), (0, l2), (0, l3), (5, 0)] [] M Q := by
  refine i_iload_n 4 rfl rfl ?_
  refine i_aload_n 5 rfl rfl (by decide) ?_
  refine i_iload_n 6 rfl rfl ?_
  refine i_callV (c := 11) (y1 := m_X11_pairs) (z1 := (1, 0, 0)) (z2 := (2, 0, 0)) [(0, l1)] 7 rfl ml_1255 ok_X11_pairs vk_X11_pairs ⟨by decide, rfl⟩ rfl ⟨rfl, Nat.le_of_ble_eq_true rfl⟩ (Nat.le_of_ble_eq_true rfl) ⟨by decide, rfl, rfl, rfl⟩ ?_
  refine h.mono (fun r zM1 h => ?_)
  obtain ⟨zr2, rfl, h⟩ := h
  simp only [Option.toList_some, Option.toList_none, List.cons_append, List.nil_append]
  refine i_icmp_gt 64 8 rfl (by decide) (fun c => ?_) (fun c => ?_)
  · replace h := h.1 c
    refine i_iload_n 40 rfl rfl ?_
    exact i_ireturn 41 rfl rfl h
  · replace h := h.2 c
    refine i_iconst 9 rfl (by decide) ?_
    refine i_istore 10 rfl (by decide) rfl ?_
    exact h
theorem u_X11_liveMany_16 {l : Launch} {E : xE} (l1 l2 l3 l4 : Int) {M : xM} {Q : Option xV → xM → Prop} (h : ((x_ishl 1 l3) ≤ l4 → ∀ zv1 : Int, zv1 = x_w (l3 + 1) → x_Ev l E (2, 0, 0) m_X11_liveMany 4 [(21, 103), (0, l1), (0, l2), (0, zv1), (5, 0)] [] M Q) ∧ (¬ (x_ishl 1 l3) ≤ l4 → x_Ev l E (1, 0, 0) m_X11_areTight 0 [(21, 103), (0, l1), (0, l4), (0, (x_iand (x_w ((x_ishl 1 l3) - 1)) (x_ixor l4 (-1)))), (5, 0), (5, 0), (5, 0)] [] M (fun r zM2 => ∃ zr3, r = some (0, zr3) ∧ (zr3 = 0 → ∀ zv4 : Int, zv4 = (x_w (l2 + 0)) → ∀ zv5 : Int, zv5 = x_w (l4 + 1) → x_Ev l E (2, 0, 0) m_X11_liveMany 16 [(21, 103), (0, l1), (0, zv4), (0, l3), (0, zv5)] [] zM2 Q) ∧ (¬ zr3 = 0 → ∀ zv6 : Int, zv6 = (x_w (l2 + 1)) → ∀ zv7 : Int, zv7 = x_w (l4 + 1) → x_Ev l E (2, 0, 0) m_X11_liveMany 16 [(21, 103), (0, l1), (0, zv6), (0, l3), (0, zv7)] [] zM2 Q)))) : x_Ev l E (2, 0, 0) m_X11_liveMany 16 [(21, 103), (0, l1), (0, l2), (0, l3), (0, l4)] [] M Q := by
  refine i_iload 11 rfl rfl ?_
  refine i_iconst 12 rfl (by decide) ?_
  refine i_iload_n 13 rfl rfl ?_
  refine i_ishl 14 rfl ?_
  refine i_icmp_ge 58 15 rfl (by decide) (fun c => ?_) (fun c => ?_)
  · replace h := h.1 c
    replace h := h _ rfl
    refine i_iinc 38 rfl rfl (by decide) rfl ?_
    refine i_goto 4 39 rfl (by decide) ?_
    refine i_weak ?_ h
    exact (And.intro (Or.inr rfl) (And.intro (Or.inr rfl) (And.intro (Or.inr rfl) (And.intro (Or.inr rfl) (And.intro (Or.inl rfl) trivial)))))
  · replace h := h.2 c
    refine i_iload_n 16 rfl rfl ?_
    refine i_aload_n 17 rfl rfl (by decide) ?_
    refine i_iload_n 18 rfl rfl ?_
    refine i_iload 19 rfl rfl ?_
    refine i_iconst 20 rfl (by decide) ?_
    refine i_iload_n 21 rfl rfl ?_
    refine i_ishl 22 rfl ?_
    refine i_iconst 23 rfl (by decide) ?_
    refine i_isub 24 rfl ?_
    refine i_iload 25 rfl rfl ?_
    refine i_iconst 26 rfl (by decide) ?_
    refine i_ixor 27 rfl ?_
    refine i_iand 28 rfl ?_
    refine i_callV (c := 11) (y1 := m_X11_areTight) (z1 := (1, 0, 0)) (z2 := (2, 0, 0)) [(0, l1), (0, l4), (0, (x_iand (x_w ((x_ishl 1 l3) - 1)) (x_ixor l4 (-1))))] 29 rfl ml_1493 ok_X11_areTight vk_X11_areTight ⟨by decide, rfl⟩ rfl ⟨rfl, Nat.le_of_ble_eq_true rfl⟩ (Nat.le_of_ble_eq_true rfl) ⟨by decide, rfl, rfl, rfl⟩ ?_
    refine h.mono (fun r zM2 h => ?_)
    obtain ⟨zr3, rfl, h⟩ := h
    simp only [Option.toList_some, Option.toList_none, List.cons_append, List.nil_append]
    refine i_if_eq 49 30 rfl (by decide) (fun c => ?_) (fun c => ?_)
    · replace h := h.1 c
      refine i_iconst 33 rfl (by decide) ?_
      refine i_iadd 34 rfl ?_
      replace h := h _ rfl
      refine i_istore_n 35 rfl (by decide) rfl ?_
      replace h := h _ rfl
      refine i_iinc 36 rfl rfl (by decide) rfl ?_
      refine i_goto 16 37 rfl (by decide) ?_
      exact h
    · replace h := h.2 c
      refine i_iconst 31 rfl (by decide) ?_
      refine i_goto 50 32 rfl (by decide) ?_
      refine i_iadd 34 rfl ?_
      replace h := h _ rfl
      refine i_istore_n 35 rfl (by decide) rfl ?_
      replace h := h _ rfl
      refine i_iinc 36 rfl rfl (by decide) rfl ?_
      refine i_goto 16 37 rfl (by decide) ?_
      exact h
theorem u_X11_openMany_0 {l : Launch} {E : xE} (a1 : Int) {M : xM} {Q : Option xV → xM → Prop} (h : x_Ev l E (3, 0, 0) m_X11_openMany 4 [(21, 103), (0, a1), (0, 0), (0, 0)] [] M Q) : x_Ev l E (3, 0, 0) m_X11_openMany 0 [(21, 103), (0, a1), (5, 0), (5, 0)] [] M Q := by
  refine i_iconst 0 rfl (by decide) ?_
  refine i_istore_n 1 rfl (by decide) rfl ?_
  refine i_iconst 2 rfl (by decide) ?_
  refine i_istore_n 3 rfl (by decide) rfl ?_
  exact h
theorem u_X11_openMany_4 {l : Launch} {E : xE} (l1 l2 l3 : Int) {M : xM} {Q : Option xV → xM → Prop} (h : x_Ev l E (1, 0, 0) m_X11_pairs 0 [(21, 103), (0, l1)] [] M (fun r zM1 => ∃ zr2, r = some (0, zr2) ∧ ((x_ishl 1 zr2) ≤ l3 → Q (some (0, l2)) zM1) ∧ (¬ (x_ishl 1 zr2) ≤ l3 → x_Ev l E (2, 0, 0) m_X11_isOpenSet 0 [(21, 103), (0, l1), (0, l3)] [] zM1 (fun r zM3 => ∃ zr4, r = some (0, zr4) ∧ (zr4 = 0 → ∀ zv5 : Int, zv5 = (x_w (l2 + 0)) → ∀ zv6 : Int, zv6 = x_w (l3 + 1) → x_Ev l E (3, 0, 0) m_X11_openMany 4 [(21, 103), (0, l1), (0, zv5), (0, zv6)] [] zM3 Q) ∧ (¬ zr4 = 0 → ∀ zv7 : Int, zv7 = (x_w (l2 + 1)) → ∀ zv8 : Int, zv8 = x_w (l3 + 1) → x_Ev l E (3, 0, 0) m_X11_openMany 4 [(21, 103), (0, l1), (0, zv7), (0, zv8)] [] zM3 Q))))) : x_Ev l E (3, 0, 0) m_X11_openMany 4 [(21, 103), (0, l1), (0, l2), (0, l3)] [] M Q := by
  refine i_iload_n 4 rfl rfl ?_
  refine i_iconst 5 rfl (by decide) ?_
  refine i_aload_n 6 rfl rfl (by decide) ?_
  refine i_iload_n 7 rfl rfl ?_
  refine i_callV (c := 11) (y1 := m_X11_pairs) (z1 := (1, 0, 0)) (z2 := (3, 0, 0)) [(0, l1)] 8 rfl ml_1255 ok_X11_pairs vk_X11_pairs ⟨by decide, rfl⟩ rfl ⟨rfl, Nat.le_of_ble_eq_true rfl⟩ (Nat.le_of_ble_eq_true rfl) ⟨by decide, rfl, rfl, rfl⟩ ?_
  refine h.mono (fun r zM1 h => ?_)
  obtain ⟨zr2, rfl, h⟩ := h
  simp only [Option.toList_some, Option.toList_none, List.cons_append, List.nil_append]
  refine i_ishl 9 rfl ?_
  refine i_icmp_ge 38 10 rfl (by decide) (fun c => ?_) (fun c => ?_)
  · replace h := h.1 c
    refine i_iload_n 24 rfl rfl ?_
    exact i_ireturn 25 rfl rfl h
  · replace h := h.2 c
    refine i_iload_n 11 rfl rfl ?_
    refine i_aload_n 12 rfl rfl (by decide) ?_
    refine i_iload_n 13 rfl rfl ?_
    refine i_iload_n 14 rfl rfl ?_
    refine i_callV (c := 11) (y1 := m_X11_isOpenSet) (z1 := (2, 0, 0)) (z2 := (3, 0, 0)) [(0, l1), (0, l3)] 15 rfl ml_1489 ok_X11_isOpenSet vk_X11_isOpenSet ⟨by decide, rfl⟩ rfl ⟨rfl, Nat.le_of_ble_eq_true rfl⟩ (Nat.le_of_ble_eq_true rfl) ⟨by decide, rfl, rfl, rfl⟩ ?_
    refine h.mono (fun r zM3 h => ?_)
    obtain ⟨zr4, rfl, h⟩ := h
    simp only [Option.toList_some, Option.toList_none, List.cons_append, List.nil_append]
    refine i_if_eq 29 16 rfl (by decide) (fun c => ?_) (fun c => ?_)
    · replace h := h.1 c
      refine i_iconst 19 rfl (by decide) ?_
      refine i_iadd 20 rfl ?_
      replace h := h _ rfl
      refine i_istore_n 21 rfl (by decide) rfl ?_
      replace h := h _ rfl
      refine i_iinc 22 rfl rfl (by decide) rfl ?_
      refine i_goto 4 23 rfl (by decide) ?_
      exact h
    · replace h := h.2 c
      refine i_iconst 17 rfl (by decide) ?_
      refine i_goto 30 18 rfl (by decide) ?_
      refine i_iadd 20 rfl ?_
      replace h := h _ rfl
      refine i_istore_n 21 rfl (by decide) rfl ?_
      replace h := h _ rfl
      refine i_iinc 22 rfl rfl (by decide) rfl ?_
      refine i_goto 4 23 rfl (by decide) ?_
      exact h
theorem u_X11_pairs_0 {l : Launch} {E : xE} (a1 : Int) {M : xM} {Q : Option xV → xM → Prop} (h : ((0 : Int) ≤ a1 ∧ (a1 : Int) < 3) ∧ ((0 : Int) ≤ a1 ∧ (a1 : Int) < 3) ∧ Q (some (0, (x_w ((M 107 a1) + (M 106 a1))))) M) : x_Ev l E (1, 0, 0) m_X11_pairs 0 [(21, 103), (0, a1)] [] M Q := by
  refine i_aload_n 0 rfl rfl (by decide) ?_
  refine i_getP (c := 11) (k := 4) (t := 114) (b := 107) 1 rfl fl_1053 (by decide) rfl (by decide) rfl ?_
  refine i_iload_n 2 rfl rfl ?_
  refine i_iald (τ := 14) 3 rfl ⟨rfl, rfl, rfl, by decide⟩ h.1.1 h.1.2 ?_
  replace h := h.2
  refine i_aload_n 4 rfl rfl (by decide) ?_
  refine i_getP (c := 11) (k := 3) (t := 114) (b := 106) 5 rfl fl_1052 (by decide) rfl (by decide) rfl ?_
  refine i_iload_n 6 rfl rfl ?_
  refine i_iald (τ := 14) 7 rfl ⟨rfl, rfl, rfl, by decide⟩ h.1.1 h.1.2 ?_
  replace h := h.2
  refine i_iadd 8 rfl ?_
  exact i_ireturn 9 rfl rfl h
theorem u_X11_isOpenSet_0 {l : Launch} {E : xE} (a1 a2 : Int) {M : xM} {Q : Option xV → xM → Prop} (h : x_Ev l E (1, 0, 0) m_X11_pairs 0 [(21, 103), (0, a1)] [] M (fun r zM1 => ∃ zr2, r = some (0, zr2) ∧ x_Ev l E (1, 0, 0) m_X11_areTight 0 [(21, 103), (0, a1), (0, a2), (0, (x_iand (x_w ((x_ishl 1 zr2) - 1)) (x_ixor a2 (-1)))), (5, 0), (5, 0), (5, 0)] [] zM1 (fun r zM3 => ∃ zr4, r = some (0, zr4) ∧ (zr4 = 0 ∨ zr4 = 1) ∧ Q (some (0, zr4)) zM3))) : x_Ev l E (2, 0, 0) m_X11_isOpenSet 0 [(21, 103), (0, a1), (0, a2)] [] M Q := by
  refine i_aload_n 0 rfl rfl (by decide) ?_
  refine i_iload_n 1 rfl rfl ?_
  refine i_iload_n 2 rfl rfl ?_
  refine i_iconst 3 rfl (by decide) ?_
  refine i_aload_n 4 rfl rfl (by decide) ?_
  refine i_iload_n 5 rfl rfl ?_
  refine i_callV (c := 11) (y1 := m_X11_pairs) (z1 := (1, 0, 0)) (z2 := (2, 0, 0)) [(0, a1)] 6 rfl ml_1255 ok_X11_pairs vk_X11_pairs ⟨by decide, rfl⟩ rfl ⟨rfl, Nat.le_of_ble_eq_true rfl⟩ (Nat.le_of_ble_eq_true rfl) ⟨by decide, rfl, rfl, rfl⟩ ?_
  refine h.mono (fun r zM1 h => ?_)
  obtain ⟨zr2, rfl, h⟩ := h
  simp only [Option.toList_some, Option.toList_none, List.cons_append, List.nil_append]
  refine i_ishl 7 rfl ?_
  refine i_iconst 8 rfl (by decide) ?_
  refine i_isub 9 rfl ?_
  refine i_iload_n 10 rfl rfl ?_
  refine i_iconst 11 rfl (by decide) ?_
  refine i_ixor 12 rfl ?_
  refine i_iand 13 rfl ?_
  refine i_callV (c := 11) (y1 := m_X11_areTight) (z1 := (1, 0, 0)) (z2 := (2, 0, 0)) [(0, a1), (0, a2), (0, (x_iand (x_w ((x_ishl 1 zr2) - 1)) (x_ixor a2 (-1))))] 14 rfl ml_1493 ok_X11_areTight vk_X11_areTight ⟨by decide, rfl⟩ rfl ⟨rfl, Nat.le_of_ble_eq_true rfl⟩ (Nat.le_of_ble_eq_true rfl) ⟨by decide, rfl, rfl, rfl⟩ ?_
  refine h.mono (fun r zM3 h => ?_)
  obtain ⟨zr4, rfl, h⟩ := h
  simp only [Option.toList_some, Option.toList_none, List.cons_append, List.nil_append]
  exact i_zreturn 15 rfl rfl h.1 h.2
theorem u_X11_prices_0 {l : Launch} {E : xE} (a1 : Int) {M : xM} {Q : Option xV → xM → Prop} (h : ∀ zM1 : xM, zM1 = x_wr M 103 33 0 → x_Ev l E (9, 0, 0) m_X11_prices 7 [(21, 103), (0, a1), (0, 1), (5, 0), (5, 0)] [] zM1 Q) : x_Ev l E (9, 0, 0) m_X11_prices 0 [(21, 103), (0, a1), (5, 0), (5, 0), (5, 0)] [] M Q := by
  refine i_aload_n 0 rfl rfl (by decide) ?_
  refine i_iconst 1 rfl (by decide) ?_
  replace h := h _ rfl
  refine i_putI (c := 11) (k := 33) 2 rfl fl_1082 (by decide) ⟨rfl, rfl, rfl⟩ ?_
  refine i_iconst 3 rfl (by decide) ?_
  refine i_istore_n 4 rfl (by decide) rfl ?_
  exact h
theorem u_X11_prices_7 {l : Launch} {E : xE} (l1 l2 : Int) {M : xM} {Q : Option xV → xM → Prop} (h : x_Ev l E (1, 0, 0) m_X11_pairs 0 [(21, 103), (0, l1)] [] M (fun r zM1 => ∃ zr2, r = some (0, zr2) ∧ ((x_ishl 1 zr2) ≤ l2 → Q none zM1) ∧ (¬ (x_ishl 1 zr2) ≤ l2 → x_Ev l E (1, 0, 0) m_J6_bitCount_0f7a4 0 [(0, l2)] [] zM1 (fun r zM3 => ∃ zr4, r = some (0, zr4) ∧ ((0 : Int) ≤ l1 ∧ (l1 : Int) < 3) ∧ (zr4 = (zM3 107 l1) → x_Ev l E (3, 0, 0) m_X11_laysDual 0 [(21, 103), (0, l1), (0, l2), (5, 0), (5, 0)] [] zM3 (fun r zM5 => r = none ∧ x_Ev l E (8, 0, 0) m_X11_solves 0 [(21, 103), (5, 0), (5, 0), (5, 0)] [] zM5 (fun r zM6 => ∃ zr7, r = some (1, zr7) ∧ (zr7 = 0 → ∀ zv8 : Int, zv8 = x_w (l2 + 1) → x_Ev l E (9, 0, 0) m_X11_prices 7 [(21, 103), (0, l1), (0, zv8), (5, 0), (5, 0)] [] zM6 Q) ∧ (¬ zr7 = 0 → x_Ev l E (3, 0, 0) m_X11_arePrices 0 [(21, 103), (0, l1), (1, zr7), (5, 0), (5, 0)] [] zM6 (fun r zM9 => ∃ zr10, r = some (0, zr10) ∧ (zr10 = 0 → ∀ zv11 : Int, zv11 = x_w (l2 + 1) → x_Ev l E (9, 0, 0) m_X11_prices 7 [(21, 103), (0, l1), (0, zv11), (5, 0), (5, 0)] [] zM9 Q) ∧ (¬ zr10 = 0 → x_Ev l E (4, 0, 0) m_X11_takesPrices 0 [(21, 103), (0, l1), (1, zr7), (5, 0), (5, 0), (5, 0), (5, 0)] [] zM9 (fun r zM12 => r = none ∧ ∀ zv13 : Int, zv13 = x_w (l2 + 1) → x_Ev l E (9, 0, 0) m_X11_prices 7 [(21, 103), (0, l1), (0, zv13), (5, 0), (5, 0)] [] zM12 Q))))))) ∧ (¬ zr4 = (zM3 107 l1) → ∀ zv14 : Int, zv14 = x_w (l2 + 1) → x_Ev l E (9, 0, 0) m_X11_prices 7 [(21, 103), (0, l1), (0, zv14), (5, 0), (5, 0)] [] zM3 Q))))) : x_Ev l E (9, 0, 0) m_X11_prices 7 [(21, 103), (0, l1), (0, l2), (5, 0), (5, 0)] [] M Q := by
  refine i_iload_n 5 rfl rfl ?_
  refine i_iconst 6 rfl (by decide) ?_
  refine i_aload_n 7 rfl rfl (by decide) ?_
  refine i_iload_n 8 rfl rfl ?_
  refine i_callV (c := 11) (y1 := m_X11_pairs) (z1 := (1, 0, 0)) (z2 := (9, 0, 0)) [(0, l1)] 9 rfl ml_1255 ok_X11_pairs vk_X11_pairs ⟨by decide, rfl⟩ rfl ⟨rfl, Nat.le_of_ble_eq_true rfl⟩ (Nat.le_of_ble_eq_true rfl) ⟨by decide, rfl, rfl, rfl⟩ ?_
  refine h.mono (fun r zM1 h => ?_)
  obtain ⟨zr2, rfl, h⟩ := h
  simp only [Option.toList_some, Option.toList_none, List.cons_append, List.nil_append]
  refine i_ishl 10 rfl ?_
  refine i_icmp_ge 72 11 rfl (by decide) (fun c => ?_) (fun c => ?_)
  · replace h := h.1 c
    exact i_return 42 rfl rfl h
  · replace h := h.2 c
    refine i_iload_n 12 rfl rfl ?_
    refine i_callS (y1 := m_J6_bitCount_0f7a4) (z1 := (1, 0, 0)) (z2 := (9, 0, 0)) [(0, l2)] 13 rfl ml_1259 ok_J6_bitCount_0f7a4 vk_J6_bitCount_0f7a4 rfl ⟨rfl, Nat.le_of_ble_eq_true rfl⟩ (Nat.le_of_ble_eq_true rfl) ⟨by decide, rfl, rfl, rfl⟩ ?_
    refine h.mono (fun r zM3 h => ?_)
    obtain ⟨zr4, rfl, h⟩ := h
    simp only [Option.toList_some, Option.toList_none, List.cons_append, List.nil_append]
    refine i_aload_n 14 rfl rfl (by decide) ?_
    refine i_getP (c := 11) (k := 4) (t := 114) (b := 107) 15 rfl fl_1053 (by decide) rfl (by decide) rfl ?_
    refine i_iload_n 16 rfl rfl ?_
    refine i_iald (τ := 14) 17 rfl ⟨rfl, rfl, rfl, by decide⟩ h.1.1 h.1.2 ?_
    replace h := h.2
    refine i_icmp_eq 34 18 rfl (by decide) (fun c => ?_) (fun c => ?_)
    · replace h := h.1 c
      refine i_aload_n 20 rfl rfl (by decide) ?_
      refine i_iload_n 21 rfl rfl ?_
      refine i_iload_n 22 rfl rfl ?_
      refine i_callV (c := 11) (y1 := m_X11_laysDual) (z1 := (3, 0, 0)) (z2 := (9, 0, 0)) [(0, l1), (0, l2)] 23 rfl ml_1461 ok_X11_laysDual vk_X11_laysDual ⟨by decide, rfl⟩ rfl ⟨rfl, Nat.le_of_ble_eq_true rfl⟩ (Nat.le_of_ble_eq_true rfl) ⟨by decide, rfl, rfl, rfl⟩ ?_
      refine h.mono (fun r zM5 h => ?_)
      obtain ⟨rfl, h⟩ := h
      simp only [Option.toList_some, Option.toList_none, List.cons_append, List.nil_append]
      refine i_aload_n 24 rfl rfl (by decide) ?_
      refine i_callV (c := 11) (y1 := m_X11_solves) (z1 := (8, 0, 0)) (z2 := (9, 0, 0)) [] 25 rfl ml_1264 ok_X11_solves vk_X11_solves ⟨by decide, rfl⟩ rfl ⟨rfl, Nat.le_of_ble_eq_true rfl⟩ (Nat.le_of_ble_eq_true rfl) ⟨by decide, rfl, rfl, rfl⟩ ?_
      refine h.mono (fun r zM6 h => ?_)
      obtain ⟨zr7, rfl, h⟩ := h
      simp only [Option.toList_some, Option.toList_none, List.cons_append, List.nil_append]
      refine i_lstore_n 26 rfl (by decide) rfl ?_
      refine i_lload_n 27 rfl rfl ?_
      refine i_lconst (w := 0) 28 rfl (by decide) ?_
      refine i_lcmp_eq 66 29 rfl rfl (by decide) (fun c => ?_) (fun c => ?_)
      · replace h := h.1 c
        replace h := h _ rfl
        refine i_iinc 40 rfl rfl (by decide) rfl ?_
        refine i_goto 7 41 rfl (by decide) ?_
        refine i_weak ?_ h
        exact (And.intro (Or.inr rfl) (And.intro (Or.inr rfl) (And.intro (Or.inr rfl) (And.intro (Or.inl rfl) (And.intro (Or.inr rfl) trivial)))))
      · replace h := h.2 c
        refine i_aload_n 31 rfl rfl (by decide) ?_
        refine i_iload_n 32 rfl rfl ?_
        refine i_lload_n 33 rfl rfl ?_
        refine i_callV (c := 11) (y1 := m_X11_arePrices) (z1 := (3, 0, 0)) (z2 := (9, 0, 0)) [(0, l1), (1, zr7)] 34 rfl ml_1469 ok_X11_arePrices vk_X11_arePrices ⟨by decide, rfl⟩ rfl ⟨rfl, Nat.le_of_ble_eq_true rfl⟩ (Nat.le_of_ble_eq_true rfl) ⟨by decide, rfl, rfl, rfl⟩ ?_
        refine h.mono (fun r zM9 h => ?_)
        obtain ⟨zr10, rfl, h⟩ := h
        simp only [Option.toList_some, Option.toList_none, List.cons_append, List.nil_append]
        refine i_if_eq 66 35 rfl (by decide) (fun c => ?_) (fun c => ?_)
        · replace h := h.1 c
          replace h := h _ rfl
          refine i_iinc 40 rfl rfl (by decide) rfl ?_
          refine i_goto 7 41 rfl (by decide) ?_
          refine i_weak ?_ h
          exact (And.intro (Or.inr rfl) (And.intro (Or.inr rfl) (And.intro (Or.inr rfl) (And.intro (Or.inl rfl) (And.intro (Or.inr rfl) trivial)))))
        · replace h := h.2 c
          refine i_aload_n 36 rfl rfl (by decide) ?_
          refine i_iload_n 37 rfl rfl ?_
          refine i_lload_n 38 rfl rfl ?_
          refine i_callV (c := 11) (y1 := m_X11_takesPrices) (z1 := (4, 0, 0)) (z2 := (9, 0, 0)) [(0, l1), (1, zr7)] 39 rfl ml_1477 ok_X11_takesPrices vk_X11_takesPrices ⟨by decide, rfl⟩ rfl ⟨rfl, Nat.le_of_ble_eq_true rfl⟩ (Nat.le_of_ble_eq_true rfl) ⟨by decide, rfl, rfl, rfl⟩ ?_
          refine h.mono (fun r zM12 h => ?_)
          obtain ⟨rfl, h⟩ := h
          simp only [Option.toList_some, Option.toList_none, List.cons_append, List.nil_append]
          replace h := h _ rfl
          refine i_iinc 40 rfl rfl (by decide) rfl ?_
          refine i_goto 7 41 rfl (by decide) ?_
          refine i_weak ?_ h
          exact (And.intro (Or.inr rfl) (And.intro (Or.inr rfl) (And.intro (Or.inr rfl) (And.intro (Or.inl rfl) (And.intro (Or.inr rfl) trivial)))))
    · replace h := h.2 c
      refine i_goto 66 19 rfl (by decide) ?_
      replace h := h _ rfl
      refine i_iinc 40 rfl rfl (by decide) rfl ?_
      refine i_goto 7 41 rfl (by decide) ?_
      exact h
theorem u_X11_theProof_0 {l : Launch} {E : xE} (a1 : Int) {M : xM} {Q : Option xV → xM → Prop} (h : x_Ev l E (4, 0, 0) m_X11_theProof 4 [(21, 103), (0, a1), (0, (-1)), (0, 0)] [] M Q) : x_Ev l E (4, 0, 0) m_X11_theProof 0 [(21, 103), (0, a1), (5, 0), (5, 0)] [] M Q := by
  refine i_iconst 0 rfl (by decide) ?_
  refine i_istore_n 1 rfl (by decide) rfl ?_
  refine i_iconst 2 rfl (by decide) ?_
  refine i_istore_n 3 rfl (by decide) rfl ?_
  exact h
theorem u_X11_theProof_4 {l : Launch} {E : xE} (l1 l2 l3 : Int) {M : xM} {Q : Option xV → xM → Prop} (h : ((M 103 33) ≤ l3 → Q (some (0, l2)) M) ∧ (¬ (M 103 33) ≤ l3 → x_Ev l E (3, 0, 0) m_X11_isProof 0 [(21, 103), (0, l1), (0, l3), (5, 0)] [] M (fun r zM1 => ∃ zr2, r = some (0, zr2) ∧ (zr2 = 0 → ∀ zv3 : Int, zv3 = x_w (l3 + 1) → x_Ev l E (4, 0, 0) m_X11_theProof 4 [(21, 103), (0, l1), (0, l2), (0, zv3)] [] zM1 Q) ∧ (¬ zr2 = 0 → (l2 < 0 → ∀ zv4 : Int, zv4 = x_w (l3 + 1) → x_Ev l E (4, 0, 0) m_X11_theProof 4 [(21, 103), (0, l1), (0, l3), (0, zv4)] [] zM1 Q) ∧ (¬ l2 < 0 → x_Ev l E (1, 0, 0) m_X11_isAhead 0 [(21, 103), (0, l1), (0, l3), (0, l2), (5, 0), (5, 0), (5, 0), (5, 0), (5, 0)] [] zM1 (fun r zM5 => ∃ zr6, r = some (0, zr6) ∧ (zr6 = 0 → ∀ zv7 : Int, zv7 = x_w (l3 + 1) → x_Ev l E (4, 0, 0) m_X11_theProof 4 [(21, 103), (0, l1), (0, l2), (0, zv7)] [] zM5 Q) ∧ (¬ zr6 = 0 → ∀ zv8 : Int, zv8 = x_w (l3 + 1) → x_Ev l E (4, 0, 0) m_X11_theProof 4 [(21, 103), (0, l1), (0, l3), (0, zv8)] [] zM5 Q))))))) : x_Ev l E (4, 0, 0) m_X11_theProof 4 [(21, 103), (0, l1), (0, l2), (0, l3)] [] M Q := by
  refine i_iload_n 4 rfl rfl ?_
  refine i_aload_n 5 rfl rfl (by decide) ?_
  refine i_getI (c := 11) (k := 33) 6 rfl fl_1082 (by decide) (by decide) ?_
  refine i_icmp_ge 43 7 rfl (by decide) (fun c => ?_) (fun c => ?_)
  · replace h := h.1 c
    refine i_iload_n 25 rfl rfl ?_
    exact i_ireturn 26 rfl rfl h
  · replace h := h.2 c
    refine i_aload_n 8 rfl rfl (by decide) ?_
    refine i_iload_n 9 rfl rfl ?_
    refine i_iload_n 10 rfl rfl ?_
    refine i_callV (c := 11) (y1 := m_X11_isProof) (z1 := (3, 0, 0)) (z2 := (4, 0, 0)) [(0, l1), (0, l3)] 11 rfl ml_1505 ok_X11_isProof vk_X11_isProof ⟨by decide, rfl⟩ rfl ⟨rfl, Nat.le_of_ble_eq_true rfl⟩ (Nat.le_of_ble_eq_true rfl) ⟨by decide, rfl, rfl, rfl⟩ ?_
    refine h.mono (fun r zM1 h => ?_)
    obtain ⟨zr2, rfl, h⟩ := h
    simp only [Option.toList_some, Option.toList_none, List.cons_append, List.nil_append]
    refine i_if_eq 37 12 rfl (by decide) (fun c => ?_) (fun c => ?_)
    · replace h := h.1 c
      replace h := h _ rfl
      refine i_iinc 23 rfl rfl (by decide) rfl ?_
      refine i_goto 4 24 rfl (by decide) ?_
      exact h
    · replace h := h.2 c
      refine i_iload_n 13 rfl rfl ?_
      refine i_if_lt 35 14 rfl (by decide) (fun c => ?_) (fun c => ?_)
      · replace h := h.1 c
        refine i_iload_n 21 rfl rfl ?_
        refine i_istore_n 22 rfl (by decide) rfl ?_
        replace h := h _ rfl
        refine i_iinc 23 rfl rfl (by decide) rfl ?_
        refine i_goto 4 24 rfl (by decide) ?_
        exact h
      · replace h := h.2 c
        refine i_aload_n 15 rfl rfl (by decide) ?_
        refine i_iload_n 16 rfl rfl ?_
        refine i_iload_n 17 rfl rfl ?_
        refine i_iload_n 18 rfl rfl ?_
        refine i_callV (c := 11) (y1 := m_X11_isAhead) (z1 := (1, 0, 0)) (z2 := (4, 0, 0)) [(0, l1), (0, l3), (0, l2)] 19 rfl ml_1533 ok_X11_isAhead vk_X11_isAhead ⟨by decide, rfl⟩ rfl ⟨rfl, Nat.le_of_ble_eq_true rfl⟩ (Nat.le_of_ble_eq_true rfl) ⟨by decide, rfl, rfl, rfl⟩ ?_
        refine h.mono (fun r zM5 h => ?_)
        obtain ⟨zr6, rfl, h⟩ := h
        simp only [Option.toList_some, Option.toList_none, List.cons_append, List.nil_append]
        refine i_if_eq 37 20 rfl (by decide) (fun c => ?_) (fun c => ?_)
        · replace h := h.1 c
          replace h := h _ rfl
          refine i_iinc 23 rfl rfl (by decide) rfl ?_
          refine i_goto 4 24 rfl (by decide) ?_
          exact h
        · replace h := h.2 c
          refine i_iload_n 21 rfl rfl ?_
          refine i_istore_n 22 rfl (by decide) rfl ?_
          replace h := h _ rfl
          refine i_iinc 23 rfl rfl (by decide) rfl ?_
          refine i_goto 4 24 rfl (by decide) ?_
          exact h
theorem u_X11_isSheet_0 {l : Launch} {E : xE} (a0 : Int) {M : xM} {Q : Option xV → xM → Prop} (h : x_Ev l E (1, 0, 0) m_X11_in 0 [(1, a0), (5, 0), (1, 0), (5, 0), (1, 3), (5, 0)] [] M (fun r zM1 => ∃ zr2, r = some (0, zr2) ∧ (zr2 = 0 ∨ zr2 = 1) ∧ Q (some (0, zr2)) zM1)) : x_Ev l E (2, 0, 0) m_X11_isSheet 0 [(0, a0)] [] M Q := by
  refine i_iload_n 0 rfl rfl ?_
  refine i_i2l 1 rfl ?_
  refine i_lconst (w := 0) 2 rfl (by decide) ?_
  refine i_ldc2 (v := 3) 3 rfl cw_1232 (by decide) ?_
  refine i_callS (y1 := m_X11_in) (z1 := (1, 0, 0)) (z2 := (2, 0, 0)) [(1, a0), (1, 0), (1, 3)] 4 rfl ml_1229 ok_X11_in vk_X11_in rfl ⟨rfl, Nat.le_of_ble_eq_true rfl⟩ (Nat.le_of_ble_eq_true rfl) ⟨by decide, rfl, rfl, rfl⟩ ?_
  refine h.mono (fun r zM1 h => ?_)
  obtain ⟨zr2, rfl, h⟩ := h
  simp only [Option.toList_some, Option.toList_none, List.cons_append, List.nil_append]
  exact i_zreturn 5 rfl rfl h.1 h.2
theorem u_X11_weighed_0 {l : Launch} {E : xE} (a1 a2 : Int) {M : xM} {Q : Option xV → xM → Prop} (h : x_Ev l E (2, 0, 0) m_X11_areTold 0 [(21, 103), (0, a1), (0, a2), (5, 0)] [] M (fun r zM1 => ∃ zr2, r = some (0, zr2) ∧ (¬ zr2 = 0 → x_Ev l E (1, 0, 0) m_X11_told 0 [(21, 103), (0, a1), (0, 0)] [] zM1 (fun r zM3 => ∃ zr4, r = some (1, zr4) ∧ x_Ev l E (10, 0, 0) m_X11_weighed 21 [(21, 103), (0, a1), (0, a2), (1, zr4), (5, 0), (0, 0), (5, 0), (5, 0), (5, 0)] [] zM3 Q)) ∧ (zr2 = 0 → Q (some (0, 1)) zM1))) : x_Ev l E (10, 0, 0) m_X11_weighed 0 [(21, 103), (0, a1), (0, a2), (5, 0), (5, 0), (5, 0), (5, 0), (5, 0), (5, 0)] [] M Q := by
  refine i_aload_n 0 rfl rfl (by decide) ?_
  refine i_iload_n 1 rfl rfl ?_
  refine i_iload_n 2 rfl rfl ?_
  refine i_callV (c := 11) (y1 := m_X11_areTold) (z1 := (2, 0, 0)) (z2 := (10, 0, 0)) [(0, a1), (0, a2)] 3 rfl ml_1548 ok_X11_areTold vk_X11_areTold ⟨by decide, rfl⟩ rfl ⟨rfl, Nat.le_of_ble_eq_true rfl⟩ (Nat.le_of_ble_eq_true rfl) ⟨by decide, rfl, rfl, rfl⟩ ?_
  refine h.mono (fun r zM1 h => ?_)
  obtain ⟨zr2, rfl, h⟩ := h
  simp only [Option.toList_some, Option.toList_none, List.cons_append, List.nil_append]
  refine i_if_ne 11 4 rfl (by decide) (fun c => ?_) (fun c => ?_)
  · replace h := h.1 c
    refine i_aload_n 7 rfl rfl (by decide) ?_
    refine i_iload_n 8 rfl rfl ?_
    refine i_iconst 9 rfl (by decide) ?_
    refine i_callV (c := 11) (y1 := m_X11_told) (z1 := (1, 0, 0)) (z2 := (10, 0, 0)) [(0, a1), (0, 0)] 10 rfl ml_1552 ok_X11_told vk_X11_told ⟨by decide, rfl⟩ rfl ⟨rfl, Nat.le_of_ble_eq_true rfl⟩ (Nat.le_of_ble_eq_true rfl) ⟨by decide, rfl, rfl, rfl⟩ ?_
    refine h.mono (fun r zM3 h => ?_)
    obtain ⟨zr4, rfl, h⟩ := h
    simp only [Option.toList_some, Option.toList_none, List.cons_append, List.nil_append]
    refine i_lstore_n 11 rfl (by decide) rfl ?_
    refine i_iconst 12 rfl (by decide) ?_
    refine i_istore 13 rfl (by decide) rfl ?_
    exact h
  · replace h := h.2 c
    refine i_iconst 5 rfl (by decide) ?_
    exact i_ireturn 6 rfl rfl h
theorem u_X11_weighed_21 {l : Launch} {E : xE} (l1 l2 l3 l5 : Int) {M : xM} {Q : Option xV → xM → Prop} (h : ((0 : Int) ≤ l2 ∧ (l2 : Int) < 3) ∧ ((M 106 l2) ≤ l5 → x_Ev l E (10, 0, 0) m_X11_weighed 121 [(21, 103), (0, l1), (0, l2), (1, l3), (5, 0), (1, 0), (5, 0), (0, 0), (5, 0)] [] M Q) ∧ (¬ (M 106 l2) ≤ l5 → x_Ev l E (10, 0, 0) m_X11_weighed 38 [(21, 103), (0, l1), (0, l2), (1, l3), (5, 0), (0, l5), (1, 0), (5, 0), (0, 0)] [] M Q)) : x_Ev l E (10, 0, 0) m_X11_weighed 21 [(21, 103), (0, l1), (0, l2), (1, l3), (5, 0), (0, l5), (5, 0), (5, 0), (5, 0)] [] M Q := by
  refine i_iload 14 rfl rfl ?_
  refine i_aload_n 15 rfl rfl (by decide) ?_
  refine i_getP (c := 11) (k := 3) (t := 114) (b := 106) 16 rfl fl_1052 (by decide) rfl (by decide) rfl ?_
  refine i_iload_n 17 rfl rfl ?_
  refine i_iald (τ := 14) 18 rfl ⟨rfl, rfl, rfl, by decide⟩ h.1.1 h.1.2 ?_
  replace h := h.2
  refine i_icmp_ge 115 19 rfl (by decide) (fun c => ?_) (fun c => ?_)
  · replace h := h.1 c
    refine i_lconst (w := 0) 69 rfl (by decide) ?_
    refine i_lstore 70 rfl (by decide) rfl ?_
    refine i_iconst 71 rfl (by decide) ?_
    refine i_istore 72 rfl (by decide) rfl ?_
    exact h
  · replace h := h.2 c
    refine i_lconst (w := 0) 20 rfl (by decide) ?_
    refine i_lstore 21 rfl (by decide) rfl ?_
    refine i_iconst 22 rfl (by decide) ?_
    refine i_istore 23 rfl (by decide) rfl ?_
    exact h
theorem u_X11_weighed_38 {l : Launch} {E : xE} (l1 l2 l3 l5 l6 l8 : Int) {M : xM} {Q : Option xV → xM → Prop} (h : ((0 : Int) ≤ l2 ∧ (l2 : Int) < 3) ∧ ((M 107 l2) ≤ l8 → x_Ev l E (2, 0, 0) m_X11_due 0 [(21, 103), (0, l2), (0, l5)] [] M (fun r zM1 => ∃ zr2, r = some (1, zr2) ∧ ((x_W (zr2 * l3)) ≤ (x_W (l6 * (M 103 10))) → ∀ zv3 : Int, zv3 = x_w (l5 + 1) → x_Ev l E (10, 0, 0) m_X11_weighed 21 [(21, 103), (0, l1), (0, l2), (1, l3), (5, 0), (0, zv3), (5, 0), (5, 0), (5, 0)] [] zM1 Q) ∧ (¬ (x_W (zr2 * l3)) ≤ (x_W (l6 * (M 103 10))) → Q (some (0, (x_w (10 + l5)))) zM1))) ∧ (¬ (M 107 l2) ≤ l8 → x_Ev l E (1, 0, 0) m_X11_told 0 [(21, 103), (0, l1), (0, (x_w (1 + l8)))] [] M (fun r zM4 => ∃ zr5, r = some (1, zr5) ∧ ((0 : Int) ≤ l2 ∧ (l2 : Int) < 3) ∧ ((0 : Int) ≤ l8 ∧ (l8 : Int) < 4) ∧ ((0 : Int) ≤ l5 ∧ (l5 : Int) < 3) ∧ ∀ zv6 : Int, zv6 = (x_W (l6 + (x_W (zr5 * (zM4 ((121 + 1 + 5 * l2) + 1 + 1 * l8) l5))))) → ∀ zv7 : Int, zv7 = x_w (l8 + 1) → x_Ev l E (10, 0, 0) m_X11_weighed 38 [(21, 103), (0, l1), (0, l2), (1, l3), (5, 0), (0, l5), (1, zv6), (5, 0), (0, zv7)] [] zM4 Q))) : x_Ev l E (10, 0, 0) m_X11_weighed 38 [(21, 103), (0, l1), (0, l2), (1, l3), (5, 0), (0, l5), (1, l6), (5, 0), (0, l8)] [] M Q := by
  refine i_iload 24 rfl rfl ?_
  refine i_aload_n 25 rfl rfl (by decide) ?_
  refine i_getP (c := 11) (k := 4) (t := 114) (b := 107) 26 rfl fl_1053 (by decide) rfl (by decide) rfl ?_
  refine i_iload_n 27 rfl rfl ?_
  refine i_iald (τ := 14) 28 rfl ⟨rfl, rfl, rfl, by decide⟩ h.1.1 h.1.2 ?_
  replace h := h.2
  refine i_icmp_ge 83 29 rfl (by decide) (fun c => ?_) (fun c => ?_)
  · replace h := h.1 c
    refine i_lload 51 rfl rfl ?_
    refine i_aload_n 52 rfl rfl (by decide) ?_
    refine i_getL (c := 11) (k := 10) 53 rfl fl_1059 (by decide) rfl ?_
    refine i_lmul 54 rfl ?_
    refine i_aload_n 55 rfl rfl (by decide) ?_
    refine i_iload_n 56 rfl rfl ?_
    refine i_iload 57 rfl rfl ?_
    refine i_callV (c := 11) (y1 := m_X11_due) (z1 := (2, 0, 0)) (z2 := (10, 0, 0)) [(0, l2), (0, l5)] 58 rfl ml_1465 ok_X11_due vk_X11_due ⟨by decide, rfl⟩ rfl ⟨rfl, Nat.le_of_ble_eq_true rfl⟩ (Nat.le_of_ble_eq_true rfl) ⟨by decide, rfl, rfl, rfl⟩ ?_
    refine h.mono (fun r zM1 h => ?_)
    obtain ⟨zr2, rfl, h⟩ := h
    simp only [Option.toList_some, Option.toList_none, List.cons_append, List.nil_append]
    refine i_lload_n 59 rfl rfl ?_
    refine i_lmul 60 rfl ?_
    refine i_lcmp_ge 109 61 rfl rfl (by decide) (fun c => ?_) (fun c => ?_)
    · replace h := h.1 c
      replace h := h _ rfl
      refine i_iinc 67 rfl rfl (by decide) rfl ?_
      refine i_goto 21 68 rfl (by decide) ?_
      refine i_weak ?_ h
      exact (And.intro (Or.inr rfl) (And.intro (Or.inr rfl) (And.intro (Or.inr rfl) (And.intro (Or.inr rfl) (And.intro (Or.inr rfl) (And.intro (Or.inr rfl) (And.intro (Or.inl rfl) (And.intro (Or.inr rfl) (And.intro (Or.inl rfl) trivial)))))))))
    · replace h := h.2 c
      refine i_bipush 63 rfl (by decide) ?_
      refine i_iload 64 rfl rfl ?_
      refine i_iadd 65 rfl ?_
      exact i_ireturn 66 rfl rfl h
  · replace h := h.2 c
    refine i_lload 30 rfl rfl ?_
    refine i_aload_n 31 rfl rfl (by decide) ?_
    refine i_iload_n 32 rfl rfl ?_
    refine i_iconst 33 rfl (by decide) ?_
    refine i_iload 34 rfl rfl ?_
    refine i_iadd 35 rfl ?_
    refine i_callV (c := 11) (y1 := m_X11_told) (z1 := (1, 0, 0)) (z2 := (10, 0, 0)) [(0, l1), (0, (x_w (1 + l8)))] 36 rfl ml_1552 ok_X11_told vk_X11_told ⟨by decide, rfl⟩ rfl ⟨rfl, Nat.le_of_ble_eq_true rfl⟩ (Nat.le_of_ble_eq_true rfl) ⟨by decide, rfl, rfl, rfl⟩ ?_
    refine h.mono (fun r zM4 h => ?_)
    obtain ⟨zr5, rfl, h⟩ := h
    simp only [Option.toList_some, Option.toList_none, List.cons_append, List.nil_append]
    refine i_aload_n 37 rfl rfl (by decide) ?_
    refine i_getP (c := 11) (k := 6) (t := 123) (b := 121) 38 rfl fl_1055 (by decide) rfl (by decide) rfl ?_
    refine i_iload_n 39 rfl rfl ?_
    refine i_aald (τ := 23) (t := 122) (len := 3) (b := (121 + 1 + 5 * l2)) 40 rfl (by decide) rfl h.1.1 h.1.2 ?_
    replace h := h.2
    refine i_iload 41 rfl rfl ?_
    refine i_aald (τ := 22) (t := 114) (len := 4) (b := ((121 + 1 + 5 * l2) + 1 + 1 * l8)) 42 rfl (by decide) rfl h.1.1 h.1.2 ?_
    replace h := h.2
    refine i_iload 43 rfl rfl ?_
    refine i_iald (τ := 14) 44 rfl ⟨rfl, rfl, rfl, by decide⟩ h.1.1 h.1.2 ?_
    replace h := h.2
    refine i_i2l 45 rfl ?_
    refine i_lmul 46 rfl ?_
    refine i_ladd 47 rfl ?_
    replace h := h _ rfl
    refine i_lstore 48 rfl (by decide) rfl ?_
    replace h := h _ rfl
    refine i_iinc 49 rfl rfl (by decide) rfl ?_
    refine i_goto 38 50 rfl (by decide) ?_
    exact h
theorem u_X11_weighed_121 {l : Launch} {E : xE} (l1 l2 l3 l5 l7 : Int) {M : xM} {Q : Option xV → xM → Prop} (h : ((0 : Int) ≤ l2 ∧ (l2 : Int) < 3) ∧ ((M 107 l2) ≤ l7 → x_Ev l E (9, 0, 0) m_X11_plans 0 [(21, 103), (0, l2), (5, 0), (5, 0), (5, 0)] [] M (fun r zM1 => r = none ∧ x_Ev l E (3, 0, 0) m_X11_bestPlans 0 [(21, 103), (0, l2), (1, (zM1 103 9)), (5, 0), (1, (zM1 103 10)), (5, 0), (5, 0), (5, 0), (5, 0), (5, 0), (5, 0)] [] zM1 (fun r zM2 => ∃ zr3, r = some (0, zr3) ∧ x_Ev l E (1, 0, 0) m_J6_numberOfTrailingZeros_0f7a4 0 [(0, zr3), (5, 0)] [] zM2 (fun r zM4 => ∃ zr5, r = some (0, zr5) ∧ x_Ev l E (2, 0, 0) m_X11_net 0 [(21, 103), (0, l2), (0, zr5), (1, (zM4 103 9)), (5, 0), (1, (zM4 103 10)), (5, 0)] [] zM4 (fun r zM6 => ∃ zr7, r = some (1, zr7) ∧ ((0 : Int) ≤ l2 ∧ (l2 : Int) < 3) ∧ ((0 : Int) ≤ zr5 ∧ (zr5 : Int) < 40) ∧ x_Ev l E (2, 0, 0) m_X11_compare 0 [(1, l5), (5, 0), (1, l3), (5, 0), (1, zr7), (5, 0), (1, (x_W ((zM6 (274 + 1 + 1 * l2) zr5) * (zM6 103 10)))), (5, 0), (5, 0), (5, 0), (5, 0), (5, 0), (5, 0), (5, 0), (5, 0), (5, 0), (5, 0), (5, 0), (5, 0), (5, 0), (5, 0), (5, 0), (5, 0), (5, 0), (5, 0)] [] zM6 (fun r zM8 => ∃ zr9, r = some (0, zr9) ∧ (zr9 ≤ 0 → Q (some (0, 0)) zM8) ∧ (¬ zr9 ≤ 0 → Q (some (0, 2)) zM8))))))) ∧ (¬ (M 107 l2) ≤ l7 → x_Ev l E (1, 0, 0) m_X11_told 0 [(21, 103), (0, l1), (0, (x_w (1 + l7)))] [] M (fun r zM10 => ∃ zr11, r = some (1, zr11) ∧ ((0 : Int) ≤ l2 ∧ (l2 : Int) < 3) ∧ ((0 : Int) ≤ l7 ∧ (l7 : Int) < 4) ∧ ∀ zv12 : Int, zv12 = (x_W (l5 + (x_W (zr11 * (zM10 (137 + 1 + 1 * l2) l7))))) → ∀ zv13 : Int, zv13 = x_w (l7 + 1) → x_Ev l E (10, 0, 0) m_X11_weighed 121 [(21, 103), (0, l1), (0, l2), (1, l3), (5, 0), (1, zv12), (5, 0), (0, zv13), (5, 0)] [] zM10 Q))) : x_Ev l E (10, 0, 0) m_X11_weighed 121 [(21, 103), (0, l1), (0, l2), (1, l3), (5, 0), (1, l5), (5, 0), (0, l7), (5, 0)] [] M Q := by
  refine i_iload 73 rfl rfl ?_
  refine i_aload_n 74 rfl rfl (by decide) ?_
  refine i_getP (c := 11) (k := 4) (t := 114) (b := 107) 75 rfl fl_1053 (by decide) rfl (by decide) rfl ?_
  refine i_iload_n 76 rfl rfl ?_
  refine i_iald (τ := 14) 77 rfl ⟨rfl, rfl, rfl, by decide⟩ h.1.1 h.1.2 ?_
  replace h := h.2
  refine i_icmp_ge 163 78 rfl (by decide) (fun c => ?_) (fun c => ?_)
  · replace h := h.1 c
    refine i_aload_n 98 rfl rfl (by decide) ?_
    refine i_iload_n 99 rfl rfl ?_
    refine i_callV (c := 11) (y1 := m_X11_plans) (z1 := (9, 0, 0)) (z2 := (10, 0, 0)) [(0, l2)] 100 rfl ml_1251 ok_X11_plans vk_X11_plans ⟨by decide, rfl⟩ rfl ⟨rfl, Nat.le_of_ble_eq_true rfl⟩ (Nat.le_of_ble_eq_true rfl) ⟨by decide, rfl, rfl, rfl⟩ ?_
    refine h.mono (fun r zM1 h => ?_)
    obtain ⟨rfl, h⟩ := h
    simp only [Option.toList_some, Option.toList_none, List.cons_append, List.nil_append]
    refine i_aload_n 101 rfl rfl (by decide) ?_
    refine i_iload_n 102 rfl rfl ?_
    refine i_aload_n 103 rfl rfl (by decide) ?_
    refine i_getL (c := 11) (k := 9) 104 rfl fl_1058 (by decide) rfl ?_
    refine i_aload_n 105 rfl rfl (by decide) ?_
    refine i_getL (c := 11) (k := 10) 106 rfl fl_1059 (by decide) rfl ?_
    refine i_callV (c := 11) (y1 := m_X11_bestPlans) (z1 := (3, 0, 0)) (z2 := (10, 0, 0)) [(0, l2), (1, (zM1 103 9)), (1, (zM1 103 10))] 107 rfl ml_1300 ok_X11_bestPlans vk_X11_bestPlans ⟨by decide, rfl⟩ rfl ⟨rfl, Nat.le_of_ble_eq_true rfl⟩ (Nat.le_of_ble_eq_true rfl) ⟨by decide, rfl, rfl, rfl⟩ ?_
    refine h.mono (fun r zM2 h => ?_)
    obtain ⟨zr3, rfl, h⟩ := h
    simp only [Option.toList_some, Option.toList_none, List.cons_append, List.nil_append]
    refine i_callS (y1 := m_J6_numberOfTrailingZeros_0f7a4) (z1 := (1, 0, 0)) (z2 := (10, 0, 0)) [(0, zr3)] 108 rfl ml_1324 ok_J6_numberOfTrailingZeros_0f7a4 vk_J6_numberOfTrailingZeros_0f7a4 rfl ⟨rfl, Nat.le_of_ble_eq_true rfl⟩ (Nat.le_of_ble_eq_true rfl) ⟨by decide, rfl, rfl, rfl⟩ ?_
    refine h.mono (fun r zM4 h => ?_)
    obtain ⟨zr5, rfl, h⟩ := h
    simp only [Option.toList_some, Option.toList_none, List.cons_append, List.nil_append]
    refine i_istore 109 rfl (by decide) rfl ?_
    refine i_lload 110 rfl rfl ?_
    refine i_lload_n 111 rfl rfl ?_
    refine i_aload_n 112 rfl rfl (by decide) ?_
    refine i_iload_n 113 rfl rfl ?_
    refine i_iload 114 rfl rfl ?_
    refine i_aload_n 115 rfl rfl (by decide) ?_
    refine i_getL (c := 11) (k := 9) 116 rfl fl_1058 (by decide) rfl ?_
    refine i_aload_n 117 rfl rfl (by decide) ?_
    refine i_getL (c := 11) (k := 10) 118 rfl fl_1059 (by decide) rfl ?_
    refine i_callV (c := 11) (y1 := m_X11_net) (z1 := (2, 0, 0)) (z2 := (10, 0, 0)) [(0, l2), (0, zr5), (1, (zM4 103 9)), (1, (zM4 103 10))] 119 rfl ml_1304 ok_X11_net vk_X11_net ⟨by decide, rfl⟩ rfl ⟨rfl, Nat.le_of_ble_eq_true rfl⟩ (Nat.le_of_ble_eq_true rfl) ⟨by decide, rfl, rfl, rfl⟩ ?_
    refine h.mono (fun r zM6 h => ?_)
    obtain ⟨zr7, rfl, h⟩ := h
    simp only [Option.toList_some, Option.toList_none, List.cons_append, List.nil_append]
    refine i_aload_n 120 rfl rfl (by decide) ?_
    refine i_getP (c := 11) (k := 23) (t := 130) (b := 274) 121 rfl fl_1072 (by decide) rfl (by decide) rfl ?_
    refine i_iload_n 122 rfl rfl ?_
    refine i_aald (τ := 30) (t := 129) (len := 3) (b := (274 + 1 + 1 * l2)) 123 rfl (by decide) rfl h.1.1 h.1.2 ?_
    replace h := h.2
    refine i_iload 124 rfl rfl ?_
    refine i_lald (τ := 29) 125 rfl ⟨rfl, rfl, rfl, by decide⟩ h.1.1 h.1.2 ?_
    replace h := h.2
    refine i_aload_n 126 rfl rfl (by decide) ?_
    refine i_getL (c := 11) (k := 10) 127 rfl fl_1059 (by decide) rfl ?_
    refine i_lmul 128 rfl ?_
    refine i_callS (y1 := m_X11_compare) (z1 := (2, 0, 0)) (z2 := (10, 0, 0)) [(1, l5), (1, l3), (1, zr7), (1, (x_W ((zM6 (274 + 1 + 1 * l2) zr5) * (zM6 103 10))))] 129 rfl ml_1558 ok_X11_compare vk_X11_compare rfl ⟨rfl, Nat.le_of_ble_eq_true rfl⟩ (Nat.le_of_ble_eq_true rfl) ⟨by decide, rfl, rfl, rfl⟩ ?_
    refine h.mono (fun r zM8 h => ?_)
    obtain ⟨zr9, rfl, h⟩ := h
    simp only [Option.toList_some, Option.toList_none, List.cons_append, List.nil_append]
    refine i_if_le 228 130 rfl (by decide) (fun c => ?_) (fun c => ?_)
    · replace h := h.1 c
      refine i_iconst 133 rfl (by decide) ?_
      exact i_ireturn 134 rfl rfl h
    · replace h := h.2 c
      refine i_iconst 131 rfl (by decide) ?_
      refine i_goto 229 132 rfl (by decide) ?_
      exact i_ireturn 134 rfl rfl h
  · replace h := h.2 c
    refine i_lload 79 rfl rfl ?_
    refine i_aload_n 80 rfl rfl (by decide) ?_
    refine i_iload_n 81 rfl rfl ?_
    refine i_iconst 82 rfl (by decide) ?_
    refine i_iload 83 rfl rfl ?_
    refine i_iadd 84 rfl ?_
    refine i_callV (c := 11) (y1 := m_X11_told) (z1 := (1, 0, 0)) (z2 := (10, 0, 0)) [(0, l1), (0, (x_w (1 + l7)))] 85 rfl ml_1552 ok_X11_told vk_X11_told ⟨by decide, rfl⟩ rfl ⟨rfl, Nat.le_of_ble_eq_true rfl⟩ (Nat.le_of_ble_eq_true rfl) ⟨by decide, rfl, rfl, rfl⟩ ?_
    refine h.mono (fun r zM10 h => ?_)
    obtain ⟨zr11, rfl, h⟩ := h
    simp only [Option.toList_some, Option.toList_none, List.cons_append, List.nil_append]
    refine i_aload_n 86 rfl rfl (by decide) ?_
    refine i_getP (c := 11) (k := 7) (t := 124) (b := 137) 87 rfl fl_1056 (by decide) rfl (by decide) rfl ?_
    refine i_iload_n 88 rfl rfl ?_
    refine i_aald (τ := 24) (t := 103) (len := 3) (b := (137 + 1 + 1 * l2)) 89 rfl (by decide) rfl h.1.1 h.1.2 ?_
    replace h := h.2
    refine i_iload 90 rfl rfl ?_
    refine i_iald (τ := 3) 91 rfl ⟨rfl, rfl, rfl, by decide⟩ h.1.1 h.1.2 ?_
    replace h := h.2
    refine i_i2l 92 rfl ?_
    refine i_lmul 93 rfl ?_
    refine i_ladd 94 rfl ?_
    replace h := h _ rfl
    refine i_lstore 95 rfl (by decide) rfl ?_
    replace h := h _ rfl
    refine i_iinc 96 rfl rfl (by decide) rfl ?_
    refine i_goto 121 97 rfl (by decide) ?_
    exact h
theorem u_X11_findsBreaks_0 {l : Launch} {E : xE} (a1 : Int) {M : xM} {Q : Option xV → xM → Prop} (h : ∀ zM1 : xM, zM1 = x_wr M 103 25 0 → x_Ev l E (6, 0, 0) m_X11_findsBreaks 7 [(21, 103), (0, a1), (0, 0)] [] zM1 Q) : x_Ev l E (6, 0, 0) m_X11_findsBreaks 0 [(21, 103), (0, a1), (5, 0)] [] M Q := by
  refine i_aload_n 0 rfl rfl (by decide) ?_
  refine i_iconst 1 rfl (by decide) ?_
  replace h := h _ rfl
  refine i_putI (c := 11) (k := 25) 2 rfl fl_1074 (by decide) ⟨rfl, rfl, rfl⟩ ?_
  refine i_iconst 3 rfl (by decide) ?_
  refine i_istore_n 4 rfl (by decide) rfl ?_
  exact h
theorem u_X11_findsBreaks_7 {l : Launch} {E : xE} (l1 l2 : Int) {M : xM} {Q : Option xV → xM → Prop} (h : ((M 103 0) ≤ l2 → Q none M) ∧ (¬ (M 103 0) ≤ l2 → (l1 < 0 → x_Ev l E (5, 0, 0) m_X11_breaksOf 0 [(21, 103), (0, l2), (5, 0), (5, 0)] [] M (fun r zM1 => r = none ∧ ∀ zv2 : Int, zv2 = x_w (l2 + 1) → x_Ev l E (6, 0, 0) m_X11_findsBreaks 7 [(21, 103), (0, l1), (0, zv2)] [] zM1 Q)) ∧ (¬ l1 < 0 → (¬ l1 = l2 → ∀ zv3 : Int, zv3 = x_w (l2 + 1) → x_Ev l E (6, 0, 0) m_X11_findsBreaks 7 [(21, 103), (0, l1), (0, zv3)] [] M Q) ∧ (l1 = l2 → x_Ev l E (5, 0, 0) m_X11_breaksOf 0 [(21, 103), (0, l2), (5, 0), (5, 0)] [] M (fun r zM4 => r = none ∧ ∀ zv5 : Int, zv5 = x_w (l2 + 1) → x_Ev l E (6, 0, 0) m_X11_findsBreaks 7 [(21, 103), (0, l1), (0, zv5)] [] zM4 Q))))) : x_Ev l E (6, 0, 0) m_X11_findsBreaks 7 [(21, 103), (0, l1), (0, l2)] [] M Q := by
  refine i_iload_n 5 rfl rfl ?_
  refine i_aload_n 6 rfl rfl (by decide) ?_
  refine i_getI (c := 11) (k := 0) 7 rfl fl_1049 (by decide) (by decide) ?_
  refine i_icmp_ge 35 8 rfl (by decide) (fun c => ?_) (fun c => ?_)
  · replace h := h.1 c
    exact i_return 19 rfl rfl h
  · replace h := h.2 c
    refine i_iload_n 9 rfl rfl ?_
    refine i_if_lt 24 10 rfl (by decide) (fun c => ?_) (fun c => ?_)
    · replace h := h.1 c
      refine i_aload_n 14 rfl rfl (by decide) ?_
      refine i_iload_n 15 rfl rfl ?_
      refine i_callV (c := 11) (y1 := m_X11_breaksOf) (z1 := (5, 0, 0)) (z2 := (6, 0, 0)) [(0, l2)] 16 rfl ml_1570 ok_X11_breaksOf vk_X11_breaksOf ⟨by decide, rfl⟩ rfl ⟨rfl, Nat.le_of_ble_eq_true rfl⟩ (Nat.le_of_ble_eq_true rfl) ⟨by decide, rfl, rfl, rfl⟩ ?_
      refine h.mono (fun r zM1 h => ?_)
      obtain ⟨rfl, h⟩ := h
      simp only [Option.toList_some, Option.toList_none, List.cons_append, List.nil_append]
      replace h := h _ rfl
      refine i_iinc 17 rfl rfl (by decide) rfl ?_
      refine i_goto 7 18 rfl (by decide) ?_
      exact h
    · replace h := h.2 c
      refine i_iload_n 11 rfl rfl ?_
      refine i_iload_n 12 rfl rfl ?_
      refine i_icmp_ne 29 13 rfl (by decide) (fun c => ?_) (fun c => ?_)
      · replace h := h.1 c
        replace h := h _ rfl
        refine i_iinc 17 rfl rfl (by decide) rfl ?_
        refine i_goto 7 18 rfl (by decide) ?_
        exact h
      · replace h := h.2 c
        refine i_aload_n 14 rfl rfl (by decide) ?_
        refine i_iload_n 15 rfl rfl ?_
        refine i_callV (c := 11) (y1 := m_X11_breaksOf) (z1 := (5, 0, 0)) (z2 := (6, 0, 0)) [(0, l2)] 16 rfl ml_1570 ok_X11_breaksOf vk_X11_breaksOf ⟨by decide, rfl⟩ rfl ⟨rfl, Nat.le_of_ble_eq_true rfl⟩ (Nat.le_of_ble_eq_true rfl) ⟨by decide, rfl, rfl, rfl⟩ ?_
        refine h.mono (fun r zM4 h => ?_)
        obtain ⟨rfl, h⟩ := h
        simp only [Option.toList_some, Option.toList_none, List.cons_append, List.nil_append]
        replace h := h _ rfl
        refine i_iinc 17 rfl rfl (by decide) rfl ?_
        refine i_goto 7 18 rfl (by decide) ?_
        exact h
theorem u_X11_pieceOf_0 {l : Launch} {E : xE} (a1 a2 : Int) {M : xM} {Q : Option xV → xM → Prop} (h : (2 ≤ a2 → (4 ≤ a2 → x_Ev l E (1, 0, 0) m_X11_pointAbove 0 [(21, 103), (0, (x_w (a1 + 1)))] [] M (fun r zM1 => ∃ zr2, r = some (1, zr2) ∧ x_Ev l E (1, 0, 0) m_X11_pointBelow 0 [(21, 103), (0, (x_w (a1 + 1)))] [] zM1 (fun r zM3 => ∃ zr4, r = some (1, zr4) ∧ x_Ev l E (5, 0, 0) m_X11_totals 0 [(21, 103), (1, zr2), (5, 0), (1, zr4), (5, 0), (0, 1), (5, 0), (5, 0)] [] zM3 (fun r zM5 => r = none ∧ (¬ (a2.tmod 2) = 0 → Q (some (1, (zM5 103 16))) zM5) ∧ ((a2.tmod 2) = 0 → Q (some (1, (zM5 103 15))) zM5))))) ∧ (¬ 4 ≤ a2 → x_Ev l E (1, 0, 0) m_X11_pointAbove 0 [(21, 103), (0, a1)] [] M (fun r zM6 => ∃ zr7, r = some (1, zr7) ∧ x_Ev l E (1, 0, 0) m_X11_pointBelow 0 [(21, 103), (0, a1)] [] zM6 (fun r zM8 => ∃ zr9, r = some (1, zr9) ∧ x_Ev l E (5, 0, 0) m_X11_totals 0 [(21, 103), (1, zr7), (5, 0), (1, zr9), (5, 0), (0, 2), (5, 0), (5, 0)] [] zM8 (fun r zM10 => r = none ∧ (¬ (a2.tmod 2) = 0 → Q (some (1, (zM10 103 16))) zM10) ∧ ((a2.tmod 2) = 0 → Q (some (1, (zM10 103 15))) zM10)))))) ∧ (¬ 2 ≤ a2 → x_Ev l E (1, 0, 0) m_X11_pointAbove 0 [(21, 103), (0, a1)] [] M (fun r zM11 => ∃ zr12, r = some (1, zr12) ∧ x_Ev l E (1, 0, 0) m_X11_pointBelow 0 [(21, 103), (0, a1)] [] zM11 (fun r zM13 => ∃ zr14, r = some (1, zr14) ∧ x_Ev l E (5, 0, 0) m_X11_slopes 0 [(21, 103), (1, zr12), (5, 0), (1, zr14), (5, 0), (5, 0), (5, 0)] [] zM13 (fun r zM15 => r = none ∧ (¬ (a2.tmod 2) = 0 → Q (some (1, (zM15 103 16))) zM15) ∧ ((a2.tmod 2) = 0 → Q (some (1, (zM15 103 15))) zM15)))))) : x_Ev l E (6, 0, 0) m_X11_pieceOf 0 [(21, 103), (0, a1), (0, a2)] [] M Q := by
  refine i_iload_n 0 rfl rfl ?_
  refine i_iconst 1 rfl (by decide) ?_
  refine i_icmp_ge 22 2 rfl (by decide) (fun c => ?_) (fun c => ?_)
  · replace h := h.1 c
    refine i_iload_n 12 rfl rfl ?_
    refine i_iconst 13 rfl (by decide) ?_
    refine i_icmp_ge 45 14 rfl (by decide) (fun c => ?_) (fun c => ?_)
    · replace h := h.1 c
      refine i_aload_n 25 rfl rfl (by decide) ?_
      refine i_aload_n 26 rfl rfl (by decide) ?_
      refine i_iload_n 27 rfl rfl ?_
      refine i_iconst 28 rfl (by decide) ?_
      refine i_iadd 29 rfl ?_
      refine i_callV (c := 11) (y1 := m_X11_pointAbove) (z1 := (1, 0, 0)) (z2 := (6, 0, 0)) [(0, (x_w (a1 + 1)))] 30 rfl ml_1595 ok_X11_pointAbove vk_X11_pointAbove ⟨by decide, rfl⟩ rfl ⟨rfl, Nat.le_of_ble_eq_true rfl⟩ (Nat.le_of_ble_eq_true rfl) ⟨by decide, rfl, rfl, rfl⟩ ?_
      refine h.mono (fun r zM1 h => ?_)
      obtain ⟨zr2, rfl, h⟩ := h
      simp only [Option.toList_some, Option.toList_none, List.cons_append, List.nil_append]
      refine i_aload_n 31 rfl rfl (by decide) ?_
      refine i_iload_n 32 rfl rfl ?_
      refine i_iconst 33 rfl (by decide) ?_
      refine i_iadd 34 rfl ?_
      refine i_callV (c := 11) (y1 := m_X11_pointBelow) (z1 := (1, 0, 0)) (z2 := (6, 0, 0)) [(0, (x_w (a1 + 1)))] 35 rfl ml_1599 ok_X11_pointBelow vk_X11_pointBelow ⟨by decide, rfl⟩ rfl ⟨rfl, Nat.le_of_ble_eq_true rfl⟩ (Nat.le_of_ble_eq_true rfl) ⟨by decide, rfl, rfl, rfl⟩ ?_
      refine h.mono (fun r zM3 h => ?_)
      obtain ⟨zr4, rfl, h⟩ := h
      simp only [Option.toList_some, Option.toList_none, List.cons_append, List.nil_append]
      refine i_iconst 36 rfl (by decide) ?_
      refine i_callV (c := 11) (y1 := m_X11_totals) (z1 := (5, 0, 0)) (z2 := (6, 0, 0)) [(1, zr2), (1, zr4), (0, 1)] 37 rfl ml_1429 ok_X11_totals vk_X11_totals ⟨by decide, rfl⟩ rfl ⟨rfl, Nat.le_of_ble_eq_true rfl⟩ (Nat.le_of_ble_eq_true rfl) ⟨by decide, rfl, rfl, rfl⟩ ?_
      refine h.mono (fun r zM5 h => ?_)
      obtain ⟨rfl, h⟩ := h
      simp only [Option.toList_some, Option.toList_none, List.cons_append, List.nil_append]
      refine i_iload_n 38 rfl rfl ?_
      refine i_iconst 39 rfl (by decide) ?_
      refine i_irem 40 rfl (by decide) ?_
      refine i_if_ne 77 41 rfl (by decide) (fun c => ?_) (fun c => ?_)
      · replace h := h.1 c
        refine i_aload_n 45 rfl rfl (by decide) ?_
        refine i_getL (c := 11) (k := 16) 46 rfl fl_1065 (by decide) rfl ?_
        exact i_lreturn 47 rfl rfl h
      · replace h := h.2 c
        refine i_aload_n 42 rfl rfl (by decide) ?_
        refine i_getL (c := 11) (k := 15) 43 rfl fl_1064 (by decide) rfl ?_
        refine i_goto 81 44 rfl (by decide) ?_
        exact i_lreturn 47 rfl rfl h
    · replace h := h.2 c
      refine i_aload_n 15 rfl rfl (by decide) ?_
      refine i_aload_n 16 rfl rfl (by decide) ?_
      refine i_iload_n 17 rfl rfl ?_
      refine i_callV (c := 11) (y1 := m_X11_pointAbove) (z1 := (1, 0, 0)) (z2 := (6, 0, 0)) [(0, a1)] 18 rfl ml_1595 ok_X11_pointAbove vk_X11_pointAbove ⟨by decide, rfl⟩ rfl ⟨rfl, Nat.le_of_ble_eq_true rfl⟩ (Nat.le_of_ble_eq_true rfl) ⟨by decide, rfl, rfl, rfl⟩ ?_
      refine h.mono (fun r zM6 h => ?_)
      obtain ⟨zr7, rfl, h⟩ := h
      simp only [Option.toList_some, Option.toList_none, List.cons_append, List.nil_append]
      refine i_aload_n 19 rfl rfl (by decide) ?_
      refine i_iload_n 20 rfl rfl ?_
      refine i_callV (c := 11) (y1 := m_X11_pointBelow) (z1 := (1, 0, 0)) (z2 := (6, 0, 0)) [(0, a1)] 21 rfl ml_1599 ok_X11_pointBelow vk_X11_pointBelow ⟨by decide, rfl⟩ rfl ⟨rfl, Nat.le_of_ble_eq_true rfl⟩ (Nat.le_of_ble_eq_true rfl) ⟨by decide, rfl, rfl, rfl⟩ ?_
      refine h.mono (fun r zM8 h => ?_)
      obtain ⟨zr9, rfl, h⟩ := h
      simp only [Option.toList_some, Option.toList_none, List.cons_append, List.nil_append]
      refine i_iconst 22 rfl (by decide) ?_
      refine i_callV (c := 11) (y1 := m_X11_totals) (z1 := (5, 0, 0)) (z2 := (6, 0, 0)) [(1, zr7), (1, zr9), (0, 2)] 23 rfl ml_1429 ok_X11_totals vk_X11_totals ⟨by decide, rfl⟩ rfl ⟨rfl, Nat.le_of_ble_eq_true rfl⟩ (Nat.le_of_ble_eq_true rfl) ⟨by decide, rfl, rfl, rfl⟩ ?_
      refine h.mono (fun r zM10 h => ?_)
      obtain ⟨rfl, h⟩ := h
      simp only [Option.toList_some, Option.toList_none, List.cons_append, List.nil_append]
      refine i_goto 64 24 rfl (by decide) ?_
      refine i_iload_n 38 rfl rfl ?_
      refine i_iconst 39 rfl (by decide) ?_
      refine i_irem 40 rfl (by decide) ?_
      refine i_if_ne 77 41 rfl (by decide) (fun c => ?_) (fun c => ?_)
      · replace h := h.1 c
        refine i_aload_n 45 rfl rfl (by decide) ?_
        refine i_getL (c := 11) (k := 16) 46 rfl fl_1065 (by decide) rfl ?_
        exact i_lreturn 47 rfl rfl h
      · replace h := h.2 c
        refine i_aload_n 42 rfl rfl (by decide) ?_
        refine i_getL (c := 11) (k := 15) 43 rfl fl_1064 (by decide) rfl ?_
        refine i_goto 81 44 rfl (by decide) ?_
        exact i_lreturn 47 rfl rfl h
  · replace h := h.2 c
    refine i_aload_n 3 rfl rfl (by decide) ?_
    refine i_aload_n 4 rfl rfl (by decide) ?_
    refine i_iload_n 5 rfl rfl ?_
    refine i_callV (c := 11) (y1 := m_X11_pointAbove) (z1 := (1, 0, 0)) (z2 := (6, 0, 0)) [(0, a1)] 6 rfl ml_1595 ok_X11_pointAbove vk_X11_pointAbove ⟨by decide, rfl⟩ rfl ⟨rfl, Nat.le_of_ble_eq_true rfl⟩ (Nat.le_of_ble_eq_true rfl) ⟨by decide, rfl, rfl, rfl⟩ ?_
    refine h.mono (fun r zM11 h => ?_)
    obtain ⟨zr12, rfl, h⟩ := h
    simp only [Option.toList_some, Option.toList_none, List.cons_append, List.nil_append]
    refine i_aload_n 7 rfl rfl (by decide) ?_
    refine i_iload_n 8 rfl rfl ?_
    refine i_callV (c := 11) (y1 := m_X11_pointBelow) (z1 := (1, 0, 0)) (z2 := (6, 0, 0)) [(0, a1)] 9 rfl ml_1599 ok_X11_pointBelow vk_X11_pointBelow ⟨by decide, rfl⟩ rfl ⟨rfl, Nat.le_of_ble_eq_true rfl⟩ (Nat.le_of_ble_eq_true rfl) ⟨by decide, rfl, rfl, rfl⟩ ?_
    refine h.mono (fun r zM13 h => ?_)
    obtain ⟨zr14, rfl, h⟩ := h
    simp only [Option.toList_some, Option.toList_none, List.cons_append, List.nil_append]
    refine i_callV (c := 11) (y1 := m_X11_slopes) (z1 := (5, 0, 0)) (z2 := (6, 0, 0)) [(1, zr12), (1, zr14)] 10 rfl ml_1603 ok_X11_slopes vk_X11_slopes ⟨by decide, rfl⟩ rfl ⟨rfl, Nat.le_of_ble_eq_true rfl⟩ (Nat.le_of_ble_eq_true rfl) ⟨by decide, rfl, rfl, rfl⟩ ?_
    refine h.mono (fun r zM15 h => ?_)
    obtain ⟨rfl, h⟩ := h
    simp only [Option.toList_some, Option.toList_none, List.cons_append, List.nil_append]
    refine i_goto 64 11 rfl (by decide) ?_
    refine i_iload_n 38 rfl rfl ?_
    refine i_iconst 39 rfl (by decide) ?_
    refine i_irem 40 rfl (by decide) ?_
    refine i_if_ne 77 41 rfl (by decide) (fun c => ?_) (fun c => ?_)
    · replace h := h.1 c
      refine i_aload_n 45 rfl rfl (by decide) ?_
      refine i_getL (c := 11) (k := 16) 46 rfl fl_1065 (by decide) rfl ?_
      exact i_lreturn 47 rfl rfl h
    · replace h := h.2 c
      refine i_aload_n 42 rfl rfl (by decide) ?_
      refine i_getL (c := 11) (k := 15) 43 rfl fl_1064 (by decide) rfl ?_
      refine i_goto 81 44 rfl (by decide) ?_
      exact i_lreturn 47 rfl rfl h
