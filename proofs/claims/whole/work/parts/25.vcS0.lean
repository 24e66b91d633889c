/-! Printed by wip/whole/tools/gen_vc.py: what is enough at each cut point -/
theorem u_X11_asKind_0 {l : Launch} {E : xE} (a1 a2 : Int) {M : xM} {Q : Option xV → xM → Prop} (h : x_Ev l E (1, 0, 0) m_X11_in 0 [(1, a1), (5, 0), (1, 0), (5, 0), (1, 6), (5, 0)] [] M (fun r zM1 => ∃ zr2, r = some (0, zr2) ∧ (zr2 = 0 → x_Ev l E (1, 0, 0) m_X11_findsLong 0 [(21, 103), (0, 0)] [] zM1 (fun r zM3 => ∃ zr4, r = some (1, zr4) ∧ Q (some (1, zr4)) zM3)) ∧ (¬ zr2 = 0 → x_Ev l E (1, 0, 0) m_X11_in 0 [(1, a2), (5, 0), (1, 0), (5, 0), (1, 4), (5, 0)] [] zM1 (fun r zM5 => ∃ zr6, r = some (0, zr6) ∧ (¬ zr6 = 0 → x_Ev l E (10, 0, 0) m_X11_plans_ 0 [(21, 103), (5, 0)] [] zM5 (fun r zM7 => r = none ∧ ∀ zM8 : xM, zM8 = x_new zM7 192 → ∀ zM9 : xM, zM9 = x_wr zM8 (zM7 (-1) 0) 0 (zM8 104 0) → ∀ zM10 : xM, zM10 = x_wr zM9 (zM7 (-1) 0) 1 (zM9 104 1) → ∀ zM11 : xM, zM11 = x_wr zM10 (zM7 (-1) 0) 2 (zM10 104 2) → x_Ev l E (11, 1, 5) m_X11_asKind 68 [(21, 103), (0, a1), (0, a2), (192, (zM7 (-1) 0)), (0, 0)] [] zM11 Q)) ∧ (zr6 = 0 → x_Ev l E (1, 0, 0) m_X11_findsLong 0 [(21, 103), (0, 0)] [] zM5 (fun r zM12 => ∃ zr13, r = some (1, zr13) ∧ Q (some (1, zr13)) zM12)))))) : x_Ev l E (11, 2, 8) m_X11_asKind 0 [(21, 103), (0, a1), (0, a2), (5, 0), (5, 0)] [] M Q := by
  refine i_iload_n 0 rfl rfl ?_
  refine i_i2l 1 rfl ?_
  refine i_lconst (w := 0) 2 rfl (by decide) ?_
  refine i_ldc2 (v := 6) 3 rfl cw_1250 (by decide) ?_
  refine i_callS (y1 := m_X11_in) (z1 := (1, 0, 0)) (z2 := (11, 2, 8)) [(1, a1), (1, 0), (1, 6)] 4 rfl ml_1229 ok_X11_in vk_X11_in rfl ⟨rfl, Nat.le_of_ble_eq_true rfl⟩ (Nat.le_of_ble_eq_true rfl) ⟨by decide, rfl, rfl, rfl⟩ ?_
  refine h.mono (fun r zM1 h => ?_)
  obtain ⟨zr2, rfl, h⟩ := h
  simp only [Option.toList_some, Option.toList_none, List.cons_append, List.nil_append]
  refine i_if_eq 24 5 rfl (by decide) (fun c => ?_) (fun c => ?_)
  · replace h := h.1 c
    refine i_aload_n 12 rfl rfl (by decide) ?_
    refine i_iconst 13 rfl (by decide) ?_
    refine i_callV (c := 11) (y1 := m_X11_findsLong) (z1 := (1, 0, 0)) (z2 := (11, 2, 8)) [(0, 0)] 14 rfl ml_1407 ok_X11_findsLong vk_X11_findsLong ⟨by decide, rfl⟩ rfl ⟨rfl, Nat.le_of_ble_eq_true rfl⟩ (Nat.le_of_ble_eq_true rfl) ⟨by decide, rfl, rfl, rfl⟩ ?_
    refine h.mono (fun r zM3 h => ?_)
    obtain ⟨zr4, rfl, h⟩ := h
    simp only [Option.toList_some, Option.toList_none, List.cons_append, List.nil_append]
    exact i_lreturn 15 rfl rfl h
  · replace h := h.2 c
    refine i_iload_n 6 rfl rfl ?_
    refine i_i2l 7 rfl ?_
    refine i_lconst (w := 0) 8 rfl (by decide) ?_
    refine i_ldc2 (v := 4) 9 rfl cw_1611 (by decide) ?_
    refine i_callS (y1 := m_X11_in) (z1 := (1, 0, 0)) (z2 := (11, 2, 8)) [(1, a2), (1, 0), (1, 4)] 10 rfl ml_1229 ok_X11_in vk_X11_in rfl ⟨rfl, Nat.le_of_ble_eq_true rfl⟩ (Nat.le_of_ble_eq_true rfl) ⟨by decide, rfl, rfl, rfl⟩ ?_
    refine h.mono (fun r zM5 h => ?_)
    obtain ⟨zr6, rfl, h⟩ := h
    simp only [Option.toList_some, Option.toList_none, List.cons_append, List.nil_append]
    refine i_if_ne 30 11 rfl (by decide) (fun c => ?_) (fun c => ?_)
    · replace h := h.1 c
      refine i_aload_n 16 rfl rfl (by decide) ?_
      refine i_callV (c := 11) (y1 := m_X11_plans_) (z1 := (10, 0, 0)) (z2 := (11, 2, 8)) [] 17 rfl ml_1425 ok_X11_plans_ vk_X11_plans_ ⟨by decide, rfl⟩ rfl ⟨rfl, Nat.le_of_ble_eq_true rfl⟩ (Nat.le_of_ble_eq_true rfl) ⟨by decide, rfl, rfl, rfl⟩ ?_
      refine h.mono (fun r zM7 h => ?_)
      obtain ⟨rfl, h⟩ := h
      simp only [Option.toList_some, Option.toList_none, List.cons_append, List.nil_append]
      refine i_iconst 18 rfl (by decide) ?_
      replace h := h _ rfl
      refine i_newa (t := 192) (k := 3) (z2 := (11, 1, 5)) 19 rfl (Or.inr ⟨rfl, rfl, rfl⟩) acw_192 ⟨rfl, rfl, rfl⟩ ?_
      refine i_dup 20 rfl (Nat.ne_of_beq_eq_false rfl) ?_
      refine i_iconst 21 rfl (by decide) ?_
      refine i_aload_n 22 rfl rfl (by decide) ?_
      refine i_getP (c := 11) (k := 1) (t := 114) (b := 104) 23 rfl fl_1050 (by decide) rfl (by decide) rfl ?_
      refine i_iconst 24 rfl (by decide) ?_
      refine i_iald (τ := 14) 25 rfl ⟨rfl, rfl, rfl, by decide⟩ (by decide) (by decide) ?_
      replace h := h _ rfl
      refine i_iast (τ := 92) 26 rfl ⟨rfl, rfl, rfl, by decide⟩ (by decide) (by decide) ?_
      refine i_dup 27 rfl (Nat.ne_of_beq_eq_false rfl) ?_
      refine i_iconst 28 rfl (by decide) ?_
      refine i_aload_n 29 rfl rfl (by decide) ?_
      refine i_getP (c := 11) (k := 1) (t := 114) (b := 104) 30 rfl fl_1050 (by decide) rfl (by decide) rfl ?_
      refine i_iconst 31 rfl (by decide) ?_
      refine i_iald (τ := 14) 32 rfl ⟨rfl, rfl, rfl, by decide⟩ (by decide) (by decide) ?_
      replace h := h _ rfl
      refine i_iast (τ := 92) 33 rfl ⟨rfl, rfl, rfl, by decide⟩ (by decide) (by decide) ?_
      refine i_dup 34 rfl (Nat.ne_of_beq_eq_false rfl) ?_
      refine i_iconst 35 rfl (by decide) ?_
      refine i_aload_n 36 rfl rfl (by decide) ?_
      refine i_getP (c := 11) (k := 1) (t := 114) (b := 104) 37 rfl fl_1050 (by decide) rfl (by decide) rfl ?_
      refine i_iconst 38 rfl (by decide) ?_
      refine i_iald (τ := 14) 39 rfl ⟨rfl, rfl, rfl, by decide⟩ (by decide) (by decide) ?_
      replace h := h _ rfl
      refine i_iast (τ := 92) 40 rfl ⟨rfl, rfl, rfl, by decide⟩ (by decide) (by decide) ?_
      refine i_astore_n 41 rfl (by decide) (by decide) rfl ?_
      refine i_iconst 42 rfl (by decide) ?_
      refine i_istore 43 rfl (by decide) rfl ?_
      exact h
    · replace h := h.2 c
      refine i_aload_n 12 rfl rfl (by decide) ?_
      refine i_iconst 13 rfl (by decide) ?_
      refine i_callV (c := 11) (y1 := m_X11_findsLong) (z1 := (1, 0, 0)) (z2 := (11, 2, 8)) [(0, 0)] 14 rfl ml_1407 ok_X11_findsLong vk_X11_findsLong ⟨by decide, rfl⟩ rfl ⟨rfl, Nat.le_of_ble_eq_true rfl⟩ (Nat.le_of_ble_eq_true rfl) ⟨by decide, rfl, rfl, rfl⟩ ?_
      refine h.mono (fun r zM12 h => ?_)
      obtain ⟨zr13, rfl, h⟩ := h
      simp only [Option.toList_some, Option.toList_none, List.cons_append, List.nil_append]
      exact i_lreturn 15 rfl rfl h
theorem u_X11_asKind_68 {l : Launch} {E : xE} (l1 l2 l3 l4 : Int) {M : xM} {Q : Option xV → xM → Prop} (h : (3 ≤ l4 → x_Ev l E (7, 0, 0) m_X11_findsBest 0 [(21, 103), (5, 0), (5, 0), (5, 0)] [] M (fun r zM1 => r = none ∧ x_Ev l E (11, 2, 8) m_X11_asKind 95 [(21, 103), (0, l1), (0, l2), (192, l3), (0, 0)] [] zM1 Q)) ∧ (¬ 3 ≤ l4 → (0 ≤ l4 ∧ l4 < 3) ∧ ∀ zM2 : xM, zM2 = x_wr M 104 l4 l1 → ∀ zv3 : Int, zv3 = x_w (l4 + 1) → x_Ev l E (11, 2, 8) m_X11_asKind 68 [(21, 103), (0, l1), (0, l2), (192, l3), (0, zv3)] [] zM2 Q)) : x_Ev l E (11, 2, 8) m_X11_asKind 68 [(21, 103), (0, l1), (0, l2), (192, l3), (0, l4)] [] M Q := by
  refine i_iload 44 rfl rfl ?_
  refine i_iconst 45 rfl (by decide) ?_
  refine i_icmp_ge 88 46 rfl (by decide) (fun c => ?_) (fun c => ?_)
  · replace h := h.1 c
    refine i_aload_n 54 rfl rfl (by decide) ?_
    refine i_callV (c := 11) (y1 := m_X11_findsBest) (z1 := (7, 0, 0)) (z2 := (11, 2, 8)) [] 55 rfl ml_1612 ok_X11_findsBest vk_X11_findsBest ⟨by decide, rfl⟩ rfl ⟨rfl, Nat.le_of_ble_eq_true rfl⟩ (Nat.le_of_ble_eq_true rfl) ⟨by decide, rfl, rfl, rfl⟩ ?_
    refine h.mono (fun r zM1 h => ?_)
    obtain ⟨rfl, h⟩ := h
    simp only [Option.toList_some, Option.toList_none, List.cons_append, List.nil_append]
    refine i_iconst 56 rfl (by decide) ?_
    refine i_istore 57 rfl (by decide) rfl ?_
    exact h
  · replace h := h.2 c
    refine i_aload_n 47 rfl rfl (by decide) ?_
    refine i_getP (c := 11) (k := 1) (t := 114) (b := 104) 48 rfl fl_1050 (by decide) rfl (by decide) rfl ?_
    refine i_iload 49 rfl rfl ?_
    refine i_iload_n 50 rfl rfl ?_
    have hb := h.1
    replace h := h.2 _ rfl
    refine i_iast (τ := 14) 51 rfl ⟨rfl, rfl, rfl, by decide⟩ hb.1 hb.2 ?_
    replace h := h _ rfl
    refine i_iinc 52 rfl rfl (by decide) rfl ?_
    refine i_goto 68 53 rfl (by decide) ?_
    exact h
theorem u_X11_asKind_95 {l : Launch} {E : xE} (l1 l2 l3 l4 : Int) {M : xM} {Q : Option xV → xM → Prop} (h : (3 ≤ l4 → x_Ev l E (1, 1, 5) m_X11_toldBest 0 [(21, 103), (0, l2), (5, 0)] [] M (fun r zM1 => ∃ zr2, r = some (1, zr2) ∧ Q (some (1, zr2)) zM1)) ∧ (¬ 3 ≤ l4 → ((0 : Int) ≤ l4 ∧ (l4 : Int) < 3) ∧ (0 ≤ l4 ∧ l4 < 3) ∧ ∀ zM3 : xM, zM3 = x_wr M 104 l4 (M l3 l4) → ∀ zv4 : Int, zv4 = x_w (l4 + 1) → x_Ev l E (11, 2, 8) m_X11_asKind 95 [(21, 103), (0, l1), (0, l2), (192, l3), (0, zv4)] [] zM3 Q)) : x_Ev l E (11, 2, 8) m_X11_asKind 95 [(21, 103), (0, l1), (0, l2), (192, l3), (0, l4)] [] M Q := by
  refine i_iload 58 rfl rfl ?_
  refine i_iconst 59 rfl (by decide) ?_
  refine i_icmp_ge 118 60 rfl (by decide) (fun c => ?_) (fun c => ?_)
  · replace h := h.1 c
    refine i_aload_n 70 rfl rfl (by decide) ?_
    refine i_iload_n 71 rfl rfl ?_
    refine i_callV (c := 11) (y1 := m_X11_toldBest) (z1 := (1, 1, 5)) (z2 := (11, 1, 3)) [(0, l2)] 72 rfl ml_1616 ok_X11_toldBest vk_X11_toldBest ⟨by decide, rfl⟩ rfl ⟨rfl, Nat.le_of_ble_eq_true rfl⟩ (Nat.le_of_ble_eq_true rfl) ⟨by decide, rfl, rfl, rfl⟩ ?_
    refine h.mono (fun r zM1 h => ?_)
    obtain ⟨zr2, rfl, h⟩ := h
    simp only [Option.toList_some, Option.toList_none, List.cons_append, List.nil_append]
    exact i_lreturn 73 rfl rfl h
  · replace h := h.2 c
    refine i_aload_n 61 rfl rfl (by decide) ?_
    refine i_getP (c := 11) (k := 1) (t := 114) (b := 104) 62 rfl fl_1050 (by decide) rfl (by decide) rfl ?_
    refine i_iload 63 rfl rfl ?_
    refine i_aload_n 64 rfl rfl (by decide) ?_
    refine i_iload 65 rfl rfl ?_
    refine i_iald (τ := 92) 66 rfl ⟨rfl, rfl, rfl, by decide⟩ h.1.1 h.1.2 ?_
    replace h := h.2
    have hb := h.1
    replace h := h.2 _ rfl
    refine i_iast (τ := 14) 67 rfl ⟨rfl, rfl, rfl, by decide⟩ hb.1 hb.2 ?_
    replace h := h _ rfl
    refine i_iinc 68 rfl rfl (by decide) rfl ?_
    refine i_goto 95 69 rfl (by decide) ?_
    exact h
theorem u_X11_toldBest_0 {l : Launch} {E : xE} (a1 : Int) {M : xM} {Q : Option xV → xM → Prop} (h : ∀ zM1 : xM, zM1 = x_new M 191 → ∀ zM2 : xM, zM2 = x_wr zM1 (M (-1) 0) 0 (zM1 103 28) → ∀ zM3 : xM, zM3 = x_wr zM2 (M (-1) 0) 1 (zM2 103 29) → ∀ zM4 : xM, zM4 = x_wr zM3 (M (-1) 0) 2 (zM3 103 30) → ∀ zM5 : xM, zM5 = x_wr zM4 (M (-1) 0) 3 (zM4 103 31) → ∀ zM6 : xM, zM6 = x_wr zM5 (M (-1) 0) 4 (zM5 103 32) → ((0 : Int) ≤ a1 ∧ (a1 : Int) < 5) ∧ Q (some (1, (zM6 (M (-1) 0) a1))) zM6) : x_Ev l E (1, 1, 5) m_X11_toldBest 0 [(21, 103), (0, a1), (5, 0)] [] M Q := by
  refine i_iconst 0 rfl (by decide) ?_
  replace h := h _ rfl
  refine i_newa (t := 191) (k := 5) (z2 := (1, 0, 0)) 1 rfl (Or.inl ⟨rfl, rfl, rfl⟩) acw_191 ⟨rfl, rfl, rfl⟩ ?_
  refine i_dup 2 rfl (Nat.ne_of_beq_eq_false rfl) ?_
  refine i_iconst 3 rfl (by decide) ?_
  refine i_aload_n 4 rfl rfl (by decide) ?_
  refine i_getL (c := 11) (k := 28) 5 rfl fl_1077 (by decide) rfl ?_
  replace h := h _ rfl
  refine i_last (τ := 91) 6 rfl ⟨rfl, rfl, rfl, by decide⟩ (by decide) (by decide) ?_
  refine i_dup 7 rfl (Nat.ne_of_beq_eq_false rfl) ?_
  refine i_iconst 8 rfl (by decide) ?_
  refine i_aload_n 9 rfl rfl (by decide) ?_
  refine i_getL (c := 11) (k := 29) 10 rfl fl_1078 (by decide) rfl ?_
  replace h := h _ rfl
  refine i_last (τ := 91) 11 rfl ⟨rfl, rfl, rfl, by decide⟩ (by decide) (by decide) ?_
  refine i_dup 12 rfl (Nat.ne_of_beq_eq_false rfl) ?_
  refine i_iconst 13 rfl (by decide) ?_
  refine i_aload_n 14 rfl rfl (by decide) ?_
  refine i_getL (c := 11) (k := 30) 15 rfl fl_1079 (by decide) rfl ?_
  replace h := h _ rfl
  refine i_last (τ := 91) 16 rfl ⟨rfl, rfl, rfl, by decide⟩ (by decide) (by decide) ?_
  refine i_dup 17 rfl (Nat.ne_of_beq_eq_false rfl) ?_
  refine i_iconst 18 rfl (by decide) ?_
  refine i_aload_n 19 rfl rfl (by decide) ?_
  refine i_getL (c := 11) (k := 31) 20 rfl fl_1080 (by decide) rfl ?_
  replace h := h _ rfl
  refine i_last (τ := 91) 21 rfl ⟨rfl, rfl, rfl, by decide⟩ (by decide) (by decide) ?_
  refine i_dup 22 rfl (Nat.ne_of_beq_eq_false rfl) ?_
  refine i_iconst 23 rfl (by decide) ?_
  refine i_aload_n 24 rfl rfl (by decide) ?_
  refine i_getI (c := 11) (k := 32) 25 rfl fl_1081 (by decide) (by decide) ?_
  refine i_i2l 26 rfl ?_
  replace h := h _ rfl
  refine i_last (τ := 91) 27 rfl ⟨rfl, rfl, rfl, by decide⟩ (by decide) (by decide) ?_
  refine i_astore_n 28 rfl (by decide) (by decide) rfl ?_
  refine i_aload_n 29 rfl rfl (by decide) ?_
  refine i_iload_n 30 rfl rfl ?_
  refine i_lald (τ := 91) 31 rfl ⟨rfl, rfl, rfl, by decide⟩ h.1.1 h.1.2 ?_
  replace h := h.2
  exact i_lreturn 32 rfl rfl h
