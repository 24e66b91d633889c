/-! Printed by wip/whole/tools/gen_vc.py: what is enough at each cut point -/
theorem u_X10_follower_0 {l : Launch} {E : xE} (a1 a2 : Int) {M : xM} {Q : Option xV → xM → Prop} (h : x_Ev l E (1, 0, 0) m_X10_isNoKind 0 [(20, 5), (0, a1)] [] M (fun r zM1 => ∃ zr2, r = some (0, zr2) ∧ (¬ zr2 = 0 → x_Ev l E (1, 0, 0) m_X10_tell 0 [(20, 5), (0, 0)] [] zM1 (fun r zM3 => ∃ zr4, r = some (0, zr4) ∧ Q (some (0, zr4)) zM3)) ∧ (zr2 = 0 → (a2 < 1 → x_Ev l E (1, 0, 0) m_X10_tell 0 [(20, 5), (0, 0)] [] zM1 (fun r zM5 => ∃ zr6, r = some (0, zr6) ∧ Q (some (0, zr6)) zM5)) ∧ (¬ a2 < 1 → (a2 ≤ 3 → ((zM1 6 0) < 3 → ∀ zv7 : Int, zv7 = (zM1 6 0) → ((0 : Int) ≤ zv7 ∧ (zv7 : Int) < 3) ∧ x_Ev l E (2, 0, 0) m_X1_begin 0 [(11, (8 + 1 + 4 * zv7)), (0, a1), (0, a2), (5, 0)] [] zM1 (fun r zM8 => r = none ∧ ((0 : Int) ≤ zv7 ∧ (zv7 : Int) < 3) ∧ x_Ev l E (4, 0, 0) m_X4_findAll 0 [(14, (41 + 8 + 9 * zv7)), (5, 0), (5, 0), (5, 0)] [] zM8 (fun r zM9 => r = none ∧ ∀ zM10 : xM, zM10 = x_wr zM9 6 0 (x_w ((zM9 6 0) + 1)) → Q (some (0, zv7)) zM10))) ∧ (¬ (zM1 6 0) < 3 → x_Ev l E (1, 0, 0) m_X10_tell 0 [(20, 5), (0, 1)] [] zM1 (fun r zM11 => ∃ zr12, r = some (0, zr12) ∧ Q (some (0, zr12)) zM11))) ∧ (¬ a2 ≤ 3 → x_Ev l E (1, 0, 0) m_X10_tell 0 [(20, 5), (0, 0)] [] zM1 (fun r zM13 => ∃ zr14, r = some (0, zr14) ∧ Q (some (0, zr14)) zM13)))))) : x_Ev l E (5, 0, 0) m_X10_follower 0 [(20, 5), (0, a1), (0, a2), (5, 0)] [] M Q := by
  refine i_aload_n 0 rfl rfl (by decide) ?_
  refine i_iload_n 1 rfl rfl ?_
  refine i_callV (c := 10) (y1 := m_X10_isNoKind) (z1 := (1, 0, 0)) (z2 := (5, 0, 0)) [(0, a1)] 2 rfl ml_396 ok_X10_isNoKind vk_X10_isNoKind ⟨by decide, rfl⟩ rfl ⟨rfl, Nat.le_of_ble_eq_true rfl⟩ (Nat.le_of_ble_eq_true rfl) ⟨by decide, rfl, rfl, rfl⟩ ?_
  refine h.mono (fun r zM1 h => ?_)
  obtain ⟨zr2, rfl, h⟩ := h
  simp only [Option.toList_some, Option.toList_none, List.cons_append, List.nil_append]
  refine i_if_ne 18 3 rfl (by decide) (fun c => ?_) (fun c => ?_)
  · replace h := h.1 c
    refine i_aload_n 10 rfl rfl (by decide) ?_
    refine i_iconst 11 rfl (by decide) ?_
    refine i_callV (c := 10) (y1 := m_X10_tell) (z1 := (1, 0, 0)) (z2 := (5, 0, 0)) [(0, 0)] 12 rfl ml_400 ok_X10_tell vk_X10_tell ⟨by decide, rfl⟩ rfl ⟨rfl, Nat.le_of_ble_eq_true rfl⟩ (Nat.le_of_ble_eq_true rfl) ⟨by decide, rfl, rfl, rfl⟩ ?_
    refine h.mono (fun r zM3 h => ?_)
    obtain ⟨zr4, rfl, h⟩ := h
    simp only [Option.toList_some, Option.toList_none, List.cons_append, List.nil_append]
    exact i_ireturn 13 rfl rfl h
  · replace h := h.2 c
    refine i_iload_n 4 rfl rfl ?_
    refine i_iconst 5 rfl (by decide) ?_
    refine i_icmp_lt 18 6 rfl (by decide) (fun c => ?_) (fun c => ?_)
    · replace h := h.1 c
      refine i_aload_n 10 rfl rfl (by decide) ?_
      refine i_iconst 11 rfl (by decide) ?_
      refine i_callV (c := 10) (y1 := m_X10_tell) (z1 := (1, 0, 0)) (z2 := (5, 0, 0)) [(0, 0)] 12 rfl ml_400 ok_X10_tell vk_X10_tell ⟨by decide, rfl⟩ rfl ⟨rfl, Nat.le_of_ble_eq_true rfl⟩ (Nat.le_of_ble_eq_true rfl) ⟨by decide, rfl, rfl, rfl⟩ ?_
      refine h.mono (fun r zM5 h => ?_)
      obtain ⟨zr6, rfl, h⟩ := h
      simp only [Option.toList_some, Option.toList_none, List.cons_append, List.nil_append]
      exact i_ireturn 13 rfl rfl h
    · replace h := h.2 c
      refine i_iload_n 7 rfl rfl ?_
      refine i_iconst 8 rfl (by decide) ?_
      refine i_icmp_le 24 9 rfl (by decide) (fun c => ?_) (fun c => ?_)
      · replace h := h.1 c
        refine i_aload_n 14 rfl rfl (by decide) ?_
        refine i_getP (c := 10) (k := 0) (t := 19) (b := 6) 15 rfl fl_346 (by decide) rfl (by decide) rfl ?_
        refine i_getI (c := 9) (k := 0) 16 rfl fl_104 (by decide) (by decide) ?_
        refine i_iconst 17 rfl (by decide) ?_
        refine i_icmp_lt 41 18 rfl (by decide) (fun c => ?_) (fun c => ?_)
        · replace h := h.1 c
          refine i_aload_n 23 rfl rfl (by decide) ?_
          refine i_getP (c := 10) (k := 0) (t := 19) (b := 6) 24 rfl fl_346 (by decide) rfl (by decide) rfl ?_
          refine i_getI (c := 9) (k := 0) 25 rfl fl_104 (by decide) (by decide) ?_
          replace h := h _ rfl
          refine i_istore_n 26 rfl (by decide) rfl ?_
          refine i_aload_n 27 rfl rfl (by decide) ?_
          refine i_getP (c := 10) (k := 0) (t := 19) (b := 6) 28 rfl fl_346 (by decide) rfl (by decide) rfl ?_
          refine i_getP (c := 9) (k := 6) (t := 100) (b := 8) 29 rfl fl_121 (by decide) rfl (by decide) rfl ?_
          refine i_iload_n 30 rfl rfl ?_
          refine i_aald (τ := 0) (t := 11) (len := 3) (b := (8 + 1 + 4 * ((zM1 6 0)))) 31 rfl (by decide) rfl h.1.1 h.1.2 ?_
          replace h := h.2
          refine i_iload_n 32 rfl rfl ?_
          refine i_iload_n 33 rfl rfl ?_
          refine i_callV (c := 1) (y1 := m_X1_begin) (z1 := (2, 0, 0)) (z2 := (5, 0, 0)) [(0, a1), (0, a2)] 34 rfl ml_405 ok_X1_begin vk_X1_begin ⟨by decide, rfl⟩ rfl ⟨rfl, Nat.le_of_ble_eq_true rfl⟩ (Nat.le_of_ble_eq_true rfl) ⟨by decide, rfl, rfl, rfl⟩ ?_
          refine h.mono (fun r zM8 h => ?_)
          obtain ⟨rfl, h⟩ := h
          simp only [Option.toList_some, Option.toList_none, List.cons_append, List.nil_append]
          refine i_aload_n 35 rfl rfl (by decide) ?_
          refine i_getP (c := 10) (k := 3) (t := 13) (b := 40) 36 rfl fl_349 (by decide) rfl (by decide) rfl ?_
          refine i_getP (c := 3) (k := 1) (t := 106) (b := 41) 37 rfl fl_255 (by decide) rfl (by decide) rfl ?_
          refine i_iload_n 38 rfl rfl ?_
          refine i_aald (τ := 6) (t := 14) (len := 3) (b := (41 + 8 + 9 * ((zM1 6 0)))) 39 rfl (by decide) rfl h.1.1 h.1.2 ?_
          replace h := h.2
          refine i_callV (c := 4) (y1 := m_X4_findAll) (z1 := (4, 0, 0)) (z2 := (5, 0, 0)) [] 40 rfl ml_419 ok_X4_findAll vk_X4_findAll ⟨by decide, rfl⟩ rfl ⟨rfl, Nat.le_of_ble_eq_true rfl⟩ (Nat.le_of_ble_eq_true rfl) ⟨by decide, rfl, rfl, rfl⟩ ?_
          refine h.mono (fun r zM9 h => ?_)
          obtain ⟨rfl, h⟩ := h
          simp only [Option.toList_some, Option.toList_none, List.cons_append, List.nil_append]
          refine i_aload_n 41 rfl rfl (by decide) ?_
          refine i_getP (c := 10) (k := 0) (t := 19) (b := 6) 42 rfl fl_346 (by decide) rfl (by decide) rfl ?_
          refine i_dup 43 rfl (Nat.ne_of_beq_eq_false rfl) ?_
          refine i_getI (c := 9) (k := 0) 44 rfl fl_104 (by decide) (by decide) ?_
          refine i_iconst 45 rfl (by decide) ?_
          refine i_iadd 46 rfl ?_
          replace h := h _ rfl
          refine i_putI (c := 9) (k := 0) 47 rfl fl_104 (by decide) ⟨rfl, rfl, rfl⟩ ?_
          refine i_iload_n 48 rfl rfl ?_
          exact i_ireturn 49 rfl rfl h
        · replace h := h.2 c
          refine i_aload_n 19 rfl rfl (by decide) ?_
          refine i_iconst 20 rfl (by decide) ?_
          refine i_callV (c := 10) (y1 := m_X10_tell) (z1 := (1, 0, 0)) (z2 := (5, 0, 0)) [(0, 1)] 21 rfl ml_400 ok_X10_tell vk_X10_tell ⟨by decide, rfl⟩ rfl ⟨rfl, Nat.le_of_ble_eq_true rfl⟩ (Nat.le_of_ble_eq_true rfl) ⟨by decide, rfl, rfl, rfl⟩ ?_
          refine h.mono (fun r zM11 h => ?_)
          obtain ⟨zr12, rfl, h⟩ := h
          simp only [Option.toList_some, Option.toList_none, List.cons_append, List.nil_append]
          exact i_ireturn 22 rfl rfl h
      · replace h := h.2 c
        refine i_aload_n 10 rfl rfl (by decide) ?_
        refine i_iconst 11 rfl (by decide) ?_
        refine i_callV (c := 10) (y1 := m_X10_tell) (z1 := (1, 0, 0)) (z2 := (5, 0, 0)) [(0, 0)] 12 rfl ml_400 ok_X10_tell vk_X10_tell ⟨by decide, rfl⟩ rfl ⟨rfl, Nat.le_of_ble_eq_true rfl⟩ (Nat.le_of_ble_eq_true rfl) ⟨by decide, rfl, rfl, rfl⟩ ?_
        refine h.mono (fun r zM13 h => ?_)
        obtain ⟨zr14, rfl, h⟩ := h
        simp only [Option.toList_some, Option.toList_none, List.cons_append, List.nil_append]
        exact i_ireturn 13 rfl rfl h
theorem u_X10_become_0 {l : Launch} {E : xE} (a1 a2 : Int) {M : xM} {Q : Option xV → xM → Prop} (h : x_Ev l E (1, 0, 0) m_X10_isNoFollower 0 [(20, 5), (0, a1)] [] M (fun r zM1 => ∃ zr2, r = some (0, zr2) ∧ (¬ zr2 = 0 → x_Ev l E (1, 0, 0) m_X10_tell 0 [(20, 5), (0, 0)] [] zM1 (fun r zM3 => ∃ zr4, r = some (0, zr4) ∧ Q (some (0, zr4)) zM3)) ∧ (zr2 = 0 → x_Ev l E (1, 0, 0) m_X10_isNoKind 0 [(20, 5), (0, a2)] [] zM1 (fun r zM5 => ∃ zr6, r = some (0, zr6) ∧ (zr6 = 0 → ((0 : Int) ≤ a1 ∧ (a1 : Int) < 3) ∧ ∀ zv7 : Int, zv7 = (zM5 (8 + 1 + 4 * a1) 0) → ((0 : Int) ≤ a1 ∧ (a1 : Int) < 3) ∧ x_Ev l E (1, 0, 0) m_X1_setKind 0 [(11, (8 + 1 + 4 * a1)), (0, a2)] [] zM5 (fun r zM8 => r = none ∧ Q (some (0, zv7)) zM8)) ∧ (¬ zr6 = 0 → x_Ev l E (1, 0, 0) m_X10_tell 0 [(20, 5), (0, 0)] [] zM5 (fun r zM9 => ∃ zr10, r = some (0, zr10) ∧ Q (some (0, zr10)) zM9)))))) : x_Ev l E (2, 0, 0) m_X10_become 0 [(20, 5), (0, a1), (0, a2), (5, 0)] [] M Q := by
  refine i_aload_n 0 rfl rfl (by decide) ?_
  refine i_iload_n 1 rfl rfl ?_
  refine i_callV (c := 10) (y1 := m_X10_isNoFollower) (z1 := (1, 0, 0)) (z2 := (2, 0, 0)) [(0, a1)] 2 rfl ml_488 ok_X10_isNoFollower vk_X10_isNoFollower ⟨by decide, rfl⟩ rfl ⟨rfl, Nat.le_of_ble_eq_true rfl⟩ (Nat.le_of_ble_eq_true rfl) ⟨by decide, rfl, rfl, rfl⟩ ?_
  refine h.mono (fun r zM1 h => ?_)
  obtain ⟨zr2, rfl, h⟩ := h
  simp only [Option.toList_some, Option.toList_none, List.cons_append, List.nil_append]
  refine i_if_ne 16 3 rfl (by decide) (fun c => ?_) (fun c => ?_)
  · replace h := h.1 c
    refine i_aload_n 8 rfl rfl (by decide) ?_
    refine i_iconst 9 rfl (by decide) ?_
    refine i_callV (c := 10) (y1 := m_X10_tell) (z1 := (1, 0, 0)) (z2 := (2, 0, 0)) [(0, 0)] 10 rfl ml_400 ok_X10_tell vk_X10_tell ⟨by decide, rfl⟩ rfl ⟨rfl, Nat.le_of_ble_eq_true rfl⟩ (Nat.le_of_ble_eq_true rfl) ⟨by decide, rfl, rfl, rfl⟩ ?_
    refine h.mono (fun r zM3 h => ?_)
    obtain ⟨zr4, rfl, h⟩ := h
    simp only [Option.toList_some, Option.toList_none, List.cons_append, List.nil_append]
    exact i_ireturn 11 rfl rfl h
  · replace h := h.2 c
    refine i_aload_n 4 rfl rfl (by decide) ?_
    refine i_iload_n 5 rfl rfl ?_
    refine i_callV (c := 10) (y1 := m_X10_isNoKind) (z1 := (1, 0, 0)) (z2 := (2, 0, 0)) [(0, a2)] 6 rfl ml_396 ok_X10_isNoKind vk_X10_isNoKind ⟨by decide, rfl⟩ rfl ⟨rfl, Nat.le_of_ble_eq_true rfl⟩ (Nat.le_of_ble_eq_true rfl) ⟨by decide, rfl, rfl, rfl⟩ ?_
    refine h.mono (fun r zM5 h => ?_)
    obtain ⟨zr6, rfl, h⟩ := h
    simp only [Option.toList_some, Option.toList_none, List.cons_append, List.nil_append]
    refine i_if_eq 22 7 rfl (by decide) (fun c => ?_) (fun c => ?_)
    · replace h := h.1 c
      refine i_aload_n 12 rfl rfl (by decide) ?_
      refine i_getP (c := 10) (k := 0) (t := 19) (b := 6) 13 rfl fl_346 (by decide) rfl (by decide) rfl ?_
      refine i_getP (c := 9) (k := 6) (t := 100) (b := 8) 14 rfl fl_121 (by decide) rfl (by decide) rfl ?_
      refine i_iload_n 15 rfl rfl ?_
      refine i_aald (τ := 0) (t := 11) (len := 3) (b := (8 + 1 + 4 * a1)) 16 rfl (by decide) rfl h.1.1 h.1.2 ?_
      replace h := h.2
      refine i_getI (c := 1) (k := 0) 17 rfl fl_61 (by decide) (by decide) ?_
      replace h := h _ rfl
      refine i_istore_n 18 rfl (by decide) rfl ?_
      refine i_aload_n 19 rfl rfl (by decide) ?_
      refine i_getP (c := 10) (k := 0) (t := 19) (b := 6) 20 rfl fl_346 (by decide) rfl (by decide) rfl ?_
      refine i_getP (c := 9) (k := 6) (t := 100) (b := 8) 21 rfl fl_121 (by decide) rfl (by decide) rfl ?_
      refine i_iload_n 22 rfl rfl ?_
      refine i_aald (τ := 0) (t := 11) (len := 3) (b := (8 + 1 + 4 * a1)) 23 rfl (by decide) rfl h.1.1 h.1.2 ?_
      replace h := h.2
      refine i_iload_n 24 rfl rfl ?_
      refine i_callV (c := 1) (y1 := m_X1_setKind) (z1 := (1, 0, 0)) (z2 := (2, 0, 0)) [(0, a2)] 25 rfl ml_492 ok_X1_setKind vk_X1_setKind ⟨by decide, rfl⟩ rfl ⟨rfl, Nat.le_of_ble_eq_true rfl⟩ (Nat.le_of_ble_eq_true rfl) ⟨by decide, rfl, rfl, rfl⟩ ?_
      refine h.mono (fun r zM8 h => ?_)
      obtain ⟨rfl, h⟩ := h
      simp only [Option.toList_some, Option.toList_none, List.cons_append, List.nil_append]
      refine i_iload_n 26 rfl rfl ?_
      exact i_ireturn 27 rfl rfl h
    · replace h := h.2 c
      refine i_aload_n 8 rfl rfl (by decide) ?_
      refine i_iconst 9 rfl (by decide) ?_
      refine i_callV (c := 10) (y1 := m_X10_tell) (z1 := (1, 0, 0)) (z2 := (2, 0, 0)) [(0, 0)] 10 rfl ml_400 ok_X10_tell vk_X10_tell ⟨by decide, rfl⟩ rfl ⟨rfl, Nat.le_of_ble_eq_true rfl⟩ (Nat.le_of_ble_eq_true rfl) ⟨by decide, rfl, rfl, rfl⟩ ?_
      refine h.mono (fun r zM9 h => ?_)
      obtain ⟨zr10, rfl, h⟩ := h
      simp only [Option.toList_some, Option.toList_none, List.cons_append, List.nil_append]
      exact i_ireturn 11 rfl rfl h
theorem u_X10_of_0 {l : Launch} {E : xE} (a1 a2 : Int) {M : xM} {Q : Option xV → xM → Prop} (h : x_Ev l E (1, 0, 0) m_X10_isNoFollower 0 [(20, 5), (0, a1)] [] M (fun r zM1 => ∃ zr2, r = some (0, zr2) ∧ (¬ zr2 = 0 → x_Ev l E (1, 0, 0) m_X10_tell 0 [(20, 5), (0, 0)] [] zM1 (fun r zM3 => ∃ zr4, r = some (0, zr4) ∧ Q (some (0, zr4)) zM3)) ∧ (zr2 = 0 → (a2 < 0 → x_Ev l E (1, 0, 0) m_X10_tell 0 [(20, 5), (0, 0)] [] zM1 (fun r zM5 => ∃ zr6, r = some (0, zr6) ∧ Q (some (0, zr6)) zM5)) ∧ (¬ a2 < 0 → (a2 ≤ 6 → ((0 : Int) ≤ a1 ∧ (a1 : Int) < 3) ∧ ((a2 < 0 ∨ 5 < a2) → x_Ev l E (4, 0, 0) m_X3_bestPlansOf 0 [(13, 40), (0, a1)] [] zM1 (fun r zM7 => ∃ zr8, r = some (0, zr8) ∧ Q (some (0, zr8)) zM7)) ∧ (a2 = 0 → Q (some (0, (zM1 (8 + 1 + 4 * a1) 0))) zM1) ∧ (a2 = 1 → Q (some (0, (zM1 (8 + 1 + 4 * a1) 1))) zM1) ∧ (a2 = 2 → Q (some (0, (zM1 (8 + 1 + 4 * a1) 2))) zM1) ∧ (a2 = 3 → Q (some (0, (zM1 (8 + 1 + 4 * a1) 3))) zM1) ∧ (a2 = 4 → ((0 : Int) ≤ a1 ∧ (a1 : Int) < 3) ∧ Q (some (0, (zM1 (41 + 8 + 9 * a1) 2))) zM1) ∧ (a2 = 5 → x_Ev l E (4, 0, 0) m_X3_answerOf 0 [(13, 40), (0, a1)] [] zM1 (fun r zM9 => ∃ zr10, r = some (0, zr10) ∧ Q (some (0, zr10)) zM9))) ∧ (¬ a2 ≤ 6 → x_Ev l E (1, 0, 0) m_X10_tell 0 [(20, 5), (0, 0)] [] zM1 (fun r zM11 => ∃ zr12, r = some (0, zr12) ∧ Q (some (0, zr12)) zM11)))))) : x_Ev l E (5, 0, 0) m_X10_of 0 [(20, 5), (0, a1), (0, a2), (5, 0)] [] M Q := by
  refine i_aload_n 0 rfl rfl (by decide) ?_
  refine i_iload_n 1 rfl rfl ?_
  refine i_callV (c := 10) (y1 := m_X10_isNoFollower) (z1 := (1, 0, 0)) (z2 := (5, 0, 0)) [(0, a1)] 2 rfl ml_488 ok_X10_isNoFollower vk_X10_isNoFollower ⟨by decide, rfl⟩ rfl ⟨rfl, Nat.le_of_ble_eq_true rfl⟩ (Nat.le_of_ble_eq_true rfl) ⟨by decide, rfl, rfl, rfl⟩ ?_
  refine h.mono (fun r zM1 h => ?_)
  obtain ⟨zr2, rfl, h⟩ := h
  simp only [Option.toList_some, Option.toList_none, List.cons_append, List.nil_append]
  refine i_if_ne 18 3 rfl (by decide) (fun c => ?_) (fun c => ?_)
  · replace h := h.1 c
    refine i_aload_n 9 rfl rfl (by decide) ?_
    refine i_iconst 10 rfl (by decide) ?_
    refine i_callV (c := 10) (y1 := m_X10_tell) (z1 := (1, 0, 0)) (z2 := (5, 0, 0)) [(0, 0)] 11 rfl ml_400 ok_X10_tell vk_X10_tell ⟨by decide, rfl⟩ rfl ⟨rfl, Nat.le_of_ble_eq_true rfl⟩ (Nat.le_of_ble_eq_true rfl) ⟨by decide, rfl, rfl, rfl⟩ ?_
    refine h.mono (fun r zM3 h => ?_)
    obtain ⟨zr4, rfl, h⟩ := h
    simp only [Option.toList_some, Option.toList_none, List.cons_append, List.nil_append]
    exact i_ireturn 12 rfl rfl h
  · replace h := h.2 c
    refine i_iload_n 4 rfl rfl ?_
    refine i_if_lt 18 5 rfl (by decide) (fun c => ?_) (fun c => ?_)
    · replace h := h.1 c
      refine i_aload_n 9 rfl rfl (by decide) ?_
      refine i_iconst 10 rfl (by decide) ?_
      refine i_callV (c := 10) (y1 := m_X10_tell) (z1 := (1, 0, 0)) (z2 := (5, 0, 0)) [(0, 0)] 11 rfl ml_400 ok_X10_tell vk_X10_tell ⟨by decide, rfl⟩ rfl ⟨rfl, Nat.le_of_ble_eq_true rfl⟩ (Nat.le_of_ble_eq_true rfl) ⟨by decide, rfl, rfl, rfl⟩ ?_
      refine h.mono (fun r zM5 h => ?_)
      obtain ⟨zr6, rfl, h⟩ := h
      simp only [Option.toList_some, Option.toList_none, List.cons_append, List.nil_append]
      exact i_ireturn 12 rfl rfl h
    · replace h := h.2 c
      refine i_iload_n 6 rfl rfl ?_
      refine i_bipush 7 rfl (by decide) ?_
      refine i_icmp_le 24 8 rfl (by decide) (fun c => ?_) (fun c => ?_)
      · replace h := h.1 c
        refine i_aload_n 13 rfl rfl (by decide) ?_
        refine i_getP (c := 10) (k := 0) (t := 19) (b := 6) 14 rfl fl_346 (by decide) rfl (by decide) rfl ?_
        refine i_getP (c := 9) (k := 6) (t := 100) (b := 8) 15 rfl fl_121 (by decide) rfl (by decide) rfl ?_
        refine i_iload_n 16 rfl rfl ?_
        refine i_aald (τ := 0) (t := 11) (len := 3) (b := (8 + 1 + 4 * a1)) 17 rfl (by decide) rfl h.1.1 h.1.2 ?_
        replace h := h.2
        refine i_astore_n 18 rfl (by decide) (by decide) rfl ?_
        refine i_iload_n 19 rfl rfl ?_
        refine i_switch 114 20 rfl (by decide) (fun c => ?_) (fun c1 c2 => ?_)
        · replace h := h.1 c
          refine i_aload_n 45 rfl rfl (by decide) ?_
          refine i_getP (c := 10) (k := 3) (t := 13) (b := 40) 46 rfl fl_349 (by decide) rfl (by decide) rfl ?_
          refine i_iload_n 47 rfl rfl ?_
          refine i_callV (c := 3) (y1 := m_X3_bestPlansOf) (z1 := (4, 0, 0)) (z2 := (5, 0, 0)) [(0, a1)] 48 rfl ml_528 ok_X3_bestPlansOf vk_X3_bestPlansOf ⟨by decide, rfl⟩ rfl ⟨rfl, Nat.le_of_ble_eq_true rfl⟩ (Nat.le_of_ble_eq_true rfl) ⟨by decide, rfl, rfl, rfl⟩ ?_
          refine h.mono (fun r zM7 h => ?_)
          obtain ⟨zr8, rfl, h⟩ := h
          simp only [Option.toList_some, Option.toList_none, List.cons_append, List.nil_append]
          exact i_ireturn 49 rfl rfl h
        · replace h := h.2
          by_cases e0 : a2 = 0
          · refine ⟨37, 72, by rw [e0]; rfl, by decide, ?_⟩
            replace h := h.1 e0
            refine i_aload_n 21 rfl rfl (by decide) ?_
            refine i_getI (c := 1) (k := 0) 22 rfl fl_61 (by decide) (by decide) ?_
            exact i_ireturn 23 rfl rfl h
          replace h := h.2
          by_cases e1 : a2 = 1
          · refine ⟨42, 77, by rw [e1]; rfl, by decide, ?_⟩
            replace h := h.1 e1
            refine i_aload_n 24 rfl rfl (by decide) ?_
            refine i_getI (c := 1) (k := 1) 25 rfl fl_64 (by decide) (by decide) ?_
            exact i_ireturn 26 rfl rfl h
          replace h := h.2
          by_cases e2 : a2 = 2
          · refine ⟨47, 82, by rw [e2]; rfl, by decide, ?_⟩
            replace h := h.1 e2
            refine i_aload_n 27 rfl rfl (by decide) ?_
            refine i_getI (c := 1) (k := 2) 28 rfl fl_69 (by decide) (by decide) ?_
            exact i_ireturn 29 rfl rfl h
          replace h := h.2
          by_cases e3 : a2 = 3
          · refine ⟨52, 87, by rw [e3]; rfl, by decide, ?_⟩
            replace h := h.1 e3
            refine i_aload_n 30 rfl rfl (by decide) ?_
            refine i_getI (c := 1) (k := 3) 31 rfl fl_74 (by decide) (by decide) ?_
            exact i_ireturn 32 rfl rfl h
          replace h := h.2
          by_cases e4 : a2 = 4
          · refine ⟨57, 92, by rw [e4]; rfl, by decide, ?_⟩
            replace h := h.1 e4
            refine i_aload_n 33 rfl rfl (by decide) ?_
            refine i_getP (c := 10) (k := 3) (t := 13) (b := 40) 34 rfl fl_349 (by decide) rfl (by decide) rfl ?_
            refine i_getP (c := 3) (k := 1) (t := 106) (b := 41) 35 rfl fl_255 (by decide) rfl (by decide) rfl ?_
            refine i_iload_n 36 rfl rfl ?_
            refine i_aald (τ := 6) (t := 14) (len := 3) (b := (41 + 8 + 9 * a1)) 37 rfl (by decide) rfl h.1.1 h.1.2 ?_
            replace h := h.2
            refine i_getI (c := 4) (k := 2) 38 rfl fl_206 (by decide) (by decide) ?_
            exact i_ireturn 39 rfl rfl h
          replace h := h.2
          by_cases e5 : a2 = 5
          · refine ⟨70, 105, by rw [e5]; rfl, by decide, ?_⟩
            replace h := h e5
            refine i_aload_n 40 rfl rfl (by decide) ?_
            refine i_getP (c := 10) (k := 3) (t := 13) (b := 40) 41 rfl fl_349 (by decide) rfl (by decide) rfl ?_
            refine i_iload_n 42 rfl rfl ?_
            refine i_callV (c := 3) (y1 := m_X3_answerOf) (z1 := (4, 0, 0)) (z2 := (5, 0, 0)) [(0, a1)] 43 rfl ml_497 ok_X3_answerOf vk_X3_answerOf ⟨by decide, rfl⟩ rfl ⟨rfl, Nat.le_of_ble_eq_true rfl⟩ (Nat.le_of_ble_eq_true rfl) ⟨by decide, rfl, rfl, rfl⟩ ?_
            refine h.mono (fun r zM9 h => ?_)
            obtain ⟨zr10, rfl, h⟩ := h
            simp only [Option.toList_some, Option.toList_none, List.cons_append, List.nil_append]
            exact i_ireturn 44 rfl rfl h
          exact absurd c1 (by omega)
      · replace h := h.2 c
        refine i_aload_n 9 rfl rfl (by decide) ?_
        refine i_iconst 10 rfl (by decide) ?_
        refine i_callV (c := 10) (y1 := m_X10_tell) (z1 := (1, 0, 0)) (z2 := (5, 0, 0)) [(0, 0)] 11 rfl ml_400 ok_X10_tell vk_X10_tell ⟨by decide, rfl⟩ rfl ⟨rfl, Nat.le_of_ble_eq_true rfl⟩ (Nat.le_of_ble_eq_true rfl) ⟨by decide, rfl, rfl, rfl⟩ ?_
        refine h.mono (fun r zM11 h => ?_)
        obtain ⟨zr12, rfl, h⟩ := h
        simp only [Option.toList_some, Option.toList_none, List.cons_append, List.nil_append]
        exact i_ireturn 12 rfl rfl h
theorem u_X10_good_0 {l : Launch} {E : xE} (a1 a2 a3 a4 : Int) {M : xM} {Q : Option xV → xM → Prop} (h : x_Ev l E (3, 0, 0) m_X10_isNoTrait 0 [(20, 5), (0, a1), (0, a2), (0, a3)] [] M (fun r zM1 => ∃ zr2, r = some (0, zr2) ∧ (¬ zr2 = 0 → x_Ev l E (1, 0, 0) m_X10_tell 0 [(20, 5), (0, 0)] [] zM1 (fun r zM3 => ∃ zr4, r = some (0, zr4) ∧ Q (some (0, zr4)) zM3)) ∧ (zr2 = 0 → ((0 : Int) ≤ a3 ∧ (a3 : Int) < 3) ∧ (a4 < ((x_SC 182).getD (a3).toNat 0) → x_Ev l E (1, 0, 0) m_X10_tell 0 [(20, 5), (0, 0)] [] zM1 (fun r zM5 => ∃ zr6, r = some (0, zr6) ∧ Q (some (0, zr6)) zM5)) ∧ (¬ a4 < ((x_SC 182).getD (a3).toNat 0) → ((0 : Int) ≤ a3 ∧ (a3 : Int) < 3) ∧ (a4 ≤ ((x_SC 183).getD (a3).toNat 0) → ((0 : Int) ≤ a1 ∧ (a1 : Int) < 3) ∧ ((0 : Int) ≤ (x_w ((x_w (a3 * 3)) + a2)) ∧ ((x_w ((x_w (a3 * 3)) + a2)) : Int) < 9) ∧ ∀ zv7 : Int, zv7 = (zM1 ((8 + 1 + 4 * a1) + 1) (x_w ((x_w (a3 * 3)) + a2))) → ((0 : Int) ≤ a1 ∧ (a1 : Int) < 3) ∧ (0 ≤ (x_w ((x_w (a3 * 3)) + a2)) ∧ (x_w ((x_w (a3 * 3)) + a2)) < 9) ∧ ∀ zM8 : xM, zM8 = x_wr zM1 ((8 + 1 + 4 * a1) + 1) (x_w ((x_w (a3 * 3)) + a2)) a4 → ((0 : Int) ≤ a1 ∧ (a1 : Int) < 3) ∧ x_Ev l E (2, 0, 0) m_X4_sumUp 0 [(14, (41 + 8 + 9 * a1)), (5, 0)] [] zM8 (fun r zM9 => r = none ∧ Q (some (0, zv7)) zM9)) ∧ (¬ a4 ≤ ((x_SC 183).getD (a3).toNat 0) → x_Ev l E (1, 0, 0) m_X10_tell 0 [(20, 5), (0, 0)] [] zM1 (fun r zM10 => ∃ zr11, r = some (0, zr11) ∧ Q (some (0, zr11)) zM10)))))) : x_Ev l E (4, 0, 0) m_X10_good 0 [(20, 5), (0, a1), (0, a2), (0, a3), (0, a4), (5, 0)] [] M Q := by
  refine i_aload_n 0 rfl rfl (by decide) ?_
  refine i_iload_n 1 rfl rfl ?_
  refine i_iload_n 2 rfl rfl ?_
  refine i_iload_n 3 rfl rfl ?_
  refine i_callV (c := 10) (y1 := m_X10_isNoTrait) (z1 := (3, 0, 0)) (z2 := (4, 0, 0)) [(0, a1), (0, a2), (0, a3)] 4 rfl ml_536 ok_X10_isNoTrait vk_X10_isNoTrait ⟨by decide, rfl⟩ rfl ⟨rfl, Nat.le_of_ble_eq_true rfl⟩ (Nat.le_of_ble_eq_true rfl) ⟨by decide, rfl, rfl, rfl⟩ ?_
  refine h.mono (fun r zM1 h => ?_)
  obtain ⟨zr2, rfl, h⟩ := h
  simp only [Option.toList_some, Option.toList_none, List.cons_append, List.nil_append]
  refine i_if_ne 30 5 rfl (by decide) (fun c => ?_) (fun c => ?_)
  · replace h := h.1 c
    refine i_aload_n 16 rfl rfl (by decide) ?_
    refine i_iconst 17 rfl (by decide) ?_
    refine i_callV (c := 10) (y1 := m_X10_tell) (z1 := (1, 0, 0)) (z2 := (4, 0, 0)) [(0, 0)] 18 rfl ml_400 ok_X10_tell vk_X10_tell ⟨by decide, rfl⟩ rfl ⟨rfl, Nat.le_of_ble_eq_true rfl⟩ (Nat.le_of_ble_eq_true rfl) ⟨by decide, rfl, rfl, rfl⟩ ?_
    refine h.mono (fun r zM3 h => ?_)
    obtain ⟨zr4, rfl, h⟩ := h
    simp only [Option.toList_some, Option.toList_none, List.cons_append, List.nil_append]
    exact i_ireturn 19 rfl rfl h
  · replace h := h.2 c
    refine i_iload 6 rfl rfl ?_
    refine i_gets (i := 2) 7 rfl (by decide) fs_544 ?_
    refine i_iload_n 8 rfl rfl ?_
    refine i_sta (t := 182) 9 rfl (by decide) h.1.1 h.1.2 (by decide) ?_
    replace h := h.2
    refine i_icmp_lt 30 10 rfl (by decide) (fun c => ?_) (fun c => ?_)
    · replace h := h.1 c
      refine i_aload_n 16 rfl rfl (by decide) ?_
      refine i_iconst 17 rfl (by decide) ?_
      refine i_callV (c := 10) (y1 := m_X10_tell) (z1 := (1, 0, 0)) (z2 := (4, 0, 0)) [(0, 0)] 18 rfl ml_400 ok_X10_tell vk_X10_tell ⟨by decide, rfl⟩ rfl ⟨rfl, Nat.le_of_ble_eq_true rfl⟩ (Nat.le_of_ble_eq_true rfl) ⟨by decide, rfl, rfl, rfl⟩ ?_
      refine h.mono (fun r zM5 h => ?_)
      obtain ⟨zr6, rfl, h⟩ := h
      simp only [Option.toList_some, Option.toList_none, List.cons_append, List.nil_append]
      exact i_ireturn 19 rfl rfl h
    · replace h := h.2 c
      refine i_iload 11 rfl rfl ?_
      refine i_gets (i := 3) 12 rfl (by decide) fs_546 ?_
      refine i_iload_n 13 rfl rfl ?_
      refine i_sta (t := 183) 14 rfl (by decide) h.1.1 h.1.2 (by decide) ?_
      replace h := h.2
      refine i_icmp_le 36 15 rfl (by decide) (fun c => ?_) (fun c => ?_)
      · replace h := h.1 c
        refine i_aload_n 20 rfl rfl (by decide) ?_
        refine i_getP (c := 10) (k := 0) (t := 19) (b := 6) 21 rfl fl_346 (by decide) rfl (by decide) rfl ?_
        refine i_getP (c := 9) (k := 6) (t := 100) (b := 8) 22 rfl fl_121 (by decide) rfl (by decide) rfl ?_
        refine i_iload_n 23 rfl rfl ?_
        refine i_aald (τ := 0) (t := 11) (len := 3) (b := (8 + 1 + 4 * a1)) 24 rfl (by decide) rfl h.1.1 h.1.2 ?_
        replace h := h.2
        refine i_getP (c := 1) (k := 4) (t := 101) (b := ((8 + 1 + 4 * a1) + 1)) 25 rfl fl_76 (by decide) rfl (by decide) rfl ?_
        refine i_iload_n 26 rfl rfl ?_
        refine i_iconst 27 rfl (by decide) ?_
        refine i_imul 28 rfl ?_
        refine i_iload_n 29 rfl rfl ?_
        refine i_iadd 30 rfl ?_
        refine i_iald (τ := 1) 31 rfl ⟨rfl, rfl, rfl, by decide⟩ h.1.1 h.1.2 ?_
        replace h := h.2
        replace h := h _ rfl
        refine i_istore 32 rfl (by decide) rfl ?_
        refine i_aload_n 33 rfl rfl (by decide) ?_
        refine i_getP (c := 10) (k := 0) (t := 19) (b := 6) 34 rfl fl_346 (by decide) rfl (by decide) rfl ?_
        refine i_getP (c := 9) (k := 6) (t := 100) (b := 8) 35 rfl fl_121 (by decide) rfl (by decide) rfl ?_
        refine i_iload_n 36 rfl rfl ?_
        refine i_aald (τ := 0) (t := 11) (len := 3) (b := (8 + 1 + 4 * a1)) 37 rfl (by decide) rfl h.1.1 h.1.2 ?_
        replace h := h.2
        refine i_getP (c := 1) (k := 4) (t := 101) (b := ((8 + 1 + 4 * a1) + 1)) 38 rfl fl_76 (by decide) rfl (by decide) rfl ?_
        refine i_iload_n 39 rfl rfl ?_
        refine i_iconst 40 rfl (by decide) ?_
        refine i_imul 41 rfl ?_
        refine i_iload_n 42 rfl rfl ?_
        refine i_iadd 43 rfl ?_
        refine i_iload 44 rfl rfl ?_
        have hb := h.1
        replace h := h.2 _ rfl
        refine i_iast (τ := 1) 45 rfl ⟨rfl, rfl, rfl, by decide⟩ hb.1 hb.2 ?_
        refine i_aload_n 46 rfl rfl (by decide) ?_
        refine i_getP (c := 10) (k := 3) (t := 13) (b := 40) 47 rfl fl_349 (by decide) rfl (by decide) rfl ?_
        refine i_getP (c := 3) (k := 1) (t := 106) (b := 41) 48 rfl fl_255 (by decide) rfl (by decide) rfl ?_
        refine i_iload_n 49 rfl rfl ?_
        refine i_aald (τ := 6) (t := 14) (len := 3) (b := (41 + 8 + 9 * a1)) 50 rfl (by decide) rfl h.1.1 h.1.2 ?_
        replace h := h.2
        refine i_callV (c := 4) (y1 := m_X4_sumUp) (z1 := (2, 0, 0)) (z2 := (4, 0, 0)) [] 51 rfl ml_548 ok_X4_sumUp vk_X4_sumUp ⟨by decide, rfl⟩ rfl ⟨rfl, Nat.le_of_ble_eq_true rfl⟩ (Nat.le_of_ble_eq_true rfl) ⟨by decide, rfl, rfl, rfl⟩ ?_
        refine h.mono (fun r zM9 h => ?_)
        obtain ⟨rfl, h⟩ := h
        simp only [Option.toList_some, Option.toList_none, List.cons_append, List.nil_append]
        refine i_iload 52 rfl rfl ?_
        exact i_ireturn 53 rfl rfl h
      · replace h := h.2 c
        refine i_aload_n 16 rfl rfl (by decide) ?_
        refine i_iconst 17 rfl (by decide) ?_
        refine i_callV (c := 10) (y1 := m_X10_tell) (z1 := (1, 0, 0)) (z2 := (4, 0, 0)) [(0, 0)] 18 rfl ml_400 ok_X10_tell vk_X10_tell ⟨by decide, rfl⟩ rfl ⟨rfl, Nat.le_of_ble_eq_true rfl⟩ (Nat.le_of_ble_eq_true rfl) ⟨by decide, rfl, rfl, rfl⟩ ?_
        refine h.mono (fun r zM10 h => ?_)
        obtain ⟨zr11, rfl, h⟩ := h
        simp only [Option.toList_some, Option.toList_none, List.cons_append, List.nil_append]
        exact i_ireturn 19 rfl rfl h
theorem u_X10_goodOf_0 {l : Launch} {E : xE} (a1 a2 a3 : Int) {M : xM} {Q : Option xV → xM → Prop} (h : x_Ev l E (3, 0, 0) m_X10_isNoTrait 0 [(20, 5), (0, a1), (0, a2), (0, a3)] [] M (fun r zM1 => ∃ zr2, r = some (0, zr2) ∧ (zr2 = 0 → ((0 : Int) ≤ a1 ∧ (a1 : Int) < 3) ∧ ((0 : Int) ≤ (x_w ((x_w (a3 * 3)) + a2)) ∧ ((x_w ((x_w (a3 * 3)) + a2)) : Int) < 9) ∧ Q (some (0, (zM1 ((8 + 1 + 4 * a1) + 1) (x_w ((x_w (a3 * 3)) + a2))))) zM1) ∧ (¬ zr2 = 0 → x_Ev l E (1, 0, 0) m_X10_tell 0 [(20, 5), (0, 0)] [] zM1 (fun r zM3 => ∃ zr4, r = some (0, zr4) ∧ Q (some (0, zr4)) zM3)))) : x_Ev l E (4, 0, 0) m_X10_goodOf 0 [(20, 5), (0, a1), (0, a2), (0, a3)] [] M Q := by
  refine i_aload_n 0 rfl rfl (by decide) ?_
  refine i_iload_n 1 rfl rfl ?_
  refine i_iload_n 2 rfl rfl ?_
  refine i_iload_n 3 rfl rfl ?_
  refine i_callV (c := 10) (y1 := m_X10_isNoTrait) (z1 := (3, 0, 0)) (z2 := (4, 0, 0)) [(0, a1), (0, a2), (0, a3)] 4 rfl ml_536 ok_X10_isNoTrait vk_X10_isNoTrait ⟨by decide, rfl⟩ rfl ⟨rfl, Nat.le_of_ble_eq_true rfl⟩ (Nat.le_of_ble_eq_true rfl) ⟨by decide, rfl, rfl, rfl⟩ ?_
  refine h.mono (fun r zM1 h => ?_)
  obtain ⟨zr2, rfl, h⟩ := h
  simp only [Option.toList_some, Option.toList_none, List.cons_append, List.nil_append]
  refine i_if_eq 16 5 rfl (by decide) (fun c => ?_) (fun c => ?_)
  · replace h := h.1 c
    refine i_aload_n 10 rfl rfl (by decide) ?_
    refine i_getP (c := 10) (k := 0) (t := 19) (b := 6) 11 rfl fl_346 (by decide) rfl (by decide) rfl ?_
    refine i_getP (c := 9) (k := 6) (t := 100) (b := 8) 12 rfl fl_121 (by decide) rfl (by decide) rfl ?_
    refine i_iload_n 13 rfl rfl ?_
    refine i_aald (τ := 0) (t := 11) (len := 3) (b := (8 + 1 + 4 * a1)) 14 rfl (by decide) rfl h.1.1 h.1.2 ?_
    replace h := h.2
    refine i_getP (c := 1) (k := 4) (t := 101) (b := ((8 + 1 + 4 * a1) + 1)) 15 rfl fl_76 (by decide) rfl (by decide) rfl ?_
    refine i_iload_n 16 rfl rfl ?_
    refine i_iconst 17 rfl (by decide) ?_
    refine i_imul 18 rfl ?_
    refine i_iload_n 19 rfl rfl ?_
    refine i_iadd 20 rfl ?_
    refine i_iald (τ := 1) 21 rfl ⟨rfl, rfl, rfl, by decide⟩ h.1.1 h.1.2 ?_
    replace h := h.2
    exact i_ireturn 22 rfl rfl h
  · replace h := h.2 c
    refine i_aload_n 6 rfl rfl (by decide) ?_
    refine i_iconst 7 rfl (by decide) ?_
    refine i_callV (c := 10) (y1 := m_X10_tell) (z1 := (1, 0, 0)) (z2 := (4, 0, 0)) [(0, 0)] 8 rfl ml_400 ok_X10_tell vk_X10_tell ⟨by decide, rfl⟩ rfl ⟨rfl, Nat.le_of_ble_eq_true rfl⟩ (Nat.le_of_ble_eq_true rfl) ⟨by decide, rfl, rfl, rfl⟩ ?_
    refine h.mono (fun r zM3 h => ?_)
    obtain ⟨zr4, rfl, h⟩ := h
    simp only [Option.toList_some, Option.toList_none, List.cons_append, List.nil_append]
    exact i_ireturn 9 rfl rfl h
theorem u_X10_budget_0 {l : Launch} {E : xE} (a1 a2 a3 : Int) {M : xM} {Q : Option xV → xM → Prop} (h : x_Ev l E (1, 0, 0) m_X10_isNoFollower 0 [(20, 5), (0, a1)] [] M (fun r zM1 => ∃ zr2, r = some (0, zr2) ∧ (¬ zr2 = 0 → x_Ev l E (1, 0, 0) m_X10_tell 0 [(20, 5), (0, 0)] [] zM1 (fun r zM3 => ∃ zr4, r = some (0, zr4) ∧ Q (some (0, zr4)) zM3)) ∧ (zr2 = 0 → (a2 < 0 → x_Ev l E (1, 0, 0) m_X10_tell 0 [(20, 5), (0, 0)] [] zM1 (fun r zM5 => ∃ zr6, r = some (0, zr6) ∧ Q (some (0, zr6)) zM5)) ∧ (¬ a2 < 0 → (26 < a2 → x_Ev l E (1, 0, 0) m_X10_tell 0 [(20, 5), (0, 0)] [] zM1 (fun r zM7 => ∃ zr8, r = some (0, zr8) ∧ Q (some (0, zr8)) zM7)) ∧ (¬ 26 < a2 → x_Ev l E (1, 0, 0) m_X10_isNoBound 0 [(20, 5), (0, a3)] [] zM1 (fun r zM9 => ∃ zr10, r = some (0, zr10) ∧ (zr10 = 0 → ((0 : Int) ≤ a1 ∧ (a1 : Int) < 3) ∧ ∀ zv11 : Int, zv11 = (zM9 ((8 + 1 + 4 * a1) + 3) 0) → ((0 : Int) ≤ a1 ∧ (a1 : Int) < 3) ∧ x_Ev l E (1, 0, 0) m_X1_fillRow 0 [(11, (8 + 1 + 4 * a1)), (0, 0), (0, a2), (0, 3), (0, 1), (0, a3), (5, 0), (5, 0)] [] zM9 (fun r zM12 => r = none ∧ ((0 : Int) ≤ a1 ∧ (a1 : Int) < 3) ∧ x_Ev l E (4, 0, 0) m_X4_findAll 0 [(14, (41 + 8 + 9 * a1)), (5, 0), (5, 0), (5, 0)] [] zM12 (fun r zM13 => r = none ∧ Q (some (0, zv11)) zM13))) ∧ (¬ zr10 = 0 → x_Ev l E (1, 0, 0) m_X10_tell 0 [(20, 5), (0, 0)] [] zM9 (fun r zM14 => ∃ zr15, r = some (0, zr15) ∧ Q (some (0, zr15)) zM14)))))))) : x_Ev l E (5, 0, 0) m_X10_budget 0 [(20, 5), (0, a1), (0, a2), (0, a3), (5, 0)] [] M Q := by
  refine i_aload_n 0 rfl rfl (by decide) ?_
  refine i_iload_n 1 rfl rfl ?_
  refine i_callV (c := 10) (y1 := m_X10_isNoFollower) (z1 := (1, 0, 0)) (z2 := (5, 0, 0)) [(0, a1)] 2 rfl ml_488 ok_X10_isNoFollower vk_X10_isNoFollower ⟨by decide, rfl⟩ rfl ⟨rfl, Nat.le_of_ble_eq_true rfl⟩ (Nat.le_of_ble_eq_true rfl) ⟨by decide, rfl, rfl, rfl⟩ ?_
  refine h.mono (fun r zM1 h => ?_)
  obtain ⟨zr2, rfl, h⟩ := h
  simp only [Option.toList_some, Option.toList_none, List.cons_append, List.nil_append]
  refine i_if_ne 26 3 rfl (by decide) (fun c => ?_) (fun c => ?_)
  · replace h := h.1 c
    refine i_aload_n 13 rfl rfl (by decide) ?_
    refine i_iconst 14 rfl (by decide) ?_
    refine i_callV (c := 10) (y1 := m_X10_tell) (z1 := (1, 0, 0)) (z2 := (5, 0, 0)) [(0, 0)] 15 rfl ml_400 ok_X10_tell vk_X10_tell ⟨by decide, rfl⟩ rfl ⟨rfl, Nat.le_of_ble_eq_true rfl⟩ (Nat.le_of_ble_eq_true rfl) ⟨by decide, rfl, rfl, rfl⟩ ?_
    refine h.mono (fun r zM3 h => ?_)
    obtain ⟨zr4, rfl, h⟩ := h
    simp only [Option.toList_some, Option.toList_none, List.cons_append, List.nil_append]
    exact i_ireturn 16 rfl rfl h
  · replace h := h.2 c
    refine i_iload_n 4 rfl rfl ?_
    refine i_if_lt 26 5 rfl (by decide) (fun c => ?_) (fun c => ?_)
    · replace h := h.1 c
      refine i_aload_n 13 rfl rfl (by decide) ?_
      refine i_iconst 14 rfl (by decide) ?_
      refine i_callV (c := 10) (y1 := m_X10_tell) (z1 := (1, 0, 0)) (z2 := (5, 0, 0)) [(0, 0)] 15 rfl ml_400 ok_X10_tell vk_X10_tell ⟨by decide, rfl⟩ rfl ⟨rfl, Nat.le_of_ble_eq_true rfl⟩ (Nat.le_of_ble_eq_true rfl) ⟨by decide, rfl, rfl, rfl⟩ ?_
      refine h.mono (fun r zM5 h => ?_)
      obtain ⟨zr6, rfl, h⟩ := h
      simp only [Option.toList_some, Option.toList_none, List.cons_append, List.nil_append]
      exact i_ireturn 16 rfl rfl h
    · replace h := h.2 c
      refine i_iload_n 6 rfl rfl ?_
      refine i_bipush 7 rfl (by decide) ?_
      refine i_icmp_gt 26 8 rfl (by decide) (fun c => ?_) (fun c => ?_)
      · replace h := h.1 c
        refine i_aload_n 13 rfl rfl (by decide) ?_
        refine i_iconst 14 rfl (by decide) ?_
        refine i_callV (c := 10) (y1 := m_X10_tell) (z1 := (1, 0, 0)) (z2 := (5, 0, 0)) [(0, 0)] 15 rfl ml_400 ok_X10_tell vk_X10_tell ⟨by decide, rfl⟩ rfl ⟨rfl, Nat.le_of_ble_eq_true rfl⟩ (Nat.le_of_ble_eq_true rfl) ⟨by decide, rfl, rfl, rfl⟩ ?_
        refine h.mono (fun r zM7 h => ?_)
        obtain ⟨zr8, rfl, h⟩ := h
        simp only [Option.toList_some, Option.toList_none, List.cons_append, List.nil_append]
        exact i_ireturn 16 rfl rfl h
      · replace h := h.2 c
        refine i_aload_n 9 rfl rfl (by decide) ?_
        refine i_iload_n 10 rfl rfl ?_
        refine i_callV (c := 10) (y1 := m_X10_isNoBound) (z1 := (1, 0, 0)) (z2 := (5, 0, 0)) [(0, a3)] 11 rfl ml_557 ok_X10_isNoBound vk_X10_isNoBound ⟨by decide, rfl⟩ rfl ⟨rfl, Nat.le_of_ble_eq_true rfl⟩ (Nat.le_of_ble_eq_true rfl) ⟨by decide, rfl, rfl, rfl⟩ ?_
        refine h.mono (fun r zM9 h => ?_)
        obtain ⟨zr10, rfl, h⟩ := h
        simp only [Option.toList_some, Option.toList_none, List.cons_append, List.nil_append]
        refine i_if_eq 32 12 rfl (by decide) (fun c => ?_) (fun c => ?_)
        · replace h := h.1 c
          refine i_aload_n 17 rfl rfl (by decide) ?_
          refine i_getP (c := 10) (k := 0) (t := 19) (b := 6) 18 rfl fl_346 (by decide) rfl (by decide) rfl ?_
          refine i_getP (c := 9) (k := 6) (t := 100) (b := 8) 19 rfl fl_121 (by decide) rfl (by decide) rfl ?_
          refine i_iload_n 20 rfl rfl ?_
          refine i_aald (τ := 0) (t := 11) (len := 3) (b := (8 + 1 + 4 * a1)) 21 rfl (by decide) rfl h.1.1 h.1.2 ?_
          replace h := h.2
          refine i_getP (c := 1) (k := 6) (t := 103) (b := ((8 + 1 + 4 * a1) + 3)) 22 rfl fl_86 (by decide) rfl (by decide) rfl ?_
          refine i_iconst 23 rfl (by decide) ?_
          refine i_iald (τ := 3) 24 rfl ⟨rfl, rfl, rfl, by decide⟩ (by decide) (by decide) ?_
          replace h := h _ rfl
          refine i_istore 25 rfl (by decide) rfl ?_
          refine i_aload_n 26 rfl rfl (by decide) ?_
          refine i_getP (c := 10) (k := 0) (t := 19) (b := 6) 27 rfl fl_346 (by decide) rfl (by decide) rfl ?_
          refine i_getP (c := 9) (k := 6) (t := 100) (b := 8) 28 rfl fl_121 (by decide) rfl (by decide) rfl ?_
          refine i_iload_n 29 rfl rfl ?_
          refine i_aald (τ := 0) (t := 11) (len := 3) (b := (8 + 1 + 4 * a1)) 30 rfl (by decide) rfl h.1.1 h.1.2 ?_
          replace h := h.2
          refine i_iconst 31 rfl (by decide) ?_
          refine i_iload_n 32 rfl rfl ?_
          refine i_iconst 33 rfl (by decide) ?_
          refine i_iconst 34 rfl (by decide) ?_
          refine i_iload_n 35 rfl rfl ?_
          refine i_callV (c := 1) (y1 := m_X1_fillRow) (z1 := (1, 0, 0)) (z2 := (5, 0, 0)) [(0, 0), (0, a2), (0, 3), (0, 1), (0, a3)] 36 rfl ml_561 ok_X1_fillRow vk_X1_fillRow ⟨by decide, rfl⟩ rfl ⟨rfl, Nat.le_of_ble_eq_true rfl⟩ (Nat.le_of_ble_eq_true rfl) ⟨by decide, rfl, rfl, rfl⟩ ?_
          refine h.mono (fun r zM12 h => ?_)
          obtain ⟨rfl, h⟩ := h
          simp only [Option.toList_some, Option.toList_none, List.cons_append, List.nil_append]
          refine i_aload_n 37 rfl rfl (by decide) ?_
          refine i_getP (c := 10) (k := 3) (t := 13) (b := 40) 38 rfl fl_349 (by decide) rfl (by decide) rfl ?_
          refine i_getP (c := 3) (k := 1) (t := 106) (b := 41) 39 rfl fl_255 (by decide) rfl (by decide) rfl ?_
          refine i_iload_n 40 rfl rfl ?_
          refine i_aald (τ := 6) (t := 14) (len := 3) (b := (41 + 8 + 9 * a1)) 41 rfl (by decide) rfl h.1.1 h.1.2 ?_
          replace h := h.2
          refine i_callV (c := 4) (y1 := m_X4_findAll) (z1 := (4, 0, 0)) (z2 := (5, 0, 0)) [] 42 rfl ml_419 ok_X4_findAll vk_X4_findAll ⟨by decide, rfl⟩ rfl ⟨rfl, Nat.le_of_ble_eq_true rfl⟩ (Nat.le_of_ble_eq_true rfl) ⟨by decide, rfl, rfl, rfl⟩ ?_
          refine h.mono (fun r zM13 h => ?_)
          obtain ⟨rfl, h⟩ := h
          simp only [Option.toList_some, Option.toList_none, List.cons_append, List.nil_append]
          refine i_iload 43 rfl rfl ?_
          exact i_ireturn 44 rfl rfl h
        · replace h := h.2 c
          refine i_aload_n 13 rfl rfl (by decide) ?_
          refine i_iconst 14 rfl (by decide) ?_
          refine i_callV (c := 10) (y1 := m_X10_tell) (z1 := (1, 0, 0)) (z2 := (5, 0, 0)) [(0, 0)] 15 rfl ml_400 ok_X10_tell vk_X10_tell ⟨by decide, rfl⟩ rfl ⟨rfl, Nat.le_of_ble_eq_true rfl⟩ (Nat.le_of_ble_eq_true rfl) ⟨by decide, rfl, rfl, rfl⟩ ?_
          refine h.mono (fun r zM14 h => ?_)
          obtain ⟨zr15, rfl, h⟩ := h
          simp only [Option.toList_some, Option.toList_none, List.cons_append, List.nil_append]
          exact i_ireturn 16 rfl rfl h
theorem u_X10_bind_0 {l : Launch} {E : xE} (a1 a2 a3 : Int) {M : xM} {Q : Option xV → xM → Prop} (h : x_Ev l E (1, 0, 0) m_X10_isNoFollower 0 [(20, 5), (0, a1)] [] M (fun r zM1 => ∃ zr2, r = some (0, zr2) ∧ (¬ zr2 = 0 → x_Ev l E (1, 0, 0) m_X10_tell 0 [(20, 5), (0, 0)] [] zM1 (fun r zM3 => ∃ zr4, r = some (0, zr4) ∧ Q (some (0, zr4)) zM3)) ∧ (zr2 = 0 → (a2 < 0 → x_Ev l E (1, 0, 0) m_X10_tell 0 [(20, 5), (0, 0)] [] zM1 (fun r zM5 => ∃ zr6, r = some (0, zr6) ∧ Q (some (0, zr6)) zM5)) ∧ (¬ a2 < 0 → (342 < a2 → x_Ev l E (1, 0, 0) m_X10_tell 0 [(20, 5), (0, 0)] [] zM1 (fun r zM7 => ∃ zr8, r = some (0, zr8) ∧ Q (some (0, zr8)) zM7)) ∧ (¬ 342 < a2 → x_Ev l E (1, 0, 0) m_X10_isNoBound 0 [(20, 5), (0, a3)] [] zM1 (fun r zM9 => ∃ zr10, r = some (0, zr10) ∧ (zr10 = 0 → ((0 : Int) ≤ a1 ∧ (a1 : Int) < 3) ∧ ((zM9 (8 + 1 + 4 * a1) 3) < 4 → ∀ zv11 : Int, zv11 = (zM9 (8 + 1 + 4 * a1) 3) → x_Ev l E (1, 0, 0) m_X1_fillRow 0 [(11, (8 + 1 + 4 * a1)), (0, zv11), (0, a2), (0, 7), (0, (-3)), (0, a3), (5, 0), (5, 0)] [] zM9 (fun r zM12 => r = none ∧ ∀ zM13 : xM, zM13 = x_wr zM12 (8 + 1 + 4 * a1) 3 (x_w ((zM12 (8 + 1 + 4 * a1) 3) + 1)) → ((0 : Int) ≤ a1 ∧ (a1 : Int) < 3) ∧ x_Ev l E (4, 0, 0) m_X4_findAll 0 [(14, (41 + 8 + 9 * a1)), (5, 0), (5, 0), (5, 0)] [] zM13 (fun r zM14 => r = none ∧ Q (some (0, zv11)) zM14))) ∧ (¬ (zM9 (8 + 1 + 4 * a1) 3) < 4 → x_Ev l E (1, 0, 0) m_X10_tell 0 [(20, 5), (0, 1)] [] zM9 (fun r zM15 => ∃ zr16, r = some (0, zr16) ∧ Q (some (0, zr16)) zM15))) ∧ (¬ zr10 = 0 → x_Ev l E (1, 0, 0) m_X10_tell 0 [(20, 5), (0, 0)] [] zM9 (fun r zM17 => ∃ zr18, r = some (0, zr18) ∧ Q (some (0, zr18)) zM17)))))))) : x_Ev l E (5, 0, 0) m_X10_bind 0 [(20, 5), (0, a1), (0, a2), (0, a3), (5, 0), (5, 0)] [] M Q := by
  refine i_aload_n 0 rfl rfl (by decide) ?_
  refine i_iload_n 1 rfl rfl ?_
  refine i_callV (c := 10) (y1 := m_X10_isNoFollower) (z1 := (1, 0, 0)) (z2 := (5, 0, 0)) [(0, a1)] 2 rfl ml_488 ok_X10_isNoFollower vk_X10_isNoFollower ⟨by decide, rfl⟩ rfl ⟨rfl, Nat.le_of_ble_eq_true rfl⟩ (Nat.le_of_ble_eq_true rfl) ⟨by decide, rfl, rfl, rfl⟩ ?_
  refine h.mono (fun r zM1 h => ?_)
  obtain ⟨zr2, rfl, h⟩ := h
  simp only [Option.toList_some, Option.toList_none, List.cons_append, List.nil_append]
  refine i_if_ne 27 3 rfl (by decide) (fun c => ?_) (fun c => ?_)
  · replace h := h.1 c
    refine i_aload_n 13 rfl rfl (by decide) ?_
    refine i_iconst 14 rfl (by decide) ?_
    refine i_callV (c := 10) (y1 := m_X10_tell) (z1 := (1, 0, 0)) (z2 := (5, 0, 0)) [(0, 0)] 15 rfl ml_400 ok_X10_tell vk_X10_tell ⟨by decide, rfl⟩ rfl ⟨rfl, Nat.le_of_ble_eq_true rfl⟩ (Nat.le_of_ble_eq_true rfl) ⟨by decide, rfl, rfl, rfl⟩ ?_
    refine h.mono (fun r zM3 h => ?_)
    obtain ⟨zr4, rfl, h⟩ := h
    simp only [Option.toList_some, Option.toList_none, List.cons_append, List.nil_append]
    exact i_ireturn 16 rfl rfl h
  · replace h := h.2 c
    refine i_iload_n 4 rfl rfl ?_
    refine i_if_lt 27 5 rfl (by decide) (fun c => ?_) (fun c => ?_)
    · replace h := h.1 c
      refine i_aload_n 13 rfl rfl (by decide) ?_
      refine i_iconst 14 rfl (by decide) ?_
      refine i_callV (c := 10) (y1 := m_X10_tell) (z1 := (1, 0, 0)) (z2 := (5, 0, 0)) [(0, 0)] 15 rfl ml_400 ok_X10_tell vk_X10_tell ⟨by decide, rfl⟩ rfl ⟨rfl, Nat.le_of_ble_eq_true rfl⟩ (Nat.le_of_ble_eq_true rfl) ⟨by decide, rfl, rfl, rfl⟩ ?_
      refine h.mono (fun r zM5 h => ?_)
      obtain ⟨zr6, rfl, h⟩ := h
      simp only [Option.toList_some, Option.toList_none, List.cons_append, List.nil_append]
      exact i_ireturn 16 rfl rfl h
    · replace h := h.2 c
      refine i_iload_n 6 rfl rfl ?_
      refine i_sipush 7 rfl (by decide) ?_
      refine i_icmp_gt 27 8 rfl (by decide) (fun c => ?_) (fun c => ?_)
      · replace h := h.1 c
        refine i_aload_n 13 rfl rfl (by decide) ?_
        refine i_iconst 14 rfl (by decide) ?_
        refine i_callV (c := 10) (y1 := m_X10_tell) (z1 := (1, 0, 0)) (z2 := (5, 0, 0)) [(0, 0)] 15 rfl ml_400 ok_X10_tell vk_X10_tell ⟨by decide, rfl⟩ rfl ⟨rfl, Nat.le_of_ble_eq_true rfl⟩ (Nat.le_of_ble_eq_true rfl) ⟨by decide, rfl, rfl, rfl⟩ ?_
        refine h.mono (fun r zM7 h => ?_)
        obtain ⟨zr8, rfl, h⟩ := h
        simp only [Option.toList_some, Option.toList_none, List.cons_append, List.nil_append]
        exact i_ireturn 16 rfl rfl h
      · replace h := h.2 c
        refine i_aload_n 9 rfl rfl (by decide) ?_
        refine i_iload_n 10 rfl rfl ?_
        refine i_callV (c := 10) (y1 := m_X10_isNoBound) (z1 := (1, 0, 0)) (z2 := (5, 0, 0)) [(0, a3)] 11 rfl ml_557 ok_X10_isNoBound vk_X10_isNoBound ⟨by decide, rfl⟩ rfl ⟨rfl, Nat.le_of_ble_eq_true rfl⟩ (Nat.le_of_ble_eq_true rfl) ⟨by decide, rfl, rfl, rfl⟩ ?_
        refine h.mono (fun r zM9 h => ?_)
        obtain ⟨zr10, rfl, h⟩ := h
        simp only [Option.toList_some, Option.toList_none, List.cons_append, List.nil_append]
        refine i_if_eq 33 12 rfl (by decide) (fun c => ?_) (fun c => ?_)
        · replace h := h.1 c
          refine i_aload_n 17 rfl rfl (by decide) ?_
          refine i_getP (c := 10) (k := 0) (t := 19) (b := 6) 18 rfl fl_346 (by decide) rfl (by decide) rfl ?_
          refine i_getP (c := 9) (k := 6) (t := 100) (b := 8) 19 rfl fl_121 (by decide) rfl (by decide) rfl ?_
          refine i_iload_n 20 rfl rfl ?_
          refine i_aald (τ := 0) (t := 11) (len := 3) (b := (8 + 1 + 4 * a1)) 21 rfl (by decide) rfl h.1.1 h.1.2 ?_
          replace h := h.2
          refine i_astore 22 rfl (by decide) (by decide) rfl ?_
          refine i_aload 23 rfl rfl (by decide) ?_
          refine i_getI (c := 1) (k := 3) 24 rfl fl_74 (by decide) (by decide) ?_
          refine i_iconst 25 rfl (by decide) ?_
          refine i_icmp_lt 59 26 rfl (by decide) (fun c => ?_) (fun c => ?_)
          · replace h := h.1 c
            refine i_aload 31 rfl rfl (by decide) ?_
            refine i_getI (c := 1) (k := 3) 32 rfl fl_74 (by decide) (by decide) ?_
            replace h := h _ rfl
            refine i_istore 33 rfl (by decide) rfl ?_
            refine i_aload 34 rfl rfl (by decide) ?_
            refine i_iload 35 rfl rfl ?_
            refine i_iload_n 36 rfl rfl ?_
            refine i_bipush 37 rfl (by decide) ?_
            refine i_bipush 38 rfl (by decide) ?_
            refine i_iload_n 39 rfl rfl ?_
            refine i_callV (c := 1) (y1 := m_X1_fillRow) (z1 := (1, 0, 0)) (z2 := (5, 0, 0)) [(0, ((zM9 (8 + 1 + 4 * a1) 3))), (0, a2), (0, 7), (0, (-3)), (0, a3)] 40 rfl ml_561 ok_X1_fillRow vk_X1_fillRow ⟨by decide, rfl⟩ rfl ⟨rfl, Nat.le_of_ble_eq_true rfl⟩ (Nat.le_of_ble_eq_true rfl) ⟨by decide, rfl, rfl, rfl⟩ ?_
            refine h.mono (fun r zM12 h => ?_)
            obtain ⟨rfl, h⟩ := h
            simp only [Option.toList_some, Option.toList_none, List.cons_append, List.nil_append]
            refine i_aload 41 rfl rfl (by decide) ?_
            refine i_dup 42 rfl (Nat.ne_of_beq_eq_false rfl) ?_
            refine i_getI (c := 1) (k := 3) 43 rfl fl_74 (by decide) (by decide) ?_
            refine i_iconst 44 rfl (by decide) ?_
            refine i_iadd 45 rfl ?_
            replace h := h _ rfl
            refine i_putI (c := 1) (k := 3) 46 rfl fl_74 (by decide) ⟨rfl, rfl, rfl⟩ ?_
            refine i_aload_n 47 rfl rfl (by decide) ?_
            refine i_getP (c := 10) (k := 3) (t := 13) (b := 40) 48 rfl fl_349 (by decide) rfl (by decide) rfl ?_
            refine i_getP (c := 3) (k := 1) (t := 106) (b := 41) 49 rfl fl_255 (by decide) rfl (by decide) rfl ?_
            refine i_iload_n 50 rfl rfl ?_
            refine i_aald (τ := 6) (t := 14) (len := 3) (b := (41 + 8 + 9 * a1)) 51 rfl (by decide) rfl h.1.1 h.1.2 ?_
            replace h := h.2
            refine i_callV (c := 4) (y1 := m_X4_findAll) (z1 := (4, 0, 0)) (z2 := (5, 0, 0)) [] 52 rfl ml_419 ok_X4_findAll vk_X4_findAll ⟨by decide, rfl⟩ rfl ⟨rfl, Nat.le_of_ble_eq_true rfl⟩ (Nat.le_of_ble_eq_true rfl) ⟨by decide, rfl, rfl, rfl⟩ ?_
            refine h.mono (fun r zM14 h => ?_)
            obtain ⟨rfl, h⟩ := h
            simp only [Option.toList_some, Option.toList_none, List.cons_append, List.nil_append]
            refine i_iload 53 rfl rfl ?_
            exact i_ireturn 54 rfl rfl h
          · replace h := h.2 c
            refine i_aload_n 27 rfl rfl (by decide) ?_
            refine i_iconst 28 rfl (by decide) ?_
            refine i_callV (c := 10) (y1 := m_X10_tell) (z1 := (1, 0, 0)) (z2 := (5, 0, 0)) [(0, 1)] 29 rfl ml_400 ok_X10_tell vk_X10_tell ⟨by decide, rfl⟩ rfl ⟨rfl, Nat.le_of_ble_eq_true rfl⟩ (Nat.le_of_ble_eq_true rfl) ⟨by decide, rfl, rfl, rfl⟩ ?_
            refine h.mono (fun r zM15 h => ?_)
            obtain ⟨zr16, rfl, h⟩ := h
            simp only [Option.toList_some, Option.toList_none, List.cons_append, List.nil_append]
            exact i_ireturn 30 rfl rfl h
        · replace h := h.2 c
          refine i_aload_n 13 rfl rfl (by decide) ?_
          refine i_iconst 14 rfl (by decide) ?_
          refine i_callV (c := 10) (y1 := m_X10_tell) (z1 := (1, 0, 0)) (z2 := (5, 0, 0)) [(0, 0)] 15 rfl ml_400 ok_X10_tell vk_X10_tell ⟨by decide, rfl⟩ rfl ⟨rfl, Nat.le_of_ble_eq_true rfl⟩ (Nat.le_of_ble_eq_true rfl) ⟨by decide, rfl, rfl, rfl⟩ ?_
          refine h.mono (fun r zM17 h => ?_)
          obtain ⟨zr18, rfl, h⟩ := h
          simp only [Option.toList_some, Option.toList_none, List.cons_append, List.nil_append]
          exact i_ireturn 16 rfl rfl h
theorem u_X10_loosen_0 {l : Launch} {E : xE} (a1 a2 : Int) {M : xM} {Q : Option xV → xM → Prop} (h : x_Ev l E (2, 0, 0) m_X10_isNoRow 0 [(20, 5), (0, a1), (0, a2)] [] M (fun r zM1 => ∃ zr2, r = some (0, zr2) ∧ (¬ zr2 = 0 → x_Ev l E (1, 0, 0) m_X10_tell 0 [(20, 5), (0, 0)] [] zM1 (fun r zM3 => ∃ zr4, r = some (0, zr4) ∧ Q (some (0, zr4)) zM3)) ∧ (zr2 = 0 → (¬ a2 = 0 → ((0 : Int) ≤ a1 ∧ (a1 : Int) < 3) ∧ x_Ev l E (2, 0, 0) m_X1_dropRow 0 [(11, (8 + 1 + 4 * a1)), (0, a2), (5, 0)] [] zM1 (fun r zM5 => r = none ∧ ((0 : Int) ≤ a1 ∧ (a1 : Int) < 3) ∧ x_Ev l E (4, 0, 0) m_X4_findAll 0 [(14, (41 + 8 + 9 * a1)), (5, 0), (5, 0), (5, 0)] [] zM5 (fun r zM6 => r = none ∧ ((0 : Int) ≤ a1 ∧ (a1 : Int) < 3) ∧ Q (some (0, (zM6 (8 + 1 + 4 * a1) 3))) zM6))) ∧ (a2 = 0 → x_Ev l E (1, 0, 0) m_X10_tell 0 [(20, 5), (0, 0)] [] zM1 (fun r zM7 => ∃ zr8, r = some (0, zr8) ∧ Q (some (0, zr8)) zM7))))) : x_Ev l E (5, 0, 0) m_X10_loosen 0 [(20, 5), (0, a1), (0, a2)] [] M Q := by
  refine i_aload_n 0 rfl rfl (by decide) ?_
  refine i_iload_n 1 rfl rfl ?_
  refine i_iload_n 2 rfl rfl ?_
  refine i_callV (c := 10) (y1 := m_X10_isNoRow) (z1 := (2, 0, 0)) (z2 := (5, 0, 0)) [(0, a1), (0, a2)] 3 rfl ml_570 ok_X10_isNoRow vk_X10_isNoRow ⟨by decide, rfl⟩ rfl ⟨rfl, Nat.le_of_ble_eq_true rfl⟩ (Nat.le_of_ble_eq_true rfl) ⟨by decide, rfl, rfl, rfl⟩ ?_
  refine h.mono (fun r zM1 h => ?_)
  obtain ⟨zr2, rfl, h⟩ := h
  simp only [Option.toList_some, Option.toList_none, List.cons_append, List.nil_append]
  refine i_if_ne 13 4 rfl (by decide) (fun c => ?_) (fun c => ?_)
  · replace h := h.1 c
    refine i_aload_n 7 rfl rfl (by decide) ?_
    refine i_iconst 8 rfl (by decide) ?_
    refine i_callV (c := 10) (y1 := m_X10_tell) (z1 := (1, 0, 0)) (z2 := (5, 0, 0)) [(0, 0)] 9 rfl ml_400 ok_X10_tell vk_X10_tell ⟨by decide, rfl⟩ rfl ⟨rfl, Nat.le_of_ble_eq_true rfl⟩ (Nat.le_of_ble_eq_true rfl) ⟨by decide, rfl, rfl, rfl⟩ ?_
    refine h.mono (fun r zM3 h => ?_)
    obtain ⟨zr4, rfl, h⟩ := h
    simp only [Option.toList_some, Option.toList_none, List.cons_append, List.nil_append]
    exact i_ireturn 10 rfl rfl h
  · replace h := h.2 c
    refine i_iload_n 5 rfl rfl ?_
    refine i_if_ne 19 6 rfl (by decide) (fun c => ?_) (fun c => ?_)
    · replace h := h.1 c
      refine i_aload_n 11 rfl rfl (by decide) ?_
      refine i_getP (c := 10) (k := 0) (t := 19) (b := 6) 12 rfl fl_346 (by decide) rfl (by decide) rfl ?_
      refine i_getP (c := 9) (k := 6) (t := 100) (b := 8) 13 rfl fl_121 (by decide) rfl (by decide) rfl ?_
      refine i_iload_n 14 rfl rfl ?_
      refine i_aald (τ := 0) (t := 11) (len := 3) (b := (8 + 1 + 4 * a1)) 15 rfl (by decide) rfl h.1.1 h.1.2 ?_
      replace h := h.2
      refine i_iload_n 16 rfl rfl ?_
      refine i_callV (c := 1) (y1 := m_X1_dropRow) (z1 := (2, 0, 0)) (z2 := (5, 0, 0)) [(0, a2)] 17 rfl ml_574 ok_X1_dropRow vk_X1_dropRow ⟨by decide, rfl⟩ rfl ⟨rfl, Nat.le_of_ble_eq_true rfl⟩ (Nat.le_of_ble_eq_true rfl) ⟨by decide, rfl, rfl, rfl⟩ ?_
      refine h.mono (fun r zM5 h => ?_)
      obtain ⟨rfl, h⟩ := h
      simp only [Option.toList_some, Option.toList_none, List.cons_append, List.nil_append]
      refine i_aload_n 18 rfl rfl (by decide) ?_
      refine i_getP (c := 10) (k := 3) (t := 13) (b := 40) 19 rfl fl_349 (by decide) rfl (by decide) rfl ?_
      refine i_getP (c := 3) (k := 1) (t := 106) (b := 41) 20 rfl fl_255 (by decide) rfl (by decide) rfl ?_
      refine i_iload_n 21 rfl rfl ?_
      refine i_aald (τ := 6) (t := 14) (len := 3) (b := (41 + 8 + 9 * a1)) 22 rfl (by decide) rfl h.1.1 h.1.2 ?_
      replace h := h.2
      refine i_callV (c := 4) (y1 := m_X4_findAll) (z1 := (4, 0, 0)) (z2 := (5, 0, 0)) [] 23 rfl ml_419 ok_X4_findAll vk_X4_findAll ⟨by decide, rfl⟩ rfl ⟨rfl, Nat.le_of_ble_eq_true rfl⟩ (Nat.le_of_ble_eq_true rfl) ⟨by decide, rfl, rfl, rfl⟩ ?_
      refine h.mono (fun r zM6 h => ?_)
      obtain ⟨rfl, h⟩ := h
      simp only [Option.toList_some, Option.toList_none, List.cons_append, List.nil_append]
      refine i_aload_n 24 rfl rfl (by decide) ?_
      refine i_getP (c := 10) (k := 0) (t := 19) (b := 6) 25 rfl fl_346 (by decide) rfl (by decide) rfl ?_
      refine i_getP (c := 9) (k := 6) (t := 100) (b := 8) 26 rfl fl_121 (by decide) rfl (by decide) rfl ?_
      refine i_iload_n 27 rfl rfl ?_
      refine i_aald (τ := 0) (t := 11) (len := 3) (b := (8 + 1 + 4 * a1)) 28 rfl (by decide) rfl h.1.1 h.1.2 ?_
      replace h := h.2
      refine i_getI (c := 1) (k := 3) 29 rfl fl_74 (by decide) (by decide) ?_
      exact i_ireturn 30 rfl rfl h
    · replace h := h.2 c
      refine i_aload_n 7 rfl rfl (by decide) ?_
      refine i_iconst 8 rfl (by decide) ?_
      refine i_callV (c := 10) (y1 := m_X10_tell) (z1 := (1, 0, 0)) (z2 := (5, 0, 0)) [(0, 0)] 9 rfl ml_400 ok_X10_tell vk_X10_tell ⟨by decide, rfl⟩ rfl ⟨rfl, Nat.le_of_ble_eq_true rfl⟩ (Nat.le_of_ble_eq_true rfl) ⟨by decide, rfl, rfl, rfl⟩ ?_
      refine h.mono (fun r zM7 h => ?_)
      obtain ⟨zr8, rfl, h⟩ := h
      simp only [Option.toList_some, Option.toList_none, List.cons_append, List.nil_append]
      exact i_ireturn 10 rfl rfl h
theorem u_X10_rowOf_0 {l : Launch} {E : xE} (a1 a2 a3 : Int) {M : xM} {Q : Option xV → xM → Prop} (h : x_Ev l E (2, 0, 0) m_X10_isNoRow 0 [(20, 5), (0, a1), (0, a2)] [] M (fun r zM1 => ∃ zr2, r = some (0, zr2) ∧ (¬ zr2 = 0 → x_Ev l E (1, 0, 0) m_X10_tell 0 [(20, 5), (0, 0)] [] zM1 (fun r zM3 => ∃ zr4, r = some (0, zr4) ∧ Q (some (0, zr4)) zM3)) ∧ (zr2 = 0 → (a3 < 0 → x_Ev l E (1, 0, 0) m_X10_tell 0 [(20, 5), (0, 0)] [] zM1 (fun r zM5 => ∃ zr6, r = some (0, zr6) ∧ Q (some (0, zr6)) zM5)) ∧ (¬ a3 < 0 → (a3 ≤ 3 → ((0 : Int) ≤ a1 ∧ (a1 : Int) < 3) ∧ (¬ a3 = 3 → (a3 < (zM1 (8 + 1 + 4 * a1) 2) → ((0 : Int) ≤ (x_w ((x_w (a2 * 3)) + a3)) ∧ ((x_w ((x_w (a2 * 3)) + a3)) : Int) < 12) ∧ Q (some (0, (zM1 ((8 + 1 + 4 * a1) + 2) (x_w ((x_w (a2 * 3)) + a3))))) zM1) ∧ (¬ a3 < (zM1 (8 + 1 + 4 * a1) 2) → x_Ev l E (1, 0, 0) m_X10_tell 0 [(20, 5), (0, 0)] [] zM1 (fun r zM7 => ∃ zr8, r = some (0, zr8) ∧ Q (some (0, zr8)) zM7))) ∧ (a3 = 3 → ((0 : Int) ≤ a2 ∧ (a2 : Int) < 4) ∧ Q (some (0, (zM1 ((8 + 1 + 4 * a1) + 3) a2))) zM1)) ∧ (¬ a3 ≤ 3 → x_Ev l E (1, 0, 0) m_X10_tell 0 [(20, 5), (0, 0)] [] zM1 (fun r zM9 => ∃ zr10, r = some (0, zr10) ∧ Q (some (0, zr10)) zM9)))))) : x_Ev l E (3, 0, 0) m_X10_rowOf 0 [(20, 5), (0, a1), (0, a2), (0, a3), (5, 0)] [] M Q := by
  refine i_aload_n 0 rfl rfl (by decide) ?_
  refine i_iload_n 1 rfl rfl ?_
  refine i_iload_n 2 rfl rfl ?_
  refine i_callV (c := 10) (y1 := m_X10_isNoRow) (z1 := (2, 0, 0)) (z2 := (3, 0, 0)) [(0, a1), (0, a2)] 3 rfl ml_570 ok_X10_isNoRow vk_X10_isNoRow ⟨by decide, rfl⟩ rfl ⟨rfl, Nat.le_of_ble_eq_true rfl⟩ (Nat.le_of_ble_eq_true rfl) ⟨by decide, rfl, rfl, rfl⟩ ?_
  refine h.mono (fun r zM1 h => ?_)
  obtain ⟨zr2, rfl, h⟩ := h
  simp only [Option.toList_some, Option.toList_none, List.cons_append, List.nil_append]
  refine i_if_ne 18 4 rfl (by decide) (fun c => ?_) (fun c => ?_)
  · replace h := h.1 c
    refine i_aload_n 10 rfl rfl (by decide) ?_
    refine i_iconst 11 rfl (by decide) ?_
    refine i_callV (c := 10) (y1 := m_X10_tell) (z1 := (1, 0, 0)) (z2 := (3, 0, 0)) [(0, 0)] 12 rfl ml_400 ok_X10_tell vk_X10_tell ⟨by decide, rfl⟩ rfl ⟨rfl, Nat.le_of_ble_eq_true rfl⟩ (Nat.le_of_ble_eq_true rfl) ⟨by decide, rfl, rfl, rfl⟩ ?_
    refine h.mono (fun r zM3 h => ?_)
    obtain ⟨zr4, rfl, h⟩ := h
    simp only [Option.toList_some, Option.toList_none, List.cons_append, List.nil_append]
    exact i_ireturn 13 rfl rfl h
  · replace h := h.2 c
    refine i_iload_n 5 rfl rfl ?_
    refine i_if_lt 18 6 rfl (by decide) (fun c => ?_) (fun c => ?_)
    · replace h := h.1 c
      refine i_aload_n 10 rfl rfl (by decide) ?_
      refine i_iconst 11 rfl (by decide) ?_
      refine i_callV (c := 10) (y1 := m_X10_tell) (z1 := (1, 0, 0)) (z2 := (3, 0, 0)) [(0, 0)] 12 rfl ml_400 ok_X10_tell vk_X10_tell ⟨by decide, rfl⟩ rfl ⟨rfl, Nat.le_of_ble_eq_true rfl⟩ (Nat.le_of_ble_eq_true rfl) ⟨by decide, rfl, rfl, rfl⟩ ?_
      refine h.mono (fun r zM5 h => ?_)
      obtain ⟨zr6, rfl, h⟩ := h
      simp only [Option.toList_some, Option.toList_none, List.cons_append, List.nil_append]
      exact i_ireturn 13 rfl rfl h
    · replace h := h.2 c
      refine i_iload_n 7 rfl rfl ?_
      refine i_iconst 8 rfl (by decide) ?_
      refine i_icmp_le 24 9 rfl (by decide) (fun c => ?_) (fun c => ?_)
      · replace h := h.1 c
        refine i_aload_n 14 rfl rfl (by decide) ?_
        refine i_getP (c := 10) (k := 0) (t := 19) (b := 6) 15 rfl fl_346 (by decide) rfl (by decide) rfl ?_
        refine i_getP (c := 9) (k := 6) (t := 100) (b := 8) 16 rfl fl_121 (by decide) rfl (by decide) rfl ?_
        refine i_iload_n 17 rfl rfl ?_
        refine i_aald (τ := 0) (t := 11) (len := 3) (b := (8 + 1 + 4 * a1)) 18 rfl (by decide) rfl h.1.1 h.1.2 ?_
        replace h := h.2
        refine i_astore 19 rfl (by decide) (by decide) rfl ?_
        refine i_iload_n 20 rfl rfl ?_
        refine i_iconst 21 rfl (by decide) ?_
        refine i_icmp_ne 48 22 rfl (by decide) (fun c => ?_) (fun c => ?_)
        · replace h := h.1 c
          refine i_iload_n 28 rfl rfl ?_
          refine i_aload 29 rfl rfl (by decide) ?_
          refine i_getI (c := 1) (k := 2) 30 rfl fl_69 (by decide) (by decide) ?_
          refine i_icmp_lt 63 31 rfl (by decide) (fun c => ?_) (fun c => ?_)
          · replace h := h.1 c
            refine i_aload 36 rfl rfl (by decide) ?_
            refine i_getP (c := 1) (k := 5) (t := 102) (b := ((8 + 1 + 4 * a1) + 2)) 37 rfl fl_81 (by decide) rfl (by decide) rfl ?_
            refine i_iload_n 38 rfl rfl ?_
            refine i_iconst 39 rfl (by decide) ?_
            refine i_imul 40 rfl ?_
            refine i_iload_n 41 rfl rfl ?_
            refine i_iadd 42 rfl ?_
            refine i_iald (τ := 2) 43 rfl ⟨rfl, rfl, rfl, by decide⟩ h.1.1 h.1.2 ?_
            replace h := h.2
            exact i_ireturn 44 rfl rfl h
          · replace h := h.2 c
            refine i_aload_n 32 rfl rfl (by decide) ?_
            refine i_iconst 33 rfl (by decide) ?_
            refine i_callV (c := 10) (y1 := m_X10_tell) (z1 := (1, 0, 0)) (z2 := (3, 0, 0)) [(0, 0)] 34 rfl ml_400 ok_X10_tell vk_X10_tell ⟨by decide, rfl⟩ rfl ⟨rfl, Nat.le_of_ble_eq_true rfl⟩ (Nat.le_of_ble_eq_true rfl) ⟨by decide, rfl, rfl, rfl⟩ ?_
            refine h.mono (fun r zM7 h => ?_)
            obtain ⟨zr8, rfl, h⟩ := h
            simp only [Option.toList_some, Option.toList_none, List.cons_append, List.nil_append]
            exact i_ireturn 35 rfl rfl h
        · replace h := h.2 c
          refine i_aload 23 rfl rfl (by decide) ?_
          refine i_getP (c := 1) (k := 6) (t := 103) (b := ((8 + 1 + 4 * a1) + 3)) 24 rfl fl_86 (by decide) rfl (by decide) rfl ?_
          refine i_iload_n 25 rfl rfl ?_
          refine i_iald (τ := 3) 26 rfl ⟨rfl, rfl, rfl, by decide⟩ h.1.1 h.1.2 ?_
          replace h := h.2
          exact i_ireturn 27 rfl rfl h
      · replace h := h.2 c
        refine i_aload_n 10 rfl rfl (by decide) ?_
        refine i_iconst 11 rfl (by decide) ?_
        refine i_callV (c := 10) (y1 := m_X10_tell) (z1 := (1, 0, 0)) (z2 := (3, 0, 0)) [(0, 0)] 12 rfl ml_400 ok_X10_tell vk_X10_tell ⟨by decide, rfl⟩ rfl ⟨rfl, Nat.le_of_ble_eq_true rfl⟩ (Nat.le_of_ble_eq_true rfl) ⟨by decide, rfl, rfl, rfl⟩ ?_
        refine h.mono (fun r zM9 h => ?_)
        obtain ⟨zr10, rfl, h⟩ := h
        simp only [Option.toList_some, Option.toList_none, List.cons_append, List.nil_append]
        exact i_ireturn 13 rfl rfl h
theorem u_X10_most_0 {l : Launch} {E : xE} (a1 : Int) {M : xM} {Q : Option xV → xM → Prop} (h : (a1 < 1 → x_Ev l E (1, 0, 0) m_X10_tell 0 [(20, 5), (0, 0)] [] M (fun r zM1 => ∃ zr2, r = some (0, zr2) ∧ Q (some (0, zr2)) zM1)) ∧ (¬ a1 < 1 → (a1 ≤ 40 → ((M 7 0) ≤ (x_W (a1 * (M 7 1))) → ∀ zv3 : Int, zv3 = (M 6 1) → ∀ zM4 : xM, zM4 = x_wr M 6 1 a1 → Q (some (0, zv3)) zM4) ∧ (¬ (M 7 0) ≤ (x_W (a1 * (M 7 1))) → x_Ev l E (1, 0, 0) m_X10_tell 0 [(20, 5), (0, 4)] [] M (fun r zM5 => ∃ zr6, r = some (0, zr6) ∧ Q (some (0, zr6)) zM5))) ∧ (¬ a1 ≤ 40 → x_Ev l E (1, 0, 0) m_X10_tell 0 [(20, 5), (0, 0)] [] M (fun r zM7 => ∃ zr8, r = some (0, zr8) ∧ Q (some (0, zr8)) zM7)))) : x_Ev l E (2, 0, 0) m_X10_most 0 [(20, 5), (0, a1), (5, 0)] [] M Q := by
  refine i_iload_n 0 rfl rfl ?_
  refine i_iconst 1 rfl (by decide) ?_
  refine i_icmp_lt 11 2 rfl (by decide) (fun c => ?_) (fun c => ?_)
  · replace h := h.1 c
    refine i_aload_n 6 rfl rfl (by decide) ?_
    refine i_iconst 7 rfl (by decide) ?_
    refine i_callV (c := 10) (y1 := m_X10_tell) (z1 := (1, 0, 0)) (z2 := (2, 0, 0)) [(0, 0)] 8 rfl ml_400 ok_X10_tell vk_X10_tell ⟨by decide, rfl⟩ rfl ⟨rfl, Nat.le_of_ble_eq_true rfl⟩ (Nat.le_of_ble_eq_true rfl) ⟨by decide, rfl, rfl, rfl⟩ ?_
    refine h.mono (fun r zM1 h => ?_)
    obtain ⟨zr2, rfl, h⟩ := h
    simp only [Option.toList_some, Option.toList_none, List.cons_append, List.nil_append]
    exact i_ireturn 9 rfl rfl h
  · replace h := h.2 c
    refine i_iload_n 3 rfl rfl ?_
    refine i_bipush 4 rfl (by decide) ?_
    refine i_icmp_le 17 5 rfl (by decide) (fun c => ?_) (fun c => ?_)
    · replace h := h.1 c
      refine i_aload_n 10 rfl rfl (by decide) ?_
      refine i_getP (c := 10) (k := 0) (t := 19) (b := 6) 11 rfl fl_346 (by decide) rfl (by decide) rfl ?_
      refine i_getP (c := 9) (k := 5) (t := 12) (b := 7) 12 rfl fl_118 (by decide) rfl (by decide) rfl ?_
      refine i_getL (c := 2) (k := 0) 13 rfl fl_41 (by decide) rfl ?_
      refine i_iload_n 14 rfl rfl ?_
      refine i_i2l 15 rfl ?_
      refine i_aload_n 16 rfl rfl (by decide) ?_
      refine i_getP (c := 10) (k := 0) (t := 19) (b := 6) 17 rfl fl_346 (by decide) rfl (by decide) rfl ?_
      refine i_getP (c := 9) (k := 5) (t := 12) (b := 7) 18 rfl fl_118 (by decide) rfl (by decide) rfl ?_
      refine i_getL (c := 2) (k := 1) 19 rfl fl_47 (by decide) rfl ?_
      refine i_lmul 20 rfl ?_
      refine i_lcmp_le 50 21 rfl rfl (by decide) (fun c => ?_) (fun c => ?_)
      · replace h := h.1 c
        refine i_aload_n 27 rfl rfl (by decide) ?_
        refine i_getP (c := 10) (k := 0) (t := 19) (b := 6) 28 rfl fl_346 (by decide) rfl (by decide) rfl ?_
        refine i_getI (c := 9) (k := 1) 29 rfl fl_109 (by decide) (by decide) ?_
        replace h := h _ rfl
        refine i_istore_n 30 rfl (by decide) rfl ?_
        refine i_aload_n 31 rfl rfl (by decide) ?_
        refine i_getP (c := 10) (k := 0) (t := 19) (b := 6) 32 rfl fl_346 (by decide) rfl (by decide) rfl ?_
        refine i_iload_n 33 rfl rfl ?_
        replace h := h _ rfl
        refine i_putI (c := 9) (k := 1) 34 rfl fl_109 (by decide) ⟨rfl, rfl, rfl⟩ ?_
        refine i_iload_n 35 rfl rfl ?_
        exact i_ireturn 36 rfl rfl h
      · replace h := h.2 c
        refine i_aload_n 23 rfl rfl (by decide) ?_
        refine i_iconst 24 rfl (by decide) ?_
        refine i_callV (c := 10) (y1 := m_X10_tell) (z1 := (1, 0, 0)) (z2 := (2, 0, 0)) [(0, 4)] 25 rfl ml_400 ok_X10_tell vk_X10_tell ⟨by decide, rfl⟩ rfl ⟨rfl, Nat.le_of_ble_eq_true rfl⟩ (Nat.le_of_ble_eq_true rfl) ⟨by decide, rfl, rfl, rfl⟩ ?_
        refine h.mono (fun r zM5 h => ?_)
        obtain ⟨zr6, rfl, h⟩ := h
        simp only [Option.toList_some, Option.toList_none, List.cons_append, List.nil_append]
        exact i_ireturn 26 rfl rfl h
    · replace h := h.2 c
      refine i_aload_n 6 rfl rfl (by decide) ?_
      refine i_iconst 7 rfl (by decide) ?_
      refine i_callV (c := 10) (y1 := m_X10_tell) (z1 := (1, 0, 0)) (z2 := (2, 0, 0)) [(0, 0)] 8 rfl ml_400 ok_X10_tell vk_X10_tell ⟨by decide, rfl⟩ rfl ⟨rfl, Nat.le_of_ble_eq_true rfl⟩ (Nat.le_of_ble_eq_true rfl) ⟨by decide, rfl, rfl, rfl⟩ ?_
      refine h.mono (fun r zM7 h => ?_)
      obtain ⟨zr8, rfl, h⟩ := h
      simp only [Option.toList_some, Option.toList_none, List.cons_append, List.nil_append]
      exact i_ireturn 9 rfl rfl h
theorem u_X10_term_0 {l : Launch} {E : xE} (a1 a2 : Int) {M : xM} {Q : Option xV → xM → Prop} (h : (a2 < 1 → x_Ev l E (1, 0, 0) m_X10_tell 0 [(20, 5), (0, 0)] [] M (fun r zM1 => ∃ zr2, r = some (0, zr2) ∧ Q (some (0, zr2)) zM1)) ∧ (¬ a2 < 1 → (2000000 < a2 → x_Ev l E (1, 0, 0) m_X10_tell 0 [(20, 5), (0, 0)] [] M (fun r zM3 => ∃ zr4, r = some (0, zr4) ∧ Q (some (0, zr4)) zM3)) ∧ (¬ 2000000 < a2 → (a1 < 0 → x_Ev l E (1, 0, 0) m_X10_tell 0 [(20, 5), (0, 0)] [] M (fun r zM5 => ∃ zr6, r = some (0, zr6) ∧ Q (some (0, zr6)) zM5)) ∧ (¬ a1 < 0 → (a1 ≤ (x_W ((M 6 1) * a2)) → x_Ev l E (2, 0, 0) m_X2_put 0 [(12, 7), (1, a1), (5, 0), (1, a2), (5, 0), (5, 0), (5, 0)] [] M (fun r zM7 => r = none ∧ Q (some (0, 1)) zM7)) ∧ (¬ a1 ≤ (x_W ((M 6 1) * a2)) → x_Ev l E (1, 0, 0) m_X10_tell 0 [(20, 5), (0, 0)] [] M (fun r zM8 => ∃ zr9, r = some (0, zr9) ∧ Q (some (0, zr9)) zM8)))))) : x_Ev l E (3, 0, 0) m_X10_term 0 [(20, 5), (1, a1), (5, 0), (1, a2), (5, 0)] [] M Q := by
  refine i_lload_n 0 rfl rfl ?_
  refine i_lconst (w := 1) 1 rfl (by decide) ?_
  refine i_lcmp_lt 35 2 rfl rfl (by decide) (fun c => ?_) (fun c => ?_)
  · replace h := h.1 c
    refine i_aload_n 21 rfl rfl (by decide) ?_
    refine i_iconst 22 rfl (by decide) ?_
    refine i_callV (c := 10) (y1 := m_X10_tell) (z1 := (1, 0, 0)) (z2 := (3, 0, 0)) [(0, 0)] 23 rfl ml_400 ok_X10_tell vk_X10_tell ⟨by decide, rfl⟩ rfl ⟨rfl, Nat.le_of_ble_eq_true rfl⟩ (Nat.le_of_ble_eq_true rfl) ⟨by decide, rfl, rfl, rfl⟩ ?_
    refine h.mono (fun r zM1 h => ?_)
    obtain ⟨zr2, rfl, h⟩ := h
    simp only [Option.toList_some, Option.toList_none, List.cons_append, List.nil_append]
    exact i_ireturn 24 rfl rfl h
  · replace h := h.2 c
    refine i_lload_n 4 rfl rfl ?_
    refine i_ldc2 (v := 2000000) 5 rfl cw_591 (by decide) ?_
    refine i_lcmp_gt 35 6 rfl rfl (by decide) (fun c => ?_) (fun c => ?_)
    · replace h := h.1 c
      refine i_aload_n 21 rfl rfl (by decide) ?_
      refine i_iconst 22 rfl (by decide) ?_
      refine i_callV (c := 10) (y1 := m_X10_tell) (z1 := (1, 0, 0)) (z2 := (3, 0, 0)) [(0, 0)] 23 rfl ml_400 ok_X10_tell vk_X10_tell ⟨by decide, rfl⟩ rfl ⟨rfl, Nat.le_of_ble_eq_true rfl⟩ (Nat.le_of_ble_eq_true rfl) ⟨by decide, rfl, rfl, rfl⟩ ?_
      refine h.mono (fun r zM3 h => ?_)
      obtain ⟨zr4, rfl, h⟩ := h
      simp only [Option.toList_some, Option.toList_none, List.cons_append, List.nil_append]
      exact i_ireturn 24 rfl rfl h
    · replace h := h.2 c
      refine i_lload_n 8 rfl rfl ?_
      refine i_lconst (w := 0) 9 rfl (by decide) ?_
      refine i_lcmp_lt 35 10 rfl rfl (by decide) (fun c => ?_) (fun c => ?_)
      · replace h := h.1 c
        refine i_aload_n 21 rfl rfl (by decide) ?_
        refine i_iconst 22 rfl (by decide) ?_
        refine i_callV (c := 10) (y1 := m_X10_tell) (z1 := (1, 0, 0)) (z2 := (3, 0, 0)) [(0, 0)] 23 rfl ml_400 ok_X10_tell vk_X10_tell ⟨by decide, rfl⟩ rfl ⟨rfl, Nat.le_of_ble_eq_true rfl⟩ (Nat.le_of_ble_eq_true rfl) ⟨by decide, rfl, rfl, rfl⟩ ?_
        refine h.mono (fun r zM5 h => ?_)
        obtain ⟨zr6, rfl, h⟩ := h
        simp only [Option.toList_some, Option.toList_none, List.cons_append, List.nil_append]
        exact i_ireturn 24 rfl rfl h
      · replace h := h.2 c
        refine i_lload_n 12 rfl rfl ?_
        refine i_aload_n 13 rfl rfl (by decide) ?_
        refine i_getP (c := 10) (k := 0) (t := 19) (b := 6) 14 rfl fl_346 (by decide) rfl (by decide) rfl ?_
        refine i_getI (c := 9) (k := 1) 15 rfl fl_109 (by decide) (by decide) ?_
        refine i_i2l 16 rfl ?_
        refine i_lload_n 17 rfl rfl ?_
        refine i_lmul 18 rfl ?_
        refine i_lcmp_le 41 19 rfl rfl (by decide) (fun c => ?_) (fun c => ?_)
        · replace h := h.1 c
          refine i_aload_n 25 rfl rfl (by decide) ?_
          refine i_getP (c := 10) (k := 0) (t := 19) (b := 6) 26 rfl fl_346 (by decide) rfl (by decide) rfl ?_
          refine i_getP (c := 9) (k := 5) (t := 12) (b := 7) 27 rfl fl_118 (by decide) rfl (by decide) rfl ?_
          refine i_lload_n 28 rfl rfl ?_
          refine i_lload_n 29 rfl rfl ?_
          refine i_callV (c := 2) (y1 := m_X2_put) (z1 := (2, 0, 0)) (z2 := (3, 0, 0)) [(1, a1), (1, a2)] 30 rfl ml_592 ok_X2_put vk_X2_put ⟨by decide, rfl⟩ rfl ⟨rfl, Nat.le_of_ble_eq_true rfl⟩ (Nat.le_of_ble_eq_true rfl) ⟨by decide, rfl, rfl, rfl⟩ ?_
          refine h.mono (fun r zM7 h => ?_)
          obtain ⟨rfl, h⟩ := h
          simp only [Option.toList_some, Option.toList_none, List.cons_append, List.nil_append]
          refine i_iconst 31 rfl (by decide) ?_
          exact i_ireturn 32 rfl rfl h
        · replace h := h.2 c
          refine i_aload_n 21 rfl rfl (by decide) ?_
          refine i_iconst 22 rfl (by decide) ?_
          refine i_callV (c := 10) (y1 := m_X10_tell) (z1 := (1, 0, 0)) (z2 := (3, 0, 0)) [(0, 0)] 23 rfl ml_400 ok_X10_tell vk_X10_tell ⟨by decide, rfl⟩ rfl ⟨rfl, Nat.le_of_ble_eq_true rfl⟩ (Nat.le_of_ble_eq_true rfl) ⟨by decide, rfl, rfl, rfl⟩ ?_
          refine h.mono (fun r zM8 h => ?_)
          obtain ⟨zr9, rfl, h⟩ := h
          simp only [Option.toList_some, Option.toList_none, List.cons_append, List.nil_append]
          exact i_ireturn 24 rfl rfl h
theorem u_X10_termOf_0 {l : Launch} {E : xE} (a1 : Int) {M : xM} {Q : Option xV → xM → Prop} (h : x_Ev l E (1, 0, 0) m_X10_isNoPart 0 [(20, 5), (0, a1)] [] M (fun r zM1 => ∃ zr2, r = some (0, zr2) ∧ (zr2 = 0 → x_Ev l E (1, 0, 0) m_X2_side 0 [(12, 7), (0, a1)] [] zM1 (fun r zM3 => ∃ zr4, r = some (1, zr4) ∧ Q (some (1, zr4)) zM3)) ∧ (¬ zr2 = 0 → x_Ev l E (1, 0, 0) m_X10_tellLong 0 [(20, 5), (0, 0)] [] zM1 (fun r zM5 => ∃ zr6, r = some (1, zr6) ∧ Q (some (1, zr6)) zM5)))) : x_Ev l E (2, 0, 0) m_X10_termOf 0 [(20, 5), (0, a1)] [] M Q := by
  refine i_aload_n 0 rfl rfl (by decide) ?_
  refine i_iload_n 1 rfl rfl ?_
  refine i_callV (c := 10) (y1 := m_X10_isNoPart) (z1 := (1, 0, 0)) (z2 := (2, 0, 0)) [(0, a1)] 2 rfl ml_603 ok_X10_isNoPart vk_X10_isNoPart ⟨by decide, rfl⟩ rfl ⟨rfl, Nat.le_of_ble_eq_true rfl⟩ (Nat.le_of_ble_eq_true rfl) ⟨by decide, rfl, rfl, rfl⟩ ?_
  refine h.mono (fun r zM1 h => ?_)
  obtain ⟨zr2, rfl, h⟩ := h
  simp only [Option.toList_some, Option.toList_none, List.cons_append, List.nil_append]
  refine i_if_eq 14 3 rfl (by decide) (fun c => ?_) (fun c => ?_)
  · replace h := h.1 c
    refine i_aload_n 8 rfl rfl (by decide) ?_
    refine i_getP (c := 10) (k := 0) (t := 19) (b := 6) 9 rfl fl_346 (by decide) rfl (by decide) rfl ?_
    refine i_getP (c := 9) (k := 5) (t := 12) (b := 7) 10 rfl fl_118 (by decide) rfl (by decide) rfl ?_
    refine i_iload_n 11 rfl rfl ?_
    refine i_callV (c := 2) (y1 := m_X2_side) (z1 := (1, 0, 0)) (z2 := (2, 0, 0)) [(0, a1)] 12 rfl ml_612 ok_X2_side vk_X2_side ⟨by decide, rfl⟩ rfl ⟨rfl, Nat.le_of_ble_eq_true rfl⟩ (Nat.le_of_ble_eq_true rfl) ⟨by decide, rfl, rfl, rfl⟩ ?_
    refine h.mono (fun r zM3 h => ?_)
    obtain ⟨zr4, rfl, h⟩ := h
    simp only [Option.toList_some, Option.toList_none, List.cons_append, List.nil_append]
    exact i_lreturn 13 rfl rfl h
  · replace h := h.2 c
    refine i_aload_n 4 rfl rfl (by decide) ?_
    refine i_iconst 5 rfl (by decide) ?_
    refine i_callV (c := 10) (y1 := m_X10_tellLong) (z1 := (1, 0, 0)) (z2 := (2, 0, 0)) [(0, 0)] 6 rfl ml_607 ok_X10_tellLong vk_X10_tellLong ⟨by decide, rfl⟩ rfl ⟨rfl, Nat.le_of_ble_eq_true rfl⟩ (Nat.le_of_ble_eq_true rfl) ⟨by decide, rfl, rfl, rfl⟩ ?_
    refine h.mono (fun r zM5 h => ?_)
    obtain ⟨zr6, rfl, h⟩ := h
    simp only [Option.toList_some, Option.toList_none, List.cons_append, List.nil_append]
    exact i_lreturn 7 rfl rfl h
theorem u_X10_amount_0 {l : Launch} {E : xE} (a1 a2 a3 a4 : Int) {M : xM} {Q : Option xV → xM → Prop} (h : x_Ev l E (2, 0, 0) m_X10_isNoGood 0 [(20, 5), (0, a1), (0, a3)] [] M (fun r zM1 => ∃ zr2, r = some (0, zr2) ∧ (¬ zr2 = 0 → x_Ev l E (1, 0, 0) m_X10_tellLong 0 [(20, 5), (0, 0)] [] zM1 (fun r zM3 => ∃ zr4, r = some (1, zr4) ∧ Q (some (1, zr4)) zM3)) ∧ (zr2 = 0 → x_Ev l E (1, 0, 0) m_X10_isNoPart 0 [(20, 5), (0, a4)] [] zM1 (fun r zM5 => ∃ zr6, r = some (0, zr6) ∧ (¬ zr6 = 0 → x_Ev l E (1, 0, 0) m_X10_tellLong 0 [(20, 5), (0, 0)] [] zM5 (fun r zM7 => ∃ zr8, r = some (1, zr8) ∧ Q (some (1, zr8)) zM7)) ∧ (zr6 = 0 → x_Ev l E (2, 0, 0) m_X10_isNoPlan 0 [(20, 5), (0, a1), (0, a2)] [] zM5 (fun r zM9 => ∃ zr10, r = some (0, zr10) ∧ (zr10 = 0 → ((0 : Int) ≤ a1 ∧ (a1 : Int) < 3) ∧ ((0 : Int) ≤ (x_w ((x_w (a2 * 3)) + a3)) ∧ ((x_w ((x_w (a2 * 3)) + a3)) : Int) < 30) ∧ ((0 : Int) ≤ a2 ∧ (a2 : Int) < 10) ∧ x_Ev l E (2, 0, 0) m_X2_put 0 [(12, 86), (1, (zM9 ((41 + 8 + 9 * a1) + 1) (x_w ((x_w (a2 * 3)) + a3)))), (5, 0), (1, (zM9 ((41 + 8 + 9 * a1) + 2) a2)), (5, 0), (5, 0), (5, 0)] [] zM9 (fun r zM11 => r = none ∧ x_Ev l E (1, 0, 0) m_X2_side 0 [(12, 86), (0, a4)] [] zM11 (fun r zM12 => ∃ zr13, r = some (1, zr13) ∧ Q (some (1, zr13)) zM12))) ∧ (¬ zr10 = 0 → x_Ev l E (1, 0, 0) m_X10_tellLong 0 [(20, 5), (0, 0)] [] zM9 (fun r zM14 => ∃ zr15, r = some (1, zr15) ∧ Q (some (1, zr15)) zM14)))))))) : x_Ev l E (3, 0, 0) m_X10_amount 0 [(20, 5), (0, a1), (0, a2), (0, a3), (0, a4), (5, 0)] [] M Q := by
  refine i_aload_n 0 rfl rfl (by decide) ?_
  refine i_iload_n 1 rfl rfl ?_
  refine i_iload_n 2 rfl rfl ?_
  refine i_callV (c := 10) (y1 := m_X10_isNoGood) (z1 := (2, 0, 0)) (z2 := (3, 0, 0)) [(0, a1), (0, a3)] 3 rfl ml_540 ok_X10_isNoGood vk_X10_isNoGood ⟨by decide, rfl⟩ rfl ⟨rfl, Nat.le_of_ble_eq_true rfl⟩ (Nat.le_of_ble_eq_true rfl) ⟨by decide, rfl, rfl, rfl⟩ ?_
  refine h.mono (fun r zM1 h => ?_)
  obtain ⟨zr2, rfl, h⟩ := h
  simp only [Option.toList_some, Option.toList_none, List.cons_append, List.nil_append]
  refine i_if_ne 27 4 rfl (by decide) (fun c => ?_) (fun c => ?_)
  · replace h := h.1 c
    refine i_aload_n 14 rfl rfl (by decide) ?_
    refine i_iconst 15 rfl (by decide) ?_
    refine i_callV (c := 10) (y1 := m_X10_tellLong) (z1 := (1, 0, 0)) (z2 := (3, 0, 0)) [(0, 0)] 16 rfl ml_607 ok_X10_tellLong vk_X10_tellLong ⟨by decide, rfl⟩ rfl ⟨rfl, Nat.le_of_ble_eq_true rfl⟩ (Nat.le_of_ble_eq_true rfl) ⟨by decide, rfl, rfl, rfl⟩ ?_
    refine h.mono (fun r zM3 h => ?_)
    obtain ⟨zr4, rfl, h⟩ := h
    simp only [Option.toList_some, Option.toList_none, List.cons_append, List.nil_append]
    exact i_lreturn 17 rfl rfl h
  · replace h := h.2 c
    refine i_aload_n 5 rfl rfl (by decide) ?_
    refine i_iload 6 rfl rfl ?_
    refine i_callV (c := 10) (y1 := m_X10_isNoPart) (z1 := (1, 0, 0)) (z2 := (3, 0, 0)) [(0, a4)] 7 rfl ml_603 ok_X10_isNoPart vk_X10_isNoPart ⟨by decide, rfl⟩ rfl ⟨rfl, Nat.le_of_ble_eq_true rfl⟩ (Nat.le_of_ble_eq_true rfl) ⟨by decide, rfl, rfl, rfl⟩ ?_
    refine h.mono (fun r zM5 h => ?_)
    obtain ⟨zr6, rfl, h⟩ := h
    simp only [Option.toList_some, Option.toList_none, List.cons_append, List.nil_append]
    refine i_if_ne 27 8 rfl (by decide) (fun c => ?_) (fun c => ?_)
    · replace h := h.1 c
      refine i_aload_n 14 rfl rfl (by decide) ?_
      refine i_iconst 15 rfl (by decide) ?_
      refine i_callV (c := 10) (y1 := m_X10_tellLong) (z1 := (1, 0, 0)) (z2 := (3, 0, 0)) [(0, 0)] 16 rfl ml_607 ok_X10_tellLong vk_X10_tellLong ⟨by decide, rfl⟩ rfl ⟨rfl, Nat.le_of_ble_eq_true rfl⟩ (Nat.le_of_ble_eq_true rfl) ⟨by decide, rfl, rfl, rfl⟩ ?_
      refine h.mono (fun r zM7 h => ?_)
      obtain ⟨zr8, rfl, h⟩ := h
      simp only [Option.toList_some, Option.toList_none, List.cons_append, List.nil_append]
      exact i_lreturn 17 rfl rfl h
    · replace h := h.2 c
      refine i_aload_n 9 rfl rfl (by decide) ?_
      refine i_iload_n 10 rfl rfl ?_
      refine i_iload_n 11 rfl rfl ?_
      refine i_callV (c := 10) (y1 := m_X10_isNoPlan) (z1 := (2, 0, 0)) (z2 := (3, 0, 0)) [(0, a1), (0, a2)] 12 rfl ml_620 ok_X10_isNoPlan vk_X10_isNoPlan ⟨by decide, rfl⟩ rfl ⟨rfl, Nat.le_of_ble_eq_true rfl⟩ (Nat.le_of_ble_eq_true rfl) ⟨by decide, rfl, rfl, rfl⟩ ?_
      refine h.mono (fun r zM9 h => ?_)
      obtain ⟨zr10, rfl, h⟩ := h
      simp only [Option.toList_some, Option.toList_none, List.cons_append, List.nil_append]
      refine i_if_eq 33 13 rfl (by decide) (fun c => ?_) (fun c => ?_)
      · replace h := h.1 c
        refine i_aload_n 18 rfl rfl (by decide) ?_
        refine i_getP (c := 10) (k := 3) (t := 13) (b := 40) 19 rfl fl_349 (by decide) rfl (by decide) rfl ?_
        refine i_getP (c := 3) (k := 1) (t := 106) (b := 41) 20 rfl fl_255 (by decide) rfl (by decide) rfl ?_
        refine i_iload_n 21 rfl rfl ?_
        refine i_aald (τ := 6) (t := 14) (len := 3) (b := (41 + 8 + 9 * a1)) 22 rfl (by decide) rfl h.1.1 h.1.2 ?_
        replace h := h.2
        refine i_astore 23 rfl (by decide) (by decide) rfl ?_
        refine i_aload_n 24 rfl rfl (by decide) ?_
        refine i_getP (c := 10) (k := 7) (t := 12) (b := 86) 25 rfl fl_353 (by decide) rfl (by decide) rfl ?_
        refine i_aload 26 rfl rfl (by decide) ?_
        refine i_getP (c := 4) (k := 3) (t := 108) (b := ((41 + 8 + 9 * a1) + 1)) 27 rfl fl_208 (by decide) rfl (by decide) rfl ?_
        refine i_iload_n 28 rfl rfl ?_
        refine i_iconst 29 rfl (by decide) ?_
        refine i_imul 30 rfl ?_
        refine i_iload_n 31 rfl rfl ?_
        refine i_iadd 32 rfl ?_
        refine i_lald (τ := 8) 33 rfl ⟨rfl, rfl, rfl, by decide⟩ h.1.1 h.1.2 ?_
        replace h := h.2
        refine i_aload 34 rfl rfl (by decide) ?_
        refine i_getP (c := 4) (k := 4) (t := 109) (b := ((41 + 8 + 9 * a1) + 2)) 35 rfl fl_211 (by decide) rfl (by decide) rfl ?_
        refine i_iload_n 36 rfl rfl ?_
        refine i_lald (τ := 9) 37 rfl ⟨rfl, rfl, rfl, by decide⟩ h.1.1 h.1.2 ?_
        replace h := h.2
        refine i_callV (c := 2) (y1 := m_X2_put) (z1 := (2, 0, 0)) (z2 := (3, 0, 0)) [(1, (zM9 ((41 + 8 + 9 * a1) + 1) (x_w ((x_w (a2 * 3)) + a3)))), (1, (zM9 ((41 + 8 + 9 * a1) + 2) a2))] 38 rfl ml_592 ok_X2_put vk_X2_put ⟨by decide, rfl⟩ rfl ⟨rfl, Nat.le_of_ble_eq_true rfl⟩ (Nat.le_of_ble_eq_true rfl) ⟨by decide, rfl, rfl, rfl⟩ ?_
        refine h.mono (fun r zM11 h => ?_)
        obtain ⟨rfl, h⟩ := h
        simp only [Option.toList_some, Option.toList_none, List.cons_append, List.nil_append]
        refine i_aload_n 39 rfl rfl (by decide) ?_
        refine i_getP (c := 10) (k := 7) (t := 12) (b := 86) 40 rfl fl_353 (by decide) rfl (by decide) rfl ?_
        refine i_iload 41 rfl rfl ?_
        refine i_callV (c := 2) (y1 := m_X2_side) (z1 := (1, 0, 0)) (z2 := (3, 0, 0)) [(0, a4)] 42 rfl ml_612 ok_X2_side vk_X2_side ⟨by decide, rfl⟩ rfl ⟨rfl, Nat.le_of_ble_eq_true rfl⟩ (Nat.le_of_ble_eq_true rfl) ⟨by decide, rfl, rfl, rfl⟩ ?_
        refine h.mono (fun r zM12 h => ?_)
        obtain ⟨zr13, rfl, h⟩ := h
        simp only [Option.toList_some, Option.toList_none, List.cons_append, List.nil_append]
        exact i_lreturn 43 rfl rfl h
      · replace h := h.2 c
        refine i_aload_n 14 rfl rfl (by decide) ?_
        refine i_iconst 15 rfl (by decide) ?_
        refine i_callV (c := 10) (y1 := m_X10_tellLong) (z1 := (1, 0, 0)) (z2 := (3, 0, 0)) [(0, 0)] 16 rfl ml_607 ok_X10_tellLong vk_X10_tellLong ⟨by decide, rfl⟩ rfl ⟨rfl, Nat.le_of_ble_eq_true rfl⟩ (Nat.le_of_ble_eq_true rfl) ⟨by decide, rfl, rfl, rfl⟩ ?_
        refine h.mono (fun r zM14 h => ?_)
        obtain ⟨zr15, rfl, h⟩ := h
        simp only [Option.toList_some, Option.toList_none, List.cons_append, List.nil_append]
        exact i_lreturn 17 rfl rfl h
theorem u_X10_brings_0 {l : Launch} {E : xE} (a1 a2 a3 a4 : Int) {M : xM} {Q : Option xV → xM → Prop} (h : x_Ev l E (1, 0, 0) m_X10_isNoFollower 0 [(20, 5), (0, a1)] [] M (fun r zM1 => ∃ zr2, r = some (0, zr2) ∧ (¬ zr2 = 0 → x_Ev l E (1, 0, 0) m_X10_tellLong 0 [(20, 5), (0, 0)] [] zM1 (fun r zM3 => ∃ zr4, r = some (1, zr4) ∧ Q (some (1, zr4)) zM3)) ∧ (zr2 = 0 → (a3 < 0 → x_Ev l E (1, 0, 0) m_X10_tellLong 0 [(20, 5), (0, 0)] [] zM1 (fun r zM5 => ∃ zr6, r = some (1, zr6) ∧ Q (some (1, zr6)) zM5)) ∧ (¬ a3 < 0 → (1 < a3 → x_Ev l E (1, 0, 0) m_X10_tellLong 0 [(20, 5), (0, 0)] [] zM1 (fun r zM7 => ∃ zr8, r = some (1, zr8) ∧ Q (some (1, zr8)) zM7)) ∧ (¬ 1 < a3 → x_Ev l E (1, 0, 0) m_X10_isNoPart 0 [(20, 5), (0, a4)] [] zM1 (fun r zM9 => ∃ zr10, r = some (0, zr10) ∧ (zr10 = 0 → x_Ev l E (4, 0, 0) m_X3_answerOf 0 [(13, 40), (0, a1)] [] zM9 (fun r zM11 => ∃ zr12, r = some (0, zr12) ∧ (¬ a2 = (-1) → x_Ev l E (2, 0, 0) m_X10_isNoPlan 0 [(20, 5), (0, a1), (0, a2)] [] zM11 (fun r zM13 => ∃ zr14, r = some (0, zr14) ∧ (zr14 = 0 → ((0 : Int) ≤ a1 ∧ (a1 : Int) < 3) ∧ (¬ a3 = 0 → ((0 : Int) ≤ a2 ∧ (a2 : Int) < 10) ∧ ∀ zv15 : Int, zv15 = (zM13 ((41 + 8 + 9 * a1) + 8) a2) → ((0 : Int) ≤ a2 ∧ (a2 : Int) < 10) ∧ x_Ev l E (2, 0, 0) m_X2_put 0 [(12, 86), (1, zv15), (5, 0), (1, (x_W ((zM13 ((41 + 8 + 9 * a1) + 2) a2) * (zM13 7 1)))), (5, 0), (5, 0), (5, 0)] [] zM13 (fun r zM16 => r = none ∧ x_Ev l E (1, 0, 0) m_X2_side 0 [(12, 86), (0, a4)] [] zM16 (fun r zM17 => ∃ zr18, r = some (1, zr18) ∧ Q (some (1, zr18)) zM17))) ∧ (a3 = 0 → ((0 : Int) ≤ a2 ∧ (a2 : Int) < 10) ∧ ∀ zv19 : Int, zv19 = (zM13 ((41 + 8 + 9 * a1) + 7) a2) → ((0 : Int) ≤ a2 ∧ (a2 : Int) < 10) ∧ x_Ev l E (2, 0, 0) m_X2_put 0 [(12, 86), (1, zv19), (5, 0), (1, (x_W ((zM13 ((41 + 8 + 9 * a1) + 2) a2) * (zM13 7 1)))), (5, 0), (5, 0), (5, 0)] [] zM13 (fun r zM20 => r = none ∧ x_Ev l E (1, 0, 0) m_X2_side 0 [(12, 86), (0, a4)] [] zM20 (fun r zM21 => ∃ zr22, r = some (1, zr22) ∧ Q (some (1, zr22)) zM21)))) ∧ (¬ zr14 = 0 → x_Ev l E (1, 0, 0) m_X10_tellLong 0 [(20, 5), (0, 0)] [] zM13 (fun r zM23 => ∃ zr24, r = some (1, zr24) ∧ Q (some (1, zr24)) zM23)))) ∧ (a2 = (-1) → x_Ev l E (2, 0, 0) m_X10_isNoPlan 0 [(20, 5), (0, a1), (0, zr12)] [] zM11 (fun r zM25 => ∃ zr26, r = some (0, zr26) ∧ (zr26 = 0 → ((0 : Int) ≤ a1 ∧ (a1 : Int) < 3) ∧ (¬ a3 = 0 → ((0 : Int) ≤ zr12 ∧ (zr12 : Int) < 10) ∧ ∀ zv27 : Int, zv27 = (zM25 ((41 + 8 + 9 * a1) + 8) zr12) → ((0 : Int) ≤ zr12 ∧ (zr12 : Int) < 10) ∧ x_Ev l E (2, 0, 0) m_X2_put 0 [(12, 86), (1, zv27), (5, 0), (1, (x_W ((zM25 ((41 + 8 + 9 * a1) + 2) zr12) * (zM25 7 1)))), (5, 0), (5, 0), (5, 0)] [] zM25 (fun r zM28 => r = none ∧ x_Ev l E (1, 0, 0) m_X2_side 0 [(12, 86), (0, a4)] [] zM28 (fun r zM29 => ∃ zr30, r = some (1, zr30) ∧ Q (some (1, zr30)) zM29))) ∧ (a3 = 0 → ((0 : Int) ≤ zr12 ∧ (zr12 : Int) < 10) ∧ ∀ zv31 : Int, zv31 = (zM25 ((41 + 8 + 9 * a1) + 7) zr12) → ((0 : Int) ≤ zr12 ∧ (zr12 : Int) < 10) ∧ x_Ev l E (2, 0, 0) m_X2_put 0 [(12, 86), (1, zv31), (5, 0), (1, (x_W ((zM25 ((41 + 8 + 9 * a1) + 2) zr12) * (zM25 7 1)))), (5, 0), (5, 0), (5, 0)] [] zM25 (fun r zM32 => r = none ∧ x_Ev l E (1, 0, 0) m_X2_side 0 [(12, 86), (0, a4)] [] zM32 (fun r zM33 => ∃ zr34, r = some (1, zr34) ∧ Q (some (1, zr34)) zM33)))) ∧ (¬ zr26 = 0 → x_Ev l E (1, 0, 0) m_X10_tellLong 0 [(20, 5), (0, 0)] [] zM25 (fun r zM35 => ∃ zr36, r = some (1, zr36) ∧ Q (some (1, zr36)) zM35)))))) ∧ (¬ zr10 = 0 → x_Ev l E (1, 0, 0) m_X10_tellLong 0 [(20, 5), (0, 0)] [] zM9 (fun r zM37 => ∃ zr38, r = some (1, zr38) ∧ Q (some (1, zr38)) zM37)))))))) : x_Ev l E (5, 0, 0) m_X10_brings 0 [(20, 5), (0, a1), (0, a2), (0, a3), (0, a4), (5, 0), (5, 0), (5, 0), (5, 0), (5, 0)] [] M Q := by
  refine i_aload_n 0 rfl rfl (by decide) ?_
  refine i_iload_n 1 rfl rfl ?_
  refine i_callV (c := 10) (y1 := m_X10_isNoFollower) (z1 := (1, 0, 0)) (z2 := (5, 0, 0)) [(0, a1)] 2 rfl ml_488 ok_X10_isNoFollower vk_X10_isNoFollower ⟨by decide, rfl⟩ rfl ⟨rfl, Nat.le_of_ble_eq_true rfl⟩ (Nat.le_of_ble_eq_true rfl) ⟨by decide, rfl, rfl, rfl⟩ ?_
  refine h.mono (fun r zM1 h => ?_)
  obtain ⟨zr2, rfl, h⟩ := h
  simp only [Option.toList_some, Option.toList_none, List.cons_append, List.nil_append]
  refine i_if_ne 26 3 rfl (by decide) (fun c => ?_) (fun c => ?_)
  · replace h := h.1 c
    refine i_aload_n 13 rfl rfl (by decide) ?_
    refine i_iconst 14 rfl (by decide) ?_
    refine i_callV (c := 10) (y1 := m_X10_tellLong) (z1 := (1, 0, 0)) (z2 := (5, 0, 0)) [(0, 0)] 15 rfl ml_607 ok_X10_tellLong vk_X10_tellLong ⟨by decide, rfl⟩ rfl ⟨rfl, Nat.le_of_ble_eq_true rfl⟩ (Nat.le_of_ble_eq_true rfl) ⟨by decide, rfl, rfl, rfl⟩ ?_
    refine h.mono (fun r zM3 h => ?_)
    obtain ⟨zr4, rfl, h⟩ := h
    simp only [Option.toList_some, Option.toList_none, List.cons_append, List.nil_append]
    exact i_lreturn 16 rfl rfl h
  · replace h := h.2 c
    refine i_iload_n 4 rfl rfl ?_
    refine i_if_lt 26 5 rfl (by decide) (fun c => ?_) (fun c => ?_)
    · replace h := h.1 c
      refine i_aload_n 13 rfl rfl (by decide) ?_
      refine i_iconst 14 rfl (by decide) ?_
      refine i_callV (c := 10) (y1 := m_X10_tellLong) (z1 := (1, 0, 0)) (z2 := (5, 0, 0)) [(0, 0)] 15 rfl ml_607 ok_X10_tellLong vk_X10_tellLong ⟨by decide, rfl⟩ rfl ⟨rfl, Nat.le_of_ble_eq_true rfl⟩ (Nat.le_of_ble_eq_true rfl) ⟨by decide, rfl, rfl, rfl⟩ ?_
      refine h.mono (fun r zM5 h => ?_)
      obtain ⟨zr6, rfl, h⟩ := h
      simp only [Option.toList_some, Option.toList_none, List.cons_append, List.nil_append]
      exact i_lreturn 16 rfl rfl h
    · replace h := h.2 c
      refine i_iload_n 6 rfl rfl ?_
      refine i_iconst 7 rfl (by decide) ?_
      refine i_icmp_gt 26 8 rfl (by decide) (fun c => ?_) (fun c => ?_)
      · replace h := h.1 c
        refine i_aload_n 13 rfl rfl (by decide) ?_
        refine i_iconst 14 rfl (by decide) ?_
        refine i_callV (c := 10) (y1 := m_X10_tellLong) (z1 := (1, 0, 0)) (z2 := (5, 0, 0)) [(0, 0)] 15 rfl ml_607 ok_X10_tellLong vk_X10_tellLong ⟨by decide, rfl⟩ rfl ⟨rfl, Nat.le_of_ble_eq_true rfl⟩ (Nat.le_of_ble_eq_true rfl) ⟨by decide, rfl, rfl, rfl⟩ ?_
        refine h.mono (fun r zM7 h => ?_)
        obtain ⟨zr8, rfl, h⟩ := h
        simp only [Option.toList_some, Option.toList_none, List.cons_append, List.nil_append]
        exact i_lreturn 16 rfl rfl h
      · replace h := h.2 c
        refine i_aload_n 9 rfl rfl (by decide) ?_
        refine i_iload 10 rfl rfl ?_
        refine i_callV (c := 10) (y1 := m_X10_isNoPart) (z1 := (1, 0, 0)) (z2 := (5, 0, 0)) [(0, a4)] 11 rfl ml_603 ok_X10_isNoPart vk_X10_isNoPart ⟨by decide, rfl⟩ rfl ⟨rfl, Nat.le_of_ble_eq_true rfl⟩ (Nat.le_of_ble_eq_true rfl) ⟨by decide, rfl, rfl, rfl⟩ ?_
        refine h.mono (fun r zM9 h => ?_)
        obtain ⟨zr10, rfl, h⟩ := h
        simp only [Option.toList_some, Option.toList_none, List.cons_append, List.nil_append]
        refine i_if_eq 32 12 rfl (by decide) (fun c => ?_) (fun c => ?_)
        · replace h := h.1 c
          refine i_aload_n 17 rfl rfl (by decide) ?_
          refine i_getP (c := 10) (k := 3) (t := 13) (b := 40) 18 rfl fl_349 (by decide) rfl (by decide) rfl ?_
          refine i_iload_n 19 rfl rfl ?_
          refine i_callV (c := 3) (y1 := m_X3_answerOf) (z1 := (4, 0, 0)) (z2 := (5, 0, 0)) [(0, a1)] 20 rfl ml_497 ok_X3_answerOf vk_X3_answerOf ⟨by decide, rfl⟩ rfl ⟨rfl, Nat.le_of_ble_eq_true rfl⟩ (Nat.le_of_ble_eq_true rfl) ⟨by decide, rfl, rfl, rfl⟩ ?_
          refine h.mono (fun r zM11 h => ?_)
          obtain ⟨zr12, rfl, h⟩ := h
          simp only [Option.toList_some, Option.toList_none, List.cons_append, List.nil_append]
          refine i_istore 21 rfl (by decide) rfl ?_
          refine i_iload_n 22 rfl rfl ?_
          refine i_iconst 23 rfl (by decide) ?_
          refine i_icmp_ne 52 24 rfl (by decide) (fun c => ?_) (fun c => ?_)
          · replace h := h.1 c
            refine i_iload_n 27 rfl rfl ?_
            refine i_istore 28 rfl (by decide) rfl ?_
            refine i_aload_n 29 rfl rfl (by decide) ?_
            refine i_iload_n 30 rfl rfl ?_
            refine i_iload 31 rfl rfl ?_
            refine i_callV (c := 10) (y1 := m_X10_isNoPlan) (z1 := (2, 0, 0)) (z2 := (5, 0, 0)) [(0, a1), (0, a2)] 32 rfl ml_620 ok_X10_isNoPlan vk_X10_isNoPlan ⟨by decide, rfl⟩ rfl ⟨rfl, Nat.le_of_ble_eq_true rfl⟩ (Nat.le_of_ble_eq_true rfl) ⟨by decide, rfl, rfl, rfl⟩ ?_
            refine h.mono (fun r zM13 h => ?_)
            obtain ⟨zr14, rfl, h⟩ := h
            simp only [Option.toList_some, Option.toList_none, List.cons_append, List.nil_append]
            refine i_if_eq 71 33 rfl (by decide) (fun c => ?_) (fun c => ?_)
            · replace h := h.1 c
              refine i_aload_n 38 rfl rfl (by decide) ?_
              refine i_getP (c := 10) (k := 3) (t := 13) (b := 40) 39 rfl fl_349 (by decide) rfl (by decide) rfl ?_
              refine i_getP (c := 3) (k := 1) (t := 106) (b := 41) 40 rfl fl_255 (by decide) rfl (by decide) rfl ?_
              refine i_iload_n 41 rfl rfl ?_
              refine i_aald (τ := 6) (t := 14) (len := 3) (b := (41 + 8 + 9 * a1)) 42 rfl (by decide) rfl h.1.1 h.1.2 ?_
              replace h := h.2
              refine i_astore 43 rfl (by decide) (by decide) rfl ?_
              refine i_iload_n 44 rfl rfl ?_
              refine i_if_ne 97 45 rfl (by decide) (fun c => ?_) (fun c => ?_)
              · replace h := h.1 c
                refine i_aload 51 rfl rfl (by decide) ?_
                refine i_getP (c := 4) (k := 10) (t := 109) (b := ((41 + 8 + 9 * a1) + 8)) 52 rfl fl_222 (by decide) rfl (by decide) rfl ?_
                refine i_iload 53 rfl rfl ?_
                refine i_lald (τ := 9) 54 rfl ⟨rfl, rfl, rfl, by decide⟩ h.1.1 h.1.2 ?_
                replace h := h.2
                replace h := h _ rfl
                refine i_lstore 55 rfl (by decide) rfl ?_
                refine i_aload_n 56 rfl rfl (by decide) ?_
                refine i_getP (c := 10) (k := 7) (t := 12) (b := 86) 57 rfl fl_353 (by decide) rfl (by decide) rfl ?_
                refine i_lload 58 rfl rfl ?_
                refine i_aload 59 rfl rfl (by decide) ?_
                refine i_getP (c := 4) (k := 4) (t := 109) (b := ((41 + 8 + 9 * a1) + 2)) 60 rfl fl_211 (by decide) rfl (by decide) rfl ?_
                refine i_iload 61 rfl rfl ?_
                refine i_lald (τ := 9) 62 rfl ⟨rfl, rfl, rfl, by decide⟩ h.1.1 h.1.2 ?_
                replace h := h.2
                refine i_aload_n 63 rfl rfl (by decide) ?_
                refine i_getP (c := 10) (k := 0) (t := 19) (b := 6) 64 rfl fl_346 (by decide) rfl (by decide) rfl ?_
                refine i_getP (c := 9) (k := 5) (t := 12) (b := 7) 65 rfl fl_118 (by decide) rfl (by decide) rfl ?_
                refine i_getL (c := 2) (k := 1) 66 rfl fl_47 (by decide) rfl ?_
                refine i_lmul 67 rfl ?_
                refine i_callV (c := 2) (y1 := m_X2_put) (z1 := (2, 0, 0)) (z2 := (5, 0, 0)) [(1, ((zM13 ((41 + 8 + 9 * a1) + 8) a2))), (1, (x_W ((zM13 ((41 + 8 + 9 * a1) + 2) a2) * (zM13 7 1))))] 68 rfl ml_592 ok_X2_put vk_X2_put ⟨by decide, rfl⟩ rfl ⟨rfl, Nat.le_of_ble_eq_true rfl⟩ (Nat.le_of_ble_eq_true rfl) ⟨by decide, rfl, rfl, rfl⟩ ?_
                refine h.mono (fun r zM16 h => ?_)
                obtain ⟨rfl, h⟩ := h
                simp only [Option.toList_some, Option.toList_none, List.cons_append, List.nil_append]
                refine i_aload_n 69 rfl rfl (by decide) ?_
                refine i_getP (c := 10) (k := 7) (t := 12) (b := 86) 70 rfl fl_353 (by decide) rfl (by decide) rfl ?_
                refine i_iload 71 rfl rfl ?_
                refine i_callV (c := 2) (y1 := m_X2_side) (z1 := (1, 0, 0)) (z2 := (5, 0, 0)) [(0, a4)] 72 rfl ml_612 ok_X2_side vk_X2_side ⟨by decide, rfl⟩ rfl ⟨rfl, Nat.le_of_ble_eq_true rfl⟩ (Nat.le_of_ble_eq_true rfl) ⟨by decide, rfl, rfl, rfl⟩ ?_
                refine h.mono (fun r zM17 h => ?_)
                obtain ⟨zr18, rfl, h⟩ := h
                simp only [Option.toList_some, Option.toList_none, List.cons_append, List.nil_append]
                exact i_lreturn 73 rfl rfl h
              · replace h := h.2 c
                refine i_aload 46 rfl rfl (by decide) ?_
                refine i_getP (c := 4) (k := 9) (t := 109) (b := ((41 + 8 + 9 * a1) + 7)) 47 rfl fl_219 (by decide) rfl (by decide) rfl ?_
                refine i_iload 48 rfl rfl ?_
                refine i_lald (τ := 9) 49 rfl ⟨rfl, rfl, rfl, by decide⟩ h.1.1 h.1.2 ?_
                replace h := h.2
                refine i_goto 105 50 rfl (by decide) ?_
                replace h := h _ rfl
                refine i_lstore 55 rfl (by decide) rfl ?_
                refine i_aload_n 56 rfl rfl (by decide) ?_
                refine i_getP (c := 10) (k := 7) (t := 12) (b := 86) 57 rfl fl_353 (by decide) rfl (by decide) rfl ?_
                refine i_lload 58 rfl rfl ?_
                refine i_aload 59 rfl rfl (by decide) ?_
                refine i_getP (c := 4) (k := 4) (t := 109) (b := ((41 + 8 + 9 * a1) + 2)) 60 rfl fl_211 (by decide) rfl (by decide) rfl ?_
                refine i_iload 61 rfl rfl ?_
                refine i_lald (τ := 9) 62 rfl ⟨rfl, rfl, rfl, by decide⟩ h.1.1 h.1.2 ?_
                replace h := h.2
                refine i_aload_n 63 rfl rfl (by decide) ?_
                refine i_getP (c := 10) (k := 0) (t := 19) (b := 6) 64 rfl fl_346 (by decide) rfl (by decide) rfl ?_
                refine i_getP (c := 9) (k := 5) (t := 12) (b := 7) 65 rfl fl_118 (by decide) rfl (by decide) rfl ?_
                refine i_getL (c := 2) (k := 1) 66 rfl fl_47 (by decide) rfl ?_
                refine i_lmul 67 rfl ?_
                refine i_callV (c := 2) (y1 := m_X2_put) (z1 := (2, 0, 0)) (z2 := (5, 0, 0)) [(1, ((zM13 ((41 + 8 + 9 * a1) + 7) a2))), (1, (x_W ((zM13 ((41 + 8 + 9 * a1) + 2) a2) * (zM13 7 1))))] 68 rfl ml_592 ok_X2_put vk_X2_put ⟨by decide, rfl⟩ rfl ⟨rfl, Nat.le_of_ble_eq_true rfl⟩ (Nat.le_of_ble_eq_true rfl) ⟨by decide, rfl, rfl, rfl⟩ ?_
                refine h.mono (fun r zM20 h => ?_)
                obtain ⟨rfl, h⟩ := h
                simp only [Option.toList_some, Option.toList_none, List.cons_append, List.nil_append]
                refine i_aload_n 69 rfl rfl (by decide) ?_
                refine i_getP (c := 10) (k := 7) (t := 12) (b := 86) 70 rfl fl_353 (by decide) rfl (by decide) rfl ?_
                refine i_iload 71 rfl rfl ?_
                refine i_callV (c := 2) (y1 := m_X2_side) (z1 := (1, 0, 0)) (z2 := (5, 0, 0)) [(0, a4)] 72 rfl ml_612 ok_X2_side vk_X2_side ⟨by decide, rfl⟩ rfl ⟨rfl, Nat.le_of_ble_eq_true rfl⟩ (Nat.le_of_ble_eq_true rfl) ⟨by decide, rfl, rfl, rfl⟩ ?_
                refine h.mono (fun r zM21 h => ?_)
                obtain ⟨zr22, rfl, h⟩ := h
                simp only [Option.toList_some, Option.toList_none, List.cons_append, List.nil_append]
                exact i_lreturn 73 rfl rfl h
            · replace h := h.2 c
              refine i_aload_n 34 rfl rfl (by decide) ?_
              refine i_iconst 35 rfl (by decide) ?_
              refine i_callV (c := 10) (y1 := m_X10_tellLong) (z1 := (1, 0, 0)) (z2 := (5, 0, 0)) [(0, 0)] 36 rfl ml_607 ok_X10_tellLong vk_X10_tellLong ⟨by decide, rfl⟩ rfl ⟨rfl, Nat.le_of_ble_eq_true rfl⟩ (Nat.le_of_ble_eq_true rfl) ⟨by decide, rfl, rfl, rfl⟩ ?_
              refine h.mono (fun r zM23 h => ?_)
              obtain ⟨zr24, rfl, h⟩ := h
              simp only [Option.toList_some, Option.toList_none, List.cons_append, List.nil_append]
              exact i_lreturn 37 rfl rfl h
          · replace h := h.2 c
            refine i_iload 25 rfl rfl ?_
            refine i_goto 53 26 rfl (by decide) ?_
            refine i_istore 28 rfl (by decide) rfl ?_
            refine i_aload_n 29 rfl rfl (by decide) ?_
            refine i_iload_n 30 rfl rfl ?_
            refine i_iload 31 rfl rfl ?_
            refine i_callV (c := 10) (y1 := m_X10_isNoPlan) (z1 := (2, 0, 0)) (z2 := (5, 0, 0)) [(0, a1), (0, zr12)] 32 rfl ml_620 ok_X10_isNoPlan vk_X10_isNoPlan ⟨by decide, rfl⟩ rfl ⟨rfl, Nat.le_of_ble_eq_true rfl⟩ (Nat.le_of_ble_eq_true rfl) ⟨by decide, rfl, rfl, rfl⟩ ?_
            refine h.mono (fun r zM25 h => ?_)
            obtain ⟨zr26, rfl, h⟩ := h
            simp only [Option.toList_some, Option.toList_none, List.cons_append, List.nil_append]
            refine i_if_eq 71 33 rfl (by decide) (fun c => ?_) (fun c => ?_)
            · replace h := h.1 c
              refine i_aload_n 38 rfl rfl (by decide) ?_
              refine i_getP (c := 10) (k := 3) (t := 13) (b := 40) 39 rfl fl_349 (by decide) rfl (by decide) rfl ?_
              refine i_getP (c := 3) (k := 1) (t := 106) (b := 41) 40 rfl fl_255 (by decide) rfl (by decide) rfl ?_
              refine i_iload_n 41 rfl rfl ?_
              refine i_aald (τ := 6) (t := 14) (len := 3) (b := (41 + 8 + 9 * a1)) 42 rfl (by decide) rfl h.1.1 h.1.2 ?_
              replace h := h.2
              refine i_astore 43 rfl (by decide) (by decide) rfl ?_
              refine i_iload_n 44 rfl rfl ?_
              refine i_if_ne 97 45 rfl (by decide) (fun c => ?_) (fun c => ?_)
              · replace h := h.1 c
                refine i_aload 51 rfl rfl (by decide) ?_
                refine i_getP (c := 4) (k := 10) (t := 109) (b := ((41 + 8 + 9 * a1) + 8)) 52 rfl fl_222 (by decide) rfl (by decide) rfl ?_
                refine i_iload 53 rfl rfl ?_
                refine i_lald (τ := 9) 54 rfl ⟨rfl, rfl, rfl, by decide⟩ h.1.1 h.1.2 ?_
                replace h := h.2
                replace h := h _ rfl
                refine i_lstore 55 rfl (by decide) rfl ?_
                refine i_aload_n 56 rfl rfl (by decide) ?_
                refine i_getP (c := 10) (k := 7) (t := 12) (b := 86) 57 rfl fl_353 (by decide) rfl (by decide) rfl ?_
                refine i_lload 58 rfl rfl ?_
                refine i_aload 59 rfl rfl (by decide) ?_
                refine i_getP (c := 4) (k := 4) (t := 109) (b := ((41 + 8 + 9 * a1) + 2)) 60 rfl fl_211 (by decide) rfl (by decide) rfl ?_
                refine i_iload 61 rfl rfl ?_
                refine i_lald (τ := 9) 62 rfl ⟨rfl, rfl, rfl, by decide⟩ h.1.1 h.1.2 ?_
                replace h := h.2
                refine i_aload_n 63 rfl rfl (by decide) ?_
                refine i_getP (c := 10) (k := 0) (t := 19) (b := 6) 64 rfl fl_346 (by decide) rfl (by decide) rfl ?_
                refine i_getP (c := 9) (k := 5) (t := 12) (b := 7) 65 rfl fl_118 (by decide) rfl (by decide) rfl ?_
                refine i_getL (c := 2) (k := 1) 66 rfl fl_47 (by decide) rfl ?_
                refine i_lmul 67 rfl ?_
                refine i_callV (c := 2) (y1 := m_X2_put) (z1 := (2, 0, 0)) (z2 := (5, 0, 0)) [(1, ((zM25 ((41 + 8 + 9 * a1) + 8) zr12))), (1, (x_W ((zM25 ((41 + 8 + 9 * a1) + 2) zr12) * (zM25 7 1))))] 68 rfl ml_592 ok_X2_put vk_X2_put ⟨by decide, rfl⟩ rfl ⟨rfl, Nat.le_of_ble_eq_true rfl⟩ (Nat.le_of_ble_eq_true rfl) ⟨by decide, rfl, rfl, rfl⟩ ?_
                refine h.mono (fun r zM28 h => ?_)
                obtain ⟨rfl, h⟩ := h
                simp only [Option.toList_some, Option.toList_none, List.cons_append, List.nil_append]
                refine i_aload_n 69 rfl rfl (by decide) ?_
                refine i_getP (c := 10) (k := 7) (t := 12) (b := 86) 70 rfl fl_353 (by decide) rfl (by decide) rfl ?_
                refine i_iload 71 rfl rfl ?_
                refine i_callV (c := 2) (y1 := m_X2_side) (z1 := (1, 0, 0)) (z2 := (5, 0, 0)) [(0, a4)] 72 rfl ml_612 ok_X2_side vk_X2_side ⟨by decide, rfl⟩ rfl ⟨rfl, Nat.le_of_ble_eq_true rfl⟩ (Nat.le_of_ble_eq_true rfl) ⟨by decide, rfl, rfl, rfl⟩ ?_
                refine h.mono (fun r zM29 h => ?_)
                obtain ⟨zr30, rfl, h⟩ := h
                simp only [Option.toList_some, Option.toList_none, List.cons_append, List.nil_append]
                exact i_lreturn 73 rfl rfl h
              · replace h := h.2 c
                refine i_aload 46 rfl rfl (by decide) ?_
                refine i_getP (c := 4) (k := 9) (t := 109) (b := ((41 + 8 + 9 * a1) + 7)) 47 rfl fl_219 (by decide) rfl (by decide) rfl ?_
                refine i_iload 48 rfl rfl ?_
                refine i_lald (τ := 9) 49 rfl ⟨rfl, rfl, rfl, by decide⟩ h.1.1 h.1.2 ?_
                replace h := h.2
                refine i_goto 105 50 rfl (by decide) ?_
                replace h := h _ rfl
                refine i_lstore 55 rfl (by decide) rfl ?_
                refine i_aload_n 56 rfl rfl (by decide) ?_
                refine i_getP (c := 10) (k := 7) (t := 12) (b := 86) 57 rfl fl_353 (by decide) rfl (by decide) rfl ?_
                refine i_lload 58 rfl rfl ?_
                refine i_aload 59 rfl rfl (by decide) ?_
                refine i_getP (c := 4) (k := 4) (t := 109) (b := ((41 + 8 + 9 * a1) + 2)) 60 rfl fl_211 (by decide) rfl (by decide) rfl ?_
                refine i_iload 61 rfl rfl ?_
                refine i_lald (τ := 9) 62 rfl ⟨rfl, rfl, rfl, by decide⟩ h.1.1 h.1.2 ?_
                replace h := h.2
                refine i_aload_n 63 rfl rfl (by decide) ?_
                refine i_getP (c := 10) (k := 0) (t := 19) (b := 6) 64 rfl fl_346 (by decide) rfl (by decide) rfl ?_
                refine i_getP (c := 9) (k := 5) (t := 12) (b := 7) 65 rfl fl_118 (by decide) rfl (by decide) rfl ?_
                refine i_getL (c := 2) (k := 1) 66 rfl fl_47 (by decide) rfl ?_
                refine i_lmul 67 rfl ?_
                refine i_callV (c := 2) (y1 := m_X2_put) (z1 := (2, 0, 0)) (z2 := (5, 0, 0)) [(1, ((zM25 ((41 + 8 + 9 * a1) + 7) zr12))), (1, (x_W ((zM25 ((41 + 8 + 9 * a1) + 2) zr12) * (zM25 7 1))))] 68 rfl ml_592 ok_X2_put vk_X2_put ⟨by decide, rfl⟩ rfl ⟨rfl, Nat.le_of_ble_eq_true rfl⟩ (Nat.le_of_ble_eq_true rfl) ⟨by decide, rfl, rfl, rfl⟩ ?_
                refine h.mono (fun r zM32 h => ?_)
                obtain ⟨rfl, h⟩ := h
                simp only [Option.toList_some, Option.toList_none, List.cons_append, List.nil_append]
                refine i_aload_n 69 rfl rfl (by decide) ?_
                refine i_getP (c := 10) (k := 7) (t := 12) (b := 86) 70 rfl fl_353 (by decide) rfl (by decide) rfl ?_
                refine i_iload 71 rfl rfl ?_
                refine i_callV (c := 2) (y1 := m_X2_side) (z1 := (1, 0, 0)) (z2 := (5, 0, 0)) [(0, a4)] 72 rfl ml_612 ok_X2_side vk_X2_side ⟨by decide, rfl⟩ rfl ⟨rfl, Nat.le_of_ble_eq_true rfl⟩ (Nat.le_of_ble_eq_true rfl) ⟨by decide, rfl, rfl, rfl⟩ ?_
                refine h.mono (fun r zM33 h => ?_)
                obtain ⟨zr34, rfl, h⟩ := h
                simp only [Option.toList_some, Option.toList_none, List.cons_append, List.nil_append]
                exact i_lreturn 73 rfl rfl h
            · replace h := h.2 c
              refine i_aload_n 34 rfl rfl (by decide) ?_
              refine i_iconst 35 rfl (by decide) ?_
              refine i_callV (c := 10) (y1 := m_X10_tellLong) (z1 := (1, 0, 0)) (z2 := (5, 0, 0)) [(0, 0)] 36 rfl ml_607 ok_X10_tellLong vk_X10_tellLong ⟨by decide, rfl⟩ rfl ⟨rfl, Nat.le_of_ble_eq_true rfl⟩ (Nat.le_of_ble_eq_true rfl) ⟨by decide, rfl, rfl, rfl⟩ ?_
              refine h.mono (fun r zM35 h => ?_)
              obtain ⟨zr36, rfl, h⟩ := h
              simp only [Option.toList_some, Option.toList_none, List.cons_append, List.nil_append]
              exact i_lreturn 37 rfl rfl h
        · replace h := h.2 c
          refine i_aload_n 13 rfl rfl (by decide) ?_
          refine i_iconst 14 rfl (by decide) ?_
          refine i_callV (c := 10) (y1 := m_X10_tellLong) (z1 := (1, 0, 0)) (z2 := (5, 0, 0)) [(0, 0)] 15 rfl ml_607 ok_X10_tellLong vk_X10_tellLong ⟨by decide, rfl⟩ rfl ⟨rfl, Nat.le_of_ble_eq_true rfl⟩ (Nat.le_of_ble_eq_true rfl) ⟨by decide, rfl, rfl, rfl⟩ ?_
          refine h.mono (fun r zM37 h => ?_)
          obtain ⟨zr38, rfl, h⟩ := h
          simp only [Option.toList_some, Option.toList_none, List.cons_append, List.nil_append]
          exact i_lreturn 16 rfl rfl h
theorem u_X10_total_0 {l : Launch} {E : xE} (a1 a2 : Int) {M : xM} {Q : Option xV → xM → Prop} (h : (a1 < 0 → x_Ev l E (1, 0, 0) m_X10_tellLong 0 [(20, 5), (0, 0)] [] M (fun r zM1 => ∃ zr2, r = some (1, zr2) ∧ Q (some (1, zr2)) zM1)) ∧ (¬ a1 < 0 → (2 < a1 → x_Ev l E (1, 0, 0) m_X10_tellLong 0 [(20, 5), (0, 0)] [] M (fun r zM3 => ∃ zr4, r = some (1, zr4) ∧ Q (some (1, zr4)) zM3)) ∧ (¬ 2 < a1 → x_Ev l E (1, 0, 0) m_X10_isNoPart 0 [(20, 5), (0, a2)] [] M (fun r zM5 => ∃ zr6, r = some (0, zr6) ∧ (zr6 = 0 → (¬ a1 = 1 → (¬ a1 = 2 → x_Ev l E (4, 0, 0) m_X3_standAll 0 [(13, 40), (1, (zM5 7 0)), (5, 0), (1, (zM5 7 1)), (5, 0), (5, 0)] [] zM5 (fun r zM7 => r = none ∧ x_Ev l E (4, 0, 0) m_X3_addUp 0 [(13, 40), (0, 1), (0, a1), (12, 86), (5, 0), (5, 0), (5, 0), (5, 0), (5, 0), (5, 0), (5, 0), (5, 0)] [] zM7 (fun r zM8 => r = none ∧ x_Ev l E (1, 0, 0) m_X2_side 0 [(12, 86), (0, a2)] [] zM8 (fun r zM9 => ∃ zr10, r = some (1, zr10) ∧ Q (some (1, zr10)) zM9)))) ∧ (a1 = 2 → ((zM5 7 0) < (x_W ((zM5 6 1) * (zM5 7 1))) → x_Ev l E (4, 0, 0) m_X3_standAll 0 [(13, 40), (1, (zM5 7 0)), (5, 0), (1, (zM5 7 1)), (5, 0), (5, 0)] [] zM5 (fun r zM11 => r = none ∧ x_Ev l E (4, 0, 0) m_X3_addUp 0 [(13, 40), (0, 1), (0, a1), (12, 86), (5, 0), (5, 0), (5, 0), (5, 0), (5, 0), (5, 0), (5, 0), (5, 0)] [] zM11 (fun r zM12 => r = none ∧ x_Ev l E (1, 0, 0) m_X2_side 0 [(12, 86), (0, a2)] [] zM12 (fun r zM13 => ∃ zr14, r = some (1, zr14) ∧ Q (some (1, zr14)) zM13)))) ∧ (¬ (zM5 7 0) < (x_W ((zM5 6 1) * (zM5 7 1))) → x_Ev l E (1, 0, 0) m_X10_tellLong 0 [(20, 5), (0, 3)] [] zM5 (fun r zM15 => ∃ zr16, r = some (1, zr16) ∧ Q (some (1, zr16)) zM15)))) ∧ (a1 = 1 → ((zM5 7 0) = 0 → x_Ev l E (1, 0, 0) m_X10_tellLong 0 [(20, 5), (0, 3)] [] zM5 (fun r zM17 => ∃ zr18, r = some (1, zr18) ∧ Q (some (1, zr18)) zM17)) ∧ (¬ (zM5 7 0) = 0 → x_Ev l E (4, 0, 0) m_X3_standAll 0 [(13, 40), (1, (zM5 7 0)), (5, 0), (1, (zM5 7 1)), (5, 0), (5, 0)] [] zM5 (fun r zM19 => r = none ∧ x_Ev l E (4, 0, 0) m_X3_addUp 0 [(13, 40), (0, 1), (0, a1), (12, 86), (5, 0), (5, 0), (5, 0), (5, 0), (5, 0), (5, 0), (5, 0), (5, 0)] [] zM19 (fun r zM20 => r = none ∧ x_Ev l E (1, 0, 0) m_X2_side 0 [(12, 86), (0, a2)] [] zM20 (fun r zM21 => ∃ zr22, r = some (1, zr22) ∧ Q (some (1, zr22)) zM21)))))) ∧ (¬ zr6 = 0 → x_Ev l E (1, 0, 0) m_X10_tellLong 0 [(20, 5), (0, 0)] [] zM5 (fun r zM23 => ∃ zr24, r = some (1, zr24) ∧ Q (some (1, zr24)) zM23)))))) : x_Ev l E (5, 0, 0) m_X10_total 0 [(20, 5), (0, a1), (0, a2), (5, 0)] [] M Q := by
  refine i_iload_n 0 rfl rfl ?_
  refine i_if_lt 17 1 rfl (by decide) (fun c => ?_) (fun c => ?_)
  · replace h := h.1 c
    refine i_aload_n 9 rfl rfl (by decide) ?_
    refine i_iconst 10 rfl (by decide) ?_
    refine i_callV (c := 10) (y1 := m_X10_tellLong) (z1 := (1, 0, 0)) (z2 := (5, 0, 0)) [(0, 0)] 11 rfl ml_607 ok_X10_tellLong vk_X10_tellLong ⟨by decide, rfl⟩ rfl ⟨rfl, Nat.le_of_ble_eq_true rfl⟩ (Nat.le_of_ble_eq_true rfl) ⟨by decide, rfl, rfl, rfl⟩ ?_
    refine h.mono (fun r zM1 h => ?_)
    obtain ⟨zr2, rfl, h⟩ := h
    simp only [Option.toList_some, Option.toList_none, List.cons_append, List.nil_append]
    exact i_lreturn 12 rfl rfl h
  · replace h := h.2 c
    refine i_iload_n 2 rfl rfl ?_
    refine i_iconst 3 rfl (by decide) ?_
    refine i_icmp_gt 17 4 rfl (by decide) (fun c => ?_) (fun c => ?_)
    · replace h := h.1 c
      refine i_aload_n 9 rfl rfl (by decide) ?_
      refine i_iconst 10 rfl (by decide) ?_
      refine i_callV (c := 10) (y1 := m_X10_tellLong) (z1 := (1, 0, 0)) (z2 := (5, 0, 0)) [(0, 0)] 11 rfl ml_607 ok_X10_tellLong vk_X10_tellLong ⟨by decide, rfl⟩ rfl ⟨rfl, Nat.le_of_ble_eq_true rfl⟩ (Nat.le_of_ble_eq_true rfl) ⟨by decide, rfl, rfl, rfl⟩ ?_
      refine h.mono (fun r zM3 h => ?_)
      obtain ⟨zr4, rfl, h⟩ := h
      simp only [Option.toList_some, Option.toList_none, List.cons_append, List.nil_append]
      exact i_lreturn 12 rfl rfl h
    · replace h := h.2 c
      refine i_aload_n 5 rfl rfl (by decide) ?_
      refine i_iload_n 6 rfl rfl ?_
      refine i_callV (c := 10) (y1 := m_X10_isNoPart) (z1 := (1, 0, 0)) (z2 := (5, 0, 0)) [(0, a2)] 7 rfl ml_603 ok_X10_isNoPart vk_X10_isNoPart ⟨by decide, rfl⟩ rfl ⟨rfl, Nat.le_of_ble_eq_true rfl⟩ (Nat.le_of_ble_eq_true rfl) ⟨by decide, rfl, rfl, rfl⟩ ?_
      refine h.mono (fun r zM5 h => ?_)
      obtain ⟨zr6, rfl, h⟩ := h
      simp only [Option.toList_some, Option.toList_none, List.cons_append, List.nil_append]
      refine i_if_eq 23 8 rfl (by decide) (fun c => ?_) (fun c => ?_)
      · replace h := h.1 c
        refine i_aload_n 13 rfl rfl (by decide) ?_
        refine i_getP (c := 10) (k := 0) (t := 19) (b := 6) 14 rfl fl_346 (by decide) rfl (by decide) rfl ?_
        refine i_getP (c := 9) (k := 5) (t := 12) (b := 7) 15 rfl fl_118 (by decide) rfl (by decide) rfl ?_
        refine i_astore_n 16 rfl (by decide) (by decide) rfl ?_
        refine i_iload_n 17 rfl rfl ?_
        refine i_iconst 18 rfl (by decide) ?_
        refine i_icmp_ne 45 19 rfl (by decide) (fun c => ?_) (fun c => ?_)
        · replace h := h.1 c
          refine i_iload_n 25 rfl rfl ?_
          refine i_iconst 26 rfl (by decide) ?_
          refine i_icmp_ne 77 27 rfl (by decide) (fun c => ?_) (fun c => ?_)
          · replace h := h.1 c
            refine i_aload_n 43 rfl rfl (by decide) ?_
            refine i_getP (c := 10) (k := 3) (t := 13) (b := 40) 44 rfl fl_349 (by decide) rfl (by decide) rfl ?_
            refine i_aload_n 45 rfl rfl (by decide) ?_
            refine i_getL (c := 2) (k := 0) 46 rfl fl_41 (by decide) rfl ?_
            refine i_aload_n 47 rfl rfl (by decide) ?_
            refine i_getL (c := 2) (k := 1) 48 rfl fl_47 (by decide) rfl ?_
            refine i_callV (c := 3) (y1 := m_X3_standAll) (z1 := (4, 0, 0)) (z2 := (5, 0, 0)) [(1, (zM5 7 0)), (1, (zM5 7 1))] 49 rfl ml_632 ok_X3_standAll vk_X3_standAll ⟨by decide, rfl⟩ rfl ⟨rfl, Nat.le_of_ble_eq_true rfl⟩ (Nat.le_of_ble_eq_true rfl) ⟨by decide, rfl, rfl, rfl⟩ ?_
            refine h.mono (fun r zM7 h => ?_)
            obtain ⟨rfl, h⟩ := h
            simp only [Option.toList_some, Option.toList_none, List.cons_append, List.nil_append]
            refine i_aload_n 50 rfl rfl (by decide) ?_
            refine i_getP (c := 10) (k := 3) (t := 13) (b := 40) 51 rfl fl_349 (by decide) rfl (by decide) rfl ?_
            refine i_iconst 52 rfl (by decide) ?_
            refine i_iload_n 53 rfl rfl ?_
            refine i_aload_n 54 rfl rfl (by decide) ?_
            refine i_getP (c := 10) (k := 7) (t := 12) (b := 86) 55 rfl fl_353 (by decide) rfl (by decide) rfl ?_
            refine i_callV (c := 3) (y1 := m_X3_addUp) (z1 := (4, 0, 0)) (z2 := (5, 0, 0)) [(0, 1), (0, a1), (12, 86)] 56 rfl ml_636 ok_X3_addUp vk_X3_addUp ⟨by decide, rfl⟩ rfl ⟨rfl, Nat.le_of_ble_eq_true rfl⟩ (Nat.le_of_ble_eq_true rfl) ⟨by decide, rfl, rfl, rfl⟩ ?_
            refine h.mono (fun r zM8 h => ?_)
            obtain ⟨rfl, h⟩ := h
            simp only [Option.toList_some, Option.toList_none, List.cons_append, List.nil_append]
            refine i_aload_n 57 rfl rfl (by decide) ?_
            refine i_getP (c := 10) (k := 7) (t := 12) (b := 86) 58 rfl fl_353 (by decide) rfl (by decide) rfl ?_
            refine i_iload_n 59 rfl rfl ?_
            refine i_callV (c := 2) (y1 := m_X2_side) (z1 := (1, 0, 0)) (z2 := (5, 0, 0)) [(0, a2)] 60 rfl ml_612 ok_X2_side vk_X2_side ⟨by decide, rfl⟩ rfl ⟨rfl, Nat.le_of_ble_eq_true rfl⟩ (Nat.le_of_ble_eq_true rfl) ⟨by decide, rfl, rfl, rfl⟩ ?_
            refine h.mono (fun r zM9 h => ?_)
            obtain ⟨zr10, rfl, h⟩ := h
            simp only [Option.toList_some, Option.toList_none, List.cons_append, List.nil_append]
            exact i_lreturn 61 rfl rfl h
          · replace h := h.2 c
            refine i_aload_n 28 rfl rfl (by decide) ?_
            refine i_getL (c := 2) (k := 0) 29 rfl fl_41 (by decide) rfl ?_
            refine i_aload_n 30 rfl rfl (by decide) ?_
            refine i_getP (c := 10) (k := 0) (t := 19) (b := 6) 31 rfl fl_346 (by decide) rfl (by decide) rfl ?_
            refine i_getI (c := 9) (k := 1) 32 rfl fl_109 (by decide) (by decide) ?_
            refine i_i2l 33 rfl ?_
            refine i_aload_n 34 rfl rfl (by decide) ?_
            refine i_getL (c := 2) (k := 1) 35 rfl fl_47 (by decide) rfl ?_
            refine i_lmul 36 rfl ?_
            refine i_lcmp_lt 77 37 rfl rfl (by decide) (fun c => ?_) (fun c => ?_)
            · replace h := h.1 c
              refine i_aload_n 43 rfl rfl (by decide) ?_
              refine i_getP (c := 10) (k := 3) (t := 13) (b := 40) 44 rfl fl_349 (by decide) rfl (by decide) rfl ?_
              refine i_aload_n 45 rfl rfl (by decide) ?_
              refine i_getL (c := 2) (k := 0) 46 rfl fl_41 (by decide) rfl ?_
              refine i_aload_n 47 rfl rfl (by decide) ?_
              refine i_getL (c := 2) (k := 1) 48 rfl fl_47 (by decide) rfl ?_
              refine i_callV (c := 3) (y1 := m_X3_standAll) (z1 := (4, 0, 0)) (z2 := (5, 0, 0)) [(1, (zM5 7 0)), (1, (zM5 7 1))] 49 rfl ml_632 ok_X3_standAll vk_X3_standAll ⟨by decide, rfl⟩ rfl ⟨rfl, Nat.le_of_ble_eq_true rfl⟩ (Nat.le_of_ble_eq_true rfl) ⟨by decide, rfl, rfl, rfl⟩ ?_
              refine h.mono (fun r zM11 h => ?_)
              obtain ⟨rfl, h⟩ := h
              simp only [Option.toList_some, Option.toList_none, List.cons_append, List.nil_append]
              refine i_aload_n 50 rfl rfl (by decide) ?_
              refine i_getP (c := 10) (k := 3) (t := 13) (b := 40) 51 rfl fl_349 (by decide) rfl (by decide) rfl ?_
              refine i_iconst 52 rfl (by decide) ?_
              refine i_iload_n 53 rfl rfl ?_
              refine i_aload_n 54 rfl rfl (by decide) ?_
              refine i_getP (c := 10) (k := 7) (t := 12) (b := 86) 55 rfl fl_353 (by decide) rfl (by decide) rfl ?_
              refine i_callV (c := 3) (y1 := m_X3_addUp) (z1 := (4, 0, 0)) (z2 := (5, 0, 0)) [(0, 1), (0, a1), (12, 86)] 56 rfl ml_636 ok_X3_addUp vk_X3_addUp ⟨by decide, rfl⟩ rfl ⟨rfl, Nat.le_of_ble_eq_true rfl⟩ (Nat.le_of_ble_eq_true rfl) ⟨by decide, rfl, rfl, rfl⟩ ?_
              refine h.mono (fun r zM12 h => ?_)
              obtain ⟨rfl, h⟩ := h
              simp only [Option.toList_some, Option.toList_none, List.cons_append, List.nil_append]
              refine i_aload_n 57 rfl rfl (by decide) ?_
              refine i_getP (c := 10) (k := 7) (t := 12) (b := 86) 58 rfl fl_353 (by decide) rfl (by decide) rfl ?_
              refine i_iload_n 59 rfl rfl ?_
              refine i_callV (c := 2) (y1 := m_X2_side) (z1 := (1, 0, 0)) (z2 := (5, 0, 0)) [(0, a2)] 60 rfl ml_612 ok_X2_side vk_X2_side ⟨by decide, rfl⟩ rfl ⟨rfl, Nat.le_of_ble_eq_true rfl⟩ (Nat.le_of_ble_eq_true rfl) ⟨by decide, rfl, rfl, rfl⟩ ?_
              refine h.mono (fun r zM13 h => ?_)
              obtain ⟨zr14, rfl, h⟩ := h
              simp only [Option.toList_some, Option.toList_none, List.cons_append, List.nil_append]
              exact i_lreturn 61 rfl rfl h
            · replace h := h.2 c
              refine i_aload_n 39 rfl rfl (by decide) ?_
              refine i_iconst 40 rfl (by decide) ?_
              refine i_callV (c := 10) (y1 := m_X10_tellLong) (z1 := (1, 0, 0)) (z2 := (5, 0, 0)) [(0, 3)] 41 rfl ml_607 ok_X10_tellLong vk_X10_tellLong ⟨by decide, rfl⟩ rfl ⟨rfl, Nat.le_of_ble_eq_true rfl⟩ (Nat.le_of_ble_eq_true rfl) ⟨by decide, rfl, rfl, rfl⟩ ?_
              refine h.mono (fun r zM15 h => ?_)
              obtain ⟨zr16, rfl, h⟩ := h
              simp only [Option.toList_some, Option.toList_none, List.cons_append, List.nil_append]
              exact i_lreturn 42 rfl rfl h
        · replace h := h.2 c
          refine i_aload_n 20 rfl rfl (by decide) ?_
          refine i_getL (c := 2) (k := 0) 21 rfl fl_41 (by decide) rfl ?_
          refine i_lconst (w := 0) 22 rfl (by decide) ?_
          refine i_lcmp_eq 71 23 rfl rfl (by decide) (fun c => ?_) (fun c => ?_)
          · replace h := h.1 c
            refine i_aload_n 39 rfl rfl (by decide) ?_
            refine i_iconst 40 rfl (by decide) ?_
            refine i_callV (c := 10) (y1 := m_X10_tellLong) (z1 := (1, 0, 0)) (z2 := (5, 0, 0)) [(0, 3)] 41 rfl ml_607 ok_X10_tellLong vk_X10_tellLong ⟨by decide, rfl⟩ rfl ⟨rfl, Nat.le_of_ble_eq_true rfl⟩ (Nat.le_of_ble_eq_true rfl) ⟨by decide, rfl, rfl, rfl⟩ ?_
            refine h.mono (fun r zM17 h => ?_)
            obtain ⟨zr18, rfl, h⟩ := h
            simp only [Option.toList_some, Option.toList_none, List.cons_append, List.nil_append]
            exact i_lreturn 42 rfl rfl h
          · replace h := h.2 c
            refine i_iload_n 25 rfl rfl ?_
            refine i_iconst 26 rfl (by decide) ?_
            refine i_icmp_ne 77 27 rfl (by decide) (fun c => ?_) (fun c => ?_)
            · refine i_aload_n 43 rfl rfl (by decide) ?_
              refine i_getP (c := 10) (k := 3) (t := 13) (b := 40) 44 rfl fl_349 (by decide) rfl (by decide) rfl ?_
              refine i_aload_n 45 rfl rfl (by decide) ?_
              refine i_getL (c := 2) (k := 0) 46 rfl fl_41 (by decide) rfl ?_
              refine i_aload_n 47 rfl rfl (by decide) ?_
              refine i_getL (c := 2) (k := 1) 48 rfl fl_47 (by decide) rfl ?_
              refine i_callV (c := 3) (y1 := m_X3_standAll) (z1 := (4, 0, 0)) (z2 := (5, 0, 0)) [(1, (zM5 7 0)), (1, (zM5 7 1))] 49 rfl ml_632 ok_X3_standAll vk_X3_standAll ⟨by decide, rfl⟩ rfl ⟨rfl, Nat.le_of_ble_eq_true rfl⟩ (Nat.le_of_ble_eq_true rfl) ⟨by decide, rfl, rfl, rfl⟩ ?_
              refine h.mono (fun r zM19 h => ?_)
              obtain ⟨rfl, h⟩ := h
              simp only [Option.toList_some, Option.toList_none, List.cons_append, List.nil_append]
              refine i_aload_n 50 rfl rfl (by decide) ?_
              refine i_getP (c := 10) (k := 3) (t := 13) (b := 40) 51 rfl fl_349 (by decide) rfl (by decide) rfl ?_
              refine i_iconst 52 rfl (by decide) ?_
              refine i_iload_n 53 rfl rfl ?_
              refine i_aload_n 54 rfl rfl (by decide) ?_
              refine i_getP (c := 10) (k := 7) (t := 12) (b := 86) 55 rfl fl_353 (by decide) rfl (by decide) rfl ?_
              refine i_callV (c := 3) (y1 := m_X3_addUp) (z1 := (4, 0, 0)) (z2 := (5, 0, 0)) [(0, 1), (0, a1), (12, 86)] 56 rfl ml_636 ok_X3_addUp vk_X3_addUp ⟨by decide, rfl⟩ rfl ⟨rfl, Nat.le_of_ble_eq_true rfl⟩ (Nat.le_of_ble_eq_true rfl) ⟨by decide, rfl, rfl, rfl⟩ ?_
              refine h.mono (fun r zM20 h => ?_)
              obtain ⟨rfl, h⟩ := h
              simp only [Option.toList_some, Option.toList_none, List.cons_append, List.nil_append]
              refine i_aload_n 57 rfl rfl (by decide) ?_
              refine i_getP (c := 10) (k := 7) (t := 12) (b := 86) 58 rfl fl_353 (by decide) rfl (by decide) rfl ?_
              refine i_iload_n 59 rfl rfl ?_
              refine i_callV (c := 2) (y1 := m_X2_side) (z1 := (1, 0, 0)) (z2 := (5, 0, 0)) [(0, a2)] 60 rfl ml_612 ok_X2_side vk_X2_side ⟨by decide, rfl⟩ rfl ⟨rfl, Nat.le_of_ble_eq_true rfl⟩ (Nat.le_of_ble_eq_true rfl) ⟨by decide, rfl, rfl, rfl⟩ ?_
              refine h.mono (fun r zM21 h => ?_)
              obtain ⟨zr22, rfl, h⟩ := h
              simp only [Option.toList_some, Option.toList_none, List.cons_append, List.nil_append]
              exact i_lreturn 61 rfl rfl h
            · exact absurd c (by omega)
      · replace h := h.2 c
        refine i_aload_n 9 rfl rfl (by decide) ?_
        refine i_iconst 10 rfl (by decide) ?_
        refine i_callV (c := 10) (y1 := m_X10_tellLong) (z1 := (1, 0, 0)) (z2 := (5, 0, 0)) [(0, 0)] 11 rfl ml_607 ok_X10_tellLong vk_X10_tellLong ⟨by decide, rfl⟩ rfl ⟨rfl, Nat.le_of_ble_eq_true rfl⟩ (Nat.le_of_ble_eq_true rfl) ⟨by decide, rfl, rfl, rfl⟩ ?_
        refine h.mono (fun r zM23 h => ?_)
        obtain ⟨zr24, rfl, h⟩ := h
        simp only [Option.toList_some, Option.toList_none, List.cons_append, List.nil_append]
        exact i_lreturn 12 rfl rfl h
theorem u_X10_opens_0 {l : Launch} {E : xE} (a1 a2 : Int) {M : xM} {Q : Option xV → xM → Prop} (h : x_Ev l E (1, 0, 0) m_X10_isNoFollower 0 [(20, 5), (0, a1)] [] M (fun r zM1 => ∃ zr2, r = some (0, zr2) ∧ (¬ zr2 = 0 → x_Ev l E (1, 0, 0) m_X10_tell 0 [(20, 5), (0, 0)] [] zM1 (fun r zM3 => ∃ zr4, r = some (0, zr4) ∧ Q (some (0, zr4)) zM3)) ∧ (zr2 = 0 → (a2 < 0 → x_Ev l E (1, 0, 0) m_X10_tell 0 [(20, 5), (0, 0)] [] zM1 (fun r zM5 => ∃ zr6, r = some (0, zr6) ∧ Q (some (0, zr6)) zM5)) ∧ (¬ a2 < 0 → (a2 ≤ 2 → x_Ev l E (5, 0, 0) m_X10_findPrices 0 [(20, 5), (0, a1)] [] zM1 (fun r zM7 => r = none ∧ (¬ a2 = 2 → ((0 : Int) ≤ a1 ∧ (a1 : Int) < 3) ∧ x_Ev l E (1, 0, 0) m_X1_pairs 0 [(11, (8 + 1 + 4 * a1))] [] zM7 (fun r zM8 => ∃ zr9, r = some (0, zr9) ∧ (¬ a2 = 0 → x_Ev l E (6, 0, 0) m_X10_opens 72 [(20, 5), (0, a1), (0, a2), (0, zr9), (0, 0), (0, 0), (0, 0)] [] zM8 Q) ∧ (a2 = 0 → x_Ev l E (6, 0, 0) m_X10_opens 72 [(20, 5), (0, a1), (0, a2), (0, zr9), (0, zr9), (0, 0), (0, zr9)] [] zM8 Q))) ∧ (a2 = 2 → Q (some (0, (zM7 76 2))) zM7))) ∧ (¬ a2 ≤ 2 → x_Ev l E (1, 0, 0) m_X10_tell 0 [(20, 5), (0, 0)] [] zM1 (fun r zM10 => ∃ zr11, r = some (0, zr11) ∧ Q (some (0, zr11)) zM10)))))) : x_Ev l E (6, 0, 0) m_X10_opens 0 [(20, 5), (0, a1), (0, a2), (5, 0), (5, 0), (5, 0), (5, 0)] [] M Q := by
  refine i_aload_n 0 rfl rfl (by decide) ?_
  refine i_iload_n 1 rfl rfl ?_
  refine i_callV (c := 10) (y1 := m_X10_isNoFollower) (z1 := (1, 0, 0)) (z2 := (6, 0, 0)) [(0, a1)] 2 rfl ml_488 ok_X10_isNoFollower vk_X10_isNoFollower ⟨by decide, rfl⟩ rfl ⟨rfl, Nat.le_of_ble_eq_true rfl⟩ (Nat.le_of_ble_eq_true rfl) ⟨by decide, rfl, rfl, rfl⟩ ?_
  refine h.mono (fun r zM1 h => ?_)
  obtain ⟨zr2, rfl, h⟩ := h
  simp only [Option.toList_some, Option.toList_none, List.cons_append, List.nil_append]
  refine i_if_ne 17 3 rfl (by decide) (fun c => ?_) (fun c => ?_)
  · replace h := h.1 c
    refine i_aload_n 9 rfl rfl (by decide) ?_
    refine i_iconst 10 rfl (by decide) ?_
    refine i_callV (c := 10) (y1 := m_X10_tell) (z1 := (1, 0, 0)) (z2 := (6, 0, 0)) [(0, 0)] 11 rfl ml_400 ok_X10_tell vk_X10_tell ⟨by decide, rfl⟩ rfl ⟨rfl, Nat.le_of_ble_eq_true rfl⟩ (Nat.le_of_ble_eq_true rfl) ⟨by decide, rfl, rfl, rfl⟩ ?_
    refine h.mono (fun r zM3 h => ?_)
    obtain ⟨zr4, rfl, h⟩ := h
    simp only [Option.toList_some, Option.toList_none, List.cons_append, List.nil_append]
    exact i_ireturn 12 rfl rfl h
  · replace h := h.2 c
    refine i_iload_n 4 rfl rfl ?_
    refine i_if_lt 17 5 rfl (by decide) (fun c => ?_) (fun c => ?_)
    · replace h := h.1 c
      refine i_aload_n 9 rfl rfl (by decide) ?_
      refine i_iconst 10 rfl (by decide) ?_
      refine i_callV (c := 10) (y1 := m_X10_tell) (z1 := (1, 0, 0)) (z2 := (6, 0, 0)) [(0, 0)] 11 rfl ml_400 ok_X10_tell vk_X10_tell ⟨by decide, rfl⟩ rfl ⟨rfl, Nat.le_of_ble_eq_true rfl⟩ (Nat.le_of_ble_eq_true rfl) ⟨by decide, rfl, rfl, rfl⟩ ?_
      refine h.mono (fun r zM5 h => ?_)
      obtain ⟨zr6, rfl, h⟩ := h
      simp only [Option.toList_some, Option.toList_none, List.cons_append, List.nil_append]
      exact i_ireturn 12 rfl rfl h
    · replace h := h.2 c
      refine i_iload_n 6 rfl rfl ?_
      refine i_iconst 7 rfl (by decide) ?_
      refine i_icmp_le 23 8 rfl (by decide) (fun c => ?_) (fun c => ?_)
      · replace h := h.1 c
        refine i_aload_n 13 rfl rfl (by decide) ?_
        refine i_iload_n 14 rfl rfl ?_
        refine i_callV (c := 10) (y1 := m_X10_findPrices) (z1 := (5, 0, 0)) (z2 := (6, 0, 0)) [(0, a1)] 15 rfl ml_645 ok_X10_findPrices vk_X10_findPrices ⟨by decide, rfl⟩ rfl ⟨rfl, Nat.le_of_ble_eq_true rfl⟩ (Nat.le_of_ble_eq_true rfl) ⟨by decide, rfl, rfl, rfl⟩ ?_
        refine h.mono (fun r zM7 h => ?_)
        obtain ⟨rfl, h⟩ := h
        simp only [Option.toList_some, Option.toList_none, List.cons_append, List.nil_append]
        refine i_iload_n 16 rfl rfl ?_
        refine i_iconst 17 rfl (by decide) ?_
        refine i_icmp_ne 41 18 rfl (by decide) (fun c => ?_) (fun c => ?_)
        · replace h := h.1 c
          refine i_aload_n 23 rfl rfl (by decide) ?_
          refine i_getP (c := 10) (k := 0) (t := 19) (b := 6) 24 rfl fl_346 (by decide) rfl (by decide) rfl ?_
          refine i_getP (c := 9) (k := 6) (t := 100) (b := 8) 25 rfl fl_121 (by decide) rfl (by decide) rfl ?_
          refine i_iload_n 26 rfl rfl ?_
          refine i_aald (τ := 0) (t := 11) (len := 3) (b := (8 + 1 + 4 * a1)) 27 rfl (by decide) rfl h.1.1 h.1.2 ?_
          replace h := h.2
          refine i_callV (c := 1) (y1 := m_X1_pairs) (z1 := (1, 0, 0)) (z2 := (6, 0, 0)) [] 28 rfl ml_682 ok_X1_pairs vk_X1_pairs ⟨by decide, rfl⟩ rfl ⟨rfl, Nat.le_of_ble_eq_true rfl⟩ (Nat.le_of_ble_eq_true rfl) ⟨by decide, rfl, rfl, rfl⟩ ?_
          refine h.mono (fun r zM8 h => ?_)
          obtain ⟨zr9, rfl, h⟩ := h
          simp only [Option.toList_some, Option.toList_none, List.cons_append, List.nil_append]
          refine i_istore_n 29 rfl (by decide) rfl ?_
          refine i_iload_n 30 rfl rfl ?_
          refine i_if_ne 62 31 rfl (by decide) (fun c => ?_) (fun c => ?_)
          · replace h := h.1 c
            refine i_iconst 34 rfl (by decide) ?_
            refine i_istore 35 rfl (by decide) rfl ?_
            refine i_iconst 36 rfl (by decide) ?_
            refine i_istore 37 rfl (by decide) rfl ?_
            refine i_iload 38 rfl rfl ?_
            refine i_istore 39 rfl (by decide) rfl ?_
            exact h
          · replace h := h.2 c
            refine i_iload_n 32 rfl rfl ?_
            refine i_goto 63 33 rfl (by decide) ?_
            refine i_istore 35 rfl (by decide) rfl ?_
            refine i_iconst 36 rfl (by decide) ?_
            refine i_istore 37 rfl (by decide) rfl ?_
            refine i_iload 38 rfl rfl ?_
            refine i_istore 39 rfl (by decide) rfl ?_
            exact h
        · replace h := h.2 c
          refine i_aload_n 19 rfl rfl (by decide) ?_
          refine i_getP (c := 10) (k := 4) (t := 15) (b := 76) 20 rfl fl_350 (by decide) rfl (by decide) rfl ?_
          refine i_getI (c := 5) (k := 2) 21 rfl fl_293 (by decide) (by decide) ?_
          exact i_ireturn 22 rfl rfl h
      · replace h := h.2 c
        refine i_aload_n 9 rfl rfl (by decide) ?_
        refine i_iconst 10 rfl (by decide) ?_
        refine i_callV (c := 10) (y1 := m_X10_tell) (z1 := (1, 0, 0)) (z2 := (6, 0, 0)) [(0, 0)] 11 rfl ml_400 ok_X10_tell vk_X10_tell ⟨by decide, rfl⟩ rfl ⟨rfl, Nat.le_of_ble_eq_true rfl⟩ (Nat.le_of_ble_eq_true rfl) ⟨by decide, rfl, rfl, rfl⟩ ?_
        refine h.mono (fun r zM10 h => ?_)
        obtain ⟨zr11, rfl, h⟩ := h
        simp only [Option.toList_some, Option.toList_none, List.cons_append, List.nil_append]
        exact i_ireturn 12 rfl rfl h
theorem u_X10_opens_72 {l : Launch} {E : xE} (l1 l2 l3 l4 l5 l6 : Int) {M : xM} {Q : Option xV → xM → Prop} (h : (l3 < l6 → Q (some (0, l5)) M) ∧ (¬ l3 < l6 → ((0 : Int) ≤ l1 ∧ (l1 : Int) < 3) ∧ x_Ev l E (3, 0, 0) m_X10_liveNodes 0 [(20, 5), (14, (41 + 8 + 9 * l1)), (0, l6), (5, 0), (5, 0)] [] M (fun r zM1 => ∃ zr2, r = some (0, zr2) ∧ ∀ zv3 : Int, zv3 = (x_w (l5 + zr2)) → ∀ zv4 : Int, zv4 = x_w (l6 + 1) → x_Ev l E (6, 0, 0) m_X10_opens 72 [(20, 5), (0, l1), (0, l2), (0, l3), (0, l4), (0, zv3), (0, zv4)] [] zM1 Q))) : x_Ev l E (6, 0, 0) m_X10_opens 72 [(20, 5), (0, l1), (0, l2), (0, l3), (0, l4), (0, l5), (0, l6)] [] M Q := by
  refine i_iload 40 rfl rfl ?_
  refine i_iload_n 41 rfl rfl ?_
  refine i_icmp_gt 104 42 rfl (by decide) (fun c => ?_) (fun c => ?_)
  · replace h := h.1 c
    refine i_iload 56 rfl rfl ?_
    exact i_ireturn 57 rfl rfl h
  · replace h := h.2 c
    refine i_iload 43 rfl rfl ?_
    refine i_aload_n 44 rfl rfl (by decide) ?_
    refine i_aload_n 45 rfl rfl (by decide) ?_
    refine i_getP (c := 10) (k := 3) (t := 13) (b := 40) 46 rfl fl_349 (by decide) rfl (by decide) rfl ?_
    refine i_getP (c := 3) (k := 1) (t := 106) (b := 41) 47 rfl fl_255 (by decide) rfl (by decide) rfl ?_
    refine i_iload_n 48 rfl rfl ?_
    refine i_aald (τ := 6) (t := 14) (len := 3) (b := (41 + 8 + 9 * l1)) 49 rfl (by decide) rfl h.1.1 h.1.2 ?_
    replace h := h.2
    refine i_iload 50 rfl rfl ?_
    refine i_callV (c := 10) (y1 := m_X10_liveNodes) (z1 := (3, 0, 0)) (z2 := (6, 0, 0)) [(14, (41 + 8 + 9 * l1)), (0, l6)] 51 rfl ml_683 ok_X10_liveNodes vk_X10_liveNodes ⟨by decide, rfl⟩ rfl ⟨rfl, Nat.le_of_ble_eq_true rfl⟩ (Nat.le_of_ble_eq_true rfl) ⟨by decide, rfl, rfl, rfl⟩ ?_
    refine h.mono (fun r zM1 h => ?_)
    obtain ⟨zr2, rfl, h⟩ := h
    simp only [Option.toList_some, Option.toList_none, List.cons_append, List.nil_append]
    refine i_iadd 52 rfl ?_
    replace h := h _ rfl
    refine i_istore 53 rfl (by decide) rfl ?_
    replace h := h _ rfl
    refine i_iinc 54 rfl rfl (by decide) rfl ?_
    refine i_goto 72 55 rfl (by decide) ?_
    exact h
theorem u_X10_openAt_0 {l : Launch} {E : xE} (a1 a2 : Int) {M : xM} {Q : Option xV → xM → Prop} (h : x_Ev l E (1, 0, 0) m_X10_isNoFollower 0 [(20, 5), (0, a1)] [] M (fun r zM1 => ∃ zr2, r = some (0, zr2) ∧ (zr2 = 0 → x_Ev l E (5, 0, 0) m_X10_findPrices 0 [(20, 5), (0, a1)] [] zM1 (fun r zM3 => r = none ∧ ((0 : Int) ≤ a1 ∧ (a1 : Int) < 3) ∧ x_Ev l E (1, 0, 0) m_X1_pairs 0 [(11, (8 + 1 + 4 * a1))] [] zM3 (fun r zM4 => ∃ zr5, r = some (0, zr5) ∧ x_Ev l E (6, 0, 0) m_X10_openAt 38 [(20, 5), (0, a1), (0, a2), (0, zr5), (0, a2), (0, 0)] [] zM4 Q))) ∧ (¬ zr2 = 0 → x_Ev l E (1, 0, 0) m_X10_tell 0 [(20, 5), (0, 0)] [] zM1 (fun r zM6 => ∃ zr7, r = some (0, zr7) ∧ Q (some (0, zr7)) zM6)))) : x_Ev l E (6, 0, 0) m_X10_openAt 0 [(20, 5), (0, a1), (0, a2), (5, 0), (5, 0), (5, 0)] [] M Q := by
  refine i_aload_n 0 rfl rfl (by decide) ?_
  refine i_iload_n 1 rfl rfl ?_
  refine i_callV (c := 10) (y1 := m_X10_isNoFollower) (z1 := (1, 0, 0)) (z2 := (6, 0, 0)) [(0, a1)] 2 rfl ml_488 ok_X10_isNoFollower vk_X10_isNoFollower ⟨by decide, rfl⟩ rfl ⟨rfl, Nat.le_of_ble_eq_true rfl⟩ (Nat.le_of_ble_eq_true rfl) ⟨by decide, rfl, rfl, rfl⟩ ?_
  refine h.mono (fun r zM1 h => ?_)
  obtain ⟨zr2, rfl, h⟩ := h
  simp only [Option.toList_some, Option.toList_none, List.cons_append, List.nil_append]
  refine i_if_eq 14 3 rfl (by decide) (fun c => ?_) (fun c => ?_)
  · replace h := h.1 c
    refine i_aload_n 8 rfl rfl (by decide) ?_
    refine i_iload_n 9 rfl rfl ?_
    refine i_callV (c := 10) (y1 := m_X10_findPrices) (z1 := (5, 0, 0)) (z2 := (6, 0, 0)) [(0, a1)] 10 rfl ml_645 ok_X10_findPrices vk_X10_findPrices ⟨by decide, rfl⟩ rfl ⟨rfl, Nat.le_of_ble_eq_true rfl⟩ (Nat.le_of_ble_eq_true rfl) ⟨by decide, rfl, rfl, rfl⟩ ?_
    refine h.mono (fun r zM3 h => ?_)
    obtain ⟨rfl, h⟩ := h
    simp only [Option.toList_some, Option.toList_none, List.cons_append, List.nil_append]
    refine i_aload_n 11 rfl rfl (by decide) ?_
    refine i_getP (c := 10) (k := 0) (t := 19) (b := 6) 12 rfl fl_346 (by decide) rfl (by decide) rfl ?_
    refine i_getP (c := 9) (k := 6) (t := 100) (b := 8) 13 rfl fl_121 (by decide) rfl (by decide) rfl ?_
    refine i_iload_n 14 rfl rfl ?_
    refine i_aald (τ := 0) (t := 11) (len := 3) (b := (8 + 1 + 4 * a1)) 15 rfl (by decide) rfl h.1.1 h.1.2 ?_
    replace h := h.2
    refine i_callV (c := 1) (y1 := m_X1_pairs) (z1 := (1, 0, 0)) (z2 := (6, 0, 0)) [] 16 rfl ml_682 ok_X1_pairs vk_X1_pairs ⟨by decide, rfl⟩ rfl ⟨rfl, Nat.le_of_ble_eq_true rfl⟩ (Nat.le_of_ble_eq_true rfl) ⟨by decide, rfl, rfl, rfl⟩ ?_
    refine h.mono (fun r zM4 h => ?_)
    obtain ⟨zr5, rfl, h⟩ := h
    simp only [Option.toList_some, Option.toList_none, List.cons_append, List.nil_append]
    refine i_istore_n 17 rfl (by decide) rfl ?_
    refine i_iload_n 18 rfl rfl ?_
    refine i_istore 19 rfl (by decide) rfl ?_
    refine i_iconst 20 rfl (by decide) ?_
    refine i_istore 21 rfl (by decide) rfl ?_
    exact h
  · replace h := h.2 c
    refine i_aload_n 4 rfl rfl (by decide) ?_
    refine i_iconst 5 rfl (by decide) ?_
    refine i_callV (c := 10) (y1 := m_X10_tell) (z1 := (1, 0, 0)) (z2 := (6, 0, 0)) [(0, 0)] 6 rfl ml_400 ok_X10_tell vk_X10_tell ⟨by decide, rfl⟩ rfl ⟨rfl, Nat.le_of_ble_eq_true rfl⟩ (Nat.le_of_ble_eq_true rfl) ⟨by decide, rfl, rfl, rfl⟩ ?_
    refine h.mono (fun r zM6 h => ?_)
    obtain ⟨zr7, rfl, h⟩ := h
    simp only [Option.toList_some, Option.toList_none, List.cons_append, List.nil_append]
    exact i_ireturn 7 rfl rfl h
theorem u_X10_openAt_38 {l : Launch} {E : xE} (l1 l2 l3 l4 l5 : Int) {M : xM} {Q : Option xV → xM → Prop} (h : ((x_ishl 1 l3) ≤ l5 → x_Ev l E (1, 0, 0) m_X10_tell 0 [(20, 5), (0, 3)] [] M (fun r zM1 => ∃ zr2, r = some (0, zr2) ∧ Q (some (0, zr2)) zM1)) ∧ (¬ (x_ishl 1 l3) ≤ l5 → (l4 < 0 → x_Ev l E (1, 0, 0) m_X10_tell 0 [(20, 5), (0, 3)] [] M (fun r zM3 => ∃ zr4, r = some (0, zr4) ∧ Q (some (0, zr4)) zM3)) ∧ (¬ l4 < 0 → ((0 : Int) ≤ l1 ∧ (l1 : Int) < 3) ∧ x_Ev l E (2, 0, 0) m_X10_isLive 0 [(20, 5), (14, (41 + 8 + 9 * l1)), (0, l3), (0, l5), (5, 0)] [] M (fun r zM5 => ∃ zr6, r = some (0, zr6) ∧ (zr6 = 0 → ∀ zv7 : Int, zv7 = x_w (l5 + 1) → x_Ev l E (6, 0, 0) m_X10_openAt 38 [(20, 5), (0, l1), (0, l2), (0, l3), (0, l4), (0, zv7)] [] zM5 Q) ∧ (¬ zr6 = 0 → (¬ l4 = 0 → ∀ zv8 : Int, zv8 = x_w (l4 + (-1)) → ∀ zv9 : Int, zv9 = x_w (l5 + 1) → x_Ev l E (6, 0, 0) m_X10_openAt 38 [(20, 5), (0, l1), (0, l2), (0, l3), (0, zv8), (0, zv9)] [] zM5 Q) ∧ (l4 = 0 → Q (some (0, l5)) zM5)))))) : x_Ev l E (6, 0, 0) m_X10_openAt 38 [(20, 5), (0, l1), (0, l2), (0, l3), (0, l4), (0, l5)] [] M Q := by
  refine i_iload 22 rfl rfl ?_
  refine i_iconst 23 rfl (by decide) ?_
  refine i_iload_n 24 rfl rfl ?_
  refine i_ishl 25 rfl ?_
  refine i_icmp_ge 87 26 rfl (by decide) (fun c => ?_) (fun c => ?_)
  · replace h := h.1 c
    refine i_aload_n 46 rfl rfl (by decide) ?_
    refine i_iconst 47 rfl (by decide) ?_
    refine i_callV (c := 10) (y1 := m_X10_tell) (z1 := (1, 0, 0)) (z2 := (6, 0, 0)) [(0, 3)] 48 rfl ml_400 ok_X10_tell vk_X10_tell ⟨by decide, rfl⟩ rfl ⟨rfl, Nat.le_of_ble_eq_true rfl⟩ (Nat.le_of_ble_eq_true rfl) ⟨by decide, rfl, rfl, rfl⟩ ?_
    refine h.mono (fun r zM1 h => ?_)
    obtain ⟨zr2, rfl, h⟩ := h
    simp only [Option.toList_some, Option.toList_none, List.cons_append, List.nil_append]
    exact i_ireturn 49 rfl rfl h
  · replace h := h.2 c
    refine i_iload 27 rfl rfl ?_
    refine i_if_lt 87 28 rfl (by decide) (fun c => ?_) (fun c => ?_)
    · replace h := h.1 c
      refine i_aload_n 46 rfl rfl (by decide) ?_
      refine i_iconst 47 rfl (by decide) ?_
      refine i_callV (c := 10) (y1 := m_X10_tell) (z1 := (1, 0, 0)) (z2 := (6, 0, 0)) [(0, 3)] 48 rfl ml_400 ok_X10_tell vk_X10_tell ⟨by decide, rfl⟩ rfl ⟨rfl, Nat.le_of_ble_eq_true rfl⟩ (Nat.le_of_ble_eq_true rfl) ⟨by decide, rfl, rfl, rfl⟩ ?_
      refine h.mono (fun r zM3 h => ?_)
      obtain ⟨zr4, rfl, h⟩ := h
      simp only [Option.toList_some, Option.toList_none, List.cons_append, List.nil_append]
      exact i_ireturn 49 rfl rfl h
    · replace h := h.2 c
      refine i_aload_n 29 rfl rfl (by decide) ?_
      refine i_aload_n 30 rfl rfl (by decide) ?_
      refine i_getP (c := 10) (k := 3) (t := 13) (b := 40) 31 rfl fl_349 (by decide) rfl (by decide) rfl ?_
      refine i_getP (c := 3) (k := 1) (t := 106) (b := 41) 32 rfl fl_255 (by decide) rfl (by decide) rfl ?_
      refine i_iload_n 33 rfl rfl ?_
      refine i_aald (τ := 6) (t := 14) (len := 3) (b := (41 + 8 + 9 * l1)) 34 rfl (by decide) rfl h.1.1 h.1.2 ?_
      replace h := h.2
      refine i_iload_n 35 rfl rfl ?_
      refine i_iload 36 rfl rfl ?_
      refine i_callV (c := 10) (y1 := m_X10_isLive) (z1 := (2, 0, 0)) (z2 := (6, 0, 0)) [(14, (41 + 8 + 9 * l1)), (0, l3), (0, l5)] 37 rfl ml_687 ok_X10_isLive vk_X10_isLive ⟨by decide, rfl⟩ rfl ⟨rfl, Nat.le_of_ble_eq_true rfl⟩ (Nat.le_of_ble_eq_true rfl) ⟨by decide, rfl, rfl, rfl⟩ ?_
      refine h.mono (fun r zM5 h => ?_)
      obtain ⟨zr6, rfl, h⟩ := h
      simp only [Option.toList_some, Option.toList_none, List.cons_append, List.nil_append]
      refine i_if_eq 81 38 rfl (by decide) (fun c => ?_) (fun c => ?_)
      · replace h := h.1 c
        replace h := h _ rfl
        refine i_iinc 44 rfl rfl (by decide) rfl ?_
        refine i_goto 38 45 rfl (by decide) ?_
        exact h
      · replace h := h.2 c
        refine i_iload 39 rfl rfl ?_
        refine i_if_ne 78 40 rfl (by decide) (fun c => ?_) (fun c => ?_)
        · replace h := h.1 c
          replace h := h _ rfl
          refine i_iinc 43 rfl rfl (by decide) rfl ?_
          replace h := h _ rfl
          refine i_iinc 44 rfl rfl (by decide) rfl ?_
          refine i_goto 38 45 rfl (by decide) ?_
          exact h
        · replace h := h.2 c
          refine i_iload 41 rfl rfl ?_
          exact i_ireturn 42 rfl rfl h
theorem u_X10_isOpen_0 {l : Launch} {E : xE} (a1 a2 : Int) {M : xM} {Q : Option xV → xM → Prop} (h : x_Ev l E (1, 0, 0) m_X10_isNoFollower 0 [(20, 5), (0, a1)] [] M (fun r zM1 => ∃ zr2, r = some (0, zr2) ∧ (¬ zr2 = 0 → x_Ev l E (1, 0, 0) m_X10_tell 0 [(20, 5), (0, 0)] [] zM1 (fun r zM3 => ∃ zr4, r = some (0, zr4) ∧ Q (some (0, zr4)) zM3)) ∧ (zr2 = 0 → (a2 < 0 → x_Ev l E (1, 0, 0) m_X10_tell 0 [(20, 5), (0, 0)] [] zM1 (fun r zM5 => ∃ zr6, r = some (0, zr6) ∧ Q (some (0, zr6)) zM5)) ∧ (¬ a2 < 0 → ((0 : Int) ≤ a1 ∧ (a1 : Int) < 3) ∧ x_Ev l E (1, 0, 0) m_X1_pairs 0 [(11, (8 + 1 + 4 * a1))] [] zM1 (fun r zM7 => ∃ zr8, r = some (0, zr8) ∧ (a2 < (x_ishl 1 zr8) → x_Ev l E (5, 0, 0) m_X10_findPrices 0 [(20, 5), (0, a1)] [] zM7 (fun r zM9 => r = none ∧ ((0 : Int) ≤ a1 ∧ (a1 : Int) < 3) ∧ ((0 : Int) ≤ a1 ∧ (a1 : Int) < 3) ∧ x_Ev l E (1, 0, 0) m_X1_pairs 0 [(11, (8 + 1 + 4 * a1))] [] zM9 (fun r zM10 => ∃ zr11, r = some (0, zr11) ∧ x_Ev l E (2, 0, 0) m_X10_isLive 0 [(20, 5), (14, (41 + 8 + 9 * a1)), (0, zr11), (0, a2), (5, 0)] [] zM10 (fun r zM12 => ∃ zr13, r = some (0, zr13) ∧ (zr13 = 0 → Q (some (0, 0)) zM12) ∧ (¬ zr13 = 0 → Q (some (0, 1)) zM12))))) ∧ (¬ a2 < (x_ishl 1 zr8) → x_Ev l E (1, 0, 0) m_X10_tell 0 [(20, 5), (0, 0)] [] zM7 (fun r zM14 => ∃ zr15, r = some (0, zr15) ∧ Q (some (0, zr15)) zM14))))))) : x_Ev l E (6, 0, 0) m_X10_isOpen 0 [(20, 5), (0, a1), (0, a2)] [] M Q := by
  refine i_aload_n 0 rfl rfl (by decide) ?_
  refine i_iload_n 1 rfl rfl ?_
  refine i_callV (c := 10) (y1 := m_X10_isNoFollower) (z1 := (1, 0, 0)) (z2 := (6, 0, 0)) [(0, a1)] 2 rfl ml_488 ok_X10_isNoFollower vk_X10_isNoFollower ⟨by decide, rfl⟩ rfl ⟨rfl, Nat.le_of_ble_eq_true rfl⟩ (Nat.le_of_ble_eq_true rfl) ⟨by decide, rfl, rfl, rfl⟩ ?_
  refine h.mono (fun r zM1 h => ?_)
  obtain ⟨zr2, rfl, h⟩ := h
  simp only [Option.toList_some, Option.toList_none, List.cons_append, List.nil_append]
  refine i_if_ne 30 3 rfl (by decide) (fun c => ?_) (fun c => ?_)
  · replace h := h.1 c
    refine i_aload_n 16 rfl rfl (by decide) ?_
    refine i_iconst 17 rfl (by decide) ?_
    refine i_callV (c := 10) (y1 := m_X10_tell) (z1 := (1, 0, 0)) (z2 := (6, 0, 0)) [(0, 0)] 18 rfl ml_400 ok_X10_tell vk_X10_tell ⟨by decide, rfl⟩ rfl ⟨rfl, Nat.le_of_ble_eq_true rfl⟩ (Nat.le_of_ble_eq_true rfl) ⟨by decide, rfl, rfl, rfl⟩ ?_
    refine h.mono (fun r zM3 h => ?_)
    obtain ⟨zr4, rfl, h⟩ := h
    simp only [Option.toList_some, Option.toList_none, List.cons_append, List.nil_append]
    exact i_ireturn 19 rfl rfl h
  · replace h := h.2 c
    refine i_iload_n 4 rfl rfl ?_
    refine i_if_lt 30 5 rfl (by decide) (fun c => ?_) (fun c => ?_)
    · replace h := h.1 c
      refine i_aload_n 16 rfl rfl (by decide) ?_
      refine i_iconst 17 rfl (by decide) ?_
      refine i_callV (c := 10) (y1 := m_X10_tell) (z1 := (1, 0, 0)) (z2 := (6, 0, 0)) [(0, 0)] 18 rfl ml_400 ok_X10_tell vk_X10_tell ⟨by decide, rfl⟩ rfl ⟨rfl, Nat.le_of_ble_eq_true rfl⟩ (Nat.le_of_ble_eq_true rfl) ⟨by decide, rfl, rfl, rfl⟩ ?_
      refine h.mono (fun r zM5 h => ?_)
      obtain ⟨zr6, rfl, h⟩ := h
      simp only [Option.toList_some, Option.toList_none, List.cons_append, List.nil_append]
      exact i_ireturn 19 rfl rfl h
    · replace h := h.2 c
      refine i_iload_n 6 rfl rfl ?_
      refine i_iconst 7 rfl (by decide) ?_
      refine i_aload_n 8 rfl rfl (by decide) ?_
      refine i_getP (c := 10) (k := 0) (t := 19) (b := 6) 9 rfl fl_346 (by decide) rfl (by decide) rfl ?_
      refine i_getP (c := 9) (k := 6) (t := 100) (b := 8) 10 rfl fl_121 (by decide) rfl (by decide) rfl ?_
      refine i_iload_n 11 rfl rfl ?_
      refine i_aald (τ := 0) (t := 11) (len := 3) (b := (8 + 1 + 4 * a1)) 12 rfl (by decide) rfl h.1.1 h.1.2 ?_
      replace h := h.2
      refine i_callV (c := 1) (y1 := m_X1_pairs) (z1 := (1, 0, 0)) (z2 := (6, 0, 0)) [] 13 rfl ml_682 ok_X1_pairs vk_X1_pairs ⟨by decide, rfl⟩ rfl ⟨rfl, Nat.le_of_ble_eq_true rfl⟩ (Nat.le_of_ble_eq_true rfl) ⟨by decide, rfl, rfl, rfl⟩ ?_
      refine h.mono (fun r zM7 h => ?_)
      obtain ⟨zr8, rfl, h⟩ := h
      simp only [Option.toList_some, Option.toList_none, List.cons_append, List.nil_append]
      refine i_ishl 14 rfl ?_
      refine i_icmp_lt 36 15 rfl (by decide) (fun c => ?_) (fun c => ?_)
      · replace h := h.1 c
        refine i_aload_n 20 rfl rfl (by decide) ?_
        refine i_iload_n 21 rfl rfl ?_
        refine i_callV (c := 10) (y1 := m_X10_findPrices) (z1 := (5, 0, 0)) (z2 := (6, 0, 0)) [(0, a1)] 22 rfl ml_645 ok_X10_findPrices vk_X10_findPrices ⟨by decide, rfl⟩ rfl ⟨rfl, Nat.le_of_ble_eq_true rfl⟩ (Nat.le_of_ble_eq_true rfl) ⟨by decide, rfl, rfl, rfl⟩ ?_
        refine h.mono (fun r zM9 h => ?_)
        obtain ⟨rfl, h⟩ := h
        simp only [Option.toList_some, Option.toList_none, List.cons_append, List.nil_append]
        refine i_aload_n 23 rfl rfl (by decide) ?_
        refine i_aload_n 24 rfl rfl (by decide) ?_
        refine i_getP (c := 10) (k := 3) (t := 13) (b := 40) 25 rfl fl_349 (by decide) rfl (by decide) rfl ?_
        refine i_getP (c := 3) (k := 1) (t := 106) (b := 41) 26 rfl fl_255 (by decide) rfl (by decide) rfl ?_
        refine i_iload_n 27 rfl rfl ?_
        refine i_aald (τ := 6) (t := 14) (len := 3) (b := (41 + 8 + 9 * a1)) 28 rfl (by decide) rfl h.1.1 h.1.2 ?_
        replace h := h.2
        refine i_aload_n 29 rfl rfl (by decide) ?_
        refine i_getP (c := 10) (k := 0) (t := 19) (b := 6) 30 rfl fl_346 (by decide) rfl (by decide) rfl ?_
        refine i_getP (c := 9) (k := 6) (t := 100) (b := 8) 31 rfl fl_121 (by decide) rfl (by decide) rfl ?_
        refine i_iload_n 32 rfl rfl ?_
        refine i_aald (τ := 0) (t := 11) (len := 3) (b := (8 + 1 + 4 * a1)) 33 rfl (by decide) rfl h.1.1 h.1.2 ?_
        replace h := h.2
        refine i_callV (c := 1) (y1 := m_X1_pairs) (z1 := (1, 0, 0)) (z2 := (6, 0, 0)) [] 34 rfl ml_682 ok_X1_pairs vk_X1_pairs ⟨by decide, rfl⟩ rfl ⟨rfl, Nat.le_of_ble_eq_true rfl⟩ (Nat.le_of_ble_eq_true rfl) ⟨by decide, rfl, rfl, rfl⟩ ?_
        refine h.mono (fun r zM10 h => ?_)
        obtain ⟨zr11, rfl, h⟩ := h
        simp only [Option.toList_some, Option.toList_none, List.cons_append, List.nil_append]
        refine i_iload_n 35 rfl rfl ?_
        refine i_callV (c := 10) (y1 := m_X10_isLive) (z1 := (2, 0, 0)) (z2 := (6, 0, 0)) [(14, (41 + 8 + 9 * a1)), (0, zr11), (0, a2)] 36 rfl ml_687 ok_X10_isLive vk_X10_isLive ⟨by decide, rfl⟩ rfl ⟨rfl, Nat.le_of_ble_eq_true rfl⟩ (Nat.le_of_ble_eq_true rfl) ⟨by decide, rfl, rfl, rfl⟩ ?_
        refine h.mono (fun r zM12 h => ?_)
        obtain ⟨zr13, rfl, h⟩ := h
        simp only [Option.toList_some, Option.toList_none, List.cons_append, List.nil_append]
        refine i_if_eq 74 37 rfl (by decide) (fun c => ?_) (fun c => ?_)
        · replace h := h.1 c
          refine i_iconst 40 rfl (by decide) ?_
          exact i_ireturn 41 rfl rfl h
        · replace h := h.2 c
          refine i_iconst 38 rfl (by decide) ?_
          refine i_goto 75 39 rfl (by decide) ?_
          exact i_ireturn 41 rfl rfl h
      · replace h := h.2 c
        refine i_aload_n 16 rfl rfl (by decide) ?_
        refine i_iconst 17 rfl (by decide) ?_
        refine i_callV (c := 10) (y1 := m_X10_tell) (z1 := (1, 0, 0)) (z2 := (6, 0, 0)) [(0, 0)] 18 rfl ml_400 ok_X10_tell vk_X10_tell ⟨by decide, rfl⟩ rfl ⟨rfl, Nat.le_of_ble_eq_true rfl⟩ (Nat.le_of_ble_eq_true rfl) ⟨by decide, rfl, rfl, rfl⟩ ?_
        refine h.mono (fun r zM14 h => ?_)
        obtain ⟨zr15, rfl, h⟩ := h
        simp only [Option.toList_some, Option.toList_none, List.cons_append, List.nil_append]
        exact i_ireturn 19 rfl rfl h
theorem u_X10_price_0 {l : Launch} {E : xE} (a1 a2 a3 : Int) {M : xM} {Q : Option xV → xM → Prop} (h : x_Ev l E (2, 0, 0) m_X10_isNoRow 0 [(20, 5), (0, a1), (0, a2)] [] M (fun r zM1 => ∃ zr2, r = some (0, zr2) ∧ (¬ zr2 = 0 → x_Ev l E (1, 0, 0) m_X10_tellLong 0 [(20, 5), (0, 0)] [] zM1 (fun r zM3 => ∃ zr4, r = some (1, zr4) ∧ Q (some (1, zr4)) zM3)) ∧ (zr2 = 0 → x_Ev l E (1, 0, 0) m_X10_isNoPart 0 [(20, 5), (0, a3)] [] zM1 (fun r zM5 => ∃ zr6, r = some (0, zr6) ∧ (zr6 = 0 → x_Ev l E (5, 0, 0) m_X10_findPrices 0 [(20, 5), (0, a1)] [] zM5 (fun r zM7 => r = none ∧ x_Ev l E (3, 0, 0) m_X5_tellProof 0 [(15, 76), (0, a2), (12, 86)] [] zM7 (fun r zM8 => r = none ∧ x_Ev l E (1, 0, 0) m_X2_side 0 [(12, 86), (0, a3)] [] zM8 (fun r zM9 => ∃ zr10, r = some (1, zr10) ∧ Q (some (1, zr10)) zM9)))) ∧ (¬ zr6 = 0 → x_Ev l E (1, 0, 0) m_X10_tellLong 0 [(20, 5), (0, 0)] [] zM5 (fun r zM11 => ∃ zr12, r = some (1, zr12) ∧ Q (some (1, zr12)) zM11)))))) : x_Ev l E (6, 0, 0) m_X10_price 0 [(20, 5), (0, a1), (0, a2), (0, a3)] [] M Q := by
  refine i_aload_n 0 rfl rfl (by decide) ?_
  refine i_iload_n 1 rfl rfl ?_
  refine i_iload_n 2 rfl rfl ?_
  refine i_callV (c := 10) (y1 := m_X10_isNoRow) (z1 := (2, 0, 0)) (z2 := (6, 0, 0)) [(0, a1), (0, a2)] 3 rfl ml_570 ok_X10_isNoRow vk_X10_isNoRow ⟨by decide, rfl⟩ rfl ⟨rfl, Nat.le_of_ble_eq_true rfl⟩ (Nat.le_of_ble_eq_true rfl) ⟨by decide, rfl, rfl, rfl⟩ ?_
  refine h.mono (fun r zM1 h => ?_)
  obtain ⟨zr2, rfl, h⟩ := h
  simp only [Option.toList_some, Option.toList_none, List.cons_append, List.nil_append]
  refine i_if_ne 17 4 rfl (by decide) (fun c => ?_) (fun c => ?_)
  · replace h := h.1 c
    refine i_aload_n 9 rfl rfl (by decide) ?_
    refine i_iconst 10 rfl (by decide) ?_
    refine i_callV (c := 10) (y1 := m_X10_tellLong) (z1 := (1, 0, 0)) (z2 := (6, 0, 0)) [(0, 0)] 11 rfl ml_607 ok_X10_tellLong vk_X10_tellLong ⟨by decide, rfl⟩ rfl ⟨rfl, Nat.le_of_ble_eq_true rfl⟩ (Nat.le_of_ble_eq_true rfl) ⟨by decide, rfl, rfl, rfl⟩ ?_
    refine h.mono (fun r zM3 h => ?_)
    obtain ⟨zr4, rfl, h⟩ := h
    simp only [Option.toList_some, Option.toList_none, List.cons_append, List.nil_append]
    exact i_lreturn 12 rfl rfl h
  · replace h := h.2 c
    refine i_aload_n 5 rfl rfl (by decide) ?_
    refine i_iload_n 6 rfl rfl ?_
    refine i_callV (c := 10) (y1 := m_X10_isNoPart) (z1 := (1, 0, 0)) (z2 := (6, 0, 0)) [(0, a3)] 7 rfl ml_603 ok_X10_isNoPart vk_X10_isNoPart ⟨by decide, rfl⟩ rfl ⟨rfl, Nat.le_of_ble_eq_true rfl⟩ (Nat.le_of_ble_eq_true rfl) ⟨by decide, rfl, rfl, rfl⟩ ?_
    refine h.mono (fun r zM5 h => ?_)
    obtain ⟨zr6, rfl, h⟩ := h
    simp only [Option.toList_some, Option.toList_none, List.cons_append, List.nil_append]
    refine i_if_eq 23 8 rfl (by decide) (fun c => ?_) (fun c => ?_)
    · replace h := h.1 c
      refine i_aload_n 13 rfl rfl (by decide) ?_
      refine i_iload_n 14 rfl rfl ?_
      refine i_callV (c := 10) (y1 := m_X10_findPrices) (z1 := (5, 0, 0)) (z2 := (6, 0, 0)) [(0, a1)] 15 rfl ml_645 ok_X10_findPrices vk_X10_findPrices ⟨by decide, rfl⟩ rfl ⟨rfl, Nat.le_of_ble_eq_true rfl⟩ (Nat.le_of_ble_eq_true rfl) ⟨by decide, rfl, rfl, rfl⟩ ?_
      refine h.mono (fun r zM7 h => ?_)
      obtain ⟨rfl, h⟩ := h
      simp only [Option.toList_some, Option.toList_none, List.cons_append, List.nil_append]
      refine i_aload_n 16 rfl rfl (by decide) ?_
      refine i_getP (c := 10) (k := 4) (t := 15) (b := 76) 17 rfl fl_350 (by decide) rfl (by decide) rfl ?_
      refine i_iload_n 18 rfl rfl ?_
      refine i_aload_n 19 rfl rfl (by decide) ?_
      refine i_getP (c := 10) (k := 7) (t := 12) (b := 86) 20 rfl fl_353 (by decide) rfl (by decide) rfl ?_
      refine i_callV (c := 5) (y1 := m_X5_tellProof) (z1 := (3, 0, 0)) (z2 := (6, 0, 0)) [(0, a2), (12, 86)] 21 rfl ml_706 ok_X5_tellProof vk_X5_tellProof ⟨by decide, rfl⟩ rfl ⟨rfl, Nat.le_of_ble_eq_true rfl⟩ (Nat.le_of_ble_eq_true rfl) ⟨by decide, rfl, rfl, rfl⟩ ?_
      refine h.mono (fun r zM8 h => ?_)
      obtain ⟨rfl, h⟩ := h
      simp only [Option.toList_some, Option.toList_none, List.cons_append, List.nil_append]
      refine i_aload_n 22 rfl rfl (by decide) ?_
      refine i_getP (c := 10) (k := 7) (t := 12) (b := 86) 23 rfl fl_353 (by decide) rfl (by decide) rfl ?_
      refine i_iload_n 24 rfl rfl ?_
      refine i_callV (c := 2) (y1 := m_X2_side) (z1 := (1, 0, 0)) (z2 := (6, 0, 0)) [(0, a3)] 25 rfl ml_612 ok_X2_side vk_X2_side ⟨by decide, rfl⟩ rfl ⟨rfl, Nat.le_of_ble_eq_true rfl⟩ (Nat.le_of_ble_eq_true rfl) ⟨by decide, rfl, rfl, rfl⟩ ?_
      refine h.mono (fun r zM9 h => ?_)
      obtain ⟨zr10, rfl, h⟩ := h
      simp only [Option.toList_some, Option.toList_none, List.cons_append, List.nil_append]
      exact i_lreturn 26 rfl rfl h
    · replace h := h.2 c
      refine i_aload_n 9 rfl rfl (by decide) ?_
      refine i_iconst 10 rfl (by decide) ?_
      refine i_callV (c := 10) (y1 := m_X10_tellLong) (z1 := (1, 0, 0)) (z2 := (6, 0, 0)) [(0, 0)] 11 rfl ml_607 ok_X10_tellLong vk_X10_tellLong ⟨by decide, rfl⟩ rfl ⟨rfl, Nat.le_of_ble_eq_true rfl⟩ (Nat.le_of_ble_eq_true rfl) ⟨by decide, rfl, rfl, rfl⟩ ?_
      refine h.mono (fun r zM11 h => ?_)
      obtain ⟨zr12, rfl, h⟩ := h
      simp only [Option.toList_some, Option.toList_none, List.cons_append, List.nil_append]
      exact i_lreturn 12 rfl rfl h
theorem u_X10_weigh_0 {l : Launch} {E : xE} (a1 a2 : Int) {M : xM} {Q : Option xV → xM → Prop} (h : x_Ev l E (1, 0, 0) m_X10_isNoSheet 0 [(20, 5), (0, a1)] [] M (fun r zM1 => ∃ zr2, r = some (0, zr2) ∧ (¬ zr2 = 0 → x_Ev l E (1, 0, 0) m_X10_tell 0 [(20, 5), (0, 0)] [] zM1 (fun r zM3 => ∃ zr4, r = some (0, zr4) ∧ Q (some (0, zr4)) zM3)) ∧ (zr2 = 0 → x_Ev l E (1, 0, 0) m_X10_isNoFollower 0 [(20, 5), (0, a2)] [] zM1 (fun r zM5 => ∃ zr6, r = some (0, zr6) ∧ (zr6 = 0 → ((0 : Int) ≤ a1 ∧ (a1 : Int) < 4) ∧ (¬ (zM5 88 a1) < 0 → ((0 : Int) ≤ a2 ∧ (a2 : Int) < 3) ∧ (0 ≤ (zM5 88 a1)) ∧ x_Ev l E (1, 0, 0) m_X6_tellsPrices 0 [(9, (zM5 88 a1)), (0, (zM5 (8 + 1 + 4 * a2) 3)), (5, 0)] [] zM5 (fun r zM7 => ∃ zr8, r = some (0, zr8) ∧ (¬ zr8 = 0 → x_Ev l E (3, 0, 0) m_X10_tooLittleFor 0 [(20, 5), (9, (zM5 88 a1)), (11, (8 + 1 + 4 * a2)), (5, 0), (5, 0), (5, 0), (5, 0), (5, 0), (5, 0)] [] zM7 (fun r zM9 => ∃ zr10, r = some (0, zr10) ∧ (zr10 < 0 → x_Ev l E (5, 0, 0) m_X10_isAboveNet 0 [(20, 5), (9, (zM5 88 a1)), (0, a2), (5, 0), (5, 0), (5, 0), (5, 0), (5, 0), (5, 0), (5, 0)] [] zM9 (fun r zM11 => ∃ zr12, r = some (0, zr12) ∧ (zr12 = 0 → Q (some (0, 0)) zM11) ∧ (¬ zr12 = 0 → Q (some (0, 2)) zM11))) ∧ (¬ zr10 < 0 → Q (some (0, (x_w (10 + zr10)))) zM9))) ∧ (zr8 = 0 → Q (some (0, 1)) zM7))) ∧ ((zM5 88 a1) < 0 → x_Ev l E (1, 0, 0) m_X10_tell 0 [(20, 5), (0, 5)] [] zM5 (fun r zM13 => ∃ zr14, r = some (0, zr14) ∧ Q (some (0, zr14)) zM13))) ∧ (¬ zr6 = 0 → x_Ev l E (1, 0, 0) m_X10_tell 0 [(20, 5), (0, 0)] [] zM5 (fun r zM15 => ∃ zr16, r = some (0, zr16) ∧ Q (some (0, zr16)) zM15)))))) : x_Ev l E (6, 0, 0) m_X10_weigh 0 [(20, 5), (0, a1), (0, a2), (5, 0), (5, 0), (5, 0)] [] M Q := by
  refine i_aload_n 0 rfl rfl (by decide) ?_
  refine i_iload_n 1 rfl rfl ?_
  refine i_callV (c := 10) (y1 := m_X10_isNoSheet) (z1 := (1, 0, 0)) (z2 := (6, 0, 0)) [(0, a1)] 2 rfl ml_715 ok_X10_isNoSheet vk_X10_isNoSheet ⟨by decide, rfl⟩ rfl ⟨rfl, Nat.le_of_ble_eq_true rfl⟩ (Nat.le_of_ble_eq_true rfl) ⟨by decide, rfl, rfl, rfl⟩ ?_
  refine h.mono (fun r zM1 h => ?_)
  obtain ⟨zr2, rfl, h⟩ := h
  simp only [Option.toList_some, Option.toList_none, List.cons_append, List.nil_append]
  refine i_if_ne 16 3 rfl (by decide) (fun c => ?_) (fun c => ?_)
  · replace h := h.1 c
    refine i_aload_n 8 rfl rfl (by decide) ?_
    refine i_iconst 9 rfl (by decide) ?_
    refine i_callV (c := 10) (y1 := m_X10_tell) (z1 := (1, 0, 0)) (z2 := (6, 0, 0)) [(0, 0)] 10 rfl ml_400 ok_X10_tell vk_X10_tell ⟨by decide, rfl⟩ rfl ⟨rfl, Nat.le_of_ble_eq_true rfl⟩ (Nat.le_of_ble_eq_true rfl) ⟨by decide, rfl, rfl, rfl⟩ ?_
    refine h.mono (fun r zM3 h => ?_)
    obtain ⟨zr4, rfl, h⟩ := h
    simp only [Option.toList_some, Option.toList_none, List.cons_append, List.nil_append]
    exact i_ireturn 11 rfl rfl h
  · replace h := h.2 c
    refine i_aload_n 4 rfl rfl (by decide) ?_
    refine i_iload_n 5 rfl rfl ?_
    refine i_callV (c := 10) (y1 := m_X10_isNoFollower) (z1 := (1, 0, 0)) (z2 := (6, 0, 0)) [(0, a2)] 6 rfl ml_488 ok_X10_isNoFollower vk_X10_isNoFollower ⟨by decide, rfl⟩ rfl ⟨rfl, Nat.le_of_ble_eq_true rfl⟩ (Nat.le_of_ble_eq_true rfl) ⟨by decide, rfl, rfl, rfl⟩ ?_
    refine h.mono (fun r zM5 h => ?_)
    obtain ⟨zr6, rfl, h⟩ := h
    simp only [Option.toList_some, Option.toList_none, List.cons_append, List.nil_append]
    refine i_if_eq 22 7 rfl (by decide) (fun c => ?_) (fun c => ?_)
    · replace h := h.1 c
      refine i_aload_n 12 rfl rfl (by decide) ?_
      refine i_getP (c := 10) (k := 9) (t := 115) (b := 88) 13 rfl fl_355 (by decide) rfl (by decide) rfl ?_
      refine i_iload_n 14 rfl rfl ?_
      refine i_aaldR 15 rfl h.1.1 h.1.2 ?_
      replace h := h.2
      refine i_astore_n 16 rfl (by decide) (by decide) rfl ?_
      refine i_aload_n 17 rfl rfl (by decide) ?_
      refine i_ifnonnull 39 18 rfl (by decide) (by decide) (fun c => ?_) (fun c => ?_)
      · replace h := h.1 c
        refine i_aload_n 23 rfl rfl (by decide) ?_
        refine i_getP (c := 10) (k := 0) (t := 19) (b := 6) 24 rfl fl_346 (by decide) rfl (by decide) rfl ?_
        refine i_getP (c := 9) (k := 6) (t := 100) (b := 8) 25 rfl fl_121 (by decide) rfl (by decide) rfl ?_
        refine i_iload_n 26 rfl rfl ?_
        refine i_aald (τ := 0) (t := 11) (len := 3) (b := (8 + 1 + 4 * a2)) 27 rfl (by decide) rfl h.1.1 h.1.2 ?_
        replace h := h.2
        refine i_astore 28 rfl (by decide) (by decide) rfl ?_
        refine i_aload_n 29 rfl rfl (by decide) ?_
        refine i_aload 30 rfl rfl (by decide) ?_
        refine i_getI (c := 1) (k := 3) 31 rfl fl_74 (by decide) (by decide) ?_
        have hb := h.1
        replace h := h.2
        refine i_callR (y1 := m_X6_tellsPrices) (z1 := (1, 0, 0)) (z2 := (6, 0, 0)) [(0, (zM5 (8 + 1 + 4 * a2) 3))] 32 rfl ml_719 ok_X6_tellsPrices vk_X6_tellsPrices rfl hb rfl ⟨rfl, Nat.le_of_ble_eq_true rfl⟩ (Nat.le_of_ble_eq_true rfl) ⟨by decide, rfl, rfl, rfl⟩ ?_
        refine h.mono (fun r zM7 h => ?_)
        obtain ⟨zr8, rfl, h⟩ := h
        simp only [Option.toList_some, Option.toList_none, List.cons_append, List.nil_append]
        refine i_if_ne 64 33 rfl (by decide) (fun c => ?_) (fun c => ?_)
        · replace h := h.1 c
          refine i_aload_n 36 rfl rfl (by decide) ?_
          refine i_aload_n 37 rfl rfl (by decide) ?_
          refine i_aload 38 rfl rfl (by decide) ?_
          refine i_callV (c := 10) (y1 := m_X10_tooLittleFor) (z1 := (3, 0, 0)) (z2 := (6, 0, 0)) [(9, (zM5 88 a1)), (11, (8 + 1 + 4 * a2))] 39 rfl ml_725 ok_X10_tooLittleFor vk_X10_tooLittleFor ⟨by decide, rfl⟩ rfl ⟨rfl, Nat.le_of_ble_eq_true rfl⟩ (Nat.le_of_ble_eq_true rfl) ⟨by decide, rfl, rfl, rfl⟩ ?_
          refine h.mono (fun r zM9 h => ?_)
          obtain ⟨zr10, rfl, h⟩ := h
          simp only [Option.toList_some, Option.toList_none, List.cons_append, List.nil_append]
          refine i_istore 40 rfl (by decide) rfl ?_
          refine i_iload 41 rfl rfl ?_
          refine i_if_lt 84 42 rfl (by decide) (fun c => ?_) (fun c => ?_)
          · replace h := h.1 c
            refine i_aload_n 47 rfl rfl (by decide) ?_
            refine i_aload_n 48 rfl rfl (by decide) ?_
            refine i_iload_n 49 rfl rfl ?_
            refine i_callV (c := 10) (y1 := m_X10_isAboveNet) (z1 := (5, 0, 0)) (z2 := (6, 0, 0)) [(9, (zM5 88 a1)), (0, a2)] 50 rfl ml_731 ok_X10_isAboveNet vk_X10_isAboveNet ⟨by decide, rfl⟩ rfl ⟨rfl, Nat.le_of_ble_eq_true rfl⟩ (Nat.le_of_ble_eq_true rfl) ⟨by decide, rfl, rfl, rfl⟩ ?_
            refine h.mono (fun r zM11 h => ?_)
            obtain ⟨zr12, rfl, h⟩ := h
            simp only [Option.toList_some, Option.toList_none, List.cons_append, List.nil_append]
            refine i_if_eq 97 51 rfl (by decide) (fun c => ?_) (fun c => ?_)
            · replace h := h.1 c
              refine i_iconst 54 rfl (by decide) ?_
              exact i_ireturn 55 rfl rfl h
            · replace h := h.2 c
              refine i_iconst 52 rfl (by decide) ?_
              refine i_goto 98 53 rfl (by decide) ?_
              exact i_ireturn 55 rfl rfl h
          · replace h := h.2 c
            refine i_bipush 43 rfl (by decide) ?_
            refine i_iload 44 rfl rfl ?_
            refine i_iadd 45 rfl ?_
            exact i_ireturn 46 rfl rfl h
        · replace h := h.2 c
          refine i_iconst 34 rfl (by decide) ?_
          exact i_ireturn 35 rfl rfl h
      · replace h := h.2 c
        refine i_aload_n 19 rfl rfl (by decide) ?_
        refine i_iconst 20 rfl (by decide) ?_
        refine i_callV (c := 10) (y1 := m_X10_tell) (z1 := (1, 0, 0)) (z2 := (6, 0, 0)) [(0, 5)] 21 rfl ml_400 ok_X10_tell vk_X10_tell ⟨by decide, rfl⟩ rfl ⟨rfl, Nat.le_of_ble_eq_true rfl⟩ (Nat.le_of_ble_eq_true rfl) ⟨by decide, rfl, rfl, rfl⟩ ?_
        refine h.mono (fun r zM13 h => ?_)
        obtain ⟨zr14, rfl, h⟩ := h
        simp only [Option.toList_some, Option.toList_none, List.cons_append, List.nil_append]
        exact i_ireturn 22 rfl rfl h
    · replace h := h.2 c
      refine i_aload_n 8 rfl rfl (by decide) ?_
      refine i_iconst 9 rfl (by decide) ?_
      refine i_callV (c := 10) (y1 := m_X10_tell) (z1 := (1, 0, 0)) (z2 := (6, 0, 0)) [(0, 0)] 10 rfl ml_400 ok_X10_tell vk_X10_tell ⟨by decide, rfl⟩ rfl ⟨rfl, Nat.le_of_ble_eq_true rfl⟩ (Nat.le_of_ble_eq_true rfl) ⟨by decide, rfl, rfl, rfl⟩ ?_
      refine h.mono (fun r zM15 h => ?_)
      obtain ⟨zr16, rfl, h⟩ := h
      simp only [Option.toList_some, Option.toList_none, List.cons_append, List.nil_append]
      exact i_ireturn 11 rfl rfl h
theorem u_X10_breaks_0 {l : Launch} {E : xE} (a1 : Int) {M : xM} {Q : Option xV → xM → Prop} (h : (a1 = (-1) → x_Ev l E (5, 0, 0) m_X3_gatherBreaks 0 [(13, 40), (0, a1), (0, (M 6 1)), (5, 0)] [] M (fun r zM1 => r = none ∧ Q (some (0, (zM1 42 0))) zM1)) ∧ (¬ a1 = (-1) → x_Ev l E (1, 0, 0) m_X10_isNoFollower 0 [(20, 5), (0, a1)] [] M (fun r zM2 => ∃ zr3, r = some (0, zr3) ∧ (zr3 = 0 → x_Ev l E (5, 0, 0) m_X3_gatherBreaks 0 [(13, 40), (0, a1), (0, (zM2 6 1)), (5, 0)] [] zM2 (fun r zM4 => r = none ∧ Q (some (0, (zM4 42 0))) zM4)) ∧ (¬ zr3 = 0 → x_Ev l E (1, 0, 0) m_X10_tell 0 [(20, 5), (0, 0)] [] zM2 (fun r zM5 => ∃ zr6, r = some (0, zr6) ∧ Q (some (0, zr6)) zM5))))) : x_Ev l E (6, 0, 0) m_X10_breaks 0 [(20, 5), (0, a1)] [] M Q := by
  refine i_iload_n 0 rfl rfl ?_
  refine i_iconst 1 rfl (by decide) ?_
  refine i_icmp_eq 19 2 rfl (by decide) (fun c => ?_) (fun c => ?_)
  · replace h := h.1 c
    refine i_aload_n 11 rfl rfl (by decide) ?_
    refine i_getP (c := 10) (k := 3) (t := 13) (b := 40) 12 rfl fl_349 (by decide) rfl (by decide) rfl ?_
    refine i_iload_n 13 rfl rfl ?_
    refine i_aload_n 14 rfl rfl (by decide) ?_
    refine i_getP (c := 10) (k := 0) (t := 19) (b := 6) 15 rfl fl_346 (by decide) rfl (by decide) rfl ?_
    refine i_getI (c := 9) (k := 1) 16 rfl fl_109 (by decide) (by decide) ?_
    refine i_callV (c := 3) (y1 := m_X3_gatherBreaks) (z1 := (5, 0, 0)) (z2 := (6, 0, 0)) [(0, a1), (0, (M 6 1))] 17 rfl ml_746 ok_X3_gatherBreaks vk_X3_gatherBreaks ⟨by decide, rfl⟩ rfl ⟨rfl, Nat.le_of_ble_eq_true rfl⟩ (Nat.le_of_ble_eq_true rfl) ⟨by decide, rfl, rfl, rfl⟩ ?_
    refine h.mono (fun r zM1 h => ?_)
    obtain ⟨rfl, h⟩ := h
    simp only [Option.toList_some, Option.toList_none, List.cons_append, List.nil_append]
    refine i_aload_n 18 rfl rfl (by decide) ?_
    refine i_getP (c := 10) (k := 3) (t := 13) (b := 40) 19 rfl fl_349 (by decide) rfl (by decide) rfl ?_
    refine i_getP (c := 3) (k := 2) (t := 10) (b := 42) 20 rfl fl_257 (by decide) rfl (by decide) rfl ?_
    refine i_getI (c := 0) (k := 0) 21 rfl fl_179 (by decide) (by decide) ?_
    exact i_ireturn 22 rfl rfl h
  · replace h := h.2 c
    refine i_aload_n 3 rfl rfl (by decide) ?_
    refine i_iload_n 4 rfl rfl ?_
    refine i_callV (c := 10) (y1 := m_X10_isNoFollower) (z1 := (1, 0, 0)) (z2 := (6, 0, 0)) [(0, a1)] 5 rfl ml_488 ok_X10_isNoFollower vk_X10_isNoFollower ⟨by decide, rfl⟩ rfl ⟨rfl, Nat.le_of_ble_eq_true rfl⟩ (Nat.le_of_ble_eq_true rfl) ⟨by decide, rfl, rfl, rfl⟩ ?_
    refine h.mono (fun r zM2 h => ?_)
    obtain ⟨zr3, rfl, h⟩ := h
    simp only [Option.toList_some, Option.toList_none, List.cons_append, List.nil_append]
    refine i_if_eq 19 6 rfl (by decide) (fun c => ?_) (fun c => ?_)
    · replace h := h.1 c
      refine i_aload_n 11 rfl rfl (by decide) ?_
      refine i_getP (c := 10) (k := 3) (t := 13) (b := 40) 12 rfl fl_349 (by decide) rfl (by decide) rfl ?_
      refine i_iload_n 13 rfl rfl ?_
      refine i_aload_n 14 rfl rfl (by decide) ?_
      refine i_getP (c := 10) (k := 0) (t := 19) (b := 6) 15 rfl fl_346 (by decide) rfl (by decide) rfl ?_
      refine i_getI (c := 9) (k := 1) 16 rfl fl_109 (by decide) (by decide) ?_
      refine i_callV (c := 3) (y1 := m_X3_gatherBreaks) (z1 := (5, 0, 0)) (z2 := (6, 0, 0)) [(0, a1), (0, (zM2 6 1))] 17 rfl ml_746 ok_X3_gatherBreaks vk_X3_gatherBreaks ⟨by decide, rfl⟩ rfl ⟨rfl, Nat.le_of_ble_eq_true rfl⟩ (Nat.le_of_ble_eq_true rfl) ⟨by decide, rfl, rfl, rfl⟩ ?_
      refine h.mono (fun r zM4 h => ?_)
      obtain ⟨rfl, h⟩ := h
      simp only [Option.toList_some, Option.toList_none, List.cons_append, List.nil_append]
      refine i_aload_n 18 rfl rfl (by decide) ?_
      refine i_getP (c := 10) (k := 3) (t := 13) (b := 40) 19 rfl fl_349 (by decide) rfl (by decide) rfl ?_
      refine i_getP (c := 3) (k := 2) (t := 10) (b := 42) 20 rfl fl_257 (by decide) rfl (by decide) rfl ?_
      refine i_getI (c := 0) (k := 0) 21 rfl fl_179 (by decide) (by decide) ?_
      exact i_ireturn 22 rfl rfl h
    · replace h := h.2 c
      refine i_aload_n 7 rfl rfl (by decide) ?_
      refine i_iconst 8 rfl (by decide) ?_
      refine i_callV (c := 10) (y1 := m_X10_tell) (z1 := (1, 0, 0)) (z2 := (6, 0, 0)) [(0, 0)] 9 rfl ml_400 ok_X10_tell vk_X10_tell ⟨by decide, rfl⟩ rfl ⟨rfl, Nat.le_of_ble_eq_true rfl⟩ (Nat.le_of_ble_eq_true rfl) ⟨by decide, rfl, rfl, rfl⟩ ?_
      refine h.mono (fun r zM5 h => ?_)
      obtain ⟨zr6, rfl, h⟩ := h
      simp only [Option.toList_some, Option.toList_none, List.cons_append, List.nil_append]
      exact i_ireturn 10 rfl rfl h
theorem u_X10_breakAt_0 {l : Launch} {E : xE} (a1 a2 a3 : Int) {M : xM} {Q : Option xV → xM → Prop} (h : (a1 = (-1) → x_Ev l E (1, 0, 0) m_X10_isNoPart 0 [(20, 5), (0, a3)] [] M (fun r zM1 => ∃ zr2, r = some (0, zr2) ∧ (zr2 = 0 → x_Ev l E (5, 0, 0) m_X3_gatherBreaks 0 [(13, 40), (0, a1), (0, (zM1 6 1)), (5, 0)] [] zM1 (fun r zM3 => r = none ∧ (a2 < 0 → x_Ev l E (1, 0, 0) m_X10_tellLong 0 [(20, 5), (0, 0)] [] zM3 (fun r zM4 => ∃ zr5, r = some (1, zr5) ∧ Q (some (1, zr5)) zM4)) ∧ (¬ a2 < 0 → (a2 < (zM3 42 0) → (¬ a3 = 0 → ((0 : Int) ≤ a2 ∧ (a2 : Int) < 27) ∧ Q (some (1, (zM3 44 a2))) zM3) ∧ (a3 = 0 → ((0 : Int) ≤ a2 ∧ (a2 : Int) < 27) ∧ Q (some (1, (zM3 43 a2))) zM3)) ∧ (¬ a2 < (zM3 42 0) → x_Ev l E (1, 0, 0) m_X10_tellLong 0 [(20, 5), (0, 0)] [] zM3 (fun r zM6 => ∃ zr7, r = some (1, zr7) ∧ Q (some (1, zr7)) zM6))))) ∧ (¬ zr2 = 0 → x_Ev l E (1, 0, 0) m_X10_tellLong 0 [(20, 5), (0, 0)] [] zM1 (fun r zM8 => ∃ zr9, r = some (1, zr9) ∧ Q (some (1, zr9)) zM8)))) ∧ (¬ a1 = (-1) → x_Ev l E (1, 0, 0) m_X10_isNoFollower 0 [(20, 5), (0, a1)] [] M (fun r zM10 => ∃ zr11, r = some (0, zr11) ∧ (¬ zr11 = 0 → x_Ev l E (1, 0, 0) m_X10_tellLong 0 [(20, 5), (0, 0)] [] zM10 (fun r zM12 => ∃ zr13, r = some (1, zr13) ∧ Q (some (1, zr13)) zM12)) ∧ (zr11 = 0 → x_Ev l E (1, 0, 0) m_X10_isNoPart 0 [(20, 5), (0, a3)] [] zM10 (fun r zM14 => ∃ zr15, r = some (0, zr15) ∧ (zr15 = 0 → x_Ev l E (5, 0, 0) m_X3_gatherBreaks 0 [(13, 40), (0, a1), (0, (zM14 6 1)), (5, 0)] [] zM14 (fun r zM16 => r = none ∧ (a2 < 0 → x_Ev l E (1, 0, 0) m_X10_tellLong 0 [(20, 5), (0, 0)] [] zM16 (fun r zM17 => ∃ zr18, r = some (1, zr18) ∧ Q (some (1, zr18)) zM17)) ∧ (¬ a2 < 0 → (a2 < (zM16 42 0) → (¬ a3 = 0 → ((0 : Int) ≤ a2 ∧ (a2 : Int) < 27) ∧ Q (some (1, (zM16 44 a2))) zM16) ∧ (a3 = 0 → ((0 : Int) ≤ a2 ∧ (a2 : Int) < 27) ∧ Q (some (1, (zM16 43 a2))) zM16)) ∧ (¬ a2 < (zM16 42 0) → x_Ev l E (1, 0, 0) m_X10_tellLong 0 [(20, 5), (0, 0)] [] zM16 (fun r zM19 => ∃ zr20, r = some (1, zr20) ∧ Q (some (1, zr20)) zM19))))) ∧ (¬ zr15 = 0 → x_Ev l E (1, 0, 0) m_X10_tellLong 0 [(20, 5), (0, 0)] [] zM14 (fun r zM21 => ∃ zr22, r = some (1, zr22) ∧ Q (some (1, zr22)) zM21))))))) : x_Ev l E (6, 0, 0) m_X10_breakAt 0 [(20, 5), (0, a1), (0, a2), (0, a3)] [] M Q := by
  refine i_iload_n 0 rfl rfl ?_
  refine i_iconst 1 rfl (by decide) ?_
  refine i_icmp_eq 13 2 rfl (by decide) (fun c => ?_) (fun c => ?_)
  · replace h := h.1 c
    refine i_aload_n 7 rfl rfl (by decide) ?_
    refine i_iload_n 8 rfl rfl ?_
    refine i_callV (c := 10) (y1 := m_X10_isNoPart) (z1 := (1, 0, 0)) (z2 := (6, 0, 0)) [(0, a3)] 9 rfl ml_603 ok_X10_isNoPart vk_X10_isNoPart ⟨by decide, rfl⟩ rfl ⟨rfl, Nat.le_of_ble_eq_true rfl⟩ (Nat.le_of_ble_eq_true rfl) ⟨by decide, rfl, rfl, rfl⟩ ?_
    refine h.mono (fun r zM1 h => ?_)
    obtain ⟨zr2, rfl, h⟩ := h
    simp only [Option.toList_some, Option.toList_none, List.cons_append, List.nil_append]
    refine i_if_eq 27 10 rfl (by decide) (fun c => ?_) (fun c => ?_)
    · replace h := h.1 c
      refine i_aload_n 15 rfl rfl (by decide) ?_
      refine i_getP (c := 10) (k := 3) (t := 13) (b := 40) 16 rfl fl_349 (by decide) rfl (by decide) rfl ?_
      refine i_iload_n 17 rfl rfl ?_
      refine i_aload_n 18 rfl rfl (by decide) ?_
      refine i_getP (c := 10) (k := 0) (t := 19) (b := 6) 19 rfl fl_346 (by decide) rfl (by decide) rfl ?_
      refine i_getI (c := 9) (k := 1) 20 rfl fl_109 (by decide) (by decide) ?_
      refine i_callV (c := 3) (y1 := m_X3_gatherBreaks) (z1 := (5, 0, 0)) (z2 := (6, 0, 0)) [(0, a1), (0, (zM1 6 1))] 21 rfl ml_746 ok_X3_gatherBreaks vk_X3_gatherBreaks ⟨by decide, rfl⟩ rfl ⟨rfl, Nat.le_of_ble_eq_true rfl⟩ (Nat.le_of_ble_eq_true rfl) ⟨by decide, rfl, rfl, rfl⟩ ?_
      refine h.mono (fun r zM3 h => ?_)
      obtain ⟨rfl, h⟩ := h
      simp only [Option.toList_some, Option.toList_none, List.cons_append, List.nil_append]
      refine i_iload_n 22 rfl rfl ?_
      refine i_if_lt 60 23 rfl (by decide) (fun c => ?_) (fun c => ?_)
      · replace h := h.1 c
        refine i_aload_n 30 rfl rfl (by decide) ?_
        refine i_iconst 31 rfl (by decide) ?_
        refine i_callV (c := 10) (y1 := m_X10_tellLong) (z1 := (1, 0, 0)) (z2 := (6, 0, 0)) [(0, 0)] 32 rfl ml_607 ok_X10_tellLong vk_X10_tellLong ⟨by decide, rfl⟩ rfl ⟨rfl, Nat.le_of_ble_eq_true rfl⟩ (Nat.le_of_ble_eq_true rfl) ⟨by decide, rfl, rfl, rfl⟩ ?_
        refine h.mono (fun r zM4 h => ?_)
        obtain ⟨zr5, rfl, h⟩ := h
        simp only [Option.toList_some, Option.toList_none, List.cons_append, List.nil_append]
        exact i_lreturn 33 rfl rfl h
      · replace h := h.2 c
        refine i_iload_n 24 rfl rfl ?_
        refine i_aload_n 25 rfl rfl (by decide) ?_
        refine i_getP (c := 10) (k := 3) (t := 13) (b := 40) 26 rfl fl_349 (by decide) rfl (by decide) rfl ?_
        refine i_getP (c := 3) (k := 2) (t := 10) (b := 42) 27 rfl fl_257 (by decide) rfl (by decide) rfl ?_
        refine i_getI (c := 0) (k := 0) 28 rfl fl_179 (by decide) (by decide) ?_
        refine i_icmp_lt 66 29 rfl (by decide) (fun c => ?_) (fun c => ?_)
        · replace h := h.1 c
          refine i_iload_n 34 rfl rfl ?_
          refine i_if_ne 85 35 rfl (by decide) (fun c => ?_) (fun c => ?_)
          · replace h := h.1 c
            refine i_aload_n 43 rfl rfl (by decide) ?_
            refine i_getP (c := 10) (k := 3) (t := 13) (b := 40) 44 rfl fl_349 (by decide) rfl (by decide) rfl ?_
            refine i_getP (c := 3) (k := 2) (t := 10) (b := 42) 45 rfl fl_257 (by decide) rfl (by decide) rfl ?_
            refine i_getP (c := 0) (k := 2) (t := 107) (b := 44) 46 rfl fl_185 (by decide) rfl (by decide) rfl ?_
            refine i_iload_n 47 rfl rfl ?_
            refine i_lald (τ := 7) 48 rfl ⟨rfl, rfl, rfl, by decide⟩ h.1.1 h.1.2 ?_
            replace h := h.2
            exact i_lreturn 49 rfl rfl h
          · replace h := h.2 c
            refine i_aload_n 36 rfl rfl (by decide) ?_
            refine i_getP (c := 10) (k := 3) (t := 13) (b := 40) 37 rfl fl_349 (by decide) rfl (by decide) rfl ?_
            refine i_getP (c := 3) (k := 2) (t := 10) (b := 42) 38 rfl fl_257 (by decide) rfl (by decide) rfl ?_
            refine i_getP (c := 0) (k := 1) (t := 107) (b := 43) 39 rfl fl_182 (by decide) rfl (by decide) rfl ?_
            refine i_iload_n 40 rfl rfl ?_
            refine i_lald (τ := 7) 41 rfl ⟨rfl, rfl, rfl, by decide⟩ h.1.1 h.1.2 ?_
            replace h := h.2
            refine i_goto 97 42 rfl (by decide) ?_
            exact i_lreturn 49 rfl rfl h
        · replace h := h.2 c
          refine i_aload_n 30 rfl rfl (by decide) ?_
          refine i_iconst 31 rfl (by decide) ?_
          refine i_callV (c := 10) (y1 := m_X10_tellLong) (z1 := (1, 0, 0)) (z2 := (6, 0, 0)) [(0, 0)] 32 rfl ml_607 ok_X10_tellLong vk_X10_tellLong ⟨by decide, rfl⟩ rfl ⟨rfl, Nat.le_of_ble_eq_true rfl⟩ (Nat.le_of_ble_eq_true rfl) ⟨by decide, rfl, rfl, rfl⟩ ?_
          refine h.mono (fun r zM6 h => ?_)
          obtain ⟨zr7, rfl, h⟩ := h
          simp only [Option.toList_some, Option.toList_none, List.cons_append, List.nil_append]
          exact i_lreturn 33 rfl rfl h
    · replace h := h.2 c
      refine i_aload_n 11 rfl rfl (by decide) ?_
      refine i_iconst 12 rfl (by decide) ?_
      refine i_callV (c := 10) (y1 := m_X10_tellLong) (z1 := (1, 0, 0)) (z2 := (6, 0, 0)) [(0, 0)] 13 rfl ml_607 ok_X10_tellLong vk_X10_tellLong ⟨by decide, rfl⟩ rfl ⟨rfl, Nat.le_of_ble_eq_true rfl⟩ (Nat.le_of_ble_eq_true rfl) ⟨by decide, rfl, rfl, rfl⟩ ?_
      refine h.mono (fun r zM8 h => ?_)
      obtain ⟨zr9, rfl, h⟩ := h
      simp only [Option.toList_some, Option.toList_none, List.cons_append, List.nil_append]
      exact i_lreturn 14 rfl rfl h
  · replace h := h.2 c
    refine i_aload_n 3 rfl rfl (by decide) ?_
    refine i_iload_n 4 rfl rfl ?_
    refine i_callV (c := 10) (y1 := m_X10_isNoFollower) (z1 := (1, 0, 0)) (z2 := (6, 0, 0)) [(0, a1)] 5 rfl ml_488 ok_X10_isNoFollower vk_X10_isNoFollower ⟨by decide, rfl⟩ rfl ⟨rfl, Nat.le_of_ble_eq_true rfl⟩ (Nat.le_of_ble_eq_true rfl) ⟨by decide, rfl, rfl, rfl⟩ ?_
    refine h.mono (fun r zM10 h => ?_)
    obtain ⟨zr11, rfl, h⟩ := h
    simp only [Option.toList_some, Option.toList_none, List.cons_append, List.nil_append]
    refine i_if_ne 21 6 rfl (by decide) (fun c => ?_) (fun c => ?_)
    · replace h := h.1 c
      refine i_aload_n 11 rfl rfl (by decide) ?_
      refine i_iconst 12 rfl (by decide) ?_
      refine i_callV (c := 10) (y1 := m_X10_tellLong) (z1 := (1, 0, 0)) (z2 := (6, 0, 0)) [(0, 0)] 13 rfl ml_607 ok_X10_tellLong vk_X10_tellLong ⟨by decide, rfl⟩ rfl ⟨rfl, Nat.le_of_ble_eq_true rfl⟩ (Nat.le_of_ble_eq_true rfl) ⟨by decide, rfl, rfl, rfl⟩ ?_
      refine h.mono (fun r zM12 h => ?_)
      obtain ⟨zr13, rfl, h⟩ := h
      simp only [Option.toList_some, Option.toList_none, List.cons_append, List.nil_append]
      exact i_lreturn 14 rfl rfl h
    · replace h := h.2 c
      refine i_aload_n 7 rfl rfl (by decide) ?_
      refine i_iload_n 8 rfl rfl ?_
      refine i_callV (c := 10) (y1 := m_X10_isNoPart) (z1 := (1, 0, 0)) (z2 := (6, 0, 0)) [(0, a3)] 9 rfl ml_603 ok_X10_isNoPart vk_X10_isNoPart ⟨by decide, rfl⟩ rfl ⟨rfl, Nat.le_of_ble_eq_true rfl⟩ (Nat.le_of_ble_eq_true rfl) ⟨by decide, rfl, rfl, rfl⟩ ?_
      refine h.mono (fun r zM14 h => ?_)
      obtain ⟨zr15, rfl, h⟩ := h
      simp only [Option.toList_some, Option.toList_none, List.cons_append, List.nil_append]
      refine i_if_eq 27 10 rfl (by decide) (fun c => ?_) (fun c => ?_)
      · replace h := h.1 c
        refine i_aload_n 15 rfl rfl (by decide) ?_
        refine i_getP (c := 10) (k := 3) (t := 13) (b := 40) 16 rfl fl_349 (by decide) rfl (by decide) rfl ?_
        refine i_iload_n 17 rfl rfl ?_
        refine i_aload_n 18 rfl rfl (by decide) ?_
        refine i_getP (c := 10) (k := 0) (t := 19) (b := 6) 19 rfl fl_346 (by decide) rfl (by decide) rfl ?_
        refine i_getI (c := 9) (k := 1) 20 rfl fl_109 (by decide) (by decide) ?_
        refine i_callV (c := 3) (y1 := m_X3_gatherBreaks) (z1 := (5, 0, 0)) (z2 := (6, 0, 0)) [(0, a1), (0, (zM14 6 1))] 21 rfl ml_746 ok_X3_gatherBreaks vk_X3_gatherBreaks ⟨by decide, rfl⟩ rfl ⟨rfl, Nat.le_of_ble_eq_true rfl⟩ (Nat.le_of_ble_eq_true rfl) ⟨by decide, rfl, rfl, rfl⟩ ?_
        refine h.mono (fun r zM16 h => ?_)
        obtain ⟨rfl, h⟩ := h
        simp only [Option.toList_some, Option.toList_none, List.cons_append, List.nil_append]
        refine i_iload_n 22 rfl rfl ?_
        refine i_if_lt 60 23 rfl (by decide) (fun c => ?_) (fun c => ?_)
        · replace h := h.1 c
          refine i_aload_n 30 rfl rfl (by decide) ?_
          refine i_iconst 31 rfl (by decide) ?_
          refine i_callV (c := 10) (y1 := m_X10_tellLong) (z1 := (1, 0, 0)) (z2 := (6, 0, 0)) [(0, 0)] 32 rfl ml_607 ok_X10_tellLong vk_X10_tellLong ⟨by decide, rfl⟩ rfl ⟨rfl, Nat.le_of_ble_eq_true rfl⟩ (Nat.le_of_ble_eq_true rfl) ⟨by decide, rfl, rfl, rfl⟩ ?_
          refine h.mono (fun r zM17 h => ?_)
          obtain ⟨zr18, rfl, h⟩ := h
          simp only [Option.toList_some, Option.toList_none, List.cons_append, List.nil_append]
          exact i_lreturn 33 rfl rfl h
        · replace h := h.2 c
          refine i_iload_n 24 rfl rfl ?_
          refine i_aload_n 25 rfl rfl (by decide) ?_
          refine i_getP (c := 10) (k := 3) (t := 13) (b := 40) 26 rfl fl_349 (by decide) rfl (by decide) rfl ?_
          refine i_getP (c := 3) (k := 2) (t := 10) (b := 42) 27 rfl fl_257 (by decide) rfl (by decide) rfl ?_
          refine i_getI (c := 0) (k := 0) 28 rfl fl_179 (by decide) (by decide) ?_
          refine i_icmp_lt 66 29 rfl (by decide) (fun c => ?_) (fun c => ?_)
          · replace h := h.1 c
            refine i_iload_n 34 rfl rfl ?_
            refine i_if_ne 85 35 rfl (by decide) (fun c => ?_) (fun c => ?_)
            · replace h := h.1 c
              refine i_aload_n 43 rfl rfl (by decide) ?_
              refine i_getP (c := 10) (k := 3) (t := 13) (b := 40) 44 rfl fl_349 (by decide) rfl (by decide) rfl ?_
              refine i_getP (c := 3) (k := 2) (t := 10) (b := 42) 45 rfl fl_257 (by decide) rfl (by decide) rfl ?_
              refine i_getP (c := 0) (k := 2) (t := 107) (b := 44) 46 rfl fl_185 (by decide) rfl (by decide) rfl ?_
              refine i_iload_n 47 rfl rfl ?_
              refine i_lald (τ := 7) 48 rfl ⟨rfl, rfl, rfl, by decide⟩ h.1.1 h.1.2 ?_
              replace h := h.2
              exact i_lreturn 49 rfl rfl h
            · replace h := h.2 c
              refine i_aload_n 36 rfl rfl (by decide) ?_
              refine i_getP (c := 10) (k := 3) (t := 13) (b := 40) 37 rfl fl_349 (by decide) rfl (by decide) rfl ?_
              refine i_getP (c := 3) (k := 2) (t := 10) (b := 42) 38 rfl fl_257 (by decide) rfl (by decide) rfl ?_
              refine i_getP (c := 0) (k := 1) (t := 107) (b := 43) 39 rfl fl_182 (by decide) rfl (by decide) rfl ?_
              refine i_iload_n 40 rfl rfl ?_
              refine i_lald (τ := 7) 41 rfl ⟨rfl, rfl, rfl, by decide⟩ h.1.1 h.1.2 ?_
              replace h := h.2
              refine i_goto 97 42 rfl (by decide) ?_
              exact i_lreturn 49 rfl rfl h
          · replace h := h.2 c
            refine i_aload_n 30 rfl rfl (by decide) ?_
            refine i_iconst 31 rfl (by decide) ?_
            refine i_callV (c := 10) (y1 := m_X10_tellLong) (z1 := (1, 0, 0)) (z2 := (6, 0, 0)) [(0, 0)] 32 rfl ml_607 ok_X10_tellLong vk_X10_tellLong ⟨by decide, rfl⟩ rfl ⟨rfl, Nat.le_of_ble_eq_true rfl⟩ (Nat.le_of_ble_eq_true rfl) ⟨by decide, rfl, rfl, rfl⟩ ?_
            refine h.mono (fun r zM19 h => ?_)
            obtain ⟨zr20, rfl, h⟩ := h
            simp only [Option.toList_some, Option.toList_none, List.cons_append, List.nil_append]
            exact i_lreturn 33 rfl rfl h
      · replace h := h.2 c
        refine i_aload_n 11 rfl rfl (by decide) ?_
        refine i_iconst 12 rfl (by decide) ?_
        refine i_callV (c := 10) (y1 := m_X10_tellLong) (z1 := (1, 0, 0)) (z2 := (6, 0, 0)) [(0, 0)] 13 rfl ml_607 ok_X10_tellLong vk_X10_tellLong ⟨by decide, rfl⟩ rfl ⟨rfl, Nat.le_of_ble_eq_true rfl⟩ (Nat.le_of_ble_eq_true rfl) ⟨by decide, rfl, rfl, rfl⟩ ?_
        refine h.mono (fun r zM21 h => ?_)
        obtain ⟨zr22, rfl, h⟩ := h
        simp only [Option.toList_some, Option.toList_none, List.cons_append, List.nil_append]
        exact i_lreturn 14 rfl rfl h
theorem u_X10_piece_0 {l : Launch} {E : xE} (a1 a2 : Int) {M : xM} {Q : Option xV → xM → Prop} (h : x_Ev l E (5, 0, 0) m_X3_gatherBreaks 0 [(13, 40), (0, (-1)), (0, (M 6 1)), (5, 0)] [] M (fun r zM1 => r = none ∧ (a1 < 0 → x_Ev l E (1, 0, 0) m_X10_tellLong 0 [(20, 5), (0, 0)] [] zM1 (fun r zM2 => ∃ zr3, r = some (1, zr3) ∧ Q (some (1, zr3)) zM2)) ∧ (¬ a1 < 0 → ((zM1 42 0) < a1 → x_Ev l E (1, 0, 0) m_X10_tellLong 0 [(20, 5), (0, 0)] [] zM1 (fun r zM4 => ∃ zr5, r = some (1, zr5) ∧ Q (some (1, zr5)) zM4)) ∧ (¬ (zM1 42 0) < a1 → (a2 < 0 → x_Ev l E (1, 0, 0) m_X10_tellLong 0 [(20, 5), (0, 0)] [] zM1 (fun r zM6 => ∃ zr7, r = some (1, zr7) ∧ Q (some (1, zr7)) zM6)) ∧ (¬ a2 < 0 → (a2 < 6 → x_Ev l E (5, 0, 0) m_X3_tellPiece 0 [(13, 40), (0, a1), (118, 101), (0, 0)] [] zM1 (fun r zM8 => r = none ∧ ((0 : Int) ≤ a2 ∧ (a2 : Int) < 6) ∧ Q (some (1, (zM8 101 a2))) zM8)) ∧ (¬ a2 < 6 → x_Ev l E (1, 0, 0) m_X10_tellLong 0 [(20, 5), (0, 0)] [] zM1 (fun r zM9 => ∃ zr10, r = some (1, zr10) ∧ Q (some (1, zr10)) zM9))))))) : x_Ev l E (6, 0, 0) m_X10_piece 0 [(20, 5), (0, a1), (0, a2)] [] M Q := by
  refine i_aload_n 0 rfl rfl (by decide) ?_
  refine i_getP (c := 10) (k := 3) (t := 13) (b := 40) 1 rfl fl_349 (by decide) rfl (by decide) rfl ?_
  refine i_iconst 2 rfl (by decide) ?_
  refine i_aload_n 3 rfl rfl (by decide) ?_
  refine i_getP (c := 10) (k := 0) (t := 19) (b := 6) 4 rfl fl_346 (by decide) rfl (by decide) rfl ?_
  refine i_getI (c := 9) (k := 1) 5 rfl fl_109 (by decide) (by decide) ?_
  refine i_callV (c := 3) (y1 := m_X3_gatherBreaks) (z1 := (5, 0, 0)) (z2 := (6, 0, 0)) [(0, (-1)), (0, (M 6 1))] 6 rfl ml_746 ok_X3_gatherBreaks vk_X3_gatherBreaks ⟨by decide, rfl⟩ rfl ⟨rfl, Nat.le_of_ble_eq_true rfl⟩ (Nat.le_of_ble_eq_true rfl) ⟨by decide, rfl, rfl, rfl⟩ ?_
  refine h.mono (fun r zM1 h => ?_)
  obtain ⟨rfl, h⟩ := h
  simp only [Option.toList_some, Option.toList_none, List.cons_append, List.nil_append]
  refine i_iload_n 7 rfl rfl ?_
  refine i_if_lt 43 8 rfl (by decide) (fun c => ?_) (fun c => ?_)
  · replace h := h.1 c
    refine i_aload_n 20 rfl rfl (by decide) ?_
    refine i_iconst 21 rfl (by decide) ?_
    refine i_callV (c := 10) (y1 := m_X10_tellLong) (z1 := (1, 0, 0)) (z2 := (6, 0, 0)) [(0, 0)] 22 rfl ml_607 ok_X10_tellLong vk_X10_tellLong ⟨by decide, rfl⟩ rfl ⟨rfl, Nat.le_of_ble_eq_true rfl⟩ (Nat.le_of_ble_eq_true rfl) ⟨by decide, rfl, rfl, rfl⟩ ?_
    refine h.mono (fun r zM2 h => ?_)
    obtain ⟨zr3, rfl, h⟩ := h
    simp only [Option.toList_some, Option.toList_none, List.cons_append, List.nil_append]
    exact i_lreturn 23 rfl rfl h
  · replace h := h.2 c
    refine i_iload_n 9 rfl rfl ?_
    refine i_aload_n 10 rfl rfl (by decide) ?_
    refine i_getP (c := 10) (k := 3) (t := 13) (b := 40) 11 rfl fl_349 (by decide) rfl (by decide) rfl ?_
    refine i_getP (c := 3) (k := 2) (t := 10) (b := 42) 12 rfl fl_257 (by decide) rfl (by decide) rfl ?_
    refine i_getI (c := 0) (k := 0) 13 rfl fl_179 (by decide) (by decide) ?_
    refine i_icmp_gt 43 14 rfl (by decide) (fun c => ?_) (fun c => ?_)
    · replace h := h.1 c
      refine i_aload_n 20 rfl rfl (by decide) ?_
      refine i_iconst 21 rfl (by decide) ?_
      refine i_callV (c := 10) (y1 := m_X10_tellLong) (z1 := (1, 0, 0)) (z2 := (6, 0, 0)) [(0, 0)] 22 rfl ml_607 ok_X10_tellLong vk_X10_tellLong ⟨by decide, rfl⟩ rfl ⟨rfl, Nat.le_of_ble_eq_true rfl⟩ (Nat.le_of_ble_eq_true rfl) ⟨by decide, rfl, rfl, rfl⟩ ?_
      refine h.mono (fun r zM4 h => ?_)
      obtain ⟨zr5, rfl, h⟩ := h
      simp only [Option.toList_some, Option.toList_none, List.cons_append, List.nil_append]
      exact i_lreturn 23 rfl rfl h
    · replace h := h.2 c
      refine i_iload_n 15 rfl rfl ?_
      refine i_if_lt 43 16 rfl (by decide) (fun c => ?_) (fun c => ?_)
      · replace h := h.1 c
        refine i_aload_n 20 rfl rfl (by decide) ?_
        refine i_iconst 21 rfl (by decide) ?_
        refine i_callV (c := 10) (y1 := m_X10_tellLong) (z1 := (1, 0, 0)) (z2 := (6, 0, 0)) [(0, 0)] 22 rfl ml_607 ok_X10_tellLong vk_X10_tellLong ⟨by decide, rfl⟩ rfl ⟨rfl, Nat.le_of_ble_eq_true rfl⟩ (Nat.le_of_ble_eq_true rfl) ⟨by decide, rfl, rfl, rfl⟩ ?_
        refine h.mono (fun r zM6 h => ?_)
        obtain ⟨zr7, rfl, h⟩ := h
        simp only [Option.toList_some, Option.toList_none, List.cons_append, List.nil_append]
        exact i_lreturn 23 rfl rfl h
      · replace h := h.2 c
        refine i_iload_n 17 rfl rfl ?_
        refine i_bipush 18 rfl (by decide) ?_
        refine i_icmp_lt 49 19 rfl (by decide) (fun c => ?_) (fun c => ?_)
        · replace h := h.1 c
          refine i_aload_n 24 rfl rfl (by decide) ?_
          refine i_getP (c := 10) (k := 3) (t := 13) (b := 40) 25 rfl fl_349 (by decide) rfl (by decide) rfl ?_
          refine i_iload_n 26 rfl rfl ?_
          refine i_aload_n 27 rfl rfl (by decide) ?_
          refine i_getP (c := 10) (k := 13) (t := 118) (b := 101) 28 rfl fl_359 (by decide) rfl (by decide) rfl ?_
          refine i_iconst 29 rfl (by decide) ?_
          refine i_callV (c := 3) (y1 := m_X3_tellPiece) (z1 := (5, 0, 0)) (z2 := (6, 0, 0)) [(0, a1), (118, 101), (0, 0)] 30 rfl ml_787 ok_X3_tellPiece vk_X3_tellPiece ⟨by decide, rfl⟩ rfl ⟨rfl, Nat.le_of_ble_eq_true rfl⟩ (Nat.le_of_ble_eq_true rfl) ⟨by decide, rfl, rfl, rfl⟩ ?_
          refine h.mono (fun r zM8 h => ?_)
          obtain ⟨rfl, h⟩ := h
          simp only [Option.toList_some, Option.toList_none, List.cons_append, List.nil_append]
          refine i_aload_n 31 rfl rfl (by decide) ?_
          refine i_getP (c := 10) (k := 13) (t := 118) (b := 101) 32 rfl fl_359 (by decide) rfl (by decide) rfl ?_
          refine i_iload_n 33 rfl rfl ?_
          refine i_lald (τ := 18) 34 rfl ⟨rfl, rfl, rfl, by decide⟩ h.1.1 h.1.2 ?_
          replace h := h.2
          exact i_lreturn 35 rfl rfl h
        · replace h := h.2 c
          refine i_aload_n 20 rfl rfl (by decide) ?_
          refine i_iconst 21 rfl (by decide) ?_
          refine i_callV (c := 10) (y1 := m_X10_tellLong) (z1 := (1, 0, 0)) (z2 := (6, 0, 0)) [(0, 0)] 22 rfl ml_607 ok_X10_tellLong vk_X10_tellLong ⟨by decide, rfl⟩ rfl ⟨rfl, Nat.le_of_ble_eq_true rfl⟩ (Nat.le_of_ble_eq_true rfl) ⟨by decide, rfl, rfl, rfl⟩ ?_
          refine h.mono (fun r zM9 h => ?_)
          obtain ⟨zr10, rfl, h⟩ := h
          simp only [Option.toList_some, Option.toList_none, List.cons_append, List.nil_append]
          exact i_lreturn 23 rfl rfl h
theorem u_X10_best_0 {l : Launch} {E : xE} (a1 : Int) {M : xM} {Q : Option xV → xM → Prop} (h : (a1 < 0 → x_Ev l E (1, 0, 0) m_X10_tellLong 0 [(20, 5), (0, 0)] [] M (fun r zM1 => ∃ zr2, r = some (1, zr2) ∧ Q (some (1, zr2)) zM1)) ∧ (¬ a1 < 0 → (a1 ≤ 4 → x_Ev l E (6, 0, 0) m_X3_seekBest 0 [(13, 40), (0, (M 6 1)), (5, 0)] [] M (fun r zM3 => r = none ∧ x_Ev l E (2, 0, 0) m_X3_tellBest 0 [(13, 40), (0, a1)] [] zM3 (fun r zM4 => ∃ zr5, r = some (1, zr5) ∧ Q (some (1, zr5)) zM4))) ∧ (¬ a1 ≤ 4 → x_Ev l E (1, 0, 0) m_X10_tellLong 0 [(20, 5), (0, 0)] [] M (fun r zM6 => ∃ zr7, r = some (1, zr7) ∧ Q (some (1, zr7)) zM6)))) : x_Ev l E (7, 0, 0) m_X10_best 0 [(20, 5), (0, a1)] [] M Q := by
  refine i_iload_n 0 rfl rfl ?_
  refine i_if_lt 9 1 rfl (by decide) (fun c => ?_) (fun c => ?_)
  · replace h := h.1 c
    refine i_aload_n 5 rfl rfl (by decide) ?_
    refine i_iconst 6 rfl (by decide) ?_
    refine i_callV (c := 10) (y1 := m_X10_tellLong) (z1 := (1, 0, 0)) (z2 := (7, 0, 0)) [(0, 0)] 7 rfl ml_607 ok_X10_tellLong vk_X10_tellLong ⟨by decide, rfl⟩ rfl ⟨rfl, Nat.le_of_ble_eq_true rfl⟩ (Nat.le_of_ble_eq_true rfl) ⟨by decide, rfl, rfl, rfl⟩ ?_
    refine h.mono (fun r zM1 h => ?_)
    obtain ⟨zr2, rfl, h⟩ := h
    simp only [Option.toList_some, Option.toList_none, List.cons_append, List.nil_append]
    exact i_lreturn 8 rfl rfl h
  · replace h := h.2 c
    refine i_iload_n 2 rfl rfl ?_
    refine i_iconst 3 rfl (by decide) ?_
    refine i_icmp_le 15 4 rfl (by decide) (fun c => ?_) (fun c => ?_)
    · replace h := h.1 c
      refine i_aload_n 9 rfl rfl (by decide) ?_
      refine i_getP (c := 10) (k := 3) (t := 13) (b := 40) 10 rfl fl_349 (by decide) rfl (by decide) rfl ?_
      refine i_aload_n 11 rfl rfl (by decide) ?_
      refine i_getP (c := 10) (k := 0) (t := 19) (b := 6) 12 rfl fl_346 (by decide) rfl (by decide) rfl ?_
      refine i_getI (c := 9) (k := 1) 13 rfl fl_109 (by decide) (by decide) ?_
      refine i_callV (c := 3) (y1 := m_X3_seekBest) (z1 := (6, 0, 0)) (z2 := (7, 0, 0)) [(0, (M 6 1))] 14 rfl ml_801 ok_X3_seekBest vk_X3_seekBest ⟨by decide, rfl⟩ rfl ⟨rfl, Nat.le_of_ble_eq_true rfl⟩ (Nat.le_of_ble_eq_true rfl) ⟨by decide, rfl, rfl, rfl⟩ ?_
      refine h.mono (fun r zM3 h => ?_)
      obtain ⟨rfl, h⟩ := h
      simp only [Option.toList_some, Option.toList_none, List.cons_append, List.nil_append]
      refine i_aload_n 15 rfl rfl (by decide) ?_
      refine i_getP (c := 10) (k := 3) (t := 13) (b := 40) 16 rfl fl_349 (by decide) rfl (by decide) rfl ?_
      refine i_iload_n 17 rfl rfl ?_
      refine i_callV (c := 3) (y1 := m_X3_tellBest) (z1 := (2, 0, 0)) (z2 := (7, 0, 0)) [(0, a1)] 18 rfl ml_819 ok_X3_tellBest vk_X3_tellBest ⟨by decide, rfl⟩ rfl ⟨rfl, Nat.le_of_ble_eq_true rfl⟩ (Nat.le_of_ble_eq_true rfl) ⟨by decide, rfl, rfl, rfl⟩ ?_
      refine h.mono (fun r zM4 h => ?_)
      obtain ⟨zr5, rfl, h⟩ := h
      simp only [Option.toList_some, Option.toList_none, List.cons_append, List.nil_append]
      exact i_lreturn 19 rfl rfl h
    · replace h := h.2 c
      refine i_aload_n 5 rfl rfl (by decide) ?_
      refine i_iconst 6 rfl (by decide) ?_
      refine i_callV (c := 10) (y1 := m_X10_tellLong) (z1 := (1, 0, 0)) (z2 := (7, 0, 0)) [(0, 0)] 7 rfl ml_607 ok_X10_tellLong vk_X10_tellLong ⟨by decide, rfl⟩ rfl ⟨rfl, Nat.le_of_ble_eq_true rfl⟩ (Nat.le_of_ble_eq_true rfl) ⟨by decide, rfl, rfl, rfl⟩ ?_
      refine h.mono (fun r zM6 h => ?_)
      obtain ⟨zr7, rfl, h⟩ := h
      simp only [Option.toList_some, Option.toList_none, List.cons_append, List.nil_append]
      exact i_lreturn 8 rfl rfl h
theorem u_X10_asKind_0 {l : Launch} {E : xE} (a1 a2 : Int) {M : xM} {Q : Option xV → xM → Prop} (h : (a1 < 0 → x_Ev l E (1, 0, 0) m_X10_tellLong 0 [(20, 5), (0, 0)] [] M (fun r zM1 => ∃ zr2, r = some (1, zr2) ∧ Q (some (1, zr2)) zM1)) ∧ (¬ a1 < 0 → (7 ≤ a1 → x_Ev l E (1, 0, 0) m_X10_tellLong 0 [(20, 5), (0, 0)] [] M (fun r zM3 => ∃ zr4, r = some (1, zr4) ∧ Q (some (1, zr4)) zM3)) ∧ (¬ 7 ≤ a1 → (a2 < 0 → x_Ev l E (1, 0, 0) m_X10_tellLong 0 [(20, 5), (0, 0)] [] M (fun r zM5 => ∃ zr6, r = some (1, zr6) ∧ Q (some (1, zr6)) zM5)) ∧ (¬ a2 < 0 → (a2 ≤ 4 → x_Ev l E (7, 0, 0) m_X10_asKind 27 [(20, 5), (0, a1), (0, a2), (0, 0)] [] M Q) ∧ (¬ a2 ≤ 4 → x_Ev l E (1, 0, 0) m_X10_tellLong 0 [(20, 5), (0, 0)] [] M (fun r zM7 => ∃ zr8, r = some (1, zr8) ∧ Q (some (1, zr8)) zM7)))))) : x_Ev l E (7, 0, 0) m_X10_asKind 0 [(20, 5), (0, a1), (0, a2), (5, 0)] [] M Q := by
  refine i_iload_n 0 rfl rfl ?_
  refine i_if_lt 19 1 rfl (by decide) (fun c => ?_) (fun c => ?_)
  · replace h := h.1 c
    refine i_aload_n 10 rfl rfl (by decide) ?_
    refine i_iconst 11 rfl (by decide) ?_
    refine i_callV (c := 10) (y1 := m_X10_tellLong) (z1 := (1, 0, 0)) (z2 := (7, 0, 0)) [(0, 0)] 12 rfl ml_607 ok_X10_tellLong vk_X10_tellLong ⟨by decide, rfl⟩ rfl ⟨rfl, Nat.le_of_ble_eq_true rfl⟩ (Nat.le_of_ble_eq_true rfl) ⟨by decide, rfl, rfl, rfl⟩ ?_
    refine h.mono (fun r zM1 h => ?_)
    obtain ⟨zr2, rfl, h⟩ := h
    simp only [Option.toList_some, Option.toList_none, List.cons_append, List.nil_append]
    exact i_lreturn 13 rfl rfl h
  · replace h := h.2 c
    refine i_iload_n 2 rfl rfl ?_
    refine i_bipush 3 rfl (by decide) ?_
    refine i_icmp_ge 19 4 rfl (by decide) (fun c => ?_) (fun c => ?_)
    · replace h := h.1 c
      refine i_aload_n 10 rfl rfl (by decide) ?_
      refine i_iconst 11 rfl (by decide) ?_
      refine i_callV (c := 10) (y1 := m_X10_tellLong) (z1 := (1, 0, 0)) (z2 := (7, 0, 0)) [(0, 0)] 12 rfl ml_607 ok_X10_tellLong vk_X10_tellLong ⟨by decide, rfl⟩ rfl ⟨rfl, Nat.le_of_ble_eq_true rfl⟩ (Nat.le_of_ble_eq_true rfl) ⟨by decide, rfl, rfl, rfl⟩ ?_
      refine h.mono (fun r zM3 h => ?_)
      obtain ⟨zr4, rfl, h⟩ := h
      simp only [Option.toList_some, Option.toList_none, List.cons_append, List.nil_append]
      exact i_lreturn 13 rfl rfl h
    · replace h := h.2 c
      refine i_iload_n 5 rfl rfl ?_
      refine i_if_lt 19 6 rfl (by decide) (fun c => ?_) (fun c => ?_)
      · replace h := h.1 c
        refine i_aload_n 10 rfl rfl (by decide) ?_
        refine i_iconst 11 rfl (by decide) ?_
        refine i_callV (c := 10) (y1 := m_X10_tellLong) (z1 := (1, 0, 0)) (z2 := (7, 0, 0)) [(0, 0)] 12 rfl ml_607 ok_X10_tellLong vk_X10_tellLong ⟨by decide, rfl⟩ rfl ⟨rfl, Nat.le_of_ble_eq_true rfl⟩ (Nat.le_of_ble_eq_true rfl) ⟨by decide, rfl, rfl, rfl⟩ ?_
        refine h.mono (fun r zM5 h => ?_)
        obtain ⟨zr6, rfl, h⟩ := h
        simp only [Option.toList_some, Option.toList_none, List.cons_append, List.nil_append]
        exact i_lreturn 13 rfl rfl h
      · replace h := h.2 c
        refine i_iload_n 7 rfl rfl ?_
        refine i_iconst 8 rfl (by decide) ?_
        refine i_icmp_le 25 9 rfl (by decide) (fun c => ?_) (fun c => ?_)
        · replace h := h.1 c
          refine i_iconst 14 rfl (by decide) ?_
          refine i_istore_n 15 rfl (by decide) rfl ?_
          exact h
        · replace h := h.2 c
          refine i_aload_n 10 rfl rfl (by decide) ?_
          refine i_iconst 11 rfl (by decide) ?_
          refine i_callV (c := 10) (y1 := m_X10_tellLong) (z1 := (1, 0, 0)) (z2 := (7, 0, 0)) [(0, 0)] 12 rfl ml_607 ok_X10_tellLong vk_X10_tellLong ⟨by decide, rfl⟩ rfl ⟨rfl, Nat.le_of_ble_eq_true rfl⟩ (Nat.le_of_ble_eq_true rfl) ⟨by decide, rfl, rfl, rfl⟩ ?_
          refine h.mono (fun r zM7 h => ?_)
          obtain ⟨zr8, rfl, h⟩ := h
          simp only [Option.toList_some, Option.toList_none, List.cons_append, List.nil_append]
          exact i_lreturn 13 rfl rfl h
theorem u_X10_asKind_27 {l : Launch} {E : xE} (l1 l2 l3 : Int) {M : xM} {Q : Option xV → xM → Prop} (h : ((M 6 0) ≤ l3 → x_Ev l E (6, 0, 0) m_X3_seekBest 0 [(13, 40), (0, (M 6 1)), (5, 0)] [] M (fun r zM1 => r = none ∧ x_Ev l E (7, 0, 0) m_X10_asKind 91 [(20, 5), (0, l1), (0, l2), (0, 0)] [] zM1 Q)) ∧ (¬ (M 6 0) ≤ l3 → ((0 : Int) ≤ l3 ∧ (l3 : Int) < 3) ∧ (0 ≤ l3 ∧ l3 < 3) ∧ ∀ zM2 : xM, zM2 = x_wr M 85 l3 (M (8 + 1 + 4 * l3) 0) → ((0 : Int) ≤ l3 ∧ (l3 : Int) < 3) ∧ ∀ zM3 : xM, zM3 = x_wr zM2 (8 + 1 + 4 * l3) 0 l1 → ∀ zv4 : Int, zv4 = x_w (l3 + 1) → x_Ev l E (7, 0, 0) m_X10_asKind 27 [(20, 5), (0, l1), (0, l2), (0, zv4)] [] zM3 Q)) : x_Ev l E (7, 0, 0) m_X10_asKind 27 [(20, 5), (0, l1), (0, l2), (0, l3)] [] M Q := by
  refine i_iload_n 16 rfl rfl ?_
  refine i_aload_n 17 rfl rfl (by decide) ?_
  refine i_getP (c := 10) (k := 0) (t := 19) (b := 6) 18 rfl fl_346 (by decide) rfl (by decide) rfl ?_
  refine i_getI (c := 9) (k := 0) 19 rfl fl_104 (by decide) (by decide) ?_
  refine i_icmp_ge 75 20 rfl (by decide) (fun c => ?_) (fun c => ?_)
  · replace h := h.1 c
    refine i_aload_n 40 rfl rfl (by decide) ?_
    refine i_getP (c := 10) (k := 3) (t := 13) (b := 40) 41 rfl fl_349 (by decide) rfl (by decide) rfl ?_
    refine i_aload_n 42 rfl rfl (by decide) ?_
    refine i_getP (c := 10) (k := 0) (t := 19) (b := 6) 43 rfl fl_346 (by decide) rfl (by decide) rfl ?_
    refine i_getI (c := 9) (k := 1) 44 rfl fl_109 (by decide) (by decide) ?_
    refine i_callV (c := 3) (y1 := m_X3_seekBest) (z1 := (6, 0, 0)) (z2 := (7, 0, 0)) [(0, (M 6 1))] 45 rfl ml_801 ok_X3_seekBest vk_X3_seekBest ⟨by decide, rfl⟩ rfl ⟨rfl, Nat.le_of_ble_eq_true rfl⟩ (Nat.le_of_ble_eq_true rfl) ⟨by decide, rfl, rfl, rfl⟩ ?_
    refine h.mono (fun r zM1 h => ?_)
    obtain ⟨rfl, h⟩ := h
    simp only [Option.toList_some, Option.toList_none, List.cons_append, List.nil_append]
    refine i_iconst 46 rfl (by decide) ?_
    refine i_istore_n 47 rfl (by decide) rfl ?_
    exact h
  · replace h := h.2 c
    refine i_aload_n 21 rfl rfl (by decide) ?_
    refine i_getP (c := 10) (k := 6) (t := 114) (b := 85) 22 rfl fl_352 (by decide) rfl (by decide) rfl ?_
    refine i_iload_n 23 rfl rfl ?_
    refine i_aload_n 24 rfl rfl (by decide) ?_
    refine i_getP (c := 10) (k := 0) (t := 19) (b := 6) 25 rfl fl_346 (by decide) rfl (by decide) rfl ?_
    refine i_getP (c := 9) (k := 6) (t := 100) (b := 8) 26 rfl fl_121 (by decide) rfl (by decide) rfl ?_
    refine i_iload_n 27 rfl rfl ?_
    refine i_aald (τ := 0) (t := 11) (len := 3) (b := (8 + 1 + 4 * l3)) 28 rfl (by decide) rfl h.1.1 h.1.2 ?_
    replace h := h.2
    refine i_getI (c := 1) (k := 0) 29 rfl fl_61 (by decide) (by decide) ?_
    have hb := h.1
    replace h := h.2 _ rfl
    refine i_iast (τ := 14) 30 rfl ⟨rfl, rfl, rfl, by decide⟩ hb.1 hb.2 ?_
    refine i_aload_n 31 rfl rfl (by decide) ?_
    refine i_getP (c := 10) (k := 0) (t := 19) (b := 6) 32 rfl fl_346 (by decide) rfl (by decide) rfl ?_
    refine i_getP (c := 9) (k := 6) (t := 100) (b := 8) 33 rfl fl_121 (by decide) rfl (by decide) rfl ?_
    refine i_iload_n 34 rfl rfl ?_
    refine i_aald (τ := 0) (t := 11) (len := 3) (b := (8 + 1 + 4 * l3)) 35 rfl (by decide) rfl h.1.1 h.1.2 ?_
    replace h := h.2
    refine i_iload_n 36 rfl rfl ?_
    replace h := h _ rfl
    refine i_putI (c := 1) (k := 0) 37 rfl fl_61 (by decide) ⟨rfl, rfl, rfl⟩ ?_
    replace h := h _ rfl
    refine i_iinc 38 rfl rfl (by decide) rfl ?_
    refine i_goto 27 39 rfl (by decide) ?_
    exact h
theorem u_X10_asKind_91 {l : Launch} {E : xE} (l1 l2 l3 : Int) {M : xM} {Q : Option xV → xM → Prop} (h : ((M 6 0) ≤ l3 → x_Ev l E (2, 0, 0) m_X3_tellBest 0 [(13, 40), (0, l2)] [] M (fun r zM1 => ∃ zr2, r = some (1, zr2) ∧ Q (some (1, zr2)) zM1)) ∧ (¬ (M 6 0) ≤ l3 → ((0 : Int) ≤ l3 ∧ (l3 : Int) < 3) ∧ ((0 : Int) ≤ l3 ∧ (l3 : Int) < 3) ∧ ∀ zM3 : xM, zM3 = x_wr M (8 + 1 + 4 * l3) 0 (M 85 l3) → ∀ zv4 : Int, zv4 = x_w (l3 + 1) → x_Ev l E (7, 0, 0) m_X10_asKind 91 [(20, 5), (0, l1), (0, l2), (0, zv4)] [] zM3 Q)) : x_Ev l E (7, 0, 0) m_X10_asKind 91 [(20, 5), (0, l1), (0, l2), (0, l3)] [] M Q := by
  refine i_iload_n 48 rfl rfl ?_
  refine i_aload_n 49 rfl rfl (by decide) ?_
  refine i_getP (c := 10) (k := 0) (t := 19) (b := 6) 50 rfl fl_346 (by decide) rfl (by decide) rfl ?_
  refine i_getI (c := 9) (k := 0) 51 rfl fl_104 (by decide) (by decide) ?_
  refine i_icmp_ge 126 52 rfl (by decide) (fun c => ?_) (fun c => ?_)
  · replace h := h.1 c
    refine i_aload_n 65 rfl rfl (by decide) ?_
    refine i_getP (c := 10) (k := 3) (t := 13) (b := 40) 66 rfl fl_349 (by decide) rfl (by decide) rfl ?_
    refine i_iload_n 67 rfl rfl ?_
    refine i_callV (c := 3) (y1 := m_X3_tellBest) (z1 := (2, 0, 0)) (z2 := (7, 0, 0)) [(0, l2)] 68 rfl ml_819 ok_X3_tellBest vk_X3_tellBest ⟨by decide, rfl⟩ rfl ⟨rfl, Nat.le_of_ble_eq_true rfl⟩ (Nat.le_of_ble_eq_true rfl) ⟨by decide, rfl, rfl, rfl⟩ ?_
    refine h.mono (fun r zM1 h => ?_)
    obtain ⟨zr2, rfl, h⟩ := h
    simp only [Option.toList_some, Option.toList_none, List.cons_append, List.nil_append]
    exact i_lreturn 69 rfl rfl h
  · replace h := h.2 c
    refine i_aload_n 53 rfl rfl (by decide) ?_
    refine i_getP (c := 10) (k := 0) (t := 19) (b := 6) 54 rfl fl_346 (by decide) rfl (by decide) rfl ?_
    refine i_getP (c := 9) (k := 6) (t := 100) (b := 8) 55 rfl fl_121 (by decide) rfl (by decide) rfl ?_
    refine i_iload_n 56 rfl rfl ?_
    refine i_aald (τ := 0) (t := 11) (len := 3) (b := (8 + 1 + 4 * l3)) 57 rfl (by decide) rfl h.1.1 h.1.2 ?_
    replace h := h.2
    refine i_aload_n 58 rfl rfl (by decide) ?_
    refine i_getP (c := 10) (k := 6) (t := 114) (b := 85) 59 rfl fl_352 (by decide) rfl (by decide) rfl ?_
    refine i_iload_n 60 rfl rfl ?_
    refine i_iald (τ := 14) 61 rfl ⟨rfl, rfl, rfl, by decide⟩ h.1.1 h.1.2 ?_
    replace h := h.2
    replace h := h _ rfl
    refine i_putI (c := 1) (k := 0) 62 rfl fl_61 (by decide) ⟨rfl, rfl, rfl⟩ ?_
    replace h := h _ rfl
    refine i_iinc 63 rfl rfl (by decide) rfl ?_
    refine i_goto 91 64 rfl (by decide) ?_
    exact h
theorem u_X10_settle_0 {l : Launch} {E : xE} {M : xM} {Q : Option xV → xM → Prop} (h : x_Ev l E (6, 0, 0) m_X3_seekBest 0 [(13, 40), (0, (M 6 1)), (5, 0)] [] M (fun r zM1 => r = none ∧ x_Ev l E (1, 0, 0) m_X2_take 0 [(12, 7), (12, 47)] [] zM1 (fun r zM2 => r = none ∧ Q (some (0, (zM2 40 5))) zM2))) : x_Ev l E (7, 0, 0) m_X10_settle 0 [(20, 5)] [] M Q := by
  refine i_aload_n 0 rfl rfl (by decide) ?_
  refine i_getP (c := 10) (k := 3) (t := 13) (b := 40) 1 rfl fl_349 (by decide) rfl (by decide) rfl ?_
  refine i_aload_n 2 rfl rfl (by decide) ?_
  refine i_getP (c := 10) (k := 0) (t := 19) (b := 6) 3 rfl fl_346 (by decide) rfl (by decide) rfl ?_
  refine i_getI (c := 9) (k := 1) 4 rfl fl_109 (by decide) (by decide) ?_
  refine i_callV (c := 3) (y1 := m_X3_seekBest) (z1 := (6, 0, 0)) (z2 := (7, 0, 0)) [(0, (M 6 1))] 5 rfl ml_801 ok_X3_seekBest vk_X3_seekBest ⟨by decide, rfl⟩ rfl ⟨rfl, Nat.le_of_ble_eq_true rfl⟩ (Nat.le_of_ble_eq_true rfl) ⟨by decide, rfl, rfl, rfl⟩ ?_
  refine h.mono (fun r zM1 h => ?_)
  obtain ⟨rfl, h⟩ := h
  simp only [Option.toList_some, Option.toList_none, List.cons_append, List.nil_append]
  refine i_aload_n 6 rfl rfl (by decide) ?_
  refine i_getP (c := 10) (k := 0) (t := 19) (b := 6) 7 rfl fl_346 (by decide) rfl (by decide) rfl ?_
  refine i_getP (c := 9) (k := 5) (t := 12) (b := 7) 8 rfl fl_118 (by decide) rfl (by decide) rfl ?_
  refine i_aload_n 9 rfl rfl (by decide) ?_
  refine i_getP (c := 10) (k := 3) (t := 13) (b := 40) 10 rfl fl_349 (by decide) rfl (by decide) rfl ?_
  refine i_getP (c := 3) (k := 4) (t := 12) (b := 47) 11 rfl fl_261 (by decide) rfl (by decide) rfl ?_
  refine i_callV (c := 2) (y1 := m_X2_take) (z1 := (1, 0, 0)) (z2 := (7, 0, 0)) [(12, 47)] 12 rfl ml_832 ok_X2_take vk_X2_take ⟨by decide, rfl⟩ rfl ⟨rfl, Nat.le_of_ble_eq_true rfl⟩ (Nat.le_of_ble_eq_true rfl) ⟨by decide, rfl, rfl, rfl⟩ ?_
  refine h.mono (fun r zM2 h => ?_)
  obtain ⟨rfl, h⟩ := h
  simp only [Option.toList_some, Option.toList_none, List.cons_append, List.nil_append]
  refine i_aload_n 13 rfl rfl (by decide) ?_
  refine i_getP (c := 10) (k := 3) (t := 13) (b := 40) 14 rfl fl_349 (by decide) rfl (by decide) rfl ?_
  refine i_getI (c := 3) (k := 5) 15 rfl fl_263 (by decide) (by decide) ?_
  exact i_ireturn 16 rfl rfl h
theorem u_X10_kindFor_0 {l : Launch} {E : xE} (a1 : Int) {M : xM} {Q : Option xV → xM → Prop} (h : x_Ev l E (1, 0, 0) m_X10_isNoFollower 0 [(20, 5), (0, a1)] [] M (fun r zM1 => ∃ zr2, r = some (0, zr2) ∧ (zr2 = 0 → ((0 : Int) ≤ a1 ∧ (a1 : Int) < 3) ∧ ∀ zv3 : Int, zv3 = (zM1 (8 + 1 + 4 * a1) 0) → x_Ev l E (7, 0, 0) m_X10_kindFor 35 [(20, 5), (0, a1), (11, (8 + 1 + 4 * a1)), (0, zv3), (0, (-1)), (0, 0)] [] zM1 Q) ∧ (¬ zr2 = 0 → x_Ev l E (1, 0, 0) m_X10_tell 0 [(20, 5), (0, 0)] [] zM1 (fun r zM4 => ∃ zr5, r = some (0, zr5) ∧ Q (some (0, zr5)) zM4)))) : x_Ev l E (7, 0, 0) m_X10_kindFor 0 [(20, 5), (0, a1), (5, 0), (5, 0), (5, 0), (5, 0)] [] M Q := by
  refine i_aload_n 0 rfl rfl (by decide) ?_
  refine i_iload_n 1 rfl rfl ?_
  refine i_callV (c := 10) (y1 := m_X10_isNoFollower) (z1 := (1, 0, 0)) (z2 := (7, 0, 0)) [(0, a1)] 2 rfl ml_488 ok_X10_isNoFollower vk_X10_isNoFollower ⟨by decide, rfl⟩ rfl ⟨rfl, Nat.le_of_ble_eq_true rfl⟩ (Nat.le_of_ble_eq_true rfl) ⟨by decide, rfl, rfl, rfl⟩ ?_
  refine h.mono (fun r zM1 h => ?_)
  obtain ⟨zr2, rfl, h⟩ := h
  simp only [Option.toList_some, Option.toList_none, List.cons_append, List.nil_append]
  refine i_if_eq 14 3 rfl (by decide) (fun c => ?_) (fun c => ?_)
  · replace h := h.1 c
    refine i_aload_n 8 rfl rfl (by decide) ?_
    refine i_getP (c := 10) (k := 0) (t := 19) (b := 6) 9 rfl fl_346 (by decide) rfl (by decide) rfl ?_
    refine i_getP (c := 9) (k := 6) (t := 100) (b := 8) 10 rfl fl_121 (by decide) rfl (by decide) rfl ?_
    refine i_iload_n 11 rfl rfl ?_
    refine i_aald (τ := 0) (t := 11) (len := 3) (b := (8 + 1 + 4 * a1)) 12 rfl (by decide) rfl h.1.1 h.1.2 ?_
    replace h := h.2
    refine i_astore_n 13 rfl (by decide) (by decide) rfl ?_
    refine i_aload_n 14 rfl rfl (by decide) ?_
    refine i_getI (c := 1) (k := 0) 15 rfl fl_61 (by decide) (by decide) ?_
    replace h := h _ rfl
    refine i_istore_n 16 rfl (by decide) rfl ?_
    refine i_iconst 17 rfl (by decide) ?_
    refine i_istore 18 rfl (by decide) rfl ?_
    refine i_iconst 19 rfl (by decide) ?_
    refine i_istore 20 rfl (by decide) rfl ?_
    exact h
  · replace h := h.2 c
    refine i_aload_n 4 rfl rfl (by decide) ?_
    refine i_iconst 5 rfl (by decide) ?_
    refine i_callV (c := 10) (y1 := m_X10_tell) (z1 := (1, 0, 0)) (z2 := (7, 0, 0)) [(0, 0)] 6 rfl ml_400 ok_X10_tell vk_X10_tell ⟨by decide, rfl⟩ rfl ⟨rfl, Nat.le_of_ble_eq_true rfl⟩ (Nat.le_of_ble_eq_true rfl) ⟨by decide, rfl, rfl, rfl⟩ ?_
    refine h.mono (fun r zM4 h => ?_)
    obtain ⟨zr5, rfl, h⟩ := h
    simp only [Option.toList_some, Option.toList_none, List.cons_append, List.nil_append]
    exact i_ireturn 7 rfl rfl h
theorem u_X10_kindFor_35 {l : Launch} {E : xE} (l1 l2 l3 l4 l5 : Int) {M : xM} {Q : Option xV → xM → Prop} (h : (7 ≤ l5 → ∀ zM1 : xM, zM1 = x_wr M l2 0 l3 → Q (some (0, l4)) zM1) ∧ (¬ 7 ≤ l5 → ∀ zM2 : xM, zM2 = x_wr M l2 0 l5 → x_Ev l E (6, 0, 0) m_X3_seekBest 0 [(13, 40), (0, (zM2 6 1)), (5, 0)] [] zM2 (fun r zM3 => r = none ∧ (l4 < 0 → x_Ev l E (1, 0, 0) m_X2_take 0 [(12, 87), (12, 46)] [] zM3 (fun r zM4 => r = none ∧ ∀ zv5 : Int, zv5 = x_w (l5 + 1) → x_Ev l E (7, 0, 0) m_X10_kindFor 35 [(20, 5), (0, l1), (11, l2), (0, l3), (0, l5), (0, zv5)] [] zM4 Q)) ∧ (¬ l4 < 0 → x_Ev l E (4, 0, 0) m_X10_isGreater 0 [(20, 5)] [] zM3 (fun r zM6 => ∃ zr7, r = some (0, zr7) ∧ (zr7 = 0 → ∀ zv8 : Int, zv8 = x_w (l5 + 1) → x_Ev l E (7, 0, 0) m_X10_kindFor 35 [(20, 5), (0, l1), (11, l2), (0, l3), (0, l4), (0, zv8)] [] zM6 Q) ∧ (¬ zr7 = 0 → x_Ev l E (1, 0, 0) m_X2_take 0 [(12, 87), (12, 46)] [] zM6 (fun r zM9 => r = none ∧ ∀ zv10 : Int, zv10 = x_w (l5 + 1) → x_Ev l E (7, 0, 0) m_X10_kindFor 35 [(20, 5), (0, l1), (11, l2), (0, l3), (0, l5), (0, zv10)] [] zM9 Q))))))) : x_Ev l E (7, 0, 0) m_X10_kindFor 35 [(20, 5), (0, l1), (11, l2), (0, l3), (0, l4), (0, l5)] [] M Q := by
  refine i_iload 21 rfl rfl ?_
  refine i_bipush 22 rfl (by decide) ?_
  refine i_icmp_ge 98 23 rfl (by decide) (fun c => ?_) (fun c => ?_)
  · replace h := h.1 c
    refine i_aload_n 48 rfl rfl (by decide) ?_
    refine i_iload_n 49 rfl rfl ?_
    replace h := h _ rfl
    refine i_putI (c := 1) (k := 0) 50 rfl fl_61 (by decide) ⟨rfl, rfl, rfl⟩ ?_
    refine i_iload 51 rfl rfl ?_
    exact i_ireturn 52 rfl rfl h
  · replace h := h.2 c
    refine i_aload_n 24 rfl rfl (by decide) ?_
    refine i_iload 25 rfl rfl ?_
    replace h := h _ rfl
    refine i_putI (c := 1) (k := 0) 26 rfl fl_61 (by decide) ⟨rfl, rfl, rfl⟩ ?_
    refine i_aload_n 27 rfl rfl (by decide) ?_
    refine i_getP (c := 10) (k := 3) (t := 13) (b := 40) 28 rfl fl_349 (by decide) rfl (by decide) rfl ?_
    refine i_aload_n 29 rfl rfl (by decide) ?_
    refine i_getP (c := 10) (k := 0) (t := 19) (b := 6) 30 rfl fl_346 (by decide) rfl (by decide) rfl ?_
    refine i_getI (c := 9) (k := 1) 31 rfl fl_109 (by decide) (by decide) ?_
    refine i_callV (c := 3) (y1 := m_X3_seekBest) (z1 := (6, 0, 0)) (z2 := (7, 0, 0)) [(0, ((x_wr M l2 0 l5) 6 1))] 32 rfl ml_801 ok_X3_seekBest vk_X3_seekBest ⟨by decide, rfl⟩ rfl ⟨rfl, Nat.le_of_ble_eq_true rfl⟩ (Nat.le_of_ble_eq_true rfl) ⟨by decide, rfl, rfl, rfl⟩ ?_
    refine h.mono (fun r zM3 h => ?_)
    obtain ⟨rfl, h⟩ := h
    simp only [Option.toList_some, Option.toList_none, List.cons_append, List.nil_append]
    refine i_iload 33 rfl rfl ?_
    refine i_if_lt 74 34 rfl (by decide) (fun c => ?_) (fun c => ?_)
    · replace h := h.1 c
      refine i_iload 38 rfl rfl ?_
      refine i_istore 39 rfl (by decide) rfl ?_
      refine i_aload_n 40 rfl rfl (by decide) ?_
      refine i_getP (c := 10) (k := 8) (t := 12) (b := 87) 41 rfl fl_354 (by decide) rfl (by decide) rfl ?_
      refine i_aload_n 42 rfl rfl (by decide) ?_
      refine i_getP (c := 10) (k := 3) (t := 13) (b := 40) 43 rfl fl_349 (by decide) rfl (by decide) rfl ?_
      refine i_getP (c := 3) (k := 3) (t := 12) (b := 46) 44 rfl fl_259 (by decide) rfl (by decide) rfl ?_
      refine i_callV (c := 2) (y1 := m_X2_take) (z1 := (1, 0, 0)) (z2 := (7, 0, 0)) [(12, 46)] 45 rfl ml_832 ok_X2_take vk_X2_take ⟨by decide, rfl⟩ rfl ⟨rfl, Nat.le_of_ble_eq_true rfl⟩ (Nat.le_of_ble_eq_true rfl) ⟨by decide, rfl, rfl, rfl⟩ ?_
      refine h.mono (fun r zM4 h => ?_)
      obtain ⟨rfl, h⟩ := h
      simp only [Option.toList_some, Option.toList_none, List.cons_append, List.nil_append]
      replace h := h _ rfl
      refine i_iinc 46 rfl rfl (by decide) rfl ?_
      refine i_goto 35 47 rfl (by decide) ?_
      exact h
    · replace h := h.2 c
      refine i_aload_n 35 rfl rfl (by decide) ?_
      refine i_callV (c := 10) (y1 := m_X10_isGreater) (z1 := (4, 0, 0)) (z2 := (7, 0, 0)) [] 36 rfl ml_837 ok_X10_isGreater vk_X10_isGreater ⟨by decide, rfl⟩ rfl ⟨rfl, Nat.le_of_ble_eq_true rfl⟩ (Nat.le_of_ble_eq_true rfl) ⟨by decide, rfl, rfl, rfl⟩ ?_
      refine h.mono (fun r zM6 h => ?_)
      obtain ⟨zr7, rfl, h⟩ := h
      simp only [Option.toList_some, Option.toList_none, List.cons_append, List.nil_append]
      refine i_if_eq 92 37 rfl (by decide) (fun c => ?_) (fun c => ?_)
      · replace h := h.1 c
        replace h := h _ rfl
        refine i_iinc 46 rfl rfl (by decide) rfl ?_
        refine i_goto 35 47 rfl (by decide) ?_
        exact h
      · replace h := h.2 c
        refine i_iload 38 rfl rfl ?_
        refine i_istore 39 rfl (by decide) rfl ?_
        refine i_aload_n 40 rfl rfl (by decide) ?_
        refine i_getP (c := 10) (k := 8) (t := 12) (b := 87) 41 rfl fl_354 (by decide) rfl (by decide) rfl ?_
        refine i_aload_n 42 rfl rfl (by decide) ?_
        refine i_getP (c := 10) (k := 3) (t := 13) (b := 40) 43 rfl fl_349 (by decide) rfl (by decide) rfl ?_
        refine i_getP (c := 3) (k := 3) (t := 12) (b := 46) 44 rfl fl_259 (by decide) rfl (by decide) rfl ?_
        refine i_callV (c := 2) (y1 := m_X2_take) (z1 := (1, 0, 0)) (z2 := (7, 0, 0)) [(12, 46)] 45 rfl ml_832 ok_X2_take vk_X2_take ⟨by decide, rfl⟩ rfl ⟨rfl, Nat.le_of_ble_eq_true rfl⟩ (Nat.le_of_ble_eq_true rfl) ⟨by decide, rfl, rfl, rfl⟩ ?_
        refine h.mono (fun r zM9 h => ?_)
        obtain ⟨rfl, h⟩ := h
        simp only [Option.toList_some, Option.toList_none, List.cons_append, List.nil_append]
        replace h := h _ rfl
        refine i_iinc 46 rfl rfl (by decide) rfl ?_
        refine i_goto 35 47 rfl (by decide) ?_
        exact h
theorem u_X10_tollFor_0 {l : Launch} {E : xE} (a1 a2 : Int) {M : xM} {Q : Option xV → xM → Prop} (h : x_Ev l E (2, 0, 0) m_X10_isNoGood 0 [(20, 5), (0, a1), (0, a2)] [] M (fun r zM1 => ∃ zr2, r = some (0, zr2) ∧ (zr2 = 0 → ((0 : Int) ≤ a1 ∧ (a1 : Int) < 3) ∧ ∀ zv3 : Int, zv3 = (x_w (3 + a2)) → ((0 : Int) ≤ zv3 ∧ (zv3 : Int) < 9) ∧ ∀ zv4 : Int, zv4 = (zM1 ((8 + 1 + 4 * a1) + 1) zv3) → x_Ev l E (7, 0, 0) m_X10_tollFor 49 [(20, 5), (0, a1), (0, a2), (11, (8 + 1 + 4 * a1)), (0, zv3), (0, zv4), (0, (-1)), (0, 0)] [] zM1 Q) ∧ (¬ zr2 = 0 → x_Ev l E (1, 0, 0) m_X10_tell 0 [(20, 5), (0, 0)] [] zM1 (fun r zM5 => ∃ zr6, r = some (0, zr6) ∧ Q (some (0, zr6)) zM5)))) : x_Ev l E (7, 0, 0) m_X10_tollFor 0 [(20, 5), (0, a1), (0, a2), (5, 0), (5, 0), (5, 0), (5, 0), (5, 0)] [] M Q := by
  refine i_aload_n 0 rfl rfl (by decide) ?_
  refine i_iload_n 1 rfl rfl ?_
  refine i_iload_n 2 rfl rfl ?_
  refine i_callV (c := 10) (y1 := m_X10_isNoGood) (z1 := (2, 0, 0)) (z2 := (7, 0, 0)) [(0, a1), (0, a2)] 3 rfl ml_540 ok_X10_isNoGood vk_X10_isNoGood ⟨by decide, rfl⟩ rfl ⟨rfl, Nat.le_of_ble_eq_true rfl⟩ (Nat.le_of_ble_eq_true rfl) ⟨by decide, rfl, rfl, rfl⟩ ?_
  refine h.mono (fun r zM1 h => ?_)
  obtain ⟨zr2, rfl, h⟩ := h
  simp only [Option.toList_some, Option.toList_none, List.cons_append, List.nil_append]
  refine i_if_eq 15 4 rfl (by decide) (fun c => ?_) (fun c => ?_)
  · replace h := h.1 c
    refine i_aload_n 9 rfl rfl (by decide) ?_
    refine i_getP (c := 10) (k := 0) (t := 19) (b := 6) 10 rfl fl_346 (by decide) rfl (by decide) rfl ?_
    refine i_getP (c := 9) (k := 6) (t := 100) (b := 8) 11 rfl fl_121 (by decide) rfl (by decide) rfl ?_
    refine i_iload_n 12 rfl rfl ?_
    refine i_aald (τ := 0) (t := 11) (len := 3) (b := (8 + 1 + 4 * a1)) 13 rfl (by decide) rfl h.1.1 h.1.2 ?_
    replace h := h.2
    refine i_astore_n 14 rfl (by decide) (by decide) rfl ?_
    refine i_iconst 15 rfl (by decide) ?_
    refine i_iload_n 16 rfl rfl ?_
    refine i_iadd 17 rfl ?_
    replace h := h _ rfl
    refine i_istore 18 rfl (by decide) rfl ?_
    refine i_aload_n 19 rfl rfl (by decide) ?_
    refine i_getP (c := 1) (k := 4) (t := 101) (b := ((8 + 1 + 4 * a1) + 1)) 20 rfl fl_76 (by decide) rfl (by decide) rfl ?_
    refine i_iload 21 rfl rfl ?_
    refine i_iald (τ := 1) 22 rfl ⟨rfl, rfl, rfl, by decide⟩ h.1.1 h.1.2 ?_
    replace h := h.2
    replace h := h _ rfl
    refine i_istore 23 rfl (by decide) rfl ?_
    refine i_iconst 24 rfl (by decide) ?_
    refine i_istore 25 rfl (by decide) rfl ?_
    refine i_gets (i := 2) 26 rfl (by decide) fs_544 ?_
    refine i_iconst 27 rfl (by decide) ?_
    refine i_sta (t := 182) 28 rfl (by decide) (by decide) (by decide) (by decide) ?_
    refine i_istore 29 rfl (by decide) rfl ?_
    exact h
  · replace h := h.2 c
    refine i_aload_n 5 rfl rfl (by decide) ?_
    refine i_iconst 6 rfl (by decide) ?_
    refine i_callV (c := 10) (y1 := m_X10_tell) (z1 := (1, 0, 0)) (z2 := (7, 0, 0)) [(0, 0)] 7 rfl ml_400 ok_X10_tell vk_X10_tell ⟨by decide, rfl⟩ rfl ⟨rfl, Nat.le_of_ble_eq_true rfl⟩ (Nat.le_of_ble_eq_true rfl) ⟨by decide, rfl, rfl, rfl⟩ ?_
    refine h.mono (fun r zM5 h => ?_)
    obtain ⟨zr6, rfl, h⟩ := h
    simp only [Option.toList_some, Option.toList_none, List.cons_append, List.nil_append]
    exact i_ireturn 8 rfl rfl h
theorem u_X10_tollFor_49 {l : Launch} {E : xE} (l1 l2 l3 l4 l5 l6 l7 : Int) {M : xM} {Q : Option xV → xM → Prop} (h : (3 < l7 → (0 ≤ l4 ∧ l4 < 9) ∧ ∀ zM1 : xM, zM1 = x_wr M (l3 + 1) l4 l5 → ((0 : Int) ≤ l1 ∧ (l1 : Int) < 3) ∧ x_Ev l E (2, 0, 0) m_X4_sumUp 0 [(14, (41 + 8 + 9 * l1)), (5, 0)] [] zM1 (fun r zM2 => r = none ∧ Q (some (0, l6)) zM2)) ∧ (¬ 3 < l7 → (0 ≤ l4 ∧ l4 < 9) ∧ ∀ zM3 : xM, zM3 = x_wr M (l3 + 1) l4 l7 → ((0 : Int) ≤ l1 ∧ (l1 : Int) < 3) ∧ x_Ev l E (2, 0, 0) m_X4_sumUp 0 [(14, (41 + 8 + 9 * l1)), (5, 0)] [] zM3 (fun r zM4 => r = none ∧ x_Ev l E (6, 0, 0) m_X3_seekBest 0 [(13, 40), (0, (zM4 6 1)), (5, 0)] [] zM4 (fun r zM5 => r = none ∧ (l6 < 0 → x_Ev l E (1, 0, 0) m_X2_take 0 [(12, 87), (12, 46)] [] zM5 (fun r zM6 => r = none ∧ ∀ zv7 : Int, zv7 = x_w (l7 + 1) → x_Ev l E (7, 0, 0) m_X10_tollFor 49 [(20, 5), (0, l1), (0, l2), (11, l3), (0, l4), (0, l5), (0, l7), (0, zv7)] [] zM6 Q)) ∧ (¬ l6 < 0 → x_Ev l E (4, 0, 0) m_X10_isGreater 0 [(20, 5)] [] zM5 (fun r zM8 => ∃ zr9, r = some (0, zr9) ∧ (zr9 = 0 → ∀ zv10 : Int, zv10 = x_w (l7 + 1) → x_Ev l E (7, 0, 0) m_X10_tollFor 49 [(20, 5), (0, l1), (0, l2), (11, l3), (0, l4), (0, l5), (0, l6), (0, zv10)] [] zM8 Q) ∧ (¬ zr9 = 0 → x_Ev l E (1, 0, 0) m_X2_take 0 [(12, 87), (12, 46)] [] zM8 (fun r zM11 => r = none ∧ ∀ zv12 : Int, zv12 = x_w (l7 + 1) → x_Ev l E (7, 0, 0) m_X10_tollFor 49 [(20, 5), (0, l1), (0, l2), (11, l3), (0, l4), (0, l5), (0, l7), (0, zv12)] [] zM11 Q)))))))) : x_Ev l E (7, 0, 0) m_X10_tollFor 49 [(20, 5), (0, l1), (0, l2), (11, l3), (0, l4), (0, l5), (0, l6), (0, l7)] [] M Q := by
  refine i_iload 30 rfl rfl ?_
  refine i_gets (i := 3) 31 rfl (by decide) fs_546 ?_
  refine i_iconst 32 rfl (by decide) ?_
  refine i_sta (t := 183) 33 rfl (by decide) (by decide) (by decide) (by decide) ?_
  refine i_icmp_gt 130 34 rfl (by decide) (fun c => ?_) (fun c => ?_)
  · replace h := h.1 c
    refine i_aload_n 67 rfl rfl (by decide) ?_
    refine i_getP (c := 1) (k := 4) (t := 101) (b := (l3 + 1)) 68 rfl fl_76 (by decide) rfl (by decide) rfl ?_
    refine i_iload 69 rfl rfl ?_
    refine i_iload 70 rfl rfl ?_
    have hb := h.1
    replace h := h.2 _ rfl
    refine i_iast (τ := 1) 71 rfl ⟨rfl, rfl, rfl, by decide⟩ hb.1 hb.2 ?_
    refine i_aload_n 72 rfl rfl (by decide) ?_
    refine i_getP (c := 10) (k := 3) (t := 13) (b := 40) 73 rfl fl_349 (by decide) rfl (by decide) rfl ?_
    refine i_getP (c := 3) (k := 1) (t := 106) (b := 41) 74 rfl fl_255 (by decide) rfl (by decide) rfl ?_
    refine i_iload_n 75 rfl rfl ?_
    refine i_aald (τ := 6) (t := 14) (len := 3) (b := (41 + 8 + 9 * l1)) 76 rfl (by decide) rfl h.1.1 h.1.2 ?_
    replace h := h.2
    refine i_callV (c := 4) (y1 := m_X4_sumUp) (z1 := (2, 0, 0)) (z2 := (7, 0, 0)) [] 77 rfl ml_548 ok_X4_sumUp vk_X4_sumUp ⟨by decide, rfl⟩ rfl ⟨rfl, Nat.le_of_ble_eq_true rfl⟩ (Nat.le_of_ble_eq_true rfl) ⟨by decide, rfl, rfl, rfl⟩ ?_
    refine h.mono (fun r zM2 h => ?_)
    obtain ⟨rfl, h⟩ := h
    simp only [Option.toList_some, Option.toList_none, List.cons_append, List.nil_append]
    refine i_iload 78 rfl rfl ?_
    exact i_ireturn 79 rfl rfl h
  · replace h := h.2 c
    refine i_aload_n 35 rfl rfl (by decide) ?_
    refine i_getP (c := 1) (k := 4) (t := 101) (b := (l3 + 1)) 36 rfl fl_76 (by decide) rfl (by decide) rfl ?_
    refine i_iload 37 rfl rfl ?_
    refine i_iload 38 rfl rfl ?_
    have hb := h.1
    replace h := h.2 _ rfl
    refine i_iast (τ := 1) 39 rfl ⟨rfl, rfl, rfl, by decide⟩ hb.1 hb.2 ?_
    refine i_aload_n 40 rfl rfl (by decide) ?_
    refine i_getP (c := 10) (k := 3) (t := 13) (b := 40) 41 rfl fl_349 (by decide) rfl (by decide) rfl ?_
    refine i_getP (c := 3) (k := 1) (t := 106) (b := 41) 42 rfl fl_255 (by decide) rfl (by decide) rfl ?_
    refine i_iload_n 43 rfl rfl ?_
    refine i_aald (τ := 6) (t := 14) (len := 3) (b := (41 + 8 + 9 * l1)) 44 rfl (by decide) rfl h.1.1 h.1.2 ?_
    replace h := h.2
    refine i_callV (c := 4) (y1 := m_X4_sumUp) (z1 := (2, 0, 0)) (z2 := (7, 0, 0)) [] 45 rfl ml_548 ok_X4_sumUp vk_X4_sumUp ⟨by decide, rfl⟩ rfl ⟨rfl, Nat.le_of_ble_eq_true rfl⟩ (Nat.le_of_ble_eq_true rfl) ⟨by decide, rfl, rfl, rfl⟩ ?_
    refine h.mono (fun r zM4 h => ?_)
    obtain ⟨rfl, h⟩ := h
    simp only [Option.toList_some, Option.toList_none, List.cons_append, List.nil_append]
    refine i_aload_n 46 rfl rfl (by decide) ?_
    refine i_getP (c := 10) (k := 3) (t := 13) (b := 40) 47 rfl fl_349 (by decide) rfl (by decide) rfl ?_
    refine i_aload_n 48 rfl rfl (by decide) ?_
    refine i_getP (c := 10) (k := 0) (t := 19) (b := 6) 49 rfl fl_346 (by decide) rfl (by decide) rfl ?_
    refine i_getI (c := 9) (k := 1) 50 rfl fl_109 (by decide) (by decide) ?_
    refine i_callV (c := 3) (y1 := m_X3_seekBest) (z1 := (6, 0, 0)) (z2 := (7, 0, 0)) [(0, (zM4 6 1))] 51 rfl ml_801 ok_X3_seekBest vk_X3_seekBest ⟨by decide, rfl⟩ rfl ⟨rfl, Nat.le_of_ble_eq_true rfl⟩ (Nat.le_of_ble_eq_true rfl) ⟨by decide, rfl, rfl, rfl⟩ ?_
    refine h.mono (fun r zM5 h => ?_)
    obtain ⟨rfl, h⟩ := h
    simp only [Option.toList_some, Option.toList_none, List.cons_append, List.nil_append]
    refine i_iload 52 rfl rfl ?_
    refine i_if_lt 106 53 rfl (by decide) (fun c => ?_) (fun c => ?_)
    · replace h := h.1 c
      refine i_iload 57 rfl rfl ?_
      refine i_istore 58 rfl (by decide) rfl ?_
      refine i_aload_n 59 rfl rfl (by decide) ?_
      refine i_getP (c := 10) (k := 8) (t := 12) (b := 87) 60 rfl fl_354 (by decide) rfl (by decide) rfl ?_
      refine i_aload_n 61 rfl rfl (by decide) ?_
      refine i_getP (c := 10) (k := 3) (t := 13) (b := 40) 62 rfl fl_349 (by decide) rfl (by decide) rfl ?_
      refine i_getP (c := 3) (k := 3) (t := 12) (b := 46) 63 rfl fl_259 (by decide) rfl (by decide) rfl ?_
      refine i_callV (c := 2) (y1 := m_X2_take) (z1 := (1, 0, 0)) (z2 := (7, 0, 0)) [(12, 46)] 64 rfl ml_832 ok_X2_take vk_X2_take ⟨by decide, rfl⟩ rfl ⟨rfl, Nat.le_of_ble_eq_true rfl⟩ (Nat.le_of_ble_eq_true rfl) ⟨by decide, rfl, rfl, rfl⟩ ?_
      refine h.mono (fun r zM6 h => ?_)
      obtain ⟨rfl, h⟩ := h
      simp only [Option.toList_some, Option.toList_none, List.cons_append, List.nil_append]
      replace h := h _ rfl
      refine i_iinc 65 rfl rfl (by decide) rfl ?_
      refine i_goto 49 66 rfl (by decide) ?_
      exact h
    · replace h := h.2 c
      refine i_aload_n 54 rfl rfl (by decide) ?_
      refine i_callV (c := 10) (y1 := m_X10_isGreater) (z1 := (4, 0, 0)) (z2 := (7, 0, 0)) [] 55 rfl ml_837 ok_X10_isGreater vk_X10_isGreater ⟨by decide, rfl⟩ rfl ⟨rfl, Nat.le_of_ble_eq_true rfl⟩ (Nat.le_of_ble_eq_true rfl) ⟨by decide, rfl, rfl, rfl⟩ ?_
      refine h.mono (fun r zM8 h => ?_)
      obtain ⟨zr9, rfl, h⟩ := h
      simp only [Option.toList_some, Option.toList_none, List.cons_append, List.nil_append]
      refine i_if_eq 124 56 rfl (by decide) (fun c => ?_) (fun c => ?_)
      · replace h := h.1 c
        replace h := h _ rfl
        refine i_iinc 65 rfl rfl (by decide) rfl ?_
        refine i_goto 49 66 rfl (by decide) ?_
        exact h
      · replace h := h.2 c
        refine i_iload 57 rfl rfl ?_
        refine i_istore 58 rfl (by decide) rfl ?_
        refine i_aload_n 59 rfl rfl (by decide) ?_
        refine i_getP (c := 10) (k := 8) (t := 12) (b := 87) 60 rfl fl_354 (by decide) rfl (by decide) rfl ?_
        refine i_aload_n 61 rfl rfl (by decide) ?_
        refine i_getP (c := 10) (k := 3) (t := 13) (b := 40) 62 rfl fl_349 (by decide) rfl (by decide) rfl ?_
        refine i_getP (c := 3) (k := 3) (t := 12) (b := 46) 63 rfl fl_259 (by decide) rfl (by decide) rfl ?_
        refine i_callV (c := 2) (y1 := m_X2_take) (z1 := (1, 0, 0)) (z2 := (7, 0, 0)) [(12, 46)] 64 rfl ml_832 ok_X2_take vk_X2_take ⟨by decide, rfl⟩ rfl ⟨rfl, Nat.le_of_ble_eq_true rfl⟩ (Nat.le_of_ble_eq_true rfl) ⟨by decide, rfl, rfl, rfl⟩ ?_
        refine h.mono (fun r zM11 h => ?_)
        obtain ⟨rfl, h⟩ := h
        simp only [Option.toList_some, Option.toList_none, List.cons_append, List.nil_append]
        replace h := h _ rfl
        refine i_iinc 65 rfl rfl (by decide) rfl ?_
        refine i_goto 49 66 rfl (by decide) ?_
        exact h
theorem u_X10_without_0 {l : Launch} {E : xE} (a1 : Int) {M : xM} {Q : Option xV → xM → Prop} (h : x_Ev l E (1, 0, 0) m_X10_isNoFollower 0 [(20, 5), (0, a1)] [] M (fun r zM1 => ∃ zr2, r = some (0, zr2) ∧ (zr2 = 0 → ((0 : Int) ≤ a1 ∧ (a1 : Int) < 3) ∧ x_Ev l E (6, 0, 0) m_X3_seekBest 0 [(13, 40), (0, (zM1 6 1)), (5, 0)] [] zM1 (fun r zM3 => r = none ∧ x_Ev l E (1, 0, 0) m_X2_take 0 [(12, 87), (12, 46)] [] zM3 (fun r zM4 => r = none ∧ x_Ev l E (2, 0, 0) m_X1_becomeLike 0 [(11, 81), (11, (8 + 1 + 4 * a1))] [] zM4 (fun r zM5 => r = none ∧ x_Ev l E (7, 0, 0) m_X10_without 65 [(20, 5), (0, a1), (11, (8 + 1 + 4 * a1)), (0, (-1)), (0, 1)] [] zM5 Q)))) ∧ (¬ zr2 = 0 → x_Ev l E (1, 0, 0) m_X10_tell 0 [(20, 5), (0, 0)] [] zM1 (fun r zM6 => ∃ zr7, r = some (0, zr7) ∧ Q (some (0, zr7)) zM6)))) : x_Ev l E (7, 0, 0) m_X10_without 0 [(20, 5), (0, a1), (5, 0), (5, 0), (5, 0)] [] M Q := by
  refine i_aload_n 0 rfl rfl (by decide) ?_
  refine i_iload_n 1 rfl rfl ?_
  refine i_callV (c := 10) (y1 := m_X10_isNoFollower) (z1 := (1, 0, 0)) (z2 := (7, 0, 0)) [(0, a1)] 2 rfl ml_488 ok_X10_isNoFollower vk_X10_isNoFollower ⟨by decide, rfl⟩ rfl ⟨rfl, Nat.le_of_ble_eq_true rfl⟩ (Nat.le_of_ble_eq_true rfl) ⟨by decide, rfl, rfl, rfl⟩ ?_
  refine h.mono (fun r zM1 h => ?_)
  obtain ⟨zr2, rfl, h⟩ := h
  simp only [Option.toList_some, Option.toList_none, List.cons_append, List.nil_append]
  refine i_if_eq 14 3 rfl (by decide) (fun c => ?_) (fun c => ?_)
  · replace h := h.1 c
    refine i_aload_n 8 rfl rfl (by decide) ?_
    refine i_getP (c := 10) (k := 0) (t := 19) (b := 6) 9 rfl fl_346 (by decide) rfl (by decide) rfl ?_
    refine i_getP (c := 9) (k := 6) (t := 100) (b := 8) 10 rfl fl_121 (by decide) rfl (by decide) rfl ?_
    refine i_iload_n 11 rfl rfl ?_
    refine i_aald (τ := 0) (t := 11) (len := 3) (b := (8 + 1 + 4 * a1)) 12 rfl (by decide) rfl h.1.1 h.1.2 ?_
    replace h := h.2
    refine i_astore_n 13 rfl (by decide) (by decide) rfl ?_
    refine i_aload_n 14 rfl rfl (by decide) ?_
    refine i_getP (c := 10) (k := 3) (t := 13) (b := 40) 15 rfl fl_349 (by decide) rfl (by decide) rfl ?_
    refine i_aload_n 16 rfl rfl (by decide) ?_
    refine i_getP (c := 10) (k := 0) (t := 19) (b := 6) 17 rfl fl_346 (by decide) rfl (by decide) rfl ?_
    refine i_getI (c := 9) (k := 1) 18 rfl fl_109 (by decide) (by decide) ?_
    refine i_callV (c := 3) (y1 := m_X3_seekBest) (z1 := (6, 0, 0)) (z2 := (7, 0, 0)) [(0, (zM1 6 1))] 19 rfl ml_801 ok_X3_seekBest vk_X3_seekBest ⟨by decide, rfl⟩ rfl ⟨rfl, Nat.le_of_ble_eq_true rfl⟩ (Nat.le_of_ble_eq_true rfl) ⟨by decide, rfl, rfl, rfl⟩ ?_
    refine h.mono (fun r zM3 h => ?_)
    obtain ⟨rfl, h⟩ := h
    simp only [Option.toList_some, Option.toList_none, List.cons_append, List.nil_append]
    refine i_aload_n 20 rfl rfl (by decide) ?_
    refine i_getP (c := 10) (k := 8) (t := 12) (b := 87) 21 rfl fl_354 (by decide) rfl (by decide) rfl ?_
    refine i_aload_n 22 rfl rfl (by decide) ?_
    refine i_getP (c := 10) (k := 3) (t := 13) (b := 40) 23 rfl fl_349 (by decide) rfl (by decide) rfl ?_
    refine i_getP (c := 3) (k := 3) (t := 12) (b := 46) 24 rfl fl_259 (by decide) rfl (by decide) rfl ?_
    refine i_callV (c := 2) (y1 := m_X2_take) (z1 := (1, 0, 0)) (z2 := (7, 0, 0)) [(12, 46)] 25 rfl ml_832 ok_X2_take vk_X2_take ⟨by decide, rfl⟩ rfl ⟨rfl, Nat.le_of_ble_eq_true rfl⟩ (Nat.le_of_ble_eq_true rfl) ⟨by decide, rfl, rfl, rfl⟩ ?_
    refine h.mono (fun r zM4 h => ?_)
    obtain ⟨rfl, h⟩ := h
    simp only [Option.toList_some, Option.toList_none, List.cons_append, List.nil_append]
    refine i_aload_n 26 rfl rfl (by decide) ?_
    refine i_getP (c := 10) (k := 5) (t := 11) (b := 81) 27 rfl fl_351 (by decide) rfl (by decide) rfl ?_
    refine i_aload_n 28 rfl rfl (by decide) ?_
    refine i_callV (c := 1) (y1 := m_X1_becomeLike) (z1 := (2, 0, 0)) (z2 := (7, 0, 0)) [(11, (8 + 1 + 4 * a1))] 29 rfl ml_850 ok_X1_becomeLike vk_X1_becomeLike ⟨by decide, rfl⟩ rfl ⟨rfl, Nat.le_of_ble_eq_true rfl⟩ (Nat.le_of_ble_eq_true rfl) ⟨by decide, rfl, rfl, rfl⟩ ?_
    refine h.mono (fun r zM5 h => ?_)
    obtain ⟨rfl, h⟩ := h
    simp only [Option.toList_some, Option.toList_none, List.cons_append, List.nil_append]
    refine i_iconst 30 rfl (by decide) ?_
    refine i_istore_n 31 rfl (by decide) rfl ?_
    refine i_iconst 32 rfl (by decide) ?_
    refine i_istore 33 rfl (by decide) rfl ?_
    exact h
  · replace h := h.2 c
    refine i_aload_n 4 rfl rfl (by decide) ?_
    refine i_iconst 5 rfl (by decide) ?_
    refine i_callV (c := 10) (y1 := m_X10_tell) (z1 := (1, 0, 0)) (z2 := (7, 0, 0)) [(0, 0)] 6 rfl ml_400 ok_X10_tell vk_X10_tell ⟨by decide, rfl⟩ rfl ⟨rfl, Nat.le_of_ble_eq_true rfl⟩ (Nat.le_of_ble_eq_true rfl) ⟨by decide, rfl, rfl, rfl⟩ ?_
    refine h.mono (fun r zM6 h => ?_)
    obtain ⟨zr7, rfl, h⟩ := h
    simp only [Option.toList_some, Option.toList_none, List.cons_append, List.nil_append]
    exact i_ireturn 7 rfl rfl h
theorem u_X10_without_65 {l : Launch} {E : xE} (l1 l2 l3 l4 : Int) {M : xM} {Q : Option xV → xM → Prop} (h : ((M 81 3) ≤ l4 → ((0 : Int) ≤ l1 ∧ (l1 : Int) < 3) ∧ x_Ev l E (4, 0, 0) m_X4_findAll 0 [(14, (41 + 8 + 9 * l1)), (5, 0), (5, 0), (5, 0)] [] M (fun r zM1 => r = none ∧ Q (some (0, l3)) zM1)) ∧ (¬ (M 81 3) ≤ l4 → x_Ev l E (2, 0, 0) m_X1_dropRow 0 [(11, l2), (0, l4), (5, 0)] [] M (fun r zM2 => r = none ∧ ((0 : Int) ≤ l1 ∧ (l1 : Int) < 3) ∧ x_Ev l E (4, 0, 0) m_X4_findAll 0 [(14, (41 + 8 + 9 * l1)), (5, 0), (5, 0), (5, 0)] [] zM2 (fun r zM3 => r = none ∧ x_Ev l E (6, 0, 0) m_X3_seekBest 0 [(13, 40), (0, (zM3 6 1)), (5, 0)] [] zM3 (fun r zM4 => r = none ∧ x_Ev l E (4, 0, 0) m_X10_isGreater 0 [(20, 5)] [] zM4 (fun r zM5 => ∃ zr6, r = some (0, zr6) ∧ (zr6 = 0 → x_Ev l E (2, 0, 0) m_X1_becomeLike 0 [(11, l2), (11, 81)] [] zM5 (fun r zM7 => r = none ∧ ∀ zv8 : Int, zv8 = x_w (l4 + 1) → x_Ev l E (7, 0, 0) m_X10_without 65 [(20, 5), (0, l1), (11, l2), (0, l3), (0, zv8)] [] zM7 Q)) ∧ (¬ zr6 = 0 → x_Ev l E (1, 0, 0) m_X2_take 0 [(12, 87), (12, 46)] [] zM5 (fun r zM9 => r = none ∧ x_Ev l E (2, 0, 0) m_X1_becomeLike 0 [(11, l2), (11, 81)] [] zM9 (fun r zM10 => r = none ∧ ∀ zv11 : Int, zv11 = x_w (l4 + 1) → x_Ev l E (7, 0, 0) m_X10_without 65 [(20, 5), (0, l1), (11, l2), (0, l4), (0, zv11)] [] zM10 Q))))))))) : x_Ev l E (7, 0, 0) m_X10_without 65 [(20, 5), (0, l1), (11, l2), (0, l3), (0, l4)] [] M Q := by
  refine i_iload 34 rfl rfl ?_
  refine i_aload_n 35 rfl rfl (by decide) ?_
  refine i_getP (c := 10) (k := 5) (t := 11) (b := 81) 36 rfl fl_351 (by decide) rfl (by decide) rfl ?_
  refine i_getI (c := 1) (k := 3) 37 rfl fl_74 (by decide) (by decide) ?_
  refine i_icmp_ge 147 38 rfl (by decide) (fun c => ?_) (fun c => ?_)
  · replace h := h.1 c
    refine i_aload_n 71 rfl rfl (by decide) ?_
    refine i_getP (c := 10) (k := 3) (t := 13) (b := 40) 72 rfl fl_349 (by decide) rfl (by decide) rfl ?_
    refine i_getP (c := 3) (k := 1) (t := 106) (b := 41) 73 rfl fl_255 (by decide) rfl (by decide) rfl ?_
    refine i_iload_n 74 rfl rfl ?_
    refine i_aald (τ := 6) (t := 14) (len := 3) (b := (41 + 8 + 9 * l1)) 75 rfl (by decide) rfl h.1.1 h.1.2 ?_
    replace h := h.2
    refine i_callV (c := 4) (y1 := m_X4_findAll) (z1 := (4, 0, 0)) (z2 := (7, 0, 0)) [] 76 rfl ml_419 ok_X4_findAll vk_X4_findAll ⟨by decide, rfl⟩ rfl ⟨rfl, Nat.le_of_ble_eq_true rfl⟩ (Nat.le_of_ble_eq_true rfl) ⟨by decide, rfl, rfl, rfl⟩ ?_
    refine h.mono (fun r zM1 h => ?_)
    obtain ⟨rfl, h⟩ := h
    simp only [Option.toList_some, Option.toList_none, List.cons_append, List.nil_append]
    refine i_iload_n 77 rfl rfl ?_
    exact i_ireturn 78 rfl rfl h
  · replace h := h.2 c
    refine i_aload_n 39 rfl rfl (by decide) ?_
    refine i_iload 40 rfl rfl ?_
    refine i_callV (c := 1) (y1 := m_X1_dropRow) (z1 := (2, 0, 0)) (z2 := (7, 0, 0)) [(0, l4)] 41 rfl ml_574 ok_X1_dropRow vk_X1_dropRow ⟨by decide, rfl⟩ rfl ⟨rfl, Nat.le_of_ble_eq_true rfl⟩ (Nat.le_of_ble_eq_true rfl) ⟨by decide, rfl, rfl, rfl⟩ ?_
    refine h.mono (fun r zM2 h => ?_)
    obtain ⟨rfl, h⟩ := h
    simp only [Option.toList_some, Option.toList_none, List.cons_append, List.nil_append]
    refine i_aload_n 42 rfl rfl (by decide) ?_
    refine i_getP (c := 10) (k := 3) (t := 13) (b := 40) 43 rfl fl_349 (by decide) rfl (by decide) rfl ?_
    refine i_getP (c := 3) (k := 1) (t := 106) (b := 41) 44 rfl fl_255 (by decide) rfl (by decide) rfl ?_
    refine i_iload_n 45 rfl rfl ?_
    refine i_aald (τ := 6) (t := 14) (len := 3) (b := (41 + 8 + 9 * l1)) 46 rfl (by decide) rfl h.1.1 h.1.2 ?_
    replace h := h.2
    refine i_callV (c := 4) (y1 := m_X4_findAll) (z1 := (4, 0, 0)) (z2 := (7, 0, 0)) [] 47 rfl ml_419 ok_X4_findAll vk_X4_findAll ⟨by decide, rfl⟩ rfl ⟨rfl, Nat.le_of_ble_eq_true rfl⟩ (Nat.le_of_ble_eq_true rfl) ⟨by decide, rfl, rfl, rfl⟩ ?_
    refine h.mono (fun r zM3 h => ?_)
    obtain ⟨rfl, h⟩ := h
    simp only [Option.toList_some, Option.toList_none, List.cons_append, List.nil_append]
    refine i_aload_n 48 rfl rfl (by decide) ?_
    refine i_getP (c := 10) (k := 3) (t := 13) (b := 40) 49 rfl fl_349 (by decide) rfl (by decide) rfl ?_
    refine i_aload_n 50 rfl rfl (by decide) ?_
    refine i_getP (c := 10) (k := 0) (t := 19) (b := 6) 51 rfl fl_346 (by decide) rfl (by decide) rfl ?_
    refine i_getI (c := 9) (k := 1) 52 rfl fl_109 (by decide) (by decide) ?_
    refine i_callV (c := 3) (y1 := m_X3_seekBest) (z1 := (6, 0, 0)) (z2 := (7, 0, 0)) [(0, (zM3 6 1))] 53 rfl ml_801 ok_X3_seekBest vk_X3_seekBest ⟨by decide, rfl⟩ rfl ⟨rfl, Nat.le_of_ble_eq_true rfl⟩ (Nat.le_of_ble_eq_true rfl) ⟨by decide, rfl, rfl, rfl⟩ ?_
    refine h.mono (fun r zM4 h => ?_)
    obtain ⟨rfl, h⟩ := h
    simp only [Option.toList_some, Option.toList_none, List.cons_append, List.nil_append]
    refine i_aload_n 54 rfl rfl (by decide) ?_
    refine i_callV (c := 10) (y1 := m_X10_isGreater) (z1 := (4, 0, 0)) (z2 := (7, 0, 0)) [] 55 rfl ml_837 ok_X10_isGreater vk_X10_isGreater ⟨by decide, rfl⟩ rfl ⟨rfl, Nat.le_of_ble_eq_true rfl⟩ (Nat.le_of_ble_eq_true rfl) ⟨by decide, rfl, rfl, rfl⟩ ?_
    refine h.mono (fun r zM5 h => ?_)
    obtain ⟨zr6, rfl, h⟩ := h
    simp only [Option.toList_some, Option.toList_none, List.cons_append, List.nil_append]
    refine i_if_eq 133 56 rfl (by decide) (fun c => ?_) (fun c => ?_)
    · replace h := h.1 c
      refine i_aload_n 65 rfl rfl (by decide) ?_
      refine i_aload_n 66 rfl rfl (by decide) ?_
      refine i_getP (c := 10) (k := 5) (t := 11) (b := 81) 67 rfl fl_351 (by decide) rfl (by decide) rfl ?_
      refine i_callV (c := 1) (y1 := m_X1_becomeLike) (z1 := (2, 0, 0)) (z2 := (7, 0, 0)) [(11, 81)] 68 rfl ml_850 ok_X1_becomeLike vk_X1_becomeLike ⟨by decide, rfl⟩ rfl ⟨rfl, Nat.le_of_ble_eq_true rfl⟩ (Nat.le_of_ble_eq_true rfl) ⟨by decide, rfl, rfl, rfl⟩ ?_
      refine h.mono (fun r zM7 h => ?_)
      obtain ⟨rfl, h⟩ := h
      simp only [Option.toList_some, Option.toList_none, List.cons_append, List.nil_append]
      replace h := h _ rfl
      refine i_iinc 69 rfl rfl (by decide) rfl ?_
      refine i_goto 65 70 rfl (by decide) ?_
      exact h
    · replace h := h.2 c
      refine i_iload 57 rfl rfl ?_
      refine i_istore_n 58 rfl (by decide) rfl ?_
      refine i_aload_n 59 rfl rfl (by decide) ?_
      refine i_getP (c := 10) (k := 8) (t := 12) (b := 87) 60 rfl fl_354 (by decide) rfl (by decide) rfl ?_
      refine i_aload_n 61 rfl rfl (by decide) ?_
      refine i_getP (c := 10) (k := 3) (t := 13) (b := 40) 62 rfl fl_349 (by decide) rfl (by decide) rfl ?_
      refine i_getP (c := 3) (k := 3) (t := 12) (b := 46) 63 rfl fl_259 (by decide) rfl (by decide) rfl ?_
      refine i_callV (c := 2) (y1 := m_X2_take) (z1 := (1, 0, 0)) (z2 := (7, 0, 0)) [(12, 46)] 64 rfl ml_832 ok_X2_take vk_X2_take ⟨by decide, rfl⟩ rfl ⟨rfl, Nat.le_of_ble_eq_true rfl⟩ (Nat.le_of_ble_eq_true rfl) ⟨by decide, rfl, rfl, rfl⟩ ?_
      refine h.mono (fun r zM9 h => ?_)
      obtain ⟨rfl, h⟩ := h
      simp only [Option.toList_some, Option.toList_none, List.cons_append, List.nil_append]
      refine i_aload_n 65 rfl rfl (by decide) ?_
      refine i_aload_n 66 rfl rfl (by decide) ?_
      refine i_getP (c := 10) (k := 5) (t := 11) (b := 81) 67 rfl fl_351 (by decide) rfl (by decide) rfl ?_
      refine i_callV (c := 1) (y1 := m_X1_becomeLike) (z1 := (2, 0, 0)) (z2 := (7, 0, 0)) [(11, 81)] 68 rfl ml_850 ok_X1_becomeLike vk_X1_becomeLike ⟨by decide, rfl⟩ rfl ⟨rfl, Nat.le_of_ble_eq_true rfl⟩ (Nat.le_of_ble_eq_true rfl) ⟨by decide, rfl, rfl, rfl⟩ ?_
      refine h.mono (fun r zM10 h => ?_)
      obtain ⟨rfl, h⟩ := h
      simp only [Option.toList_some, Option.toList_none, List.cons_append, List.nil_append]
      replace h := h _ rfl
      refine i_iinc 69 rfl rfl (by decide) rfl ?_
      refine i_goto 65 70 rfl (by decide) ?_
      exact h
theorem u_X10_mostFor_0 {l : Launch} {E : xE} (a1 : Int) {M : xM} {Q : Option xV → xM → Prop} (h : (a1 < (-9999) → x_Ev l E (1, 0, 0) m_X10_tell 0 [(20, 5), (0, 0)] [] M (fun r zM1 => ∃ zr2, r = some (0, zr2) ∧ Q (some (0, zr2)) zM1)) ∧ (¬ a1 < (-9999) → (a1 ≤ 9999 → x_Ev l E (7, 0, 0) m_X10_mostFor 28 [(20, 5), (0, a1), (0, 1), (0, 41), (0, 0), (5, 0)] [] M Q) ∧ (¬ a1 ≤ 9999 → x_Ev l E (1, 0, 0) m_X10_tell 0 [(20, 5), (0, 0)] [] M (fun r zM3 => ∃ zr4, r = some (0, zr4) ∧ Q (some (0, zr4)) zM3)))) : x_Ev l E (7, 0, 0) m_X10_mostFor 0 [(20, 5), (0, a1), (5, 0), (5, 0), (5, 0), (5, 0)] [] M Q := by
  refine i_iload_n 0 rfl rfl ?_
  refine i_sipush 1 rfl (by decide) ?_
  refine i_icmp_lt 14 2 rfl (by decide) (fun c => ?_) (fun c => ?_)
  · replace h := h.1 c
    refine i_aload_n 6 rfl rfl (by decide) ?_
    refine i_iconst 7 rfl (by decide) ?_
    refine i_callV (c := 10) (y1 := m_X10_tell) (z1 := (1, 0, 0)) (z2 := (7, 0, 0)) [(0, 0)] 8 rfl ml_400 ok_X10_tell vk_X10_tell ⟨by decide, rfl⟩ rfl ⟨rfl, Nat.le_of_ble_eq_true rfl⟩ (Nat.le_of_ble_eq_true rfl) ⟨by decide, rfl, rfl, rfl⟩ ?_
    refine h.mono (fun r zM1 h => ?_)
    obtain ⟨zr2, rfl, h⟩ := h
    simp only [Option.toList_some, Option.toList_none, List.cons_append, List.nil_append]
    exact i_ireturn 9 rfl rfl h
  · replace h := h.2 c
    refine i_iload_n 3 rfl rfl ?_
    refine i_sipush 4 rfl (by decide) ?_
    refine i_icmp_le 20 5 rfl (by decide) (fun c => ?_) (fun c => ?_)
    · replace h := h.1 c
      refine i_iconst 10 rfl (by decide) ?_
      refine i_istore_n 11 rfl (by decide) rfl ?_
      refine i_bipush 12 rfl (by decide) ?_
      refine i_istore_n 13 rfl (by decide) rfl ?_
      refine i_iconst 14 rfl (by decide) ?_
      refine i_istore 15 rfl (by decide) rfl ?_
      exact h
    · replace h := h.2 c
      refine i_aload_n 6 rfl rfl (by decide) ?_
      refine i_iconst 7 rfl (by decide) ?_
      refine i_callV (c := 10) (y1 := m_X10_tell) (z1 := (1, 0, 0)) (z2 := (7, 0, 0)) [(0, 0)] 8 rfl ml_400 ok_X10_tell vk_X10_tell ⟨by decide, rfl⟩ rfl ⟨rfl, Nat.le_of_ble_eq_true rfl⟩ (Nat.le_of_ble_eq_true rfl) ⟨by decide, rfl, rfl, rfl⟩ ?_
      refine h.mono (fun r zM3 h => ?_)
      obtain ⟨zr4, rfl, h⟩ := h
      simp only [Option.toList_some, Option.toList_none, List.cons_append, List.nil_append]
      exact i_ireturn 9 rfl rfl h
theorem u_X10_mostFor_28 {l : Launch} {E : xE} (l1 l2 l3 l4 : Int) {M : xM} {Q : Option xV → xM → Prop} (h : (40 ≤ l4 → (l3 ≤ 40 → Q (some (0, l3)) M) ∧ (¬ l3 ≤ 40 → x_Ev l E (1, 0, 0) m_X10_tell 0 [(20, 5), (0, 3)] [] M (fun r zM1 => ∃ zr2, r = some (0, zr2) ∧ Q (some (0, zr2)) zM1))) ∧ (¬ 40 ≤ l4 → (l3 ≤ l2 → (l3 ≤ 40 → Q (some (0, l3)) M) ∧ (¬ l3 ≤ 40 → x_Ev l E (1, 0, 0) m_X10_tell 0 [(20, 5), (0, 3)] [] M (fun r zM3 => ∃ zr4, r = some (0, zr4) ∧ Q (some (0, zr4)) zM3))) ∧ (¬ l3 ≤ l2 → ∀ zv5 : Int, zv5 = (x_w ((x_w (l2 + l3)).tdiv 2)) → x_Ev l E (6, 0, 0) m_X3_seekBest 0 [(13, 40), (0, zv5), (5, 0)] [] M (fun r zM6 => r = none ∧ ((zM6 46 0) < (x_W (l1 * (zM6 46 1))) → ∀ zv7 : Int, zv7 = (x_w (zv5 + 1)) → ∀ zv8 : Int, zv8 = x_w (l4 + 1) → x_Ev l E (7, 0, 0) m_X10_mostFor 28 [(20, 5), (0, l1), (0, zv7), (0, l3), (0, zv8), (5, 0)] [] zM6 Q) ∧ (¬ (zM6 46 0) < (x_W (l1 * (zM6 46 1))) → ∀ zv9 : Int, zv9 = x_w (l4 + 1) → x_Ev l E (7, 0, 0) m_X10_mostFor 28 [(20, 5), (0, l1), (0, l2), (0, zv5), (0, zv9), (5, 0)] [] zM6 Q))))) : x_Ev l E (7, 0, 0) m_X10_mostFor 28 [(20, 5), (0, l1), (0, l2), (0, l3), (0, l4), (5, 0)] [] M Q := by
  refine i_iload 16 rfl rfl ?_
  refine i_bipush 17 rfl (by decide) ?_
  refine i_icmp_ge 100 18 rfl (by decide) (fun c => ?_) (fun c => ?_)
  · replace h := h.1 c
    refine i_iload_n 54 rfl rfl ?_
    refine i_bipush 55 rfl (by decide) ?_
    refine i_icmp_le 114 56 rfl (by decide) (fun c => ?_) (fun c => ?_)
    · replace h := h.1 c
      refine i_iload_n 61 rfl rfl ?_
      exact i_ireturn 62 rfl rfl h
    · replace h := h.2 c
      refine i_aload_n 57 rfl rfl (by decide) ?_
      refine i_iconst 58 rfl (by decide) ?_
      refine i_callV (c := 10) (y1 := m_X10_tell) (z1 := (1, 0, 0)) (z2 := (7, 0, 0)) [(0, 3)] 59 rfl ml_400 ok_X10_tell vk_X10_tell ⟨by decide, rfl⟩ rfl ⟨rfl, Nat.le_of_ble_eq_true rfl⟩ (Nat.le_of_ble_eq_true rfl) ⟨by decide, rfl, rfl, rfl⟩ ?_
      refine h.mono (fun r zM1 h => ?_)
      obtain ⟨zr2, rfl, h⟩ := h
      simp only [Option.toList_some, Option.toList_none, List.cons_append, List.nil_append]
      refine i_goto 115 60 rfl (by decide) ?_
      exact i_ireturn 62 rfl rfl h
  · replace h := h.2 c
    refine i_iload_n 19 rfl rfl ?_
    refine i_iload_n 20 rfl rfl ?_
    refine i_icmp_ge 100 21 rfl (by decide) (fun c => ?_) (fun c => ?_)
    · replace h := h.1 c
      refine i_iload_n 54 rfl rfl ?_
      refine i_bipush 55 rfl (by decide) ?_
      refine i_icmp_le 114 56 rfl (by decide) (fun c => ?_) (fun c => ?_)
      · replace h := h.1 c
        refine i_iload_n 61 rfl rfl ?_
        exact i_ireturn 62 rfl rfl h
      · replace h := h.2 c
        refine i_aload_n 57 rfl rfl (by decide) ?_
        refine i_iconst 58 rfl (by decide) ?_
        refine i_callV (c := 10) (y1 := m_X10_tell) (z1 := (1, 0, 0)) (z2 := (7, 0, 0)) [(0, 3)] 59 rfl ml_400 ok_X10_tell vk_X10_tell ⟨by decide, rfl⟩ rfl ⟨rfl, Nat.le_of_ble_eq_true rfl⟩ (Nat.le_of_ble_eq_true rfl) ⟨by decide, rfl, rfl, rfl⟩ ?_
        refine h.mono (fun r zM3 h => ?_)
        obtain ⟨zr4, rfl, h⟩ := h
        simp only [Option.toList_some, Option.toList_none, List.cons_append, List.nil_append]
        refine i_goto 115 60 rfl (by decide) ?_
        exact i_ireturn 62 rfl rfl h
    · replace h := h.2 c
      refine i_iload_n 22 rfl rfl ?_
      refine i_iload_n 23 rfl rfl ?_
      refine i_iadd 24 rfl ?_
      refine i_iconst 25 rfl (by decide) ?_
      refine i_idiv 26 rfl (by decide) ?_
      replace h := h _ rfl
      refine i_istore 27 rfl (by decide) rfl ?_
      refine i_aload_n 28 rfl rfl (by decide) ?_
      refine i_getP (c := 10) (k := 3) (t := 13) (b := 40) 29 rfl fl_349 (by decide) rfl (by decide) rfl ?_
      refine i_iload 30 rfl rfl ?_
      refine i_callV (c := 3) (y1 := m_X3_seekBest) (z1 := (6, 0, 0)) (z2 := (7, 0, 0)) [(0, ((x_w ((x_w (l2 + l3)).tdiv 2))))] 31 rfl ml_801 ok_X3_seekBest vk_X3_seekBest ⟨by decide, rfl⟩ rfl ⟨rfl, Nat.le_of_ble_eq_true rfl⟩ (Nat.le_of_ble_eq_true rfl) ⟨by decide, rfl, rfl, rfl⟩ ?_
      refine h.mono (fun r zM6 h => ?_)
      obtain ⟨rfl, h⟩ := h
      simp only [Option.toList_some, Option.toList_none, List.cons_append, List.nil_append]
      refine i_aload_n 32 rfl rfl (by decide) ?_
      refine i_getP (c := 10) (k := 3) (t := 13) (b := 40) 33 rfl fl_349 (by decide) rfl (by decide) rfl ?_
      refine i_getP (c := 3) (k := 3) (t := 12) (b := 46) 34 rfl fl_259 (by decide) rfl (by decide) rfl ?_
      refine i_getL (c := 2) (k := 0) 35 rfl fl_41 (by decide) rfl ?_
      refine i_iload_n 36 rfl rfl ?_
      refine i_i2l 37 rfl ?_
      refine i_aload_n 38 rfl rfl (by decide) ?_
      refine i_getP (c := 10) (k := 3) (t := 13) (b := 40) 39 rfl fl_349 (by decide) rfl (by decide) rfl ?_
      refine i_getP (c := 3) (k := 3) (t := 12) (b := 46) 40 rfl fl_259 (by decide) rfl (by decide) rfl ?_
      refine i_getL (c := 2) (k := 1) 41 rfl fl_47 (by decide) rfl ?_
      refine i_lmul 42 rfl ?_
      refine i_lcmp_lt 89 43 rfl rfl (by decide) (fun c => ?_) (fun c => ?_)
      · replace h := h.1 c
        refine i_iload 48 rfl rfl ?_
        refine i_iconst 49 rfl (by decide) ?_
        refine i_iadd 50 rfl ?_
        replace h := h _ rfl
        refine i_istore_n 51 rfl (by decide) rfl ?_
        replace h := h _ rfl
        refine i_iinc 52 rfl rfl (by decide) rfl ?_
        refine i_goto 28 53 rfl (by decide) ?_
        refine i_weak ?_ h
        exact (And.intro (Or.inr rfl) (And.intro (Or.inr rfl) (And.intro (Or.inr rfl) (And.intro (Or.inr rfl) (And.intro (Or.inr rfl) (And.intro (Or.inl rfl) trivial))))))
      · replace h := h.2 c
        refine i_iload 45 rfl rfl ?_
        refine i_istore_n 46 rfl (by decide) rfl ?_
        refine i_goto 94 47 rfl (by decide) ?_
        replace h := h _ rfl
        refine i_iinc 52 rfl rfl (by decide) rfl ?_
        refine i_goto 28 53 rfl (by decide) ?_
        refine i_weak ?_ h
        exact (And.intro (Or.inr rfl) (And.intro (Or.inr rfl) (And.intro (Or.inr rfl) (And.intro (Or.inr rfl) (And.intro (Or.inr rfl) (And.intro (Or.inl rfl) trivial))))))
theorem u_X10_round_0 {l : Launch} {E : xE} {M : xM} {Q : Option xV → xM → Prop} (h : ((M 6 2) < 9999 → x_Ev l E (5, 0, 0) m_X3_cutTotal 0 [(13, 40)] [] M (fun r zM1 => ∃ zr2, r = some (0, zr2) ∧ x_Ev l E (2, 0, 0) m_X9_enter 0 [(19, 6), (0, zr2)] [] zM1 (fun r zM3 => ∃ zr4, r = some (0, zr4) ∧ (zr4 = 0 → x_Ev l E (1, 0, 0) m_X10_tell 0 [(20, 5), (0, 7)] [] zM3 (fun r zM5 => ∃ zr6, r = some (0, zr6) ∧ Q (some (0, zr6)) zM5)) ∧ (¬ zr4 = 0 → Q (some (0, zr2)) zM3)))) ∧ (¬ (M 6 2) < 9999 → x_Ev l E (1, 0, 0) m_X10_tell 0 [(20, 5), (0, 4)] [] M (fun r zM7 => ∃ zr8, r = some (0, zr8) ∧ Q (some (0, zr8)) zM7))) : x_Ev l E (6, 0, 0) m_X10_round 0 [(20, 5), (5, 0)] [] M Q := by
  refine i_aload_n 0 rfl rfl (by decide) ?_
  refine i_getP (c := 10) (k := 0) (t := 19) (b := 6) 1 rfl fl_346 (by decide) rfl (by decide) rfl ?_
  refine i_getI (c := 9) (k := 2) 2 rfl fl_111 (by decide) (by decide) ?_
  refine i_sipush 3 rfl (by decide) ?_
  refine i_icmp_lt 19 4 rfl (by decide) (fun c => ?_) (fun c => ?_)
  · replace h := h.1 c
    refine i_aload_n 9 rfl rfl (by decide) ?_
    refine i_getP (c := 10) (k := 3) (t := 13) (b := 40) 10 rfl fl_349 (by decide) rfl (by decide) rfl ?_
    refine i_callV (c := 3) (y1 := m_X3_cutTotal) (z1 := (5, 0, 0)) (z2 := (6, 0, 0)) [] 11 rfl ml_862 ok_X3_cutTotal vk_X3_cutTotal ⟨by decide, rfl⟩ rfl ⟨rfl, Nat.le_of_ble_eq_true rfl⟩ (Nat.le_of_ble_eq_true rfl) ⟨by decide, rfl, rfl, rfl⟩ ?_
    refine h.mono (fun r zM1 h => ?_)
    obtain ⟨zr2, rfl, h⟩ := h
    simp only [Option.toList_some, Option.toList_none, List.cons_append, List.nil_append]
    refine i_istore_n 12 rfl (by decide) rfl ?_
    refine i_aload_n 13 rfl rfl (by decide) ?_
    refine i_getP (c := 10) (k := 0) (t := 19) (b := 6) 14 rfl fl_346 (by decide) rfl (by decide) rfl ?_
    refine i_iload_n 15 rfl rfl ?_
    refine i_callV (c := 9) (y1 := m_X9_enter) (z1 := (2, 0, 0)) (z2 := (6, 0, 0)) [(0, zr2)] 16 rfl ml_870 ok_X9_enter vk_X9_enter ⟨by decide, rfl⟩ rfl ⟨rfl, Nat.le_of_ble_eq_true rfl⟩ (Nat.le_of_ble_eq_true rfl) ⟨by decide, rfl, rfl, rfl⟩ ?_
    refine h.mono (fun r zM3 h => ?_)
    obtain ⟨zr4, rfl, h⟩ := h
    simp only [Option.toList_some, Option.toList_none, List.cons_append, List.nil_append]
    refine i_if_eq 42 17 rfl (by decide) (fun c => ?_) (fun c => ?_)
    · replace h := h.1 c
      refine i_aload_n 20 rfl rfl (by decide) ?_
      refine i_bipush 21 rfl (by decide) ?_
      refine i_callV (c := 10) (y1 := m_X10_tell) (z1 := (1, 0, 0)) (z2 := (6, 0, 0)) [(0, 7)] 22 rfl ml_400 ok_X10_tell vk_X10_tell ⟨by decide, rfl⟩ rfl ⟨rfl, Nat.le_of_ble_eq_true rfl⟩ (Nat.le_of_ble_eq_true rfl) ⟨by decide, rfl, rfl, rfl⟩ ?_
      refine h.mono (fun r zM5 h => ?_)
      obtain ⟨zr6, rfl, h⟩ := h
      simp only [Option.toList_some, Option.toList_none, List.cons_append, List.nil_append]
      exact i_ireturn 23 rfl rfl h
    · replace h := h.2 c
      refine i_iload_n 18 rfl rfl ?_
      refine i_goto 48 19 rfl (by decide) ?_
      exact i_ireturn 23 rfl rfl h
  · replace h := h.2 c
    refine i_aload_n 5 rfl rfl (by decide) ?_
    refine i_iconst 6 rfl (by decide) ?_
    refine i_callV (c := 10) (y1 := m_X10_tell) (z1 := (1, 0, 0)) (z2 := (6, 0, 0)) [(0, 4)] 7 rfl ml_400 ok_X10_tell vk_X10_tell ⟨by decide, rfl⟩ rfl ⟨rfl, Nat.le_of_ble_eq_true rfl⟩ (Nat.le_of_ble_eq_true rfl) ⟨by decide, rfl, rfl, rfl⟩ ?_
    refine h.mono (fun r zM7 h => ?_)
    obtain ⟨zr8, rfl, h⟩ := h
    simp only [Option.toList_some, Option.toList_none, List.cons_append, List.nil_append]
    exact i_ireturn 8 rfl rfl h
theorem u_X10_loose_0 {l : Launch} {E : xE} (a1 : Int) {M : xM} {Q : Option xV → xM → Prop} (h : (a1 < 1 → x_Ev l E (1, 0, 0) m_X10_tell 0 [(20, 5), (0, 0)] [] M (fun r zM1 => ∃ zr2, r = some (0, zr2) ∧ Q (some (0, zr2)) zM1)) ∧ (¬ a1 < 1 → (a1 ≤ 20 → ((x_w ((M 6 2) + a1)) ≤ 9999 → x_Ev l E (1, 0, 0) m_X2_take 0 [(12, 86), (12, 7)] [] M (fun r zM3 => r = none ∧ ∀ zv4 : Int, zv4 = (zM3 6 4) → ∀ zv5 : Int, zv5 = (zM3 6 2) → ∀ zv6 : Int, zv6 = (zM3 6 3) → x_Ev l E (6, 0, 0) m_X10_loose 84 [(20, 5), (0, a1), (1, zv4), (5, 0), (0, zv5), (0, zv6), (0, 0), (0, 0)] [] zM3 Q)) ∧ (¬ (x_w ((M 6 2) + a1)) ≤ 9999 → x_Ev l E (1, 0, 0) m_X10_tell 0 [(20, 5), (0, 4)] [] M (fun r zM7 => ∃ zr8, r = some (0, zr8) ∧ Q (some (0, zr8)) zM7))) ∧ (¬ a1 ≤ 20 → x_Ev l E (1, 0, 0) m_X10_tell 0 [(20, 5), (0, 0)] [] M (fun r zM9 => ∃ zr10, r = some (0, zr10) ∧ Q (some (0, zr10)) zM9)))) : x_Ev l E (6, 0, 0) m_X10_loose 0 [(20, 5), (0, a1), (5, 0), (5, 0), (5, 0), (5, 0), (5, 0), (5, 0)] [] M Q := by
  refine i_iload_n 0 rfl rfl ?_
  refine i_iconst 1 rfl (by decide) ?_
  refine i_icmp_lt 11 2 rfl (by decide) (fun c => ?_) (fun c => ?_)
  · replace h := h.1 c
    refine i_aload_n 6 rfl rfl (by decide) ?_
    refine i_iconst 7 rfl (by decide) ?_
    refine i_callV (c := 10) (y1 := m_X10_tell) (z1 := (1, 0, 0)) (z2 := (6, 0, 0)) [(0, 0)] 8 rfl ml_400 ok_X10_tell vk_X10_tell ⟨by decide, rfl⟩ rfl ⟨rfl, Nat.le_of_ble_eq_true rfl⟩ (Nat.le_of_ble_eq_true rfl) ⟨by decide, rfl, rfl, rfl⟩ ?_
    refine h.mono (fun r zM1 h => ?_)
    obtain ⟨zr2, rfl, h⟩ := h
    simp only [Option.toList_some, Option.toList_none, List.cons_append, List.nil_append]
    exact i_ireturn 9 rfl rfl h
  · replace h := h.2 c
    refine i_iload_n 3 rfl rfl ?_
    refine i_bipush 4 rfl (by decide) ?_
    refine i_icmp_le 17 5 rfl (by decide) (fun c => ?_) (fun c => ?_)
    · replace h := h.1 c
      refine i_aload_n 10 rfl rfl (by decide) ?_
      refine i_getP (c := 10) (k := 0) (t := 19) (b := 6) 11 rfl fl_346 (by decide) rfl (by decide) rfl ?_
      refine i_getI (c := 9) (k := 2) 12 rfl fl_111 (by decide) (by decide) ?_
      refine i_iload_n 13 rfl rfl ?_
      refine i_iadd 14 rfl ?_
      refine i_sipush 15 rfl (by decide) ?_
      refine i_icmp_le 38 16 rfl (by decide) (fun c => ?_) (fun c => ?_)
      · replace h := h.1 c
        refine i_aload_n 21 rfl rfl (by decide) ?_
        refine i_getP (c := 10) (k := 7) (t := 12) (b := 86) 22 rfl fl_353 (by decide) rfl (by decide) rfl ?_
        refine i_aload_n 23 rfl rfl (by decide) ?_
        refine i_getP (c := 10) (k := 0) (t := 19) (b := 6) 24 rfl fl_346 (by decide) rfl (by decide) rfl ?_
        refine i_getP (c := 9) (k := 5) (t := 12) (b := 7) 25 rfl fl_118 (by decide) rfl (by decide) rfl ?_
        refine i_callV (c := 2) (y1 := m_X2_take) (z1 := (1, 0, 0)) (z2 := (6, 0, 0)) [(12, 7)] 26 rfl ml_832 ok_X2_take vk_X2_take ⟨by decide, rfl⟩ rfl ⟨rfl, Nat.le_of_ble_eq_true rfl⟩ (Nat.le_of_ble_eq_true rfl) ⟨by decide, rfl, rfl, rfl⟩ ?_
        refine h.mono (fun r zM3 h => ?_)
        obtain ⟨rfl, h⟩ := h
        simp only [Option.toList_some, Option.toList_none, List.cons_append, List.nil_append]
        refine i_aload_n 27 rfl rfl (by decide) ?_
        refine i_getP (c := 10) (k := 0) (t := 19) (b := 6) 28 rfl fl_346 (by decide) rfl (by decide) rfl ?_
        refine i_getL (c := 9) (k := 4) 29 rfl fl_115 (by decide) rfl ?_
        replace h := h _ rfl
        refine i_lstore_n 30 rfl (by decide) rfl ?_
        refine i_aload_n 31 rfl rfl (by decide) ?_
        refine i_getP (c := 10) (k := 0) (t := 19) (b := 6) 32 rfl fl_346 (by decide) rfl (by decide) rfl ?_
        refine i_getI (c := 9) (k := 2) 33 rfl fl_111 (by decide) (by decide) ?_
        replace h := h _ rfl
        refine i_istore 34 rfl (by decide) rfl ?_
        refine i_aload_n 35 rfl rfl (by decide) ?_
        refine i_getP (c := 10) (k := 0) (t := 19) (b := 6) 36 rfl fl_346 (by decide) rfl (by decide) rfl ?_
        refine i_getI (c := 9) (k := 3) 37 rfl fl_113 (by decide) (by decide) ?_
        replace h := h _ rfl
        refine i_istore 38 rfl (by decide) rfl ?_
        refine i_iconst 39 rfl (by decide) ?_
        refine i_istore 40 rfl (by decide) rfl ?_
        refine i_iconst 41 rfl (by decide) ?_
        refine i_istore 42 rfl (by decide) rfl ?_
        exact h
      · replace h := h.2 c
        refine i_aload_n 17 rfl rfl (by decide) ?_
        refine i_iconst 18 rfl (by decide) ?_
        refine i_callV (c := 10) (y1 := m_X10_tell) (z1 := (1, 0, 0)) (z2 := (6, 0, 0)) [(0, 4)] 19 rfl ml_400 ok_X10_tell vk_X10_tell ⟨by decide, rfl⟩ rfl ⟨rfl, Nat.le_of_ble_eq_true rfl⟩ (Nat.le_of_ble_eq_true rfl) ⟨by decide, rfl, rfl, rfl⟩ ?_
        refine h.mono (fun r zM7 h => ?_)
        obtain ⟨zr8, rfl, h⟩ := h
        simp only [Option.toList_some, Option.toList_none, List.cons_append, List.nil_append]
        exact i_ireturn 20 rfl rfl h
    · replace h := h.2 c
      refine i_aload_n 6 rfl rfl (by decide) ?_
      refine i_iconst 7 rfl (by decide) ?_
      refine i_callV (c := 10) (y1 := m_X10_tell) (z1 := (1, 0, 0)) (z2 := (6, 0, 0)) [(0, 0)] 8 rfl ml_400 ok_X10_tell vk_X10_tell ⟨by decide, rfl⟩ rfl ⟨rfl, Nat.le_of_ble_eq_true rfl⟩ (Nat.le_of_ble_eq_true rfl) ⟨by decide, rfl, rfl, rfl⟩ ?_
      refine h.mono (fun r zM9 h => ?_)
      obtain ⟨zr10, rfl, h⟩ := h
      simp only [Option.toList_some, Option.toList_none, List.cons_append, List.nil_append]
      exact i_ireturn 9 rfl rfl h
theorem u_X10_loose_84 {l : Launch} {E : xE} (l1 l2 l4 l5 l6 l7 : Int) {M : xM} {Q : Option xV → xM → Prop} (h : (l1 ≤ l7 → Q (some (0, l6)) M) ∧ (¬ l1 ≤ l7 → x_Ev l E (3, 0, 0) m_X9_drawTerm 0 [(19, 6)] [] M (fun r zM1 => r = none ∧ x_Ev l E (5, 0, 0) m_X3_cutTotal 0 [(13, 40)] [] zM1 (fun r zM2 => ∃ zr3, r = some (0, zr3) ∧ x_Ev l E (2, 0, 0) m_X9_enter 0 [(19, 6), (0, zr3)] [] zM2 (fun r zM4 => ∃ zr5, r = some (0, zr5) ∧ (¬ zr5 = 0 → ∀ zv6 : Int, zv6 = x_w (l7 + 1) → x_Ev l E (6, 0, 0) m_X10_loose 84 [(20, 5), (0, l1), (1, l2), (5, 0), (0, l4), (0, l5), (0, zr3), (0, zv6)] [] zM4 Q) ∧ (zr5 = 0 → x_Ev l E (1, 0, 0) m_X2_take 0 [(12, 7), (12, 86)] [] zM4 (fun r zM7 => r = none ∧ ∀ zM8 : xM, zM8 = x_wr zM7 6 4 l2 → ∀ zM9 : xM, zM9 = x_wr zM8 6 2 l4 → ∀ zM10 : xM, zM10 = x_wr zM9 6 3 l5 → x_Ev l E (1, 0, 0) m_X10_tell 0 [(20, 5), (0, 7)] [] zM10 (fun r zM11 => ∃ zr12, r = some (0, zr12) ∧ Q (some (0, zr12)) zM11)))))))) : x_Ev l E (6, 0, 0) m_X10_loose 84 [(20, 5), (0, l1), (1, l2), (5, 0), (0, l4), (0, l5), (0, l6), (0, l7)] [] M Q := by
  refine i_iload 43 rfl rfl ?_
  refine i_iload_n 44 rfl rfl ?_
  refine i_icmp_ge 171 45 rfl (by decide) (fun c => ?_) (fun c => ?_)
  · replace h := h.1 c
    refine i_iload 82 rfl rfl ?_
    exact i_ireturn 83 rfl rfl h
  · replace h := h.2 c
    refine i_aload_n 46 rfl rfl (by decide) ?_
    refine i_getP (c := 10) (k := 0) (t := 19) (b := 6) 47 rfl fl_346 (by decide) rfl (by decide) rfl ?_
    refine i_callV (c := 9) (y1 := m_X9_drawTerm) (z1 := (3, 0, 0)) (z2 := (6, 0, 0)) [] 48 rfl ml_881 ok_X9_drawTerm vk_X9_drawTerm ⟨by decide, rfl⟩ rfl ⟨rfl, Nat.le_of_ble_eq_true rfl⟩ (Nat.le_of_ble_eq_true rfl) ⟨by decide, rfl, rfl, rfl⟩ ?_
    refine h.mono (fun r zM1 h => ?_)
    obtain ⟨rfl, h⟩ := h
    simp only [Option.toList_some, Option.toList_none, List.cons_append, List.nil_append]
    refine i_aload_n 49 rfl rfl (by decide) ?_
    refine i_getP (c := 10) (k := 3) (t := 13) (b := 40) 50 rfl fl_349 (by decide) rfl (by decide) rfl ?_
    refine i_callV (c := 3) (y1 := m_X3_cutTotal) (z1 := (5, 0, 0)) (z2 := (6, 0, 0)) [] 51 rfl ml_862 ok_X3_cutTotal vk_X3_cutTotal ⟨by decide, rfl⟩ rfl ⟨rfl, Nat.le_of_ble_eq_true rfl⟩ (Nat.le_of_ble_eq_true rfl) ⟨by decide, rfl, rfl, rfl⟩ ?_
    refine h.mono (fun r zM2 h => ?_)
    obtain ⟨zr3, rfl, h⟩ := h
    simp only [Option.toList_some, Option.toList_none, List.cons_append, List.nil_append]
    refine i_istore 52 rfl (by decide) rfl ?_
    refine i_aload_n 53 rfl rfl (by decide) ?_
    refine i_getP (c := 10) (k := 0) (t := 19) (b := 6) 54 rfl fl_346 (by decide) rfl (by decide) rfl ?_
    refine i_iload 55 rfl rfl ?_
    refine i_callV (c := 9) (y1 := m_X9_enter) (z1 := (2, 0, 0)) (z2 := (6, 0, 0)) [(0, zr3)] 56 rfl ml_870 ok_X9_enter vk_X9_enter ⟨by decide, rfl⟩ rfl ⟨rfl, Nat.le_of_ble_eq_true rfl⟩ (Nat.le_of_ble_eq_true rfl) ⟨by decide, rfl, rfl, rfl⟩ ?_
    refine h.mono (fun r zM4 h => ?_)
    obtain ⟨zr5, rfl, h⟩ := h
    simp only [Option.toList_some, Option.toList_none, List.cons_append, List.nil_append]
    refine i_if_ne 165 57 rfl (by decide) (fun c => ?_) (fun c => ?_)
    · replace h := h.1 c
      replace h := h _ rfl
      refine i_iinc 80 rfl rfl (by decide) rfl ?_
      refine i_goto 84 81 rfl (by decide) ?_
      exact h
    · replace h := h.2 c
      refine i_aload_n 58 rfl rfl (by decide) ?_
      refine i_getP (c := 10) (k := 0) (t := 19) (b := 6) 59 rfl fl_346 (by decide) rfl (by decide) rfl ?_
      refine i_getP (c := 9) (k := 5) (t := 12) (b := 7) 60 rfl fl_118 (by decide) rfl (by decide) rfl ?_
      refine i_aload_n 61 rfl rfl (by decide) ?_
      refine i_getP (c := 10) (k := 7) (t := 12) (b := 86) 62 rfl fl_353 (by decide) rfl (by decide) rfl ?_
      refine i_callV (c := 2) (y1 := m_X2_take) (z1 := (1, 0, 0)) (z2 := (6, 0, 0)) [(12, 86)] 63 rfl ml_832 ok_X2_take vk_X2_take ⟨by decide, rfl⟩ rfl ⟨rfl, Nat.le_of_ble_eq_true rfl⟩ (Nat.le_of_ble_eq_true rfl) ⟨by decide, rfl, rfl, rfl⟩ ?_
      refine h.mono (fun r zM7 h => ?_)
      obtain ⟨rfl, h⟩ := h
      simp only [Option.toList_some, Option.toList_none, List.cons_append, List.nil_append]
      refine i_aload_n 64 rfl rfl (by decide) ?_
      refine i_getP (c := 10) (k := 0) (t := 19) (b := 6) 65 rfl fl_346 (by decide) rfl (by decide) rfl ?_
      refine i_lload_n 66 rfl rfl ?_
      replace h := h _ rfl
      refine i_putL (c := 9) (k := 4) 67 rfl fl_115 (by decide) ⟨rfl, rfl, rfl⟩ ?_
      refine i_aload_n 68 rfl rfl (by decide) ?_
      refine i_getP (c := 10) (k := 0) (t := 19) (b := 6) 69 rfl fl_346 (by decide) rfl (by decide) rfl ?_
      refine i_iload 70 rfl rfl ?_
      replace h := h _ rfl
      refine i_putI (c := 9) (k := 2) 71 rfl fl_111 (by decide) ⟨rfl, rfl, rfl⟩ ?_
      refine i_aload_n 72 rfl rfl (by decide) ?_
      refine i_getP (c := 10) (k := 0) (t := 19) (b := 6) 73 rfl fl_346 (by decide) rfl (by decide) rfl ?_
      refine i_iload 74 rfl rfl ?_
      replace h := h _ rfl
      refine i_putI (c := 9) (k := 3) 75 rfl fl_113 (by decide) ⟨rfl, rfl, rfl⟩ ?_
      refine i_aload_n 76 rfl rfl (by decide) ?_
      refine i_bipush 77 rfl (by decide) ?_
      refine i_callV (c := 10) (y1 := m_X10_tell) (z1 := (1, 0, 0)) (z2 := (6, 0, 0)) [(0, 7)] 78 rfl ml_400 ok_X10_tell vk_X10_tell ⟨by decide, rfl⟩ rfl ⟨rfl, Nat.le_of_ble_eq_true rfl⟩ (Nat.le_of_ble_eq_true rfl) ⟨by decide, rfl, rfl, rfl⟩ ?_
      refine h.mono (fun r zM11 h => ?_)
      obtain ⟨zr12, rfl, h⟩ := h
      simp only [Option.toList_some, Option.toList_none, List.cons_append, List.nil_append]
      exact i_ireturn 79 rfl rfl h
