/-! Printed by wip/whole/tools/gen_vc.py: what is enough at each cut point -/
theorem u_X1_begin_0 {l : Launch} {E : xE} (a0 a1 a2 : Int) {M : xM} {Q : Option xV → xM → Prop} (h : x_Ev l E (1, 0, 0) m_X1_setKind 0 [(11, a0), (0, a1)] [] M (fun r zM1 => r = none ∧ ∀ zM2 : xM, zM2 = x_wr zM1 a0 2 a2 → ∀ zM3 : xM, zM3 = x_wr zM2 a0 3 1 → x_Ev l E (2, 0, 0) m_X1_begin 17 [(11, a0), (0, a1), (0, a2), (0, 0)] [] zM3 Q)) : x_Ev l E (2, 0, 0) m_X1_begin 0 [(11, a0), (0, a1), (0, a2), (5, 0)] [] M Q := by
  refine i_aload_n 0 rfl rfl (by decide) ?_
  refine i_iload_n 1 rfl rfl ?_
  refine i_callV (c := 1) (y1 := m_X1_setKind) (z1 := (1, 0, 0)) (z2 := (2, 0, 0)) [(0, a1)] 2 rfl ml_409 ok_X1_setKind vk_X1_setKind ⟨by decide, rfl⟩ rfl ⟨rfl, Nat.le_of_ble_eq_true rfl⟩ (Nat.le_of_ble_eq_true rfl) ⟨by decide, rfl, rfl, rfl⟩ ?_
  refine h.mono (fun r zM1 h => ?_)
  obtain ⟨rfl, h⟩ := h
  simp only [Option.toList_some, Option.toList_none, List.cons_append, List.nil_append]
  refine i_aload_n 3 rfl rfl (by decide) ?_
  refine i_iload_n 4 rfl rfl ?_
  replace h := h _ rfl
  refine i_putI (c := 1) (k := 2) 5 rfl fl_66 (by decide) ⟨rfl, rfl, rfl⟩ ?_
  refine i_aload_n 6 rfl rfl (by decide) ?_
  refine i_iconst 7 rfl (by decide) ?_
  replace h := h _ rfl
  refine i_putI (c := 1) (k := 3) 8 rfl fl_70 (by decide) ⟨rfl, rfl, rfl⟩ ?_
  refine i_iconst 9 rfl (by decide) ?_
  refine i_istore_n 10 rfl (by decide) rfl ?_
  exact h
theorem u_X1_begin_17 {l : Launch} {E : xE} (l0 l1 l2 l3 : Int) {M : xM} {Q : Option xV → xM → Prop} (h : (9 ≤ l3 → x_Ev l E (1, 0, 0) m_X1_fillRow 0 [(11, l0), (0, 0), (0, 0), (0, 3), (0, 1), (0, 10), (5, 0), (5, 0)] [] M (fun r zM1 => r = none ∧ Q none zM1)) ∧ (¬ 9 ≤ l3 → ((0 : Int) ≤ (x_w (l3.tdiv 3)) ∧ ((x_w (l3.tdiv 3)) : Int) < 3) ∧ (0 ≤ l3 ∧ l3 < 9) ∧ ∀ zM2 : xM, zM2 = x_wr M (l0 + 1) l3 ((x_SC 184).getD ((x_w (l3.tdiv 3))).toNat 0) → ∀ zv3 : Int, zv3 = x_w (l3 + 1) → x_Ev l E (2, 0, 0) m_X1_begin 17 [(11, l0), (0, l1), (0, l2), (0, zv3)] [] zM2 Q)) : x_Ev l E (2, 0, 0) m_X1_begin 17 [(11, l0), (0, l1), (0, l2), (0, l3)] [] M Q := by
  refine i_iload_n 11 rfl rfl ?_
  refine i_aload_n 12 rfl rfl (by decide) ?_
  refine i_getP (c := 1) (k := 4) (t := 101) (b := (l0 + 1)) 13 rfl fl_75 (by decide) rfl (by decide) rfl ?_
  refine i_alen (τ := 1) (len := 9) 14 rfl (by decide) (by decide) ?_
  refine i_icmp_ge 45 15 rfl (by decide) (fun c => ?_) (fun c => ?_)
  · replace h := h.1 c
    refine i_aload_n 27 rfl rfl (by decide) ?_
    refine i_iconst 28 rfl (by decide) ?_
    refine i_iconst 29 rfl (by decide) ?_
    refine i_iconst 30 rfl (by decide) ?_
    refine i_iconst 31 rfl (by decide) ?_
    refine i_bipush 32 rfl (by decide) ?_
    refine i_callV (c := 1) (y1 := m_X1_fillRow) (z1 := (1, 0, 0)) (z2 := (2, 0, 0)) [(0, 0), (0, 0), (0, 3), (0, 1), (0, 10)] 33 rfl ml_415 ok_X1_fillRow vk_X1_fillRow ⟨by decide, rfl⟩ rfl ⟨rfl, Nat.le_of_ble_eq_true rfl⟩ (Nat.le_of_ble_eq_true rfl) ⟨by decide, rfl, rfl, rfl⟩ ?_
    refine h.mono (fun r zM1 h => ?_)
    obtain ⟨rfl, h⟩ := h
    simp only [Option.toList_some, Option.toList_none, List.cons_append, List.nil_append]
    exact i_return 34 rfl rfl h
  · replace h := h.2 c
    refine i_aload_n 16 rfl rfl (by decide) ?_
    refine i_getP (c := 1) (k := 4) (t := 101) (b := (l0 + 1)) 17 rfl fl_75 (by decide) rfl (by decide) rfl ?_
    refine i_iload_n 18 rfl rfl ?_
    refine i_getsN (i := 4) 19 rfl (by decide) fs_413 ?_
    refine i_iload_n 20 rfl rfl ?_
    refine i_iconst 21 rfl (by decide) ?_
    refine i_idiv 22 rfl (by decide) ?_
    refine i_sta (t := 184) 23 rfl (by decide) h.1.1 h.1.2 (by decide) ?_
    replace h := h.2
    have hb := h.1
    replace h := h.2 _ rfl
    refine i_iast (τ := 1) 24 rfl ⟨rfl, rfl, rfl, by decide⟩ hb.1 hb.2 ?_
    replace h := h _ rfl
    refine i_iinc 25 rfl rfl (by decide) rfl ?_
    refine i_goto 17 26 rfl (by decide) ?_
    exact h
theorem u_X4_findAll_0 {l : Launch} {E : xE} (a0 : Int) {M : xM} {Q : Option xV → xM → Prop} (h : ∀ zM1 : xM, zM1 = x_wr M a0 2 0 → x_Ev l E (1, 0, 0) m_X1_pairs 0 [(11, (9 + 4 * ((a0 - 49) / 9)))] [] zM1 (fun r zM2 => ∃ zr3, r = some (0, zr3) ∧ ∀ zv4 : Int, zv4 = (x_ishl 1 zr3) → x_Ev l E (4, 0, 0) m_X4_findAll 17 [(14, a0), (0, zv4), (0, 0), (5, 0)] [] zM2 Q)) : x_Ev l E (4, 0, 0) m_X4_findAll 0 [(14, a0), (5, 0), (5, 0), (5, 0)] [] M Q := by
  refine i_aload_n 0 rfl rfl (by decide) ?_
  refine i_iconst 1 rfl (by decide) ?_
  replace h := h _ rfl
  refine i_putI (c := 4) (k := 2) 2 rfl fl_205 (by decide) ⟨rfl, rfl, rfl⟩ ?_
  refine i_iconst 3 rfl (by decide) ?_
  refine i_aload_n 4 rfl rfl (by decide) ?_
  refine i_getP (c := 4) (k := 0) (t := 11) (b := (9 + 4 * ((a0 - 49) / 9))) 5 rfl fl_203 (by decide) rfl (by decide) rfl ?_
  refine i_callV (c := 1) (y1 := m_X1_pairs) (z1 := (1, 0, 0)) (z2 := (4, 0, 0)) [] 6 rfl ml_423 ok_X1_pairs vk_X1_pairs ⟨by decide, rfl⟩ rfl ⟨rfl, Nat.le_of_ble_eq_true rfl⟩ (Nat.le_of_ble_eq_true rfl) ⟨by decide, rfl, rfl, rfl⟩ ?_
  refine h.mono (fun r zM2 h => ?_)
  obtain ⟨zr3, rfl, h⟩ := h
  simp only [Option.toList_some, Option.toList_none, List.cons_append, List.nil_append]
  refine i_ishl 7 rfl ?_
  replace h := h _ rfl
  refine i_istore_n 8 rfl (by decide) rfl ?_
  refine i_iconst 9 rfl (by decide) ?_
  refine i_istore_n 10 rfl (by decide) rfl ?_
  exact h
theorem u_X4_findAll_17 {l : Launch} {E : xE} (l0 l1 l2 : Int) {M : xM} {Q : Option xV → xM → Prop} (h : (l1 ≤ l2 → x_Ev l E (2, 0, 0) m_X4_sumUp 0 [(14, l0), (5, 0)] [] M (fun r zM1 => r = none ∧ Q none zM1)) ∧ (¬ l1 ≤ l2 → x_Ev l E (1, 0, 0) m_J6_bitCount_0f7a4 0 [(0, l2)] [] M (fun r zM2 => ∃ zr3, r = some (0, zr3) ∧ (¬ zr3 = (zM2 (9 + 4 * ((l0 - 49) / 9)) 2) → ∀ zv4 : Int, zv4 = x_w (l2 + 1) → x_Ev l E (4, 0, 0) m_X4_findAll 17 [(14, l0), (0, l1), (0, zv4), (5, 0)] [] zM2 Q) ∧ (zr3 = (zM2 (9 + 4 * ((l0 - 49) / 9)) 2) → x_Ev l E (3, 0, 0) m_X8_solveAmounts 0 [(18, 36), (11, (9 + 4 * ((l0 - 49) / 9))), (0, l2), (5, 0), (5, 0), (5, 0)] [] zM2 (fun r zM5 => ∃ zr6, r = some (0, zr6) ∧ (zr6 = 0 → ∀ zv7 : Int, zv7 = x_w (l2 + 1) → x_Ev l E (4, 0, 0) m_X4_findAll 17 [(14, l0), (0, l1), (0, zv7), (5, 0)] [] zM5 Q) ∧ (¬ zr6 = 0 → x_Ev l E (1, 0, 0) m_X4_tightPairs 0 [(14, l0), (5, 0), (5, 0), (5, 0), (5, 0), (5, 0), (5, 0)] [] zM5 (fun r zM8 => ∃ zr9, r = some (0, zr9) ∧ (zr9 < 0 → ∀ zv10 : Int, zv10 = x_w (l2 + 1) → x_Ev l E (4, 0, 0) m_X4_findAll 17 [(14, l0), (0, l1), (0, zv10), (5, 0)] [] zM8 Q) ∧ (¬ zr9 < 0 → x_Ev l E (1, 0, 0) m_X10_isOneOf 0 [(110, (l0 + 3)), (0, (zM8 l0 2)), (0, zr9), (5, 0)] [] zM8 (fun r zM11 => ∃ zr12, r = some (0, zr12) ∧ (¬ zr12 = 0 → ∀ zv13 : Int, zv13 = x_w (l2 + 1) → x_Ev l E (4, 0, 0) m_X4_findAll 17 [(14, l0), (0, l1), (0, zv13), (5, 0)] [] zM11 Q) ∧ (zr12 = 0 → x_Ev l E (2, 0, 0) m_X4_insert 0 [(14, l0), (0, zr9), (5, 0)] [] zM11 (fun r zM14 => r = none ∧ ∀ zv15 : Int, zv15 = x_w (l2 + 1) → x_Ev l E (4, 0, 0) m_X4_findAll 17 [(14, l0), (0, l1), (0, zv15), (5, 0)] [] zM14 Q))))))))))) : x_Ev l E (4, 0, 0) m_X4_findAll 17 [(14, l0), (0, l1), (0, l2), (5, 0)] [] M Q := by
  refine i_iload_n 11 rfl rfl ?_
  refine i_iload_n 12 rfl rfl ?_
  refine i_icmp_ge 86 13 rfl (by decide) (fun c => ?_) (fun c => ?_)
  · replace h := h.1 c
    refine i_aload_n 44 rfl rfl (by decide) ?_
    refine i_callV (c := 4) (y1 := m_X4_sumUp) (z1 := (2, 0, 0)) (z2 := (4, 0, 0)) [] 45 rfl ml_476 ok_X4_sumUp vk_X4_sumUp ⟨by decide, rfl⟩ rfl ⟨rfl, Nat.le_of_ble_eq_true rfl⟩ (Nat.le_of_ble_eq_true rfl) ⟨by decide, rfl, rfl, rfl⟩ ?_
    refine h.mono (fun r zM1 h => ?_)
    obtain ⟨rfl, h⟩ := h
    simp only [Option.toList_some, Option.toList_none, List.cons_append, List.nil_append]
    exact i_return 46 rfl rfl h
  · replace h := h.2 c
    refine i_iload_n 14 rfl rfl ?_
    refine i_callS (y1 := m_J6_bitCount_0f7a4) (z1 := (1, 0, 0)) (z2 := (4, 0, 0)) [(0, l2)] 15 rfl ml_427 ok_J6_bitCount_0f7a4 vk_J6_bitCount_0f7a4 rfl ⟨rfl, Nat.le_of_ble_eq_true rfl⟩ (Nat.le_of_ble_eq_true rfl) ⟨by decide, rfl, rfl, rfl⟩ ?_
    refine h.mono (fun r zM2 h => ?_)
    obtain ⟨zr3, rfl, h⟩ := h
    simp only [Option.toList_some, Option.toList_none, List.cons_append, List.nil_append]
    refine i_aload_n 16 rfl rfl (by decide) ?_
    refine i_getP (c := 4) (k := 0) (t := 11) (b := (9 + 4 * ((l0 - 49) / 9))) 17 rfl fl_203 (by decide) rfl (by decide) rfl ?_
    refine i_getI (c := 1) (k := 2) 18 rfl fl_67 (by decide) (by decide) ?_
    refine i_icmp_ne 80 19 rfl (by decide) (fun c => ?_) (fun c => ?_)
    · replace h := h.1 c
      replace h := h _ rfl
      refine i_iinc 42 rfl rfl (by decide) rfl ?_
      refine i_goto 17 43 rfl (by decide) ?_
      exact h
    · replace h := h.2 c
      refine i_aload_n 20 rfl rfl (by decide) ?_
      refine i_getP (c := 4) (k := 1) (t := 18) (b := 36) 21 rfl fl_204 (by decide) rfl (by decide) rfl ?_
      refine i_aload_n 22 rfl rfl (by decide) ?_
      refine i_getP (c := 4) (k := 0) (t := 11) (b := (9 + 4 * ((l0 - 49) / 9))) 23 rfl fl_203 (by decide) rfl (by decide) rfl ?_
      refine i_iload_n 24 rfl rfl ?_
      refine i_callV (c := 8) (y1 := m_X8_solveAmounts) (z1 := (3, 0, 0)) (z2 := (4, 0, 0)) [(11, (9 + 4 * ((l0 - 49) / 9))), (0, l2)] 25 rfl ml_433 ok_X8_solveAmounts vk_X8_solveAmounts ⟨by decide, rfl⟩ rfl ⟨rfl, Nat.le_of_ble_eq_true rfl⟩ (Nat.le_of_ble_eq_true rfl) ⟨by decide, rfl, rfl, rfl⟩ ?_
      refine h.mono (fun r zM5 h => ?_)
      obtain ⟨zr6, rfl, h⟩ := h
      simp only [Option.toList_some, Option.toList_none, List.cons_append, List.nil_append]
      refine i_if_eq 80 26 rfl (by decide) (fun c => ?_) (fun c => ?_)
      · replace h := h.1 c
        replace h := h _ rfl
        refine i_iinc 42 rfl rfl (by decide) rfl ?_
        refine i_goto 17 43 rfl (by decide) ?_
        exact h
      · replace h := h.2 c
        refine i_aload_n 27 rfl rfl (by decide) ?_
        refine i_callV (c := 4) (y1 := m_X4_tightPairs) (z1 := (1, 0, 0)) (z2 := (4, 0, 0)) [] 28 rfl ml_458 ok_X4_tightPairs vk_X4_tightPairs ⟨by decide, rfl⟩ rfl ⟨rfl, Nat.le_of_ble_eq_true rfl⟩ (Nat.le_of_ble_eq_true rfl) ⟨by decide, rfl, rfl, rfl⟩ ?_
        refine h.mono (fun r zM8 h => ?_)
        obtain ⟨zr9, rfl, h⟩ := h
        simp only [Option.toList_some, Option.toList_none, List.cons_append, List.nil_append]
        refine i_istore_n 29 rfl (by decide) rfl ?_
        refine i_iload_n 30 rfl rfl ?_
        refine i_if_lt 80 31 rfl (by decide) (fun c => ?_) (fun c => ?_)
        · replace h := h.1 c
          replace h := h _ rfl
          refine i_iinc 42 rfl rfl (by decide) rfl ?_
          refine i_goto 17 43 rfl (by decide) ?_
          refine i_weak ?_ h
          exact (And.intro (Or.inr rfl) (And.intro (Or.inr rfl) (And.intro (Or.inr rfl) (And.intro (Or.inl rfl) trivial))))
        · replace h := h.2 c
          refine i_aload_n 32 rfl rfl (by decide) ?_
          refine i_getP (c := 4) (k := 5) (t := 110) (b := (l0 + 3)) 33 rfl fl_212 (by decide) rfl (by decide) rfl ?_
          refine i_aload_n 34 rfl rfl (by decide) ?_
          refine i_getI (c := 4) (k := 2) 35 rfl fl_205 (by decide) (by decide) ?_
          refine i_iload_n 36 rfl rfl ?_
          refine i_callSN (y1 := m_X10_isOneOf) (z1 := (1, 0, 0)) (z2 := (4, 0, 0)) [(110, (l0 + 3)), (0, (zM8 l0 2)), (0, zr9)] 37 rfl ml_462 ok_X10_isOneOf vk_X10_isOneOf rfl ⟨rfl, Nat.le_of_ble_eq_true rfl⟩ (Nat.le_of_ble_eq_true rfl) ⟨by decide, rfl, rfl, rfl⟩ ?_
          refine h.mono (fun r zM11 h => ?_)
          obtain ⟨zr12, rfl, h⟩ := h
          simp only [Option.toList_some, Option.toList_none, List.cons_append, List.nil_append]
          refine i_if_ne 80 38 rfl (by decide) (fun c => ?_) (fun c => ?_)
          · replace h := h.1 c
            replace h := h _ rfl
            refine i_iinc 42 rfl rfl (by decide) rfl ?_
            refine i_goto 17 43 rfl (by decide) ?_
            refine i_weak ?_ h
            exact (And.intro (Or.inr rfl) (And.intro (Or.inr rfl) (And.intro (Or.inr rfl) (And.intro (Or.inl rfl) trivial))))
          · replace h := h.2 c
            refine i_aload_n 39 rfl rfl (by decide) ?_
            refine i_iload_n 40 rfl rfl ?_
            refine i_callV (c := 4) (y1 := m_X4_insert) (z1 := (2, 0, 0)) (z2 := (4, 0, 0)) [(0, zr9)] 41 rfl ml_465 ok_X4_insert vk_X4_insert ⟨by decide, rfl⟩ rfl ⟨rfl, Nat.le_of_ble_eq_true rfl⟩ (Nat.le_of_ble_eq_true rfl) ⟨by decide, rfl, rfl, rfl⟩ ?_
            refine h.mono (fun r zM14 h => ?_)
            obtain ⟨rfl, h⟩ := h
            simp only [Option.toList_some, Option.toList_none, List.cons_append, List.nil_append]
            replace h := h _ rfl
            refine i_iinc 42 rfl rfl (by decide) rfl ?_
            refine i_goto 17 43 rfl (by decide) ?_
            refine i_weak ?_ h
            exact (And.intro (Or.inr rfl) (And.intro (Or.inr rfl) (And.intro (Or.inr rfl) (And.intro (Or.inl rfl) trivial))))
theorem u_X1_setKind_0 {l : Launch} {E : xE} (a0 a1 : Int) {M : xM} {Q : Option xV → xM → Prop} (h : ∀ zM1 : xM, zM1 = x_wr M a0 0 (x_w (a1.tdiv 10)) → ∀ zM2 : xM, zM2 = x_wr zM1 a0 1 (a1.tmod 10) → Q none zM2) : x_Ev l E (1, 0, 0) m_X1_setKind 0 [(11, a0), (0, a1)] [] M Q := by
  refine i_aload_n 0 rfl rfl (by decide) ?_
  refine i_iload_n 1 rfl rfl ?_
  refine i_bipush 2 rfl (by decide) ?_
  refine i_idiv 3 rfl (by decide) ?_
  replace h := h _ rfl
  refine i_putI (c := 1) (k := 0) 4 rfl fl_60 (by decide) ⟨rfl, rfl, rfl⟩ ?_
  refine i_aload_n 5 rfl rfl (by decide) ?_
  refine i_iload_n 6 rfl rfl ?_
  refine i_bipush 7 rfl (by decide) ?_
  refine i_irem 8 rfl (by decide) ?_
  replace h := h _ rfl
  refine i_putI (c := 1) (k := 1) 9 rfl fl_63 (by decide) ⟨rfl, rfl, rfl⟩ ?_
  exact i_return 10 rfl rfl h
theorem u_X3_bestPlansOf_0 {l : Launch} {E : xE} (a1 : Int) {M : xM} {Q : Option xV → xM → Prop} (h : ((0 : Int) ≤ a1 ∧ (a1 : Int) < 3) ∧ x_Ev l E (3, 0, 0) m_X4_stand 0 [(14, (41 + 8 + 9 * a1)), (1, (M 7 0)), (5, 0), (1, (M 7 1)), (5, 0), (5, 0), (5, 0), (5, 0), (5, 0), (5, 0)] [] M (fun r zM1 => r = none ∧ ((0 : Int) ≤ a1 ∧ (a1 : Int) < 3) ∧ Q (some (0, (zM1 (41 + 8 + 9 * a1) 12))) zM1)) : x_Ev l E (4, 0, 0) m_X3_bestPlansOf 0 [(13, 40), (0, a1)] [] M Q := by
  refine i_aload_n 0 rfl rfl (by decide) ?_
  refine i_getP (c := 3) (k := 1) (t := 106) (b := 41) 1 rfl fl_254 (by decide) rfl (by decide) rfl ?_
  refine i_iload_n 2 rfl rfl ?_
  refine i_aald (τ := 6) (t := 14) (len := 3) (b := (41 + 8 + 9 * a1)) 3 rfl (by decide) rfl h.1.1 h.1.2 ?_
  replace h := h.2
  refine i_aload_n 4 rfl rfl (by decide) ?_
  refine i_getP (c := 3) (k := 0) (t := 19) (b := 6) 5 rfl fl_253 (by decide) rfl (by decide) rfl ?_
  refine i_getP (c := 9) (k := 5) (t := 12) (b := 7) 6 rfl fl_117 (by decide) rfl (by decide) rfl ?_
  refine i_getL (c := 2) (k := 0) 7 rfl fl_37 (by decide) rfl ?_
  refine i_aload_n 8 rfl rfl (by decide) ?_
  refine i_getP (c := 3) (k := 0) (t := 19) (b := 6) 9 rfl fl_253 (by decide) rfl (by decide) rfl ?_
  refine i_getP (c := 9) (k := 5) (t := 12) (b := 7) 10 rfl fl_117 (by decide) rfl (by decide) rfl ?_
  refine i_getL (c := 2) (k := 1) 11 rfl fl_44 (by decide) rfl ?_
  refine i_callV (c := 4) (y1 := m_X4_stand) (z1 := (3, 0, 0)) (z2 := (4, 0, 0)) [(1, (M 7 0)), (1, (M 7 1))] 12 rfl ml_501 ok_X4_stand vk_X4_stand ⟨by decide, rfl⟩ rfl ⟨rfl, Nat.le_of_ble_eq_true rfl⟩ (Nat.le_of_ble_eq_true rfl) ⟨by decide, rfl, rfl, rfl⟩ ?_
  refine h.mono (fun r zM1 h => ?_)
  obtain ⟨rfl, h⟩ := h
  simp only [Option.toList_some, Option.toList_none, List.cons_append, List.nil_append]
  refine i_aload_n 13 rfl rfl (by decide) ?_
  refine i_getP (c := 3) (k := 1) (t := 106) (b := 41) 14 rfl fl_254 (by decide) rfl (by decide) rfl ?_
  refine i_iload_n 15 rfl rfl ?_
  refine i_aald (τ := 6) (t := 14) (len := 3) (b := (41 + 8 + 9 * a1)) 16 rfl (by decide) rfl h.1.1 h.1.2 ?_
  replace h := h.2
  refine i_getI (c := 4) (k := 12) 17 rfl fl_224 (by decide) (by decide) ?_
  exact i_ireturn 18 rfl rfl h
theorem u_X3_answerOf_0 {l : Launch} {E : xE} (a1 : Int) {M : xM} {Q : Option xV → xM → Prop} (h : ((0 : Int) ≤ a1 ∧ (a1 : Int) < 3) ∧ x_Ev l E (3, 0, 0) m_X4_stand 0 [(14, (41 + 8 + 9 * a1)), (1, (M 7 0)), (5, 0), (1, (M 7 1)), (5, 0), (5, 0), (5, 0), (5, 0), (5, 0), (5, 0)] [] M (fun r zM1 => r = none ∧ ((0 : Int) ≤ a1 ∧ (a1 : Int) < 3) ∧ x_Ev l E (3, 0, 0) m_X4_choose 0 [(14, (41 + 8 + 9 * a1)), (0, 0), (5, 0), (5, 0)] [] zM1 (fun r zM2 => ∃ zr3, r = some (0, zr3) ∧ Q (some (0, zr3)) zM2))) : x_Ev l E (4, 0, 0) m_X3_answerOf 0 [(13, 40), (0, a1)] [] M Q := by
  refine i_aload_n 0 rfl rfl (by decide) ?_
  refine i_getP (c := 3) (k := 1) (t := 106) (b := 41) 1 rfl fl_254 (by decide) rfl (by decide) rfl ?_
  refine i_iload_n 2 rfl rfl ?_
  refine i_aald (τ := 6) (t := 14) (len := 3) (b := (41 + 8 + 9 * a1)) 3 rfl (by decide) rfl h.1.1 h.1.2 ?_
  replace h := h.2
  refine i_aload_n 4 rfl rfl (by decide) ?_
  refine i_getP (c := 3) (k := 0) (t := 19) (b := 6) 5 rfl fl_253 (by decide) rfl (by decide) rfl ?_
  refine i_getP (c := 9) (k := 5) (t := 12) (b := 7) 6 rfl fl_117 (by decide) rfl (by decide) rfl ?_
  refine i_getL (c := 2) (k := 0) 7 rfl fl_37 (by decide) rfl ?_
  refine i_aload_n 8 rfl rfl (by decide) ?_
  refine i_getP (c := 3) (k := 0) (t := 19) (b := 6) 9 rfl fl_253 (by decide) rfl (by decide) rfl ?_
  refine i_getP (c := 9) (k := 5) (t := 12) (b := 7) 10 rfl fl_117 (by decide) rfl (by decide) rfl ?_
  refine i_getL (c := 2) (k := 1) 11 rfl fl_44 (by decide) rfl ?_
  refine i_callV (c := 4) (y1 := m_X4_stand) (z1 := (3, 0, 0)) (z2 := (4, 0, 0)) [(1, (M 7 0)), (1, (M 7 1))] 12 rfl ml_501 ok_X4_stand vk_X4_stand ⟨by decide, rfl⟩ rfl ⟨rfl, Nat.le_of_ble_eq_true rfl⟩ (Nat.le_of_ble_eq_true rfl) ⟨by decide, rfl, rfl, rfl⟩ ?_
  refine h.mono (fun r zM1 h => ?_)
  obtain ⟨rfl, h⟩ := h
  simp only [Option.toList_some, Option.toList_none, List.cons_append, List.nil_append]
  refine i_aload_n 13 rfl rfl (by decide) ?_
  refine i_getP (c := 3) (k := 1) (t := 106) (b := 41) 14 rfl fl_254 (by decide) rfl (by decide) rfl ?_
  refine i_iload_n 15 rfl rfl ?_
  refine i_aald (τ := 6) (t := 14) (len := 3) (b := (41 + 8 + 9 * a1)) 16 rfl (by decide) rfl h.1.1 h.1.2 ?_
  replace h := h.2
  refine i_iconst 17 rfl (by decide) ?_
  refine i_callV (c := 4) (y1 := m_X4_choose) (z1 := (3, 0, 0)) (z2 := (4, 0, 0)) [(0, 0)] 18 rfl ml_520 ok_X4_choose vk_X4_choose ⟨by decide, rfl⟩ rfl ⟨rfl, Nat.le_of_ble_eq_true rfl⟩ (Nat.le_of_ble_eq_true rfl) ⟨by decide, rfl, rfl, rfl⟩ ?_
  refine h.mono (fun r zM2 h => ?_)
  obtain ⟨zr3, rfl, h⟩ := h
  simp only [Option.toList_some, Option.toList_none, List.cons_append, List.nil_append]
  exact i_ireturn 19 rfl rfl h
theorem u_X4_sumUp_0 {l : Launch} {E : xE} (a0 : Int) {M : xM} {Q : Option xV → xM → Prop} (h : x_Ev l E (2, 0, 0) m_X4_sumUp 2 [(14, a0), (0, 0)] [] M Q) : x_Ev l E (2, 0, 0) m_X4_sumUp 0 [(14, a0), (5, 0)] [] M Q := by
  refine i_iconst 0 rfl (by decide) ?_
  refine i_istore_n 1 rfl (by decide) rfl ?_
  exact h
theorem u_X4_sumUp_2 {l : Launch} {E : xE} (l0 l1 : Int) {M : xM} {Q : Option xV → xM → Prop} (h : ((M l0 2) ≤ l1 → Q none M) ∧ (¬ (M l0 2) ≤ l1 → x_Ev l E (1, 0, 0) m_X4_sumOf 0 [(14, l0), (0, l1), (0, 0), (5, 0), (5, 0), (5, 0)] [] M (fun r zM1 => ∃ zr2, r = some (1, zr2) ∧ (0 ≤ l1 ∧ l1 < 10) ∧ ∀ zM3 : xM, zM3 = x_wr zM1 (l0 + 4) l1 zr2 → x_Ev l E (1, 0, 0) m_X4_sumOf 0 [(14, l0), (0, l1), (0, 1), (5, 0), (5, 0), (5, 0)] [] zM3 (fun r zM4 => ∃ zr5, r = some (1, zr5) ∧ (0 ≤ l1 ∧ l1 < 10) ∧ ∀ zM6 : xM, zM6 = x_wr zM4 (l0 + 5) l1 zr5 → x_Ev l E (1, 0, 0) m_X4_sumOf 0 [(14, l0), (0, l1), (0, 2), (5, 0), (5, 0), (5, 0)] [] zM6 (fun r zM7 => ∃ zr8, r = some (1, zr8) ∧ (0 ≤ l1 ∧ l1 < 10) ∧ ∀ zM9 : xM, zM9 = x_wr zM7 (l0 + 6) l1 zr8 → ∀ zv10 : Int, zv10 = x_w (l1 + 1) → x_Ev l E (2, 0, 0) m_X4_sumUp 2 [(14, l0), (0, zv10)] [] zM9 Q))))) : x_Ev l E (2, 0, 0) m_X4_sumUp 2 [(14, l0), (0, l1)] [] M Q := by
  refine i_iload_n 2 rfl rfl ?_
  refine i_aload_n 3 rfl rfl (by decide) ?_
  refine i_getI (c := 4) (k := 2) 4 rfl fl_205 (by decide) (by decide) ?_
  refine i_icmp_ge 52 5 rfl (by decide) (fun c => ?_) (fun c => ?_)
  · replace h := h.1 c
    exact i_return 32 rfl rfl h
  · replace h := h.2 c
    refine i_aload_n 6 rfl rfl (by decide) ?_
    refine i_getP (c := 4) (k := 6) (t := 109) (b := (l0 + 4)) 7 rfl fl_214 (by decide) rfl (by decide) rfl ?_
    refine i_iload_n 8 rfl rfl ?_
    refine i_aload_n 9 rfl rfl (by decide) ?_
    refine i_iload_n 10 rfl rfl ?_
    refine i_iconst 11 rfl (by decide) ?_
    refine i_callV (c := 4) (y1 := m_X4_sumOf) (z1 := (1, 0, 0)) (z2 := (2, 0, 0)) [(0, l1), (0, 0)] 12 rfl ml_480 ok_X4_sumOf vk_X4_sumOf ⟨by decide, rfl⟩ rfl ⟨rfl, Nat.le_of_ble_eq_true rfl⟩ (Nat.le_of_ble_eq_true rfl) ⟨by decide, rfl, rfl, rfl⟩ ?_
    refine h.mono (fun r zM1 h => ?_)
    obtain ⟨zr2, rfl, h⟩ := h
    simp only [Option.toList_some, Option.toList_none, List.cons_append, List.nil_append]
    have hb := h.1
    replace h := h.2 _ rfl
    refine i_last (τ := 9) 13 rfl ⟨rfl, rfl, rfl, by decide⟩ hb.1 hb.2 ?_
    refine i_aload_n 14 rfl rfl (by decide) ?_
    refine i_getP (c := 4) (k := 7) (t := 109) (b := (l0 + 5)) 15 rfl fl_215 (by decide) rfl (by decide) rfl ?_
    refine i_iload_n 16 rfl rfl ?_
    refine i_aload_n 17 rfl rfl (by decide) ?_
    refine i_iload_n 18 rfl rfl ?_
    refine i_iconst 19 rfl (by decide) ?_
    refine i_callV (c := 4) (y1 := m_X4_sumOf) (z1 := (1, 0, 0)) (z2 := (2, 0, 0)) [(0, l1), (0, 1)] 20 rfl ml_480 ok_X4_sumOf vk_X4_sumOf ⟨by decide, rfl⟩ rfl ⟨rfl, Nat.le_of_ble_eq_true rfl⟩ (Nat.le_of_ble_eq_true rfl) ⟨by decide, rfl, rfl, rfl⟩ ?_
    refine h.mono (fun r zM4 h => ?_)
    obtain ⟨zr5, rfl, h⟩ := h
    simp only [Option.toList_some, Option.toList_none, List.cons_append, List.nil_append]
    have hb := h.1
    replace h := h.2 _ rfl
    refine i_last (τ := 9) 21 rfl ⟨rfl, rfl, rfl, by decide⟩ hb.1 hb.2 ?_
    refine i_aload_n 22 rfl rfl (by decide) ?_
    refine i_getP (c := 4) (k := 8) (t := 109) (b := (l0 + 6)) 23 rfl fl_217 (by decide) rfl (by decide) rfl ?_
    refine i_iload_n 24 rfl rfl ?_
    refine i_aload_n 25 rfl rfl (by decide) ?_
    refine i_iload_n 26 rfl rfl ?_
    refine i_iconst 27 rfl (by decide) ?_
    refine i_callV (c := 4) (y1 := m_X4_sumOf) (z1 := (1, 0, 0)) (z2 := (2, 0, 0)) [(0, l1), (0, 2)] 28 rfl ml_480 ok_X4_sumOf vk_X4_sumOf ⟨by decide, rfl⟩ rfl ⟨rfl, Nat.le_of_ble_eq_true rfl⟩ (Nat.le_of_ble_eq_true rfl) ⟨by decide, rfl, rfl, rfl⟩ ?_
    refine h.mono (fun r zM7 h => ?_)
    obtain ⟨zr8, rfl, h⟩ := h
    simp only [Option.toList_some, Option.toList_none, List.cons_append, List.nil_append]
    have hb := h.1
    replace h := h.2 _ rfl
    refine i_last (τ := 9) 29 rfl ⟨rfl, rfl, rfl, by decide⟩ hb.1 hb.2 ?_
    replace h := h _ rfl
    refine i_iinc 30 rfl rfl (by decide) rfl ?_
    refine i_goto 2 31 rfl (by decide) ?_
    exact h
theorem u_X1_fillRow_0 {l : Launch} {E : xE} (a0 a1 a2 a3 a4 a5 : Int) {M : xM} {Q : Option xV → xM → Prop} (h : x_Ev l E (1, 0, 0) m_X1_fillRow 6 [(11, a0), (0, a1), (0, a2), (0, a3), (0, a4), (0, a5), (0, a2), (0, 2)] [] M Q) : x_Ev l E (1, 0, 0) m_X1_fillRow 0 [(11, a0), (0, a1), (0, a2), (0, a3), (0, a4), (0, a5), (5, 0), (5, 0)] [] M Q := by
  refine i_iload_n 0 rfl rfl ?_
  refine i_istore 1 rfl (by decide) rfl ?_
  refine i_iconst 2 rfl (by decide) ?_
  refine i_istore 3 rfl (by decide) rfl ?_
  exact h
theorem u_X1_fillRow_6 {l : Launch} {E : xE} (l0 l1 l2 l3 l4 l5 l6 l7 : Int) {M : xM} {Q : Option xV → xM → Prop} (h : (l7 < 0 → (0 ≤ l1 ∧ l1 < 4) ∧ ∀ zM1 : xM, zM1 = x_wr M (l0 + 3) l1 l5 → Q none zM1) ∧ (¬ l7 < 0 → (l3 ≤ 0 → (0 ≤ l1 ∧ l1 < 4) ∧ ∀ zM2 : xM, zM2 = x_wr M (l0 + 3) l1 l5 → Q none zM2) ∧ (¬ l3 ≤ 0 → (l3 ≠ 0) ∧ (0 ≤ (x_w ((x_w (l1 * 3)) + l7)) ∧ (x_w ((x_w (l1 * 3)) + l7)) < 12) ∧ ∀ zM3 : xM, zM3 = x_wr M (l0 + 2) (x_w ((x_w (l1 * 3)) + l7)) (x_w ((l6.tmod l3) + l4)) → (l3 ≠ 0) ∧ ∀ zv4 : Int, zv4 = (x_w (l6.tdiv l3)) → ∀ zv5 : Int, zv5 = x_w (l7 + (-1)) → x_Ev l E (1, 0, 0) m_X1_fillRow 6 [(11, l0), (0, l1), (0, l2), (0, l3), (0, l4), (0, l5), (0, zv4), (0, zv5)] [] zM3 Q))) : x_Ev l E (1, 0, 0) m_X1_fillRow 6 [(11, l0), (0, l1), (0, l2), (0, l3), (0, l4), (0, l5), (0, l6), (0, l7)] [] M Q := by
  refine i_iload 4 rfl rfl ?_
  refine i_if_lt 45 5 rfl (by decide) (fun c => ?_) (fun c => ?_)
  · replace h := h.1 c
    refine i_aload_n 27 rfl rfl (by decide) ?_
    refine i_getP (c := 1) (k := 6) (t := 103) (b := (l0 + 3)) 28 rfl fl_82 (by decide) rfl (by decide) rfl ?_
    refine i_iload_n 29 rfl rfl ?_
    refine i_iload 30 rfl rfl ?_
    have hb := h.1
    replace h := h.2 _ rfl
    refine i_iast (τ := 3) 31 rfl ⟨rfl, rfl, rfl, by decide⟩ hb.1 hb.2 ?_
    exact i_return 32 rfl rfl h
  · replace h := h.2 c
    refine i_iload_n 6 rfl rfl ?_
    refine i_if_le 45 7 rfl (by decide) (fun c => ?_) (fun c => ?_)
    · replace h := h.1 c
      refine i_aload_n 27 rfl rfl (by decide) ?_
      refine i_getP (c := 1) (k := 6) (t := 103) (b := (l0 + 3)) 28 rfl fl_82 (by decide) rfl (by decide) rfl ?_
      refine i_iload_n 29 rfl rfl ?_
      refine i_iload 30 rfl rfl ?_
      have hb := h.1
      replace h := h.2 _ rfl
      refine i_iast (τ := 3) 31 rfl ⟨rfl, rfl, rfl, by decide⟩ hb.1 hb.2 ?_
      exact i_return 32 rfl rfl h
    · replace h := h.2 c
      refine i_aload_n 8 rfl rfl (by decide) ?_
      refine i_getP (c := 1) (k := 5) (t := 102) (b := (l0 + 2)) 9 rfl fl_78 (by decide) rfl (by decide) rfl ?_
      refine i_iload_n 10 rfl rfl ?_
      refine i_iconst 11 rfl (by decide) ?_
      refine i_imul 12 rfl ?_
      refine i_iload 13 rfl rfl ?_
      refine i_iadd 14 rfl ?_
      refine i_iload 15 rfl rfl ?_
      refine i_iload_n 16 rfl rfl ?_
      refine i_irem 17 rfl h.1 ?_
      replace h := h.2
      refine i_iload 18 rfl rfl ?_
      refine i_iadd 19 rfl ?_
      have hb := h.1
      replace h := h.2 _ rfl
      refine i_iast (τ := 2) 20 rfl ⟨rfl, rfl, rfl, by decide⟩ hb.1 hb.2 ?_
      refine i_iload 21 rfl rfl ?_
      refine i_iload_n 22 rfl rfl ?_
      refine i_idiv 23 rfl h.1 ?_
      replace h := h.2
      replace h := h _ rfl
      refine i_istore 24 rfl (by decide) rfl ?_
      replace h := h _ rfl
      refine i_iinc 25 rfl rfl (by decide) rfl ?_
      refine i_goto 6 26 rfl (by decide) ?_
      exact h
theorem u_X1_dropRow_0 {l : Launch} {E : xE} (a0 a1 : Int) {M : xM} {Q : Option xV → xM → Prop} (h : x_Ev l E (2, 0, 0) m_X1_dropRow 2 [(11, a0), (0, a1), (0, a1)] [] M Q) : x_Ev l E (2, 0, 0) m_X1_dropRow 0 [(11, a0), (0, a1), (5, 0)] [] M Q := by
  refine i_iload_n 0 rfl rfl ?_
  refine i_istore_n 1 rfl (by decide) rfl ?_
  exact h
theorem u_X1_dropRow_2 {l : Launch} {E : xE} (l0 l1 l2 : Int) {M : xM} {Q : Option xV → xM → Prop} (h : ((x_w ((M l0 3) - 1)) ≤ l2 → ∀ zM1 : xM, zM1 = x_wr M l0 3 (x_w ((M l0 3) - 1)) → Q none zM1) ∧ (¬ (x_w ((M l0 3) - 1)) ≤ l2 → (((0 : Int) ≤ (x_w ((x_w (l2 + 1)) * 3)) ∧ (0 : Int) ≤ (x_w (l2 * 3)) ∧ (0 : Int) ≤ 3) ∧ ((x_w ((x_w (l2 + 1)) * 3)) : Int) + 3 ≤ 12 ∧ ((x_w (l2 * 3)) : Int) + 3 ≤ 12) ∧ ∀ zM2 : xM, zM2 = x_cpy M (l0 + 2) (x_w ((x_w (l2 + 1)) * 3)) (l0 + 2) (x_w (l2 * 3)) 3 → ((0 : Int) ≤ (x_w (l2 + 1)) ∧ ((x_w (l2 + 1)) : Int) < 4) ∧ (0 ≤ l2 ∧ l2 < 4) ∧ ∀ zM3 : xM, zM3 = x_wr zM2 (l0 + 3) l2 (zM2 (l0 + 3) (x_w (l2 + 1))) → ∀ zv4 : Int, zv4 = x_w (l2 + 1) → x_Ev l E (2, 0, 0) m_X1_dropRow 2 [(11, l0), (0, l1), (0, zv4)] [] zM3 Q)) : x_Ev l E (2, 0, 0) m_X1_dropRow 2 [(11, l0), (0, l1), (0, l2)] [] M Q := by
  refine i_iload_n 2 rfl rfl ?_
  refine i_aload_n 3 rfl rfl (by decide) ?_
  refine i_getI (c := 1) (k := 3) 4 rfl fl_70 (by decide) (by decide) ?_
  refine i_iconst 5 rfl (by decide) ?_
  refine i_isub 6 rfl ?_
  refine i_icmp_ge 52 7 rfl (by decide) (fun c => ?_) (fun c => ?_)
  · replace h := h.1 c
    refine i_aload_n 34 rfl rfl (by decide) ?_
    refine i_dup 35 rfl (Nat.ne_of_beq_eq_false rfl) ?_
    refine i_getI (c := 1) (k := 3) 36 rfl fl_70 (by decide) (by decide) ?_
    refine i_iconst 37 rfl (by decide) ?_
    refine i_isub 38 rfl ?_
    replace h := h _ rfl
    refine i_putI (c := 1) (k := 3) 39 rfl fl_70 (by decide) ⟨rfl, rfl, rfl⟩ ?_
    exact i_return 40 rfl rfl h
  · replace h := h.2 c
    refine i_aload_n 8 rfl rfl (by decide) ?_
    refine i_getP (c := 1) (k := 5) (t := 102) (b := (l0 + 2)) 9 rfl fl_78 (by decide) rfl (by decide) rfl ?_
    refine i_iload_n 10 rfl rfl ?_
    refine i_iconst 11 rfl (by decide) ?_
    refine i_iadd 12 rfl ?_
    refine i_iconst 13 rfl (by decide) ?_
    refine i_imul 14 rfl ?_
    refine i_aload_n 15 rfl rfl (by decide) ?_
    refine i_getP (c := 1) (k := 5) (t := 102) (b := (l0 + 2)) 16 rfl fl_78 (by decide) rfl (by decide) rfl ?_
    refine i_iload_n 17 rfl rfl ?_
    refine i_iconst 18 rfl (by decide) ?_
    refine i_imul 19 rfl ?_
    refine i_iconst 20 rfl (by decide) ?_
    have hb := h.1
    replace h := h.2 _ rfl
    refine i_copy 21 rfl ml_578 cpw (by decide) hb.1.1 hb.1.2.1 hb.1.2.2 hb.2.1 hb.2.2 (Nat.le_of_ble_eq_true rfl) (by decide) ?_
    refine i_aload_n 22 rfl rfl (by decide) ?_
    refine i_getP (c := 1) (k := 6) (t := 103) (b := (l0 + 3)) 23 rfl fl_82 (by decide) rfl (by decide) rfl ?_
    refine i_iload_n 24 rfl rfl ?_
    refine i_aload_n 25 rfl rfl (by decide) ?_
    refine i_getP (c := 1) (k := 6) (t := 103) (b := (l0 + 3)) 26 rfl fl_82 (by decide) rfl (by decide) rfl ?_
    refine i_iload_n 27 rfl rfl ?_
    refine i_iconst 28 rfl (by decide) ?_
    refine i_iadd 29 rfl ?_
    refine i_iald (τ := 3) 30 rfl ⟨rfl, rfl, rfl, by decide⟩ h.1.1 h.1.2 ?_
    replace h := h.2
    have hb := h.1
    replace h := h.2 _ rfl
    refine i_iast (τ := 3) 31 rfl ⟨rfl, rfl, rfl, by decide⟩ hb.1 hb.2 ?_
    replace h := h _ rfl
    refine i_iinc 32 rfl rfl (by decide) rfl ?_
    refine i_goto 2 33 rfl (by decide) ?_
    exact h
theorem u_X2_put_0 {l : Launch} {E : xE} (a0 a1 a2 : Int) {M : xM} {Q : Option xV → xM → Prop} (h : x_Ev l E (1, 0, 0) m_X2_commonDivisor 0 [(1, a1), (5, 0), (1, a2), (5, 0), (5, 0), (5, 0), (5, 0), (5, 0), (5, 0), (5, 0), (5, 0)] [] M (fun r zM1 => ∃ zr2, r = some (1, zr2) ∧ (zr2 ≤ 0 → Q none zM1) ∧ (¬ zr2 ≤ 0 → (zr2 ≠ 0) ∧ ∀ zM3 : xM, zM3 = x_wr zM1 a0 0 (x_W (a1.tdiv zr2)) → (zr2 ≠ 0) ∧ ∀ zM4 : xM, zM4 = x_wr zM3 a0 1 (x_W (a2.tdiv zr2)) → Q none zM4))) : x_Ev l E (2, 0, 0) m_X2_put 0 [(12, a0), (1, a1), (5, 0), (1, a2), (5, 0), (5, 0), (5, 0)] [] M Q := by
  refine i_lload_n 0 rfl rfl ?_
  refine i_lload_n 1 rfl rfl ?_
  refine i_callS (y1 := m_X2_commonDivisor) (z1 := (1, 0, 0)) (z2 := (2, 0, 0)) [(1, a1), (1, a2)] 2 rfl ml_596 ok_X2_commonDivisor vk_X2_commonDivisor rfl ⟨rfl, Nat.le_of_ble_eq_true rfl⟩ (Nat.le_of_ble_eq_true rfl) ⟨by decide, rfl, rfl, rfl⟩ ?_
  refine h.mono (fun r zM1 h => ?_)
  obtain ⟨zr2, rfl, h⟩ := h
  simp only [Option.toList_some, Option.toList_none, List.cons_append, List.nil_append]
  refine i_lstore 3 rfl (by decide) rfl ?_
  refine i_lload 4 rfl rfl ?_
  refine i_lconst (w := 0) 5 rfl (by decide) ?_
  refine i_lcmp_le 30 6 rfl rfl (by decide) (fun c => ?_) (fun c => ?_)
  · replace h := h.1 c
    exact i_return 18 rfl rfl h
  · replace h := h.2 c
    refine i_aload_n 8 rfl rfl (by decide) ?_
    refine i_lload_n 9 rfl rfl ?_
    refine i_lload 10 rfl rfl ?_
    refine i_ldiv 11 rfl h.1 ?_
    replace h := h.2
    replace h := h _ rfl
    refine i_putL (c := 2) (k := 0) 12 rfl fl_38 (by decide) ⟨rfl, rfl, rfl⟩ ?_
    refine i_aload_n 13 rfl rfl (by decide) ?_
    refine i_lload_n 14 rfl rfl ?_
    refine i_lload 15 rfl rfl ?_
    refine i_ldiv 16 rfl h.1 ?_
    replace h := h.2
    replace h := h _ rfl
    refine i_putL (c := 2) (k := 1) 17 rfl fl_42 (by decide) ⟨rfl, rfl, rfl⟩ ?_
    exact i_return 18 rfl rfl h
theorem u_X2_side_0 {l : Launch} {E : xE} (a0 a1 : Int) {M : xM} {Q : Option xV → xM → Prop} (h : (¬ a1 = 0 → Q (some (1, (M a0 1))) M) ∧ (a1 = 0 → Q (some (1, (M a0 0))) M)) : x_Ev l E (1, 0, 0) m_X2_side 0 [(12, a0), (0, a1)] [] M Q := by
  refine i_iload_n 0 rfl rfl ?_
  refine i_if_ne 11 1 rfl (by decide) (fun c => ?_) (fun c => ?_)
  · replace h := h.1 c
    refine i_aload_n 5 rfl rfl (by decide) ?_
    refine i_getL (c := 2) (k := 1) 6 rfl fl_42 (by decide) rfl ?_
    exact i_lreturn 7 rfl rfl h
  · replace h := h.2 c
    refine i_aload_n 2 rfl rfl (by decide) ?_
    refine i_getL (c := 2) (k := 0) 3 rfl fl_38 (by decide) rfl ?_
    refine i_goto 15 4 rfl (by decide) ?_
    exact i_lreturn 7 rfl rfl h
theorem u_X3_standAll_0 {l : Launch} {E : xE} (a1 a2 : Int) {M : xM} {Q : Option xV → xM → Prop} (h : ∀ zM1 : xM, zM1 = x_wr M 40 7 a2 → x_Ev l E (4, 0, 0) m_X3_standAll 8 [(13, 40), (1, a1), (5, 0), (1, a2), (5, 0), (0, 0)] [] zM1 Q) : x_Ev l E (4, 0, 0) m_X3_standAll 0 [(13, 40), (1, a1), (5, 0), (1, a2), (5, 0), (5, 0)] [] M Q := by
  refine i_aload_n 0 rfl rfl (by decide) ?_
  refine i_lload_n 1 rfl rfl ?_
  replace h := h _ rfl
  refine i_putL (c := 3) (k := 7) 2 rfl fl_265 (by decide) ⟨rfl, rfl, rfl⟩ ?_
  refine i_iconst 3 rfl (by decide) ?_
  refine i_istore 4 rfl (by decide) rfl ?_
  exact h
theorem u_X3_standAll_8 {l : Launch} {E : xE} (l1 l3 l5 : Int) {M : xM} {Q : Option xV → xM → Prop} (h : ((M 6 0) ≤ l5 → Q none M) ∧ (¬ (M 6 0) ≤ l5 → ((0 : Int) ≤ l5 ∧ (l5 : Int) < 3) ∧ x_Ev l E (3, 0, 0) m_X4_stand 0 [(14, (41 + 8 + 9 * l5)), (1, l1), (5, 0), (1, l3), (5, 0), (5, 0), (5, 0), (5, 0), (5, 0), (5, 0)] [] M (fun r zM1 => r = none ∧ ∀ zv2 : Int, zv2 = x_w (l5 + 1) → x_Ev l E (4, 0, 0) m_X3_standAll 8 [(13, 40), (1, l1), (5, 0), (1, l3), (5, 0), (0, zv2)] [] zM1 Q))) : x_Ev l E (4, 0, 0) m_X3_standAll 8 [(13, 40), (1, l1), (5, 0), (1, l3), (5, 0), (0, l5)] [] M Q := by
  refine i_iload 5 rfl rfl ?_
  refine i_aload_n 6 rfl rfl (by decide) ?_
  refine i_getP (c := 3) (k := 0) (t := 19) (b := 6) 7 rfl fl_253 (by decide) rfl (by decide) rfl ?_
  refine i_getI (c := 9) (k := 0) 8 rfl fl_106 (by decide) (by decide) ?_
  refine i_icmp_ge 38 9 rfl (by decide) (fun c => ?_) (fun c => ?_)
  · replace h := h.1 c
    exact i_return 19 rfl rfl h
  · replace h := h.2 c
    refine i_aload_n 10 rfl rfl (by decide) ?_
    refine i_getP (c := 3) (k := 1) (t := 106) (b := 41) 11 rfl fl_254 (by decide) rfl (by decide) rfl ?_
    refine i_iload 12 rfl rfl ?_
    refine i_aald (τ := 6) (t := 14) (len := 3) (b := (41 + 8 + 9 * l5)) 13 rfl (by decide) rfl h.1.1 h.1.2 ?_
    replace h := h.2
    refine i_lload_n 14 rfl rfl ?_
    refine i_lload_n 15 rfl rfl ?_
    refine i_callV (c := 4) (y1 := m_X4_stand) (z1 := (3, 0, 0)) (z2 := (4, 0, 0)) [(1, l1), (1, l3)] 16 rfl ml_501 ok_X4_stand vk_X4_stand ⟨by decide, rfl⟩ rfl ⟨rfl, Nat.le_of_ble_eq_true rfl⟩ (Nat.le_of_ble_eq_true rfl) ⟨by decide, rfl, rfl, rfl⟩ ?_
    refine h.mono (fun r zM1 h => ?_)
    obtain ⟨rfl, h⟩ := h
    simp only [Option.toList_some, Option.toList_none, List.cons_append, List.nil_append]
    replace h := h _ rfl
    refine i_iinc 17 rfl rfl (by decide) rfl ?_
    refine i_goto 8 18 rfl (by decide) ?_
    exact h
theorem u_X3_addUp_0 {l : Launch} {E : xE} (a1 a2 a3 : Int) {M : xM} {Q : Option xV → xM → Prop} (h : x_Ev l E (4, 0, 0) m_X3_addUp 9 [(13, 40), (0, a1), (0, a2), (12, a3), (1, 0), (5, 0), (1, 1), (5, 0), (0, 0), (5, 0), (5, 0), (5, 0)] [] M Q) : x_Ev l E (4, 0, 0) m_X3_addUp 0 [(13, 40), (0, a1), (0, a2), (12, a3), (5, 0), (5, 0), (5, 0), (5, 0), (5, 0), (5, 0), (5, 0), (5, 0)] [] M Q := by
  refine i_lconst (w := 0) 0 rfl (by decide) ?_
  refine i_lstore 1 rfl (by decide) rfl ?_
  refine i_lconst (w := 1) 2 rfl (by decide) ?_
  refine i_lstore 3 rfl (by decide) rfl ?_
  refine i_iconst 4 rfl (by decide) ?_
  refine i_istore 5 rfl (by decide) rfl ?_
  exact h
theorem u_X3_addUp_9 {l : Launch} {E : xE} (l1 l2 l3 l4 l6 l8 : Int) {M : xM} {Q : Option xV → xM → Prop} (h : ((M 6 0) ≤ l8 → (l1 = 0 → x_Ev l E (2, 0, 0) m_X2_put 0 [(12, l3), (1, l4), (5, 0), (1, l6), (5, 0), (5, 0), (5, 0)] [] M (fun r zM1 => r = none ∧ Q none zM1)) ∧ (¬ l1 = 0 → x_Ev l E (2, 0, 0) m_X2_put 0 [(12, l3), (1, l4), (5, 0), (1, (x_W (l6 * (M 40 7)))), (5, 0), (5, 0), (5, 0)] [] M (fun r zM2 => r = none ∧ Q none zM2))) ∧ (¬ (M 6 0) ≤ l8 → ((0 : Int) ≤ l8 ∧ (l8 : Int) < 3) ∧ x_Ev l E (3, 0, 0) m_X4_choose 0 [(14, (41 + 8 + 9 * l8)), (0, l2), (5, 0), (5, 0)] [] M (fun r zM3 => ∃ zr4, r = some (0, zr4) ∧ (zr4 < 0 → ∀ zv5 : Int, zv5 = x_w (l8 + 1) → x_Ev l E (4, 0, 0) m_X3_addUp 9 [(13, 40), (0, l1), (0, l2), (12, l3), (1, l4), (5, 0), (1, l6), (5, 0), (0, zv5), (5, 0), (5, 0), (5, 0)] [] zM3 Q) ∧ (¬ zr4 < 0 → (l1 = 0 → ((0 : Int) ≤ l8 ∧ (l8 : Int) < 3) ∧ ((0 : Int) ≤ zr4 ∧ (zr4 : Int) < 10) ∧ ∀ zv6 : Int, zv6 = (zM3 ((41 + 8 + 9 * l8) + 5) zr4) → ((0 : Int) ≤ l8 ∧ (l8 : Int) < 3) ∧ ((0 : Int) ≤ zr4 ∧ (zr4 : Int) < 10) ∧ ∀ zv7 : Int, zv7 = (x_W ((x_W (l4 * (zM3 ((41 + 8 + 9 * l8) + 2) zr4))) + (x_W (zv6 * l6)))) → ((0 : Int) ≤ l8 ∧ (l8 : Int) < 3) ∧ ((0 : Int) ≤ zr4 ∧ (zr4 : Int) < 10) ∧ ∀ zv8 : Int, zv8 = (x_W (l6 * (zM3 ((41 + 8 + 9 * l8) + 2) zr4))) → ∀ zv9 : Int, zv9 = x_w (l8 + 1) → x_Ev l E (4, 0, 0) m_X3_addUp 9 [(13, 40), (0, l1), (0, l2), (12, l3), (1, zv7), (5, 0), (1, zv8), (5, 0), (0, zv9), (5, 0), (5, 0), (5, 0)] [] zM3 Q) ∧ (¬ l1 = 0 → ((0 : Int) ≤ l8 ∧ (l8 : Int) < 3) ∧ ((0 : Int) ≤ zr4 ∧ (zr4 : Int) < 10) ∧ ∀ zv10 : Int, zv10 = (zM3 ((41 + 8 + 9 * l8) + 8) zr4) → ((0 : Int) ≤ l8 ∧ (l8 : Int) < 3) ∧ ((0 : Int) ≤ zr4 ∧ (zr4 : Int) < 10) ∧ ∀ zv11 : Int, zv11 = (x_W ((x_W (l4 * (zM3 ((41 + 8 + 9 * l8) + 2) zr4))) + (x_W (zv10 * l6)))) → ((0 : Int) ≤ l8 ∧ (l8 : Int) < 3) ∧ ((0 : Int) ≤ zr4 ∧ (zr4 : Int) < 10) ∧ ∀ zv12 : Int, zv12 = (x_W (l6 * (zM3 ((41 + 8 + 9 * l8) + 2) zr4))) → ∀ zv13 : Int, zv13 = x_w (l8 + 1) → x_Ev l E (4, 0, 0) m_X3_addUp 9 [(13, 40), (0, l1), (0, l2), (12, l3), (1, zv11), (5, 0), (1, zv12), (5, 0), (0, zv13), (5, 0), (5, 0), (5, 0)] [] zM3 Q))))) : x_Ev l E (4, 0, 0) m_X3_addUp 9 [(13, 40), (0, l1), (0, l2), (12, l3), (1, l4), (5, 0), (1, l6), (5, 0), (0, l8), (5, 0), (5, 0), (5, 0)] [] M Q := by
  refine i_iload 6 rfl rfl ?_
  refine i_aload_n 7 rfl rfl (by decide) ?_
  refine i_getP (c := 3) (k := 0) (t := 19) (b := 6) 8 rfl fl_253 (by decide) rfl (by decide) rfl ?_
  refine i_getI (c := 9) (k := 0) 9 rfl fl_106 (by decide) (by decide) ?_
  refine i_icmp_ge 122 10 rfl (by decide) (fun c => ?_) (fun c => ?_)
  · replace h := h.1 c
    refine i_aload_n 64 rfl rfl (by decide) ?_
    refine i_lload 65 rfl rfl ?_
    refine i_iload_n 66 rfl rfl ?_
    refine i_if_eq 139 67 rfl (by decide) (fun c => ?_) (fun c => ?_)
    · replace h := h.1 c
      refine i_lload 73 rfl rfl ?_
      refine i_callV (c := 2) (y1 := m_X2_put) (z1 := (2, 0, 0)) (z2 := (4, 0, 0)) [(1, l4), (1, l6)] 74 rfl ml_640 ok_X2_put vk_X2_put ⟨by decide, rfl⟩ rfl ⟨rfl, Nat.le_of_ble_eq_true rfl⟩ (Nat.le_of_ble_eq_true rfl) ⟨by decide, rfl, rfl, rfl⟩ ?_
      refine h.mono (fun r zM1 h => ?_)
      obtain ⟨rfl, h⟩ := h
      simp only [Option.toList_some, Option.toList_none, List.cons_append, List.nil_append]
      exact i_return 75 rfl rfl h
    · replace h := h.2 c
      refine i_lload 68 rfl rfl ?_
      refine i_aload_n 69 rfl rfl (by decide) ?_
      refine i_getL (c := 3) (k := 7) 70 rfl fl_265 (by decide) rfl ?_
      refine i_lmul 71 rfl ?_
      refine i_goto 141 72 rfl (by decide) ?_
      refine i_callV (c := 2) (y1 := m_X2_put) (z1 := (2, 0, 0)) (z2 := (4, 0, 0)) [(1, l4), (1, (x_W (l6 * (M 40 7))))] 74 rfl ml_640 ok_X2_put vk_X2_put ⟨by decide, rfl⟩ rfl ⟨rfl, Nat.le_of_ble_eq_true rfl⟩ (Nat.le_of_ble_eq_true rfl) ⟨by decide, rfl, rfl, rfl⟩ ?_
      refine h.mono (fun r zM2 h => ?_)
      obtain ⟨rfl, h⟩ := h
      simp only [Option.toList_some, Option.toList_none, List.cons_append, List.nil_append]
      exact i_return 75 rfl rfl h
  · replace h := h.2 c
    refine i_aload_n 11 rfl rfl (by decide) ?_
    refine i_getP (c := 3) (k := 1) (t := 106) (b := 41) 12 rfl fl_254 (by decide) rfl (by decide) rfl ?_
    refine i_iload 13 rfl rfl ?_
    refine i_aald (τ := 6) (t := 14) (len := 3) (b := (41 + 8 + 9 * l8)) 14 rfl (by decide) rfl h.1.1 h.1.2 ?_
    replace h := h.2
    refine i_iload_n 15 rfl rfl ?_
    refine i_callV (c := 4) (y1 := m_X4_choose) (z1 := (3, 0, 0)) (z2 := (4, 0, 0)) [(0, l2)] 16 rfl ml_520 ok_X4_choose vk_X4_choose ⟨by decide, rfl⟩ rfl ⟨rfl, Nat.le_of_ble_eq_true rfl⟩ (Nat.le_of_ble_eq_true rfl) ⟨by decide, rfl, rfl, rfl⟩ ?_
    refine h.mono (fun r zM3 h => ?_)
    obtain ⟨zr4, rfl, h⟩ := h
    simp only [Option.toList_some, Option.toList_none, List.cons_append, List.nil_append]
    refine i_istore 17 rfl (by decide) rfl ?_
    refine i_iload 18 rfl rfl ?_
    refine i_if_lt 116 19 rfl (by decide) (fun c => ?_) (fun c => ?_)
    · replace h := h.1 c
      replace h := h _ rfl
      refine i_iinc 62 rfl rfl (by decide) rfl ?_
      refine i_goto 9 63 rfl (by decide) ?_
      refine i_weak ?_ h
      exact (And.intro (Or.inr rfl) (And.intro (Or.inr rfl) (And.intro (Or.inr rfl) (And.intro (Or.inr rfl) (And.intro (Or.inr rfl) (And.intro (Or.inr rfl) (And.intro (Or.inr rfl) (And.intro (Or.inr rfl) (And.intro (Or.inr rfl) (And.intro (Or.inl rfl) (And.intro (Or.inr rfl) (And.intro (Or.inr rfl) trivial))))))))))))
    · replace h := h.2 c
      refine i_iload_n 20 rfl rfl ?_
      refine i_if_eq 59 21 rfl (by decide) (fun c => ?_) (fun c => ?_)
      · replace h := h.1 c
        refine i_aload_n 30 rfl rfl (by decide) ?_
        refine i_getP (c := 3) (k := 1) (t := 106) (b := 41) 31 rfl fl_254 (by decide) rfl (by decide) rfl ?_
        refine i_iload 32 rfl rfl ?_
        refine i_aald (τ := 6) (t := 14) (len := 3) (b := (41 + 8 + 9 * l8)) 33 rfl (by decide) rfl h.1.1 h.1.2 ?_
        replace h := h.2
        refine i_getP (c := 4) (k := 7) (t := 109) (b := ((41 + 8 + 9 * l8) + 5)) 34 rfl fl_216 (by decide) rfl (by decide) rfl ?_
        refine i_iload 35 rfl rfl ?_
        refine i_lald (τ := 9) 36 rfl ⟨rfl, rfl, rfl, by decide⟩ h.1.1 h.1.2 ?_
        replace h := h.2
        replace h := h _ rfl
        refine i_lstore 37 rfl (by decide) rfl ?_
        refine i_lload 38 rfl rfl ?_
        refine i_aload_n 39 rfl rfl (by decide) ?_
        refine i_getP (c := 3) (k := 1) (t := 106) (b := 41) 40 rfl fl_254 (by decide) rfl (by decide) rfl ?_
        refine i_iload 41 rfl rfl ?_
        refine i_aald (τ := 6) (t := 14) (len := 3) (b := (41 + 8 + 9 * l8)) 42 rfl (by decide) rfl h.1.1 h.1.2 ?_
        replace h := h.2
        refine i_getP (c := 4) (k := 4) (t := 109) (b := ((41 + 8 + 9 * l8) + 2)) 43 rfl fl_210 (by decide) rfl (by decide) rfl ?_
        refine i_iload 44 rfl rfl ?_
        refine i_lald (τ := 9) 45 rfl ⟨rfl, rfl, rfl, by decide⟩ h.1.1 h.1.2 ?_
        replace h := h.2
        refine i_lmul 46 rfl ?_
        refine i_lload 47 rfl rfl ?_
        refine i_lload 48 rfl rfl ?_
        refine i_lmul 49 rfl ?_
        refine i_ladd 50 rfl ?_
        replace h := h _ rfl
        refine i_lstore 51 rfl (by decide) rfl ?_
        refine i_lload 52 rfl rfl ?_
        refine i_aload_n 53 rfl rfl (by decide) ?_
        refine i_getP (c := 3) (k := 1) (t := 106) (b := 41) 54 rfl fl_254 (by decide) rfl (by decide) rfl ?_
        refine i_iload 55 rfl rfl ?_
        refine i_aald (τ := 6) (t := 14) (len := 3) (b := (41 + 8 + 9 * l8)) 56 rfl (by decide) rfl h.1.1 h.1.2 ?_
        replace h := h.2
        refine i_getP (c := 4) (k := 4) (t := 109) (b := ((41 + 8 + 9 * l8) + 2)) 57 rfl fl_210 (by decide) rfl (by decide) rfl ?_
        refine i_iload 58 rfl rfl ?_
        refine i_lald (τ := 9) 59 rfl ⟨rfl, rfl, rfl, by decide⟩ h.1.1 h.1.2 ?_
        replace h := h.2
        refine i_lmul 60 rfl ?_
        replace h := h _ rfl
        refine i_lstore 61 rfl (by decide) rfl ?_
        replace h := h _ rfl
        refine i_iinc 62 rfl rfl (by decide) rfl ?_
        refine i_goto 9 63 rfl (by decide) ?_
        refine i_weak ?_ h
        exact (And.intro (Or.inr rfl) (And.intro (Or.inr rfl) (And.intro (Or.inr rfl) (And.intro (Or.inr rfl) (And.intro (Or.inr rfl) (And.intro (Or.inr rfl) (And.intro (Or.inr rfl) (And.intro (Or.inr rfl) (And.intro (Or.inr rfl) (And.intro (Or.inl rfl) (And.intro (Or.inl rfl) (And.intro (Or.inr rfl) trivial))))))))))))
      · replace h := h.2 c
        refine i_aload_n 22 rfl rfl (by decide) ?_
        refine i_getP (c := 3) (k := 1) (t := 106) (b := 41) 23 rfl fl_254 (by decide) rfl (by decide) rfl ?_
        refine i_iload 24 rfl rfl ?_
        refine i_aald (τ := 6) (t := 14) (len := 3) (b := (41 + 8 + 9 * l8)) 25 rfl (by decide) rfl h.1.1 h.1.2 ?_
        replace h := h.2
        refine i_getP (c := 4) (k := 10) (t := 109) (b := ((41 + 8 + 9 * l8) + 8)) 26 rfl fl_221 (by decide) rfl (by decide) rfl ?_
        refine i_iload 27 rfl rfl ?_
        refine i_lald (τ := 9) 28 rfl ⟨rfl, rfl, rfl, by decide⟩ h.1.1 h.1.2 ?_
        replace h := h.2
        refine i_goto 72 29 rfl (by decide) ?_
        replace h := h _ rfl
        refine i_lstore 37 rfl (by decide) rfl ?_
        refine i_lload 38 rfl rfl ?_
        refine i_aload_n 39 rfl rfl (by decide) ?_
        refine i_getP (c := 3) (k := 1) (t := 106) (b := 41) 40 rfl fl_254 (by decide) rfl (by decide) rfl ?_
        refine i_iload 41 rfl rfl ?_
        refine i_aald (τ := 6) (t := 14) (len := 3) (b := (41 + 8 + 9 * l8)) 42 rfl (by decide) rfl h.1.1 h.1.2 ?_
        replace h := h.2
        refine i_getP (c := 4) (k := 4) (t := 109) (b := ((41 + 8 + 9 * l8) + 2)) 43 rfl fl_210 (by decide) rfl (by decide) rfl ?_
        refine i_iload 44 rfl rfl ?_
        refine i_lald (τ := 9) 45 rfl ⟨rfl, rfl, rfl, by decide⟩ h.1.1 h.1.2 ?_
        replace h := h.2
        refine i_lmul 46 rfl ?_
        refine i_lload 47 rfl rfl ?_
        refine i_lload 48 rfl rfl ?_
        refine i_lmul 49 rfl ?_
        refine i_ladd 50 rfl ?_
        replace h := h _ rfl
        refine i_lstore 51 rfl (by decide) rfl ?_
        refine i_lload 52 rfl rfl ?_
        refine i_aload_n 53 rfl rfl (by decide) ?_
        refine i_getP (c := 3) (k := 1) (t := 106) (b := 41) 54 rfl fl_254 (by decide) rfl (by decide) rfl ?_
        refine i_iload 55 rfl rfl ?_
        refine i_aald (τ := 6) (t := 14) (len := 3) (b := (41 + 8 + 9 * l8)) 56 rfl (by decide) rfl h.1.1 h.1.2 ?_
        replace h := h.2
        refine i_getP (c := 4) (k := 4) (t := 109) (b := ((41 + 8 + 9 * l8) + 2)) 57 rfl fl_210 (by decide) rfl (by decide) rfl ?_
        refine i_iload 58 rfl rfl ?_
        refine i_lald (τ := 9) 59 rfl ⟨rfl, rfl, rfl, by decide⟩ h.1.1 h.1.2 ?_
        replace h := h.2
        refine i_lmul 60 rfl ?_
        replace h := h _ rfl
        refine i_lstore 61 rfl (by decide) rfl ?_
        replace h := h _ rfl
        refine i_iinc 62 rfl rfl (by decide) rfl ?_
        refine i_goto 9 63 rfl (by decide) ?_
        refine i_weak ?_ h
        exact (And.intro (Or.inr rfl) (And.intro (Or.inr rfl) (And.intro (Or.inr rfl) (And.intro (Or.inr rfl) (And.intro (Or.inr rfl) (And.intro (Or.inr rfl) (And.intro (Or.inr rfl) (And.intro (Or.inr rfl) (And.intro (Or.inr rfl) (And.intro (Or.inl rfl) (And.intro (Or.inl rfl) (And.intro (Or.inr rfl) trivial))))))))))))
theorem u_X1_pairs_0 {l : Launch} {E : xE} (a0 : Int) {M : xM} {Q : Option xV → xM → Prop} (h : Q (some (0, (x_w ((M a0 3) + (M a0 2))))) M) : x_Ev l E (1, 0, 0) m_X1_pairs 0 [(11, a0)] [] M Q := by
  refine i_aload_n 0 rfl rfl (by decide) ?_
  refine i_getI (c := 1) (k := 3) 1 rfl fl_70 (by decide) (by decide) ?_
  refine i_aload_n 2 rfl rfl (by decide) ?_
  refine i_getI (c := 1) (k := 2) 3 rfl fl_66 (by decide) (by decide) ?_
  refine i_iadd 4 rfl ?_
  exact i_ireturn 5 rfl rfl h
theorem u_X5_tellProof_0 {l : Launch} {E : xE} (a1 a2 : Int) {M : xM} {Q : Option xV → xM → Prop} (h : ((0 : Int) ≤ (x_w ((x_w ((M 76 3) * 4)) + a1)) ∧ ((x_w ((x_w ((M 76 3) * 4)) + a1)) : Int) < 140) ∧ ((0 : Int) ≤ (M 76 3) ∧ ((M 76 3) : Int) < 35) ∧ x_Ev l E (2, 0, 0) m_X2_put 0 [(12, a2), (1, (M 77 (x_w ((x_w ((M 76 3) * 4)) + a1)))), (5, 0), (1, (x_W ((M 78 (M 76 3)) * (M 76 4)))), (5, 0), (5, 0), (5, 0)] [] M (fun r zM1 => r = none ∧ Q none zM1)) : x_Ev l E (3, 0, 0) m_X5_tellProof 0 [(15, 76), (0, a1), (12, a2)] [] M Q := by
  refine i_aload_n 0 rfl rfl (by decide) ?_
  refine i_aload_n 1 rfl rfl (by decide) ?_
  refine i_getP (c := 5) (k := 5) (t := 111) (b := 77) 2 rfl fl_296 (by decide) rfl (by decide) rfl ?_
  refine i_aload_n 3 rfl rfl (by decide) ?_
  refine i_getI (c := 5) (k := 3) 4 rfl fl_294 (by decide) (by decide) ?_
  refine i_iconst 5 rfl (by decide) ?_
  refine i_imul 6 rfl ?_
  refine i_iload_n 7 rfl rfl ?_
  refine i_iadd 8 rfl ?_
  refine i_lald (τ := 11) 9 rfl ⟨rfl, rfl, rfl, by decide⟩ h.1.1 h.1.2 ?_
  replace h := h.2
  refine i_aload_n 10 rfl rfl (by decide) ?_
  refine i_getP (c := 5) (k := 6) (t := 112) (b := 78) 11 rfl fl_297 (by decide) rfl (by decide) rfl ?_
  refine i_aload_n 12 rfl rfl (by decide) ?_
  refine i_getI (c := 5) (k := 3) 13 rfl fl_294 (by decide) (by decide) ?_
  refine i_lald (τ := 12) 14 rfl ⟨rfl, rfl, rfl, by decide⟩ h.1.1 h.1.2 ?_
  replace h := h.2
  refine i_aload_n 15 rfl rfl (by decide) ?_
  refine i_getL (c := 5) (k := 4) 16 rfl fl_295 (by decide) rfl ?_
  refine i_lmul 17 rfl ?_
  refine i_callV (c := 2) (y1 := m_X2_put) (z1 := (2, 0, 0)) (z2 := (3, 0, 0)) [(1, (M 77 (x_w ((x_w ((M 76 3) * 4)) + a1)))), (1, (x_W ((M 78 (M 76 3)) * (M 76 4))))] 18 rfl ml_710 ok_X2_put vk_X2_put ⟨by decide, rfl⟩ rfl ⟨rfl, Nat.le_of_ble_eq_true rfl⟩ (Nat.le_of_ble_eq_true rfl) ⟨by decide, rfl, rfl, rfl⟩ ?_
  refine h.mono (fun r zM1 h => ?_)
  obtain ⟨rfl, h⟩ := h
  simp only [Option.toList_some, Option.toList_none, List.cons_append, List.nil_append]
  exact i_return 19 rfl rfl h
theorem u_X6_tellsPrices_0 {l : Launch} {E : xE} (a0 a1 : Int) {M : xM} {Q : Option xV → xM → Prop} (h : (0 ≤ a0) ∧ (0 ≤ M ((a0 + 1) - 1) 1 ∧ M ((a0 + 1) - 1) 1 < 2147483648) ∧ ((M ((a0 + 1) - 1) 1) < (x_w (a1 + 1)) → Q (some (0, 0)) M) ∧ (¬ (M ((a0 + 1) - 1) 1) < (x_w (a1 + 1)) → (0 ≤ a0) ∧ ((0 : Int) ≤ 0 ∧ (0 : Int) < M ((a0 + 1) - 1) 1) ∧ ((M (a0 + 1) 0) < 1 → Q (some (0, 0)) M) ∧ (¬ (M (a0 + 1) 0) < 1 → (0 ≤ a0) ∧ ((0 : Int) ≤ 0 ∧ (0 : Int) < M ((a0 + 1) - 1) 1) ∧ ((M (a0 + 1) 0) ≤ 1000000 → x_Ev l E (1, 0, 0) m_X6_tellsPrices 39 [(9, a0), (0, a1), (0, 1)] [] M Q) ∧ (¬ (M (a0 + 1) 0) ≤ 1000000 → Q (some (0, 0)) M)))) : x_Ev l E (1, 0, 0) m_X6_tellsPrices 0 [(9, a0), (0, a1), (5, 0)] [] M Q := by
  refine i_aload_n 0 rfl rfl (by decide) ?_
  refine i_rowP 1 rfl fl_954 h.1 ?_
  replace h := h.2
  refine i_alenR 2 rfl h.1 ?_
  replace h := h.2
  refine i_iload_n 3 rfl rfl ?_
  refine i_iconst 4 rfl (by decide) ?_
  refine i_iadd 5 rfl ?_
  refine i_icmp_lt 35 6 rfl (by decide) (fun c => ?_) (fun c => ?_)
  · replace h := h.1 c
    refine i_iconst 21 rfl (by decide) ?_
    exact i_zreturn 22 rfl rfl (by decide) h
  · replace h := h.2 c
    refine i_aload_n 7 rfl rfl (by decide) ?_
    refine i_rowP 8 rfl fl_954 h.1 ?_
    replace h := h.2
    refine i_iconst 9 rfl (by decide) ?_
    refine i_laldR 10 rfl h.1.1 h.1.2 ?_
    replace h := h.2
    refine i_lconst (w := 1) 11 rfl (by decide) ?_
    refine i_lcmp_lt 35 12 rfl rfl (by decide) (fun c => ?_) (fun c => ?_)
    · replace h := h.1 c
      refine i_iconst 21 rfl (by decide) ?_
      exact i_zreturn 22 rfl rfl (by decide) h
    · replace h := h.2 c
      refine i_aload_n 14 rfl rfl (by decide) ?_
      refine i_rowP 15 rfl fl_954 h.1 ?_
      replace h := h.2
      refine i_iconst 16 rfl (by decide) ?_
      refine i_laldR 17 rfl h.1.1 h.1.2 ?_
      replace h := h.2
      refine i_ldc2 (v := 1000000) 18 rfl cw_723 (by decide) ?_
      refine i_lcmp_le 37 19 rfl rfl (by decide) (fun c => ?_) (fun c => ?_)
      · replace h := h.1 c
        refine i_iconst 23 rfl (by decide) ?_
        refine i_istore_n 24 rfl (by decide) rfl ?_
        exact h
      · replace h := h.2 c
        refine i_iconst 21 rfl (by decide) ?_
        exact i_zreturn 22 rfl rfl (by decide) h
theorem u_X6_tellsPrices_39 {l : Launch} {E : xE} (l0 l1 l2 : Int) {M : xM} {Q : Option xV → xM → Prop} (h : (l1 < l2 → Q (some (0, 1)) M) ∧ (¬ l1 < l2 → (0 ≤ l0) ∧ ((0 : Int) ≤ l2 ∧ (l2 : Int) < M ((l0 + 1) - 1) 1) ∧ ((M (l0 + 1) l2) < 0 → Q (some (0, 0)) M) ∧ (¬ (M (l0 + 1) l2) < 0 → (0 ≤ l0) ∧ ((0 : Int) ≤ l2 ∧ (l2 : Int) < M ((l0 + 1) - 1) 1) ∧ ((M (l0 + 1) l2) ≤ 1000000000 → ∀ zv1 : Int, zv1 = x_w (l2 + 1) → x_Ev l E (1, 0, 0) m_X6_tellsPrices 39 [(9, l0), (0, l1), (0, zv1)] [] M Q) ∧ (¬ (M (l0 + 1) l2) ≤ 1000000000 → Q (some (0, 0)) M)))) : x_Ev l E (1, 0, 0) m_X6_tellsPrices 39 [(9, l0), (0, l1), (0, l2)] [] M Q := by
  refine i_iload_n 25 rfl rfl ?_
  refine i_iload_n 26 rfl rfl ?_
  refine i_icmp_gt 76 27 rfl (by decide) (fun c => ?_) (fun c => ?_)
  · replace h := h.1 c
    refine i_iconst 46 rfl (by decide) ?_
    exact i_zreturn 47 rfl rfl (by decide) h
  · replace h := h.2 c
    refine i_aload_n 28 rfl rfl (by decide) ?_
    refine i_rowP 29 rfl fl_954 h.1 ?_
    replace h := h.2
    refine i_iload_n 30 rfl rfl ?_
    refine i_laldR 31 rfl h.1.1 h.1.2 ?_
    replace h := h.2
    refine i_lconst (w := 0) 32 rfl (by decide) ?_
    refine i_lcmp_lt 68 33 rfl rfl (by decide) (fun c => ?_) (fun c => ?_)
    · replace h := h.1 c
      refine i_iconst 42 rfl (by decide) ?_
      exact i_zreturn 43 rfl rfl (by decide) h
    · replace h := h.2 c
      refine i_aload_n 35 rfl rfl (by decide) ?_
      refine i_rowP 36 rfl fl_954 h.1 ?_
      replace h := h.2
      refine i_iload_n 37 rfl rfl ?_
      refine i_laldR 38 rfl h.1.1 h.1.2 ?_
      replace h := h.2
      refine i_ldc2 (v := 1000000000) 39 rfl cw_724 (by decide) ?_
      refine i_lcmp_le 70 40 rfl rfl (by decide) (fun c => ?_) (fun c => ?_)
      · replace h := h.1 c
        replace h := h _ rfl
        refine i_iinc 44 rfl rfl (by decide) rfl ?_
        refine i_goto 39 45 rfl (by decide) ?_
        exact h
      · replace h := h.2 c
        refine i_iconst 42 rfl (by decide) ?_
        exact i_zreturn 43 rfl rfl (by decide) h
theorem u_X3_gatherBreaks_0 {l : Launch} {E : xE} (a1 a2 : Int) {M : xM} {Q : Option xV → xM → Prop} (h : ∀ zM1 : xM, zM1 = x_wr M 42 0 0 → x_Ev l E (5, 0, 0) m_X3_gatherBreaks 10 [(13, 40), (0, a1), (0, a2), (0, 0)] [] zM1 Q) : x_Ev l E (5, 0, 0) m_X3_gatherBreaks 0 [(13, 40), (0, a1), (0, a2), (5, 0)] [] M Q := by
  refine i_aload_n 0 rfl rfl (by decide) ?_
  refine i_getP (c := 3) (k := 2) (t := 10) (b := 42) 1 rfl fl_256 (by decide) rfl (by decide) rfl ?_
  refine i_iconst 2 rfl (by decide) ?_
  replace h := h _ rfl
  refine i_putI (c := 0) (k := 0) 3 rfl fl_178 (by decide) ⟨rfl, rfl, rfl⟩ ?_
  refine i_iconst 4 rfl (by decide) ?_
  refine i_istore_n 5 rfl (by decide) rfl ?_
  exact h
theorem u_X3_gatherBreaks_10 {l : Launch} {E : xE} (l1 l2 l3 : Int) {M : xM} {Q : Option xV → xM → Prop} (h : ((M 6 0) ≤ l3 → Q none M) ∧ (¬ (M 6 0) ≤ l3 → (l1 = (-1) → ((0 : Int) ≤ l3 ∧ (l3 : Int) < 3) ∧ x_Ev l E (4, 0, 0) m_X4_addBreaks 0 [(14, (41 + 8 + 9 * l3)), (0, l2), (10, 42), (5, 0), (5, 0), (5, 0), (5, 0), (5, 0), (5, 0), (5, 0), (5, 0), (5, 0)] [] M (fun r zM1 => r = none ∧ ∀ zv2 : Int, zv2 = x_w (l3 + 1) → x_Ev l E (5, 0, 0) m_X3_gatherBreaks 10 [(13, 40), (0, l1), (0, l2), (0, zv2)] [] zM1 Q)) ∧ (¬ l1 = (-1) → (¬ l1 = l3 → ∀ zv3 : Int, zv3 = x_w (l3 + 1) → x_Ev l E (5, 0, 0) m_X3_gatherBreaks 10 [(13, 40), (0, l1), (0, l2), (0, zv3)] [] M Q) ∧ (l1 = l3 → ((0 : Int) ≤ l3 ∧ (l3 : Int) < 3) ∧ x_Ev l E (4, 0, 0) m_X4_addBreaks 0 [(14, (41 + 8 + 9 * l3)), (0, l2), (10, 42), (5, 0), (5, 0), (5, 0), (5, 0), (5, 0), (5, 0), (5, 0), (5, 0), (5, 0)] [] M (fun r zM4 => r = none ∧ ∀ zv5 : Int, zv5 = x_w (l3 + 1) → x_Ev l E (5, 0, 0) m_X3_gatherBreaks 10 [(13, 40), (0, l1), (0, l2), (0, zv5)] [] zM4 Q))))) : x_Ev l E (5, 0, 0) m_X3_gatherBreaks 10 [(13, 40), (0, l1), (0, l2), (0, l3)] [] M Q := by
  refine i_iload_n 6 rfl rfl ?_
  refine i_aload_n 7 rfl rfl (by decide) ?_
  refine i_getP (c := 3) (k := 0) (t := 19) (b := 6) 8 rfl fl_253 (by decide) rfl (by decide) rfl ?_
  refine i_getI (c := 9) (k := 0) 9 rfl fl_106 (by decide) (by decide) ?_
  refine i_icmp_ge 51 10 rfl (by decide) (fun c => ?_) (fun c => ?_)
  · replace h := h.1 c
    exact i_return 27 rfl rfl h
  · replace h := h.2 c
    refine i_iload_n 11 rfl rfl ?_
    refine i_iconst 12 rfl (by decide) ?_
    refine i_icmp_eq 31 13 rfl (by decide) (fun c => ?_) (fun c => ?_)
    · replace h := h.1 c
      refine i_aload_n 17 rfl rfl (by decide) ?_
      refine i_getP (c := 3) (k := 1) (t := 106) (b := 41) 18 rfl fl_254 (by decide) rfl (by decide) rfl ?_
      refine i_iload_n 19 rfl rfl ?_
      refine i_aald (τ := 6) (t := 14) (len := 3) (b := (41 + 8 + 9 * l3)) 20 rfl (by decide) rfl h.1.1 h.1.2 ?_
      replace h := h.2
      refine i_iload_n 21 rfl rfl ?_
      refine i_aload_n 22 rfl rfl (by decide) ?_
      refine i_getP (c := 3) (k := 2) (t := 10) (b := 42) 23 rfl fl_256 (by decide) rfl (by decide) rfl ?_
      refine i_callV (c := 4) (y1 := m_X4_addBreaks) (z1 := (4, 0, 0)) (z2 := (5, 0, 0)) [(0, l2), (10, 42)] 24 rfl ml_750 ok_X4_addBreaks vk_X4_addBreaks ⟨by decide, rfl⟩ rfl ⟨rfl, Nat.le_of_ble_eq_true rfl⟩ (Nat.le_of_ble_eq_true rfl) ⟨by decide, rfl, rfl, rfl⟩ ?_
      refine h.mono (fun r zM1 h => ?_)
      obtain ⟨rfl, h⟩ := h
      simp only [Option.toList_some, Option.toList_none, List.cons_append, List.nil_append]
      replace h := h _ rfl
      refine i_iinc 25 rfl rfl (by decide) rfl ?_
      refine i_goto 10 26 rfl (by decide) ?_
      exact h
    · replace h := h.2 c
      refine i_iload_n 14 rfl rfl ?_
      refine i_iload_n 15 rfl rfl ?_
      refine i_icmp_ne 45 16 rfl (by decide) (fun c => ?_) (fun c => ?_)
      · replace h := h.1 c
        replace h := h _ rfl
        refine i_iinc 25 rfl rfl (by decide) rfl ?_
        refine i_goto 10 26 rfl (by decide) ?_
        exact h
      · replace h := h.2 c
        refine i_aload_n 17 rfl rfl (by decide) ?_
        refine i_getP (c := 3) (k := 1) (t := 106) (b := 41) 18 rfl fl_254 (by decide) rfl (by decide) rfl ?_
        refine i_iload_n 19 rfl rfl ?_
        refine i_aald (τ := 6) (t := 14) (len := 3) (b := (41 + 8 + 9 * l3)) 20 rfl (by decide) rfl h.1.1 h.1.2 ?_
        replace h := h.2
        refine i_iload_n 21 rfl rfl ?_
        refine i_aload_n 22 rfl rfl (by decide) ?_
        refine i_getP (c := 3) (k := 2) (t := 10) (b := 42) 23 rfl fl_256 (by decide) rfl (by decide) rfl ?_
        refine i_callV (c := 4) (y1 := m_X4_addBreaks) (z1 := (4, 0, 0)) (z2 := (5, 0, 0)) [(0, l2), (10, 42)] 24 rfl ml_750 ok_X4_addBreaks vk_X4_addBreaks ⟨by decide, rfl⟩ rfl ⟨rfl, Nat.le_of_ble_eq_true rfl⟩ (Nat.le_of_ble_eq_true rfl) ⟨by decide, rfl, rfl, rfl⟩ ?_
        refine h.mono (fun r zM4 h => ?_)
        obtain ⟨rfl, h⟩ := h
        simp only [Option.toList_some, Option.toList_none, List.cons_append, List.nil_append]
        replace h := h _ rfl
        refine i_iinc 25 rfl rfl (by decide) rfl ?_
        refine i_goto 10 26 rfl (by decide) ?_
        exact h
theorem u_X3_tellPiece_0 {l : Launch} {E : xE} (a1 a3 : Int) {M : xM} {Q : Option xV → xM → Prop} (h : (a1 < 0 → Q none M) ∧ (¬ a1 < 0 → ((M 42 0) < a1 → Q none M) ∧ (¬ (M 42 0) < a1 → (a3 < 0 → Q none M) ∧ (¬ a3 < 0 → ((x_w (a3 + 6)) ≤ 6 → (¬ a1 = 0 → ((0 : Int) ≤ (x_w (a1 - 1)) ∧ ((x_w (a1 - 1)) : Int) < 27) ∧ ((0 : Int) ≤ (x_w (a1 - 1)) ∧ ((x_w (a1 - 1)) : Int) < 27) ∧ x_Ev l E (4, 0, 0) m_X3_standAll 0 [(13, 40), (1, (M 43 (x_w (a1 - 1)))), (5, 0), (1, (M 44 (x_w (a1 - 1)))), (5, 0), (5, 0)] [] M (fun r zM1 => r = none ∧ x_Ev l E (4, 0, 0) m_X3_addUp 0 [(13, 40), (0, 0), (0, 2), (12, 48), (5, 0), (5, 0), (5, 0), (5, 0), (5, 0), (5, 0), (5, 0), (5, 0)] [] zM1 (fun r zM2 => r = none ∧ x_Ev l E (1, 0, 0) m_X3_putSum 0 [(13, 40), (118, 101), (0, a3)] [] zM2 (fun r zM3 => r = none ∧ x_Ev l E (4, 0, 0) m_X3_addUp 0 [(13, 40), (0, 1), (0, 2), (12, 48), (5, 0), (5, 0), (5, 0), (5, 0), (5, 0), (5, 0), (5, 0), (5, 0)] [] zM3 (fun r zM4 => r = none ∧ x_Ev l E (1, 0, 0) m_X3_putSum 0 [(13, 40), (118, 101), (0, (x_w (a3 + 2)))] [] zM4 (fun r zM5 => r = none ∧ (¬ a1 = (zM5 42 0) → ((0 : Int) ≤ a1 ∧ (a1 : Int) < 27) ∧ ((0 : Int) ≤ a1 ∧ (a1 : Int) < 27) ∧ x_Ev l E (4, 0, 0) m_X3_standAll 0 [(13, 40), (1, (zM5 43 a1)), (5, 0), (1, (zM5 44 a1)), (5, 0), (5, 0)] [] zM5 (fun r zM6 => r = none ∧ x_Ev l E (4, 0, 0) m_X3_addUp 0 [(13, 40), (0, 1), (0, 1), (12, 48), (5, 0), (5, 0), (5, 0), (5, 0), (5, 0), (5, 0), (5, 0), (5, 0)] [] zM6 (fun r zM7 => r = none ∧ x_Ev l E (1, 0, 0) m_X3_putSum 0 [(13, 40), (118, 101), (0, (x_w (a3 + 4)))] [] zM7 (fun r zM8 => r = none ∧ Q none zM8)))) ∧ (a1 = (zM5 42 0) → x_Ev l E (4, 0, 0) m_X3_standAll 0 [(13, 40), (1, (zM5 6 1)), (5, 0), (1, 1), (5, 0), (5, 0)] [] zM5 (fun r zM9 => r = none ∧ x_Ev l E (4, 0, 0) m_X3_addUp 0 [(13, 40), (0, 1), (0, 1), (12, 48), (5, 0), (5, 0), (5, 0), (5, 0), (5, 0), (5, 0), (5, 0), (5, 0)] [] zM9 (fun r zM10 => r = none ∧ x_Ev l E (1, 0, 0) m_X3_putSum 0 [(13, 40), (118, 101), (0, (x_w (a3 + 4)))] [] zM10 (fun r zM11 => r = none ∧ Q none zM11)))))))))) ∧ (a1 = 0 → x_Ev l E (4, 0, 0) m_X3_standAll 0 [(13, 40), (1, 0), (5, 0), (1, 1), (5, 0), (5, 0)] [] M (fun r zM12 => r = none ∧ x_Ev l E (4, 0, 0) m_X3_addUp 0 [(13, 40), (0, 0), (0, 2), (12, 48), (5, 0), (5, 0), (5, 0), (5, 0), (5, 0), (5, 0), (5, 0), (5, 0)] [] zM12 (fun r zM13 => r = none ∧ x_Ev l E (1, 0, 0) m_X3_putSum 0 [(13, 40), (118, 101), (0, a3)] [] zM13 (fun r zM14 => r = none ∧ x_Ev l E (4, 0, 0) m_X3_addUp 0 [(13, 40), (0, 1), (0, 2), (12, 48), (5, 0), (5, 0), (5, 0), (5, 0), (5, 0), (5, 0), (5, 0), (5, 0)] [] zM14 (fun r zM15 => r = none ∧ x_Ev l E (1, 0, 0) m_X3_putSum 0 [(13, 40), (118, 101), (0, (x_w (a3 + 2)))] [] zM15 (fun r zM16 => r = none ∧ (¬ a1 = (zM16 42 0) → ((0 : Int) ≤ a1 ∧ (a1 : Int) < 27) ∧ ((0 : Int) ≤ a1 ∧ (a1 : Int) < 27) ∧ x_Ev l E (4, 0, 0) m_X3_standAll 0 [(13, 40), (1, (zM16 43 a1)), (5, 0), (1, (zM16 44 a1)), (5, 0), (5, 0)] [] zM16 (fun r zM17 => r = none ∧ x_Ev l E (4, 0, 0) m_X3_addUp 0 [(13, 40), (0, 1), (0, 1), (12, 48), (5, 0), (5, 0), (5, 0), (5, 0), (5, 0), (5, 0), (5, 0), (5, 0)] [] zM17 (fun r zM18 => r = none ∧ x_Ev l E (1, 0, 0) m_X3_putSum 0 [(13, 40), (118, 101), (0, (x_w (a3 + 4)))] [] zM18 (fun r zM19 => r = none ∧ Q none zM19)))) ∧ (a1 = (zM16 42 0) → x_Ev l E (4, 0, 0) m_X3_standAll 0 [(13, 40), (1, (zM16 6 1)), (5, 0), (1, 1), (5, 0), (5, 0)] [] zM16 (fun r zM20 => r = none ∧ x_Ev l E (4, 0, 0) m_X3_addUp 0 [(13, 40), (0, 1), (0, 1), (12, 48), (5, 0), (5, 0), (5, 0), (5, 0), (5, 0), (5, 0), (5, 0), (5, 0)] [] zM20 (fun r zM21 => r = none ∧ x_Ev l E (1, 0, 0) m_X3_putSum 0 [(13, 40), (118, 101), (0, (x_w (a3 + 4)))] [] zM21 (fun r zM22 => r = none ∧ Q none zM22))))))))))) ∧ (¬ (x_w (a3 + 6)) ≤ 6 → Q none M))))) : x_Ev l E (5, 0, 0) m_X3_tellPiece 0 [(13, 40), (0, a1), (118, 101), (0, a3)] [] M Q := by
  refine i_iload_n 0 rfl rfl ?_
  refine i_if_lt 28 1 rfl (by decide) (fun c => ?_) (fun c => ?_)
  · replace h := h.1 c
    exact i_return 15 rfl rfl h
  · replace h := h.2 c
    refine i_iload_n 2 rfl rfl ?_
    refine i_aload_n 3 rfl rfl (by decide) ?_
    refine i_getP (c := 3) (k := 2) (t := 10) (b := 42) 4 rfl fl_256 (by decide) rfl (by decide) rfl ?_
    refine i_getI (c := 0) (k := 0) 5 rfl fl_178 (by decide) (by decide) ?_
    refine i_icmp_gt 28 6 rfl (by decide) (fun c => ?_) (fun c => ?_)
    · replace h := h.1 c
      exact i_return 15 rfl rfl h
    · replace h := h.2 c
      refine i_iload_n 7 rfl rfl ?_
      refine i_if_lt 28 8 rfl (by decide) (fun c => ?_) (fun c => ?_)
      · replace h := h.1 c
        exact i_return 15 rfl rfl h
      · replace h := h.2 c
        refine i_iload_n 9 rfl rfl ?_
        refine i_bipush 10 rfl (by decide) ?_
        refine i_iadd 11 rfl ?_
        refine i_aload_n 12 rfl rfl (by decide) ?_
        refine i_alen (τ := 18) (len := 6) 13 rfl (by decide) (by decide) ?_
        refine i_icmp_le 29 14 rfl (by decide) (fun c => ?_) (fun c => ?_)
        · replace h := h.1 c
          refine i_iload_n 16 rfl rfl ?_
          refine i_if_ne 42 17 rfl (by decide) (fun c => ?_) (fun c => ?_)
          · replace h := h.1 c
            refine i_aload_n 23 rfl rfl (by decide) ?_
            refine i_aload_n 24 rfl rfl (by decide) ?_
            refine i_getP (c := 3) (k := 2) (t := 10) (b := 42) 25 rfl fl_256 (by decide) rfl (by decide) rfl ?_
            refine i_getP (c := 0) (k := 1) (t := 107) (b := 43) 26 rfl fl_181 (by decide) rfl (by decide) rfl ?_
            refine i_iload_n 27 rfl rfl ?_
            refine i_iconst 28 rfl (by decide) ?_
            refine i_isub 29 rfl ?_
            refine i_lald (τ := 7) 30 rfl ⟨rfl, rfl, rfl, by decide⟩ h.1.1 h.1.2 ?_
            replace h := h.2
            refine i_aload_n 31 rfl rfl (by decide) ?_
            refine i_getP (c := 3) (k := 2) (t := 10) (b := 42) 32 rfl fl_256 (by decide) rfl (by decide) rfl ?_
            refine i_getP (c := 0) (k := 2) (t := 107) (b := 44) 33 rfl fl_184 (by decide) rfl (by decide) rfl ?_
            refine i_iload_n 34 rfl rfl ?_
            refine i_iconst 35 rfl (by decide) ?_
            refine i_isub 36 rfl ?_
            refine i_lald (τ := 7) 37 rfl ⟨rfl, rfl, rfl, by decide⟩ h.1.1 h.1.2 ?_
            replace h := h.2
            refine i_callV (c := 3) (y1 := m_X3_standAll) (z1 := (4, 0, 0)) (z2 := (5, 0, 0)) [(1, (M 43 (x_w (a1 - 1)))), (1, (M 44 (x_w (a1 - 1))))] 38 rfl ml_791 ok_X3_standAll vk_X3_standAll ⟨by decide, rfl⟩ rfl ⟨rfl, Nat.le_of_ble_eq_true rfl⟩ (Nat.le_of_ble_eq_true rfl) ⟨by decide, rfl, rfl, rfl⟩ ?_
            refine h.mono (fun r zM1 h => ?_)
            obtain ⟨rfl, h⟩ := h
            simp only [Option.toList_some, Option.toList_none, List.cons_append, List.nil_append]
            refine i_aload_n 39 rfl rfl (by decide) ?_
            refine i_iconst 40 rfl (by decide) ?_
            refine i_iconst 41 rfl (by decide) ?_
            refine i_aload_n 42 rfl rfl (by decide) ?_
            refine i_getP (c := 3) (k := 6) (t := 12) (b := 48) 43 rfl fl_264 (by decide) rfl (by decide) rfl ?_
            refine i_callV (c := 3) (y1 := m_X3_addUp) (z1 := (4, 0, 0)) (z2 := (5, 0, 0)) [(0, 0), (0, 2), (12, 48)] 44 rfl ml_792 ok_X3_addUp vk_X3_addUp ⟨by decide, rfl⟩ rfl ⟨rfl, Nat.le_of_ble_eq_true rfl⟩ (Nat.le_of_ble_eq_true rfl) ⟨by decide, rfl, rfl, rfl⟩ ?_
            refine h.mono (fun r zM2 h => ?_)
            obtain ⟨rfl, h⟩ := h
            simp only [Option.toList_some, Option.toList_none, List.cons_append, List.nil_append]
            refine i_aload_n 45 rfl rfl (by decide) ?_
            refine i_aload_n 46 rfl rfl (by decide) ?_
            refine i_iload_n 47 rfl rfl ?_
            refine i_callV (c := 3) (y1 := m_X3_putSum) (z1 := (1, 0, 0)) (z2 := (5, 0, 0)) [(118, 101), (0, a3)] 48 rfl ml_793 ok_X3_putSum vk_X3_putSum ⟨by decide, rfl⟩ rfl ⟨rfl, Nat.le_of_ble_eq_true rfl⟩ (Nat.le_of_ble_eq_true rfl) ⟨by decide, rfl, rfl, rfl⟩ ?_
            refine h.mono (fun r zM3 h => ?_)
            obtain ⟨rfl, h⟩ := h
            simp only [Option.toList_some, Option.toList_none, List.cons_append, List.nil_append]
            refine i_aload_n 49 rfl rfl (by decide) ?_
            refine i_iconst 50 rfl (by decide) ?_
            refine i_iconst 51 rfl (by decide) ?_
            refine i_aload_n 52 rfl rfl (by decide) ?_
            refine i_getP (c := 3) (k := 6) (t := 12) (b := 48) 53 rfl fl_264 (by decide) rfl (by decide) rfl ?_
            refine i_callV (c := 3) (y1 := m_X3_addUp) (z1 := (4, 0, 0)) (z2 := (5, 0, 0)) [(0, 1), (0, 2), (12, 48)] 54 rfl ml_792 ok_X3_addUp vk_X3_addUp ⟨by decide, rfl⟩ rfl ⟨rfl, Nat.le_of_ble_eq_true rfl⟩ (Nat.le_of_ble_eq_true rfl) ⟨by decide, rfl, rfl, rfl⟩ ?_
            refine h.mono (fun r zM4 h => ?_)
            obtain ⟨rfl, h⟩ := h
            simp only [Option.toList_some, Option.toList_none, List.cons_append, List.nil_append]
            refine i_aload_n 55 rfl rfl (by decide) ?_
            refine i_aload_n 56 rfl rfl (by decide) ?_
            refine i_iload_n 57 rfl rfl ?_
            refine i_iconst 58 rfl (by decide) ?_
            refine i_iadd 59 rfl ?_
            refine i_callV (c := 3) (y1 := m_X3_putSum) (z1 := (1, 0, 0)) (z2 := (5, 0, 0)) [(118, 101), (0, (x_w (a3 + 2)))] 60 rfl ml_793 ok_X3_putSum vk_X3_putSum ⟨by decide, rfl⟩ rfl ⟨rfl, Nat.le_of_ble_eq_true rfl⟩ (Nat.le_of_ble_eq_true rfl) ⟨by decide, rfl, rfl, rfl⟩ ?_
            refine h.mono (fun r zM5 h => ?_)
            obtain ⟨rfl, h⟩ := h
            simp only [Option.toList_some, Option.toList_none, List.cons_append, List.nil_append]
            refine i_iload_n 61 rfl rfl ?_
            refine i_aload_n 62 rfl rfl (by decide) ?_
            refine i_getP (c := 3) (k := 2) (t := 10) (b := 42) 63 rfl fl_256 (by decide) rfl (by decide) rfl ?_
            refine i_getI (c := 0) (k := 0) 64 rfl fl_178 (by decide) (by decide) ?_
            refine i_icmp_ne 129 65 rfl (by decide) (fun c => ?_) (fun c => ?_)
            · replace h := h.1 c
              refine i_aload_n 74 rfl rfl (by decide) ?_
              refine i_aload_n 75 rfl rfl (by decide) ?_
              refine i_getP (c := 3) (k := 2) (t := 10) (b := 42) 76 rfl fl_256 (by decide) rfl (by decide) rfl ?_
              refine i_getP (c := 0) (k := 1) (t := 107) (b := 43) 77 rfl fl_181 (by decide) rfl (by decide) rfl ?_
              refine i_iload_n 78 rfl rfl ?_
              refine i_lald (τ := 7) 79 rfl ⟨rfl, rfl, rfl, by decide⟩ h.1.1 h.1.2 ?_
              replace h := h.2
              refine i_aload_n 80 rfl rfl (by decide) ?_
              refine i_getP (c := 3) (k := 2) (t := 10) (b := 42) 81 rfl fl_256 (by decide) rfl (by decide) rfl ?_
              refine i_getP (c := 0) (k := 2) (t := 107) (b := 44) 82 rfl fl_184 (by decide) rfl (by decide) rfl ?_
              refine i_iload_n 83 rfl rfl ?_
              refine i_lald (τ := 7) 84 rfl ⟨rfl, rfl, rfl, by decide⟩ h.1.1 h.1.2 ?_
              replace h := h.2
              refine i_callV (c := 3) (y1 := m_X3_standAll) (z1 := (4, 0, 0)) (z2 := (5, 0, 0)) [(1, (zM5 43 a1)), (1, (zM5 44 a1))] 85 rfl ml_791 ok_X3_standAll vk_X3_standAll ⟨by decide, rfl⟩ rfl ⟨rfl, Nat.le_of_ble_eq_true rfl⟩ (Nat.le_of_ble_eq_true rfl) ⟨by decide, rfl, rfl, rfl⟩ ?_
              refine h.mono (fun r zM6 h => ?_)
              obtain ⟨rfl, h⟩ := h
              simp only [Option.toList_some, Option.toList_none, List.cons_append, List.nil_append]
              refine i_aload_n 86 rfl rfl (by decide) ?_
              refine i_iconst 87 rfl (by decide) ?_
              refine i_iconst 88 rfl (by decide) ?_
              refine i_aload_n 89 rfl rfl (by decide) ?_
              refine i_getP (c := 3) (k := 6) (t := 12) (b := 48) 90 rfl fl_264 (by decide) rfl (by decide) rfl ?_
              refine i_callV (c := 3) (y1 := m_X3_addUp) (z1 := (4, 0, 0)) (z2 := (5, 0, 0)) [(0, 1), (0, 1), (12, 48)] 91 rfl ml_792 ok_X3_addUp vk_X3_addUp ⟨by decide, rfl⟩ rfl ⟨rfl, Nat.le_of_ble_eq_true rfl⟩ (Nat.le_of_ble_eq_true rfl) ⟨by decide, rfl, rfl, rfl⟩ ?_
              refine h.mono (fun r zM7 h => ?_)
              obtain ⟨rfl, h⟩ := h
              simp only [Option.toList_some, Option.toList_none, List.cons_append, List.nil_append]
              refine i_aload_n 92 rfl rfl (by decide) ?_
              refine i_aload_n 93 rfl rfl (by decide) ?_
              refine i_iload_n 94 rfl rfl ?_
              refine i_iconst 95 rfl (by decide) ?_
              refine i_iadd 96 rfl ?_
              refine i_callV (c := 3) (y1 := m_X3_putSum) (z1 := (1, 0, 0)) (z2 := (5, 0, 0)) [(118, 101), (0, (x_w (a3 + 4)))] 97 rfl ml_793 ok_X3_putSum vk_X3_putSum ⟨by decide, rfl⟩ rfl ⟨rfl, Nat.le_of_ble_eq_true rfl⟩ (Nat.le_of_ble_eq_true rfl) ⟨by decide, rfl, rfl, rfl⟩ ?_
              refine h.mono (fun r zM8 h => ?_)
              obtain ⟨rfl, h⟩ := h
              simp only [Option.toList_some, Option.toList_none, List.cons_append, List.nil_append]
              exact i_return 98 rfl rfl h
            · replace h := h.2 c
              refine i_aload_n 66 rfl rfl (by decide) ?_
              refine i_aload_n 67 rfl rfl (by decide) ?_
              refine i_getP (c := 3) (k := 0) (t := 19) (b := 6) 68 rfl fl_253 (by decide) rfl (by decide) rfl ?_
              refine i_getI (c := 9) (k := 1) 69 rfl fl_108 (by decide) (by decide) ?_
              refine i_i2l 70 rfl ?_
              refine i_lconst (w := 1) 71 rfl (by decide) ?_
              refine i_callV (c := 3) (y1 := m_X3_standAll) (z1 := (4, 0, 0)) (z2 := (5, 0, 0)) [(1, (zM5 6 1)), (1, 1)] 72 rfl ml_791 ok_X3_standAll vk_X3_standAll ⟨by decide, rfl⟩ rfl ⟨rfl, Nat.le_of_ble_eq_true rfl⟩ (Nat.le_of_ble_eq_true rfl) ⟨by decide, rfl, rfl, rfl⟩ ?_
              refine h.mono (fun r zM9 h => ?_)
              obtain ⟨rfl, h⟩ := h
              simp only [Option.toList_some, Option.toList_none, List.cons_append, List.nil_append]
              refine i_goto 151 73 rfl (by decide) ?_
              refine i_aload_n 86 rfl rfl (by decide) ?_
              refine i_iconst 87 rfl (by decide) ?_
              refine i_iconst 88 rfl (by decide) ?_
              refine i_aload_n 89 rfl rfl (by decide) ?_
              refine i_getP (c := 3) (k := 6) (t := 12) (b := 48) 90 rfl fl_264 (by decide) rfl (by decide) rfl ?_
              refine i_callV (c := 3) (y1 := m_X3_addUp) (z1 := (4, 0, 0)) (z2 := (5, 0, 0)) [(0, 1), (0, 1), (12, 48)] 91 rfl ml_792 ok_X3_addUp vk_X3_addUp ⟨by decide, rfl⟩ rfl ⟨rfl, Nat.le_of_ble_eq_true rfl⟩ (Nat.le_of_ble_eq_true rfl) ⟨by decide, rfl, rfl, rfl⟩ ?_
              refine h.mono (fun r zM10 h => ?_)
              obtain ⟨rfl, h⟩ := h
              simp only [Option.toList_some, Option.toList_none, List.cons_append, List.nil_append]
              refine i_aload_n 92 rfl rfl (by decide) ?_
              refine i_aload_n 93 rfl rfl (by decide) ?_
              refine i_iload_n 94 rfl rfl ?_
              refine i_iconst 95 rfl (by decide) ?_
              refine i_iadd 96 rfl ?_
              refine i_callV (c := 3) (y1 := m_X3_putSum) (z1 := (1, 0, 0)) (z2 := (5, 0, 0)) [(118, 101), (0, (x_w (a3 + 4)))] 97 rfl ml_793 ok_X3_putSum vk_X3_putSum ⟨by decide, rfl⟩ rfl ⟨rfl, Nat.le_of_ble_eq_true rfl⟩ (Nat.le_of_ble_eq_true rfl) ⟨by decide, rfl, rfl, rfl⟩ ?_
              refine h.mono (fun r zM11 h => ?_)
              obtain ⟨rfl, h⟩ := h
              simp only [Option.toList_some, Option.toList_none, List.cons_append, List.nil_append]
              exact i_return 98 rfl rfl h
          · replace h := h.2 c
            refine i_aload_n 18 rfl rfl (by decide) ?_
            refine i_lconst (w := 0) 19 rfl (by decide) ?_
            refine i_lconst (w := 1) 20 rfl (by decide) ?_
            refine i_callV (c := 3) (y1 := m_X3_standAll) (z1 := (4, 0, 0)) (z2 := (5, 0, 0)) [(1, 0), (1, 1)] 21 rfl ml_791 ok_X3_standAll vk_X3_standAll ⟨by decide, rfl⟩ rfl ⟨rfl, Nat.le_of_ble_eq_true rfl⟩ (Nat.le_of_ble_eq_true rfl) ⟨by decide, rfl, rfl, rfl⟩ ?_
            refine h.mono (fun r zM12 h => ?_)
            obtain ⟨rfl, h⟩ := h
            simp only [Option.toList_some, Option.toList_none, List.cons_append, List.nil_append]
            refine i_goto 68 22 rfl (by decide) ?_
            refine i_aload_n 39 rfl rfl (by decide) ?_
            refine i_iconst 40 rfl (by decide) ?_
            refine i_iconst 41 rfl (by decide) ?_
            refine i_aload_n 42 rfl rfl (by decide) ?_
            refine i_getP (c := 3) (k := 6) (t := 12) (b := 48) 43 rfl fl_264 (by decide) rfl (by decide) rfl ?_
            refine i_callV (c := 3) (y1 := m_X3_addUp) (z1 := (4, 0, 0)) (z2 := (5, 0, 0)) [(0, 0), (0, 2), (12, 48)] 44 rfl ml_792 ok_X3_addUp vk_X3_addUp ⟨by decide, rfl⟩ rfl ⟨rfl, Nat.le_of_ble_eq_true rfl⟩ (Nat.le_of_ble_eq_true rfl) ⟨by decide, rfl, rfl, rfl⟩ ?_
            refine h.mono (fun r zM13 h => ?_)
            obtain ⟨rfl, h⟩ := h
            simp only [Option.toList_some, Option.toList_none, List.cons_append, List.nil_append]
            refine i_aload_n 45 rfl rfl (by decide) ?_
            refine i_aload_n 46 rfl rfl (by decide) ?_
            refine i_iload_n 47 rfl rfl ?_
            refine i_callV (c := 3) (y1 := m_X3_putSum) (z1 := (1, 0, 0)) (z2 := (5, 0, 0)) [(118, 101), (0, a3)] 48 rfl ml_793 ok_X3_putSum vk_X3_putSum ⟨by decide, rfl⟩ rfl ⟨rfl, Nat.le_of_ble_eq_true rfl⟩ (Nat.le_of_ble_eq_true rfl) ⟨by decide, rfl, rfl, rfl⟩ ?_
            refine h.mono (fun r zM14 h => ?_)
            obtain ⟨rfl, h⟩ := h
            simp only [Option.toList_some, Option.toList_none, List.cons_append, List.nil_append]
            refine i_aload_n 49 rfl rfl (by decide) ?_
            refine i_iconst 50 rfl (by decide) ?_
            refine i_iconst 51 rfl (by decide) ?_
            refine i_aload_n 52 rfl rfl (by decide) ?_
            refine i_getP (c := 3) (k := 6) (t := 12) (b := 48) 53 rfl fl_264 (by decide) rfl (by decide) rfl ?_
            refine i_callV (c := 3) (y1 := m_X3_addUp) (z1 := (4, 0, 0)) (z2 := (5, 0, 0)) [(0, 1), (0, 2), (12, 48)] 54 rfl ml_792 ok_X3_addUp vk_X3_addUp ⟨by decide, rfl⟩ rfl ⟨rfl, Nat.le_of_ble_eq_true rfl⟩ (Nat.le_of_ble_eq_true rfl) ⟨by decide, rfl, rfl, rfl⟩ ?_
            refine h.mono (fun r zM15 h => ?_)
            obtain ⟨rfl, h⟩ := h
            simp only [Option.toList_some, Option.toList_none, List.cons_append, List.nil_append]
            refine i_aload_n 55 rfl rfl (by decide) ?_
            refine i_aload_n 56 rfl rfl (by decide) ?_
            refine i_iload_n 57 rfl rfl ?_
            refine i_iconst 58 rfl (by decide) ?_
            refine i_iadd 59 rfl ?_
            refine i_callV (c := 3) (y1 := m_X3_putSum) (z1 := (1, 0, 0)) (z2 := (5, 0, 0)) [(118, 101), (0, (x_w (a3 + 2)))] 60 rfl ml_793 ok_X3_putSum vk_X3_putSum ⟨by decide, rfl⟩ rfl ⟨rfl, Nat.le_of_ble_eq_true rfl⟩ (Nat.le_of_ble_eq_true rfl) ⟨by decide, rfl, rfl, rfl⟩ ?_
            refine h.mono (fun r zM16 h => ?_)
            obtain ⟨rfl, h⟩ := h
            simp only [Option.toList_some, Option.toList_none, List.cons_append, List.nil_append]
            refine i_iload_n 61 rfl rfl ?_
            refine i_aload_n 62 rfl rfl (by decide) ?_
            refine i_getP (c := 3) (k := 2) (t := 10) (b := 42) 63 rfl fl_256 (by decide) rfl (by decide) rfl ?_
            refine i_getI (c := 0) (k := 0) 64 rfl fl_178 (by decide) (by decide) ?_
            refine i_icmp_ne 129 65 rfl (by decide) (fun c => ?_) (fun c => ?_)
            · replace h := h.1 c
              refine i_aload_n 74 rfl rfl (by decide) ?_
              refine i_aload_n 75 rfl rfl (by decide) ?_
              refine i_getP (c := 3) (k := 2) (t := 10) (b := 42) 76 rfl fl_256 (by decide) rfl (by decide) rfl ?_
              refine i_getP (c := 0) (k := 1) (t := 107) (b := 43) 77 rfl fl_181 (by decide) rfl (by decide) rfl ?_
              refine i_iload_n 78 rfl rfl ?_
              refine i_lald (τ := 7) 79 rfl ⟨rfl, rfl, rfl, by decide⟩ h.1.1 h.1.2 ?_
              replace h := h.2
              refine i_aload_n 80 rfl rfl (by decide) ?_
              refine i_getP (c := 3) (k := 2) (t := 10) (b := 42) 81 rfl fl_256 (by decide) rfl (by decide) rfl ?_
              refine i_getP (c := 0) (k := 2) (t := 107) (b := 44) 82 rfl fl_184 (by decide) rfl (by decide) rfl ?_
              refine i_iload_n 83 rfl rfl ?_
              refine i_lald (τ := 7) 84 rfl ⟨rfl, rfl, rfl, by decide⟩ h.1.1 h.1.2 ?_
              replace h := h.2
              refine i_callV (c := 3) (y1 := m_X3_standAll) (z1 := (4, 0, 0)) (z2 := (5, 0, 0)) [(1, (zM16 43 a1)), (1, (zM16 44 a1))] 85 rfl ml_791 ok_X3_standAll vk_X3_standAll ⟨by decide, rfl⟩ rfl ⟨rfl, Nat.le_of_ble_eq_true rfl⟩ (Nat.le_of_ble_eq_true rfl) ⟨by decide, rfl, rfl, rfl⟩ ?_
              refine h.mono (fun r zM17 h => ?_)
              obtain ⟨rfl, h⟩ := h
              simp only [Option.toList_some, Option.toList_none, List.cons_append, List.nil_append]
              refine i_aload_n 86 rfl rfl (by decide) ?_
              refine i_iconst 87 rfl (by decide) ?_
              refine i_iconst 88 rfl (by decide) ?_
              refine i_aload_n 89 rfl rfl (by decide) ?_
              refine i_getP (c := 3) (k := 6) (t := 12) (b := 48) 90 rfl fl_264 (by decide) rfl (by decide) rfl ?_
              refine i_callV (c := 3) (y1 := m_X3_addUp) (z1 := (4, 0, 0)) (z2 := (5, 0, 0)) [(0, 1), (0, 1), (12, 48)] 91 rfl ml_792 ok_X3_addUp vk_X3_addUp ⟨by decide, rfl⟩ rfl ⟨rfl, Nat.le_of_ble_eq_true rfl⟩ (Nat.le_of_ble_eq_true rfl) ⟨by decide, rfl, rfl, rfl⟩ ?_
              refine h.mono (fun r zM18 h => ?_)
              obtain ⟨rfl, h⟩ := h
              simp only [Option.toList_some, Option.toList_none, List.cons_append, List.nil_append]
              refine i_aload_n 92 rfl rfl (by decide) ?_
              refine i_aload_n 93 rfl rfl (by decide) ?_
              refine i_iload_n 94 rfl rfl ?_
              refine i_iconst 95 rfl (by decide) ?_
              refine i_iadd 96 rfl ?_
              refine i_callV (c := 3) (y1 := m_X3_putSum) (z1 := (1, 0, 0)) (z2 := (5, 0, 0)) [(118, 101), (0, (x_w (a3 + 4)))] 97 rfl ml_793 ok_X3_putSum vk_X3_putSum ⟨by decide, rfl⟩ rfl ⟨rfl, Nat.le_of_ble_eq_true rfl⟩ (Nat.le_of_ble_eq_true rfl) ⟨by decide, rfl, rfl, rfl⟩ ?_
              refine h.mono (fun r zM19 h => ?_)
              obtain ⟨rfl, h⟩ := h
              simp only [Option.toList_some, Option.toList_none, List.cons_append, List.nil_append]
              exact i_return 98 rfl rfl h
            · replace h := h.2 c
              refine i_aload_n 66 rfl rfl (by decide) ?_
              refine i_aload_n 67 rfl rfl (by decide) ?_
              refine i_getP (c := 3) (k := 0) (t := 19) (b := 6) 68 rfl fl_253 (by decide) rfl (by decide) rfl ?_
              refine i_getI (c := 9) (k := 1) 69 rfl fl_108 (by decide) (by decide) ?_
              refine i_i2l 70 rfl ?_
              refine i_lconst (w := 1) 71 rfl (by decide) ?_
              refine i_callV (c := 3) (y1 := m_X3_standAll) (z1 := (4, 0, 0)) (z2 := (5, 0, 0)) [(1, (zM16 6 1)), (1, 1)] 72 rfl ml_791 ok_X3_standAll vk_X3_standAll ⟨by decide, rfl⟩ rfl ⟨rfl, Nat.le_of_ble_eq_true rfl⟩ (Nat.le_of_ble_eq_true rfl) ⟨by decide, rfl, rfl, rfl⟩ ?_
              refine h.mono (fun r zM20 h => ?_)
              obtain ⟨rfl, h⟩ := h
              simp only [Option.toList_some, Option.toList_none, List.cons_append, List.nil_append]
              refine i_goto 151 73 rfl (by decide) ?_
              refine i_aload_n 86 rfl rfl (by decide) ?_
              refine i_iconst 87 rfl (by decide) ?_
              refine i_iconst 88 rfl (by decide) ?_
              refine i_aload_n 89 rfl rfl (by decide) ?_
              refine i_getP (c := 3) (k := 6) (t := 12) (b := 48) 90 rfl fl_264 (by decide) rfl (by decide) rfl ?_
              refine i_callV (c := 3) (y1 := m_X3_addUp) (z1 := (4, 0, 0)) (z2 := (5, 0, 0)) [(0, 1), (0, 1), (12, 48)] 91 rfl ml_792 ok_X3_addUp vk_X3_addUp ⟨by decide, rfl⟩ rfl ⟨rfl, Nat.le_of_ble_eq_true rfl⟩ (Nat.le_of_ble_eq_true rfl) ⟨by decide, rfl, rfl, rfl⟩ ?_
              refine h.mono (fun r zM21 h => ?_)
              obtain ⟨rfl, h⟩ := h
              simp only [Option.toList_some, Option.toList_none, List.cons_append, List.nil_append]
              refine i_aload_n 92 rfl rfl (by decide) ?_
              refine i_aload_n 93 rfl rfl (by decide) ?_
              refine i_iload_n 94 rfl rfl ?_
              refine i_iconst 95 rfl (by decide) ?_
              refine i_iadd 96 rfl ?_
              refine i_callV (c := 3) (y1 := m_X3_putSum) (z1 := (1, 0, 0)) (z2 := (5, 0, 0)) [(118, 101), (0, (x_w (a3 + 4)))] 97 rfl ml_793 ok_X3_putSum vk_X3_putSum ⟨by decide, rfl⟩ rfl ⟨rfl, Nat.le_of_ble_eq_true rfl⟩ (Nat.le_of_ble_eq_true rfl) ⟨by decide, rfl, rfl, rfl⟩ ?_
              refine h.mono (fun r zM22 h => ?_)
              obtain ⟨rfl, h⟩ := h
              simp only [Option.toList_some, Option.toList_none, List.cons_append, List.nil_append]
              exact i_return 98 rfl rfl h
        · replace h := h.2 c
          exact i_return 15 rfl rfl h
theorem u_X3_seekBest_0 {l : Launch} {E : xE} (a1 : Int) {M : xM} {Q : Option xV → xM → Prop} (h : x_Ev l E (5, 0, 0) m_X3_gatherBreaks 0 [(13, 40), (0, (-1)), (0, a1), (5, 0)] [] M (fun r zM1 => r = none ∧ ∀ zM2 : xM, zM2 = x_wr zM1 40 5 (-1) → x_Ev l E (5, 0, 0) m_X3_offerTerm 0 [(13, 40), (1, 0), (5, 0), (1, 1), (5, 0), (0, a1), (5, 0)] [] zM2 (fun r zM3 => r = none ∧ x_Ev l E (6, 0, 0) m_X3_seekBest 20 [(13, 40), (0, a1), (0, 0)] [] zM3 Q))) : x_Ev l E (6, 0, 0) m_X3_seekBest 0 [(13, 40), (0, a1), (5, 0)] [] M Q := by
  refine i_aload_n 0 rfl rfl (by decide) ?_
  refine i_iconst 1 rfl (by decide) ?_
  refine i_iload_n 2 rfl rfl ?_
  refine i_callV (c := 3) (y1 := m_X3_gatherBreaks) (z1 := (5, 0, 0)) (z2 := (6, 0, 0)) [(0, (-1)), (0, a1)] 3 rfl ml_805 ok_X3_gatherBreaks vk_X3_gatherBreaks ⟨by decide, rfl⟩ rfl ⟨rfl, Nat.le_of_ble_eq_true rfl⟩ (Nat.le_of_ble_eq_true rfl) ⟨by decide, rfl, rfl, rfl⟩ ?_
  refine h.mono (fun r zM1 h => ?_)
  obtain ⟨rfl, h⟩ := h
  simp only [Option.toList_some, Option.toList_none, List.cons_append, List.nil_append]
  refine i_aload_n 4 rfl rfl (by decide) ?_
  refine i_iconst 5 rfl (by decide) ?_
  replace h := h _ rfl
  refine i_putI (c := 3) (k := 5) 6 rfl fl_262 (by decide) ⟨rfl, rfl, rfl⟩ ?_
  refine i_aload_n 7 rfl rfl (by decide) ?_
  refine i_lconst (w := 0) 8 rfl (by decide) ?_
  refine i_lconst (w := 1) 9 rfl (by decide) ?_
  refine i_iload_n 10 rfl rfl ?_
  refine i_callV (c := 3) (y1 := m_X3_offerTerm) (z1 := (5, 0, 0)) (z2 := (6, 0, 0)) [(1, 0), (1, 1), (0, a1)] 11 rfl ml_806 ok_X3_offerTerm vk_X3_offerTerm ⟨by decide, rfl⟩ rfl ⟨rfl, Nat.le_of_ble_eq_true rfl⟩ (Nat.le_of_ble_eq_true rfl) ⟨by decide, rfl, rfl, rfl⟩ ?_
  refine h.mono (fun r zM3 h => ?_)
  obtain ⟨rfl, h⟩ := h
  simp only [Option.toList_some, Option.toList_none, List.cons_append, List.nil_append]
  refine i_iconst 12 rfl (by decide) ?_
  refine i_istore_n 13 rfl (by decide) rfl ?_
  exact h
theorem u_X3_seekBest_20 {l : Launch} {E : xE} (l1 l2 : Int) {M : xM} {Q : Option xV → xM → Prop} (h : ((M 42 0) ≤ l2 → x_Ev l E (5, 0, 0) m_X3_offerTerm 0 [(13, 40), (1, l1), (5, 0), (1, 1), (5, 0), (0, l1), (5, 0)] [] M (fun r zM1 => r = none ∧ Q none zM1)) ∧ (¬ (M 42 0) ≤ l2 → ((0 : Int) ≤ l2 ∧ (l2 : Int) < 27) ∧ ((0 : Int) ≤ l2 ∧ (l2 : Int) < 27) ∧ x_Ev l E (5, 0, 0) m_X3_offerTerm 0 [(13, 40), (1, (M 43 l2)), (5, 0), (1, (M 44 l2)), (5, 0), (0, l1), (5, 0)] [] M (fun r zM2 => r = none ∧ ∀ zv3 : Int, zv3 = x_w (l2 + 1) → x_Ev l E (6, 0, 0) m_X3_seekBest 20 [(13, 40), (0, l1), (0, zv3)] [] zM2 Q))) : x_Ev l E (6, 0, 0) m_X3_seekBest 20 [(13, 40), (0, l1), (0, l2)] [] M Q := by
  refine i_iload_n 14 rfl rfl ?_
  refine i_aload_n 15 rfl rfl (by decide) ?_
  refine i_getP (c := 3) (k := 2) (t := 10) (b := 42) 16 rfl fl_256 (by decide) rfl (by decide) rfl ?_
  refine i_getI (c := 0) (k := 0) 17 rfl fl_178 (by decide) (by decide) ?_
  refine i_icmp_ge 60 18 rfl (by decide) (fun c => ?_) (fun c => ?_)
  · replace h := h.1 c
    refine i_aload_n 34 rfl rfl (by decide) ?_
    refine i_iload_n 35 rfl rfl ?_
    refine i_i2l 36 rfl ?_
    refine i_lconst (w := 1) 37 rfl (by decide) ?_
    refine i_iload_n 38 rfl rfl ?_
    refine i_callV (c := 3) (y1 := m_X3_offerTerm) (z1 := (5, 0, 0)) (z2 := (6, 0, 0)) [(1, l1), (1, 1), (0, l1)] 39 rfl ml_806 ok_X3_offerTerm vk_X3_offerTerm ⟨by decide, rfl⟩ rfl ⟨rfl, Nat.le_of_ble_eq_true rfl⟩ (Nat.le_of_ble_eq_true rfl) ⟨by decide, rfl, rfl, rfl⟩ ?_
    refine h.mono (fun r zM1 h => ?_)
    obtain ⟨rfl, h⟩ := h
    simp only [Option.toList_some, Option.toList_none, List.cons_append, List.nil_append]
    exact i_return 40 rfl rfl h
  · replace h := h.2 c
    refine i_aload_n 19 rfl rfl (by decide) ?_
    refine i_aload_n 20 rfl rfl (by decide) ?_
    refine i_getP (c := 3) (k := 2) (t := 10) (b := 42) 21 rfl fl_256 (by decide) rfl (by decide) rfl ?_
    refine i_getP (c := 0) (k := 1) (t := 107) (b := 43) 22 rfl fl_181 (by decide) rfl (by decide) rfl ?_
    refine i_iload_n 23 rfl rfl ?_
    refine i_lald (τ := 7) 24 rfl ⟨rfl, rfl, rfl, by decide⟩ h.1.1 h.1.2 ?_
    replace h := h.2
    refine i_aload_n 25 rfl rfl (by decide) ?_
    refine i_getP (c := 3) (k := 2) (t := 10) (b := 42) 26 rfl fl_256 (by decide) rfl (by decide) rfl ?_
    refine i_getP (c := 0) (k := 2) (t := 107) (b := 44) 27 rfl fl_184 (by decide) rfl (by decide) rfl ?_
    refine i_iload_n 28 rfl rfl ?_
    refine i_lald (τ := 7) 29 rfl ⟨rfl, rfl, rfl, by decide⟩ h.1.1 h.1.2 ?_
    replace h := h.2
    refine i_iload_n 30 rfl rfl ?_
    refine i_callV (c := 3) (y1 := m_X3_offerTerm) (z1 := (5, 0, 0)) (z2 := (6, 0, 0)) [(1, (M 43 l2)), (1, (M 44 l2)), (0, l1)] 31 rfl ml_806 ok_X3_offerTerm vk_X3_offerTerm ⟨by decide, rfl⟩ rfl ⟨rfl, Nat.le_of_ble_eq_true rfl⟩ (Nat.le_of_ble_eq_true rfl) ⟨by decide, rfl, rfl, rfl⟩ ?_
    refine h.mono (fun r zM2 h => ?_)
    obtain ⟨rfl, h⟩ := h
    simp only [Option.toList_some, Option.toList_none, List.cons_append, List.nil_append]
    replace h := h _ rfl
    refine i_iinc 32 rfl rfl (by decide) rfl ?_
    refine i_goto 20 33 rfl (by decide) ?_
    exact h
theorem u_X3_tellBest_0 {l : Launch} {E : xE} (a1 : Int) {M : xM} {Q : Option xV → xM → Prop} (h : (2 ≤ a1 → (4 ≤ a1 → Q (some (1, (M 40 5))) M) ∧ (¬ 4 ≤ a1 → x_Ev l E (1, 0, 0) m_X2_side 0 [(12, 47), (0, (x_w (a1 - 2)))] [] M (fun r zM1 => ∃ zr2, r = some (1, zr2) ∧ Q (some (1, zr2)) zM1))) ∧ (¬ 2 ≤ a1 → x_Ev l E (1, 0, 0) m_X2_side 0 [(12, 46), (0, a1)] [] M (fun r zM3 => ∃ zr4, r = some (1, zr4) ∧ Q (some (1, zr4)) zM3))) : x_Ev l E (2, 0, 0) m_X3_tellBest 0 [(13, 40), (0, a1)] [] M Q := by
  refine i_iload_n 0 rfl rfl ?_
  refine i_iconst 1 rfl (by decide) ?_
  refine i_icmp_ge 14 2 rfl (by decide) (fun c => ?_) (fun c => ?_)
  · replace h := h.1 c
    refine i_iload_n 8 rfl rfl ?_
    refine i_iconst 9 rfl (by decide) ?_
    refine i_icmp_ge 32 10 rfl (by decide) (fun c => ?_) (fun c => ?_)
    · replace h := h.1 c
      refine i_aload_n 18 rfl rfl (by decide) ?_
      refine i_getI (c := 3) (k := 5) 19 rfl fl_262 (by decide) (by decide) ?_
      refine i_i2l 20 rfl ?_
      exact i_lreturn 21 rfl rfl h
    · replace h := h.2 c
      refine i_aload_n 11 rfl rfl (by decide) ?_
      refine i_getP (c := 3) (k := 4) (t := 12) (b := 47) 12 rfl fl_260 (by decide) rfl (by decide) rfl ?_
      refine i_iload_n 13 rfl rfl ?_
      refine i_iconst 14 rfl (by decide) ?_
      refine i_isub 15 rfl ?_
      refine i_callV (c := 2) (y1 := m_X2_side) (z1 := (1, 0, 0)) (z2 := (2, 0, 0)) [(0, (x_w (a1 - 2)))] 16 rfl ml_823 ok_X2_side vk_X2_side ⟨by decide, rfl⟩ rfl ⟨rfl, Nat.le_of_ble_eq_true rfl⟩ (Nat.le_of_ble_eq_true rfl) ⟨by decide, rfl, rfl, rfl⟩ ?_
      refine h.mono (fun r zM1 h => ?_)
      obtain ⟨zr2, rfl, h⟩ := h
      simp only [Option.toList_some, Option.toList_none, List.cons_append, List.nil_append]
      refine i_goto 37 17 rfl (by decide) ?_
      exact i_lreturn 21 rfl rfl h
  · replace h := h.2 c
    refine i_aload_n 3 rfl rfl (by decide) ?_
    refine i_getP (c := 3) (k := 3) (t := 12) (b := 46) 4 rfl fl_258 (by decide) rfl (by decide) rfl ?_
    refine i_iload_n 5 rfl rfl ?_
    refine i_callV (c := 2) (y1 := m_X2_side) (z1 := (1, 0, 0)) (z2 := (2, 0, 0)) [(0, a1)] 6 rfl ml_823 ok_X2_side vk_X2_side ⟨by decide, rfl⟩ rfl ⟨rfl, Nat.le_of_ble_eq_true rfl⟩ (Nat.le_of_ble_eq_true rfl) ⟨by decide, rfl, rfl, rfl⟩ ?_
    refine h.mono (fun r zM3 h => ?_)
    obtain ⟨zr4, rfl, h⟩ := h
    simp only [Option.toList_some, Option.toList_none, List.cons_append, List.nil_append]
    exact i_lreturn 7 rfl rfl h
theorem u_X2_take_0 {l : Launch} {E : xE} (a0 a1 : Int) {M : xM} {Q : Option xV → xM → Prop} (h : ∀ zM1 : xM, zM1 = x_wr M a0 0 (M a1 0) → ∀ zM2 : xM, zM2 = x_wr zM1 a0 1 (zM1 a1 1) → Q none zM2) : x_Ev l E (1, 0, 0) m_X2_take 0 [(12, a0), (12, a1)] [] M Q := by
  refine i_aload_n 0 rfl rfl (by decide) ?_
  refine i_aload_n 1 rfl rfl (by decide) ?_
  refine i_getL (c := 2) (k := 0) 2 rfl fl_38 (by decide) rfl ?_
  replace h := h _ rfl
  refine i_putL (c := 2) (k := 0) 3 rfl fl_38 (by decide) ⟨rfl, rfl, rfl⟩ ?_
  refine i_aload_n 4 rfl rfl (by decide) ?_
  refine i_aload_n 5 rfl rfl (by decide) ?_
  refine i_getL (c := 2) (k := 1) 6 rfl fl_42 (by decide) rfl ?_
  replace h := h _ rfl
  refine i_putL (c := 2) (k := 1) 7 rfl fl_42 (by decide) ⟨rfl, rfl, rfl⟩ ?_
  exact i_return 8 rfl rfl h
theorem u_X1_becomeLike_0 {l : Launch} {E : xE} (a0 a1 : Int) {M : xM} {Q : Option xV → xM → Prop} (h : ∀ zM1 : xM, zM1 = x_wr M a0 0 (M a1 0) → ∀ zM2 : xM, zM2 = x_wr zM1 a0 1 (zM1 a1 1) → ∀ zM3 : xM, zM3 = x_wr zM2 a0 2 (zM2 a1 2) → ∀ zM4 : xM, zM4 = x_wr zM3 a0 3 (zM3 a1 3) → (((0 : Int) ≤ 0 ∧ (0 : Int) ≤ 0 ∧ (0 : Int) ≤ 9) ∧ (0 : Int) + 9 ≤ 9 ∧ (0 : Int) + 9 ≤ 9) ∧ ∀ zM5 : xM, zM5 = x_cpy zM4 (a1 + 1) 0 (a0 + 1) 0 9 → (((0 : Int) ≤ 0 ∧ (0 : Int) ≤ 0 ∧ (0 : Int) ≤ 12) ∧ (0 : Int) + 12 ≤ 12 ∧ (0 : Int) + 12 ≤ 12) ∧ ∀ zM6 : xM, zM6 = x_cpy zM5 (a1 + 2) 0 (a0 + 2) 0 12 → (((0 : Int) ≤ 0 ∧ (0 : Int) ≤ 0 ∧ (0 : Int) ≤ 4) ∧ (0 : Int) + 4 ≤ 4 ∧ (0 : Int) + 4 ≤ 4) ∧ ∀ zM7 : xM, zM7 = x_cpy zM6 (a1 + 3) 0 (a0 + 3) 0 4 → Q none zM7) : x_Ev l E (2, 0, 0) m_X1_becomeLike 0 [(11, a0), (11, a1)] [] M Q := by
  refine i_aload_n 0 rfl rfl (by decide) ?_
  refine i_aload_n 1 rfl rfl (by decide) ?_
  refine i_getI (c := 1) (k := 0) 2 rfl fl_60 (by decide) (by decide) ?_
  replace h := h _ rfl
  refine i_putI (c := 1) (k := 0) 3 rfl fl_60 (by decide) ⟨rfl, rfl, rfl⟩ ?_
  refine i_aload_n 4 rfl rfl (by decide) ?_
  refine i_aload_n 5 rfl rfl (by decide) ?_
  refine i_getI (c := 1) (k := 1) 6 rfl fl_63 (by decide) (by decide) ?_
  replace h := h _ rfl
  refine i_putI (c := 1) (k := 1) 7 rfl fl_63 (by decide) ⟨rfl, rfl, rfl⟩ ?_
  refine i_aload_n 8 rfl rfl (by decide) ?_
  refine i_aload_n 9 rfl rfl (by decide) ?_
  refine i_getI (c := 1) (k := 2) 10 rfl fl_66 (by decide) (by decide) ?_
  replace h := h _ rfl
  refine i_putI (c := 1) (k := 2) 11 rfl fl_66 (by decide) ⟨rfl, rfl, rfl⟩ ?_
  refine i_aload_n 12 rfl rfl (by decide) ?_
  refine i_aload_n 13 rfl rfl (by decide) ?_
  refine i_getI (c := 1) (k := 3) 14 rfl fl_70 (by decide) (by decide) ?_
  replace h := h _ rfl
  refine i_putI (c := 1) (k := 3) 15 rfl fl_70 (by decide) ⟨rfl, rfl, rfl⟩ ?_
  refine i_aload_n 16 rfl rfl (by decide) ?_
  refine i_getP (c := 1) (k := 4) (t := 101) (b := (a1 + 1)) 17 rfl fl_75 (by decide) rfl (by decide) rfl ?_
  refine i_iconst 18 rfl (by decide) ?_
  refine i_aload_n 19 rfl rfl (by decide) ?_
  refine i_getP (c := 1) (k := 4) (t := 101) (b := (a0 + 1)) 20 rfl fl_75 (by decide) rfl (by decide) rfl ?_
  refine i_iconst 21 rfl (by decide) ?_
  refine i_aload_n 22 rfl rfl (by decide) ?_
  refine i_getP (c := 1) (k := 4) (t := 101) (b := (a0 + 1)) 23 rfl fl_75 (by decide) rfl (by decide) rfl ?_
  refine i_alen (τ := 1) (len := 9) 24 rfl (by decide) (by decide) ?_
  have hb := h.1
  replace h := h.2 _ rfl
  refine i_copy 25 rfl ml_578 cpw (by decide) hb.1.1 hb.1.2.1 hb.1.2.2 hb.2.1 hb.2.2 (Nat.le_of_ble_eq_true rfl) (by decide) ?_
  refine i_aload_n 26 rfl rfl (by decide) ?_
  refine i_getP (c := 1) (k := 5) (t := 102) (b := (a1 + 2)) 27 rfl fl_78 (by decide) rfl (by decide) rfl ?_
  refine i_iconst 28 rfl (by decide) ?_
  refine i_aload_n 29 rfl rfl (by decide) ?_
  refine i_getP (c := 1) (k := 5) (t := 102) (b := (a0 + 2)) 30 rfl fl_78 (by decide) rfl (by decide) rfl ?_
  refine i_iconst 31 rfl (by decide) ?_
  refine i_aload_n 32 rfl rfl (by decide) ?_
  refine i_getP (c := 1) (k := 5) (t := 102) (b := (a0 + 2)) 33 rfl fl_78 (by decide) rfl (by decide) rfl ?_
  refine i_alen (τ := 2) (len := 12) 34 rfl (by decide) (by decide) ?_
  have hb := h.1
  replace h := h.2 _ rfl
  refine i_copy 35 rfl ml_578 cpw (by decide) hb.1.1 hb.1.2.1 hb.1.2.2 hb.2.1 hb.2.2 (Nat.le_of_ble_eq_true rfl) (by decide) ?_
  refine i_aload_n 36 rfl rfl (by decide) ?_
  refine i_getP (c := 1) (k := 6) (t := 103) (b := (a1 + 3)) 37 rfl fl_82 (by decide) rfl (by decide) rfl ?_
  refine i_iconst 38 rfl (by decide) ?_
  refine i_aload_n 39 rfl rfl (by decide) ?_
  refine i_getP (c := 1) (k := 6) (t := 103) (b := (a0 + 3)) 40 rfl fl_82 (by decide) rfl (by decide) rfl ?_
  refine i_iconst 41 rfl (by decide) ?_
  refine i_aload_n 42 rfl rfl (by decide) ?_
  refine i_getP (c := 1) (k := 6) (t := 103) (b := (a0 + 3)) 43 rfl fl_82 (by decide) rfl (by decide) rfl ?_
  refine i_alen (τ := 3) (len := 4) 44 rfl (by decide) (by decide) ?_
  have hb := h.1
  replace h := h.2 _ rfl
  refine i_copy 45 rfl ml_578 cpw (by decide) hb.1.1 hb.1.2.1 hb.1.2.2 hb.2.1 hb.2.2 (Nat.le_of_ble_eq_true rfl) (by decide) ?_
  exact i_return 46 rfl rfl h
theorem u_X3_cutTotal_0 {l : Launch} {E : xE} {M : xM} {Q : Option xV → xM → Prop} (h : x_Ev l E (4, 0, 0) m_X3_standAll 0 [(13, 40), (1, (M 7 0)), (5, 0), (1, (M 7 1)), (5, 0), (5, 0)] [] M (fun r zM1 => r = none ∧ x_Ev l E (4, 0, 0) m_X3_addUp 0 [(13, 40), (0, 1), (0, 0), (12, 48), (5, 0), (5, 0), (5, 0), (5, 0), (5, 0), (5, 0), (5, 0), (5, 0)] [] zM1 (fun r zM2 => r = none ∧ x_Ev l E (1, 0, 0) m_X2_cut 0 [(12, 48)] [] zM2 (fun r zM3 => ∃ zr4, r = some (1, zr4) ∧ Q (some (0, (x_w zr4))) zM3)))) : x_Ev l E (5, 0, 0) m_X3_cutTotal 0 [(13, 40)] [] M Q := by
  refine i_aload_n 0 rfl rfl (by decide) ?_
  refine i_aload_n 1 rfl rfl (by decide) ?_
  refine i_getP (c := 3) (k := 0) (t := 19) (b := 6) 2 rfl fl_253 (by decide) rfl (by decide) rfl ?_
  refine i_getP (c := 9) (k := 5) (t := 12) (b := 7) 3 rfl fl_117 (by decide) rfl (by decide) rfl ?_
  refine i_getL (c := 2) (k := 0) 4 rfl fl_37 (by decide) rfl ?_
  refine i_aload_n 5 rfl rfl (by decide) ?_
  refine i_getP (c := 3) (k := 0) (t := 19) (b := 6) 6 rfl fl_253 (by decide) rfl (by decide) rfl ?_
  refine i_getP (c := 9) (k := 5) (t := 12) (b := 7) 7 rfl fl_117 (by decide) rfl (by decide) rfl ?_
  refine i_getL (c := 2) (k := 1) 8 rfl fl_44 (by decide) rfl ?_
  refine i_callV (c := 3) (y1 := m_X3_standAll) (z1 := (4, 0, 0)) (z2 := (5, 0, 0)) [(1, (M 7 0)), (1, (M 7 1))] 9 rfl ml_791 ok_X3_standAll vk_X3_standAll ⟨by decide, rfl⟩ rfl ⟨rfl, Nat.le_of_ble_eq_true rfl⟩ (Nat.le_of_ble_eq_true rfl) ⟨by decide, rfl, rfl, rfl⟩ ?_
  refine h.mono (fun r zM1 h => ?_)
  obtain ⟨rfl, h⟩ := h
  simp only [Option.toList_some, Option.toList_none, List.cons_append, List.nil_append]
  refine i_aload_n 10 rfl rfl (by decide) ?_
  refine i_iconst 11 rfl (by decide) ?_
  refine i_iconst 12 rfl (by decide) ?_
  refine i_aload_n 13 rfl rfl (by decide) ?_
  refine i_getP (c := 3) (k := 6) (t := 12) (b := 48) 14 rfl fl_264 (by decide) rfl (by decide) rfl ?_
  refine i_callV (c := 3) (y1 := m_X3_addUp) (z1 := (4, 0, 0)) (z2 := (5, 0, 0)) [(0, 1), (0, 0), (12, 48)] 15 rfl ml_792 ok_X3_addUp vk_X3_addUp ⟨by decide, rfl⟩ rfl ⟨rfl, Nat.le_of_ble_eq_true rfl⟩ (Nat.le_of_ble_eq_true rfl) ⟨by decide, rfl, rfl, rfl⟩ ?_
  refine h.mono (fun r zM2 h => ?_)
  obtain ⟨rfl, h⟩ := h
  simp only [Option.toList_some, Option.toList_none, List.cons_append, List.nil_append]
  refine i_aload_n 16 rfl rfl (by decide) ?_
  refine i_getP (c := 3) (k := 6) (t := 12) (b := 48) 17 rfl fl_264 (by decide) rfl (by decide) rfl ?_
  refine i_callV (c := 2) (y1 := m_X2_cut) (z1 := (1, 0, 0)) (z2 := (5, 0, 0)) [] 18 rfl ml_866 ok_X2_cut vk_X2_cut ⟨by decide, rfl⟩ rfl ⟨rfl, Nat.le_of_ble_eq_true rfl⟩ (Nat.le_of_ble_eq_true rfl) ⟨by decide, rfl, rfl, rfl⟩ ?_
  refine h.mono (fun r zM3 h => ?_)
  obtain ⟨zr4, rfl, h⟩ := h
  simp only [Option.toList_some, Option.toList_none, List.cons_append, List.nil_append]
  refine i_l2i 19 rfl ?_
  exact i_ireturn 20 rfl rfl h
theorem u_X9_enter_0 {l : Launch} {E : xE} (a1 : Int) {M : xM} {Q : Option xV → xM → Prop} (h : x_Ev l E (1, 0, 0) m_X10_isSumOver 0 [(1, (M 6 4)), (5, 0), (1, a1), (5, 0), (5, 0), (5, 0)] [] M (fun r zM1 => ∃ zr2, r = some (0, zr2) ∧ (zr2 = 0 → ∀ zM3 : xM, zM3 = x_wr zM1 6 4 (x_W ((zM1 6 4) + a1)) → ∀ zM4 : xM, zM4 = x_wr zM3 6 2 (x_w ((zM3 6 2) + 1)) → Q (some (0, 1)) zM4) ∧ (¬ zr2 = 0 → Q (some (0, 0)) zM1))) : x_Ev l E (2, 0, 0) m_X9_enter 0 [(19, 6), (0, a1)] [] M Q := by
  refine i_aload_n 0 rfl rfl (by decide) ?_
  refine i_getL (c := 9) (k := 4) 1 rfl fl_114 (by decide) rfl ?_
  refine i_iload_n 2 rfl rfl ?_
  refine i_i2l 3 rfl ?_
  refine i_callSN (y1 := m_X10_isSumOver) (z1 := (1, 0, 0)) (z2 := (2, 0, 0)) [(1, (M 6 4)), (1, a1)] 4 rfl ml_874 ok_X10_isSumOver vk_X10_isSumOver rfl ⟨rfl, Nat.le_of_ble_eq_true rfl⟩ (Nat.le_of_ble_eq_true rfl) ⟨by decide, rfl, rfl, rfl⟩ ?_
  refine h.mono (fun r zM1 h => ?_)
  obtain ⟨zr2, rfl, h⟩ := h
  simp only [Option.toList_some, Option.toList_none, List.cons_append, List.nil_append]
  refine i_if_eq 14 5 rfl (by decide) (fun c => ?_) (fun c => ?_)
  · replace h := h.1 c
    refine i_aload_n 8 rfl rfl (by decide) ?_
    refine i_dup 9 rfl (Nat.ne_of_beq_eq_false rfl) ?_
    refine i_getL (c := 9) (k := 4) 10 rfl fl_114 (by decide) rfl ?_
    refine i_iload_n 11 rfl rfl ?_
    refine i_i2l 12 rfl ?_
    refine i_ladd 13 rfl ?_
    replace h := h _ rfl
    refine i_putL (c := 9) (k := 4) 14 rfl fl_114 (by decide) ⟨rfl, rfl, rfl⟩ ?_
    refine i_aload_n 15 rfl rfl (by decide) ?_
    refine i_dup 16 rfl (Nat.ne_of_beq_eq_false rfl) ?_
    refine i_getI (c := 9) (k := 2) 17 rfl fl_110 (by decide) (by decide) ?_
    refine i_iconst 18 rfl (by decide) ?_
    refine i_iadd 19 rfl ?_
    replace h := h _ rfl
    refine i_putI (c := 9) (k := 2) 20 rfl fl_110 (by decide) ⟨rfl, rfl, rfl⟩ ?_
    refine i_iconst 21 rfl (by decide) ?_
    exact i_zreturn 22 rfl rfl (by decide) h
  · replace h := h.2 c
    refine i_iconst 6 rfl (by decide) ?_
    exact i_zreturn 7 rfl rfl (by decide) h
theorem u_X9_drawTerm_0 {l : Launch} {E : xE} {M : xM} {Q : Option xV → xM → Prop} (h : ∀ zM1 : xM, zM1 = x_wr M 6 3 (x_w ((x_w ((M 6 3) * 1103515245)) + 12345)) → ((zM1 6 1) ≤ 0 → Q none zM1) ∧ (¬ (zM1 6 1) ≤ 0 → ((x_w ((zM1 6 1) + 1)) ≠ 0) ∧ x_Ev l E (2, 0, 0) m_X2_put 0 [(12, 7), (1, ((x_iushr (zM1 6 3) 8).tmod (x_w ((zM1 6 1) + 1)))), (5, 0), (1, 1), (5, 0), (5, 0), (5, 0)] [] zM1 (fun r zM2 => r = none ∧ Q none zM2))) : x_Ev l E (3, 0, 0) m_X9_drawTerm 0 [(19, 6)] [] M Q := by
  refine i_aload_n 0 rfl rfl (by decide) ?_
  refine i_aload_n 1 rfl rfl (by decide) ?_
  refine i_getI (c := 9) (k := 3) 2 rfl fl_112 (by decide) (by decide) ?_
  refine i_ldc (v := 1103515245) 3 rfl cw_885 (by decide) ?_
  refine i_imul 4 rfl ?_
  refine i_sipush 5 rfl (by decide) ?_
  refine i_iadd 6 rfl ?_
  replace h := h _ rfl
  refine i_putI (c := 9) (k := 3) 7 rfl fl_112 (by decide) ⟨rfl, rfl, rfl⟩ ?_
  refine i_aload_n 8 rfl rfl (by decide) ?_
  refine i_getI (c := 9) (k := 1) 9 rfl fl_107 (by decide) (by decide) ?_
  refine i_if_le 45 10 rfl (by decide) (fun c => ?_) (fun c => ?_)
  · replace h := h.1 c
    exact i_return 25 rfl rfl h
  · replace h := h.2 c
    refine i_aload_n 11 rfl rfl (by decide) ?_
    refine i_getP (c := 9) (k := 5) (t := 12) (b := 7) 12 rfl fl_116 (by decide) rfl (by decide) rfl ?_
    refine i_aload_n 13 rfl rfl (by decide) ?_
    refine i_getI (c := 9) (k := 3) 14 rfl fl_112 (by decide) (by decide) ?_
    refine i_bipush 15 rfl (by decide) ?_
    refine i_iushr 16 rfl ?_
    refine i_aload_n 17 rfl rfl (by decide) ?_
    refine i_getI (c := 9) (k := 1) 18 rfl fl_107 (by decide) (by decide) ?_
    refine i_iconst 19 rfl (by decide) ?_
    refine i_iadd 20 rfl ?_
    refine i_irem 21 rfl h.1 ?_
    replace h := h.2
    refine i_i2l 22 rfl ?_
    refine i_lconst (w := 1) 23 rfl (by decide) ?_
    refine i_callV (c := 2) (y1 := m_X2_put) (z1 := (2, 0, 0)) (z2 := (3, 0, 0)) [(1, ((x_iushr ((x_wr M 6 3 (x_w ((x_w ((M 6 3) * 1103515245)) + 12345))) 6 3) 8).tmod (x_w (((x_wr M 6 3 (x_w ((x_w ((M 6 3) * 1103515245)) + 12345))) 6 1) + 1)))), (1, 1)] 24 rfl ml_886 ok_X2_put vk_X2_put ⟨by decide, rfl⟩ rfl ⟨rfl, Nat.le_of_ble_eq_true rfl⟩ (Nat.le_of_ble_eq_true rfl) ⟨by decide, rfl, rfl, rfl⟩ ?_
    refine h.mono (fun r zM2 h => ?_)
    obtain ⟨rfl, h⟩ := h
    simp only [Option.toList_some, Option.toList_none, List.cons_append, List.nil_append]
    exact i_return 25 rfl rfl h
theorem u_X3_tellPiece_0_v2 {l : Launch} {E : xE} (a1 a3 : Int) {M : xM} {Q : Option xV → xM → Prop} (h : (a1 < 0 → Q none M) ∧ (¬ a1 < 0 → ((M 42 0) < a1 → Q none M) ∧ (¬ (M 42 0) < a1 → (a3 < 0 → Q none M) ∧ (¬ a3 < 0 → ((x_w (a3 + 6)) ≤ 168 → (¬ a1 = 0 → ((0 : Int) ≤ (x_w (a1 - 1)) ∧ ((x_w (a1 - 1)) : Int) < 27) ∧ ((0 : Int) ≤ (x_w (a1 - 1)) ∧ ((x_w (a1 - 1)) : Int) < 27) ∧ x_Ev l E (4, 0, 0) m_X3_standAll 0 [(13, 40), (1, (M 43 (x_w (a1 - 1)))), (5, 0), (1, (M 44 (x_w (a1 - 1)))), (5, 0), (5, 0)] [] M (fun r zM1 => r = none ∧ x_Ev l E (4, 0, 0) m_X3_addUp 0 [(13, 40), (0, 0), (0, 2), (12, 48), (5, 0), (5, 0), (5, 0), (5, 0), (5, 0), (5, 0), (5, 0), (5, 0)] [] zM1 (fun r zM2 => r = none ∧ x_Ev l E (1, 0, 0) m_X3_putSum 0 [(13, 40), (117, 100), (0, a3)] [] zM2 (fun r zM3 => r = none ∧ x_Ev l E (4, 0, 0) m_X3_addUp 0 [(13, 40), (0, 1), (0, 2), (12, 48), (5, 0), (5, 0), (5, 0), (5, 0), (5, 0), (5, 0), (5, 0), (5, 0)] [] zM3 (fun r zM4 => r = none ∧ x_Ev l E (1, 0, 0) m_X3_putSum 0 [(13, 40), (117, 100), (0, (x_w (a3 + 2)))] [] zM4 (fun r zM5 => r = none ∧ (¬ a1 = (zM5 42 0) → ((0 : Int) ≤ a1 ∧ (a1 : Int) < 27) ∧ ((0 : Int) ≤ a1 ∧ (a1 : Int) < 27) ∧ x_Ev l E (4, 0, 0) m_X3_standAll 0 [(13, 40), (1, (zM5 43 a1)), (5, 0), (1, (zM5 44 a1)), (5, 0), (5, 0)] [] zM5 (fun r zM6 => r = none ∧ x_Ev l E (4, 0, 0) m_X3_addUp 0 [(13, 40), (0, 1), (0, 1), (12, 48), (5, 0), (5, 0), (5, 0), (5, 0), (5, 0), (5, 0), (5, 0), (5, 0)] [] zM6 (fun r zM7 => r = none ∧ x_Ev l E (1, 0, 0) m_X3_putSum 0 [(13, 40), (117, 100), (0, (x_w (a3 + 4)))] [] zM7 (fun r zM8 => r = none ∧ Q none zM8)))) ∧ (a1 = (zM5 42 0) → x_Ev l E (4, 0, 0) m_X3_standAll 0 [(13, 40), (1, (zM5 6 1)), (5, 0), (1, 1), (5, 0), (5, 0)] [] zM5 (fun r zM9 => r = none ∧ x_Ev l E (4, 0, 0) m_X3_addUp 0 [(13, 40), (0, 1), (0, 1), (12, 48), (5, 0), (5, 0), (5, 0), (5, 0), (5, 0), (5, 0), (5, 0), (5, 0)] [] zM9 (fun r zM10 => r = none ∧ x_Ev l E (1, 0, 0) m_X3_putSum 0 [(13, 40), (117, 100), (0, (x_w (a3 + 4)))] [] zM10 (fun r zM11 => r = none ∧ Q none zM11)))))))))) ∧ (a1 = 0 → x_Ev l E (4, 0, 0) m_X3_standAll 0 [(13, 40), (1, 0), (5, 0), (1, 1), (5, 0), (5, 0)] [] M (fun r zM12 => r = none ∧ x_Ev l E (4, 0, 0) m_X3_addUp 0 [(13, 40), (0, 0), (0, 2), (12, 48), (5, 0), (5, 0), (5, 0), (5, 0), (5, 0), (5, 0), (5, 0), (5, 0)] [] zM12 (fun r zM13 => r = none ∧ x_Ev l E (1, 0, 0) m_X3_putSum 0 [(13, 40), (117, 100), (0, a3)] [] zM13 (fun r zM14 => r = none ∧ x_Ev l E (4, 0, 0) m_X3_addUp 0 [(13, 40), (0, 1), (0, 2), (12, 48), (5, 0), (5, 0), (5, 0), (5, 0), (5, 0), (5, 0), (5, 0), (5, 0)] [] zM14 (fun r zM15 => r = none ∧ x_Ev l E (1, 0, 0) m_X3_putSum 0 [(13, 40), (117, 100), (0, (x_w (a3 + 2)))] [] zM15 (fun r zM16 => r = none ∧ (¬ a1 = (zM16 42 0) → ((0 : Int) ≤ a1 ∧ (a1 : Int) < 27) ∧ ((0 : Int) ≤ a1 ∧ (a1 : Int) < 27) ∧ x_Ev l E (4, 0, 0) m_X3_standAll 0 [(13, 40), (1, (zM16 43 a1)), (5, 0), (1, (zM16 44 a1)), (5, 0), (5, 0)] [] zM16 (fun r zM17 => r = none ∧ x_Ev l E (4, 0, 0) m_X3_addUp 0 [(13, 40), (0, 1), (0, 1), (12, 48), (5, 0), (5, 0), (5, 0), (5, 0), (5, 0), (5, 0), (5, 0), (5, 0)] [] zM17 (fun r zM18 => r = none ∧ x_Ev l E (1, 0, 0) m_X3_putSum 0 [(13, 40), (117, 100), (0, (x_w (a3 + 4)))] [] zM18 (fun r zM19 => r = none ∧ Q none zM19)))) ∧ (a1 = (zM16 42 0) → x_Ev l E (4, 0, 0) m_X3_standAll 0 [(13, 40), (1, (zM16 6 1)), (5, 0), (1, 1), (5, 0), (5, 0)] [] zM16 (fun r zM20 => r = none ∧ x_Ev l E (4, 0, 0) m_X3_addUp 0 [(13, 40), (0, 1), (0, 1), (12, 48), (5, 0), (5, 0), (5, 0), (5, 0), (5, 0), (5, 0), (5, 0), (5, 0)] [] zM20 (fun r zM21 => r = none ∧ x_Ev l E (1, 0, 0) m_X3_putSum 0 [(13, 40), (117, 100), (0, (x_w (a3 + 4)))] [] zM21 (fun r zM22 => r = none ∧ Q none zM22))))))))))) ∧ (¬ (x_w (a3 + 6)) ≤ 168 → Q none M))))) : x_Ev l E (5, 0, 0) m_X3_tellPiece 0 [(13, 40), (0, a1), (117, 100), (0, a3)] [] M Q := by
  refine i_iload_n 0 rfl rfl ?_
  refine i_if_lt 28 1 rfl (by decide) (fun c => ?_) (fun c => ?_)
  · replace h := h.1 c
    exact i_return 15 rfl rfl h
  · replace h := h.2 c
    refine i_iload_n 2 rfl rfl ?_
    refine i_aload_n 3 rfl rfl (by decide) ?_
    refine i_getP (c := 3) (k := 2) (t := 10) (b := 42) 4 rfl fl_256 (by decide) rfl (by decide) rfl ?_
    refine i_getI (c := 0) (k := 0) 5 rfl fl_178 (by decide) (by decide) ?_
    refine i_icmp_gt 28 6 rfl (by decide) (fun c => ?_) (fun c => ?_)
    · replace h := h.1 c
      exact i_return 15 rfl rfl h
    · replace h := h.2 c
      refine i_iload_n 7 rfl rfl ?_
      refine i_if_lt 28 8 rfl (by decide) (fun c => ?_) (fun c => ?_)
      · replace h := h.1 c
        exact i_return 15 rfl rfl h
      · replace h := h.2 c
        refine i_iload_n 9 rfl rfl ?_
        refine i_bipush 10 rfl (by decide) ?_
        refine i_iadd 11 rfl ?_
        refine i_aload_n 12 rfl rfl (by decide) ?_
        refine i_alen (τ := 17) (len := 168) 13 rfl (by decide) (by decide) ?_
        refine i_icmp_le 29 14 rfl (by decide) (fun c => ?_) (fun c => ?_)
        · replace h := h.1 c
          refine i_iload_n 16 rfl rfl ?_
          refine i_if_ne 42 17 rfl (by decide) (fun c => ?_) (fun c => ?_)
          · replace h := h.1 c
            refine i_aload_n 23 rfl rfl (by decide) ?_
            refine i_aload_n 24 rfl rfl (by decide) ?_
            refine i_getP (c := 3) (k := 2) (t := 10) (b := 42) 25 rfl fl_256 (by decide) rfl (by decide) rfl ?_
            refine i_getP (c := 0) (k := 1) (t := 107) (b := 43) 26 rfl fl_181 (by decide) rfl (by decide) rfl ?_
            refine i_iload_n 27 rfl rfl ?_
            refine i_iconst 28 rfl (by decide) ?_
            refine i_isub 29 rfl ?_
            refine i_lald (τ := 7) 30 rfl ⟨rfl, rfl, rfl, by decide⟩ h.1.1 h.1.2 ?_
            replace h := h.2
            refine i_aload_n 31 rfl rfl (by decide) ?_
            refine i_getP (c := 3) (k := 2) (t := 10) (b := 42) 32 rfl fl_256 (by decide) rfl (by decide) rfl ?_
            refine i_getP (c := 0) (k := 2) (t := 107) (b := 44) 33 rfl fl_184 (by decide) rfl (by decide) rfl ?_
            refine i_iload_n 34 rfl rfl ?_
            refine i_iconst 35 rfl (by decide) ?_
            refine i_isub 36 rfl ?_
            refine i_lald (τ := 7) 37 rfl ⟨rfl, rfl, rfl, by decide⟩ h.1.1 h.1.2 ?_
            replace h := h.2
            refine i_callV (c := 3) (y1 := m_X3_standAll) (z1 := (4, 0, 0)) (z2 := (5, 0, 0)) [(1, (M 43 (x_w (a1 - 1)))), (1, (M 44 (x_w (a1 - 1))))] 38 rfl ml_791 ok_X3_standAll vk_X3_standAll ⟨by decide, rfl⟩ rfl ⟨rfl, Nat.le_of_ble_eq_true rfl⟩ (Nat.le_of_ble_eq_true rfl) ⟨by decide, rfl, rfl, rfl⟩ ?_
            refine h.mono (fun r zM1 h => ?_)
            obtain ⟨rfl, h⟩ := h
            simp only [Option.toList_some, Option.toList_none, List.cons_append, List.nil_append]
            refine i_aload_n 39 rfl rfl (by decide) ?_
            refine i_iconst 40 rfl (by decide) ?_
            refine i_iconst 41 rfl (by decide) ?_
            refine i_aload_n 42 rfl rfl (by decide) ?_
            refine i_getP (c := 3) (k := 6) (t := 12) (b := 48) 43 rfl fl_264 (by decide) rfl (by decide) rfl ?_
            refine i_callV (c := 3) (y1 := m_X3_addUp) (z1 := (4, 0, 0)) (z2 := (5, 0, 0)) [(0, 0), (0, 2), (12, 48)] 44 rfl ml_792 ok_X3_addUp vk_X3_addUp ⟨by decide, rfl⟩ rfl ⟨rfl, Nat.le_of_ble_eq_true rfl⟩ (Nat.le_of_ble_eq_true rfl) ⟨by decide, rfl, rfl, rfl⟩ ?_
            refine h.mono (fun r zM2 h => ?_)
            obtain ⟨rfl, h⟩ := h
            simp only [Option.toList_some, Option.toList_none, List.cons_append, List.nil_append]
            refine i_aload_n 45 rfl rfl (by decide) ?_
            refine i_aload_n 46 rfl rfl (by decide) ?_
            refine i_iload_n 47 rfl rfl ?_
            refine i_callV (c := 3) (y1 := m_X3_putSum) (z1 := (1, 0, 0)) (z2 := (5, 0, 0)) [(117, 100), (0, a3)] 48 rfl ml_793 ok_X3_putSum vk_X3_putSum ⟨by decide, rfl⟩ rfl ⟨rfl, Nat.le_of_ble_eq_true rfl⟩ (Nat.le_of_ble_eq_true rfl) ⟨by decide, rfl, rfl, rfl⟩ ?_
            refine h.mono (fun r zM3 h => ?_)
            obtain ⟨rfl, h⟩ := h
            simp only [Option.toList_some, Option.toList_none, List.cons_append, List.nil_append]
            refine i_aload_n 49 rfl rfl (by decide) ?_
            refine i_iconst 50 rfl (by decide) ?_
            refine i_iconst 51 rfl (by decide) ?_
            refine i_aload_n 52 rfl rfl (by decide) ?_
            refine i_getP (c := 3) (k := 6) (t := 12) (b := 48) 53 rfl fl_264 (by decide) rfl (by decide) rfl ?_
            refine i_callV (c := 3) (y1 := m_X3_addUp) (z1 := (4, 0, 0)) (z2 := (5, 0, 0)) [(0, 1), (0, 2), (12, 48)] 54 rfl ml_792 ok_X3_addUp vk_X3_addUp ⟨by decide, rfl⟩ rfl ⟨rfl, Nat.le_of_ble_eq_true rfl⟩ (Nat.le_of_ble_eq_true rfl) ⟨by decide, rfl, rfl, rfl⟩ ?_
            refine h.mono (fun r zM4 h => ?_)
            obtain ⟨rfl, h⟩ := h
            simp only [Option.toList_some, Option.toList_none, List.cons_append, List.nil_append]
            refine i_aload_n 55 rfl rfl (by decide) ?_
            refine i_aload_n 56 rfl rfl (by decide) ?_
            refine i_iload_n 57 rfl rfl ?_
            refine i_iconst 58 rfl (by decide) ?_
            refine i_iadd 59 rfl ?_
            refine i_callV (c := 3) (y1 := m_X3_putSum) (z1 := (1, 0, 0)) (z2 := (5, 0, 0)) [(117, 100), (0, (x_w (a3 + 2)))] 60 rfl ml_793 ok_X3_putSum vk_X3_putSum ⟨by decide, rfl⟩ rfl ⟨rfl, Nat.le_of_ble_eq_true rfl⟩ (Nat.le_of_ble_eq_true rfl) ⟨by decide, rfl, rfl, rfl⟩ ?_
            refine h.mono (fun r zM5 h => ?_)
            obtain ⟨rfl, h⟩ := h
            simp only [Option.toList_some, Option.toList_none, List.cons_append, List.nil_append]
            refine i_iload_n 61 rfl rfl ?_
            refine i_aload_n 62 rfl rfl (by decide) ?_
            refine i_getP (c := 3) (k := 2) (t := 10) (b := 42) 63 rfl fl_256 (by decide) rfl (by decide) rfl ?_
            refine i_getI (c := 0) (k := 0) 64 rfl fl_178 (by decide) (by decide) ?_
            refine i_icmp_ne 129 65 rfl (by decide) (fun c => ?_) (fun c => ?_)
            · replace h := h.1 c
              refine i_aload_n 74 rfl rfl (by decide) ?_
              refine i_aload_n 75 rfl rfl (by decide) ?_
              refine i_getP (c := 3) (k := 2) (t := 10) (b := 42) 76 rfl fl_256 (by decide) rfl (by decide) rfl ?_
              refine i_getP (c := 0) (k := 1) (t := 107) (b := 43) 77 rfl fl_181 (by decide) rfl (by decide) rfl ?_
              refine i_iload_n 78 rfl rfl ?_
              refine i_lald (τ := 7) 79 rfl ⟨rfl, rfl, rfl, by decide⟩ h.1.1 h.1.2 ?_
              replace h := h.2
              refine i_aload_n 80 rfl rfl (by decide) ?_
              refine i_getP (c := 3) (k := 2) (t := 10) (b := 42) 81 rfl fl_256 (by decide) rfl (by decide) rfl ?_
              refine i_getP (c := 0) (k := 2) (t := 107) (b := 44) 82 rfl fl_184 (by decide) rfl (by decide) rfl ?_
              refine i_iload_n 83 rfl rfl ?_
              refine i_lald (τ := 7) 84 rfl ⟨rfl, rfl, rfl, by decide⟩ h.1.1 h.1.2 ?_
              replace h := h.2
              refine i_callV (c := 3) (y1 := m_X3_standAll) (z1 := (4, 0, 0)) (z2 := (5, 0, 0)) [(1, (zM5 43 a1)), (1, (zM5 44 a1))] 85 rfl ml_791 ok_X3_standAll vk_X3_standAll ⟨by decide, rfl⟩ rfl ⟨rfl, Nat.le_of_ble_eq_true rfl⟩ (Nat.le_of_ble_eq_true rfl) ⟨by decide, rfl, rfl, rfl⟩ ?_
              refine h.mono (fun r zM6 h => ?_)
              obtain ⟨rfl, h⟩ := h
              simp only [Option.toList_some, Option.toList_none, List.cons_append, List.nil_append]
              refine i_aload_n 86 rfl rfl (by decide) ?_
              refine i_iconst 87 rfl (by decide) ?_
              refine i_iconst 88 rfl (by decide) ?_
              refine i_aload_n 89 rfl rfl (by decide) ?_
              refine i_getP (c := 3) (k := 6) (t := 12) (b := 48) 90 rfl fl_264 (by decide) rfl (by decide) rfl ?_
              refine i_callV (c := 3) (y1 := m_X3_addUp) (z1 := (4, 0, 0)) (z2 := (5, 0, 0)) [(0, 1), (0, 1), (12, 48)] 91 rfl ml_792 ok_X3_addUp vk_X3_addUp ⟨by decide, rfl⟩ rfl ⟨rfl, Nat.le_of_ble_eq_true rfl⟩ (Nat.le_of_ble_eq_true rfl) ⟨by decide, rfl, rfl, rfl⟩ ?_
              refine h.mono (fun r zM7 h => ?_)
              obtain ⟨rfl, h⟩ := h
              simp only [Option.toList_some, Option.toList_none, List.cons_append, List.nil_append]
              refine i_aload_n 92 rfl rfl (by decide) ?_
              refine i_aload_n 93 rfl rfl (by decide) ?_
              refine i_iload_n 94 rfl rfl ?_
              refine i_iconst 95 rfl (by decide) ?_
              refine i_iadd 96 rfl ?_
              refine i_callV (c := 3) (y1 := m_X3_putSum) (z1 := (1, 0, 0)) (z2 := (5, 0, 0)) [(117, 100), (0, (x_w (a3 + 4)))] 97 rfl ml_793 ok_X3_putSum vk_X3_putSum ⟨by decide, rfl⟩ rfl ⟨rfl, Nat.le_of_ble_eq_true rfl⟩ (Nat.le_of_ble_eq_true rfl) ⟨by decide, rfl, rfl, rfl⟩ ?_
              refine h.mono (fun r zM8 h => ?_)
              obtain ⟨rfl, h⟩ := h
              simp only [Option.toList_some, Option.toList_none, List.cons_append, List.nil_append]
              exact i_return 98 rfl rfl h
            · replace h := h.2 c
              refine i_aload_n 66 rfl rfl (by decide) ?_
              refine i_aload_n 67 rfl rfl (by decide) ?_
              refine i_getP (c := 3) (k := 0) (t := 19) (b := 6) 68 rfl fl_253 (by decide) rfl (by decide) rfl ?_
              refine i_getI (c := 9) (k := 1) 69 rfl fl_108 (by decide) (by decide) ?_
              refine i_i2l 70 rfl ?_
              refine i_lconst (w := 1) 71 rfl (by decide) ?_
              refine i_callV (c := 3) (y1 := m_X3_standAll) (z1 := (4, 0, 0)) (z2 := (5, 0, 0)) [(1, (zM5 6 1)), (1, 1)] 72 rfl ml_791 ok_X3_standAll vk_X3_standAll ⟨by decide, rfl⟩ rfl ⟨rfl, Nat.le_of_ble_eq_true rfl⟩ (Nat.le_of_ble_eq_true rfl) ⟨by decide, rfl, rfl, rfl⟩ ?_
              refine h.mono (fun r zM9 h => ?_)
              obtain ⟨rfl, h⟩ := h
              simp only [Option.toList_some, Option.toList_none, List.cons_append, List.nil_append]
              refine i_goto 151 73 rfl (by decide) ?_
              refine i_aload_n 86 rfl rfl (by decide) ?_
              refine i_iconst 87 rfl (by decide) ?_
              refine i_iconst 88 rfl (by decide) ?_
              refine i_aload_n 89 rfl rfl (by decide) ?_
              refine i_getP (c := 3) (k := 6) (t := 12) (b := 48) 90 rfl fl_264 (by decide) rfl (by decide) rfl ?_
              refine i_callV (c := 3) (y1 := m_X3_addUp) (z1 := (4, 0, 0)) (z2 := (5, 0, 0)) [(0, 1), (0, 1), (12, 48)] 91 rfl ml_792 ok_X3_addUp vk_X3_addUp ⟨by decide, rfl⟩ rfl ⟨rfl, Nat.le_of_ble_eq_true rfl⟩ (Nat.le_of_ble_eq_true rfl) ⟨by decide, rfl, rfl, rfl⟩ ?_
              refine h.mono (fun r zM10 h => ?_)
              obtain ⟨rfl, h⟩ := h
              simp only [Option.toList_some, Option.toList_none, List.cons_append, List.nil_append]
              refine i_aload_n 92 rfl rfl (by decide) ?_
              refine i_aload_n 93 rfl rfl (by decide) ?_
              refine i_iload_n 94 rfl rfl ?_
              refine i_iconst 95 rfl (by decide) ?_
              refine i_iadd 96 rfl ?_
              refine i_callV (c := 3) (y1 := m_X3_putSum) (z1 := (1, 0, 0)) (z2 := (5, 0, 0)) [(117, 100), (0, (x_w (a3 + 4)))] 97 rfl ml_793 ok_X3_putSum vk_X3_putSum ⟨by decide, rfl⟩ rfl ⟨rfl, Nat.le_of_ble_eq_true rfl⟩ (Nat.le_of_ble_eq_true rfl) ⟨by decide, rfl, rfl, rfl⟩ ?_
              refine h.mono (fun r zM11 h => ?_)
              obtain ⟨rfl, h⟩ := h
              simp only [Option.toList_some, Option.toList_none, List.cons_append, List.nil_append]
              exact i_return 98 rfl rfl h
          · replace h := h.2 c
            refine i_aload_n 18 rfl rfl (by decide) ?_
            refine i_lconst (w := 0) 19 rfl (by decide) ?_
            refine i_lconst (w := 1) 20 rfl (by decide) ?_
            refine i_callV (c := 3) (y1 := m_X3_standAll) (z1 := (4, 0, 0)) (z2 := (5, 0, 0)) [(1, 0), (1, 1)] 21 rfl ml_791 ok_X3_standAll vk_X3_standAll ⟨by decide, rfl⟩ rfl ⟨rfl, Nat.le_of_ble_eq_true rfl⟩ (Nat.le_of_ble_eq_true rfl) ⟨by decide, rfl, rfl, rfl⟩ ?_
            refine h.mono (fun r zM12 h => ?_)
            obtain ⟨rfl, h⟩ := h
            simp only [Option.toList_some, Option.toList_none, List.cons_append, List.nil_append]
            refine i_goto 68 22 rfl (by decide) ?_
            refine i_aload_n 39 rfl rfl (by decide) ?_
            refine i_iconst 40 rfl (by decide) ?_
            refine i_iconst 41 rfl (by decide) ?_
            refine i_aload_n 42 rfl rfl (by decide) ?_
            refine i_getP (c := 3) (k := 6) (t := 12) (b := 48) 43 rfl fl_264 (by decide) rfl (by decide) rfl ?_
            refine i_callV (c := 3) (y1 := m_X3_addUp) (z1 := (4, 0, 0)) (z2 := (5, 0, 0)) [(0, 0), (0, 2), (12, 48)] 44 rfl ml_792 ok_X3_addUp vk_X3_addUp ⟨by decide, rfl⟩ rfl ⟨rfl, Nat.le_of_ble_eq_true rfl⟩ (Nat.le_of_ble_eq_true rfl) ⟨by decide, rfl, rfl, rfl⟩ ?_
            refine h.mono (fun r zM13 h => ?_)
            obtain ⟨rfl, h⟩ := h
            simp only [Option.toList_some, Option.toList_none, List.cons_append, List.nil_append]
            refine i_aload_n 45 rfl rfl (by decide) ?_
            refine i_aload_n 46 rfl rfl (by decide) ?_
            refine i_iload_n 47 rfl rfl ?_
            refine i_callV (c := 3) (y1 := m_X3_putSum) (z1 := (1, 0, 0)) (z2 := (5, 0, 0)) [(117, 100), (0, a3)] 48 rfl ml_793 ok_X3_putSum vk_X3_putSum ⟨by decide, rfl⟩ rfl ⟨rfl, Nat.le_of_ble_eq_true rfl⟩ (Nat.le_of_ble_eq_true rfl) ⟨by decide, rfl, rfl, rfl⟩ ?_
            refine h.mono (fun r zM14 h => ?_)
            obtain ⟨rfl, h⟩ := h
            simp only [Option.toList_some, Option.toList_none, List.cons_append, List.nil_append]
            refine i_aload_n 49 rfl rfl (by decide) ?_
            refine i_iconst 50 rfl (by decide) ?_
            refine i_iconst 51 rfl (by decide) ?_
            refine i_aload_n 52 rfl rfl (by decide) ?_
            refine i_getP (c := 3) (k := 6) (t := 12) (b := 48) 53 rfl fl_264 (by decide) rfl (by decide) rfl ?_
            refine i_callV (c := 3) (y1 := m_X3_addUp) (z1 := (4, 0, 0)) (z2 := (5, 0, 0)) [(0, 1), (0, 2), (12, 48)] 54 rfl ml_792 ok_X3_addUp vk_X3_addUp ⟨by decide, rfl⟩ rfl ⟨rfl, Nat.le_of_ble_eq_true rfl⟩ (Nat.le_of_ble_eq_true rfl) ⟨by decide, rfl, rfl, rfl⟩ ?_
            refine h.mono (fun r zM15 h => ?_)
            obtain ⟨rfl, h⟩ := h
            simp only [Option.toList_some, Option.toList_none, List.cons_append, List.nil_append]
            refine i_aload_n 55 rfl rfl (by decide) ?_
            refine i_aload_n 56 rfl rfl (by decide) ?_
            refine i_iload_n 57 rfl rfl ?_
            refine i_iconst 58 rfl (by decide) ?_
            refine i_iadd 59 rfl ?_
            refine i_callV (c := 3) (y1 := m_X3_putSum) (z1 := (1, 0, 0)) (z2 := (5, 0, 0)) [(117, 100), (0, (x_w (a3 + 2)))] 60 rfl ml_793 ok_X3_putSum vk_X3_putSum ⟨by decide, rfl⟩ rfl ⟨rfl, Nat.le_of_ble_eq_true rfl⟩ (Nat.le_of_ble_eq_true rfl) ⟨by decide, rfl, rfl, rfl⟩ ?_
            refine h.mono (fun r zM16 h => ?_)
            obtain ⟨rfl, h⟩ := h
            simp only [Option.toList_some, Option.toList_none, List.cons_append, List.nil_append]
            refine i_iload_n 61 rfl rfl ?_
            refine i_aload_n 62 rfl rfl (by decide) ?_
            refine i_getP (c := 3) (k := 2) (t := 10) (b := 42) 63 rfl fl_256 (by decide) rfl (by decide) rfl ?_
            refine i_getI (c := 0) (k := 0) 64 rfl fl_178 (by decide) (by decide) ?_
            refine i_icmp_ne 129 65 rfl (by decide) (fun c => ?_) (fun c => ?_)
            · replace h := h.1 c
              refine i_aload_n 74 rfl rfl (by decide) ?_
              refine i_aload_n 75 rfl rfl (by decide) ?_
              refine i_getP (c := 3) (k := 2) (t := 10) (b := 42) 76 rfl fl_256 (by decide) rfl (by decide) rfl ?_
              refine i_getP (c := 0) (k := 1) (t := 107) (b := 43) 77 rfl fl_181 (by decide) rfl (by decide) rfl ?_
              refine i_iload_n 78 rfl rfl ?_
              refine i_lald (τ := 7) 79 rfl ⟨rfl, rfl, rfl, by decide⟩ h.1.1 h.1.2 ?_
              replace h := h.2
              refine i_aload_n 80 rfl rfl (by decide) ?_
              refine i_getP (c := 3) (k := 2) (t := 10) (b := 42) 81 rfl fl_256 (by decide) rfl (by decide) rfl ?_
              refine i_getP (c := 0) (k := 2) (t := 107) (b := 44) 82 rfl fl_184 (by decide) rfl (by decide) rfl ?_
              refine i_iload_n 83 rfl rfl ?_
              refine i_lald (τ := 7) 84 rfl ⟨rfl, rfl, rfl, by decide⟩ h.1.1 h.1.2 ?_
              replace h := h.2
              refine i_callV (c := 3) (y1 := m_X3_standAll) (z1 := (4, 0, 0)) (z2 := (5, 0, 0)) [(1, (zM16 43 a1)), (1, (zM16 44 a1))] 85 rfl ml_791 ok_X3_standAll vk_X3_standAll ⟨by decide, rfl⟩ rfl ⟨rfl, Nat.le_of_ble_eq_true rfl⟩ (Nat.le_of_ble_eq_true rfl) ⟨by decide, rfl, rfl, rfl⟩ ?_
              refine h.mono (fun r zM17 h => ?_)
              obtain ⟨rfl, h⟩ := h
              simp only [Option.toList_some, Option.toList_none, List.cons_append, List.nil_append]
              refine i_aload_n 86 rfl rfl (by decide) ?_
              refine i_iconst 87 rfl (by decide) ?_
              refine i_iconst 88 rfl (by decide) ?_
              refine i_aload_n 89 rfl rfl (by decide) ?_
              refine i_getP (c := 3) (k := 6) (t := 12) (b := 48) 90 rfl fl_264 (by decide) rfl (by decide) rfl ?_
              refine i_callV (c := 3) (y1 := m_X3_addUp) (z1 := (4, 0, 0)) (z2 := (5, 0, 0)) [(0, 1), (0, 1), (12, 48)] 91 rfl ml_792 ok_X3_addUp vk_X3_addUp ⟨by decide, rfl⟩ rfl ⟨rfl, Nat.le_of_ble_eq_true rfl⟩ (Nat.le_of_ble_eq_true rfl) ⟨by decide, rfl, rfl, rfl⟩ ?_
              refine h.mono (fun r zM18 h => ?_)
              obtain ⟨rfl, h⟩ := h
              simp only [Option.toList_some, Option.toList_none, List.cons_append, List.nil_append]
              refine i_aload_n 92 rfl rfl (by decide) ?_
              refine i_aload_n 93 rfl rfl (by decide) ?_
              refine i_iload_n 94 rfl rfl ?_
              refine i_iconst 95 rfl (by decide) ?_
              refine i_iadd 96 rfl ?_
              refine i_callV (c := 3) (y1 := m_X3_putSum) (z1 := (1, 0, 0)) (z2 := (5, 0, 0)) [(117, 100), (0, (x_w (a3 + 4)))] 97 rfl ml_793 ok_X3_putSum vk_X3_putSum ⟨by decide, rfl⟩ rfl ⟨rfl, Nat.le_of_ble_eq_true rfl⟩ (Nat.le_of_ble_eq_true rfl) ⟨by decide, rfl, rfl, rfl⟩ ?_
              refine h.mono (fun r zM19 h => ?_)
              obtain ⟨rfl, h⟩ := h
              simp only [Option.toList_some, Option.toList_none, List.cons_append, List.nil_append]
              exact i_return 98 rfl rfl h
            · replace h := h.2 c
              refine i_aload_n 66 rfl rfl (by decide) ?_
              refine i_aload_n 67 rfl rfl (by decide) ?_
              refine i_getP (c := 3) (k := 0) (t := 19) (b := 6) 68 rfl fl_253 (by decide) rfl (by decide) rfl ?_
              refine i_getI (c := 9) (k := 1) 69 rfl fl_108 (by decide) (by decide) ?_
              refine i_i2l 70 rfl ?_
              refine i_lconst (w := 1) 71 rfl (by decide) ?_
              refine i_callV (c := 3) (y1 := m_X3_standAll) (z1 := (4, 0, 0)) (z2 := (5, 0, 0)) [(1, (zM16 6 1)), (1, 1)] 72 rfl ml_791 ok_X3_standAll vk_X3_standAll ⟨by decide, rfl⟩ rfl ⟨rfl, Nat.le_of_ble_eq_true rfl⟩ (Nat.le_of_ble_eq_true rfl) ⟨by decide, rfl, rfl, rfl⟩ ?_
              refine h.mono (fun r zM20 h => ?_)
              obtain ⟨rfl, h⟩ := h
              simp only [Option.toList_some, Option.toList_none, List.cons_append, List.nil_append]
              refine i_goto 151 73 rfl (by decide) ?_
              refine i_aload_n 86 rfl rfl (by decide) ?_
              refine i_iconst 87 rfl (by decide) ?_
              refine i_iconst 88 rfl (by decide) ?_
              refine i_aload_n 89 rfl rfl (by decide) ?_
              refine i_getP (c := 3) (k := 6) (t := 12) (b := 48) 90 rfl fl_264 (by decide) rfl (by decide) rfl ?_
              refine i_callV (c := 3) (y1 := m_X3_addUp) (z1 := (4, 0, 0)) (z2 := (5, 0, 0)) [(0, 1), (0, 1), (12, 48)] 91 rfl ml_792 ok_X3_addUp vk_X3_addUp ⟨by decide, rfl⟩ rfl ⟨rfl, Nat.le_of_ble_eq_true rfl⟩ (Nat.le_of_ble_eq_true rfl) ⟨by decide, rfl, rfl, rfl⟩ ?_
              refine h.mono (fun r zM21 h => ?_)
              obtain ⟨rfl, h⟩ := h
              simp only [Option.toList_some, Option.toList_none, List.cons_append, List.nil_append]
              refine i_aload_n 92 rfl rfl (by decide) ?_
              refine i_aload_n 93 rfl rfl (by decide) ?_
              refine i_iload_n 94 rfl rfl ?_
              refine i_iconst 95 rfl (by decide) ?_
              refine i_iadd 96 rfl ?_
              refine i_callV (c := 3) (y1 := m_X3_putSum) (z1 := (1, 0, 0)) (z2 := (5, 0, 0)) [(117, 100), (0, (x_w (a3 + 4)))] 97 rfl ml_793 ok_X3_putSum vk_X3_putSum ⟨by decide, rfl⟩ rfl ⟨rfl, Nat.le_of_ble_eq_true rfl⟩ (Nat.le_of_ble_eq_true rfl) ⟨by decide, rfl, rfl, rfl⟩ ?_
              refine h.mono (fun r zM22 h => ?_)
              obtain ⟨rfl, h⟩ := h
              simp only [Option.toList_some, Option.toList_none, List.cons_append, List.nil_append]
              exact i_return 98 rfl rfl h
        · replace h := h.2 c
          exact i_return 15 rfl rfl h
theorem u_X6_lacks_0 {l : Launch} {E : xE} (a0 a1 : Int) {M : xM} {Q : Option xV → xM → Prop} (h : (a1 < 0 → Q (some (0, 1)) M) ∧ (¬ a1 < 0 → (0 ≤ a0) ∧ (0 ≤ M ((a0 + 1) - 1) 1 ∧ M ((a0 + 1) - 1) 1 < 2147483648) ∧ (a1 < (M ((a0 + 1) - 1) 1) → Q (some (0, 0)) M) ∧ (¬ a1 < (M ((a0 + 1) - 1) 1) → Q (some (0, 1)) M))) : x_Ev l E (1, 0, 0) m_X6_lacks 0 [(9, a0), (0, a1)] [] M Q := by
  refine i_iload_n 0 rfl rfl ?_
  refine i_if_lt 13 1 rfl (by decide) (fun c => ?_) (fun c => ?_)
  · replace h := h.1 c
    refine i_iconst 7 rfl (by decide) ?_
    refine i_goto 18 8 rfl (by decide) ?_
    exact i_zreturn 10 rfl rfl (by decide) h
  · replace h := h.2 c
    refine i_iload_n 2 rfl rfl ?_
    refine i_aload_n 3 rfl rfl (by decide) ?_
    refine i_rowP 4 rfl fl_954 h.1 ?_
    replace h := h.2
    refine i_alenR 5 rfl h.1 ?_
    replace h := h.2
    refine i_icmp_lt 17 6 rfl (by decide) (fun c => ?_) (fun c => ?_)
    · replace h := h.1 c
      refine i_iconst 9 rfl (by decide) ?_
      exact i_zreturn 10 rfl rfl (by decide) h
    · replace h := h.2 c
      refine i_iconst 7 rfl (by decide) ?_
      refine i_goto 18 8 rfl (by decide) ?_
      exact i_zreturn 10 rfl rfl (by decide) h
theorem u_X6_put_0 {l : Launch} {E : xE} (a0 a1 a2 : Int) {M : xM} {Q : Option xV → xM → Prop} (h : (0 ≤ a0) ∧ (0 ≤ a0) ∧ (¬ (M a0 0) = 0 → (0 ≤ a0) ∧ (¬ (M a0 0) = 1 → ((0 : Int) ≤ a1 ∧ (a1 : Int) < M ((a0 + 1) - 1) 1) ∧ ∀ zM1 : xM, zM1 = x_wr M (a0 + 1) a1 a2 → Q none zM1) ∧ ((M a0 0) = 1 → ((0 : Int) ≤ a1 ∧ (a1 : Int) < M ((a0 + 1) - 1) 1) ∧ ∀ zM2 : xM, zM2 = x_wr M (a0 + 1) a1 (x_w a2) → Q none zM2)) ∧ ((M a0 0) = 0 → ((0 : Int) ≤ a1 ∧ (a1 : Int) < M ((a0 + 1) - 1) 1) ∧ ∀ zM3 : xM, zM3 = x_wr M (a0 + 1) a1 (x_i2b (x_w a2)) → Q none zM3)) : x_Ev l E (1, 0, 0) m_X6_put 0 [(9, a0), (0, a1), (1, a2), (5, 0)] [] M Q := by
  refine i_aload_n 0 rfl rfl (by decide) ?_
  refine i_rowP 1 rfl fl_954 h.1 ?_
  replace h := h.2
  refine i_iload_n 2 rfl rfl ?_
  refine i_aload_n 3 rfl rfl (by decide) ?_
  refine i_rowI 4 rfl fl_952 h.1 ?_
  replace h := h.2
  refine i_if_ne 19 5 rfl (by decide) (fun c => ?_) (fun c => ?_)
  · replace h := h.1 c
    refine i_aload_n 11 rfl rfl (by decide) ?_
    refine i_rowI 12 rfl fl_952 h.1 ?_
    replace h := h.2
    refine i_iconst 13 rfl (by decide) ?_
    refine i_icmp_ne 33 14 rfl (by decide) (fun c => ?_) (fun c => ?_)
    · replace h := h.1 c
      refine i_lload_n 19 rfl rfl ?_
      have hb := h.1
      replace h := h.2 _ rfl
      refine i_lastR 20 rfl hb.1 hb.2 ?_
      exact i_return 21 rfl rfl h
    · replace h := h.2 c
      refine i_lload_n 15 rfl rfl ?_
      refine i_l2i 16 rfl ?_
      refine i_i2l 17 rfl ?_
      refine i_goto 34 18 rfl (by decide) ?_
      have hb := h.1
      replace h := h.2 _ rfl
      refine i_lastR 20 rfl hb.1 hb.2 ?_
      exact i_return 21 rfl rfl h
  · replace h := h.2 c
    refine i_lload_n 6 rfl rfl ?_
    refine i_l2i 7 rfl ?_
    refine i_i2b 8 rfl ?_
    refine i_i2l 9 rfl ?_
    refine i_goto 34 10 rfl (by decide) ?_
    have hb := h.1
    replace h := h.2 _ rfl
    refine i_lastR 20 rfl hb.1 hb.2 ?_
    exact i_return 21 rfl rfl h
theorem u_X7_keep_0 {l : Launch} {E : xE} (a0 a1 a2 a3 : Int) {M : xM} {Q : Option xV → xM → Prop} (h : ∀ zM1 : xM, zM1 = x_wr M a0 0 a1 → ∀ zM2 : xM, zM2 = x_wr zM1 a0 1 a2 → ∀ zM3 : xM, zM3 = x_wr zM2 a0 2 a3 → Q none zM3) : x_Ev l E (1, 0, 0) m_X7_keep 0 [(17, a0), (0, a1), (0, a2), (2, a3)] [] M Q := by
  refine i_aload_n 0 rfl rfl (by decide) ?_
  refine i_iload_n 1 rfl rfl ?_
  replace h := h _ rfl
  refine i_putI (c := 7) (k := 0) 2 rfl fl_333 (by decide) ⟨rfl, rfl, rfl⟩ ?_
  refine i_aload_n 3 rfl rfl (by decide) ?_
  refine i_iload_n 4 rfl rfl ?_
  replace h := h _ rfl
  refine i_putI (c := 7) (k := 1) 5 rfl fl_335 (by decide) ⟨rfl, rfl, rfl⟩ ?_
  refine i_aload_n 6 rfl rfl (by decide) ?_
  refine i_aload_n 7 rfl rfl (by decide) ?_
  replace h := h _ rfl
  refine i_putR 8 rfl fl_337 (by decide) ?_
  exact i_return 9 rfl rfl h
theorem u_X2_cut_0 {l : Launch} {E : xE} (a0 : Int) {M : xM} {Q : Option xV → xM → Prop} (h : ((M a0 1) ≤ 0 → Q (some (1, 0)) M) ∧ (¬ (M a0 1) ≤ 0 → ((M a0 1) ≠ 0) ∧ Q (some (1, (x_W ((M a0 0).tdiv (M a0 1))))) M)) : x_Ev l E (1, 0, 0) m_X2_cut 0 [(12, a0)] [] M Q := by
  refine i_aload_n 0 rfl rfl (by decide) ?_
  refine i_getL (c := 2) (k := 1) 1 rfl fl_42 (by decide) rfl ?_
  refine i_lconst (w := 0) 2 rfl (by decide) ?_
  refine i_lcmp_le 21 3 rfl rfl (by decide) (fun c => ?_) (fun c => ?_)
  · replace h := h.1 c
    refine i_lconst (w := 0) 11 rfl (by decide) ?_
    exact i_lreturn 12 rfl rfl h
  · replace h := h.2 c
    refine i_aload_n 5 rfl rfl (by decide) ?_
    refine i_getL (c := 2) (k := 0) 6 rfl fl_38 (by decide) rfl ?_
    refine i_aload_n 7 rfl rfl (by decide) ?_
    refine i_getL (c := 2) (k := 1) 8 rfl fl_42 (by decide) rfl ?_
    refine i_ldiv 9 rfl h.1 ?_
    replace h := h.2
    refine i_goto 22 10 rfl (by decide) ?_
    exact i_lreturn 12 rfl rfl h
theorem u_X7_keep_0_v2 {l : Launch} {E : xE} (a0 a1 a2 a3 : Int) {M : xM} {Q : Option xV → xM → Prop} (h : ∀ zM1 : xM, zM1 = x_wr M a0 0 a1 → ∀ zM2 : xM, zM2 = x_wr zM1 a0 1 a2 → ∀ zM3 : xM, zM3 = x_wr zM2 a0 2 a3 → Q none zM3) : x_Ev l E (1, 0, 0) m_X7_keep 0 [(17, a0), (0, a1), (0, a2), (9, a3)] [] M Q := by
  refine i_aload_n 0 rfl rfl (by decide) ?_
  refine i_iload_n 1 rfl rfl ?_
  replace h := h _ rfl
  refine i_putI (c := 7) (k := 0) 2 rfl fl_333 (by decide) ⟨rfl, rfl, rfl⟩ ?_
  refine i_aload_n 3 rfl rfl (by decide) ?_
  refine i_iload_n 4 rfl rfl ?_
  replace h := h _ rfl
  refine i_putI (c := 7) (k := 1) 5 rfl fl_335 (by decide) ⟨rfl, rfl, rfl⟩ ?_
  refine i_aload_n 6 rfl rfl (by decide) ?_
  refine i_aload_n 7 rfl rfl (by decide) ?_
  replace h := h _ rfl
  refine i_putR 8 rfl fl_337 (by decide) ?_
  exact i_return 9 rfl rfl h
theorem u_X7_holdsNow_0 {l : Launch} {E : xE} (a0 : Int) {M : xM} {Q : Option xV → xM → Prop} (h : (¬ (M a0 0) = 1 → ((M a0 0) = 0 → Q (some (0, 0)) M) ∧ (¬ (M a0 0) = 0 → Q (some (0, 1)) M)) ∧ ((M a0 0) = 1 → ((M 6 0) ≤ (M a0 1) → Q (some (0, 0)) M) ∧ (¬ (M 6 0) ≤ (M a0 1) → Q (some (0, 1)) M))) : x_Ev l E (1, 0, 0) m_X7_holdsNow 0 [(17, a0), (19, 6)] [] M Q := by
  refine i_aload_n 0 rfl rfl (by decide) ?_
  refine i_getI (c := 7) (k := 0) 1 rfl fl_333 (by decide) (by decide) ?_
  refine i_iconst 2 rfl (by decide) ?_
  refine i_icmp_ne 27 3 rfl (by decide) (fun c => ?_) (fun c => ?_)
  · replace h := h.1 c
    refine i_aload_n 13 rfl rfl (by decide) ?_
    refine i_getI (c := 7) (k := 0) 14 rfl fl_333 (by decide) (by decide) ?_
    refine i_if_eq 38 15 rfl (by decide) (fun c => ?_) (fun c => ?_)
    · replace h := h.1 c
      refine i_iconst 18 rfl (by decide) ?_
      exact i_zreturn 19 rfl rfl (by decide) h
    · replace h := h.2 c
      refine i_iconst 16 rfl (by decide) ?_
      refine i_goto 39 17 rfl (by decide) ?_
      exact i_zreturn 19 rfl rfl (by decide) h
  · replace h := h.2 c
    refine i_aload_n 4 rfl rfl (by decide) ?_
    refine i_getI (c := 7) (k := 1) 5 rfl fl_335 (by decide) (by decide) ?_
    refine i_aload_n 6 rfl rfl (by decide) ?_
    refine i_getI (c := 9) (k := 0) 7 rfl fl_105 (by decide) (by decide) ?_
    refine i_icmp_ge 23 8 rfl (by decide) (fun c => ?_) (fun c => ?_)
    · replace h := h.1 c
      refine i_iconst 11 rfl (by decide) ?_
      refine i_goto 39 12 rfl (by decide) ?_
      exact i_zreturn 19 rfl rfl (by decide) h
    · replace h := h.2 c
      refine i_iconst 9 rfl (by decide) ?_
      refine i_goto 39 10 rfl (by decide) ?_
      exact i_zreturn 19 rfl rfl (by decide) h
theorem u_X1_isOfKind_0 {l : Launch} {E : xE} (a0 a1 : Int) {M : xM} {Q : Option xV → xM → Prop} (h : ∀ zv1 : Int, zv1 = (M a0 0) → x_Ev l E (1, 0, 0) m_X1_isOfKind 7 [(11, a0), (0, a1), (0, zv1), (0, 0)] [] M Q) : x_Ev l E (1, 0, 0) m_X1_isOfKind 0 [(11, a0), (0, a1), (5, 0), (5, 0)] [] M Q := by
  refine i_aload_n 0 rfl rfl (by decide) ?_
  refine i_getI (c := 1) (k := 0) 1 rfl fl_60 (by decide) (by decide) ?_
  replace h := h _ rfl
  refine i_istore_n 2 rfl (by decide) rfl ?_
  refine i_iconst 3 rfl (by decide) ?_
  refine i_istore_n 4 rfl (by decide) rfl ?_
  exact h
theorem u_X1_isOfKind_7 {l : Launch} {E : xE} (l0 l1 l2 l3 : Int) {M : xM} {Q : Option xV → xM → Prop} (h : (7 ≤ l3 → Q (some (0, 0)) M) ∧ (¬ 7 ≤ l3 → (l2 < 0 → Q (some (0, 0)) M) ∧ (¬ l2 < 0 → (¬ l2 = l1 → ((0 : Int) ≤ l2 ∧ (l2 : Int) < 7) ∧ ∀ zv1 : Int, zv1 = ((x_SC 181).getD (l2).toNat 0) → ∀ zv2 : Int, zv2 = x_w (l3 + 1) → x_Ev l E (1, 0, 0) m_X1_isOfKind 7 [(11, l0), (0, l1), (0, zv1), (0, zv2)] [] M Q) ∧ (l2 = l1 → Q (some (0, 1)) M)))) : x_Ev l E (1, 0, 0) m_X1_isOfKind 7 [(11, l0), (0, l1), (0, l2), (0, l3)] [] M Q := by
  refine i_iload_n 5 rfl rfl ?_
  refine i_bipush 6 rfl (by decide) ?_
  refine i_icmp_ge 36 7 rfl (by decide) (fun c => ?_) (fun c => ?_)
  · replace h := h.1 c
    refine i_iconst 21 rfl (by decide) ?_
    exact i_zreturn 22 rfl rfl (by decide) h
  · replace h := h.2 c
    refine i_iload_n 8 rfl rfl ?_
    refine i_if_lt 36 9 rfl (by decide) (fun c => ?_) (fun c => ?_)
    · replace h := h.1 c
      refine i_iconst 21 rfl (by decide) ?_
      exact i_zreturn 22 rfl rfl (by decide) h
    · replace h := h.2 c
      refine i_iload_n 10 rfl rfl ?_
      refine i_iload_n 11 rfl rfl ?_
      refine i_icmp_ne 24 12 rfl (by decide) (fun c => ?_) (fun c => ?_)
      · replace h := h.1 c
        refine i_getsN (i := 1) 15 rfl (by decide) fs_1007 ?_
        refine i_iload_n 16 rfl rfl ?_
        refine i_sta (t := 181) 17 rfl (by decide) h.1.1 h.1.2 (by decide) ?_
        replace h := h.2
        replace h := h _ rfl
        refine i_istore_n 18 rfl (by decide) rfl ?_
        replace h := h _ rfl
        refine i_iinc 19 rfl rfl (by decide) rfl ?_
        refine i_goto 7 20 rfl (by decide) ?_
        exact h
      · replace h := h.2 c
        refine i_iconst 13 rfl (by decide) ?_
        exact i_zreturn 14 rfl rfl (by decide) h
theorem u_X9_takeAll_0 {l : Launch} {E : xE} {M : xM} {Q : Option xV → xM → Prop} (h : ∀ zM1 : xM, zM1 = x_wr M 21 0 (M 6 0) → ∀ zM2 : xM, zM2 = x_wr zM1 21 1 (zM1 6 1) → ∀ zM3 : xM, zM3 = x_wr zM2 21 2 (zM2 6 2) → ∀ zM4 : xM, zM4 = x_wr zM3 21 3 (zM3 6 3) → ∀ zM5 : xM, zM5 = x_wr zM4 21 4 (zM4 6 4) → x_Ev l E (1, 0, 0) m_X2_take 0 [(12, 22), (12, 7)] [] zM5 (fun r zM6 => r = none ∧ x_Ev l E (3, 0, 0) m_X9_takeAll 53 [(19, 21), (19, 6), (0, 0)] [] zM6 Q)) : x_Ev l E (3, 0, 0) m_X9_takeAll 0 [(19, 21), (19, 6), (5, 0)] [] M Q := by
  refine i_aload_n 0 rfl rfl (by decide) ?_
  refine i_aload_n 1 rfl rfl (by decide) ?_
  refine i_getI (c := 9) (k := 0) 2 rfl fl_103 (by decide) (by decide) ?_
  replace h := h _ rfl
  refine i_putI (c := 9) (k := 0) 3 rfl fl_103 (by decide) ⟨rfl, rfl, rfl⟩ ?_
  refine i_aload_n 4 rfl rfl (by decide) ?_
  refine i_aload_n 5 rfl rfl (by decide) ?_
  refine i_getI (c := 9) (k := 1) 6 rfl fl_107 (by decide) (by decide) ?_
  replace h := h _ rfl
  refine i_putI (c := 9) (k := 1) 7 rfl fl_107 (by decide) ⟨rfl, rfl, rfl⟩ ?_
  refine i_aload_n 8 rfl rfl (by decide) ?_
  refine i_aload_n 9 rfl rfl (by decide) ?_
  refine i_getI (c := 9) (k := 2) 10 rfl fl_110 (by decide) (by decide) ?_
  replace h := h _ rfl
  refine i_putI (c := 9) (k := 2) 11 rfl fl_110 (by decide) ⟨rfl, rfl, rfl⟩ ?_
  refine i_aload_n 12 rfl rfl (by decide) ?_
  refine i_aload_n 13 rfl rfl (by decide) ?_
  refine i_getI (c := 9) (k := 3) 14 rfl fl_112 (by decide) (by decide) ?_
  replace h := h _ rfl
  refine i_putI (c := 9) (k := 3) 15 rfl fl_112 (by decide) ⟨rfl, rfl, rfl⟩ ?_
  refine i_aload_n 16 rfl rfl (by decide) ?_
  refine i_aload_n 17 rfl rfl (by decide) ?_
  refine i_getL (c := 9) (k := 4) 18 rfl fl_114 (by decide) rfl ?_
  replace h := h _ rfl
  refine i_putL (c := 9) (k := 4) 19 rfl fl_114 (by decide) ⟨rfl, rfl, rfl⟩ ?_
  refine i_aload_n 20 rfl rfl (by decide) ?_
  refine i_getP (c := 9) (k := 5) (t := 12) (b := 22) 21 rfl fl_116 (by decide) rfl (by decide) rfl ?_
  refine i_aload_n 22 rfl rfl (by decide) ?_
  refine i_getP (c := 9) (k := 5) (t := 12) (b := 7) 23 rfl fl_116 (by decide) rfl (by decide) rfl ?_
  refine i_callV (c := 2) (y1 := m_X2_take) (z1 := (1, 0, 0)) (z2 := (3, 0, 0)) [(12, 7)] 24 rfl ml_1017 ok_X2_take vk_X2_take ⟨by decide, rfl⟩ rfl ⟨rfl, Nat.le_of_ble_eq_true rfl⟩ (Nat.le_of_ble_eq_true rfl) ⟨by decide, rfl, rfl, rfl⟩ ?_
  refine h.mono (fun r zM6 h => ?_)
  obtain ⟨rfl, h⟩ := h
  simp only [Option.toList_some, Option.toList_none, List.cons_append, List.nil_append]
  refine i_iconst 25 rfl (by decide) ?_
  refine i_istore_n 26 rfl (by decide) rfl ?_
  exact h
theorem u_X9_takeAll_53 {l : Launch} {E : xE} (l2 : Int) {M : xM} {Q : Option xV → xM → Prop} (h : ((M 21 0) ≤ l2 → Q none M) ∧ (¬ (M 21 0) ≤ l2 → ((0 : Int) ≤ l2 ∧ (l2 : Int) < 3) ∧ ((0 : Int) ≤ l2 ∧ (l2 : Int) < 3) ∧ x_Ev l E (2, 0, 0) m_X1_becomeLike 0 [(11, (23 + 1 + 4 * l2)), (11, (8 + 1 + 4 * l2))] [] M (fun r zM1 => r = none ∧ ∀ zv2 : Int, zv2 = x_w (l2 + 1) → x_Ev l E (3, 0, 0) m_X9_takeAll 53 [(19, 21), (19, 6), (0, zv2)] [] zM1 Q))) : x_Ev l E (3, 0, 0) m_X9_takeAll 53 [(19, 21), (19, 6), (0, l2)] [] M Q := by
  refine i_iload_n 27 rfl rfl ?_
  refine i_aload_n 28 rfl rfl (by decide) ?_
  refine i_getI (c := 9) (k := 0) 29 rfl fl_103 (by decide) (by decide) ?_
  refine i_icmp_ge 82 30 rfl (by decide) (fun c => ?_) (fun c => ?_)
  · replace h := h.1 c
    exact i_return 42 rfl rfl h
  · replace h := h.2 c
    refine i_aload_n 31 rfl rfl (by decide) ?_
    refine i_getP (c := 9) (k := 6) (t := 100) (b := 23) 32 rfl fl_119 (by decide) rfl (by decide) rfl ?_
    refine i_iload_n 33 rfl rfl ?_
    refine i_aald (τ := 0) (t := 11) (len := 3) (b := (23 + 1 + 4 * l2)) 34 rfl (by decide) rfl h.1.1 h.1.2 ?_
    replace h := h.2
    refine i_aload_n 35 rfl rfl (by decide) ?_
    refine i_getP (c := 9) (k := 6) (t := 100) (b := 8) 36 rfl fl_119 (by decide) rfl (by decide) rfl ?_
    refine i_iload_n 37 rfl rfl ?_
    refine i_aald (τ := 0) (t := 11) (len := 3) (b := (8 + 1 + 4 * l2)) 38 rfl (by decide) rfl h.1.1 h.1.2 ?_
    replace h := h.2
    refine i_callV (c := 1) (y1 := m_X1_becomeLike) (z1 := (2, 0, 0)) (z2 := (3, 0, 0)) [(11, (8 + 1 + 4 * l2))] 39 rfl ml_1018 ok_X1_becomeLike vk_X1_becomeLike ⟨by decide, rfl⟩ rfl ⟨rfl, Nat.le_of_ble_eq_true rfl⟩ (Nat.le_of_ble_eq_true rfl) ⟨by decide, rfl, rfl, rfl⟩ ?_
    refine h.mono (fun r zM1 h => ?_)
    obtain ⟨rfl, h⟩ := h
    simp only [Option.toList_some, Option.toList_none, List.cons_append, List.nil_append]
    replace h := h _ rfl
    refine i_iinc 40 rfl rfl (by decide) rfl ?_
    refine i_goto 53 41 rfl (by decide) ?_
    exact h
theorem u_X9_takeAll_0_v2 {l : Launch} {E : xE} {M : xM} {Q : Option xV → xM → Prop} (h : ∀ zM1 : xM, zM1 = x_wr M 6 0 (M 21 0) → ∀ zM2 : xM, zM2 = x_wr zM1 6 1 (zM1 21 1) → ∀ zM3 : xM, zM3 = x_wr zM2 6 2 (zM2 21 2) → ∀ zM4 : xM, zM4 = x_wr zM3 6 3 (zM3 21 3) → ∀ zM5 : xM, zM5 = x_wr zM4 6 4 (zM4 21 4) → x_Ev l E (1, 0, 0) m_X2_take 0 [(12, 7), (12, 22)] [] zM5 (fun r zM6 => r = none ∧ x_Ev l E (3, 0, 0) m_X9_takeAll 53 [(19, 6), (19, 21), (0, 0)] [] zM6 Q)) : x_Ev l E (3, 0, 0) m_X9_takeAll 0 [(19, 6), (19, 21), (5, 0)] [] M Q := by
  refine i_aload_n 0 rfl rfl (by decide) ?_
  refine i_aload_n 1 rfl rfl (by decide) ?_
  refine i_getI (c := 9) (k := 0) 2 rfl fl_103 (by decide) (by decide) ?_
  replace h := h _ rfl
  refine i_putI (c := 9) (k := 0) 3 rfl fl_103 (by decide) ⟨rfl, rfl, rfl⟩ ?_
  refine i_aload_n 4 rfl rfl (by decide) ?_
  refine i_aload_n 5 rfl rfl (by decide) ?_
  refine i_getI (c := 9) (k := 1) 6 rfl fl_107 (by decide) (by decide) ?_
  replace h := h _ rfl
  refine i_putI (c := 9) (k := 1) 7 rfl fl_107 (by decide) ⟨rfl, rfl, rfl⟩ ?_
  refine i_aload_n 8 rfl rfl (by decide) ?_
  refine i_aload_n 9 rfl rfl (by decide) ?_
  refine i_getI (c := 9) (k := 2) 10 rfl fl_110 (by decide) (by decide) ?_
  replace h := h _ rfl
  refine i_putI (c := 9) (k := 2) 11 rfl fl_110 (by decide) ⟨rfl, rfl, rfl⟩ ?_
  refine i_aload_n 12 rfl rfl (by decide) ?_
  refine i_aload_n 13 rfl rfl (by decide) ?_
  refine i_getI (c := 9) (k := 3) 14 rfl fl_112 (by decide) (by decide) ?_
  replace h := h _ rfl
  refine i_putI (c := 9) (k := 3) 15 rfl fl_112 (by decide) ⟨rfl, rfl, rfl⟩ ?_
  refine i_aload_n 16 rfl rfl (by decide) ?_
  refine i_aload_n 17 rfl rfl (by decide) ?_
  refine i_getL (c := 9) (k := 4) 18 rfl fl_114 (by decide) rfl ?_
  replace h := h _ rfl
  refine i_putL (c := 9) (k := 4) 19 rfl fl_114 (by decide) ⟨rfl, rfl, rfl⟩ ?_
  refine i_aload_n 20 rfl rfl (by decide) ?_
  refine i_getP (c := 9) (k := 5) (t := 12) (b := 7) 21 rfl fl_116 (by decide) rfl (by decide) rfl ?_
  refine i_aload_n 22 rfl rfl (by decide) ?_
  refine i_getP (c := 9) (k := 5) (t := 12) (b := 22) 23 rfl fl_116 (by decide) rfl (by decide) rfl ?_
  refine i_callV (c := 2) (y1 := m_X2_take) (z1 := (1, 0, 0)) (z2 := (3, 0, 0)) [(12, 22)] 24 rfl ml_1017 ok_X2_take vk_X2_take ⟨by decide, rfl⟩ rfl ⟨rfl, Nat.le_of_ble_eq_true rfl⟩ (Nat.le_of_ble_eq_true rfl) ⟨by decide, rfl, rfl, rfl⟩ ?_
  refine h.mono (fun r zM6 h => ?_)
  obtain ⟨rfl, h⟩ := h
  simp only [Option.toList_some, Option.toList_none, List.cons_append, List.nil_append]
  refine i_iconst 25 rfl (by decide) ?_
  refine i_istore_n 26 rfl (by decide) rfl ?_
  exact h
theorem u_X9_takeAll_53_v2 {l : Launch} {E : xE} (l2 : Int) {M : xM} {Q : Option xV → xM → Prop} (h : ((M 6 0) ≤ l2 → Q none M) ∧ (¬ (M 6 0) ≤ l2 → ((0 : Int) ≤ l2 ∧ (l2 : Int) < 3) ∧ ((0 : Int) ≤ l2 ∧ (l2 : Int) < 3) ∧ x_Ev l E (2, 0, 0) m_X1_becomeLike 0 [(11, (8 + 1 + 4 * l2)), (11, (23 + 1 + 4 * l2))] [] M (fun r zM1 => r = none ∧ ∀ zv2 : Int, zv2 = x_w (l2 + 1) → x_Ev l E (3, 0, 0) m_X9_takeAll 53 [(19, 6), (19, 21), (0, zv2)] [] zM1 Q))) : x_Ev l E (3, 0, 0) m_X9_takeAll 53 [(19, 6), (19, 21), (0, l2)] [] M Q := by
  refine i_iload_n 27 rfl rfl ?_
  refine i_aload_n 28 rfl rfl (by decide) ?_
  refine i_getI (c := 9) (k := 0) 29 rfl fl_103 (by decide) (by decide) ?_
  refine i_icmp_ge 82 30 rfl (by decide) (fun c => ?_) (fun c => ?_)
  · replace h := h.1 c
    exact i_return 42 rfl rfl h
  · replace h := h.2 c
    refine i_aload_n 31 rfl rfl (by decide) ?_
    refine i_getP (c := 9) (k := 6) (t := 100) (b := 8) 32 rfl fl_119 (by decide) rfl (by decide) rfl ?_
    refine i_iload_n 33 rfl rfl ?_
    refine i_aald (τ := 0) (t := 11) (len := 3) (b := (8 + 1 + 4 * l2)) 34 rfl (by decide) rfl h.1.1 h.1.2 ?_
    replace h := h.2
    refine i_aload_n 35 rfl rfl (by decide) ?_
    refine i_getP (c := 9) (k := 6) (t := 100) (b := 23) 36 rfl fl_119 (by decide) rfl (by decide) rfl ?_
    refine i_iload_n 37 rfl rfl ?_
    refine i_aald (τ := 0) (t := 11) (len := 3) (b := (23 + 1 + 4 * l2)) 38 rfl (by decide) rfl h.1.1 h.1.2 ?_
    replace h := h.2
    refine i_callV (c := 1) (y1 := m_X1_becomeLike) (z1 := (2, 0, 0)) (z2 := (3, 0, 0)) [(11, (23 + 1 + 4 * l2))] 39 rfl ml_1018 ok_X1_becomeLike vk_X1_becomeLike ⟨by decide, rfl⟩ rfl ⟨rfl, Nat.le_of_ble_eq_true rfl⟩ (Nat.le_of_ble_eq_true rfl) ⟨by decide, rfl, rfl, rfl⟩ ?_
    refine h.mono (fun r zM1 h => ?_)
    obtain ⟨rfl, h⟩ := h
    simp only [Option.toList_some, Option.toList_none, List.cons_append, List.nil_append]
    replace h := h _ rfl
    refine i_iinc 40 rfl rfl (by decide) rfl ?_
    refine i_goto 53 41 rfl (by decide) ?_
    exact h
theorem u_X8_solveAmounts_0 {l : Launch} {E : xE} (a1 a2 : Int) {M : xM} {Q : Option xV → xM → Prop} (h : x_Ev l E (1, 0, 0) m_X8_clear 0 [(18, 36), (0, (M a1 2)), (5, 0), (5, 0)] [] M (fun r zM1 => r = none ∧ x_Ev l E (3, 0, 0) m_X8_solveAmounts 13 [(18, 36), (11, a1), (0, a2), (0, 0), (0, 0), (5, 0)] [] zM1 Q)) : x_Ev l E (3, 0, 0) m_X8_solveAmounts 0 [(18, 36), (11, a1), (0, a2), (5, 0), (5, 0), (5, 0)] [] M Q := by
  refine i_aload_n 0 rfl rfl (by decide) ?_
  refine i_aload_n 1 rfl rfl (by decide) ?_
  refine i_getI (c := 1) (k := 2) 2 rfl fl_65 (by decide) (by decide) ?_
  refine i_callV (c := 8) (y1 := m_X8_clear) (z1 := (1, 0, 0)) (z2 := (3, 0, 0)) [(0, (M a1 2))] 3 rfl ml_437 ok_X8_clear vk_X8_clear ⟨by decide, rfl⟩ rfl ⟨rfl, Nat.le_of_ble_eq_true rfl⟩ (Nat.le_of_ble_eq_true rfl) ⟨by decide, rfl, rfl, rfl⟩ ?_
  refine h.mono (fun r zM1 h => ?_)
  obtain ⟨rfl, h⟩ := h
  simp only [Option.toList_some, Option.toList_none, List.cons_append, List.nil_append]
  refine i_iconst 4 rfl (by decide) ?_
  refine i_istore_n 5 rfl (by decide) rfl ?_
  refine i_iconst 6 rfl (by decide) ?_
  refine i_istore 7 rfl (by decide) rfl ?_
  exact h
theorem u_X8_solveAmounts_13 {l : Launch} {E : xE} (l1 l2 l3 l4 : Int) {M : xM} {Q : Option xV → xM → Prop} (h : x_Ev l E (1, 0, 0) m_X1_pairs 0 [(11, l1)] [] M (fun r zM1 => ∃ zr2, r = some (0, zr2) ∧ (zr2 ≤ l4 → x_Ev l E (2, 0, 0) m_X8_solve 0 [(18, 36), (5, 0), (5, 0), (5, 0)] [] zM1 (fun r zM3 => ∃ zr4, r = some (0, zr4) ∧ (zr4 = 0 ∨ zr4 = 1) ∧ Q (some (0, zr4)) zM3)) ∧ (¬ zr2 ≤ l4 → ((zM1 l1 2) ≤ l3 → x_Ev l E (2, 0, 0) m_X8_solve 0 [(18, 36), (5, 0), (5, 0), (5, 0)] [] zM1 (fun r zM5 => ∃ zr6, r = some (0, zr6) ∧ (zr6 = 0 ∨ zr6 = 1) ∧ Q (some (0, zr6)) zM5)) ∧ (¬ (zM1 l1 2) ≤ l3 → ((x_iand (x_ishr l2 l4) 1) = 0 → ∀ zv7 : Int, zv7 = x_w (l4 + 1) → x_Ev l E (3, 0, 0) m_X8_solveAmounts 13 [(18, 36), (11, l1), (0, l2), (0, l3), (0, zv7), (5, 0)] [] zM1 Q) ∧ (¬ (x_iand (x_ishr l2 l4) 1) = 0 → x_Ev l E (3, 0, 0) m_X8_solveAmounts 42 [(18, 36), (11, l1), (0, l2), (0, l3), (0, l4), (0, 0)] [] zM1 Q))))) : x_Ev l E (3, 0, 0) m_X8_solveAmounts 13 [(18, 36), (11, l1), (0, l2), (0, l3), (0, l4), (5, 0)] [] M Q := by
  refine i_iload 8 rfl rfl ?_
  refine i_aload_n 9 rfl rfl (by decide) ?_
  refine i_callV (c := 1) (y1 := m_X1_pairs) (z1 := (1, 0, 0)) (z2 := (3, 0, 0)) [] 10 rfl ml_441 ok_X1_pairs vk_X1_pairs ⟨by decide, rfl⟩ rfl ⟨rfl, Nat.le_of_ble_eq_true rfl⟩ (Nat.le_of_ble_eq_true rfl) ⟨by decide, rfl, rfl, rfl⟩ ?_
  refine h.mono (fun r zM1 h => ?_)
  obtain ⟨zr2, rfl, h⟩ := h
  simp only [Option.toList_some, Option.toList_none, List.cons_append, List.nil_append]
  refine i_icmp_ge 112 11 rfl (by decide) (fun c => ?_) (fun c => ?_)
  · replace h := h.1 c
    refine i_aload_n 60 rfl rfl (by decide) ?_
    refine i_callV (c := 8) (y1 := m_X8_solve) (z1 := (2, 0, 0)) (z2 := (3, 0, 0)) [] 61 rfl ml_445 ok_X8_solve vk_X8_solve ⟨by decide, rfl⟩ rfl ⟨rfl, Nat.le_of_ble_eq_true rfl⟩ (Nat.le_of_ble_eq_true rfl) ⟨by decide, rfl, rfl, rfl⟩ ?_
    refine h.mono (fun r zM3 h => ?_)
    obtain ⟨zr4, rfl, h⟩ := h
    simp only [Option.toList_some, Option.toList_none, List.cons_append, List.nil_append]
    exact i_zreturn 62 rfl rfl h.1 h.2
  · replace h := h.2 c
    refine i_iload_n 12 rfl rfl ?_
    refine i_aload_n 13 rfl rfl (by decide) ?_
    refine i_getI (c := 1) (k := 2) 14 rfl fl_65 (by decide) (by decide) ?_
    refine i_icmp_ge 112 15 rfl (by decide) (fun c => ?_) (fun c => ?_)
    · replace h := h.1 c
      refine i_aload_n 60 rfl rfl (by decide) ?_
      refine i_callV (c := 8) (y1 := m_X8_solve) (z1 := (2, 0, 0)) (z2 := (3, 0, 0)) [] 61 rfl ml_445 ok_X8_solve vk_X8_solve ⟨by decide, rfl⟩ rfl ⟨rfl, Nat.le_of_ble_eq_true rfl⟩ (Nat.le_of_ble_eq_true rfl) ⟨by decide, rfl, rfl, rfl⟩ ?_
      refine h.mono (fun r zM5 h => ?_)
      obtain ⟨zr6, rfl, h⟩ := h
      simp only [Option.toList_some, Option.toList_none, List.cons_append, List.nil_append]
      exact i_zreturn 62 rfl rfl h.1 h.2
    · replace h := h.2 c
      refine i_iload_n 16 rfl rfl ?_
      refine i_iload 17 rfl rfl ?_
      refine i_ishr 18 rfl ?_
      refine i_iconst 19 rfl (by decide) ?_
      refine i_iand 20 rfl ?_
      refine i_if_eq 106 21 rfl (by decide) (fun c => ?_) (fun c => ?_)
      · replace h := h.1 c
        replace h := h _ rfl
        refine i_iinc 58 rfl rfl (by decide) rfl ?_
        refine i_goto 13 59 rfl (by decide) ?_
        exact h
      · replace h := h.2 c
        refine i_iconst 22 rfl (by decide) ?_
        refine i_istore 23 rfl (by decide) rfl ?_
        exact h
theorem u_X8_solveAmounts_42 {l : Launch} {E : xE} (l1 l2 l3 l4 l5 : Int) {M : xM} {Q : Option xV → xM → Prop} (h : ((M l1 2) ≤ l5 → ((M l1 3) ≤ l4 → (0 ≤ l3 ∧ l3 < 3) ∧ ∀ zM1 : xM, zM1 = x_wr M 38 l3 0 → ∀ zv2 : Int, zv2 = x_w (l3 + 1) → ∀ zv3 : Int, zv3 = x_w (l4 + 1) → x_Ev l E (3, 0, 0) m_X8_solveAmounts 13 [(18, 36), (11, l1), (0, l2), (0, zv2), (0, zv3), (5, 0)] [] zM1 Q) ∧ (¬ (M l1 3) ≤ l4 → ((0 : Int) ≤ l4 ∧ (l4 : Int) < 4) ∧ (0 ≤ l3 ∧ l3 < 3) ∧ ∀ zM4 : xM, zM4 = x_wr M 38 l3 (M (l1 + 3) l4) → ∀ zv5 : Int, zv5 = x_w (l3 + 1) → ∀ zv6 : Int, zv6 = x_w (l4 + 1) → x_Ev l E (3, 0, 0) m_X8_solveAmounts 13 [(18, 36), (11, l1), (0, l2), (0, zv5), (0, zv6), (5, 0)] [] zM4 Q)) ∧ (¬ (M l1 2) ≤ l5 → x_Ev l E (1, 0, 0) m_X8_cellOf 0 [(11, l1), (0, l4), (0, l5)] [] M (fun r zM7 => ∃ zr8, r = some (1, zr8) ∧ (0 ≤ (x_w ((x_w (l3 * 3)) + l5)) ∧ (x_w ((x_w (l3 * 3)) + l5)) < 9) ∧ ∀ zM9 : xM, zM9 = x_wr zM7 37 (x_w ((x_w (l3 * 3)) + l5)) zr8 → ∀ zv10 : Int, zv10 = x_w (l5 + 1) → x_Ev l E (3, 0, 0) m_X8_solveAmounts 42 [(18, 36), (11, l1), (0, l2), (0, l3), (0, l4), (0, zv10)] [] zM9 Q))) : x_Ev l E (3, 0, 0) m_X8_solveAmounts 42 [(18, 36), (11, l1), (0, l2), (0, l3), (0, l4), (0, l5)] [] M Q := by
  refine i_iload 24 rfl rfl ?_
  refine i_aload_n 25 rfl rfl (by decide) ?_
  refine i_getI (c := 1) (k := 2) 26 rfl fl_65 (by decide) (by decide) ?_
  refine i_icmp_ge 76 27 rfl (by decide) (fun c => ?_) (fun c => ?_)
  · replace h := h.1 c
    refine i_aload_n 42 rfl rfl (by decide) ?_
    refine i_getP (c := 8) (k := 1) (t := 105) (b := 38) 43 rfl fl_144 (by decide) rfl (by decide) rfl ?_
    refine i_iload_n 44 rfl rfl ?_
    refine i_iload 45 rfl rfl ?_
    refine i_aload_n 46 rfl rfl (by decide) ?_
    refine i_getI (c := 1) (k := 3) 47 rfl fl_71 (by decide) (by decide) ?_
    refine i_icmp_ge 101 48 rfl (by decide) (fun c => ?_) (fun c => ?_)
    · replace h := h.1 c
      refine i_lconst (w := 0) 55 rfl (by decide) ?_
      have hb := h.1
      replace h := h.2 _ rfl
      refine i_last (τ := 5) 56 rfl ⟨rfl, rfl, rfl, by decide⟩ hb.1 hb.2 ?_
      replace h := h _ rfl
      refine i_iinc 57 rfl rfl (by decide) rfl ?_
      replace h := h _ rfl
      refine i_iinc 58 rfl rfl (by decide) rfl ?_
      refine i_goto 13 59 rfl (by decide) ?_
      refine i_weak ?_ h
      exact (And.intro (Or.inr rfl) (And.intro (Or.inr rfl) (And.intro (Or.inr rfl) (And.intro (Or.inr rfl) (And.intro (Or.inr rfl) (And.intro (Or.inl rfl) trivial))))))
    · replace h := h.2 c
      refine i_aload_n 49 rfl rfl (by decide) ?_
      refine i_getP (c := 1) (k := 6) (t := 103) (b := (l1 + 3)) 50 rfl fl_83 (by decide) rfl (by decide) rfl ?_
      refine i_iload 51 rfl rfl ?_
      refine i_iald (τ := 3) 52 rfl ⟨rfl, rfl, rfl, by decide⟩ h.1.1 h.1.2 ?_
      replace h := h.2
      refine i_i2l 53 rfl ?_
      refine i_goto 102 54 rfl (by decide) ?_
      have hb := h.1
      replace h := h.2 _ rfl
      refine i_last (τ := 5) 56 rfl ⟨rfl, rfl, rfl, by decide⟩ hb.1 hb.2 ?_
      replace h := h _ rfl
      refine i_iinc 57 rfl rfl (by decide) rfl ?_
      replace h := h _ rfl
      refine i_iinc 58 rfl rfl (by decide) rfl ?_
      refine i_goto 13 59 rfl (by decide) ?_
      refine i_weak ?_ h
      exact (And.intro (Or.inr rfl) (And.intro (Or.inr rfl) (And.intro (Or.inr rfl) (And.intro (Or.inr rfl) (And.intro (Or.inr rfl) (And.intro (Or.inl rfl) trivial))))))
  · replace h := h.2 c
    refine i_aload_n 28 rfl rfl (by decide) ?_
    refine i_getP (c := 8) (k := 0) (t := 104) (b := 37) 29 rfl fl_143 (by decide) rfl (by decide) rfl ?_
    refine i_iload_n 30 rfl rfl ?_
    refine i_iconst 31 rfl (by decide) ?_
    refine i_imul 32 rfl ?_
    refine i_iload 33 rfl rfl ?_
    refine i_iadd 34 rfl ?_
    refine i_aload_n 35 rfl rfl (by decide) ?_
    refine i_iload 36 rfl rfl ?_
    refine i_iload 37 rfl rfl ?_
    refine i_callS (y1 := m_X8_cellOf) (z1 := (1, 0, 0)) (z2 := (3, 0, 0)) [(11, l1), (0, l4), (0, l5)] 38 rfl ml_442 ok_X8_cellOf vk_X8_cellOf rfl ⟨rfl, Nat.le_of_ble_eq_true rfl⟩ (Nat.le_of_ble_eq_true rfl) ⟨by decide, rfl, rfl, rfl⟩ ?_
    refine h.mono (fun r zM7 h => ?_)
    obtain ⟨zr8, rfl, h⟩ := h
    simp only [Option.toList_some, Option.toList_none, List.cons_append, List.nil_append]
    have hb := h.1
    replace h := h.2 _ rfl
    refine i_last (τ := 4) 39 rfl ⟨rfl, rfl, rfl, by decide⟩ hb.1 hb.2 ?_
    replace h := h _ rfl
    refine i_iinc 40 rfl rfl (by decide) rfl ?_
    refine i_goto 42 41 rfl (by decide) ?_
    exact h
theorem u_X4_tightPairs_0 {l : Launch} {E : xE} (a0 : Int) {M : xM} {Q : Option xV → xM → Prop} (h : x_Ev l E (1, 0, 0) m_X4_tightPairs 4 [(14, a0), (0, 0), (0, 0), (5, 0), (5, 0), (5, 0), (5, 0)] [] M Q) : x_Ev l E (1, 0, 0) m_X4_tightPairs 0 [(14, a0), (5, 0), (5, 0), (5, 0), (5, 0), (5, 0), (5, 0)] [] M Q := by
  refine i_iconst 0 rfl (by decide) ?_
  refine i_istore_n 1 rfl (by decide) rfl ?_
  refine i_iconst 2 rfl (by decide) ?_
  refine i_istore_n 3 rfl (by decide) rfl ?_
  exact h
theorem u_X4_tightPairs_4 {l : Launch} {E : xE} (l0 l1 l2 : Int) {M : xM} {Q : Option xV → xM → Prop} (h : ((M (9 + 4 * ((l0 - 49) / 9)) 3) ≤ l2 → x_Ev l E (1, 0, 0) m_X4_tightPairs 121 [(14, l0), (0, l1), (0, 0), (5, 0), (5, 0), (5, 0), (5, 0)] [] M Q) ∧ (¬ (M (9 + 4 * ((l0 - 49) / 9)) 3) ≤ l2 → x_Ev l E (1, 0, 0) m_X4_tightPairs 20 [(14, l0), (0, l1), (0, l2), (1, 0), (5, 0), (0, 0), (5, 0)] [] M Q)) : x_Ev l E (1, 0, 0) m_X4_tightPairs 4 [(14, l0), (0, l1), (0, l2), (5, 0), (5, 0), (5, 0), (5, 0)] [] M Q := by
  refine i_iload_n 4 rfl rfl ?_
  refine i_aload_n 5 rfl rfl (by decide) ?_
  refine i_getP (c := 4) (k := 0) (t := 11) (b := (9 + 4 * ((l0 - 49) / 9))) 6 rfl fl_203 (by decide) rfl (by decide) rfl ?_
  refine i_getI (c := 1) (k := 3) 7 rfl fl_72 (by decide) (by decide) ?_
  refine i_icmp_ge 119 8 rfl (by decide) (fun c => ?_) (fun c => ?_)
  · replace h := h.1 c
    refine i_iconst 70 rfl (by decide) ?_
    refine i_istore_n 71 rfl (by decide) rfl ?_
    exact h
  · replace h := h.2 c
    refine i_lconst (w := 0) 9 rfl (by decide) ?_
    refine i_lstore_n 10 rfl (by decide) rfl ?_
    refine i_iconst 11 rfl (by decide) ?_
    refine i_istore 12 rfl (by decide) rfl ?_
    exact h
theorem u_X4_tightPairs_20 {l : Launch} {E : xE} (l0 l1 l2 l3 l5 : Int) {M : xM} {Q : Option xV → xM → Prop} (h : ((M (9 + 4 * ((l0 - 49) / 9)) 2) ≤ l5 → ((0 : Int) ≤ l2 ∧ (l2 : Int) < 4) ∧ ∀ zv1 : Int, zv1 = (x_W ((M ((9 + 4 * ((l0 - 49) / 9)) + 3) l2) * (M 36 3))) → (l3 ≤ zv1 → (¬ l3 = zv1 → ∀ zv2 : Int, zv2 = (x_ior l1 0) → ∀ zv3 : Int, zv3 = x_w (l2 + 1) → x_Ev l E (1, 0, 0) m_X4_tightPairs 4 [(14, l0), (0, zv2), (0, zv3), (5, 0), (5, 0), (5, 0), (5, 0)] [] M Q) ∧ (l3 = zv1 → ∀ zv4 : Int, zv4 = (x_ior l1 (x_ishl 1 l2)) → ∀ zv5 : Int, zv5 = x_w (l2 + 1) → x_Ev l E (1, 0, 0) m_X4_tightPairs 4 [(14, l0), (0, zv4), (0, zv5), (5, 0), (5, 0), (5, 0), (5, 0)] [] M Q)) ∧ (¬ l3 ≤ zv1 → Q (some (0, (-1))) M)) ∧ (¬ (M (9 + 4 * ((l0 - 49) / 9)) 2) ≤ l5 → ((0 : Int) ≤ (x_w ((x_w (l2 * 3)) + l5)) ∧ ((x_w ((x_w (l2 * 3)) + l5)) : Int) < 12) ∧ ((0 : Int) ≤ l5 ∧ (l5 : Int) < 3) ∧ ∀ zv6 : Int, zv6 = (x_W (l3 + (x_W ((M ((9 + 4 * ((l0 - 49) / 9)) + 2) (x_w ((x_w (l2 * 3)) + l5))) * (M 39 l5))))) → ∀ zv7 : Int, zv7 = x_w (l5 + 1) → x_Ev l E (1, 0, 0) m_X4_tightPairs 20 [(14, l0), (0, l1), (0, l2), (1, zv6), (5, 0), (0, zv7), (5, 0)] [] M Q)) : x_Ev l E (1, 0, 0) m_X4_tightPairs 20 [(14, l0), (0, l1), (0, l2), (1, l3), (5, 0), (0, l5), (5, 0)] [] M Q := by
  refine i_iload 13 rfl rfl ?_
  refine i_aload_n 14 rfl rfl (by decide) ?_
  refine i_getP (c := 4) (k := 0) (t := 11) (b := (9 + 4 * ((l0 - 49) / 9))) 15 rfl fl_203 (by decide) rfl (by decide) rfl ?_
  refine i_getI (c := 1) (k := 2) 16 rfl fl_67 (by decide) (by decide) ?_
  refine i_icmp_ge 67 17 rfl (by decide) (fun c => ?_) (fun c => ?_)
  · replace h := h.1 c
    refine i_aload_n 39 rfl rfl (by decide) ?_
    refine i_getP (c := 4) (k := 0) (t := 11) (b := (9 + 4 * ((l0 - 49) / 9))) 40 rfl fl_203 (by decide) rfl (by decide) rfl ?_
    refine i_getP (c := 1) (k := 6) (t := 103) (b := ((9 + 4 * ((l0 - 49) / 9)) + 3)) 41 rfl fl_84 (by decide) rfl (by decide) rfl ?_
    refine i_iload_n 42 rfl rfl ?_
    refine i_iald (τ := 3) 43 rfl ⟨rfl, rfl, rfl, by decide⟩ h.1.1 h.1.2 ?_
    replace h := h.2
    refine i_i2l 44 rfl ?_
    refine i_aload_n 45 rfl rfl (by decide) ?_
    refine i_getP (c := 4) (k := 1) (t := 18) (b := 36) 46 rfl fl_204 (by decide) rfl (by decide) rfl ?_
    refine i_getL (c := 8) (k := 3) 47 rfl fl_148 (by decide) rfl ?_
    refine i_lmul 48 rfl ?_
    replace h := h _ rfl
    refine i_lstore 49 rfl (by decide) rfl ?_
    refine i_lload_n 50 rfl rfl ?_
    refine i_lload 51 rfl rfl ?_
    refine i_lcmp_le 96 52 rfl rfl (by decide) (fun c => ?_) (fun c => ?_)
    · replace h := h.1 c
      refine i_iload_n 56 rfl rfl ?_
      refine i_lload_n 57 rfl rfl ?_
      refine i_lload 58 rfl rfl ?_
      refine i_lcmp_ne 110 59 rfl rfl (by decide) (fun c => ?_) (fun c => ?_)
      · replace h := h.1 c
        refine i_iconst 65 rfl (by decide) ?_
        refine i_ior 66 rfl ?_
        replace h := h _ rfl
        refine i_istore_n 67 rfl (by decide) rfl ?_
        replace h := h _ rfl
        refine i_iinc 68 rfl rfl (by decide) rfl ?_
        refine i_goto 4 69 rfl (by decide) ?_
        refine i_weak ?_ h
        exact (And.intro (Or.inr rfl) (And.intro (Or.inr rfl) (And.intro (Or.inr rfl) (And.intro (Or.inl rfl) (And.intro (Or.inr rfl) (And.intro (Or.inl rfl) (And.intro (Or.inr rfl) trivial)))))))
      · replace h := h.2 c
        refine i_iconst 61 rfl (by decide) ?_
        refine i_iload_n 62 rfl rfl ?_
        refine i_ishl 63 rfl ?_
        refine i_goto 111 64 rfl (by decide) ?_
        refine i_ior 66 rfl ?_
        replace h := h _ rfl
        refine i_istore_n 67 rfl (by decide) rfl ?_
        replace h := h _ rfl
        refine i_iinc 68 rfl rfl (by decide) rfl ?_
        refine i_goto 4 69 rfl (by decide) ?_
        refine i_weak ?_ h
        exact (And.intro (Or.inr rfl) (And.intro (Or.inr rfl) (And.intro (Or.inr rfl) (And.intro (Or.inl rfl) (And.intro (Or.inr rfl) (And.intro (Or.inl rfl) (And.intro (Or.inr rfl) trivial)))))))
    · replace h := h.2 c
      refine i_iconst 54 rfl (by decide) ?_
      exact i_ireturn 55 rfl rfl h
  · replace h := h.2 c
    refine i_lload_n 18 rfl rfl ?_
    refine i_aload_n 19 rfl rfl (by decide) ?_
    refine i_getP (c := 4) (k := 0) (t := 11) (b := (9 + 4 * ((l0 - 49) / 9))) 20 rfl fl_203 (by decide) rfl (by decide) rfl ?_
    refine i_getP (c := 1) (k := 5) (t := 102) (b := ((9 + 4 * ((l0 - 49) / 9)) + 2)) 21 rfl fl_79 (by decide) rfl (by decide) rfl ?_
    refine i_iload_n 22 rfl rfl ?_
    refine i_iconst 23 rfl (by decide) ?_
    refine i_imul 24 rfl ?_
    refine i_iload 25 rfl rfl ?_
    refine i_iadd 26 rfl ?_
    refine i_iald (τ := 2) 27 rfl ⟨rfl, rfl, rfl, by decide⟩ h.1.1 h.1.2 ?_
    replace h := h.2
    refine i_i2l 28 rfl ?_
    refine i_aload_n 29 rfl rfl (by decide) ?_
    refine i_getP (c := 4) (k := 1) (t := 18) (b := 36) 30 rfl fl_204 (by decide) rfl (by decide) rfl ?_
    refine i_getP (c := 8) (k := 2) (t := 105) (b := 39) 31 rfl fl_147 (by decide) rfl (by decide) rfl ?_
    refine i_iload 32 rfl rfl ?_
    refine i_lald (τ := 5) 33 rfl ⟨rfl, rfl, rfl, by decide⟩ h.1.1 h.1.2 ?_
    replace h := h.2
    refine i_lmul 34 rfl ?_
    refine i_ladd 35 rfl ?_
    replace h := h _ rfl
    refine i_lstore_n 36 rfl (by decide) rfl ?_
    replace h := h _ rfl
    refine i_iinc 37 rfl rfl (by decide) rfl ?_
    refine i_goto 20 38 rfl (by decide) ?_
    exact h
theorem u_X4_tightPairs_121 {l : Launch} {E : xE} (l0 l1 l2 : Int) {M : xM} {Q : Option xV → xM → Prop} (h : ((M (9 + 4 * ((l0 - 49) / 9)) 2) ≤ l2 → Q (some (0, l1)) M) ∧ (¬ (M (9 + 4 * ((l0 - 49) / 9)) 2) ≤ l2 → ((0 : Int) ≤ l2 ∧ (l2 : Int) < 3) ∧ (0 ≤ (M 39 l2) → ((0 : Int) ≤ l2 ∧ (l2 : Int) < 3) ∧ (¬ (M 39 l2) = 0 → ∀ zv1 : Int, zv1 = (x_ior l1 0) → ∀ zv2 : Int, zv2 = x_w (l2 + 1) → x_Ev l E (1, 0, 0) m_X4_tightPairs 121 [(14, l0), (0, zv1), (0, zv2), (5, 0), (5, 0), (5, 0), (5, 0)] [] M Q) ∧ ((M 39 l2) = 0 → ∀ zv3 : Int, zv3 = (x_ior l1 (x_ishl 1 (x_w ((M (9 + 4 * ((l0 - 49) / 9)) 3) + l2)))) → ∀ zv4 : Int, zv4 = x_w (l2 + 1) → x_Ev l E (1, 0, 0) m_X4_tightPairs 121 [(14, l0), (0, zv3), (0, zv4), (5, 0), (5, 0), (5, 0), (5, 0)] [] M Q)) ∧ (¬ 0 ≤ (M 39 l2) → Q (some (0, (-1))) M))) : x_Ev l E (1, 0, 0) m_X4_tightPairs 121 [(14, l0), (0, l1), (0, l2), (5, 0), (5, 0), (5, 0), (5, 0)] [] M Q := by
  refine i_iload_n 72 rfl rfl ?_
  refine i_aload_n 73 rfl rfl (by decide) ?_
  refine i_getP (c := 4) (k := 0) (t := 11) (b := (9 + 4 * ((l0 - 49) / 9))) 74 rfl fl_203 (by decide) rfl (by decide) rfl ?_
  refine i_getI (c := 1) (k := 2) 75 rfl fl_67 (by decide) (by decide) ?_
  refine i_icmp_ge 186 76 rfl (by decide) (fun c => ?_) (fun c => ?_)
  · replace h := h.1 c
    refine i_iload_n 109 rfl rfl ?_
    exact i_ireturn 110 rfl rfl h
  · replace h := h.2 c
    refine i_aload_n 77 rfl rfl (by decide) ?_
    refine i_getP (c := 4) (k := 1) (t := 18) (b := 36) 78 rfl fl_204 (by decide) rfl (by decide) rfl ?_
    refine i_getP (c := 8) (k := 2) (t := 105) (b := 39) 79 rfl fl_147 (by decide) rfl (by decide) rfl ?_
    refine i_iload_n 80 rfl rfl ?_
    refine i_lald (τ := 5) 81 rfl ⟨rfl, rfl, rfl, by decide⟩ h.1.1 h.1.2 ?_
    replace h := h.2
    refine i_lconst (w := 0) 82 rfl (by decide) ?_
    refine i_lcmp_ge 148 83 rfl rfl (by decide) (fun c => ?_) (fun c => ?_)
    · replace h := h.1 c
      refine i_iload_n 87 rfl rfl ?_
      refine i_aload_n 88 rfl rfl (by decide) ?_
      refine i_getP (c := 4) (k := 1) (t := 18) (b := 36) 89 rfl fl_204 (by decide) rfl (by decide) rfl ?_
      refine i_getP (c := 8) (k := 2) (t := 105) (b := 39) 90 rfl fl_147 (by decide) rfl (by decide) rfl ?_
      refine i_iload_n 91 rfl rfl ?_
      refine i_lald (τ := 5) 92 rfl ⟨rfl, rfl, rfl, by decide⟩ h.1.1 h.1.2 ?_
      replace h := h.2
      refine i_lconst (w := 0) 93 rfl (by decide) ?_
      refine i_lcmp_ne 177 94 rfl rfl (by decide) (fun c => ?_) (fun c => ?_)
      · replace h := h.1 c
        refine i_iconst 104 rfl (by decide) ?_
        refine i_ior 105 rfl ?_
        replace h := h _ rfl
        refine i_istore_n 106 rfl (by decide) rfl ?_
        replace h := h _ rfl
        refine i_iinc 107 rfl rfl (by decide) rfl ?_
        refine i_goto 121 108 rfl (by decide) ?_
        exact h
      · replace h := h.2 c
        refine i_iconst 96 rfl (by decide) ?_
        refine i_aload_n 97 rfl rfl (by decide) ?_
        refine i_getP (c := 4) (k := 0) (t := 11) (b := (9 + 4 * ((l0 - 49) / 9))) 98 rfl fl_203 (by decide) rfl (by decide) rfl ?_
        refine i_getI (c := 1) (k := 3) 99 rfl fl_72 (by decide) (by decide) ?_
        refine i_iload_n 100 rfl rfl ?_
        refine i_iadd 101 rfl ?_
        refine i_ishl 102 rfl ?_
        refine i_goto 178 103 rfl (by decide) ?_
        refine i_ior 105 rfl ?_
        replace h := h _ rfl
        refine i_istore_n 106 rfl (by decide) rfl ?_
        replace h := h _ rfl
        refine i_iinc 107 rfl rfl (by decide) rfl ?_
        refine i_goto 121 108 rfl (by decide) ?_
        exact h
    · replace h := h.2 c
      refine i_iconst 85 rfl (by decide) ?_
      exact i_ireturn 86 rfl rfl h
theorem u_X4_insert_0 {l : Launch} {E : xE} (a0 a1 : Int) {M : xM} {Q : Option xV → xM → Prop} (h : ((M a0 2) < 10 → ∀ zv1 : Int, zv1 = (M a0 2) → x_Ev l E (2, 0, 0) m_X4_insert 15 [(14, a0), (0, a1), (0, zv1)] [] M Q) ∧ (¬ (M a0 2) < 10 → Q none M)) : x_Ev l E (2, 0, 0) m_X4_insert 0 [(14, a0), (0, a1), (5, 0)] [] M Q := by
  refine i_aload_n 0 rfl rfl (by decide) ?_
  refine i_getI (c := 4) (k := 2) 1 rfl fl_205 (by decide) (by decide) ?_
  refine i_bipush 2 rfl (by decide) ?_
  refine i_icmp_lt 10 3 rfl (by decide) (fun c => ?_) (fun c => ?_)
  · replace h := h.1 c
    refine i_aload_n 5 rfl rfl (by decide) ?_
    refine i_getI (c := 4) (k := 2) 6 rfl fl_205 (by decide) (by decide) ?_
    replace h := h _ rfl
    refine i_istore_n 7 rfl (by decide) rfl ?_
    exact h
  · replace h := h.2 c
    exact i_return 4 rfl rfl h
theorem u_X4_insert_15 {l : Launch} {E : xE} (l0 l1 l2 : Int) {M : xM} {Q : Option xV → xM → Prop} (h : (l2 ≤ 0 → (((0 : Int) ≤ 0 ∧ (0 : Int) ≤ (x_w (l2 * 3)) ∧ (0 : Int) ≤ 3) ∧ (0 : Int) + 3 ≤ 3 ∧ ((x_w (l2 * 3)) : Int) + 3 ≤ 30) ∧ ∀ zM1 : xM, zM1 = x_cpy M 39 0 (l0 + 1) (x_w (l2 * 3)) 3 → (0 ≤ l2 ∧ l2 < 10) ∧ ∀ zM2 : xM, zM2 = x_wr zM1 (l0 + 2) l2 (zM1 36 3) → (0 ≤ l2 ∧ l2 < 10) ∧ ∀ zM3 : xM, zM3 = x_wr zM2 (l0 + 3) l2 l1 → ∀ zM4 : xM, zM4 = x_wr zM3 l0 2 (x_w ((zM3 l0 2) + 1)) → Q none zM4) ∧ (¬ l2 ≤ 0 → x_Ev l E (1, 0, 0) m_X4_isBehind 0 [(14, l0), (0, (x_w (l2 - 1))), (5, 0), (5, 0), (5, 0), (5, 0), (5, 0)] [] M (fun r zM5 => ∃ zr6, r = some (0, zr6) ∧ (zr6 = 0 → (((0 : Int) ≤ 0 ∧ (0 : Int) ≤ (x_w (l2 * 3)) ∧ (0 : Int) ≤ 3) ∧ (0 : Int) + 3 ≤ 3 ∧ ((x_w (l2 * 3)) : Int) + 3 ≤ 30) ∧ ∀ zM7 : xM, zM7 = x_cpy zM5 39 0 (l0 + 1) (x_w (l2 * 3)) 3 → (0 ≤ l2 ∧ l2 < 10) ∧ ∀ zM8 : xM, zM8 = x_wr zM7 (l0 + 2) l2 (zM7 36 3) → (0 ≤ l2 ∧ l2 < 10) ∧ ∀ zM9 : xM, zM9 = x_wr zM8 (l0 + 3) l2 l1 → ∀ zM10 : xM, zM10 = x_wr zM9 l0 2 (x_w ((zM9 l0 2) + 1)) → Q none zM10) ∧ (¬ zr6 = 0 → (((0 : Int) ≤ (x_w ((x_w (l2 - 1)) * 3)) ∧ (0 : Int) ≤ (x_w (l2 * 3)) ∧ (0 : Int) ≤ 3) ∧ ((x_w ((x_w (l2 - 1)) * 3)) : Int) + 3 ≤ 30 ∧ ((x_w (l2 * 3)) : Int) + 3 ≤ 30) ∧ ∀ zM11 : xM, zM11 = x_cpy zM5 (l0 + 1) (x_w ((x_w (l2 - 1)) * 3)) (l0 + 1) (x_w (l2 * 3)) 3 → ((0 : Int) ≤ (x_w (l2 - 1)) ∧ ((x_w (l2 - 1)) : Int) < 10) ∧ (0 ≤ l2 ∧ l2 < 10) ∧ ∀ zM12 : xM, zM12 = x_wr zM11 (l0 + 2) l2 (zM11 (l0 + 2) (x_w (l2 - 1))) → ((0 : Int) ≤ (x_w (l2 - 1)) ∧ ((x_w (l2 - 1)) : Int) < 10) ∧ (0 ≤ l2 ∧ l2 < 10) ∧ ∀ zM13 : xM, zM13 = x_wr zM12 (l0 + 3) l2 (zM12 (l0 + 3) (x_w (l2 - 1))) → ∀ zv14 : Int, zv14 = x_w (l2 + (-1)) → x_Ev l E (2, 0, 0) m_X4_insert 15 [(14, l0), (0, l1), (0, zv14)] [] zM13 Q)))) : x_Ev l E (2, 0, 0) m_X4_insert 15 [(14, l0), (0, l1), (0, l2)] [] M Q := by
  refine i_iload_n 8 rfl rfl ?_
  refine i_if_le 83 9 rfl (by decide) (fun c => ?_) (fun c => ?_)
  · replace h := h.1 c
    refine i_aload_n 52 rfl rfl (by decide) ?_
    refine i_getP (c := 4) (k := 1) (t := 18) (b := 36) 53 rfl fl_204 (by decide) rfl (by decide) rfl ?_
    refine i_getP (c := 8) (k := 2) (t := 105) (b := 39) 54 rfl fl_147 (by decide) rfl (by decide) rfl ?_
    refine i_iconst 55 rfl (by decide) ?_
    refine i_aload_n 56 rfl rfl (by decide) ?_
    refine i_getP (c := 4) (k := 3) (t := 108) (b := (l0 + 1)) 57 rfl fl_207 (by decide) rfl (by decide) rfl ?_
    refine i_iload_n 58 rfl rfl ?_
    refine i_iconst 59 rfl (by decide) ?_
    refine i_imul 60 rfl ?_
    refine i_iconst 61 rfl (by decide) ?_
    have hb := h.1
    replace h := h.2 _ rfl
    refine i_copy 62 rfl ml_473 cpw (by decide) hb.1.1 hb.1.2.1 hb.1.2.2 hb.2.1 hb.2.2 (Nat.le_of_ble_eq_true rfl) (by decide) ?_
    refine i_aload_n 63 rfl rfl (by decide) ?_
    refine i_getP (c := 4) (k := 4) (t := 109) (b := (l0 + 2)) 64 rfl fl_209 (by decide) rfl (by decide) rfl ?_
    refine i_iload_n 65 rfl rfl ?_
    refine i_aload_n 66 rfl rfl (by decide) ?_
    refine i_getP (c := 4) (k := 1) (t := 18) (b := 36) 67 rfl fl_204 (by decide) rfl (by decide) rfl ?_
    refine i_getL (c := 8) (k := 3) 68 rfl fl_148 (by decide) rfl ?_
    have hb := h.1
    replace h := h.2 _ rfl
    refine i_last (τ := 9) 69 rfl ⟨rfl, rfl, rfl, by decide⟩ hb.1 hb.2 ?_
    refine i_aload_n 70 rfl rfl (by decide) ?_
    refine i_getP (c := 4) (k := 5) (t := 110) (b := (l0 + 3)) 71 rfl fl_212 (by decide) rfl (by decide) rfl ?_
    refine i_iload_n 72 rfl rfl ?_
    refine i_iload_n 73 rfl rfl ?_
    have hb := h.1
    replace h := h.2 _ rfl
    refine i_iast (τ := 10) 74 rfl ⟨rfl, rfl, rfl, by decide⟩ hb.1 hb.2 ?_
    refine i_aload_n 75 rfl rfl (by decide) ?_
    refine i_dup 76 rfl (Nat.ne_of_beq_eq_false rfl) ?_
    refine i_getI (c := 4) (k := 2) 77 rfl fl_205 (by decide) (by decide) ?_
    refine i_iconst 78 rfl (by decide) ?_
    refine i_iadd 79 rfl ?_
    replace h := h _ rfl
    refine i_putI (c := 4) (k := 2) 80 rfl fl_205 (by decide) ⟨rfl, rfl, rfl⟩ ?_
    exact i_return 81 rfl rfl h
  · replace h := h.2 c
    refine i_aload_n 10 rfl rfl (by decide) ?_
    refine i_iload_n 11 rfl rfl ?_
    refine i_iconst 12 rfl (by decide) ?_
    refine i_isub 13 rfl ?_
    refine i_callV (c := 4) (y1 := m_X4_isBehind) (z1 := (1, 0, 0)) (z2 := (2, 0, 0)) [(0, (x_w (l2 - 1)))] 14 rfl ml_469 ok_X4_isBehind vk_X4_isBehind ⟨by decide, rfl⟩ rfl ⟨rfl, Nat.le_of_ble_eq_true rfl⟩ (Nat.le_of_ble_eq_true rfl) ⟨by decide, rfl, rfl, rfl⟩ ?_
    refine h.mono (fun r zM5 h => ?_)
    obtain ⟨zr6, rfl, h⟩ := h
    simp only [Option.toList_some, Option.toList_none, List.cons_append, List.nil_append]
    refine i_if_eq 83 15 rfl (by decide) (fun c => ?_) (fun c => ?_)
    · replace h := h.1 c
      refine i_aload_n 52 rfl rfl (by decide) ?_
      refine i_getP (c := 4) (k := 1) (t := 18) (b := 36) 53 rfl fl_204 (by decide) rfl (by decide) rfl ?_
      refine i_getP (c := 8) (k := 2) (t := 105) (b := 39) 54 rfl fl_147 (by decide) rfl (by decide) rfl ?_
      refine i_iconst 55 rfl (by decide) ?_
      refine i_aload_n 56 rfl rfl (by decide) ?_
      refine i_getP (c := 4) (k := 3) (t := 108) (b := (l0 + 1)) 57 rfl fl_207 (by decide) rfl (by decide) rfl ?_
      refine i_iload_n 58 rfl rfl ?_
      refine i_iconst 59 rfl (by decide) ?_
      refine i_imul 60 rfl ?_
      refine i_iconst 61 rfl (by decide) ?_
      have hb := h.1
      replace h := h.2 _ rfl
      refine i_copy 62 rfl ml_473 cpw (by decide) hb.1.1 hb.1.2.1 hb.1.2.2 hb.2.1 hb.2.2 (Nat.le_of_ble_eq_true rfl) (by decide) ?_
      refine i_aload_n 63 rfl rfl (by decide) ?_
      refine i_getP (c := 4) (k := 4) (t := 109) (b := (l0 + 2)) 64 rfl fl_209 (by decide) rfl (by decide) rfl ?_
      refine i_iload_n 65 rfl rfl ?_
      refine i_aload_n 66 rfl rfl (by decide) ?_
      refine i_getP (c := 4) (k := 1) (t := 18) (b := 36) 67 rfl fl_204 (by decide) rfl (by decide) rfl ?_
      refine i_getL (c := 8) (k := 3) 68 rfl fl_148 (by decide) rfl ?_
      have hb := h.1
      replace h := h.2 _ rfl
      refine i_last (τ := 9) 69 rfl ⟨rfl, rfl, rfl, by decide⟩ hb.1 hb.2 ?_
      refine i_aload_n 70 rfl rfl (by decide) ?_
      refine i_getP (c := 4) (k := 5) (t := 110) (b := (l0 + 3)) 71 rfl fl_212 (by decide) rfl (by decide) rfl ?_
      refine i_iload_n 72 rfl rfl ?_
      refine i_iload_n 73 rfl rfl ?_
      have hb := h.1
      replace h := h.2 _ rfl
      refine i_iast (τ := 10) 74 rfl ⟨rfl, rfl, rfl, by decide⟩ hb.1 hb.2 ?_
      refine i_aload_n 75 rfl rfl (by decide) ?_
      refine i_dup 76 rfl (Nat.ne_of_beq_eq_false rfl) ?_
      refine i_getI (c := 4) (k := 2) 77 rfl fl_205 (by decide) (by decide) ?_
      refine i_iconst 78 rfl (by decide) ?_
      refine i_iadd 79 rfl ?_
      replace h := h _ rfl
      refine i_putI (c := 4) (k := 2) 80 rfl fl_205 (by decide) ⟨rfl, rfl, rfl⟩ ?_
      exact i_return 81 rfl rfl h
    · replace h := h.2 c
      refine i_aload_n 16 rfl rfl (by decide) ?_
      refine i_getP (c := 4) (k := 3) (t := 108) (b := (l0 + 1)) 17 rfl fl_207 (by decide) rfl (by decide) rfl ?_
      refine i_iload_n 18 rfl rfl ?_
      refine i_iconst 19 rfl (by decide) ?_
      refine i_isub 20 rfl ?_
      refine i_iconst 21 rfl (by decide) ?_
      refine i_imul 22 rfl ?_
      refine i_aload_n 23 rfl rfl (by decide) ?_
      refine i_getP (c := 4) (k := 3) (t := 108) (b := (l0 + 1)) 24 rfl fl_207 (by decide) rfl (by decide) rfl ?_
      refine i_iload_n 25 rfl rfl ?_
      refine i_iconst 26 rfl (by decide) ?_
      refine i_imul 27 rfl ?_
      refine i_iconst 28 rfl (by decide) ?_
      have hb := h.1
      replace h := h.2 _ rfl
      refine i_copy 29 rfl ml_473 cpw (by decide) hb.1.1 hb.1.2.1 hb.1.2.2 hb.2.1 hb.2.2 (Nat.le_of_ble_eq_true rfl) (by decide) ?_
      refine i_aload_n 30 rfl rfl (by decide) ?_
      refine i_getP (c := 4) (k := 4) (t := 109) (b := (l0 + 2)) 31 rfl fl_209 (by decide) rfl (by decide) rfl ?_
      refine i_iload_n 32 rfl rfl ?_
      refine i_aload_n 33 rfl rfl (by decide) ?_
      refine i_getP (c := 4) (k := 4) (t := 109) (b := (l0 + 2)) 34 rfl fl_209 (by decide) rfl (by decide) rfl ?_
      refine i_iload_n 35 rfl rfl ?_
      refine i_iconst 36 rfl (by decide) ?_
      refine i_isub 37 rfl ?_
      refine i_lald (τ := 9) 38 rfl ⟨rfl, rfl, rfl, by decide⟩ h.1.1 h.1.2 ?_
      replace h := h.2
      have hb := h.1
      replace h := h.2 _ rfl
      refine i_last (τ := 9) 39 rfl ⟨rfl, rfl, rfl, by decide⟩ hb.1 hb.2 ?_
      refine i_aload_n 40 rfl rfl (by decide) ?_
      refine i_getP (c := 4) (k := 5) (t := 110) (b := (l0 + 3)) 41 rfl fl_212 (by decide) rfl (by decide) rfl ?_
      refine i_iload_n 42 rfl rfl ?_
      refine i_aload_n 43 rfl rfl (by decide) ?_
      refine i_getP (c := 4) (k := 5) (t := 110) (b := (l0 + 3)) 44 rfl fl_212 (by decide) rfl (by decide) rfl ?_
      refine i_iload_n 45 rfl rfl ?_
      refine i_iconst 46 rfl (by decide) ?_
      refine i_isub 47 rfl ?_
      refine i_iald (τ := 10) 48 rfl ⟨rfl, rfl, rfl, by decide⟩ h.1.1 h.1.2 ?_
      replace h := h.2
      have hb := h.1
      replace h := h.2 _ rfl
      refine i_iast (τ := 10) 49 rfl ⟨rfl, rfl, rfl, by decide⟩ hb.1 hb.2 ?_
      replace h := h _ rfl
      refine i_iinc 50 rfl rfl (by decide) rfl ?_
      refine i_goto 15 51 rfl (by decide) ?_
      exact h
theorem u_X4_stand_0 {l : Launch} {E : xE} (a0 a1 a2 : Int) {M : xM} {Q : Option xV → xM → Prop} (h : ∀ zM1 : xM, zM1 = x_wr M a0 11 a2 → ∀ zM2 : xM, zM2 = x_wr zM1 a0 12 0 → x_Ev l E (2, 0, 0) m_X1_feels 0 [(11, (9 + 4 * ((a0 - 49) / 9))), (1, a1), (5, 0), (1, a2), (5, 0)] [] zM2 (fun r zM3 => ∃ zr4, r = some (1, zr4) ∧ x_Ev l E (3, 0, 0) m_X4_stand 27 [(14, a0), (1, a1), (5, 0), (1, a2), (5, 0), (1, zr4), (5, 0), (0, 0), (0, 0), (5, 0)] [] zM3 Q)) : x_Ev l E (3, 0, 0) m_X4_stand 0 [(14, a0), (1, a1), (5, 0), (1, a2), (5, 0), (5, 0), (5, 0), (5, 0), (5, 0), (5, 0)] [] M Q := by
  refine i_aload_n 0 rfl rfl (by decide) ?_
  refine i_lload_n 1 rfl rfl ?_
  replace h := h _ rfl
  refine i_putL (c := 4) (k := 11) 2 rfl fl_223 (by decide) ⟨rfl, rfl, rfl⟩ ?_
  refine i_aload_n 3 rfl rfl (by decide) ?_
  refine i_iconst 4 rfl (by decide) ?_
  replace h := h _ rfl
  refine i_putI (c := 4) (k := 12) 5 rfl fl_225 (by decide) ⟨rfl, rfl, rfl⟩ ?_
  refine i_aload_n 6 rfl rfl (by decide) ?_
  refine i_getP (c := 4) (k := 0) (t := 11) (b := (9 + 4 * ((a0 - 49) / 9))) 7 rfl fl_203 (by decide) rfl (by decide) rfl ?_
  refine i_lload_n 8 rfl rfl ?_
  refine i_lload_n 9 rfl rfl ?_
  refine i_callV (c := 1) (y1 := m_X1_feels) (z1 := (2, 0, 0)) (z2 := (3, 0, 0)) [(1, a1), (1, a2)] 10 rfl ml_505 ok_X1_feels vk_X1_feels ⟨by decide, rfl⟩ rfl ⟨rfl, Nat.le_of_ble_eq_true rfl⟩ (Nat.le_of_ble_eq_true rfl) ⟨by decide, rfl, rfl, rfl⟩ ?_
  refine h.mono (fun r zM3 h => ?_)
  obtain ⟨zr4, rfl, h⟩ := h
  simp only [Option.toList_some, Option.toList_none, List.cons_append, List.nil_append]
  refine i_lstore 11 rfl (by decide) rfl ?_
  refine i_iconst 12 rfl (by decide) ?_
  refine i_istore 13 rfl (by decide) rfl ?_
  refine i_iconst 14 rfl (by decide) ?_
  refine i_istore 15 rfl (by decide) rfl ?_
  exact h
theorem u_X4_stand_27 {l : Launch} {E : xE} (l0 l1 l3 l5 l7 l8 : Int) {M : xM} {Q : Option xV → xM → Prop} (h : ((M l0 2) ≤ l8 → Q none M) ∧ (¬ (M l0 2) ≤ l8 → ((0 : Int) ≤ l8 ∧ (l8 : Int) < 10) ∧ ((0 : Int) ≤ l8 ∧ (l8 : Int) < 10) ∧ (0 ≤ l8 ∧ l8 < 10) ∧ ∀ zM1 : xM, zM1 = x_wr M (l0 + 7) l8 (x_W ((x_W ((M (l0 + 4) l8) * l3)) - (x_W (l5 * (M (l0 + 5) l8))))) → ((0 : Int) ≤ l8 ∧ (l8 : Int) < 10) ∧ ((0 : Int) ≤ l8 ∧ (l8 : Int) < 10) ∧ (0 ≤ l8 ∧ l8 < 10) ∧ ∀ zM2 : xM, zM2 = x_wr zM1 (l0 + 8) l8 (x_W ((x_W ((zM1 (l0 + 5) l8) * l1)) + (x_W ((zM1 (l0 + 6) l8) * l3)))) → (¬ l8 = 0 → ((0 : Int) ≤ l8 ∧ (l8 : Int) < 10) ∧ ((0 : Int) ≤ l7 ∧ (l7 : Int) < 10) ∧ ((0 : Int) ≤ l7 ∧ (l7 : Int) < 10) ∧ ((0 : Int) ≤ l8 ∧ (l8 : Int) < 10) ∧ x_Ev l E (1, 0, 0) m_J13_compare_74951 0 [(1, (x_W ((zM2 (l0 + 7) l8) * (zM2 (l0 + 2) l7)))), (5, 0), (1, (x_W ((zM2 (l0 + 7) l7) * (zM2 (l0 + 2) l8)))), (5, 0)] [] zM2 (fun r zM3 => ∃ zr4, r = some (0, zr4) ∧ (zr4 ≤ 0 → (zr4 < 0 → ∀ zv5 : Int, zv5 = x_w (l8 + 1) → x_Ev l E (3, 0, 0) m_X4_stand 27 [(14, l0), (1, l1), (5, 0), (1, l3), (5, 0), (1, l5), (5, 0), (0, l7), (0, zv5), (5, 0)] [] zM3 Q) ∧ (¬ zr4 < 0 → ∀ zM6 : xM, zM6 = x_wr zM3 l0 12 (x_ior (zM3 l0 12) (x_ishl 1 l8)) → ∀ zv7 : Int, zv7 = x_w (l8 + 1) → x_Ev l E (3, 0, 0) m_X4_stand 27 [(14, l0), (1, l1), (5, 0), (1, l3), (5, 0), (1, l5), (5, 0), (0, l7), (0, zv7), (5, 0)] [] zM6 Q)) ∧ (¬ zr4 ≤ 0 → ∀ zM8 : xM, zM8 = x_wr zM3 l0 12 0 → ∀ zM9 : xM, zM9 = x_wr zM8 l0 12 (x_ior (zM8 l0 12) (x_ishl 1 l8)) → ∀ zv10 : Int, zv10 = x_w (l8 + 1) → x_Ev l E (3, 0, 0) m_X4_stand 27 [(14, l0), (1, l1), (5, 0), (1, l3), (5, 0), (1, l5), (5, 0), (0, l8), (0, zv10), (5, 0)] [] zM9 Q))) ∧ (l8 = 0 → ∀ zM11 : xM, zM11 = x_wr zM2 l0 12 0 → ∀ zM12 : xM, zM12 = x_wr zM11 l0 12 (x_ior (zM11 l0 12) (x_ishl 1 l8)) → ∀ zv13 : Int, zv13 = x_w (l8 + 1) → x_Ev l E (3, 0, 0) m_X4_stand 27 [(14, l0), (1, l1), (5, 0), (1, l3), (5, 0), (1, l5), (5, 0), (0, l8), (0, zv13), (5, 0)] [] zM12 Q))) : x_Ev l E (3, 0, 0) m_X4_stand 27 [(14, l0), (1, l1), (5, 0), (1, l3), (5, 0), (1, l5), (5, 0), (0, l7), (0, l8), (5, 0)] [] M Q := by
  refine i_iload 16 rfl rfl ?_
  refine i_aload_n 17 rfl rfl (by decide) ?_
  refine i_getI (c := 4) (k := 2) 18 rfl fl_205 (by decide) (by decide) ?_
  refine i_icmp_ge 171 19 rfl (by decide) (fun c => ?_) (fun c => ?_)
  · replace h := h.1 c
    exact i_return 97 rfl rfl h
  · replace h := h.2 c
    refine i_aload_n 20 rfl rfl (by decide) ?_
    refine i_getP (c := 4) (k := 9) (t := 109) (b := (l0 + 7)) 21 rfl fl_218 (by decide) rfl (by decide) rfl ?_
    refine i_iload 22 rfl rfl ?_
    refine i_aload_n 23 rfl rfl (by decide) ?_
    refine i_getP (c := 4) (k := 6) (t := 109) (b := (l0 + 4)) 24 rfl fl_214 (by decide) rfl (by decide) rfl ?_
    refine i_iload 25 rfl rfl ?_
    refine i_lald (τ := 9) 26 rfl ⟨rfl, rfl, rfl, by decide⟩ h.1.1 h.1.2 ?_
    replace h := h.2
    refine i_lload_n 27 rfl rfl ?_
    refine i_lmul 28 rfl ?_
    refine i_lload 29 rfl rfl ?_
    refine i_aload_n 30 rfl rfl (by decide) ?_
    refine i_getP (c := 4) (k := 7) (t := 109) (b := (l0 + 5)) 31 rfl fl_215 (by decide) rfl (by decide) rfl ?_
    refine i_iload 32 rfl rfl ?_
    refine i_lald (τ := 9) 33 rfl ⟨rfl, rfl, rfl, by decide⟩ h.1.1 h.1.2 ?_
    replace h := h.2
    refine i_lmul 34 rfl ?_
    refine i_lsub 35 rfl ?_
    have hb := h.1
    replace h := h.2 _ rfl
    refine i_last (τ := 9) 36 rfl ⟨rfl, rfl, rfl, by decide⟩ hb.1 hb.2 ?_
    refine i_aload_n 37 rfl rfl (by decide) ?_
    refine i_getP (c := 4) (k := 10) (t := 109) (b := (l0 + 8)) 38 rfl fl_220 (by decide) rfl (by decide) rfl ?_
    refine i_iload 39 rfl rfl ?_
    refine i_aload_n 40 rfl rfl (by decide) ?_
    refine i_getP (c := 4) (k := 7) (t := 109) (b := (l0 + 5)) 41 rfl fl_215 (by decide) rfl (by decide) rfl ?_
    refine i_iload 42 rfl rfl ?_
    refine i_lald (τ := 9) 43 rfl ⟨rfl, rfl, rfl, by decide⟩ h.1.1 h.1.2 ?_
    replace h := h.2
    refine i_lload_n 44 rfl rfl ?_
    refine i_lmul 45 rfl ?_
    refine i_aload_n 46 rfl rfl (by decide) ?_
    refine i_getP (c := 4) (k := 8) (t := 109) (b := (l0 + 6)) 47 rfl fl_217 (by decide) rfl (by decide) rfl ?_
    refine i_iload 48 rfl rfl ?_
    refine i_lald (τ := 9) 49 rfl ⟨rfl, rfl, rfl, by decide⟩ h.1.1 h.1.2 ?_
    replace h := h.2
    refine i_lload_n 50 rfl rfl ?_
    refine i_lmul 51 rfl ?_
    refine i_ladd 52 rfl ?_
    have hb := h.1
    replace h := h.2 _ rfl
    refine i_last (τ := 9) 53 rfl ⟨rfl, rfl, rfl, by decide⟩ hb.1 hb.2 ?_
    refine i_iload 54 rfl rfl ?_
    refine i_if_ne 98 55 rfl (by decide) (fun c => ?_) (fun c => ?_)
    · replace h := h.1 c
      refine i_aload_n 58 rfl rfl (by decide) ?_
      refine i_getP (c := 4) (k := 9) (t := 109) (b := (l0 + 7)) 59 rfl fl_218 (by decide) rfl (by decide) rfl ?_
      refine i_iload 60 rfl rfl ?_
      refine i_lald (τ := 9) 61 rfl ⟨rfl, rfl, rfl, by decide⟩ h.1.1 h.1.2 ?_
      replace h := h.2
      refine i_aload_n 62 rfl rfl (by decide) ?_
      refine i_getP (c := 4) (k := 4) (t := 109) (b := (l0 + 2)) 63 rfl fl_209 (by decide) rfl (by decide) rfl ?_
      refine i_iload 64 rfl rfl ?_
      refine i_lald (τ := 9) 65 rfl ⟨rfl, rfl, rfl, by decide⟩ h.1.1 h.1.2 ?_
      replace h := h.2
      refine i_lmul 66 rfl ?_
      refine i_aload_n 67 rfl rfl (by decide) ?_
      refine i_getP (c := 4) (k := 9) (t := 109) (b := (l0 + 7)) 68 rfl fl_218 (by decide) rfl (by decide) rfl ?_
      refine i_iload 69 rfl rfl ?_
      refine i_lald (τ := 9) 70 rfl ⟨rfl, rfl, rfl, by decide⟩ h.1.1 h.1.2 ?_
      replace h := h.2
      refine i_aload_n 71 rfl rfl (by decide) ?_
      refine i_getP (c := 4) (k := 4) (t := 109) (b := (l0 + 2)) 72 rfl fl_209 (by decide) rfl (by decide) rfl ?_
      refine i_iload 73 rfl rfl ?_
      refine i_lald (τ := 9) 74 rfl ⟨rfl, rfl, rfl, by decide⟩ h.1.1 h.1.2 ?_
      replace h := h.2
      refine i_lmul 75 rfl ?_
      refine i_callS (y1 := m_J13_compare_74951) (z1 := (1, 0, 0)) (z2 := (3, 0, 0)) [(1, (x_W (((x_wr (x_wr M (l0 + 7) l8 (x_W ((x_W ((M (l0 + 4) l8) * l3)) - (x_W (l5 * (M (l0 + 5) l8)))))) (l0 + 8) l8 (x_W ((x_W (((x_wr M (l0 + 7) l8 (x_W ((x_W ((M (l0 + 4) l8) * l3)) - (x_W (l5 * (M (l0 + 5) l8)))))) (l0 + 5) l8) * l1)) + (x_W (((x_wr M (l0 + 7) l8 (x_W ((x_W ((M (l0 + 4) l8) * l3)) - (x_W (l5 * (M (l0 + 5) l8)))))) (l0 + 6) l8) * l3))))) (l0 + 7) l8) * ((x_wr (x_wr M (l0 + 7) l8 (x_W ((x_W ((M (l0 + 4) l8) * l3)) - (x_W (l5 * (M (l0 + 5) l8)))))) (l0 + 8) l8 (x_W ((x_W (((x_wr M (l0 + 7) l8 (x_W ((x_W ((M (l0 + 4) l8) * l3)) - (x_W (l5 * (M (l0 + 5) l8)))))) (l0 + 5) l8) * l1)) + (x_W (((x_wr M (l0 + 7) l8 (x_W ((x_W ((M (l0 + 4) l8) * l3)) - (x_W (l5 * (M (l0 + 5) l8)))))) (l0 + 6) l8) * l3))))) (l0 + 2) l7)))), (1, (x_W (((x_wr (x_wr M (l0 + 7) l8 (x_W ((x_W ((M (l0 + 4) l8) * l3)) - (x_W (l5 * (M (l0 + 5) l8)))))) (l0 + 8) l8 (x_W ((x_W (((x_wr M (l0 + 7) l8 (x_W ((x_W ((M (l0 + 4) l8) * l3)) - (x_W (l5 * (M (l0 + 5) l8)))))) (l0 + 5) l8) * l1)) + (x_W (((x_wr M (l0 + 7) l8 (x_W ((x_W ((M (l0 + 4) l8) * l3)) - (x_W (l5 * (M (l0 + 5) l8)))))) (l0 + 6) l8) * l3))))) (l0 + 7) l7) * ((x_wr (x_wr M (l0 + 7) l8 (x_W ((x_W ((M (l0 + 4) l8) * l3)) - (x_W (l5 * (M (l0 + 5) l8)))))) (l0 + 8) l8 (x_W ((x_W (((x_wr M (l0 + 7) l8 (x_W ((x_W ((M (l0 + 4) l8) * l3)) - (x_W (l5 * (M (l0 + 5) l8)))))) (l0 + 5) l8) * l1)) + (x_W (((x_wr M (l0 + 7) l8 (x_W ((x_W ((M (l0 + 4) l8) * l3)) - (x_W (l5 * (M (l0 + 5) l8)))))) (l0 + 6) l8) * l3))))) (l0 + 2) l8))))] 76 rfl ml_517 ok_J13_compare_74951 vk_J13_compare_74951 rfl ⟨rfl, Nat.le_of_ble_eq_true rfl⟩ (Nat.le_of_ble_eq_true rfl) ⟨by decide, rfl, rfl, rfl⟩ ?_
      refine h.mono (fun r zM3 h => ?_)
      obtain ⟨zr4, rfl, h⟩ := h
      simp only [Option.toList_some, Option.toList_none, List.cons_append, List.nil_append]
      refine i_istore 77 rfl (by decide) rfl ?_
      refine i_iload 78 rfl rfl ?_
      refine i_if_le 147 79 rfl (by decide) (fun c => ?_) (fun c => ?_)
      · replace h := h.1 c
        refine i_iload 85 rfl rfl ?_
        refine i_if_lt 165 86 rfl (by decide) (fun c => ?_) (fun c => ?_)
        · replace h := h.1 c
          replace h := h _ rfl
          refine i_iinc 95 rfl rfl (by decide) rfl ?_
          refine i_goto 27 96 rfl (by decide) ?_
          refine i_weak ?_ h
          exact (And.intro (Or.inr rfl) (And.intro (Or.inr rfl) (And.intro (Or.inr rfl) (And.intro (Or.inr rfl) (And.intro (Or.inr rfl) (And.intro (Or.inr rfl) (And.intro (Or.inr rfl) (And.intro (Or.inr rfl) (And.intro (Or.inr rfl) (And.intro (Or.inl rfl) trivial))))))))))
        · replace h := h.2 c
          refine i_aload_n 87 rfl rfl (by decide) ?_
          refine i_dup 88 rfl (Nat.ne_of_beq_eq_false rfl) ?_
          refine i_getI (c := 4) (k := 12) 89 rfl fl_225 (by decide) (by decide) ?_
          refine i_iconst 90 rfl (by decide) ?_
          refine i_iload 91 rfl rfl ?_
          refine i_ishl 92 rfl ?_
          refine i_ior 93 rfl ?_
          replace h := h _ rfl
          refine i_putI (c := 4) (k := 12) 94 rfl fl_225 (by decide) ⟨rfl, rfl, rfl⟩ ?_
          replace h := h _ rfl
          refine i_iinc 95 rfl rfl (by decide) rfl ?_
          refine i_goto 27 96 rfl (by decide) ?_
          refine i_weak ?_ h
          exact (And.intro (Or.inr rfl) (And.intro (Or.inr rfl) (And.intro (Or.inr rfl) (And.intro (Or.inr rfl) (And.intro (Or.inr rfl) (And.intro (Or.inr rfl) (And.intro (Or.inr rfl) (And.intro (Or.inr rfl) (And.intro (Or.inr rfl) (And.intro (Or.inl rfl) trivial))))))))))
      · replace h := h.2 c
        refine i_iload 80 rfl rfl ?_
        refine i_istore 81 rfl (by decide) rfl ?_
        refine i_aload_n 82 rfl rfl (by decide) ?_
        refine i_iconst 83 rfl (by decide) ?_
        replace h := h _ rfl
        refine i_putI (c := 4) (k := 12) 84 rfl fl_225 (by decide) ⟨rfl, rfl, rfl⟩ ?_
        refine i_iload 85 rfl rfl ?_
        refine i_if_lt 165 86 rfl (by decide) (fun c => ?_) (fun c => ?_)
        · exact absurd c (by omega)
        · refine i_aload_n 87 rfl rfl (by decide) ?_
          refine i_dup 88 rfl (Nat.ne_of_beq_eq_false rfl) ?_
          refine i_getI (c := 4) (k := 12) 89 rfl fl_225 (by decide) (by decide) ?_
          refine i_iconst 90 rfl (by decide) ?_
          refine i_iload 91 rfl rfl ?_
          refine i_ishl 92 rfl ?_
          refine i_ior 93 rfl ?_
          replace h := h _ rfl
          refine i_putI (c := 4) (k := 12) 94 rfl fl_225 (by decide) ⟨rfl, rfl, rfl⟩ ?_
          replace h := h _ rfl
          refine i_iinc 95 rfl rfl (by decide) rfl ?_
          refine i_goto 27 96 rfl (by decide) ?_
          refine i_weak ?_ h
          exact (And.intro (Or.inr rfl) (And.intro (Or.inr rfl) (And.intro (Or.inr rfl) (And.intro (Or.inr rfl) (And.intro (Or.inr rfl) (And.intro (Or.inr rfl) (And.intro (Or.inr rfl) (And.intro (Or.inr rfl) (And.intro (Or.inr rfl) (And.intro (Or.inl rfl) trivial))))))))))
    · replace h := h.2 c
      refine i_iconst 56 rfl (by decide) ?_
      refine i_goto 131 57 rfl (by decide) ?_
      refine i_istore 77 rfl (by decide) rfl ?_
      refine i_iload 78 rfl rfl ?_
      refine i_if_le 147 79 rfl (by decide) (fun c => ?_) (fun c => ?_)
      · exact absurd c (by decide)
      · refine i_iload 80 rfl rfl ?_
        refine i_istore 81 rfl (by decide) rfl ?_
        refine i_aload_n 82 rfl rfl (by decide) ?_
        refine i_iconst 83 rfl (by decide) ?_
        replace h := h _ rfl
        refine i_putI (c := 4) (k := 12) 84 rfl fl_225 (by decide) ⟨rfl, rfl, rfl⟩ ?_
        refine i_iload 85 rfl rfl ?_
        refine i_if_lt 165 86 rfl (by decide) (fun c => ?_) (fun c => ?_)
        · exact absurd c (by decide)
        · refine i_aload_n 87 rfl rfl (by decide) ?_
          refine i_dup 88 rfl (Nat.ne_of_beq_eq_false rfl) ?_
          refine i_getI (c := 4) (k := 12) 89 rfl fl_225 (by decide) (by decide) ?_
          refine i_iconst 90 rfl (by decide) ?_
          refine i_iload 91 rfl rfl ?_
          refine i_ishl 92 rfl ?_
          refine i_ior 93 rfl ?_
          replace h := h _ rfl
          refine i_putI (c := 4) (k := 12) 94 rfl fl_225 (by decide) ⟨rfl, rfl, rfl⟩ ?_
          replace h := h _ rfl
          refine i_iinc 95 rfl rfl (by decide) rfl ?_
          refine i_goto 27 96 rfl (by decide) ?_
          refine i_weak ?_ h
          exact (And.intro (Or.inr rfl) (And.intro (Or.inr rfl) (And.intro (Or.inr rfl) (And.intro (Or.inr rfl) (And.intro (Or.inr rfl) (And.intro (Or.inr rfl) (And.intro (Or.inr rfl) (And.intro (Or.inr rfl) (And.intro (Or.inr rfl) (And.intro (Or.inl rfl) trivial))))))))))
theorem u_X4_choose_0 {l : Launch} {E : xE} (a0 a1 : Int) {M : xM} {Q : Option xV → xM → Prop} (h : x_Ev l E (3, 0, 0) m_X4_choose 4 [(14, a0), (0, a1), (0, (-1)), (0, 0)] [] M Q) : x_Ev l E (3, 0, 0) m_X4_choose 0 [(14, a0), (0, a1), (5, 0), (5, 0)] [] M Q := by
  refine i_iconst 0 rfl (by decide) ?_
  refine i_istore_n 1 rfl (by decide) rfl ?_
  refine i_iconst 2 rfl (by decide) ?_
  refine i_istore_n 3 rfl (by decide) rfl ?_
  exact h
theorem u_X4_choose_4 {l : Launch} {E : xE} (l0 l1 l2 l3 : Int) {M : xM} {Q : Option xV → xM → Prop} (h : ((M l0 2) ≤ l3 → Q (some (0, l2)) M) ∧ (¬ (M l0 2) ≤ l3 → ((x_iand (x_ishr (M l0 12) l3) 1) = 0 → ∀ zv1 : Int, zv1 = x_w (l3 + 1) → x_Ev l E (3, 0, 0) m_X4_choose 4 [(14, l0), (0, l1), (0, l2), (0, zv1)] [] M Q) ∧ (¬ (x_iand (x_ishr (M l0 12) l3) 1) = 0 → (l2 < 0 → ∀ zv2 : Int, zv2 = x_w (l3 + 1) → x_Ev l E (3, 0, 0) m_X4_choose 4 [(14, l0), (0, l1), (0, l3), (0, zv2)] [] M Q) ∧ (¬ l2 < 0 → x_Ev l E (2, 0, 0) m_X4_isChosenOver 0 [(14, l0), (0, l3), (0, l2), (0, l1), (5, 0), (5, 0)] [] M (fun r zM3 => ∃ zr4, r = some (0, zr4) ∧ (zr4 = 0 → ∀ zv5 : Int, zv5 = x_w (l3 + 1) → x_Ev l E (3, 0, 0) m_X4_choose 4 [(14, l0), (0, l1), (0, l2), (0, zv5)] [] zM3 Q) ∧ (¬ zr4 = 0 → ∀ zv6 : Int, zv6 = x_w (l3 + 1) → x_Ev l E (3, 0, 0) m_X4_choose 4 [(14, l0), (0, l1), (0, l3), (0, zv6)] [] zM3 Q)))))) : x_Ev l E (3, 0, 0) m_X4_choose 4 [(14, l0), (0, l1), (0, l2), (0, l3)] [] M Q := by
  refine i_iload_n 4 rfl rfl ?_
  refine i_aload_n 5 rfl rfl (by decide) ?_
  refine i_getI (c := 4) (k := 2) 6 rfl fl_205 (by decide) (by decide) ?_
  refine i_icmp_ge 45 7 rfl (by decide) (fun c => ?_) (fun c => ?_)
  · replace h := h.1 c
    refine i_iload_n 27 rfl rfl ?_
    exact i_ireturn 28 rfl rfl h
  · replace h := h.2 c
    refine i_aload_n 8 rfl rfl (by decide) ?_
    refine i_getI (c := 4) (k := 12) 9 rfl fl_225 (by decide) (by decide) ?_
    refine i_iload_n 10 rfl rfl ?_
    refine i_ishr 11 rfl ?_
    refine i_iconst 12 rfl (by decide) ?_
    refine i_iand 13 rfl ?_
    refine i_if_eq 39 14 rfl (by decide) (fun c => ?_) (fun c => ?_)
    · replace h := h.1 c
      replace h := h _ rfl
      refine i_iinc 25 rfl rfl (by decide) rfl ?_
      refine i_goto 4 26 rfl (by decide) ?_
      exact h
    · replace h := h.2 c
      refine i_iload_n 15 rfl rfl ?_
      refine i_if_lt 37 16 rfl (by decide) (fun c => ?_) (fun c => ?_)
      · replace h := h.1 c
        refine i_iload_n 23 rfl rfl ?_
        refine i_istore_n 24 rfl (by decide) rfl ?_
        replace h := h _ rfl
        refine i_iinc 25 rfl rfl (by decide) rfl ?_
        refine i_goto 4 26 rfl (by decide) ?_
        exact h
      · replace h := h.2 c
        refine i_aload_n 17 rfl rfl (by decide) ?_
        refine i_iload_n 18 rfl rfl ?_
        refine i_iload_n 19 rfl rfl ?_
        refine i_iload_n 20 rfl rfl ?_
        refine i_callV (c := 4) (y1 := m_X4_isChosenOver) (z1 := (2, 0, 0)) (z2 := (3, 0, 0)) [(0, l3), (0, l2), (0, l1)] 21 rfl ml_524 ok_X4_isChosenOver vk_X4_isChosenOver ⟨by decide, rfl⟩ rfl ⟨rfl, Nat.le_of_ble_eq_true rfl⟩ (Nat.le_of_ble_eq_true rfl) ⟨by decide, rfl, rfl, rfl⟩ ?_
        refine h.mono (fun r zM3 h => ?_)
        obtain ⟨zr4, rfl, h⟩ := h
        simp only [Option.toList_some, Option.toList_none, List.cons_append, List.nil_append]
        refine i_if_eq 39 22 rfl (by decide) (fun c => ?_) (fun c => ?_)
        · replace h := h.1 c
          replace h := h _ rfl
          refine i_iinc 25 rfl rfl (by decide) rfl ?_
          refine i_goto 4 26 rfl (by decide) ?_
          exact h
        · replace h := h.2 c
          refine i_iload_n 23 rfl rfl ?_
          refine i_istore_n 24 rfl (by decide) rfl ?_
          replace h := h _ rfl
          refine i_iinc 25 rfl rfl (by decide) rfl ?_
          refine i_goto 4 26 rfl (by decide) ?_
          exact h
theorem u_X4_sumOf_0 {l : Launch} {E : xE} (a0 a1 a2 : Int) {M : xM} {Q : Option xV → xM → Prop} (h : x_Ev l E (1, 0, 0) m_X4_sumOf 5 [(14, a0), (0, a1), (0, a2), (1, 0), (5, 0), (0, 0)] [] M Q) : x_Ev l E (1, 0, 0) m_X4_sumOf 0 [(14, a0), (0, a1), (0, a2), (5, 0), (5, 0), (5, 0)] [] M Q := by
  refine i_lconst (w := 0) 0 rfl (by decide) ?_
  refine i_lstore_n 1 rfl (by decide) rfl ?_
  refine i_iconst 2 rfl (by decide) ?_
  refine i_istore 3 rfl (by decide) rfl ?_
  exact h
theorem u_X4_sumOf_5 {l : Launch} {E : xE} (l0 l1 l2 l3 l5 : Int) {M : xM} {Q : Option xV → xM → Prop} (h : ((M (9 + 4 * ((l0 - 49) / 9)) 2) ≤ l5 → Q (some (1, l3)) M) ∧ (¬ (M (9 + 4 * ((l0 - 49) / 9)) 2) ≤ l5 → ((0 : Int) ≤ (x_w ((x_w (l1 * 3)) + l5)) ∧ ((x_w ((x_w (l1 * 3)) + l5)) : Int) < 30) ∧ ((0 : Int) ≤ (x_w ((x_w (l2 * 3)) + l5)) ∧ ((x_w ((x_w (l2 * 3)) + l5)) : Int) < 9) ∧ ∀ zv1 : Int, zv1 = (x_W (l3 + (x_W ((M (l0 + 1) (x_w ((x_w (l1 * 3)) + l5))) * (M ((9 + 4 * ((l0 - 49) / 9)) + 1) (x_w ((x_w (l2 * 3)) + l5))))))) → ∀ zv2 : Int, zv2 = x_w (l5 + 1) → x_Ev l E (1, 0, 0) m_X4_sumOf 5 [(14, l0), (0, l1), (0, l2), (1, zv1), (5, 0), (0, zv2)] [] M Q)) : x_Ev l E (1, 0, 0) m_X4_sumOf 5 [(14, l0), (0, l1), (0, l2), (1, l3), (5, 0), (0, l5)] [] M Q := by
  refine i_iload 4 rfl rfl ?_
  refine i_aload_n 5 rfl rfl (by decide) ?_
  refine i_getP (c := 4) (k := 0) (t := 11) (b := (9 + 4 * ((l0 - 49) / 9))) 6 rfl fl_203 (by decide) rfl (by decide) rfl ?_
  refine i_getI (c := 1) (k := 2) 7 rfl fl_67 (by decide) (by decide) ?_
  refine i_icmp_ge 53 8 rfl (by decide) (fun c => ?_) (fun c => ?_)
  · replace h := h.1 c
    refine i_lload_n 33 rfl rfl ?_
    exact i_lreturn 34 rfl rfl h
  · replace h := h.2 c
    refine i_lload_n 9 rfl rfl ?_
    refine i_aload_n 10 rfl rfl (by decide) ?_
    refine i_getP (c := 4) (k := 3) (t := 108) (b := (l0 + 1)) 11 rfl fl_207 (by decide) rfl (by decide) rfl ?_
    refine i_iload_n 12 rfl rfl ?_
    refine i_iconst 13 rfl (by decide) ?_
    refine i_imul 14 rfl ?_
    refine i_iload 15 rfl rfl ?_
    refine i_iadd 16 rfl ?_
    refine i_lald (τ := 8) 17 rfl ⟨rfl, rfl, rfl, by decide⟩ h.1.1 h.1.2 ?_
    replace h := h.2
    refine i_aload_n 18 rfl rfl (by decide) ?_
    refine i_getP (c := 4) (k := 0) (t := 11) (b := (9 + 4 * ((l0 - 49) / 9))) 19 rfl fl_203 (by decide) rfl (by decide) rfl ?_
    refine i_getP (c := 1) (k := 4) (t := 101) (b := ((9 + 4 * ((l0 - 49) / 9)) + 1)) 20 rfl fl_77 (by decide) rfl (by decide) rfl ?_
    refine i_iload_n 21 rfl rfl ?_
    refine i_iconst 22 rfl (by decide) ?_
    refine i_imul 23 rfl ?_
    refine i_iload 24 rfl rfl ?_
    refine i_iadd 25 rfl ?_
    refine i_iald (τ := 1) 26 rfl ⟨rfl, rfl, rfl, by decide⟩ h.1.1 h.1.2 ?_
    replace h := h.2
    refine i_i2l 27 rfl ?_
    refine i_lmul 28 rfl ?_
    refine i_ladd 29 rfl ?_
    replace h := h _ rfl
    refine i_lstore_n 30 rfl (by decide) rfl ?_
    replace h := h _ rfl
    refine i_iinc 31 rfl rfl (by decide) rfl ?_
    refine i_goto 5 32 rfl (by decide) ?_
    exact h
theorem u_X2_commonDivisor_0 {l : Launch} {E : xE} (a0 a1 : Int) {M : xM} {Q : Option xV → xM → Prop} (h : (0 ≤ a0 → x_Ev l E (1, 0, 0) m_X2_commonDivisor 20 [(1, a0), (5, 0), (1, a1), (5, 0), (1, a0), (5, 0), (1, a1), (5, 0), (0, 0), (5, 0), (5, 0)] [] M Q) ∧ (¬ 0 ≤ a0 → ∀ zv1 : Int, zv1 = (x_W (-a0)) → x_Ev l E (1, 0, 0) m_X2_commonDivisor 20 [(1, a0), (5, 0), (1, a1), (5, 0), (1, zv1), (5, 0), (1, a1), (5, 0), (0, 0), (5, 0), (5, 0)] [] M Q)) : x_Ev l E (1, 0, 0) m_X2_commonDivisor 0 [(1, a0), (5, 0), (1, a1), (5, 0), (5, 0), (5, 0), (5, 0), (5, 0), (5, 0), (5, 0), (5, 0)] [] M Q := by
  refine i_lload_n 0 rfl rfl ?_
  refine i_lconst (w := 0) 1 rfl (by decide) ?_
  refine i_lcmp_ge 11 2 rfl rfl (by decide) (fun c => ?_) (fun c => ?_)
  · replace h := h.1 c
    refine i_lload_n 7 rfl rfl ?_
    refine i_lstore 8 rfl (by decide) rfl ?_
    refine i_lload_n 9 rfl rfl ?_
    refine i_lstore 10 rfl (by decide) rfl ?_
    refine i_iconst 11 rfl (by decide) ?_
    refine i_istore 12 rfl (by decide) rfl ?_
    exact h
  · replace h := h.2 c
    refine i_lload_n 4 rfl rfl ?_
    refine i_lneg 5 rfl ?_
    refine i_goto 12 6 rfl (by decide) ?_
    replace h := h _ rfl
    refine i_lstore 8 rfl (by decide) rfl ?_
    refine i_lload_n 9 rfl rfl ?_
    refine i_lstore 10 rfl (by decide) rfl ?_
    refine i_iconst 11 rfl (by decide) ?_
    refine i_istore 12 rfl (by decide) rfl ?_
    exact h
theorem u_X2_commonDivisor_20 {l : Launch} {E : xE} (l0 l2 l4 l6 l8 : Int) {M : xM} {Q : Option xV → xM → Prop} (h : (100 ≤ l8 → Q (some (1, l4)) M) ∧ (¬ 100 ≤ l8 → (l6 = 0 → Q (some (1, l4)) M) ∧ (¬ l6 = 0 → (l6 ≠ 0) ∧ ∀ zv1 : Int, zv1 = (l4.tmod l6) → ∀ zv2 : Int, zv2 = x_w (l8 + 1) → x_Ev l E (1, 0, 0) m_X2_commonDivisor 20 [(1, l0), (5, 0), (1, l2), (5, 0), (1, l6), (5, 0), (1, zv1), (5, 0), (0, zv2), (5, 0), (5, 0)] [] M Q))) : x_Ev l E (1, 0, 0) m_X2_commonDivisor 20 [(1, l0), (5, 0), (1, l2), (5, 0), (1, l4), (5, 0), (1, l6), (5, 0), (0, l8), (5, 0), (5, 0)] [] M Q := by
  refine i_iload 13 rfl rfl ?_
  refine i_bipush 14 rfl (by decide) ?_
  refine i_icmp_ge 55 15 rfl (by decide) (fun c => ?_) (fun c => ?_)
  · replace h := h.1 c
    refine i_lload 30 rfl rfl ?_
    exact i_lreturn 31 rfl rfl h
  · replace h := h.2 c
    refine i_lload 16 rfl rfl ?_
    refine i_lconst (w := 0) 17 rfl (by decide) ?_
    refine i_lcmp_eq 55 18 rfl rfl (by decide) (fun c => ?_) (fun c => ?_)
    · replace h := h.1 c
      refine i_lload 30 rfl rfl ?_
      exact i_lreturn 31 rfl rfl h
    · replace h := h.2 c
      refine i_lload 20 rfl rfl ?_
      refine i_lload 21 rfl rfl ?_
      refine i_lrem 22 rfl h.1 ?_
      replace h := h.2
      replace h := h _ rfl
      refine i_lstore 23 rfl (by decide) rfl ?_
      refine i_lload 24 rfl rfl ?_
      refine i_lstore 25 rfl (by decide) rfl ?_
      refine i_lload 26 rfl rfl ?_
      refine i_lstore 27 rfl (by decide) rfl ?_
      replace h := h _ rfl
      refine i_iinc 28 rfl rfl (by decide) rfl ?_
      refine i_goto 20 29 rfl (by decide) ?_
      refine i_weak ?_ h
      exact (And.intro (Or.inr rfl) (And.intro (Or.inr rfl) (And.intro (Or.inr rfl) (And.intro (Or.inr rfl) (And.intro (Or.inr rfl) (And.intro (Or.inr rfl) (And.intro (Or.inr rfl) (And.intro (Or.inr rfl) (And.intro (Or.inr rfl) (And.intro (Or.inl rfl) (And.intro (Or.inr rfl) trivial)))))))))))
theorem u_X5_findAll_0 {l : Launch} {E : xE} (a1 a2 : Int) {M : xM} {Q : Option xV → xM → Prop} (h : ∀ zM1 : xM, zM1 = x_wr M 76 1 0 → ∀ zM2 : xM, zM2 = x_wr zM1 76 4 (zM1 a2 1) → x_Ev l E (1, 0, 0) m_X1_pairs 0 [(11, a1)] [] zM2 (fun r zM3 => ∃ zr4, r = some (0, zr4) ∧ ∀ zv5 : Int, zv5 = (x_ishl 1 zr4) → x_Ev l E (4, 0, 0) m_X5_findAll 23 [(15, 76), (11, a1), (12, a2), (0, zv5), (0, 0), (5, 0)] [] zM3 Q)) : x_Ev l E (4, 0, 0) m_X5_findAll 0 [(15, 76), (11, a1), (12, a2), (5, 0), (5, 0), (5, 0)] [] M Q := by
  refine i_aload_n 0 rfl rfl (by decide) ?_
  refine i_iconst 1 rfl (by decide) ?_
  replace h := h _ rfl
  refine i_putI (c := 5) (k := 1) 2 rfl fl_290 (by decide) ⟨rfl, rfl, rfl⟩ ?_
  refine i_aload_n 3 rfl rfl (by decide) ?_
  refine i_aload_n 4 rfl rfl (by decide) ?_
  refine i_getL (c := 2) (k := 1) 5 rfl fl_43 (by decide) rfl ?_
  replace h := h _ rfl
  refine i_putL (c := 5) (k := 4) 6 rfl fl_295 (by decide) ⟨rfl, rfl, rfl⟩ ?_
  refine i_iconst 7 rfl (by decide) ?_
  refine i_aload_n 8 rfl rfl (by decide) ?_
  refine i_callV (c := 1) (y1 := m_X1_pairs) (z1 := (1, 0, 0)) (z2 := (4, 0, 0)) [] 9 rfl ml_653 ok_X1_pairs vk_X1_pairs ⟨by decide, rfl⟩ rfl ⟨rfl, Nat.le_of_ble_eq_true rfl⟩ (Nat.le_of_ble_eq_true rfl) ⟨by decide, rfl, rfl, rfl⟩ ?_
  refine h.mono (fun r zM3 h => ?_)
  obtain ⟨zr4, rfl, h⟩ := h
  simp only [Option.toList_some, Option.toList_none, List.cons_append, List.nil_append]
  refine i_ishl 10 rfl ?_
  replace h := h _ rfl
  refine i_istore_n 11 rfl (by decide) rfl ?_
  refine i_iconst 12 rfl (by decide) ?_
  refine i_istore 13 rfl (by decide) rfl ?_
  exact h
theorem u_X5_findAll_23 {l : Launch} {E : xE} (l1 l2 l3 l4 : Int) {M : xM} {Q : Option xV → xM → Prop} (h : (l3 ≤ l4 → x_Ev l E (2, 0, 0) m_X5_findProofs 0 [(15, 76), (5, 0), (5, 0)] [] M (fun r zM1 => r = none ∧ Q none zM1)) ∧ (¬ l3 ≤ l4 → x_Ev l E (1, 0, 0) m_J6_bitCount_0f7a4 0 [(0, l4)] [] M (fun r zM2 => ∃ zr3, r = some (0, zr3) ∧ (¬ zr3 = (zM2 l1 2) → ∀ zv4 : Int, zv4 = x_w (l4 + 1) → x_Ev l E (4, 0, 0) m_X5_findAll 23 [(15, 76), (11, l1), (12, l2), (0, l3), (0, zv4), (5, 0)] [] zM2 Q) ∧ (zr3 = (zM2 l1 2) → x_Ev l E (3, 0, 0) m_X8_solveWeights 0 [(18, 36), (11, l1), (0, l4), (12, l2), (5, 0), (5, 0), (5, 0), (5, 0), (5, 0)] [] zM2 (fun r zM5 => ∃ zr6, r = some (0, zr6) ∧ (zr6 = 0 → ∀ zv7 : Int, zv7 = x_w (l4 + 1) → x_Ev l E (4, 0, 0) m_X5_findAll 23 [(15, 76), (11, l1), (12, l2), (0, l3), (0, zv7), (5, 0)] [] zM5 Q) ∧ (¬ zr6 = 0 → x_Ev l E (2, 0, 0) m_X5_tightPairs 0 [(15, 76), (11, l1), (0, l4), (5, 0), (5, 0), (5, 0), (5, 0), (5, 0)] [] zM5 (fun r zM8 => ∃ zr9, r = some (0, zr9) ∧ (zr9 < 0 → ∀ zv10 : Int, zv10 = x_w (l4 + 1) → x_Ev l E (4, 0, 0) m_X5_findAll 23 [(15, 76), (11, l1), (12, l2), (0, l3), (0, zv10), (5, 0)] [] zM8 Q) ∧ (¬ zr9 < 0 → x_Ev l E (1, 0, 0) m_X10_isOneOf 0 [(113, 79), (0, (zM8 76 1)), (0, zr9), (5, 0)] [] zM8 (fun r zM11 => ∃ zr12, r = some (0, zr12) ∧ (¬ zr12 = 0 → ∀ zv13 : Int, zv13 = x_w (l4 + 1) → x_Ev l E (4, 0, 0) m_X5_findAll 23 [(15, 76), (11, l1), (12, l2), (0, l3), (0, zv13), (5, 0)] [] zM11 Q) ∧ (zr12 = 0 → x_Ev l E (1, 0, 0) m_X5_insert 0 [(15, 76), (11, l1), (0, l4), (0, zr9), (5, 0), (5, 0), (5, 0), (5, 0)] [] zM11 (fun r zM14 => r = none ∧ ∀ zv15 : Int, zv15 = x_w (l4 + 1) → x_Ev l E (4, 0, 0) m_X5_findAll 23 [(15, 76), (11, l1), (12, l2), (0, l3), (0, zv15), (5, 0)] [] zM14 Q))))))))))) : x_Ev l E (4, 0, 0) m_X5_findAll 23 [(15, 76), (11, l1), (12, l2), (0, l3), (0, l4), (5, 0)] [] M Q := by
  refine i_iload 14 rfl rfl ?_
  refine i_iload_n 15 rfl rfl ?_
  refine i_icmp_ge 100 16 rfl (by decide) (fun c => ?_) (fun c => ?_)
  · replace h := h.1 c
    refine i_aload_n 50 rfl rfl (by decide) ?_
    refine i_callV (c := 5) (y1 := m_X5_findProofs) (z1 := (2, 0, 0)) (z2 := (4, 0, 0)) [] 51 rfl ml_673 ok_X5_findProofs vk_X5_findProofs ⟨by decide, rfl⟩ rfl ⟨rfl, Nat.le_of_ble_eq_true rfl⟩ (Nat.le_of_ble_eq_true rfl) ⟨by decide, rfl, rfl, rfl⟩ ?_
    refine h.mono (fun r zM1 h => ?_)
    obtain ⟨rfl, h⟩ := h
    simp only [Option.toList_some, Option.toList_none, List.cons_append, List.nil_append]
    exact i_return 52 rfl rfl h
  · replace h := h.2 c
    refine i_iload 17 rfl rfl ?_
    refine i_callS (y1 := m_J6_bitCount_0f7a4) (z1 := (1, 0, 0)) (z2 := (4, 0, 0)) [(0, l4)] 18 rfl ml_654 ok_J6_bitCount_0f7a4 vk_J6_bitCount_0f7a4 rfl ⟨rfl, Nat.le_of_ble_eq_true rfl⟩ (Nat.le_of_ble_eq_true rfl) ⟨by decide, rfl, rfl, rfl⟩ ?_
    refine h.mono (fun r zM2 h => ?_)
    obtain ⟨zr3, rfl, h⟩ := h
    simp only [Option.toList_some, Option.toList_none, List.cons_append, List.nil_append]
    refine i_aload_n 19 rfl rfl (by decide) ?_
    refine i_getI (c := 1) (k := 2) 20 rfl fl_68 (by decide) (by decide) ?_
    refine i_icmp_ne 94 21 rfl (by decide) (fun c => ?_) (fun c => ?_)
    · replace h := h.1 c
      replace h := h _ rfl
      refine i_iinc 48 rfl rfl (by decide) rfl ?_
      refine i_goto 23 49 rfl (by decide) ?_
      exact h
    · replace h := h.2 c
      refine i_aload_n 22 rfl rfl (by decide) ?_
      refine i_getP (c := 5) (k := 0) (t := 18) (b := 36) 23 rfl fl_289 (by decide) rfl (by decide) rfl ?_
      refine i_aload_n 24 rfl rfl (by decide) ?_
      refine i_iload 25 rfl rfl ?_
      refine i_aload_n 26 rfl rfl (by decide) ?_
      refine i_callV (c := 8) (y1 := m_X8_solveWeights) (z1 := (3, 0, 0)) (z2 := (4, 0, 0)) [(11, l1), (0, l4), (12, l2)] 27 rfl ml_655 ok_X8_solveWeights vk_X8_solveWeights ⟨by decide, rfl⟩ rfl ⟨rfl, Nat.le_of_ble_eq_true rfl⟩ (Nat.le_of_ble_eq_true rfl) ⟨by decide, rfl, rfl, rfl⟩ ?_
      refine h.mono (fun r zM5 h => ?_)
      obtain ⟨zr6, rfl, h⟩ := h
      simp only [Option.toList_some, Option.toList_none, List.cons_append, List.nil_append]
      refine i_if_eq 94 28 rfl (by decide) (fun c => ?_) (fun c => ?_)
      · replace h := h.1 c
        replace h := h _ rfl
        refine i_iinc 48 rfl rfl (by decide) rfl ?_
        refine i_goto 23 49 rfl (by decide) ?_
        exact h
      · replace h := h.2 c
        refine i_aload_n 29 rfl rfl (by decide) ?_
        refine i_aload_n 30 rfl rfl (by decide) ?_
        refine i_iload 31 rfl rfl ?_
        refine i_callV (c := 5) (y1 := m_X5_tightPairs) (z1 := (2, 0, 0)) (z2 := (4, 0, 0)) [(11, l1), (0, l4)] 32 rfl ml_664 ok_X5_tightPairs vk_X5_tightPairs ⟨by decide, rfl⟩ rfl ⟨rfl, Nat.le_of_ble_eq_true rfl⟩ (Nat.le_of_ble_eq_true rfl) ⟨by decide, rfl, rfl, rfl⟩ ?_
        refine h.mono (fun r zM8 h => ?_)
        obtain ⟨zr9, rfl, h⟩ := h
        simp only [Option.toList_some, Option.toList_none, List.cons_append, List.nil_append]
        refine i_istore 33 rfl (by decide) rfl ?_
        refine i_iload 34 rfl rfl ?_
        refine i_if_lt 94 35 rfl (by decide) (fun c => ?_) (fun c => ?_)
        · replace h := h.1 c
          replace h := h _ rfl
          refine i_iinc 48 rfl rfl (by decide) rfl ?_
          refine i_goto 23 49 rfl (by decide) ?_
          refine i_weak ?_ h
          exact (And.intro (Or.inr rfl) (And.intro (Or.inr rfl) (And.intro (Or.inr rfl) (And.intro (Or.inr rfl) (And.intro (Or.inr rfl) (And.intro (Or.inl rfl) trivial))))))
        · replace h := h.2 c
          refine i_aload_n 36 rfl rfl (by decide) ?_
          refine i_getP (c := 5) (k := 7) (t := 113) (b := 79) 37 rfl fl_298 (by decide) rfl (by decide) rfl ?_
          refine i_aload_n 38 rfl rfl (by decide) ?_
          refine i_getI (c := 5) (k := 1) 39 rfl fl_290 (by decide) (by decide) ?_
          refine i_iload 40 rfl rfl ?_
          refine i_callSN (y1 := m_X10_isOneOf) (z1 := (1, 0, 0)) (z2 := (4, 0, 0)) [(113, 79), (0, (zM8 76 1)), (0, zr9)] 41 rfl ml_668 ok_X10_isOneOf vk_X10_isOneOf rfl ⟨rfl, Nat.le_of_ble_eq_true rfl⟩ (Nat.le_of_ble_eq_true rfl) ⟨by decide, rfl, rfl, rfl⟩ ?_
          refine h.mono (fun r zM11 h => ?_)
          obtain ⟨zr12, rfl, h⟩ := h
          simp only [Option.toList_some, Option.toList_none, List.cons_append, List.nil_append]
          refine i_if_ne 94 42 rfl (by decide) (fun c => ?_) (fun c => ?_)
          · replace h := h.1 c
            replace h := h _ rfl
            refine i_iinc 48 rfl rfl (by decide) rfl ?_
            refine i_goto 23 49 rfl (by decide) ?_
            refine i_weak ?_ h
            exact (And.intro (Or.inr rfl) (And.intro (Or.inr rfl) (And.intro (Or.inr rfl) (And.intro (Or.inr rfl) (And.intro (Or.inr rfl) (And.intro (Or.inl rfl) trivial))))))
          · replace h := h.2 c
            refine i_aload_n 43 rfl rfl (by decide) ?_
            refine i_aload_n 44 rfl rfl (by decide) ?_
            refine i_iload 45 rfl rfl ?_
            refine i_iload 46 rfl rfl ?_
            refine i_callV (c := 5) (y1 := m_X5_insert) (z1 := (1, 0, 0)) (z2 := (4, 0, 0)) [(11, l1), (0, l4), (0, zr9)] 47 rfl ml_669 ok_X5_insert vk_X5_insert ⟨by decide, rfl⟩ rfl ⟨rfl, Nat.le_of_ble_eq_true rfl⟩ (Nat.le_of_ble_eq_true rfl) ⟨by decide, rfl, rfl, rfl⟩ ?_
            refine h.mono (fun r zM14 h => ?_)
            obtain ⟨rfl, h⟩ := h
            simp only [Option.toList_some, Option.toList_none, List.cons_append, List.nil_append]
            replace h := h _ rfl
            refine i_iinc 48 rfl rfl (by decide) rfl ?_
            refine i_goto 23 49 rfl (by decide) ?_
            refine i_weak ?_ h
            exact (And.intro (Or.inr rfl) (And.intro (Or.inr rfl) (And.intro (Or.inr rfl) (And.intro (Or.inr rfl) (And.intro (Or.inr rfl) (And.intro (Or.inl rfl) trivial))))))
theorem u_X1_feels_0 {l : Launch} {E : xE} (a0 a1 a2 : Int) {M : xM} {Q : Option xV → xM → Prop} (h : x_Ev l E (1, 0, 0) m_X1_times 0 [(11, a0)] [] M (fun r zM1 => ∃ zr2, r = some (0, zr2) ∧ x_Ev l E (1, 0, 0) m_X1_extra 0 [(11, a0)] [] zM1 (fun r zM3 => ∃ zr4, r = some (0, zr4) ∧ Q (some (1, (x_W ((x_W (zr2 * a1)) + (x_W (zr4 * a2)))))) zM3))) : x_Ev l E (2, 0, 0) m_X1_feels 0 [(11, a0), (1, a1), (5, 0), (1, a2), (5, 0)] [] M Q := by
  refine i_aload_n 0 rfl rfl (by decide) ?_
  refine i_callV (c := 1) (y1 := m_X1_times) (z1 := (1, 0, 0)) (z2 := (2, 0, 0)) [] 1 rfl ml_509 ok_X1_times vk_X1_times ⟨by decide, rfl⟩ rfl ⟨rfl, Nat.le_of_ble_eq_true rfl⟩ (Nat.le_of_ble_eq_true rfl) ⟨by decide, rfl, rfl, rfl⟩ ?_
  refine h.mono (fun r zM1 h => ?_)
  obtain ⟨zr2, rfl, h⟩ := h
  simp only [Option.toList_some, Option.toList_none, List.cons_append, List.nil_append]
  refine i_i2l 2 rfl ?_
  refine i_lload_n 3 rfl rfl ?_
  refine i_lmul 4 rfl ?_
  refine i_aload_n 5 rfl rfl (by decide) ?_
  refine i_callV (c := 1) (y1 := m_X1_extra) (z1 := (1, 0, 0)) (z2 := (2, 0, 0)) [] 6 rfl ml_513 ok_X1_extra vk_X1_extra ⟨by decide, rfl⟩ rfl ⟨rfl, Nat.le_of_ble_eq_true rfl⟩ (Nat.le_of_ble_eq_true rfl) ⟨by decide, rfl, rfl, rfl⟩ ?_
  refine h.mono (fun r zM3 h => ?_)
  obtain ⟨zr4, rfl, h⟩ := h
  simp only [Option.toList_some, Option.toList_none, List.cons_append, List.nil_append]
  refine i_i2l 7 rfl ?_
  refine i_lload_n 8 rfl rfl ?_
  refine i_lmul 9 rfl ?_
  refine i_ladd 10 rfl ?_
  exact i_lreturn 11 rfl rfl h
theorem u_X1_leftAbove_0 {l : Launch} {E : xE} (a0 a1 a2 a3 : Int) {M : xM} {Q : Option xV → xM → Prop} (h : ((0 : Int) ≤ (x_w (0 + a1)) ∧ ((x_w (0 + a1)) : Int) < 9) ∧ ((0 : Int) ≤ (x_w (3 + a1)) ∧ ((x_w (3 + a1)) : Int) < 9) ∧ Q (some (1, (x_W ((x_W ((M (a0 + 1) (x_w (0 + a1))) * a3)) - (x_W (a2 * (M (a0 + 1) (x_w (3 + a1))))))))) M) : x_Ev l E (1, 0, 0) m_X1_leftAbove 0 [(11, a0), (0, a1), (1, a2), (5, 0), (1, a3), (5, 0)] [] M Q := by
  refine i_aload_n 0 rfl rfl (by decide) ?_
  refine i_getP (c := 1) (k := 4) (t := 101) (b := (a0 + 1)) 1 rfl fl_75 (by decide) rfl (by decide) rfl ?_
  refine i_iconst 2 rfl (by decide) ?_
  refine i_iload_n 3 rfl rfl ?_
  refine i_iadd 4 rfl ?_
  refine i_iald (τ := 1) 5 rfl ⟨rfl, rfl, rfl, by decide⟩ h.1.1 h.1.2 ?_
  replace h := h.2
  refine i_i2l 6 rfl ?_
  refine i_lload 7 rfl rfl ?_
  refine i_lmul 8 rfl ?_
  refine i_lload_n 9 rfl rfl ?_
  refine i_aload_n 10 rfl rfl (by decide) ?_
  refine i_getP (c := 1) (k := 4) (t := 101) (b := (a0 + 1)) 11 rfl fl_75 (by decide) rfl (by decide) rfl ?_
  refine i_iconst 12 rfl (by decide) ?_
  refine i_iload_n 13 rfl rfl ?_
  refine i_iadd 14 rfl ?_
  refine i_iald (τ := 1) 15 rfl ⟨rfl, rfl, rfl, by decide⟩ h.1.1 h.1.2 ?_
  replace h := h.2
  refine i_i2l 16 rfl ?_
  refine i_lmul 17 rfl ?_
  refine i_lsub 18 rfl ?_
  exact i_lreturn 19 rfl rfl h
theorem u_X2_order_0 {l : Launch} {E : xE} (a0 a1 a2 a3 : Int) {M : xM} {Q : Option xV → xM → Prop} (h : x_Ev l E (2, 0, 0) m_X2_order 20 [(1, a0), (5, 0), (1, a1), (5, 0), (1, a2), (5, 0), (1, a3), (5, 0), (1, a0), (5, 0), (1, a1), (5, 0), (1, a2), (5, 0), (1, a3), (5, 0), (0, 1), (0, 0), (5, 0), (5, 0), (5, 0), (5, 0), (5, 0), (5, 0), (5, 0), (5, 0)] [] M Q) : x_Ev l E (2, 0, 0) m_X2_order 0 [(1, a0), (5, 0), (1, a1), (5, 0), (1, a2), (5, 0), (1, a3), (5, 0), (5, 0), (5, 0), (5, 0), (5, 0), (5, 0), (5, 0), (5, 0), (5, 0), (5, 0), (5, 0), (5, 0), (5, 0), (5, 0), (5, 0), (5, 0), (5, 0), (5, 0), (5, 0)] [] M Q := by
  refine i_lload_n 0 rfl rfl ?_
  refine i_lstore 1 rfl (by decide) rfl ?_
  refine i_lload_n 2 rfl rfl ?_
  refine i_lstore 3 rfl (by decide) rfl ?_
  refine i_lload 4 rfl rfl ?_
  refine i_lstore 5 rfl (by decide) rfl ?_
  refine i_lload 6 rfl rfl ?_
  refine i_lstore 7 rfl (by decide) rfl ?_
  refine i_iconst 8 rfl (by decide) ?_
  refine i_istore 9 rfl (by decide) rfl ?_
  refine i_iconst 10 rfl (by decide) ?_
  refine i_istore 11 rfl (by decide) rfl ?_
  exact h
theorem u_X2_order_20 {l : Launch} {E : xE} (l0 l2 l4 l6 l8 l10 l12 l14 l16 l17 : Int) {M : xM} {Q : Option xV → xM → Prop} (h : (100 ≤ l17 → Q (some (0, 0)) M) ∧ (¬ 100 ≤ l17 → (l10 ≤ 0 → Q (some (0, 0)) M) ∧ (¬ l10 ≤ 0 → (l14 ≤ 0 → Q (some (0, 0)) M) ∧ (¬ l14 ≤ 0 → x_Ev l E (1, 0, 0) m_J9_floorDiv_f86c9 0 [(1, l8), (5, 0), (1, l10), (5, 0), (5, 0), (5, 0)] [] M (fun r zM1 => ∃ zr2, r = some (1, zr2) ∧ x_Ev l E (1, 0, 0) m_J9_floorDiv_f86c9 0 [(1, l12), (5, 0), (1, l14), (5, 0), (5, 0), (5, 0)] [] zM1 (fun r zM3 => ∃ zr4, r = some (1, zr4) ∧ (zr2 = zr4 → ∀ zv5 : Int, zv5 = (x_W (l8 - (x_W (zr2 * l10)))) → ∀ zv6 : Int, zv6 = (x_W (l12 - (x_W (zr4 * l14)))) → (zv5 = 0 → x_Ev l E (1, 0, 0) m_J13_compare_74951 0 [(1, zv5), (5, 0), (1, zv6), (5, 0)] [] zM3 (fun r zM7 => ∃ zr8, r = some (0, zr8) ∧ Q (some (0, (x_w (zr8 * l16)))) zM7)) ∧ (¬ zv5 = 0 → (¬ zv6 = 0 → ∀ zv9 : Int, zv9 = (x_w (-l16)) → ∀ zv10 : Int, zv10 = x_w (l17 + 1) → x_Ev l E (2, 0, 0) m_X2_order 20 [(1, l0), (5, 0), (1, l2), (5, 0), (1, l4), (5, 0), (1, l6), (5, 0), (1, l10), (5, 0), (1, zv5), (5, 0), (1, l14), (5, 0), (1, zv6), (5, 0), (0, zv9), (0, zv10), (5, 0), (5, 0), (5, 0), (5, 0), (5, 0), (5, 0), (5, 0), (5, 0)] [] zM3 Q) ∧ (zv6 = 0 → x_Ev l E (1, 0, 0) m_J13_compare_74951 0 [(1, zv5), (5, 0), (1, zv6), (5, 0)] [] zM3 (fun r zM11 => ∃ zr12, r = some (0, zr12) ∧ Q (some (0, (x_w (zr12 * l16)))) zM11)))) ∧ (¬ zr2 = zr4 → (zr2 ≤ zr4 → Q (some (0, (x_w (-l16)))) zM3) ∧ (¬ zr2 ≤ zr4 → Q (some (0, l16)) zM3)))))))) : x_Ev l E (2, 0, 0) m_X2_order 20 [(1, l0), (5, 0), (1, l2), (5, 0), (1, l4), (5, 0), (1, l6), (5, 0), (1, l8), (5, 0), (1, l10), (5, 0), (1, l12), (5, 0), (1, l14), (5, 0), (0, l16), (0, l17), (5, 0), (5, 0), (5, 0), (5, 0), (5, 0), (5, 0), (5, 0), (5, 0)] [] M Q := by
  refine i_iload 12 rfl rfl ?_
  refine i_bipush 13 rfl (by decide) ?_
  refine i_icmp_ge 156 14 rfl (by decide) (fun c => ?_) (fun c => ?_)
  · replace h := h.1 c
    refine i_iconst 83 rfl (by decide) ?_
    exact i_ireturn 84 rfl rfl h
  · replace h := h.2 c
    refine i_lload 15 rfl rfl ?_
    refine i_lconst (w := 0) 16 rfl (by decide) ?_
    refine i_lcmp_le 156 17 rfl rfl (by decide) (fun c => ?_) (fun c => ?_)
    · replace h := h.1 c
      refine i_iconst 83 rfl (by decide) ?_
      exact i_ireturn 84 rfl rfl h
    · replace h := h.2 c
      refine i_lload 19 rfl rfl ?_
      refine i_lconst (w := 0) 20 rfl (by decide) ?_
      refine i_lcmp_le 156 21 rfl rfl (by decide) (fun c => ?_) (fun c => ?_)
      · replace h := h.1 c
        refine i_iconst 83 rfl (by decide) ?_
        exact i_ireturn 84 rfl rfl h
      · replace h := h.2 c
        refine i_lload 23 rfl rfl ?_
        refine i_lload 24 rfl rfl ?_
        refine i_callS (y1 := m_J9_floorDiv_f86c9) (z1 := (1, 0, 0)) (z2 := (2, 0, 0)) [(1, l8), (1, l10)] 25 rfl ml_738 ok_J9_floorDiv_f86c9 vk_J9_floorDiv_f86c9 rfl ⟨rfl, Nat.le_of_ble_eq_true rfl⟩ (Nat.le_of_ble_eq_true rfl) ⟨by decide, rfl, rfl, rfl⟩ ?_
        refine h.mono (fun r zM1 h => ?_)
        obtain ⟨zr2, rfl, h⟩ := h
        simp only [Option.toList_some, Option.toList_none, List.cons_append, List.nil_append]
        refine i_lstore 26 rfl (by decide) rfl ?_
        refine i_lload 27 rfl rfl ?_
        refine i_lload 28 rfl rfl ?_
        refine i_callS (y1 := m_J9_floorDiv_f86c9) (z1 := (1, 0, 0)) (z2 := (2, 0, 0)) [(1, l12), (1, l14)] 29 rfl ml_738 ok_J9_floorDiv_f86c9 vk_J9_floorDiv_f86c9 rfl ⟨rfl, Nat.le_of_ble_eq_true rfl⟩ (Nat.le_of_ble_eq_true rfl) ⟨by decide, rfl, rfl, rfl⟩ ?_
        refine h.mono (fun r zM3 h => ?_)
        obtain ⟨zr4, rfl, h⟩ := h
        simp only [Option.toList_some, Option.toList_none, List.cons_append, List.nil_append]
        refine i_lstore 30 rfl (by decide) rfl ?_
        refine i_lload 31 rfl rfl ?_
        refine i_lload 32 rfl rfl ?_
        refine i_lcmp_eq 84 33 rfl rfl (by decide) (fun c => ?_) (fun c => ?_)
        · replace h := h.1 c
          refine i_lload 44 rfl rfl ?_
          refine i_lload 45 rfl rfl ?_
          refine i_lload 46 rfl rfl ?_
          refine i_lmul 47 rfl ?_
          refine i_lsub 48 rfl ?_
          replace h := h _ rfl
          refine i_lstore 49 rfl (by decide) rfl ?_
          refine i_lload 50 rfl rfl ?_
          refine i_lload 51 rfl rfl ?_
          refine i_lload 52 rfl rfl ?_
          refine i_lmul 53 rfl ?_
          refine i_lsub 54 rfl ?_
          replace h := h _ rfl
          refine i_lstore 55 rfl (by decide) rfl ?_
          refine i_lload 56 rfl rfl ?_
          refine i_lconst (w := 0) 57 rfl (by decide) ?_
          refine i_lcmp_eq 118 58 rfl rfl (by decide) (fun c => ?_) (fun c => ?_)
          · replace h := h.1 c
            refine i_lload 64 rfl rfl ?_
            refine i_lload 65 rfl rfl ?_
            refine i_callS (y1 := m_J13_compare_74951) (z1 := (1, 0, 0)) (z2 := (2, 0, 0)) [(1, ((x_W (l8 - (x_W (zr2 * l10)))))), (1, ((x_W (l12 - (x_W (zr4 * l14))))))] 66 rfl ml_741 ok_J13_compare_74951 vk_J13_compare_74951 rfl ⟨rfl, Nat.le_of_ble_eq_true rfl⟩ (Nat.le_of_ble_eq_true rfl) ⟨by decide, rfl, rfl, rfl⟩ ?_
            refine h.mono (fun r zM7 h => ?_)
            obtain ⟨zr8, rfl, h⟩ := h
            simp only [Option.toList_some, Option.toList_none, List.cons_append, List.nil_append]
            refine i_iload 67 rfl rfl ?_
            refine i_imul 68 rfl ?_
            exact i_ireturn 69 rfl rfl h
          · replace h := h.2 c
            refine i_lload 60 rfl rfl ?_
            refine i_lconst (w := 0) 61 rfl (by decide) ?_
            refine i_lcmp_ne 129 62 rfl rfl (by decide) (fun c => ?_) (fun c => ?_)
            · replace h := h.1 c
              refine i_lload 70 rfl rfl ?_
              refine i_lstore 71 rfl (by decide) rfl ?_
              refine i_lload 72 rfl rfl ?_
              refine i_lstore 73 rfl (by decide) rfl ?_
              refine i_lload 74 rfl rfl ?_
              refine i_lstore 75 rfl (by decide) rfl ?_
              refine i_lload 76 rfl rfl ?_
              refine i_lstore 77 rfl (by decide) rfl ?_
              refine i_iload 78 rfl rfl ?_
              refine i_ineg 79 rfl ?_
              replace h := h _ rfl
              refine i_istore 80 rfl (by decide) rfl ?_
              replace h := h _ rfl
              refine i_iinc 81 rfl rfl (by decide) rfl ?_
              refine i_goto 20 82 rfl (by decide) ?_
              refine i_weak ?_ h
              exact (And.intro (Or.inr rfl) (And.intro (Or.inr rfl) (And.intro (Or.inr rfl) (And.intro (Or.inr rfl) (And.intro (Or.inr rfl) (And.intro (Or.inr rfl) (And.intro (Or.inr rfl) (And.intro (Or.inr rfl) (And.intro (Or.inr rfl) (And.intro (Or.inr rfl) (And.intro (Or.inr rfl) (And.intro (Or.inr rfl) (And.intro (Or.inr rfl) (And.intro (Or.inr rfl) (And.intro (Or.inr rfl) (And.intro (Or.inr rfl) (And.intro (Or.inr rfl) (And.intro (Or.inr rfl) (And.intro (Or.inl rfl) (And.intro (Or.inr rfl) (And.intro (Or.inl rfl) (And.intro (Or.inr rfl) (And.intro (Or.inl rfl) (And.intro (Or.inr rfl) (And.intro (Or.inl rfl) (And.intro (Or.inr rfl) trivial))))))))))))))))))))))))))
            · replace h := h.2 c
              refine i_lload 64 rfl rfl ?_
              refine i_lload 65 rfl rfl ?_
              refine i_callS (y1 := m_J13_compare_74951) (z1 := (1, 0, 0)) (z2 := (2, 0, 0)) [(1, ((x_W (l8 - (x_W (zr2 * l10)))))), (1, ((x_W (l12 - (x_W (zr4 * l14))))))] 66 rfl ml_741 ok_J13_compare_74951 vk_J13_compare_74951 rfl ⟨rfl, Nat.le_of_ble_eq_true rfl⟩ (Nat.le_of_ble_eq_true rfl) ⟨by decide, rfl, rfl, rfl⟩ ?_
              refine h.mono (fun r zM11 h => ?_)
              obtain ⟨zr12, rfl, h⟩ := h
              simp only [Option.toList_some, Option.toList_none, List.cons_append, List.nil_append]
              refine i_iload 67 rfl rfl ?_
              refine i_imul 68 rfl ?_
              exact i_ireturn 69 rfl rfl h
        · replace h := h.2 c
          refine i_lload 35 rfl rfl ?_
          refine i_lload 36 rfl rfl ?_
          refine i_lcmp_le 80 37 rfl rfl (by decide) (fun c => ?_) (fun c => ?_)
          · replace h := h.1 c
            refine i_iload 41 rfl rfl ?_
            refine i_ineg 42 rfl ?_
            exact i_ireturn 43 rfl rfl h
          · replace h := h.2 c
            refine i_iload 39 rfl rfl ?_
            refine i_goto 83 40 rfl (by decide) ?_
            exact i_ireturn 43 rfl rfl h
theorem u_X4_addBreaks_0 {l : Launch} {E : xE} (a0 a1 : Int) {M : xM} {Q : Option xV → xM → Prop} (h : x_Ev l E (3, 0, 0) m_X4_stand 0 [(14, a0), (1, 0), (5, 0), (1, 1), (5, 0), (5, 0), (5, 0), (5, 0), (5, 0), (5, 0)] [] M (fun r zM1 => r = none ∧ x_Ev l E (3, 0, 0) m_X4_choose 0 [(14, a0), (0, 2), (5, 0), (5, 0)] [] zM1 (fun r zM2 => ∃ zr3, r = some (0, zr3) ∧ x_Ev l E (4, 0, 0) m_X4_addBreaks 15 [(14, a0), (0, a1), (10, 42), (0, zr3), (0, 0), (5, 0), (5, 0), (5, 0), (5, 0), (5, 0), (5, 0), (5, 0)] [] zM2 Q))) : x_Ev l E (4, 0, 0) m_X4_addBreaks 0 [(14, a0), (0, a1), (10, 42), (5, 0), (5, 0), (5, 0), (5, 0), (5, 0), (5, 0), (5, 0), (5, 0), (5, 0)] [] M Q := by
  refine i_aload_n 0 rfl rfl (by decide) ?_
  refine i_lconst (w := 0) 1 rfl (by decide) ?_
  refine i_lconst (w := 1) 2 rfl (by decide) ?_
  refine i_callV (c := 4) (y1 := m_X4_stand) (z1 := (3, 0, 0)) (z2 := (4, 0, 0)) [(1, 0), (1, 1)] 3 rfl ml_754 ok_X4_stand vk_X4_stand ⟨by decide, rfl⟩ rfl ⟨rfl, Nat.le_of_ble_eq_true rfl⟩ (Nat.le_of_ble_eq_true rfl) ⟨by decide, rfl, rfl, rfl⟩ ?_
  refine h.mono (fun r zM1 h => ?_)
  obtain ⟨rfl, h⟩ := h
  simp only [Option.toList_some, Option.toList_none, List.cons_append, List.nil_append]
  refine i_aload_n 4 rfl rfl (by decide) ?_
  refine i_iconst 5 rfl (by decide) ?_
  refine i_callV (c := 4) (y1 := m_X4_choose) (z1 := (3, 0, 0)) (z2 := (4, 0, 0)) [(0, 2)] 6 rfl ml_755 ok_X4_choose vk_X4_choose ⟨by decide, rfl⟩ rfl ⟨rfl, Nat.le_of_ble_eq_true rfl⟩ (Nat.le_of_ble_eq_true rfl) ⟨by decide, rfl, rfl, rfl⟩ ?_
  refine h.mono (fun r zM2 h => ?_)
  obtain ⟨zr3, rfl, h⟩ := h
  simp only [Option.toList_some, Option.toList_none, List.cons_append, List.nil_append]
  refine i_istore_n 7 rfl (by decide) rfl ?_
  refine i_iconst 8 rfl (by decide) ?_
  refine i_istore 9 rfl (by decide) rfl ?_
  exact h
theorem u_X4_addBreaks_15 {l : Launch} {E : xE} (l0 l1 l3 l4 : Int) {M : xM} {Q : Option xV → xM → Prop} (h : (10 ≤ l4 → Q none M) ∧ (¬ 10 ≤ l4 → (l3 < 0 → Q none M) ∧ (¬ l3 < 0 → x_Ev l E (3, 0, 0) m_X4_nextTurn 0 [(14, l0), (0, l3), (5, 0), (5, 0)] [] M (fun r zM1 => ∃ zr2, r = some (0, zr2) ∧ (0 ≤ zr2 → x_Ev l E (1, 0, 0) m_X4_tollLess 0 [(14, l0), (0, l3), (0, zr2)] [] zM1 (fun r zM3 => ∃ zr4, r = some (1, zr4) ∧ x_Ev l E (1, 0, 0) m_X4_worthLess 0 [(14, l0), (0, l3), (0, zr2)] [] zM3 (fun r zM5 => ∃ zr6, r = some (1, zr6) ∧ x_Ev l E (1, 0, 0) m_X1_extra 0 [(11, (9 + 4 * ((l0 - 49) / 9)))] [] zM5 (fun r zM7 => ∃ zr8, r = some (0, zr8) ∧ ∀ zv9 : Int, zv9 = (x_W (zr6 - (x_W (zr8 * zr4)))) → x_Ev l E (1, 0, 0) m_X1_times 0 [(11, (9 + 4 * ((l0 - 49) / 9)))] [] zM7 (fun r zM10 => ∃ zr11, r = some (0, zr11) ∧ ∀ zv12 : Int, zv12 = (x_W (zr11 * zr4)) → (zv9 < (x_W (l1 * zv12)) → x_Ev l E (3, 0, 0) m_X0_insert 0 [(10, 42), (1, zv9), (5, 0), (1, zv12), (5, 0), (5, 0), (5, 0), (5, 0)] [] zM10 (fun r zM13 => r = none ∧ ∀ zv14 : Int, zv14 = x_w (l4 + 1) → x_Ev l E (4, 0, 0) m_X4_addBreaks 15 [(14, l0), (0, l1), (10, 42), (0, zr2), (0, zv14), (5, 0), (5, 0), (5, 0), (5, 0), (5, 0), (5, 0), (5, 0)] [] zM13 Q)) ∧ (¬ zv9 < (x_W (l1 * zv12)) → Q none zM10)))))) ∧ (¬ 0 ≤ zr2 → Q none zM1))))) : x_Ev l E (4, 0, 0) m_X4_addBreaks 15 [(14, l0), (0, l1), (10, 42), (0, l3), (0, l4), (5, 0), (5, 0), (5, 0), (5, 0), (5, 0), (5, 0), (5, 0)] [] M Q := by
  refine i_iload 10 rfl rfl ?_
  refine i_bipush 11 rfl (by decide) ?_
  refine i_icmp_ge 111 12 rfl (by decide) (fun c => ?_) (fun c => ?_)
  · replace h := h.1 c
    exact i_return 62 rfl rfl h
  · replace h := h.2 c
    refine i_iload_n 13 rfl rfl ?_
    refine i_if_lt 111 14 rfl (by decide) (fun c => ?_) (fun c => ?_)
    · replace h := h.1 c
      exact i_return 62 rfl rfl h
    · replace h := h.2 c
      refine i_aload_n 15 rfl rfl (by decide) ?_
      refine i_iload_n 16 rfl rfl ?_
      refine i_callV (c := 4) (y1 := m_X4_nextTurn) (z1 := (3, 0, 0)) (z2 := (4, 0, 0)) [(0, l3)] 17 rfl ml_756 ok_X4_nextTurn vk_X4_nextTurn ⟨by decide, rfl⟩ rfl ⟨rfl, Nat.le_of_ble_eq_true rfl⟩ (Nat.le_of_ble_eq_true rfl) ⟨by decide, rfl, rfl, rfl⟩ ?_
      refine h.mono (fun r zM1 h => ?_)
      obtain ⟨zr2, rfl, h⟩ := h
      simp only [Option.toList_some, Option.toList_none, List.cons_append, List.nil_append]
      refine i_istore 18 rfl (by decide) rfl ?_
      refine i_iload 19 rfl rfl ?_
      refine i_if_ge 39 20 rfl (by decide) (fun c => ?_) (fun c => ?_)
      · replace h := h.1 c
        refine i_aload_n 22 rfl rfl (by decide) ?_
        refine i_iload_n 23 rfl rfl ?_
        refine i_iload 24 rfl rfl ?_
        refine i_callV (c := 4) (y1 := m_X4_tollLess) (z1 := (1, 0, 0)) (z2 := (4, 0, 0)) [(0, l3), (0, zr2)] 25 rfl ml_760 ok_X4_tollLess vk_X4_tollLess ⟨by decide, rfl⟩ rfl ⟨rfl, Nat.le_of_ble_eq_true rfl⟩ (Nat.le_of_ble_eq_true rfl) ⟨by decide, rfl, rfl, rfl⟩ ?_
        refine h.mono (fun r zM3 h => ?_)
        obtain ⟨zr4, rfl, h⟩ := h
        simp only [Option.toList_some, Option.toList_none, List.cons_append, List.nil_append]
        refine i_lstore 26 rfl (by decide) rfl ?_
        refine i_aload_n 27 rfl rfl (by decide) ?_
        refine i_iload_n 28 rfl rfl ?_
        refine i_iload 29 rfl rfl ?_
        refine i_callV (c := 4) (y1 := m_X4_worthLess) (z1 := (1, 0, 0)) (z2 := (4, 0, 0)) [(0, l3), (0, zr2)] 30 rfl ml_768 ok_X4_worthLess vk_X4_worthLess ⟨by decide, rfl⟩ rfl ⟨rfl, Nat.le_of_ble_eq_true rfl⟩ (Nat.le_of_ble_eq_true rfl) ⟨by decide, rfl, rfl, rfl⟩ ?_
        refine h.mono (fun r zM5 h => ?_)
        obtain ⟨zr6, rfl, h⟩ := h
        simp only [Option.toList_some, Option.toList_none, List.cons_append, List.nil_append]
        refine i_aload_n 31 rfl rfl (by decide) ?_
        refine i_getP (c := 4) (k := 0) (t := 11) (b := (9 + 4 * ((l0 - 49) / 9))) 32 rfl fl_203 (by decide) rfl (by decide) rfl ?_
        refine i_callV (c := 1) (y1 := m_X1_extra) (z1 := (1, 0, 0)) (z2 := (4, 0, 0)) [] 33 rfl ml_772 ok_X1_extra vk_X1_extra ⟨by decide, rfl⟩ rfl ⟨rfl, Nat.le_of_ble_eq_true rfl⟩ (Nat.le_of_ble_eq_true rfl) ⟨by decide, rfl, rfl, rfl⟩ ?_
        refine h.mono (fun r zM7 h => ?_)
        obtain ⟨zr8, rfl, h⟩ := h
        simp only [Option.toList_some, Option.toList_none, List.cons_append, List.nil_append]
        refine i_i2l 34 rfl ?_
        refine i_lload 35 rfl rfl ?_
        refine i_lmul 36 rfl ?_
        refine i_lsub 37 rfl ?_
        replace h := h _ rfl
        refine i_lstore 38 rfl (by decide) rfl ?_
        refine i_aload_n 39 rfl rfl (by decide) ?_
        refine i_getP (c := 4) (k := 0) (t := 11) (b := (9 + 4 * ((l0 - 49) / 9))) 40 rfl fl_203 (by decide) rfl (by decide) rfl ?_
        refine i_callV (c := 1) (y1 := m_X1_times) (z1 := (1, 0, 0)) (z2 := (4, 0, 0)) [] 41 rfl ml_773 ok_X1_times vk_X1_times ⟨by decide, rfl⟩ rfl ⟨rfl, Nat.le_of_ble_eq_true rfl⟩ (Nat.le_of_ble_eq_true rfl) ⟨by decide, rfl, rfl, rfl⟩ ?_
        refine h.mono (fun r zM10 h => ?_)
        obtain ⟨zr11, rfl, h⟩ := h
        simp only [Option.toList_some, Option.toList_none, List.cons_append, List.nil_append]
        refine i_i2l 42 rfl ?_
        refine i_lload 43 rfl rfl ?_
        refine i_lmul 44 rfl ?_
        replace h := h _ rfl
        refine i_lstore 45 rfl (by decide) rfl ?_
        refine i_lload 46 rfl rfl ?_
        refine i_iload_n 47 rfl rfl ?_
        refine i_i2l 48 rfl ?_
        refine i_lload 49 rfl rfl ?_
        refine i_lmul 50 rfl ?_
        refine i_lcmp_lt 94 51 rfl rfl (by decide) (fun c => ?_) (fun c => ?_)
        · replace h := h.1 c
          refine i_aload_n 54 rfl rfl (by decide) ?_
          refine i_lload 55 rfl rfl ?_
          refine i_lload 56 rfl rfl ?_
          refine i_callV (c := 0) (y1 := m_X0_insert) (z1 := (3, 0, 0)) (z2 := (4, 0, 0)) [(1, ((x_W (zr6 - (x_W (zr8 * zr4)))))), (1, ((x_W (zr11 * zr4))))] 57 rfl ml_774 ok_X0_insert vk_X0_insert ⟨by decide, rfl⟩ rfl ⟨rfl, Nat.le_of_ble_eq_true rfl⟩ (Nat.le_of_ble_eq_true rfl) ⟨by decide, rfl, rfl, rfl⟩ ?_
          refine h.mono (fun r zM13 h => ?_)
          obtain ⟨rfl, h⟩ := h
          simp only [Option.toList_some, Option.toList_none, List.cons_append, List.nil_append]
          refine i_iload 58 rfl rfl ?_
          refine i_istore_n 59 rfl (by decide) rfl ?_
          replace h := h _ rfl
          refine i_iinc 60 rfl rfl (by decide) rfl ?_
          refine i_goto 15 61 rfl (by decide) ?_
          refine i_weak ?_ h
          exact (And.intro (Or.inr rfl) (And.intro (Or.inr rfl) (And.intro (Or.inr rfl) (And.intro (Or.inr rfl) (And.intro (Or.inr rfl) (And.intro (Or.inl rfl) (And.intro (Or.inl rfl) (And.intro (Or.inr rfl) (And.intro (Or.inl rfl) (And.intro (Or.inr rfl) (And.intro (Or.inl rfl) (And.intro (Or.inr rfl) trivial))))))))))))
        · replace h := h.2 c
          exact i_return 53 rfl rfl h
      · replace h := h.2 c
        exact i_return 21 rfl rfl h
theorem u_X3_putSum_0 {l : Launch} {E : xE} (a2 : Int) {M : xM} {Q : Option xV → xM → Prop} (h : (0 ≤ a2 ∧ a2 < 6) ∧ ∀ zM1 : xM, zM1 = x_wr M 101 a2 (M 48 0) → (0 ≤ (x_w (a2 + 1)) ∧ (x_w (a2 + 1)) < 6) ∧ ∀ zM2 : xM, zM2 = x_wr zM1 101 (x_w (a2 + 1)) (zM1 48 1) → Q none zM2) : x_Ev l E (1, 0, 0) m_X3_putSum 0 [(13, 40), (118, 101), (0, a2)] [] M Q := by
  refine i_aload_n 0 rfl rfl (by decide) ?_
  refine i_iload_n 1 rfl rfl ?_
  refine i_aload_n 2 rfl rfl (by decide) ?_
  refine i_getP (c := 3) (k := 6) (t := 12) (b := 48) 3 rfl fl_264 (by decide) rfl (by decide) rfl ?_
  refine i_getL (c := 2) (k := 0) 4 rfl fl_37 (by decide) rfl ?_
  have hb := h.1
  replace h := h.2 _ rfl
  refine i_last (τ := 18) 5 rfl ⟨rfl, rfl, rfl, by decide⟩ hb.1 hb.2 ?_
  refine i_aload_n 6 rfl rfl (by decide) ?_
  refine i_iload_n 7 rfl rfl ?_
  refine i_iconst 8 rfl (by decide) ?_
  refine i_iadd 9 rfl ?_
  refine i_aload_n 10 rfl rfl (by decide) ?_
  refine i_getP (c := 3) (k := 6) (t := 12) (b := 48) 11 rfl fl_264 (by decide) rfl (by decide) rfl ?_
  refine i_getL (c := 2) (k := 1) 12 rfl fl_44 (by decide) rfl ?_
  have hb := h.1
  replace h := h.2 _ rfl
  refine i_last (τ := 18) 13 rfl ⟨rfl, rfl, rfl, by decide⟩ hb.1 hb.2 ?_
  exact i_return 14 rfl rfl h
theorem u_X3_offerTerm_0 {l : Launch} {E : xE} (a1 a2 a3 : Int) {M : xM} {Q : Option xV → xM → Prop} (h : x_Ev l E (4, 0, 0) m_X3_standAll 0 [(13, 40), (1, a1), (5, 0), (1, a2), (5, 0), (5, 0)] [] M (fun r zM1 => r = none ∧ x_Ev l E (5, 0, 0) m_X3_offerTerm 9 [(13, 40), (1, a1), (5, 0), (1, a2), (5, 0), (0, a3), (0, 0)] [] zM1 Q)) : x_Ev l E (5, 0, 0) m_X3_offerTerm 0 [(13, 40), (1, a1), (5, 0), (1, a2), (5, 0), (0, a3), (5, 0)] [] M Q := by
  refine i_aload_n 0 rfl rfl (by decide) ?_
  refine i_lload_n 1 rfl rfl ?_
  refine i_lload_n 2 rfl rfl ?_
  refine i_callV (c := 3) (y1 := m_X3_standAll) (z1 := (4, 0, 0)) (z2 := (5, 0, 0)) [(1, a1), (1, a2)] 3 rfl ml_791 ok_X3_standAll vk_X3_standAll ⟨by decide, rfl⟩ rfl ⟨rfl, Nat.le_of_ble_eq_true rfl⟩ (Nat.le_of_ble_eq_true rfl) ⟨by decide, rfl, rfl, rfl⟩ ?_
  refine h.mono (fun r zM1 h => ?_)
  obtain ⟨rfl, h⟩ := h
  simp only [Option.toList_some, Option.toList_none, List.cons_append, List.nil_append]
  refine i_iconst 4 rfl (by decide) ?_
  refine i_istore 5 rfl (by decide) rfl ?_
  exact h
theorem u_X3_offerTerm_9 {l : Launch} {E : xE} (l1 l3 l5 l6 : Int) {M : xM} {Q : Option xV → xM → Prop} (h : (2 < l6 → Q none M) ∧ (¬ 2 < l6 → (¬ l6 = 1 → (¬ l6 = 2 → x_Ev l E (4, 0, 0) m_X3_addUp 0 [(13, 40), (0, 1), (0, l6), (12, 48), (5, 0), (5, 0), (5, 0), (5, 0), (5, 0), (5, 0), (5, 0), (5, 0)] [] M (fun r zM1 => r = none ∧ ((zM1 40 5) < 0 → x_Ev l E (1, 0, 0) m_X2_take 0 [(12, 46), (12, 48)] [] zM1 (fun r zM2 => r = none ∧ x_Ev l E (2, 0, 0) m_X2_put 0 [(12, 47), (1, l1), (5, 0), (1, l3), (5, 0), (5, 0), (5, 0)] [] zM2 (fun r zM3 => r = none ∧ ∀ zM4 : xM, zM4 = x_wr zM3 40 5 l6 → ∀ zv5 : Int, zv5 = x_w (l6 + 1) → x_Ev l E (5, 0, 0) m_X3_offerTerm 9 [(13, 40), (1, l1), (5, 0), (1, l3), (5, 0), (0, l5), (0, zv5)] [] zM4 Q))) ∧ (¬ (zM1 40 5) < 0 → x_Ev l E (3, 0, 0) m_X2_orderTo 0 [(12, 48), (12, 46)] [] zM1 (fun r zM6 => ∃ zr7, r = some (0, zr7) ∧ (zr7 ≤ 0 → ∀ zv8 : Int, zv8 = x_w (l6 + 1) → x_Ev l E (5, 0, 0) m_X3_offerTerm 9 [(13, 40), (1, l1), (5, 0), (1, l3), (5, 0), (0, l5), (0, zv8)] [] zM6 Q) ∧ (¬ zr7 ≤ 0 → x_Ev l E (1, 0, 0) m_X2_take 0 [(12, 46), (12, 48)] [] zM6 (fun r zM9 => r = none ∧ x_Ev l E (2, 0, 0) m_X2_put 0 [(12, 47), (1, l1), (5, 0), (1, l3), (5, 0), (5, 0), (5, 0)] [] zM9 (fun r zM10 => r = none ∧ ∀ zM11 : xM, zM11 = x_wr zM10 40 5 l6 → ∀ zv12 : Int, zv12 = x_w (l6 + 1) → x_Ev l E (5, 0, 0) m_X3_offerTerm 9 [(13, 40), (1, l1), (5, 0), (1, l3), (5, 0), (0, l5), (0, zv12)] [] zM11 Q))))))) ∧ (l6 = 2 → (l1 < (x_W (l5 * l3)) → x_Ev l E (4, 0, 0) m_X3_addUp 0 [(13, 40), (0, 1), (0, l6), (12, 48), (5, 0), (5, 0), (5, 0), (5, 0), (5, 0), (5, 0), (5, 0), (5, 0)] [] M (fun r zM13 => r = none ∧ ((zM13 40 5) < 0 → x_Ev l E (1, 0, 0) m_X2_take 0 [(12, 46), (12, 48)] [] zM13 (fun r zM14 => r = none ∧ x_Ev l E (2, 0, 0) m_X2_put 0 [(12, 47), (1, l1), (5, 0), (1, l3), (5, 0), (5, 0), (5, 0)] [] zM14 (fun r zM15 => r = none ∧ ∀ zM16 : xM, zM16 = x_wr zM15 40 5 l6 → ∀ zv17 : Int, zv17 = x_w (l6 + 1) → x_Ev l E (5, 0, 0) m_X3_offerTerm 9 [(13, 40), (1, l1), (5, 0), (1, l3), (5, 0), (0, l5), (0, zv17)] [] zM16 Q))) ∧ (¬ (zM13 40 5) < 0 → x_Ev l E (3, 0, 0) m_X2_orderTo 0 [(12, 48), (12, 46)] [] zM13 (fun r zM18 => ∃ zr19, r = some (0, zr19) ∧ (zr19 ≤ 0 → ∀ zv20 : Int, zv20 = x_w (l6 + 1) → x_Ev l E (5, 0, 0) m_X3_offerTerm 9 [(13, 40), (1, l1), (5, 0), (1, l3), (5, 0), (0, l5), (0, zv20)] [] zM18 Q) ∧ (¬ zr19 ≤ 0 → x_Ev l E (1, 0, 0) m_X2_take 0 [(12, 46), (12, 48)] [] zM18 (fun r zM21 => r = none ∧ x_Ev l E (2, 0, 0) m_X2_put 0 [(12, 47), (1, l1), (5, 0), (1, l3), (5, 0), (5, 0), (5, 0)] [] zM21 (fun r zM22 => r = none ∧ ∀ zM23 : xM, zM23 = x_wr zM22 40 5 l6 → ∀ zv24 : Int, zv24 = x_w (l6 + 1) → x_Ev l E (5, 0, 0) m_X3_offerTerm 9 [(13, 40), (1, l1), (5, 0), (1, l3), (5, 0), (0, l5), (0, zv24)] [] zM23 Q))))))) ∧ (¬ l1 < (x_W (l5 * l3)) → ∀ zv25 : Int, zv25 = x_w (l6 + 1) → x_Ev l E (5, 0, 0) m_X3_offerTerm 9 [(13, 40), (1, l1), (5, 0), (1, l3), (5, 0), (0, l5), (0, zv25)] [] M Q))) ∧ (l6 = 1 → (l1 = 0 → ∀ zv26 : Int, zv26 = x_w (l6 + 1) → x_Ev l E (5, 0, 0) m_X3_offerTerm 9 [(13, 40), (1, l1), (5, 0), (1, l3), (5, 0), (0, l5), (0, zv26)] [] M Q) ∧ (¬ l1 = 0 → x_Ev l E (4, 0, 0) m_X3_addUp 0 [(13, 40), (0, 1), (0, l6), (12, 48), (5, 0), (5, 0), (5, 0), (5, 0), (5, 0), (5, 0), (5, 0), (5, 0)] [] M (fun r zM27 => r = none ∧ ((zM27 40 5) < 0 → x_Ev l E (1, 0, 0) m_X2_take 0 [(12, 46), (12, 48)] [] zM27 (fun r zM28 => r = none ∧ x_Ev l E (2, 0, 0) m_X2_put 0 [(12, 47), (1, l1), (5, 0), (1, l3), (5, 0), (5, 0), (5, 0)] [] zM28 (fun r zM29 => r = none ∧ ∀ zM30 : xM, zM30 = x_wr zM29 40 5 l6 → ∀ zv31 : Int, zv31 = x_w (l6 + 1) → x_Ev l E (5, 0, 0) m_X3_offerTerm 9 [(13, 40), (1, l1), (5, 0), (1, l3), (5, 0), (0, l5), (0, zv31)] [] zM30 Q))) ∧ (¬ (zM27 40 5) < 0 → x_Ev l E (3, 0, 0) m_X2_orderTo 0 [(12, 48), (12, 46)] [] zM27 (fun r zM32 => ∃ zr33, r = some (0, zr33) ∧ (zr33 ≤ 0 → ∀ zv34 : Int, zv34 = x_w (l6 + 1) → x_Ev l E (5, 0, 0) m_X3_offerTerm 9 [(13, 40), (1, l1), (5, 0), (1, l3), (5, 0), (0, l5), (0, zv34)] [] zM32 Q) ∧ (¬ zr33 ≤ 0 → x_Ev l E (1, 0, 0) m_X2_take 0 [(12, 46), (12, 48)] [] zM32 (fun r zM35 => r = none ∧ x_Ev l E (2, 0, 0) m_X2_put 0 [(12, 47), (1, l1), (5, 0), (1, l3), (5, 0), (5, 0), (5, 0)] [] zM35 (fun r zM36 => r = none ∧ ∀ zM37 : xM, zM37 = x_wr zM36 40 5 l6 → ∀ zv38 : Int, zv38 = x_w (l6 + 1) → x_Ev l E (5, 0, 0) m_X3_offerTerm 9 [(13, 40), (1, l1), (5, 0), (1, l3), (5, 0), (0, l5), (0, zv38)] [] zM37 Q)))))))))) : x_Ev l E (5, 0, 0) m_X3_offerTerm 9 [(13, 40), (1, l1), (5, 0), (1, l3), (5, 0), (0, l5), (0, l6)] [] M Q := by
  refine i_iload 6 rfl rfl ?_
  refine i_iconst 7 rfl (by decide) ?_
  refine i_icmp_gt 110 8 rfl (by decide) (fun c => ?_) (fun c => ?_)
  · replace h := h.1 c
    exact i_return 57 rfl rfl h
  · replace h := h.2 c
    refine i_iload 9 rfl rfl ?_
    refine i_iconst 10 rfl (by decide) ?_
    refine i_icmp_ne 27 11 rfl (by decide) (fun c => ?_) (fun c => ?_)
    · replace h := h.1 c
      refine i_iload 16 rfl rfl ?_
      refine i_iconst 17 rfl (by decide) ?_
      refine i_icmp_ne 46 18 rfl (by decide) (fun c => ?_) (fun c => ?_)
      · replace h := h.1 c
        refine i_aload_n 27 rfl rfl (by decide) ?_
        refine i_iconst 28 rfl (by decide) ?_
        refine i_iload 29 rfl rfl ?_
        refine i_aload_n 30 rfl rfl (by decide) ?_
        refine i_getP (c := 3) (k := 6) (t := 12) (b := 48) 31 rfl fl_264 (by decide) rfl (by decide) rfl ?_
        refine i_callV (c := 3) (y1 := m_X3_addUp) (z1 := (4, 0, 0)) (z2 := (5, 0, 0)) [(0, 1), (0, l6), (12, 48)] 32 rfl ml_792 ok_X3_addUp vk_X3_addUp ⟨by decide, rfl⟩ rfl ⟨rfl, Nat.le_of_ble_eq_true rfl⟩ (Nat.le_of_ble_eq_true rfl) ⟨by decide, rfl, rfl, rfl⟩ ?_
        refine h.mono (fun r zM1 h => ?_)
        obtain ⟨rfl, h⟩ := h
        simp only [Option.toList_some, Option.toList_none, List.cons_append, List.nil_append]
        refine i_aload_n 33 rfl rfl (by decide) ?_
        refine i_getI (c := 3) (k := 5) 34 rfl fl_262 (by decide) (by decide) ?_
        refine i_if_lt 78 35 rfl (by decide) (fun c => ?_) (fun c => ?_)
        · replace h := h.1 c
          refine i_aload_n 42 rfl rfl (by decide) ?_
          refine i_getP (c := 3) (k := 3) (t := 12) (b := 46) 43 rfl fl_258 (by decide) rfl (by decide) rfl ?_
          refine i_aload_n 44 rfl rfl (by decide) ?_
          refine i_getP (c := 3) (k := 6) (t := 12) (b := 48) 45 rfl fl_264 (by decide) rfl (by decide) rfl ?_
          refine i_callV (c := 2) (y1 := m_X2_take) (z1 := (1, 0, 0)) (z2 := (5, 0, 0)) [(12, 48)] 46 rfl ml_815 ok_X2_take vk_X2_take ⟨by decide, rfl⟩ rfl ⟨rfl, Nat.le_of_ble_eq_true rfl⟩ (Nat.le_of_ble_eq_true rfl) ⟨by decide, rfl, rfl, rfl⟩ ?_
          refine h.mono (fun r zM2 h => ?_)
          obtain ⟨rfl, h⟩ := h
          simp only [Option.toList_some, Option.toList_none, List.cons_append, List.nil_append]
          refine i_aload_n 47 rfl rfl (by decide) ?_
          refine i_getP (c := 3) (k := 4) (t := 12) (b := 47) 48 rfl fl_260 (by decide) rfl (by decide) rfl ?_
          refine i_lload_n 49 rfl rfl ?_
          refine i_lload_n 50 rfl rfl ?_
          refine i_callV (c := 2) (y1 := m_X2_put) (z1 := (2, 0, 0)) (z2 := (5, 0, 0)) [(1, l1), (1, l3)] 51 rfl ml_640 ok_X2_put vk_X2_put ⟨by decide, rfl⟩ rfl ⟨rfl, Nat.le_of_ble_eq_true rfl⟩ (Nat.le_of_ble_eq_true rfl) ⟨by decide, rfl, rfl, rfl⟩ ?_
          refine h.mono (fun r zM3 h => ?_)
          obtain ⟨rfl, h⟩ := h
          simp only [Option.toList_some, Option.toList_none, List.cons_append, List.nil_append]
          refine i_aload_n 52 rfl rfl (by decide) ?_
          refine i_iload 53 rfl rfl ?_
          replace h := h _ rfl
          refine i_putI (c := 3) (k := 5) 54 rfl fl_262 (by decide) ⟨rfl, rfl, rfl⟩ ?_
          replace h := h _ rfl
          refine i_iinc 55 rfl rfl (by decide) rfl ?_
          refine i_goto 9 56 rfl (by decide) ?_
          exact h
        · replace h := h.2 c
          refine i_aload_n 36 rfl rfl (by decide) ?_
          refine i_getP (c := 3) (k := 6) (t := 12) (b := 48) 37 rfl fl_264 (by decide) rfl (by decide) rfl ?_
          refine i_aload_n 38 rfl rfl (by decide) ?_
          refine i_getP (c := 3) (k := 3) (t := 12) (b := 46) 39 rfl fl_258 (by decide) rfl (by decide) rfl ?_
          refine i_callV (c := 2) (y1 := m_X2_orderTo) (z1 := (3, 0, 0)) (z2 := (5, 0, 0)) [(12, 46)] 40 rfl ml_810 ok_X2_orderTo vk_X2_orderTo ⟨by decide, rfl⟩ rfl ⟨rfl, Nat.le_of_ble_eq_true rfl⟩ (Nat.le_of_ble_eq_true rfl) ⟨by decide, rfl, rfl, rfl⟩ ?_
          refine h.mono (fun r zM6 h => ?_)
          obtain ⟨zr7, rfl, h⟩ := h
          simp only [Option.toList_some, Option.toList_none, List.cons_append, List.nil_append]
          refine i_if_le 104 41 rfl (by decide) (fun c => ?_) (fun c => ?_)
          · replace h := h.1 c
            replace h := h _ rfl
            refine i_iinc 55 rfl rfl (by decide) rfl ?_
            refine i_goto 9 56 rfl (by decide) ?_
            exact h
          · replace h := h.2 c
            refine i_aload_n 42 rfl rfl (by decide) ?_
            refine i_getP (c := 3) (k := 3) (t := 12) (b := 46) 43 rfl fl_258 (by decide) rfl (by decide) rfl ?_
            refine i_aload_n 44 rfl rfl (by decide) ?_
            refine i_getP (c := 3) (k := 6) (t := 12) (b := 48) 45 rfl fl_264 (by decide) rfl (by decide) rfl ?_
            refine i_callV (c := 2) (y1 := m_X2_take) (z1 := (1, 0, 0)) (z2 := (5, 0, 0)) [(12, 48)] 46 rfl ml_815 ok_X2_take vk_X2_take ⟨by decide, rfl⟩ rfl ⟨rfl, Nat.le_of_ble_eq_true rfl⟩ (Nat.le_of_ble_eq_true rfl) ⟨by decide, rfl, rfl, rfl⟩ ?_
            refine h.mono (fun r zM9 h => ?_)
            obtain ⟨rfl, h⟩ := h
            simp only [Option.toList_some, Option.toList_none, List.cons_append, List.nil_append]
            refine i_aload_n 47 rfl rfl (by decide) ?_
            refine i_getP (c := 3) (k := 4) (t := 12) (b := 47) 48 rfl fl_260 (by decide) rfl (by decide) rfl ?_
            refine i_lload_n 49 rfl rfl ?_
            refine i_lload_n 50 rfl rfl ?_
            refine i_callV (c := 2) (y1 := m_X2_put) (z1 := (2, 0, 0)) (z2 := (5, 0, 0)) [(1, l1), (1, l3)] 51 rfl ml_640 ok_X2_put vk_X2_put ⟨by decide, rfl⟩ rfl ⟨rfl, Nat.le_of_ble_eq_true rfl⟩ (Nat.le_of_ble_eq_true rfl) ⟨by decide, rfl, rfl, rfl⟩ ?_
            refine h.mono (fun r zM10 h => ?_)
            obtain ⟨rfl, h⟩ := h
            simp only [Option.toList_some, Option.toList_none, List.cons_append, List.nil_append]
            refine i_aload_n 52 rfl rfl (by decide) ?_
            refine i_iload 53 rfl rfl ?_
            replace h := h _ rfl
            refine i_putI (c := 3) (k := 5) 54 rfl fl_262 (by decide) ⟨rfl, rfl, rfl⟩ ?_
            replace h := h _ rfl
            refine i_iinc 55 rfl rfl (by decide) rfl ?_
            refine i_goto 9 56 rfl (by decide) ?_
            exact h
      · replace h := h.2 c
        refine i_lload_n 19 rfl rfl ?_
        refine i_iload 20 rfl rfl ?_
        refine i_i2l 21 rfl ?_
        refine i_lload_n 22 rfl rfl ?_
        refine i_lmul 23 rfl ?_
        refine i_lcmp_lt 46 24 rfl rfl (by decide) (fun c => ?_) (fun c => ?_)
        · replace h := h.1 c
          refine i_aload_n 27 rfl rfl (by decide) ?_
          refine i_iconst 28 rfl (by decide) ?_
          refine i_iload 29 rfl rfl ?_
          refine i_aload_n 30 rfl rfl (by decide) ?_
          refine i_getP (c := 3) (k := 6) (t := 12) (b := 48) 31 rfl fl_264 (by decide) rfl (by decide) rfl ?_
          refine i_callV (c := 3) (y1 := m_X3_addUp) (z1 := (4, 0, 0)) (z2 := (5, 0, 0)) [(0, 1), (0, l6), (12, 48)] 32 rfl ml_792 ok_X3_addUp vk_X3_addUp ⟨by decide, rfl⟩ rfl ⟨rfl, Nat.le_of_ble_eq_true rfl⟩ (Nat.le_of_ble_eq_true rfl) ⟨by decide, rfl, rfl, rfl⟩ ?_
          refine h.mono (fun r zM13 h => ?_)
          obtain ⟨rfl, h⟩ := h
          simp only [Option.toList_some, Option.toList_none, List.cons_append, List.nil_append]
          refine i_aload_n 33 rfl rfl (by decide) ?_
          refine i_getI (c := 3) (k := 5) 34 rfl fl_262 (by decide) (by decide) ?_
          refine i_if_lt 78 35 rfl (by decide) (fun c => ?_) (fun c => ?_)
          · replace h := h.1 c
            refine i_aload_n 42 rfl rfl (by decide) ?_
            refine i_getP (c := 3) (k := 3) (t := 12) (b := 46) 43 rfl fl_258 (by decide) rfl (by decide) rfl ?_
            refine i_aload_n 44 rfl rfl (by decide) ?_
            refine i_getP (c := 3) (k := 6) (t := 12) (b := 48) 45 rfl fl_264 (by decide) rfl (by decide) rfl ?_
            refine i_callV (c := 2) (y1 := m_X2_take) (z1 := (1, 0, 0)) (z2 := (5, 0, 0)) [(12, 48)] 46 rfl ml_815 ok_X2_take vk_X2_take ⟨by decide, rfl⟩ rfl ⟨rfl, Nat.le_of_ble_eq_true rfl⟩ (Nat.le_of_ble_eq_true rfl) ⟨by decide, rfl, rfl, rfl⟩ ?_
            refine h.mono (fun r zM14 h => ?_)
            obtain ⟨rfl, h⟩ := h
            simp only [Option.toList_some, Option.toList_none, List.cons_append, List.nil_append]
            refine i_aload_n 47 rfl rfl (by decide) ?_
            refine i_getP (c := 3) (k := 4) (t := 12) (b := 47) 48 rfl fl_260 (by decide) rfl (by decide) rfl ?_
            refine i_lload_n 49 rfl rfl ?_
            refine i_lload_n 50 rfl rfl ?_
            refine i_callV (c := 2) (y1 := m_X2_put) (z1 := (2, 0, 0)) (z2 := (5, 0, 0)) [(1, l1), (1, l3)] 51 rfl ml_640 ok_X2_put vk_X2_put ⟨by decide, rfl⟩ rfl ⟨rfl, Nat.le_of_ble_eq_true rfl⟩ (Nat.le_of_ble_eq_true rfl) ⟨by decide, rfl, rfl, rfl⟩ ?_
            refine h.mono (fun r zM15 h => ?_)
            obtain ⟨rfl, h⟩ := h
            simp only [Option.toList_some, Option.toList_none, List.cons_append, List.nil_append]
            refine i_aload_n 52 rfl rfl (by decide) ?_
            refine i_iload 53 rfl rfl ?_
            replace h := h _ rfl
            refine i_putI (c := 3) (k := 5) 54 rfl fl_262 (by decide) ⟨rfl, rfl, rfl⟩ ?_
            replace h := h _ rfl
            refine i_iinc 55 rfl rfl (by decide) rfl ?_
            refine i_goto 9 56 rfl (by decide) ?_
            exact h
          · replace h := h.2 c
            refine i_aload_n 36 rfl rfl (by decide) ?_
            refine i_getP (c := 3) (k := 6) (t := 12) (b := 48) 37 rfl fl_264 (by decide) rfl (by decide) rfl ?_
            refine i_aload_n 38 rfl rfl (by decide) ?_
            refine i_getP (c := 3) (k := 3) (t := 12) (b := 46) 39 rfl fl_258 (by decide) rfl (by decide) rfl ?_
            refine i_callV (c := 2) (y1 := m_X2_orderTo) (z1 := (3, 0, 0)) (z2 := (5, 0, 0)) [(12, 46)] 40 rfl ml_810 ok_X2_orderTo vk_X2_orderTo ⟨by decide, rfl⟩ rfl ⟨rfl, Nat.le_of_ble_eq_true rfl⟩ (Nat.le_of_ble_eq_true rfl) ⟨by decide, rfl, rfl, rfl⟩ ?_
            refine h.mono (fun r zM18 h => ?_)
            obtain ⟨zr19, rfl, h⟩ := h
            simp only [Option.toList_some, Option.toList_none, List.cons_append, List.nil_append]
            refine i_if_le 104 41 rfl (by decide) (fun c => ?_) (fun c => ?_)
            · replace h := h.1 c
              replace h := h _ rfl
              refine i_iinc 55 rfl rfl (by decide) rfl ?_
              refine i_goto 9 56 rfl (by decide) ?_
              exact h
            · replace h := h.2 c
              refine i_aload_n 42 rfl rfl (by decide) ?_
              refine i_getP (c := 3) (k := 3) (t := 12) (b := 46) 43 rfl fl_258 (by decide) rfl (by decide) rfl ?_
              refine i_aload_n 44 rfl rfl (by decide) ?_
              refine i_getP (c := 3) (k := 6) (t := 12) (b := 48) 45 rfl fl_264 (by decide) rfl (by decide) rfl ?_
              refine i_callV (c := 2) (y1 := m_X2_take) (z1 := (1, 0, 0)) (z2 := (5, 0, 0)) [(12, 48)] 46 rfl ml_815 ok_X2_take vk_X2_take ⟨by decide, rfl⟩ rfl ⟨rfl, Nat.le_of_ble_eq_true rfl⟩ (Nat.le_of_ble_eq_true rfl) ⟨by decide, rfl, rfl, rfl⟩ ?_
              refine h.mono (fun r zM21 h => ?_)
              obtain ⟨rfl, h⟩ := h
              simp only [Option.toList_some, Option.toList_none, List.cons_append, List.nil_append]
              refine i_aload_n 47 rfl rfl (by decide) ?_
              refine i_getP (c := 3) (k := 4) (t := 12) (b := 47) 48 rfl fl_260 (by decide) rfl (by decide) rfl ?_
              refine i_lload_n 49 rfl rfl ?_
              refine i_lload_n 50 rfl rfl ?_
              refine i_callV (c := 2) (y1 := m_X2_put) (z1 := (2, 0, 0)) (z2 := (5, 0, 0)) [(1, l1), (1, l3)] 51 rfl ml_640 ok_X2_put vk_X2_put ⟨by decide, rfl⟩ rfl ⟨rfl, Nat.le_of_ble_eq_true rfl⟩ (Nat.le_of_ble_eq_true rfl) ⟨by decide, rfl, rfl, rfl⟩ ?_
              refine h.mono (fun r zM22 h => ?_)
              obtain ⟨rfl, h⟩ := h
              simp only [Option.toList_some, Option.toList_none, List.cons_append, List.nil_append]
              refine i_aload_n 52 rfl rfl (by decide) ?_
              refine i_iload 53 rfl rfl ?_
              replace h := h _ rfl
              refine i_putI (c := 3) (k := 5) 54 rfl fl_262 (by decide) ⟨rfl, rfl, rfl⟩ ?_
              replace h := h _ rfl
              refine i_iinc 55 rfl rfl (by decide) rfl ?_
              refine i_goto 9 56 rfl (by decide) ?_
              exact h
        · replace h := h.2 c
          refine i_goto 104 26 rfl (by decide) ?_
          replace h := h _ rfl
          refine i_iinc 55 rfl rfl (by decide) rfl ?_
          refine i_goto 9 56 rfl (by decide) ?_
          exact h
    · replace h := h.2 c
      refine i_lload_n 12 rfl rfl ?_
      refine i_lconst (w := 0) 13 rfl (by decide) ?_
      refine i_lcmp_eq 104 14 rfl rfl (by decide) (fun c => ?_) (fun c => ?_)
      · replace h := h.1 c
        replace h := h _ rfl
        refine i_iinc 55 rfl rfl (by decide) rfl ?_
        refine i_goto 9 56 rfl (by decide) ?_
        exact h
      · replace h := h.2 c
        refine i_iload 16 rfl rfl ?_
        refine i_iconst 17 rfl (by decide) ?_
        refine i_icmp_ne 46 18 rfl (by decide) (fun c => ?_) (fun c => ?_)
        · refine i_aload_n 27 rfl rfl (by decide) ?_
          refine i_iconst 28 rfl (by decide) ?_
          refine i_iload 29 rfl rfl ?_
          refine i_aload_n 30 rfl rfl (by decide) ?_
          refine i_getP (c := 3) (k := 6) (t := 12) (b := 48) 31 rfl fl_264 (by decide) rfl (by decide) rfl ?_
          refine i_callV (c := 3) (y1 := m_X3_addUp) (z1 := (4, 0, 0)) (z2 := (5, 0, 0)) [(0, 1), (0, l6), (12, 48)] 32 rfl ml_792 ok_X3_addUp vk_X3_addUp ⟨by decide, rfl⟩ rfl ⟨rfl, Nat.le_of_ble_eq_true rfl⟩ (Nat.le_of_ble_eq_true rfl) ⟨by decide, rfl, rfl, rfl⟩ ?_
          refine h.mono (fun r zM27 h => ?_)
          obtain ⟨rfl, h⟩ := h
          simp only [Option.toList_some, Option.toList_none, List.cons_append, List.nil_append]
          refine i_aload_n 33 rfl rfl (by decide) ?_
          refine i_getI (c := 3) (k := 5) 34 rfl fl_262 (by decide) (by decide) ?_
          refine i_if_lt 78 35 rfl (by decide) (fun c => ?_) (fun c => ?_)
          · replace h := h.1 c
            refine i_aload_n 42 rfl rfl (by decide) ?_
            refine i_getP (c := 3) (k := 3) (t := 12) (b := 46) 43 rfl fl_258 (by decide) rfl (by decide) rfl ?_
            refine i_aload_n 44 rfl rfl (by decide) ?_
            refine i_getP (c := 3) (k := 6) (t := 12) (b := 48) 45 rfl fl_264 (by decide) rfl (by decide) rfl ?_
            refine i_callV (c := 2) (y1 := m_X2_take) (z1 := (1, 0, 0)) (z2 := (5, 0, 0)) [(12, 48)] 46 rfl ml_815 ok_X2_take vk_X2_take ⟨by decide, rfl⟩ rfl ⟨rfl, Nat.le_of_ble_eq_true rfl⟩ (Nat.le_of_ble_eq_true rfl) ⟨by decide, rfl, rfl, rfl⟩ ?_
            refine h.mono (fun r zM28 h => ?_)
            obtain ⟨rfl, h⟩ := h
            simp only [Option.toList_some, Option.toList_none, List.cons_append, List.nil_append]
            refine i_aload_n 47 rfl rfl (by decide) ?_
            refine i_getP (c := 3) (k := 4) (t := 12) (b := 47) 48 rfl fl_260 (by decide) rfl (by decide) rfl ?_
            refine i_lload_n 49 rfl rfl ?_
            refine i_lload_n 50 rfl rfl ?_
            refine i_callV (c := 2) (y1 := m_X2_put) (z1 := (2, 0, 0)) (z2 := (5, 0, 0)) [(1, l1), (1, l3)] 51 rfl ml_640 ok_X2_put vk_X2_put ⟨by decide, rfl⟩ rfl ⟨rfl, Nat.le_of_ble_eq_true rfl⟩ (Nat.le_of_ble_eq_true rfl) ⟨by decide, rfl, rfl, rfl⟩ ?_
            refine h.mono (fun r zM29 h => ?_)
            obtain ⟨rfl, h⟩ := h
            simp only [Option.toList_some, Option.toList_none, List.cons_append, List.nil_append]
            refine i_aload_n 52 rfl rfl (by decide) ?_
            refine i_iload 53 rfl rfl ?_
            replace h := h _ rfl
            refine i_putI (c := 3) (k := 5) 54 rfl fl_262 (by decide) ⟨rfl, rfl, rfl⟩ ?_
            replace h := h _ rfl
            refine i_iinc 55 rfl rfl (by decide) rfl ?_
            refine i_goto 9 56 rfl (by decide) ?_
            exact h
          · replace h := h.2 c
            refine i_aload_n 36 rfl rfl (by decide) ?_
            refine i_getP (c := 3) (k := 6) (t := 12) (b := 48) 37 rfl fl_264 (by decide) rfl (by decide) rfl ?_
            refine i_aload_n 38 rfl rfl (by decide) ?_
            refine i_getP (c := 3) (k := 3) (t := 12) (b := 46) 39 rfl fl_258 (by decide) rfl (by decide) rfl ?_
            refine i_callV (c := 2) (y1 := m_X2_orderTo) (z1 := (3, 0, 0)) (z2 := (5, 0, 0)) [(12, 46)] 40 rfl ml_810 ok_X2_orderTo vk_X2_orderTo ⟨by decide, rfl⟩ rfl ⟨rfl, Nat.le_of_ble_eq_true rfl⟩ (Nat.le_of_ble_eq_true rfl) ⟨by decide, rfl, rfl, rfl⟩ ?_
            refine h.mono (fun r zM32 h => ?_)
            obtain ⟨zr33, rfl, h⟩ := h
            simp only [Option.toList_some, Option.toList_none, List.cons_append, List.nil_append]
            refine i_if_le 104 41 rfl (by decide) (fun c => ?_) (fun c => ?_)
            · replace h := h.1 c
              replace h := h _ rfl
              refine i_iinc 55 rfl rfl (by decide) rfl ?_
              refine i_goto 9 56 rfl (by decide) ?_
              exact h
            · replace h := h.2 c
              refine i_aload_n 42 rfl rfl (by decide) ?_
              refine i_getP (c := 3) (k := 3) (t := 12) (b := 46) 43 rfl fl_258 (by decide) rfl (by decide) rfl ?_
              refine i_aload_n 44 rfl rfl (by decide) ?_
              refine i_getP (c := 3) (k := 6) (t := 12) (b := 48) 45 rfl fl_264 (by decide) rfl (by decide) rfl ?_
              refine i_callV (c := 2) (y1 := m_X2_take) (z1 := (1, 0, 0)) (z2 := (5, 0, 0)) [(12, 48)] 46 rfl ml_815 ok_X2_take vk_X2_take ⟨by decide, rfl⟩ rfl ⟨rfl, Nat.le_of_ble_eq_true rfl⟩ (Nat.le_of_ble_eq_true rfl) ⟨by decide, rfl, rfl, rfl⟩ ?_
              refine h.mono (fun r zM35 h => ?_)
              obtain ⟨rfl, h⟩ := h
              simp only [Option.toList_some, Option.toList_none, List.cons_append, List.nil_append]
              refine i_aload_n 47 rfl rfl (by decide) ?_
              refine i_getP (c := 3) (k := 4) (t := 12) (b := 47) 48 rfl fl_260 (by decide) rfl (by decide) rfl ?_
              refine i_lload_n 49 rfl rfl ?_
              refine i_lload_n 50 rfl rfl ?_
              refine i_callV (c := 2) (y1 := m_X2_put) (z1 := (2, 0, 0)) (z2 := (5, 0, 0)) [(1, l1), (1, l3)] 51 rfl ml_640 ok_X2_put vk_X2_put ⟨by decide, rfl⟩ rfl ⟨rfl, Nat.le_of_ble_eq_true rfl⟩ (Nat.le_of_ble_eq_true rfl) ⟨by decide, rfl, rfl, rfl⟩ ?_
              refine h.mono (fun r zM36 h => ?_)
              obtain ⟨rfl, h⟩ := h
              simp only [Option.toList_some, Option.toList_none, List.cons_append, List.nil_append]
              refine i_aload_n 52 rfl rfl (by decide) ?_
              refine i_iload 53 rfl rfl ?_
              replace h := h _ rfl
              refine i_putI (c := 3) (k := 5) 54 rfl fl_262 (by decide) ⟨rfl, rfl, rfl⟩ ?_
              replace h := h _ rfl
              refine i_iinc 55 rfl rfl (by decide) rfl ?_
              refine i_goto 9 56 rfl (by decide) ?_
              exact h
        · exact absurd c (by omega)
theorem u_X2_orderTo_0 {l : Launch} {E : xE} (a0 a1 : Int) {M : xM} {Q : Option xV → xM → Prop} (h : x_Ev l E (2, 0, 0) m_X2_order 0 [(1, (M a0 0)), (5, 0), (1, (M a0 1)), (5, 0), (1, (M a1 0)), (5, 0), (1, (M a1 1)), (5, 0), (5, 0), (5, 0), (5, 0), (5, 0), (5, 0), (5, 0), (5, 0), (5, 0), (5, 0), (5, 0), (5, 0), (5, 0), (5, 0), (5, 0), (5, 0), (5, 0), (5, 0), (5, 0)] [] M (fun r zM1 => ∃ zr2, r = some (0, zr2) ∧ Q (some (0, zr2)) zM1)) : x_Ev l E (3, 0, 0) m_X2_orderTo 0 [(12, a0), (12, a1)] [] M Q := by
  refine i_aload_n 0 rfl rfl (by decide) ?_
  refine i_getL (c := 2) (k := 0) 1 rfl fl_38 (by decide) rfl ?_
  refine i_aload_n 2 rfl rfl (by decide) ?_
  refine i_getL (c := 2) (k := 1) 3 rfl fl_42 (by decide) rfl ?_
  refine i_aload_n 4 rfl rfl (by decide) ?_
  refine i_getL (c := 2) (k := 0) 5 rfl fl_38 (by decide) rfl ?_
  refine i_aload_n 6 rfl rfl (by decide) ?_
  refine i_getL (c := 2) (k := 1) 7 rfl fl_42 (by decide) rfl ?_
  refine i_callS (y1 := m_X2_order) (z1 := (2, 0, 0)) (z2 := (3, 0, 0)) [(1, (M a0 0)), (1, (M a0 1)), (1, (M a1 0)), (1, (M a1 1))] 8 rfl ml_814 ok_X2_order vk_X2_order rfl ⟨rfl, Nat.le_of_ble_eq_true rfl⟩ (Nat.le_of_ble_eq_true rfl) ⟨by decide, rfl, rfl, rfl⟩ ?_
  refine h.mono (fun r zM1 h => ?_)
  obtain ⟨zr2, rfl, h⟩ := h
  simp only [Option.toList_some, Option.toList_none, List.cons_append, List.nil_append]
  exact i_ireturn 9 rfl rfl h
