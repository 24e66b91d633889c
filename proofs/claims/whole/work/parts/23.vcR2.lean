/-! Printed by wip/whole/tools/gen_vc.py: what is enough at each cut point -/
theorem u_X11_findsBest_0 {l : Launch} {E : xE} {M : xM} {Q : Option xV → xM → Prop} (h : x_Ev l E (6, 0, 0) m_X11_findsBreaks 0 [(21, 103), (0, (-1)), (5, 0)] [] M (fun r zM1 => r = none ∧ x_Ev l E (7, 0, 0) m_X11_findsBest 9 [(21, 103), (0, 1), (0, 0), (5, 0)] [] zM1 Q)) : x_Ev l E (7, 0, 0) m_X11_findsBest 0 [(21, 103), (5, 0), (5, 0), (5, 0)] [] M Q := by
  refine i_aload_n 0 rfl rfl (by decide) ?_
  refine i_iconst 1 rfl (by decide) ?_
  refine i_callV (c := 11) (y1 := m_X11_findsBreaks) (z1 := (6, 0, 0)) (z2 := (7, 0, 0)) [(0, (-1))] 2 rfl ml_1566 ok_X11_findsBreaks vk_X11_findsBreaks ⟨by decide, rfl⟩ rfl ⟨rfl, Nat.le_of_ble_eq_true rfl⟩ (Nat.le_of_ble_eq_true rfl) ⟨by decide, rfl, rfl, rfl⟩ ?_
  refine h.mono (fun r zM1 h => ?_)
  obtain ⟨rfl, h⟩ := h
  simp only [Option.toList_some, Option.toList_none, List.cons_append, List.nil_append]
  refine i_iconst 3 rfl (by decide) ?_
  refine i_istore_n 4 rfl (by decide) rfl ?_
  refine i_iconst 5 rfl (by decide) ?_
  refine i_istore_n 6 rfl (by decide) rfl ?_
  exact h
theorem u_X11_findsBest_9 {l : Launch} {E : xE} (l1 l2 : Int) {M : xM} {Q : Option xV → xM → Prop} (h : ((x_w ((M 103 25) + 2)) ≤ l2 → Q none M) ∧ (¬ (x_w ((M 103 25) + 2)) ≤ l2 → x_Ev l E (7, 0, 0) m_X11_findsBest 21 [(21, 103), (0, l1), (0, l2), (0, 0)] [] M Q)) : x_Ev l E (7, 0, 0) m_X11_findsBest 9 [(21, 103), (0, l1), (0, l2), (5, 0)] [] M Q := by
  refine i_iload_n 7 rfl rfl ?_
  refine i_aload_n 8 rfl rfl (by decide) ?_
  refine i_getI (c := 11) (k := 25) 9 rfl fl_1074 (by decide) (by decide) ?_
  refine i_iconst 10 rfl (by decide) ?_
  refine i_iadd 11 rfl ?_
  refine i_icmp_ge 150 12 rfl (by decide) (fun c => ?_) (fun c => ?_)
  · replace h := h.1 c
    exact i_return 82 rfl rfl h
  · replace h := h.2 c
    refine i_iconst 13 rfl (by decide) ?_
    refine i_istore_n 14 rfl (by decide) rfl ?_
    exact h
theorem u_X11_findsBest_21 {l : Launch} {E : xE} (l1 l2 l3 : Int) {M : xM} {Q : Option xV → xM → Prop} (h : (3 ≤ l3 → ∀ zv1 : Int, zv1 = x_w (l2 + 1) → x_Ev l E (7, 0, 0) m_X11_findsBest 9 [(21, 103), (0, l1), (0, zv1), (5, 0)] [] M Q) ∧ (¬ 3 ≤ l3 → (¬ l3 = 1 → (¬ l3 = 2 → x_Ev l E (1, 0, 0) m_X11_pointAbove 0 [(21, 103), (0, l2)] [] M (fun r zM2 => ∃ zr3, r = some (1, zr3) ∧ x_Ev l E (1, 0, 0) m_X11_pointBelow 0 [(21, 103), (0, l2)] [] zM2 (fun r zM4 => ∃ zr5, r = some (1, zr5) ∧ x_Ev l E (5, 0, 0) m_X11_totals 0 [(21, 103), (1, zr3), (5, 0), (1, zr5), (5, 0), (0, l3), (5, 0), (5, 0)] [] zM4 (fun r zM6 => r = none ∧ (¬ l1 = 0 → ∀ zM7 : xM, zM7 = x_wr zM6 103 28 (zM6 103 15) → ∀ zM8 : xM, zM8 = x_wr zM7 103 29 (zM7 103 16) → x_Ev l E (1, 0, 0) m_X11_pointAbove 0 [(21, 103), (0, l2)] [] zM8 (fun r zM9 => ∃ zr10, r = some (1, zr10) ∧ ∀ zM11 : xM, zM11 = x_wr zM9 103 30 zr10 → x_Ev l E (1, 0, 0) m_X11_pointBelow 0 [(21, 103), (0, l2)] [] zM11 (fun r zM12 => ∃ zr13, r = some (1, zr13) ∧ ∀ zM14 : xM, zM14 = x_wr zM12 103 31 zr13 → ∀ zM15 : xM, zM15 = x_wr zM14 103 32 l3 → ∀ zv16 : Int, zv16 = x_w (l3 + 1) → x_Ev l E (7, 0, 0) m_X11_findsBest 21 [(21, 103), (0, 0), (0, l2), (0, zv16)] [] zM15 Q))) ∧ (l1 = 0 → x_Ev l E (2, 0, 0) m_X11_compare 0 [(1, (zM6 103 15)), (5, 0), (1, (zM6 103 16)), (5, 0), (1, (zM6 103 28)), (5, 0), (1, (zM6 103 29)), (5, 0), (5, 0), (5, 0), (5, 0), (5, 0), (5, 0), (5, 0), (5, 0), (5, 0), (5, 0), (5, 0), (5, 0), (5, 0), (5, 0), (5, 0), (5, 0), (5, 0), (5, 0)] [] zM6 (fun r zM17 => ∃ zr18, r = some (0, zr18) ∧ (0 < zr18 → ∀ zM19 : xM, zM19 = x_wr zM17 103 28 (zM17 103 15) → ∀ zM20 : xM, zM20 = x_wr zM19 103 29 (zM19 103 16) → x_Ev l E (1, 0, 0) m_X11_pointAbove 0 [(21, 103), (0, l2)] [] zM20 (fun r zM21 => ∃ zr22, r = some (1, zr22) ∧ ∀ zM23 : xM, zM23 = x_wr zM21 103 30 zr22 → x_Ev l E (1, 0, 0) m_X11_pointBelow 0 [(21, 103), (0, l2)] [] zM23 (fun r zM24 => ∃ zr25, r = some (1, zr25) ∧ ∀ zM26 : xM, zM26 = x_wr zM24 103 31 zr25 → ∀ zM27 : xM, zM27 = x_wr zM26 103 32 l3 → ∀ zv28 : Int, zv28 = x_w (l3 + 1) → x_Ev l E (7, 0, 0) m_X11_findsBest 21 [(21, 103), (0, 0), (0, l2), (0, zv28)] [] zM27 Q))) ∧ (¬ 0 < zr18 → ∀ zv29 : Int, zv29 = x_w (l3 + 1) → x_Ev l E (7, 0, 0) m_X11_findsBest 21 [(21, 103), (0, l1), (0, l2), (0, zv29)] [] zM17 Q))))))) ∧ (l3 = 2 → (¬ l2 = (x_w ((M 103 25) + 1)) → x_Ev l E (1, 0, 0) m_X11_pointAbove 0 [(21, 103), (0, l2)] [] M (fun r zM30 => ∃ zr31, r = some (1, zr31) ∧ x_Ev l E (1, 0, 0) m_X11_pointBelow 0 [(21, 103), (0, l2)] [] zM30 (fun r zM32 => ∃ zr33, r = some (1, zr33) ∧ x_Ev l E (5, 0, 0) m_X11_totals 0 [(21, 103), (1, zr31), (5, 0), (1, zr33), (5, 0), (0, l3), (5, 0), (5, 0)] [] zM32 (fun r zM34 => r = none ∧ (¬ l1 = 0 → ∀ zM35 : xM, zM35 = x_wr zM34 103 28 (zM34 103 15) → ∀ zM36 : xM, zM36 = x_wr zM35 103 29 (zM35 103 16) → x_Ev l E (1, 0, 0) m_X11_pointAbove 0 [(21, 103), (0, l2)] [] zM36 (fun r zM37 => ∃ zr38, r = some (1, zr38) ∧ ∀ zM39 : xM, zM39 = x_wr zM37 103 30 zr38 → x_Ev l E (1, 0, 0) m_X11_pointBelow 0 [(21, 103), (0, l2)] [] zM39 (fun r zM40 => ∃ zr41, r = some (1, zr41) ∧ ∀ zM42 : xM, zM42 = x_wr zM40 103 31 zr41 → ∀ zM43 : xM, zM43 = x_wr zM42 103 32 l3 → ∀ zv44 : Int, zv44 = x_w (l3 + 1) → x_Ev l E (7, 0, 0) m_X11_findsBest 21 [(21, 103), (0, 0), (0, l2), (0, zv44)] [] zM43 Q))) ∧ (l1 = 0 → x_Ev l E (2, 0, 0) m_X11_compare 0 [(1, (zM34 103 15)), (5, 0), (1, (zM34 103 16)), (5, 0), (1, (zM34 103 28)), (5, 0), (1, (zM34 103 29)), (5, 0), (5, 0), (5, 0), (5, 0), (5, 0), (5, 0), (5, 0), (5, 0), (5, 0), (5, 0), (5, 0), (5, 0), (5, 0), (5, 0), (5, 0), (5, 0), (5, 0), (5, 0)] [] zM34 (fun r zM45 => ∃ zr46, r = some (0, zr46) ∧ (0 < zr46 → ∀ zM47 : xM, zM47 = x_wr zM45 103 28 (zM45 103 15) → ∀ zM48 : xM, zM48 = x_wr zM47 103 29 (zM47 103 16) → x_Ev l E (1, 0, 0) m_X11_pointAbove 0 [(21, 103), (0, l2)] [] zM48 (fun r zM49 => ∃ zr50, r = some (1, zr50) ∧ ∀ zM51 : xM, zM51 = x_wr zM49 103 30 zr50 → x_Ev l E (1, 0, 0) m_X11_pointBelow 0 [(21, 103), (0, l2)] [] zM51 (fun r zM52 => ∃ zr53, r = some (1, zr53) ∧ ∀ zM54 : xM, zM54 = x_wr zM52 103 31 zr53 → ∀ zM55 : xM, zM55 = x_wr zM54 103 32 l3 → ∀ zv56 : Int, zv56 = x_w (l3 + 1) → x_Ev l E (7, 0, 0) m_X11_findsBest 21 [(21, 103), (0, 0), (0, l2), (0, zv56)] [] zM55 Q))) ∧ (¬ 0 < zr46 → ∀ zv57 : Int, zv57 = x_w (l3 + 1) → x_Ev l E (7, 0, 0) m_X11_findsBest 21 [(21, 103), (0, l1), (0, l2), (0, zv57)] [] zM45 Q))))))) ∧ (l2 = (x_w ((M 103 25) + 1)) → ∀ zv58 : Int, zv58 = x_w (l3 + 1) → x_Ev l E (7, 0, 0) m_X11_findsBest 21 [(21, 103), (0, l1), (0, l2), (0, zv58)] [] M Q))) ∧ (l3 = 1 → (l2 = 0 → ∀ zv59 : Int, zv59 = x_w (l3 + 1) → x_Ev l E (7, 0, 0) m_X11_findsBest 21 [(21, 103), (0, l1), (0, l2), (0, zv59)] [] M Q) ∧ (¬ l2 = 0 → x_Ev l E (1, 0, 0) m_X11_pointAbove 0 [(21, 103), (0, l2)] [] M (fun r zM60 => ∃ zr61, r = some (1, zr61) ∧ x_Ev l E (1, 0, 0) m_X11_pointBelow 0 [(21, 103), (0, l2)] [] zM60 (fun r zM62 => ∃ zr63, r = some (1, zr63) ∧ x_Ev l E (5, 0, 0) m_X11_totals 0 [(21, 103), (1, zr61), (5, 0), (1, zr63), (5, 0), (0, l3), (5, 0), (5, 0)] [] zM62 (fun r zM64 => r = none ∧ (¬ l1 = 0 → ∀ zM65 : xM, zM65 = x_wr zM64 103 28 (zM64 103 15) → ∀ zM66 : xM, zM66 = x_wr zM65 103 29 (zM65 103 16) → x_Ev l E (1, 0, 0) m_X11_pointAbove 0 [(21, 103), (0, l2)] [] zM66 (fun r zM67 => ∃ zr68, r = some (1, zr68) ∧ ∀ zM69 : xM, zM69 = x_wr zM67 103 30 zr68 → x_Ev l E (1, 0, 0) m_X11_pointBelow 0 [(21, 103), (0, l2)] [] zM69 (fun r zM70 => ∃ zr71, r = some (1, zr71) ∧ ∀ zM72 : xM, zM72 = x_wr zM70 103 31 zr71 → ∀ zM73 : xM, zM73 = x_wr zM72 103 32 l3 → ∀ zv74 : Int, zv74 = x_w (l3 + 1) → x_Ev l E (7, 0, 0) m_X11_findsBest 21 [(21, 103), (0, 0), (0, l2), (0, zv74)] [] zM73 Q))) ∧ (l1 = 0 → x_Ev l E (2, 0, 0) m_X11_compare 0 [(1, (zM64 103 15)), (5, 0), (1, (zM64 103 16)), (5, 0), (1, (zM64 103 28)), (5, 0), (1, (zM64 103 29)), (5, 0), (5, 0), (5, 0), (5, 0), (5, 0), (5, 0), (5, 0), (5, 0), (5, 0), (5, 0), (5, 0), (5, 0), (5, 0), (5, 0), (5, 0), (5, 0), (5, 0), (5, 0)] [] zM64 (fun r zM75 => ∃ zr76, r = some (0, zr76) ∧ (0 < zr76 → ∀ zM77 : xM, zM77 = x_wr zM75 103 28 (zM75 103 15) → ∀ zM78 : xM, zM78 = x_wr zM77 103 29 (zM77 103 16) → x_Ev l E (1, 0, 0) m_X11_pointAbove 0 [(21, 103), (0, l2)] [] zM78 (fun r zM79 => ∃ zr80, r = some (1, zr80) ∧ ∀ zM81 : xM, zM81 = x_wr zM79 103 30 zr80 → x_Ev l E (1, 0, 0) m_X11_pointBelow 0 [(21, 103), (0, l2)] [] zM81 (fun r zM82 => ∃ zr83, r = some (1, zr83) ∧ ∀ zM84 : xM, zM84 = x_wr zM82 103 31 zr83 → ∀ zM85 : xM, zM85 = x_wr zM84 103 32 l3 → ∀ zv86 : Int, zv86 = x_w (l3 + 1) → x_Ev l E (7, 0, 0) m_X11_findsBest 21 [(21, 103), (0, 0), (0, l2), (0, zv86)] [] zM85 Q))) ∧ (¬ 0 < zr76 → ∀ zv87 : Int, zv87 = x_w (l3 + 1) → x_Ev l E (7, 0, 0) m_X11_findsBest 21 [(21, 103), (0, l1), (0, l2), (0, zv87)] [] zM75 Q)))))))))) : x_Ev l E (7, 0, 0) m_X11_findsBest 21 [(21, 103), (0, l1), (0, l2), (0, l3)] [] M Q := by
  refine i_iload_n 15 rfl rfl ?_
  refine i_iconst 16 rfl (by decide) ?_
  refine i_icmp_ge 144 17 rfl (by decide) (fun c => ?_) (fun c => ?_)
  · replace h := h.1 c
    replace h := h _ rfl
    refine i_iinc 80 rfl rfl (by decide) rfl ?_
    refine i_goto 9 81 rfl (by decide) ?_
    refine i_weak ?_ h
    exact (And.intro (Or.inr rfl) (And.intro (Or.inr rfl) (And.intro (Or.inr rfl) (And.intro (Or.inl rfl) trivial))))
  · replace h := h.2 c
    refine i_iload_n 18 rfl rfl ?_
    refine i_iconst 19 rfl (by decide) ?_
    refine i_icmp_ne 35 20 rfl (by decide) (fun c => ?_) (fun c => ?_)
    · replace h := h.1 c
      refine i_iload_n 23 rfl rfl ?_
      refine i_iconst 24 rfl (by decide) ?_
      refine i_icmp_ne 53 25 rfl (by decide) (fun c => ?_) (fun c => ?_)
      · replace h := h.1 c
        refine i_aload_n 33 rfl rfl (by decide) ?_
        refine i_aload_n 34 rfl rfl (by decide) ?_
        refine i_iload_n 35 rfl rfl ?_
        refine i_callV (c := 11) (y1 := m_X11_pointAbove) (z1 := (1, 0, 0)) (z2 := (7, 0, 0)) [(0, l2)] 36 rfl ml_1595 ok_X11_pointAbove vk_X11_pointAbove ⟨by decide, rfl⟩ rfl ⟨rfl, Nat.le_of_ble_eq_true rfl⟩ (Nat.le_of_ble_eq_true rfl) ⟨by decide, rfl, rfl, rfl⟩ ?_
        refine h.mono (fun r zM2 h => ?_)
        obtain ⟨zr3, rfl, h⟩ := h
        simp only [Option.toList_some, Option.toList_none, List.cons_append, List.nil_append]
        refine i_aload_n 37 rfl rfl (by decide) ?_
        refine i_iload_n 38 rfl rfl ?_
        refine i_callV (c := 11) (y1 := m_X11_pointBelow) (z1 := (1, 0, 0)) (z2 := (7, 0, 0)) [(0, l2)] 39 rfl ml_1599 ok_X11_pointBelow vk_X11_pointBelow ⟨by decide, rfl⟩ rfl ⟨rfl, Nat.le_of_ble_eq_true rfl⟩ (Nat.le_of_ble_eq_true rfl) ⟨by decide, rfl, rfl, rfl⟩ ?_
        refine h.mono (fun r zM4 h => ?_)
        obtain ⟨zr5, rfl, h⟩ := h
        simp only [Option.toList_some, Option.toList_none, List.cons_append, List.nil_append]
        refine i_iload_n 40 rfl rfl ?_
        refine i_callV (c := 11) (y1 := m_X11_totals) (z1 := (5, 0, 0)) (z2 := (7, 0, 0)) [(1, zr3), (1, zr5), (0, l3)] 41 rfl ml_1429 ok_X11_totals vk_X11_totals ⟨by decide, rfl⟩ rfl ⟨rfl, Nat.le_of_ble_eq_true rfl⟩ (Nat.le_of_ble_eq_true rfl) ⟨by decide, rfl, rfl, rfl⟩ ?_
        refine h.mono (fun r zM6 h => ?_)
        obtain ⟨rfl, h⟩ := h
        simp only [Option.toList_some, Option.toList_none, List.cons_append, List.nil_append]
        refine i_iload_n 42 rfl rfl ?_
        refine i_if_ne 97 43 rfl (by decide) (fun c => ?_) (fun c => ?_)
        · replace h := h.1 c
          refine i_iconst 55 rfl (by decide) ?_
          refine i_istore_n 56 rfl (by decide) rfl ?_
          refine i_aload_n 57 rfl rfl (by decide) ?_
          refine i_aload_n 58 rfl rfl (by decide) ?_
          refine i_getL (c := 11) (k := 15) 59 rfl fl_1064 (by decide) rfl ?_
          replace h := h _ rfl
          refine i_putL (c := 11) (k := 28) 60 rfl fl_1077 (by decide) ⟨rfl, rfl, rfl⟩ ?_
          refine i_aload_n 61 rfl rfl (by decide) ?_
          refine i_aload_n 62 rfl rfl (by decide) ?_
          refine i_getL (c := 11) (k := 16) 63 rfl fl_1065 (by decide) rfl ?_
          replace h := h _ rfl
          refine i_putL (c := 11) (k := 29) 64 rfl fl_1078 (by decide) ⟨rfl, rfl, rfl⟩ ?_
          refine i_aload_n 65 rfl rfl (by decide) ?_
          refine i_aload_n 66 rfl rfl (by decide) ?_
          refine i_iload_n 67 rfl rfl ?_
          refine i_callV (c := 11) (y1 := m_X11_pointAbove) (z1 := (1, 0, 0)) (z2 := (7, 0, 0)) [(0, l2)] 68 rfl ml_1595 ok_X11_pointAbove vk_X11_pointAbove ⟨by decide, rfl⟩ rfl ⟨rfl, Nat.le_of_ble_eq_true rfl⟩ (Nat.le_of_ble_eq_true rfl) ⟨by decide, rfl, rfl, rfl⟩ ?_
          refine h.mono (fun r zM9 h => ?_)
          obtain ⟨zr10, rfl, h⟩ := h
          simp only [Option.toList_some, Option.toList_none, List.cons_append, List.nil_append]
          replace h := h _ rfl
          refine i_putL (c := 11) (k := 30) 69 rfl fl_1079 (by decide) ⟨rfl, rfl, rfl⟩ ?_
          refine i_aload_n 70 rfl rfl (by decide) ?_
          refine i_aload_n 71 rfl rfl (by decide) ?_
          refine i_iload_n 72 rfl rfl ?_
          refine i_callV (c := 11) (y1 := m_X11_pointBelow) (z1 := (1, 0, 0)) (z2 := (7, 0, 0)) [(0, l2)] 73 rfl ml_1599 ok_X11_pointBelow vk_X11_pointBelow ⟨by decide, rfl⟩ rfl ⟨rfl, Nat.le_of_ble_eq_true rfl⟩ (Nat.le_of_ble_eq_true rfl) ⟨by decide, rfl, rfl, rfl⟩ ?_
          refine h.mono (fun r zM12 h => ?_)
          obtain ⟨zr13, rfl, h⟩ := h
          simp only [Option.toList_some, Option.toList_none, List.cons_append, List.nil_append]
          replace h := h _ rfl
          refine i_putL (c := 11) (k := 31) 74 rfl fl_1080 (by decide) ⟨rfl, rfl, rfl⟩ ?_
          refine i_aload_n 75 rfl rfl (by decide) ?_
          refine i_iload_n 76 rfl rfl ?_
          replace h := h _ rfl
          refine i_putI (c := 11) (k := 32) 77 rfl fl_1081 (by decide) ⟨rfl, rfl, rfl⟩ ?_
          replace h := h _ rfl
          refine i_iinc 78 rfl rfl (by decide) rfl ?_
          refine i_goto 21 79 rfl (by decide) ?_
          exact h
        · replace h := h.2 c
          refine i_aload_n 44 rfl rfl (by decide) ?_
          refine i_getL (c := 11) (k := 15) 45 rfl fl_1064 (by decide) rfl ?_
          refine i_aload_n 46 rfl rfl (by decide) ?_
          refine i_getL (c := 11) (k := 16) 47 rfl fl_1065 (by decide) rfl ?_
          refine i_aload_n 48 rfl rfl (by decide) ?_
          refine i_getL (c := 11) (k := 28) 49 rfl fl_1077 (by decide) rfl ?_
          refine i_aload_n 50 rfl rfl (by decide) ?_
          refine i_getL (c := 11) (k := 29) 51 rfl fl_1078 (by decide) rfl ?_
          refine i_callS (y1 := m_X11_compare) (z1 := (2, 0, 0)) (z2 := (7, 0, 0)) [(1, (zM6 103 15)), (1, (zM6 103 16)), (1, (zM6 103 28)), (1, (zM6 103 29))] 52 rfl ml_1558 ok_X11_compare vk_X11_compare rfl ⟨rfl, Nat.le_of_ble_eq_true rfl⟩ (Nat.le_of_ble_eq_true rfl) ⟨by decide, rfl, rfl, rfl⟩ ?_
          refine h.mono (fun r zM17 h => ?_)
          obtain ⟨zr18, rfl, h⟩ := h
          simp only [Option.toList_some, Option.toList_none, List.cons_append, List.nil_append]
          refine i_if_gt 97 53 rfl (by decide) (fun c => ?_) (fun c => ?_)
          · replace h := h.1 c
            refine i_iconst 55 rfl (by decide) ?_
            refine i_istore_n 56 rfl (by decide) rfl ?_
            refine i_aload_n 57 rfl rfl (by decide) ?_
            refine i_aload_n 58 rfl rfl (by decide) ?_
            refine i_getL (c := 11) (k := 15) 59 rfl fl_1064 (by decide) rfl ?_
            replace h := h _ rfl
            refine i_putL (c := 11) (k := 28) 60 rfl fl_1077 (by decide) ⟨rfl, rfl, rfl⟩ ?_
            refine i_aload_n 61 rfl rfl (by decide) ?_
            refine i_aload_n 62 rfl rfl (by decide) ?_
            refine i_getL (c := 11) (k := 16) 63 rfl fl_1065 (by decide) rfl ?_
            replace h := h _ rfl
            refine i_putL (c := 11) (k := 29) 64 rfl fl_1078 (by decide) ⟨rfl, rfl, rfl⟩ ?_
            refine i_aload_n 65 rfl rfl (by decide) ?_
            refine i_aload_n 66 rfl rfl (by decide) ?_
            refine i_iload_n 67 rfl rfl ?_
            refine i_callV (c := 11) (y1 := m_X11_pointAbove) (z1 := (1, 0, 0)) (z2 := (7, 0, 0)) [(0, l2)] 68 rfl ml_1595 ok_X11_pointAbove vk_X11_pointAbove ⟨by decide, rfl⟩ rfl ⟨rfl, Nat.le_of_ble_eq_true rfl⟩ (Nat.le_of_ble_eq_true rfl) ⟨by decide, rfl, rfl, rfl⟩ ?_
            refine h.mono (fun r zM21 h => ?_)
            obtain ⟨zr22, rfl, h⟩ := h
            simp only [Option.toList_some, Option.toList_none, List.cons_append, List.nil_append]
            replace h := h _ rfl
            refine i_putL (c := 11) (k := 30) 69 rfl fl_1079 (by decide) ⟨rfl, rfl, rfl⟩ ?_
            refine i_aload_n 70 rfl rfl (by decide) ?_
            refine i_aload_n 71 rfl rfl (by decide) ?_
            refine i_iload_n 72 rfl rfl ?_
            refine i_callV (c := 11) (y1 := m_X11_pointBelow) (z1 := (1, 0, 0)) (z2 := (7, 0, 0)) [(0, l2)] 73 rfl ml_1599 ok_X11_pointBelow vk_X11_pointBelow ⟨by decide, rfl⟩ rfl ⟨rfl, Nat.le_of_ble_eq_true rfl⟩ (Nat.le_of_ble_eq_true rfl) ⟨by decide, rfl, rfl, rfl⟩ ?_
            refine h.mono (fun r zM24 h => ?_)
            obtain ⟨zr25, rfl, h⟩ := h
            simp only [Option.toList_some, Option.toList_none, List.cons_append, List.nil_append]
            replace h := h _ rfl
            refine i_putL (c := 11) (k := 31) 74 rfl fl_1080 (by decide) ⟨rfl, rfl, rfl⟩ ?_
            refine i_aload_n 75 rfl rfl (by decide) ?_
            refine i_iload_n 76 rfl rfl ?_
            replace h := h _ rfl
            refine i_putI (c := 11) (k := 32) 77 rfl fl_1081 (by decide) ⟨rfl, rfl, rfl⟩ ?_
            replace h := h _ rfl
            refine i_iinc 78 rfl rfl (by decide) rfl ?_
            refine i_goto 21 79 rfl (by decide) ?_
            exact h
          · replace h := h.2 c
            refine i_goto 138 54 rfl (by decide) ?_
            replace h := h _ rfl
            refine i_iinc 78 rfl rfl (by decide) rfl ?_
            refine i_goto 21 79 rfl (by decide) ?_
            exact h
      · replace h := h.2 c
        refine i_iload_n 26 rfl rfl ?_
        refine i_aload_n 27 rfl rfl (by decide) ?_
        refine i_getI (c := 11) (k := 25) 28 rfl fl_1074 (by decide) (by decide) ?_
        refine i_iconst 29 rfl (by decide) ?_
        refine i_iadd 30 rfl ?_
        refine i_icmp_ne 53 31 rfl (by decide) (fun c => ?_) (fun c => ?_)
        · replace h := h.1 c
          refine i_aload_n 33 rfl rfl (by decide) ?_
          refine i_aload_n 34 rfl rfl (by decide) ?_
          refine i_iload_n 35 rfl rfl ?_
          refine i_callV (c := 11) (y1 := m_X11_pointAbove) (z1 := (1, 0, 0)) (z2 := (7, 0, 0)) [(0, l2)] 36 rfl ml_1595 ok_X11_pointAbove vk_X11_pointAbove ⟨by decide, rfl⟩ rfl ⟨rfl, Nat.le_of_ble_eq_true rfl⟩ (Nat.le_of_ble_eq_true rfl) ⟨by decide, rfl, rfl, rfl⟩ ?_
          refine h.mono (fun r zM30 h => ?_)
          obtain ⟨zr31, rfl, h⟩ := h
          simp only [Option.toList_some, Option.toList_none, List.cons_append, List.nil_append]
          refine i_aload_n 37 rfl rfl (by decide) ?_
          refine i_iload_n 38 rfl rfl ?_
          refine i_callV (c := 11) (y1 := m_X11_pointBelow) (z1 := (1, 0, 0)) (z2 := (7, 0, 0)) [(0, l2)] 39 rfl ml_1599 ok_X11_pointBelow vk_X11_pointBelow ⟨by decide, rfl⟩ rfl ⟨rfl, Nat.le_of_ble_eq_true rfl⟩ (Nat.le_of_ble_eq_true rfl) ⟨by decide, rfl, rfl, rfl⟩ ?_
          refine h.mono (fun r zM32 h => ?_)
          obtain ⟨zr33, rfl, h⟩ := h
          simp only [Option.toList_some, Option.toList_none, List.cons_append, List.nil_append]
          refine i_iload_n 40 rfl rfl ?_
          refine i_callV (c := 11) (y1 := m_X11_totals) (z1 := (5, 0, 0)) (z2 := (7, 0, 0)) [(1, zr31), (1, zr33), (0, l3)] 41 rfl ml_1429 ok_X11_totals vk_X11_totals ⟨by decide, rfl⟩ rfl ⟨rfl, Nat.le_of_ble_eq_true rfl⟩ (Nat.le_of_ble_eq_true rfl) ⟨by decide, rfl, rfl, rfl⟩ ?_
          refine h.mono (fun r zM34 h => ?_)
          obtain ⟨rfl, h⟩ := h
          simp only [Option.toList_some, Option.toList_none, List.cons_append, List.nil_append]
          refine i_iload_n 42 rfl rfl ?_
          refine i_if_ne 97 43 rfl (by decide) (fun c => ?_) (fun c => ?_)
          · replace h := h.1 c
            refine i_iconst 55 rfl (by decide) ?_
            refine i_istore_n 56 rfl (by decide) rfl ?_
            refine i_aload_n 57 rfl rfl (by decide) ?_
            refine i_aload_n 58 rfl rfl (by decide) ?_
            refine i_getL (c := 11) (k := 15) 59 rfl fl_1064 (by decide) rfl ?_
            replace h := h _ rfl
            refine i_putL (c := 11) (k := 28) 60 rfl fl_1077 (by decide) ⟨rfl, rfl, rfl⟩ ?_
            refine i_aload_n 61 rfl rfl (by decide) ?_
            refine i_aload_n 62 rfl rfl (by decide) ?_
            refine i_getL (c := 11) (k := 16) 63 rfl fl_1065 (by decide) rfl ?_
            replace h := h _ rfl
            refine i_putL (c := 11) (k := 29) 64 rfl fl_1078 (by decide) ⟨rfl, rfl, rfl⟩ ?_
            refine i_aload_n 65 rfl rfl (by decide) ?_
            refine i_aload_n 66 rfl rfl (by decide) ?_
            refine i_iload_n 67 rfl rfl ?_
            refine i_callV (c := 11) (y1 := m_X11_pointAbove) (z1 := (1, 0, 0)) (z2 := (7, 0, 0)) [(0, l2)] 68 rfl ml_1595 ok_X11_pointAbove vk_X11_pointAbove ⟨by decide, rfl⟩ rfl ⟨rfl, Nat.le_of_ble_eq_true rfl⟩ (Nat.le_of_ble_eq_true rfl) ⟨by decide, rfl, rfl, rfl⟩ ?_
            refine h.mono (fun r zM37 h => ?_)
            obtain ⟨zr38, rfl, h⟩ := h
            simp only [Option.toList_some, Option.toList_none, List.cons_append, List.nil_append]
            replace h := h _ rfl
            refine i_putL (c := 11) (k := 30) 69 rfl fl_1079 (by decide) ⟨rfl, rfl, rfl⟩ ?_
            refine i_aload_n 70 rfl rfl (by decide) ?_
            refine i_aload_n 71 rfl rfl (by decide) ?_
            refine i_iload_n 72 rfl rfl ?_
            refine i_callV (c := 11) (y1 := m_X11_pointBelow) (z1 := (1, 0, 0)) (z2 := (7, 0, 0)) [(0, l2)] 73 rfl ml_1599 ok_X11_pointBelow vk_X11_pointBelow ⟨by decide, rfl⟩ rfl ⟨rfl, Nat.le_of_ble_eq_true rfl⟩ (Nat.le_of_ble_eq_true rfl) ⟨by decide, rfl, rfl, rfl⟩ ?_
            refine h.mono (fun r zM40 h => ?_)
            obtain ⟨zr41, rfl, h⟩ := h
            simp only [Option.toList_some, Option.toList_none, List.cons_append, List.nil_append]
            replace h := h _ rfl
            refine i_putL (c := 11) (k := 31) 74 rfl fl_1080 (by decide) ⟨rfl, rfl, rfl⟩ ?_
            refine i_aload_n 75 rfl rfl (by decide) ?_
            refine i_iload_n 76 rfl rfl ?_
            replace h := h _ rfl
            refine i_putI (c := 11) (k := 32) 77 rfl fl_1081 (by decide) ⟨rfl, rfl, rfl⟩ ?_
            replace h := h _ rfl
            refine i_iinc 78 rfl rfl (by decide) rfl ?_
            refine i_goto 21 79 rfl (by decide) ?_
            exact h
          · replace h := h.2 c
            refine i_aload_n 44 rfl rfl (by decide) ?_
            refine i_getL (c := 11) (k := 15) 45 rfl fl_1064 (by decide) rfl ?_
            refine i_aload_n 46 rfl rfl (by decide) ?_
            refine i_getL (c := 11) (k := 16) 47 rfl fl_1065 (by decide) rfl ?_
            refine i_aload_n 48 rfl rfl (by decide) ?_
            refine i_getL (c := 11) (k := 28) 49 rfl fl_1077 (by decide) rfl ?_
            refine i_aload_n 50 rfl rfl (by decide) ?_
            refine i_getL (c := 11) (k := 29) 51 rfl fl_1078 (by decide) rfl ?_
            refine i_callS (y1 := m_X11_compare) (z1 := (2, 0, 0)) (z2 := (7, 0, 0)) [(1, (zM34 103 15)), (1, (zM34 103 16)), (1, (zM34 103 28)), (1, (zM34 103 29))] 52 rfl ml_1558 ok_X11_compare vk_X11_compare rfl ⟨rfl, Nat.le_of_ble_eq_true rfl⟩ (Nat.le_of_ble_eq_true rfl) ⟨by decide, rfl, rfl, rfl⟩ ?_
            refine h.mono (fun r zM45 h => ?_)
            obtain ⟨zr46, rfl, h⟩ := h
            simp only [Option.toList_some, Option.toList_none, List.cons_append, List.nil_append]
            refine i_if_gt 97 53 rfl (by decide) (fun c => ?_) (fun c => ?_)
            · replace h := h.1 c
              refine i_iconst 55 rfl (by decide) ?_
              refine i_istore_n 56 rfl (by decide) rfl ?_
              refine i_aload_n 57 rfl rfl (by decide) ?_
              refine i_aload_n 58 rfl rfl (by decide) ?_
              refine i_getL (c := 11) (k := 15) 59 rfl fl_1064 (by decide) rfl ?_
              replace h := h _ rfl
              refine i_putL (c := 11) (k := 28) 60 rfl fl_1077 (by decide) ⟨rfl, rfl, rfl⟩ ?_
              refine i_aload_n 61 rfl rfl (by decide) ?_
              refine i_aload_n 62 rfl rfl (by decide) ?_
              refine i_getL (c := 11) (k := 16) 63 rfl fl_1065 (by decide) rfl ?_
              replace h := h _ rfl
              refine i_putL (c := 11) (k := 29) 64 rfl fl_1078 (by decide) ⟨rfl, rfl, rfl⟩ ?_
              refine i_aload_n 65 rfl rfl (by decide) ?_
              refine i_aload_n 66 rfl rfl (by decide) ?_
              refine i_iload_n 67 rfl rfl ?_
              refine i_callV (c := 11) (y1 := m_X11_pointAbove) (z1 := (1, 0, 0)) (z2 := (7, 0, 0)) [(0, l2)] 68 rfl ml_1595 ok_X11_pointAbove vk_X11_pointAbove ⟨by decide, rfl⟩ rfl ⟨rfl, Nat.le_of_ble_eq_true rfl⟩ (Nat.le_of_ble_eq_true rfl) ⟨by decide, rfl, rfl, rfl⟩ ?_
              refine h.mono (fun r zM49 h => ?_)
              obtain ⟨zr50, rfl, h⟩ := h
              simp only [Option.toList_some, Option.toList_none, List.cons_append, List.nil_append]
              replace h := h _ rfl
              refine i_putL (c := 11) (k := 30) 69 rfl fl_1079 (by decide) ⟨rfl, rfl, rfl⟩ ?_
              refine i_aload_n 70 rfl rfl (by decide) ?_
              refine i_aload_n 71 rfl rfl (by decide) ?_
              refine i_iload_n 72 rfl rfl ?_
              refine i_callV (c := 11) (y1 := m_X11_pointBelow) (z1 := (1, 0, 0)) (z2 := (7, 0, 0)) [(0, l2)] 73 rfl ml_1599 ok_X11_pointBelow vk_X11_pointBelow ⟨by decide, rfl⟩ rfl ⟨rfl, Nat.le_of_ble_eq_true rfl⟩ (Nat.le_of_ble_eq_true rfl) ⟨by decide, rfl, rfl, rfl⟩ ?_
              refine h.mono (fun r zM52 h => ?_)
              obtain ⟨zr53, rfl, h⟩ := h
              simp only [Option.toList_some, Option.toList_none, List.cons_append, List.nil_append]
              replace h := h _ rfl
              refine i_putL (c := 11) (k := 31) 74 rfl fl_1080 (by decide) ⟨rfl, rfl, rfl⟩ ?_
              refine i_aload_n 75 rfl rfl (by decide) ?_
              refine i_iload_n 76 rfl rfl ?_
              replace h := h _ rfl
              refine i_putI (c := 11) (k := 32) 77 rfl fl_1081 (by decide) ⟨rfl, rfl, rfl⟩ ?_
              replace h := h _ rfl
              refine i_iinc 78 rfl rfl (by decide) rfl ?_
              refine i_goto 21 79 rfl (by decide) ?_
              exact h
            · replace h := h.2 c
              refine i_goto 138 54 rfl (by decide) ?_
              replace h := h _ rfl
              refine i_iinc 78 rfl rfl (by decide) rfl ?_
              refine i_goto 21 79 rfl (by decide) ?_
              exact h
        · replace h := h.2 c
          refine i_goto 138 32 rfl (by decide) ?_
          replace h := h _ rfl
          refine i_iinc 78 rfl rfl (by decide) rfl ?_
          refine i_goto 21 79 rfl (by decide) ?_
          exact h
    · replace h := h.2 c
      refine i_iload_n 21 rfl rfl ?_
      refine i_if_eq 138 22 rfl (by decide) (fun c => ?_) (fun c => ?_)
      · replace h := h.1 c
        replace h := h _ rfl
        refine i_iinc 78 rfl rfl (by decide) rfl ?_
        refine i_goto 21 79 rfl (by decide) ?_
        exact h
      · replace h := h.2 c
        refine i_iload_n 23 rfl rfl ?_
        refine i_iconst 24 rfl (by decide) ?_
        refine i_icmp_ne 53 25 rfl (by decide) (fun c => ?_) (fun c => ?_)
        · refine i_aload_n 33 rfl rfl (by decide) ?_
          refine i_aload_n 34 rfl rfl (by decide) ?_
          refine i_iload_n 35 rfl rfl ?_
          refine i_callV (c := 11) (y1 := m_X11_pointAbove) (z1 := (1, 0, 0)) (z2 := (7, 0, 0)) [(0, l2)] 36 rfl ml_1595 ok_X11_pointAbove vk_X11_pointAbove ⟨by decide, rfl⟩ rfl ⟨rfl, Nat.le_of_ble_eq_true rfl⟩ (Nat.le_of_ble_eq_true rfl) ⟨by decide, rfl, rfl, rfl⟩ ?_
          refine h.mono (fun r zM60 h => ?_)
          obtain ⟨zr61, rfl, h⟩ := h
          simp only [Option.toList_some, Option.toList_none, List.cons_append, List.nil_append]
          refine i_aload_n 37 rfl rfl (by decide) ?_
          refine i_iload_n 38 rfl rfl ?_
          refine i_callV (c := 11) (y1 := m_X11_pointBelow) (z1 := (1, 0, 0)) (z2 := (7, 0, 0)) [(0, l2)] 39 rfl ml_1599 ok_X11_pointBelow vk_X11_pointBelow ⟨by decide, rfl⟩ rfl ⟨rfl, Nat.le_of_ble_eq_true rfl⟩ (Nat.le_of_ble_eq_true rfl) ⟨by decide, rfl, rfl, rfl⟩ ?_
          refine h.mono (fun r zM62 h => ?_)
          obtain ⟨zr63, rfl, h⟩ := h
          simp only [Option.toList_some, Option.toList_none, List.cons_append, List.nil_append]
          refine i_iload_n 40 rfl rfl ?_
          refine i_callV (c := 11) (y1 := m_X11_totals) (z1 := (5, 0, 0)) (z2 := (7, 0, 0)) [(1, zr61), (1, zr63), (0, l3)] 41 rfl ml_1429 ok_X11_totals vk_X11_totals ⟨by decide, rfl⟩ rfl ⟨rfl, Nat.le_of_ble_eq_true rfl⟩ (Nat.le_of_ble_eq_true rfl) ⟨by decide, rfl, rfl, rfl⟩ ?_
          refine h.mono (fun r zM64 h => ?_)
          obtain ⟨rfl, h⟩ := h
          simp only [Option.toList_some, Option.toList_none, List.cons_append, List.nil_append]
          refine i_iload_n 42 rfl rfl ?_
          refine i_if_ne 97 43 rfl (by decide) (fun c => ?_) (fun c => ?_)
          · replace h := h.1 c
            refine i_iconst 55 rfl (by decide) ?_
            refine i_istore_n 56 rfl (by decide) rfl ?_
            refine i_aload_n 57 rfl rfl (by decide) ?_
            refine i_aload_n 58 rfl rfl (by decide) ?_
            refine i_getL (c := 11) (k := 15) 59 rfl fl_1064 (by decide) rfl ?_
            replace h := h _ rfl
            refine i_putL (c := 11) (k := 28) 60 rfl fl_1077 (by decide) ⟨rfl, rfl, rfl⟩ ?_
            refine i_aload_n 61 rfl rfl (by decide) ?_
            refine i_aload_n 62 rfl rfl (by decide) ?_
            refine i_getL (c := 11) (k := 16) 63 rfl fl_1065 (by decide) rfl ?_
            replace h := h _ rfl
            refine i_putL (c := 11) (k := 29) 64 rfl fl_1078 (by decide) ⟨rfl, rfl, rfl⟩ ?_
            refine i_aload_n 65 rfl rfl (by decide) ?_
            refine i_aload_n 66 rfl rfl (by decide) ?_
            refine i_iload_n 67 rfl rfl ?_
            refine i_callV (c := 11) (y1 := m_X11_pointAbove) (z1 := (1, 0, 0)) (z2 := (7, 0, 0)) [(0, l2)] 68 rfl ml_1595 ok_X11_pointAbove vk_X11_pointAbove ⟨by decide, rfl⟩ rfl ⟨rfl, Nat.le_of_ble_eq_true rfl⟩ (Nat.le_of_ble_eq_true rfl) ⟨by decide, rfl, rfl, rfl⟩ ?_
            refine h.mono (fun r zM67 h => ?_)
            obtain ⟨zr68, rfl, h⟩ := h
            simp only [Option.toList_some, Option.toList_none, List.cons_append, List.nil_append]
            replace h := h _ rfl
            refine i_putL (c := 11) (k := 30) 69 rfl fl_1079 (by decide) ⟨rfl, rfl, rfl⟩ ?_
            refine i_aload_n 70 rfl rfl (by decide) ?_
            refine i_aload_n 71 rfl rfl (by decide) ?_
            refine i_iload_n 72 rfl rfl ?_
            refine i_callV (c := 11) (y1 := m_X11_pointBelow) (z1 := (1, 0, 0)) (z2 := (7, 0, 0)) [(0, l2)] 73 rfl ml_1599 ok_X11_pointBelow vk_X11_pointBelow ⟨by decide, rfl⟩ rfl ⟨rfl, Nat.le_of_ble_eq_true rfl⟩ (Nat.le_of_ble_eq_true rfl) ⟨by decide, rfl, rfl, rfl⟩ ?_
            refine h.mono (fun r zM70 h => ?_)
            obtain ⟨zr71, rfl, h⟩ := h
            simp only [Option.toList_some, Option.toList_none, List.cons_append, List.nil_append]
            replace h := h _ rfl
            refine i_putL (c := 11) (k := 31) 74 rfl fl_1080 (by decide) ⟨rfl, rfl, rfl⟩ ?_
            refine i_aload_n 75 rfl rfl (by decide) ?_
            refine i_iload_n 76 rfl rfl ?_
            replace h := h _ rfl
            refine i_putI (c := 11) (k := 32) 77 rfl fl_1081 (by decide) ⟨rfl, rfl, rfl⟩ ?_
            replace h := h _ rfl
            refine i_iinc 78 rfl rfl (by decide) rfl ?_
            refine i_goto 21 79 rfl (by decide) ?_
            exact h
          · replace h := h.2 c
            refine i_aload_n 44 rfl rfl (by decide) ?_
            refine i_getL (c := 11) (k := 15) 45 rfl fl_1064 (by decide) rfl ?_
            refine i_aload_n 46 rfl rfl (by decide) ?_
            refine i_getL (c := 11) (k := 16) 47 rfl fl_1065 (by decide) rfl ?_
            refine i_aload_n 48 rfl rfl (by decide) ?_
            refine i_getL (c := 11) (k := 28) 49 rfl fl_1077 (by decide) rfl ?_
            refine i_aload_n 50 rfl rfl (by decide) ?_
            refine i_getL (c := 11) (k := 29) 51 rfl fl_1078 (by decide) rfl ?_
            refine i_callS (y1 := m_X11_compare) (z1 := (2, 0, 0)) (z2 := (7, 0, 0)) [(1, (zM64 103 15)), (1, (zM64 103 16)), (1, (zM64 103 28)), (1, (zM64 103 29))] 52 rfl ml_1558 ok_X11_compare vk_X11_compare rfl ⟨rfl, Nat.le_of_ble_eq_true rfl⟩ (Nat.le_of_ble_eq_true rfl) ⟨by decide, rfl, rfl, rfl⟩ ?_
            refine h.mono (fun r zM75 h => ?_)
            obtain ⟨zr76, rfl, h⟩ := h
            simp only [Option.toList_some, Option.toList_none, List.cons_append, List.nil_append]
            refine i_if_gt 97 53 rfl (by decide) (fun c => ?_) (fun c => ?_)
            · replace h := h.1 c
              refine i_iconst 55 rfl (by decide) ?_
              refine i_istore_n 56 rfl (by decide) rfl ?_
              refine i_aload_n 57 rfl rfl (by decide) ?_
              refine i_aload_n 58 rfl rfl (by decide) ?_
              refine i_getL (c := 11) (k := 15) 59 rfl fl_1064 (by decide) rfl ?_
              replace h := h _ rfl
              refine i_putL (c := 11) (k := 28) 60 rfl fl_1077 (by decide) ⟨rfl, rfl, rfl⟩ ?_
              refine i_aload_n 61 rfl rfl (by decide) ?_
              refine i_aload_n 62 rfl rfl (by decide) ?_
              refine i_getL (c := 11) (k := 16) 63 rfl fl_1065 (by decide) rfl ?_
              replace h := h _ rfl
              refine i_putL (c := 11) (k := 29) 64 rfl fl_1078 (by decide) ⟨rfl, rfl, rfl⟩ ?_
              refine i_aload_n 65 rfl rfl (by decide) ?_
              refine i_aload_n 66 rfl rfl (by decide) ?_
              refine i_iload_n 67 rfl rfl ?_
              refine i_callV (c := 11) (y1 := m_X11_pointAbove) (z1 := (1, 0, 0)) (z2 := (7, 0, 0)) [(0, l2)] 68 rfl ml_1595 ok_X11_pointAbove vk_X11_pointAbove ⟨by decide, rfl⟩ rfl ⟨rfl, Nat.le_of_ble_eq_true rfl⟩ (Nat.le_of_ble_eq_true rfl) ⟨by decide, rfl, rfl, rfl⟩ ?_
              refine h.mono (fun r zM79 h => ?_)
              obtain ⟨zr80, rfl, h⟩ := h
              simp only [Option.toList_some, Option.toList_none, List.cons_append, List.nil_append]
              replace h := h _ rfl
              refine i_putL (c := 11) (k := 30) 69 rfl fl_1079 (by decide) ⟨rfl, rfl, rfl⟩ ?_
              refine i_aload_n 70 rfl rfl (by decide) ?_
              refine i_aload_n 71 rfl rfl (by decide) ?_
              refine i_iload_n 72 rfl rfl ?_
              refine i_callV (c := 11) (y1 := m_X11_pointBelow) (z1 := (1, 0, 0)) (z2 := (7, 0, 0)) [(0, l2)] 73 rfl ml_1599 ok_X11_pointBelow vk_X11_pointBelow ⟨by decide, rfl⟩ rfl ⟨rfl, Nat.le_of_ble_eq_true rfl⟩ (Nat.le_of_ble_eq_true rfl) ⟨by decide, rfl, rfl, rfl⟩ ?_
              refine h.mono (fun r zM82 h => ?_)
              obtain ⟨zr83, rfl, h⟩ := h
              simp only [Option.toList_some, Option.toList_none, List.cons_append, List.nil_append]
              replace h := h _ rfl
              refine i_putL (c := 11) (k := 31) 74 rfl fl_1080 (by decide) ⟨rfl, rfl, rfl⟩ ?_
              refine i_aload_n 75 rfl rfl (by decide) ?_
              refine i_iload_n 76 rfl rfl ?_
              replace h := h _ rfl
              refine i_putI (c := 11) (k := 32) 77 rfl fl_1081 (by decide) ⟨rfl, rfl, rfl⟩ ?_
              replace h := h _ rfl
              refine i_iinc 78 rfl rfl (by decide) rfl ?_
              refine i_goto 21 79 rfl (by decide) ?_
              exact h
            · replace h := h.2 c
              refine i_goto 138 54 rfl (by decide) ?_
              replace h := h _ rfl
              refine i_iinc 78 rfl rfl (by decide) rfl ?_
              refine i_goto 21 79 rfl (by decide) ?_
              exact h
        · exact absurd c (by omega)
theorem u_X11_begins_0 {l : Launch} {E : xE} {M : xM} {Q : Option xV → xM → Prop} (h : ∀ zM1 : xM, zM1 = x_wr M 103 39 (-1) → Q none zM1) : x_Ev l E (1, 0, 0) m_X11_begins 0 [(21, 103)] [] M Q := by
  refine i_aload_n 0 rfl rfl (by decide) ?_
  refine i_iconst 1 rfl (by decide) ?_
  replace h := h _ rfl
  refine i_putI (c := 11) (k := 39) 2 rfl fl_1088 (by decide) ⟨rfl, rfl, rfl⟩ ?_
  exact i_return 3 rfl rfl h
theorem u_X11_tries_0 {l : Launch} {E : xE} (a1 : Int) {M : xM} {Q : Option xV → xM → Prop} (h : ((M 103 39) < 0 → ∀ zM1 : xM, zM1 = x_wr M 103 39 a1 → ∀ zM2 : xM, zM2 = x_wr zM1 103 37 (zM1 103 28) → ∀ zM3 : xM, zM3 = x_wr zM2 103 38 (zM2 103 29) → Q none zM3) ∧ (¬ (M 103 39) < 0 → x_Ev l E (2, 0, 0) m_X11_compare 0 [(1, (M 103 28)), (5, 0), (1, (M 103 29)), (5, 0), (1, (M 103 37)), (5, 0), (1, (M 103 38)), (5, 0), (5, 0), (5, 0), (5, 0), (5, 0), (5, 0), (5, 0), (5, 0), (5, 0), (5, 0), (5, 0), (5, 0), (5, 0), (5, 0), (5, 0), (5, 0), (5, 0), (5, 0)] [] M (fun r zM4 => ∃ zr5, r = some (0, zr5) ∧ (0 < zr5 → ∀ zM6 : xM, zM6 = x_wr zM4 103 39 a1 → ∀ zM7 : xM, zM7 = x_wr zM6 103 37 (zM6 103 28) → ∀ zM8 : xM, zM8 = x_wr zM7 103 38 (zM7 103 29) → Q none zM8) ∧ (¬ 0 < zr5 → Q none zM4)))) : x_Ev l E (3, 0, 0) m_X11_tries 0 [(21, 103), (0, a1)] [] M Q := by
  refine i_aload_n 0 rfl rfl (by decide) ?_
  refine i_getI (c := 11) (k := 39) 1 rfl fl_1088 (by decide) (by decide) ?_
  refine i_if_lt 30 2 rfl (by decide) (fun c => ?_) (fun c => ?_)
  · replace h := h.1 c
    refine i_aload_n 14 rfl rfl (by decide) ?_
    refine i_iload_n 15 rfl rfl ?_
    replace h := h _ rfl
    refine i_putI (c := 11) (k := 39) 16 rfl fl_1088 (by decide) ⟨rfl, rfl, rfl⟩ ?_
    refine i_aload_n 17 rfl rfl (by decide) ?_
    refine i_aload_n 18 rfl rfl (by decide) ?_
    refine i_getL (c := 11) (k := 28) 19 rfl fl_1077 (by decide) rfl ?_
    replace h := h _ rfl
    refine i_putL (c := 11) (k := 37) 20 rfl fl_1086 (by decide) ⟨rfl, rfl, rfl⟩ ?_
    refine i_aload_n 21 rfl rfl (by decide) ?_
    refine i_aload_n 22 rfl rfl (by decide) ?_
    refine i_getL (c := 11) (k := 29) 23 rfl fl_1078 (by decide) rfl ?_
    replace h := h _ rfl
    refine i_putL (c := 11) (k := 38) 24 rfl fl_1087 (by decide) ⟨rfl, rfl, rfl⟩ ?_
    exact i_return 25 rfl rfl h
  · replace h := h.2 c
    refine i_aload_n 3 rfl rfl (by decide) ?_
    refine i_getL (c := 11) (k := 28) 4 rfl fl_1077 (by decide) rfl ?_
    refine i_aload_n 5 rfl rfl (by decide) ?_
    refine i_getL (c := 11) (k := 29) 6 rfl fl_1078 (by decide) rfl ?_
    refine i_aload_n 7 rfl rfl (by decide) ?_
    refine i_getL (c := 11) (k := 37) 8 rfl fl_1086 (by decide) rfl ?_
    refine i_aload_n 9 rfl rfl (by decide) ?_
    refine i_getL (c := 11) (k := 38) 10 rfl fl_1087 (by decide) rfl ?_
    refine i_callS (y1 := m_X11_compare) (z1 := (2, 0, 0)) (z2 := (3, 0, 0)) [(1, (M 103 28)), (1, (M 103 29)), (1, (M 103 37)), (1, (M 103 38))] 11 rfl ml_1558 ok_X11_compare vk_X11_compare rfl ⟨rfl, Nat.le_of_ble_eq_true rfl⟩ (Nat.le_of_ble_eq_true rfl) ⟨by decide, rfl, rfl, rfl⟩ ?_
    refine h.mono (fun r zM4 h => ?_)
    obtain ⟨zr5, rfl, h⟩ := h
    simp only [Option.toList_some, Option.toList_none, List.cons_append, List.nil_append]
    refine i_if_gt 30 12 rfl (by decide) (fun c => ?_) (fun c => ?_)
    · replace h := h.1 c
      refine i_aload_n 14 rfl rfl (by decide) ?_
      refine i_iload_n 15 rfl rfl ?_
      replace h := h _ rfl
      refine i_putI (c := 11) (k := 39) 16 rfl fl_1088 (by decide) ⟨rfl, rfl, rfl⟩ ?_
      refine i_aload_n 17 rfl rfl (by decide) ?_
      refine i_aload_n 18 rfl rfl (by decide) ?_
      refine i_getL (c := 11) (k := 28) 19 rfl fl_1077 (by decide) rfl ?_
      replace h := h _ rfl
      refine i_putL (c := 11) (k := 37) 20 rfl fl_1086 (by decide) ⟨rfl, rfl, rfl⟩ ?_
      refine i_aload_n 21 rfl rfl (by decide) ?_
      refine i_aload_n 22 rfl rfl (by decide) ?_
      refine i_getL (c := 11) (k := 29) 23 rfl fl_1078 (by decide) rfl ?_
      replace h := h _ rfl
      refine i_putL (c := 11) (k := 38) 24 rfl fl_1087 (by decide) ⟨rfl, rfl, rfl⟩ ?_
      exact i_return 25 rfl rfl h
    · replace h := h.2 c
      exact i_return 13 rfl rfl h
theorem u_X11_copiesRows_0 {l : Launch} {E : xE} (a1 a2 a3 : Int) {M : xM} {Q : Option xV → xM → Prop} (h : x_Ev l E (1, 0, 0) m_X11_copiesRows 3 [(21, 103), (0, a1), (0, a2), (0, a3), (0, 0), (5, 0)] [] M Q) : x_Ev l E (1, 0, 0) m_X11_copiesRows 0 [(21, 103), (0, a1), (0, a2), (0, a3), (5, 0), (5, 0)] [] M Q := by
  refine i_iconst 0 rfl (by decide) ?_
  refine i_istore 1 rfl (by decide) rfl ?_
  exact h
theorem u_X11_copiesRows_3 {l : Launch} {E : xE} (l1 l2 l3 l4 : Int) {M : xM} {Q : Option xV → xM → Prop} (h : (4 ≤ l4 → (0 ≤ l1 ∧ l1 < 3) ∧ ∀ zM1 : xM, zM1 = x_wr M 107 l1 l3 → Q none zM1) ∧ (¬ 4 ≤ l4 → (l2 = 0 → ((0 : Int) ≤ l1 ∧ (l1 : Int) < 3) ∧ ((0 : Int) ≤ l4 ∧ (l4 : Int) < 4) ∧ (0 ≤ l4 ∧ l4 < 4) ∧ ∀ zM2 : xM, zM2 = x_wr M 327 l4 (M (137 + 1 + 1 * l1) l4) → x_Ev l E (1, 0, 0) m_X11_copiesRows 51 [(21, 103), (0, l1), (0, l2), (0, l3), (0, l4), (0, 0)] [] zM2 Q) ∧ (¬ l2 = 0 → ((0 : Int) ≤ l1 ∧ (l1 : Int) < 3) ∧ ((0 : Int) ≤ l4 ∧ (l4 : Int) < 4) ∧ (0 ≤ l4 ∧ l4 < 4) ∧ ∀ zM3 : xM, zM3 = x_wr M (137 + 1 + 1 * l1) l4 (M 327 l4) → x_Ev l E (1, 0, 0) m_X11_copiesRows 51 [(21, 103), (0, l1), (0, l2), (0, l3), (0, l4), (0, 0)] [] zM3 Q))) : x_Ev l E (1, 0, 0) m_X11_copiesRows 3 [(21, 103), (0, l1), (0, l2), (0, l3), (0, l4), (5, 0)] [] M Q := by
  refine i_iload 2 rfl rfl ?_
  refine i_iconst 3 rfl (by decide) ?_
  refine i_icmp_ge 120 4 rfl (by decide) (fun c => ?_) (fun c => ?_)
  · replace h := h.1 c
    refine i_aload_n 68 rfl rfl (by decide) ?_
    refine i_getP (c := 11) (k := 4) (t := 114) (b := 107) 69 rfl fl_1053 (by decide) rfl (by decide) rfl ?_
    refine i_iload_n 70 rfl rfl ?_
    refine i_iload_n 71 rfl rfl ?_
    have hb := h.1
    replace h := h.2 _ rfl
    refine i_iast (τ := 14) 72 rfl ⟨rfl, rfl, rfl, by decide⟩ hb.1 hb.2 ?_
    exact i_return 73 rfl rfl h
  · replace h := h.2 c
    refine i_iload_n 5 rfl rfl ?_
    refine i_if_eq 32 6 rfl (by decide) (fun c => ?_) (fun c => ?_)
    · replace h := h.1 c
      refine i_aload_n 18 rfl rfl (by decide) ?_
      refine i_getP (c := 11) (k := 40) (t := 103) (b := 327) 19 rfl fl_1089 (by decide) rfl (by decide) rfl ?_
      refine i_iload 20 rfl rfl ?_
      refine i_aload_n 21 rfl rfl (by decide) ?_
      refine i_getP (c := 11) (k := 7) (t := 124) (b := 137) 22 rfl fl_1056 (by decide) rfl (by decide) rfl ?_
      refine i_iload_n 23 rfl rfl ?_
      refine i_aald (τ := 24) (t := 103) (len := 3) (b := (137 + 1 + 1 * l1)) 24 rfl (by decide) rfl h.1.1 h.1.2 ?_
      replace h := h.2
      refine i_iload 25 rfl rfl ?_
      refine i_iald (τ := 3) 26 rfl ⟨rfl, rfl, rfl, by decide⟩ h.1.1 h.1.2 ?_
      replace h := h.2
      have hb := h.1
      replace h := h.2 _ rfl
      refine i_iast (τ := 3) 27 rfl ⟨rfl, rfl, rfl, by decide⟩ hb.1 hb.2 ?_
      refine i_iconst 28 rfl (by decide) ?_
      refine i_istore 29 rfl (by decide) rfl ?_
      exact h
    · replace h := h.2 c
      refine i_aload_n 7 rfl rfl (by decide) ?_
      refine i_getP (c := 11) (k := 7) (t := 124) (b := 137) 8 rfl fl_1056 (by decide) rfl (by decide) rfl ?_
      refine i_iload_n 9 rfl rfl ?_
      refine i_aald (τ := 24) (t := 103) (len := 3) (b := (137 + 1 + 1 * l1)) 10 rfl (by decide) rfl h.1.1 h.1.2 ?_
      replace h := h.2
      refine i_iload 11 rfl rfl ?_
      refine i_aload_n 12 rfl rfl (by decide) ?_
      refine i_getP (c := 11) (k := 40) (t := 103) (b := 327) 13 rfl fl_1089 (by decide) rfl (by decide) rfl ?_
      refine i_iload 14 rfl rfl ?_
      refine i_iald (τ := 3) 15 rfl ⟨rfl, rfl, rfl, by decide⟩ h.1.1 h.1.2 ?_
      replace h := h.2
      have hb := h.1
      replace h := h.2 _ rfl
      refine i_iast (τ := 3) 16 rfl ⟨rfl, rfl, rfl, by decide⟩ hb.1 hb.2 ?_
      refine i_goto 48 17 rfl (by decide) ?_
      refine i_iconst 28 rfl (by decide) ?_
      refine i_istore 29 rfl (by decide) rfl ?_
      exact h
theorem u_X11_copiesRows_51 {l : Launch} {E : xE} (l1 l2 l3 l4 l5 : Int) {M : xM} {Q : Option xV → xM → Prop} (h : (3 ≤ l5 → ∀ zv1 : Int, zv1 = x_w (l4 + 1) → x_Ev l E (1, 0, 0) m_X11_copiesRows 3 [(21, 103), (0, l1), (0, l2), (0, l3), (0, zv1), (5, 0)] [] M Q) ∧ (¬ 3 ≤ l5 → (l2 = 0 → ((0 : Int) ≤ l4 ∧ (l4 : Int) < 4) ∧ ((0 : Int) ≤ l1 ∧ (l1 : Int) < 3) ∧ ((0 : Int) ≤ l4 ∧ (l4 : Int) < 4) ∧ ((0 : Int) ≤ l5 ∧ (l5 : Int) < 3) ∧ (0 ≤ l5 ∧ l5 < 3) ∧ ∀ zM2 : xM, zM2 = x_wr M (328 + 1 + 1 * l4) l5 (M ((121 + 1 + 5 * l1) + 1 + 1 * l4) l5) → ∀ zv3 : Int, zv3 = x_w (l5 + 1) → x_Ev l E (1, 0, 0) m_X11_copiesRows 51 [(21, 103), (0, l1), (0, l2), (0, l3), (0, l4), (0, zv3)] [] zM2 Q) ∧ (¬ l2 = 0 → ((0 : Int) ≤ l1 ∧ (l1 : Int) < 3) ∧ ((0 : Int) ≤ l4 ∧ (l4 : Int) < 4) ∧ ((0 : Int) ≤ l4 ∧ (l4 : Int) < 4) ∧ ((0 : Int) ≤ l5 ∧ (l5 : Int) < 3) ∧ (0 ≤ l5 ∧ l5 < 3) ∧ ∀ zM4 : xM, zM4 = x_wr M ((121 + 1 + 5 * l1) + 1 + 1 * l4) l5 (M (328 + 1 + 1 * l4) l5) → ∀ zv5 : Int, zv5 = x_w (l5 + 1) → x_Ev l E (1, 0, 0) m_X11_copiesRows 51 [(21, 103), (0, l1), (0, l2), (0, l3), (0, l4), (0, zv5)] [] zM4 Q))) : x_Ev l E (1, 0, 0) m_X11_copiesRows 51 [(21, 103), (0, l1), (0, l2), (0, l3), (0, l4), (0, l5)] [] M Q := by
  refine i_iload 30 rfl rfl ?_
  refine i_iconst 31 rfl (by decide) ?_
  refine i_icmp_ge 114 32 rfl (by decide) (fun c => ?_) (fun c => ?_)
  · replace h := h.1 c
    replace h := h _ rfl
    refine i_iinc 66 rfl rfl (by decide) rfl ?_
    refine i_goto 3 67 rfl (by decide) ?_
    refine i_weak ?_ h
    exact (And.intro (Or.inr rfl) (And.intro (Or.inr rfl) (And.intro (Or.inr rfl) (And.intro (Or.inr rfl) (And.intro (Or.inr rfl) (And.intro (Or.inl rfl) trivial))))))
  · replace h := h.2 c
    refine i_iload_n 33 rfl rfl ?_
    refine i_if_eq 86 34 rfl (by decide) (fun c => ?_) (fun c => ?_)
    · replace h := h.1 c
      refine i_aload_n 50 rfl rfl (by decide) ?_
      refine i_getP (c := 11) (k := 41) (t := 122) (b := 328) 51 rfl fl_1090 (by decide) rfl (by decide) rfl ?_
      refine i_iload 52 rfl rfl ?_
      refine i_aald (τ := 22) (t := 114) (len := 4) (b := (328 + 1 + 1 * l4)) 53 rfl (by decide) rfl h.1.1 h.1.2 ?_
      replace h := h.2
      refine i_iload 54 rfl rfl ?_
      refine i_aload_n 55 rfl rfl (by decide) ?_
      refine i_getP (c := 11) (k := 6) (t := 123) (b := 121) 56 rfl fl_1055 (by decide) rfl (by decide) rfl ?_
      refine i_iload_n 57 rfl rfl ?_
      refine i_aald (τ := 23) (t := 122) (len := 3) (b := (121 + 1 + 5 * l1)) 58 rfl (by decide) rfl h.1.1 h.1.2 ?_
      replace h := h.2
      refine i_iload 59 rfl rfl ?_
      refine i_aald (τ := 22) (t := 114) (len := 4) (b := ((121 + 1 + 5 * l1) + 1 + 1 * l4)) 60 rfl (by decide) rfl h.1.1 h.1.2 ?_
      replace h := h.2
      refine i_iload 61 rfl rfl ?_
      refine i_iald (τ := 14) 62 rfl ⟨rfl, rfl, rfl, by decide⟩ h.1.1 h.1.2 ?_
      replace h := h.2
      have hb := h.1
      replace h := h.2 _ rfl
      refine i_iast (τ := 14) 63 rfl ⟨rfl, rfl, rfl, by decide⟩ hb.1 hb.2 ?_
      replace h := h _ rfl
      refine i_iinc 64 rfl rfl (by decide) rfl ?_
      refine i_goto 51 65 rfl (by decide) ?_
      exact h
    · replace h := h.2 c
      refine i_aload_n 35 rfl rfl (by decide) ?_
      refine i_getP (c := 11) (k := 6) (t := 123) (b := 121) 36 rfl fl_1055 (by decide) rfl (by decide) rfl ?_
      refine i_iload_n 37 rfl rfl ?_
      refine i_aald (τ := 23) (t := 122) (len := 3) (b := (121 + 1 + 5 * l1)) 38 rfl (by decide) rfl h.1.1 h.1.2 ?_
      replace h := h.2
      refine i_iload 39 rfl rfl ?_
      refine i_aald (τ := 22) (t := 114) (len := 4) (b := ((121 + 1 + 5 * l1) + 1 + 1 * l4)) 40 rfl (by decide) rfl h.1.1 h.1.2 ?_
      replace h := h.2
      refine i_iload 41 rfl rfl ?_
      refine i_aload_n 42 rfl rfl (by decide) ?_
      refine i_getP (c := 11) (k := 41) (t := 122) (b := 328) 43 rfl fl_1090 (by decide) rfl (by decide) rfl ?_
      refine i_iload 44 rfl rfl ?_
      refine i_aald (τ := 22) (t := 114) (len := 4) (b := (328 + 1 + 1 * l4)) 45 rfl (by decide) rfl h.1.1 h.1.2 ?_
      replace h := h.2
      refine i_iload 46 rfl rfl ?_
      refine i_iald (τ := 14) 47 rfl ⟨rfl, rfl, rfl, by decide⟩ h.1.1 h.1.2 ?_
      replace h := h.2
      have hb := h.1
      replace h := h.2 _ rfl
      refine i_iast (τ := 14) 48 rfl ⟨rfl, rfl, rfl, by decide⟩ hb.1 hb.2 ?_
      refine i_goto 108 49 rfl (by decide) ?_
      replace h := h _ rfl
      refine i_iinc 64 rfl rfl (by decide) rfl ?_
      refine i_goto 51 65 rfl (by decide) ?_
      exact h
theorem u_X11_compare_0 {l : Launch} {E : xE} (a0 a1 a2 a3 : Int) {M : xM} {Q : Option xV → xM → Prop} (h : x_Ev l E (2, 0, 0) m_X11_compare 17 [(1, a0), (5, 0), (1, a1), (5, 0), (1, a2), (5, 0), (1, a3), (5, 0), (1, a0), (5, 0), (1, a1), (5, 0), (1, a2), (5, 0), (1, a3), (5, 0), (0, 1), (5, 0), (5, 0), (5, 0), (5, 0), (5, 0), (5, 0), (5, 0), (5, 0)] [] M Q) : x_Ev l E (2, 0, 0) m_X11_compare 0 [(1, a0), (5, 0), (1, a1), (5, 0), (1, a2), (5, 0), (1, a3), (5, 0), (5, 0), (5, 0), (5, 0), (5, 0), (5, 0), (5, 0), (5, 0), (5, 0), (5, 0), (5, 0), (5, 0), (5, 0), (5, 0), (5, 0), (5, 0), (5, 0), (5, 0)] [] M Q := by
  refine i_lload_n 0 rfl rfl ?_
  refine i_lstore 1 rfl (by decide) rfl ?_
  refine i_lload_n 2 rfl rfl ?_
  refine i_lstore 3 rfl (by decide) rfl ?_
  refine i_lload 4 rfl rfl ?_
  refine i_lstore 5 rfl (by decide) rfl ?_
  refine i_lload 6 rfl rfl ?_
  refine i_lstore 7 rfl (by decide) rfl ?_
  refine i_iconst 8 rfl (by decide) ?_
  refine i_istore 9 rfl (by decide) rfl ?_
  exact h
theorem u_X11_compare_17 {l : Launch} {E : xE} (l0 l2 l4 l6 l8 l10 l12 l14 l16 : Int) {M : xM} {Q : Option xV → xM → Prop} (h : x_Ev l E (1, 0, 0) m_J9_floorDiv_f86c9 0 [(1, l8), (5, 0), (1, l10), (5, 0), (5, 0), (5, 0)] [] M (fun r zM1 => ∃ zr2, r = some (1, zr2) ∧ x_Ev l E (1, 0, 0) m_J9_floorDiv_f86c9 0 [(1, l12), (5, 0), (1, l14), (5, 0), (5, 0), (5, 0)] [] zM1 (fun r zM3 => ∃ zr4, r = some (1, zr4) ∧ (zr2 = zr4 → ∀ zv5 : Int, zv5 = (x_W (l8 - (x_W (zr2 * l10)))) → ∀ zv6 : Int, zv6 = (x_W (l12 - (x_W (zr4 * l14)))) → (zv5 = 0 → (¬ zv5 = zv6 → Q (some (0, (x_w (-l16)))) zM3) ∧ (zv5 = zv6 → Q (some (0, 0)) zM3)) ∧ (¬ zv5 = 0 → (¬ zv6 = 0 → ∀ zv7 : Int, zv7 = (x_w (-l16)) → x_Ev l E (2, 0, 0) m_X11_compare 17 [(1, l0), (5, 0), (1, l2), (5, 0), (1, l4), (5, 0), (1, l6), (5, 0), (1, l10), (5, 0), (1, zv5), (5, 0), (1, l14), (5, 0), (1, zv6), (5, 0), (0, zv7), (5, 0), (5, 0), (5, 0), (5, 0), (5, 0), (5, 0), (5, 0), (5, 0)] [] zM3 Q) ∧ (zv6 = 0 → (¬ zv5 = zv6 → Q (some (0, l16)) zM3) ∧ (zv5 = zv6 → Q (some (0, 0)) zM3)))) ∧ (¬ zr2 = zr4 → (zr4 ≤ zr2 → Q (some (0, l16)) zM3) ∧ (¬ zr4 ≤ zr2 → Q (some (0, (x_w (-l16)))) zM3))))) : x_Ev l E (2, 0, 0) m_X11_compare 17 [(1, l0), (5, 0), (1, l2), (5, 0), (1, l4), (5, 0), (1, l6), (5, 0), (1, l8), (5, 0), (1, l10), (5, 0), (1, l12), (5, 0), (1, l14), (5, 0), (0, l16), (5, 0), (5, 0), (5, 0), (5, 0), (5, 0), (5, 0), (5, 0), (5, 0)] [] M Q := by
  refine i_lload 10 rfl rfl ?_
  refine i_lload 11 rfl rfl ?_
  refine i_callS (y1 := m_J9_floorDiv_f86c9) (z1 := (1, 0, 0)) (z2 := (2, 0, 0)) [(1, l8), (1, l10)] 12 rfl ml_1561 ok_J9_floorDiv_f86c9 vk_J9_floorDiv_f86c9 rfl ⟨rfl, Nat.le_of_ble_eq_true rfl⟩ (Nat.le_of_ble_eq_true rfl) ⟨by decide, rfl, rfl, rfl⟩ ?_
  refine h.mono (fun r zM1 h => ?_)
  obtain ⟨zr2, rfl, h⟩ := h
  simp only [Option.toList_some, Option.toList_none, List.cons_append, List.nil_append]
  refine i_lstore 13 rfl (by decide) rfl ?_
  refine i_lload 14 rfl rfl ?_
  refine i_lload 15 rfl rfl ?_
  refine i_callS (y1 := m_J9_floorDiv_f86c9) (z1 := (1, 0, 0)) (z2 := (2, 0, 0)) [(1, l12), (1, l14)] 16 rfl ml_1561 ok_J9_floorDiv_f86c9 vk_J9_floorDiv_f86c9 rfl ⟨rfl, Nat.le_of_ble_eq_true rfl⟩ (Nat.le_of_ble_eq_true rfl) ⟨by decide, rfl, rfl, rfl⟩ ?_
  refine h.mono (fun r zM3 h => ?_)
  obtain ⟨zr4, rfl, h⟩ := h
  simp only [Option.toList_some, Option.toList_none, List.cons_append, List.nil_append]
  refine i_lstore 17 rfl (by decide) rfl ?_
  refine i_lload 18 rfl rfl ?_
  refine i_lload 19 rfl rfl ?_
  refine i_lcmp_eq 60 20 rfl rfl (by decide) (fun c => ?_) (fun c => ?_)
  · replace h := h.1 c
    refine i_lload 31 rfl rfl ?_
    refine i_lload 32 rfl rfl ?_
    refine i_lload 33 rfl rfl ?_
    refine i_lmul 34 rfl ?_
    refine i_lsub 35 rfl ?_
    replace h := h _ rfl
    refine i_lstore 36 rfl (by decide) rfl ?_
    refine i_lload 37 rfl rfl ?_
    refine i_lload 38 rfl rfl ?_
    refine i_lload 39 rfl rfl ?_
    refine i_lmul 40 rfl ?_
    refine i_lsub 41 rfl ?_
    replace h := h _ rfl
    refine i_lstore 42 rfl (by decide) rfl ?_
    refine i_lload 43 rfl rfl ?_
    refine i_lconst (w := 0) 44 rfl (by decide) ?_
    refine i_lcmp_eq 94 45 rfl rfl (by decide) (fun c => ?_) (fun c => ?_)
    · replace h := h.1 c
      refine i_lload 51 rfl rfl ?_
      refine i_lload 52 rfl rfl ?_
      refine i_lcmp_ne 106 53 rfl rfl (by decide) (fun c => ?_) (fun c => ?_)
      · replace h := h.1 c
        refine i_lload 57 rfl rfl ?_
        refine i_lconst (w := 0) 58 rfl (by decide) ?_
        refine i_lcmp_ne 119 59 rfl rfl (by decide) (fun c => ?_) (fun c => ?_)
        · exact absurd c (by omega)
        · refine i_iload 61 rfl rfl ?_
          refine i_ineg 62 rfl ?_
          refine i_goto 121 63 rfl (by decide) ?_
          exact i_ireturn 65 rfl rfl h
      · replace h := h.2 c
        refine i_iconst 55 rfl (by decide) ?_
        refine i_goto 121 56 rfl (by decide) ?_
        exact i_ireturn 65 rfl rfl h
    · replace h := h.2 c
      refine i_lload 47 rfl rfl ?_
      refine i_lconst (w := 0) 48 rfl (by decide) ?_
      refine i_lcmp_ne 122 49 rfl rfl (by decide) (fun c => ?_) (fun c => ?_)
      · replace h := h.1 c
        refine i_lload 66 rfl rfl ?_
        refine i_lstore 67 rfl (by decide) rfl ?_
        refine i_lload 68 rfl rfl ?_
        refine i_lstore 69 rfl (by decide) rfl ?_
        refine i_lload 70 rfl rfl ?_
        refine i_lstore 71 rfl (by decide) rfl ?_
        refine i_lload 72 rfl rfl ?_
        refine i_lstore 73 rfl (by decide) rfl ?_
        refine i_iload 74 rfl rfl ?_
        refine i_ineg 75 rfl ?_
        replace h := h _ rfl
        refine i_istore 76 rfl (by decide) rfl ?_
        refine i_goto 17 77 rfl (by decide) ?_
        refine i_weak ?_ h
        exact (And.intro (Or.inr rfl) (And.intro (Or.inr rfl) (And.intro (Or.inr rfl) (And.intro (Or.inr rfl) (And.intro (Or.inr rfl) (And.intro (Or.inr rfl) (And.intro (Or.inr rfl) (And.intro (Or.inr rfl) (And.intro (Or.inr rfl) (And.intro (Or.inr rfl) (And.intro (Or.inr rfl) (And.intro (Or.inr rfl) (And.intro (Or.inr rfl) (And.intro (Or.inr rfl) (And.intro (Or.inr rfl) (And.intro (Or.inr rfl) (And.intro (Or.inr rfl) (And.intro (Or.inl rfl) (And.intro (Or.inr rfl) (And.intro (Or.inl rfl) (And.intro (Or.inr rfl) (And.intro (Or.inl rfl) (And.intro (Or.inr rfl) (And.intro (Or.inl rfl) (And.intro (Or.inr rfl) trivial)))))))))))))))))))))))))
      · replace h := h.2 c
        refine i_lload 51 rfl rfl ?_
        refine i_lload 52 rfl rfl ?_
        refine i_lcmp_ne 106 53 rfl rfl (by decide) (fun c => ?_) (fun c => ?_)
        · replace h := h.1 c
          refine i_lload 57 rfl rfl ?_
          refine i_lconst (w := 0) 58 rfl (by decide) ?_
          refine i_lcmp_ne 119 59 rfl rfl (by decide) (fun c => ?_) (fun c => ?_)
          · refine i_iload 64 rfl rfl ?_
            exact i_ireturn 65 rfl rfl h
          · exact absurd c (by omega)
        · replace h := h.2 c
          refine i_iconst 55 rfl (by decide) ?_
          refine i_goto 121 56 rfl (by decide) ?_
          exact i_ireturn 65 rfl rfl h
  · replace h := h.2 c
    refine i_lload 22 rfl rfl ?_
    refine i_lload 23 rfl rfl ?_
    refine i_lcmp_ge 57 24 rfl rfl (by decide) (fun c => ?_) (fun c => ?_)
    · replace h := h.1 c
      refine i_iload 29 rfl rfl ?_
      exact i_ireturn 30 rfl rfl h
    · replace h := h.2 c
      refine i_iload 26 rfl rfl ?_
      refine i_ineg 27 rfl ?_
      refine i_goto 59 28 rfl (by decide) ?_
      exact i_ireturn 30 rfl rfl h
theorem u_X11_totalCut_0 {l : Launch} {E : xE} {M : xM} {Q : Option xV → xM → Prop} (h : x_Ev l E (10, 0, 0) m_X11_plans_ 0 [(21, 103), (5, 0)] [] M (fun r zM1 => r = none ∧ x_Ev l E (5, 0, 0) m_X11_totals 0 [(21, 103), (1, (zM1 103 9)), (5, 0), (1, (zM1 103 10)), (5, 0), (0, 0), (5, 0), (5, 0)] [] zM1 (fun r zM2 => r = none ∧ ((zM2 103 16) ≠ 0) ∧ Q (some (0, (x_w (x_W ((zM2 103 15).tdiv (zM2 103 16)))))) zM2))) : x_Ev l E (11, 0, 0) m_X11_totalCut 0 [(21, 103)] [] M Q := by
  refine i_aload_n 0 rfl rfl (by decide) ?_
  refine i_callV (c := 11) (y1 := m_X11_plans_) (z1 := (10, 0, 0)) (z2 := (11, 0, 0)) [] 1 rfl ml_1425 ok_X11_plans_ vk_X11_plans_ ⟨by decide, rfl⟩ rfl ⟨rfl, Nat.le_of_ble_eq_true rfl⟩ (Nat.le_of_ble_eq_true rfl) ⟨by decide, rfl, rfl, rfl⟩ ?_
  refine h.mono (fun r zM1 h => ?_)
  obtain ⟨rfl, h⟩ := h
  simp only [Option.toList_some, Option.toList_none, List.cons_append, List.nil_append]
  refine i_aload_n 2 rfl rfl (by decide) ?_
  refine i_aload_n 3 rfl rfl (by decide) ?_
  refine i_getL (c := 11) (k := 9) 4 rfl fl_1058 (by decide) rfl ?_
  refine i_aload_n 5 rfl rfl (by decide) ?_
  refine i_getL (c := 11) (k := 10) 6 rfl fl_1059 (by decide) rfl ?_
  refine i_iconst 7 rfl (by decide) ?_
  refine i_callV (c := 11) (y1 := m_X11_totals) (z1 := (5, 0, 0)) (z2 := (11, 0, 0)) [(1, (zM1 103 9)), (1, (zM1 103 10)), (0, 0)] 8 rfl ml_1429 ok_X11_totals vk_X11_totals ⟨by decide, rfl⟩ rfl ⟨rfl, Nat.le_of_ble_eq_true rfl⟩ (Nat.le_of_ble_eq_true rfl) ⟨by decide, rfl, rfl, rfl⟩ ?_
  refine h.mono (fun r zM2 h => ?_)
  obtain ⟨rfl, h⟩ := h
  simp only [Option.toList_some, Option.toList_none, List.cons_append, List.nil_append]
  refine i_aload_n 9 rfl rfl (by decide) ?_
  refine i_getL (c := 11) (k := 15) 10 rfl fl_1064 (by decide) rfl ?_
  refine i_aload_n 11 rfl rfl (by decide) ?_
  refine i_getL (c := 11) (k := 16) 12 rfl fl_1065 (by decide) rfl ?_
  refine i_ldiv 13 rfl h.1 ?_
  replace h := h.2
  refine i_l2i 14 rfl ?_
  exact i_ireturn 15 rfl rfl h
theorem u_X11_isTooMuch_0 {l : Launch} {E : xE} (a1 a2 : Int) {M : xM} {Q : Option xV → xM → Prop} (h : ∀ zv1 : Int, zv1 = (x_W (a1 + a2)) → (0 ≤ (x_lxor a1 zv1) → Q (some (0, 0)) M) ∧ (¬ 0 ≤ (x_lxor a1 zv1) → (0 ≤ (x_lxor a2 zv1) → Q (some (0, 0)) M) ∧ (¬ 0 ≤ (x_lxor a2 zv1) → Q (some (0, 1)) M))) : x_Ev l E (1, 0, 0) m_X11_isTooMuch 0 [(21, 103), (1, a1), (5, 0), (1, a2), (5, 0), (5, 0), (5, 0)] [] M Q := by
  refine i_lload_n 0 rfl rfl ?_
  refine i_lload_n 1 rfl rfl ?_
  refine i_ladd 2 rfl ?_
  replace h := h _ rfl
  refine i_lstore 3 rfl (by decide) rfl ?_
  refine i_lload_n 4 rfl rfl ?_
  refine i_lload 5 rfl rfl ?_
  refine i_lxor 6 rfl ?_
  refine i_lconst (w := 0) 7 rfl (by decide) ?_
  refine i_lcmp_ge 27 8 rfl rfl (by decide) (fun c => ?_) (fun c => ?_)
  · replace h := h.1 c
    refine i_iconst 18 rfl (by decide) ?_
    exact i_zreturn 19 rfl rfl (by decide) h
  · replace h := h.2 c
    refine i_lload_n 10 rfl rfl ?_
    refine i_lload 11 rfl rfl ?_
    refine i_lxor 12 rfl ?_
    refine i_lconst (w := 0) 13 rfl (by decide) ?_
    refine i_lcmp_ge 27 14 rfl rfl (by decide) (fun c => ?_) (fun c => ?_)
    · replace h := h.1 c
      refine i_iconst 18 rfl (by decide) ?_
      exact i_zreturn 19 rfl rfl (by decide) h
    · replace h := h.2 c
      refine i_iconst 16 rfl (by decide) ?_
      refine i_goto 28 17 rfl (by decide) ?_
      exact i_zreturn 19 rfl rfl (by decide) h
theorem u_X11_isTimesTooMuch_0 {l : Launch} {E : xE} (a1 a2 : Int) {M : xM} {Q : Option xV → xM → Prop} (h : (a1 = 0 → Q (some (0, 0)) M) ∧ (¬ a1 = 0 → (¬ a2 = 0 → ∀ zv1 : Int, zv1 = (x_W (a1 * a2)) → (¬ a1 = (-1) → (¬ a2 = (-1) → (a2 ≠ 0) ∧ ((x_W (zv1.tdiv a2)) = a1 → Q (some (0, 0)) M) ∧ (¬ (x_W (zv1.tdiv a2)) = a1 → Q (some (0, 1)) M)) ∧ (a2 = (-1) → (a1 = (-9223372036854775808) → Q (some (0, 1)) M) ∧ (¬ a1 = (-9223372036854775808) → (a2 ≠ 0) ∧ ((x_W (zv1.tdiv a2)) = a1 → Q (some (0, 0)) M) ∧ (¬ (x_W (zv1.tdiv a2)) = a1 → Q (some (0, 1)) M)))) ∧ (a1 = (-1) → (a2 = (-9223372036854775808) → Q (some (0, 1)) M) ∧ (¬ a2 = (-9223372036854775808) → (¬ a2 = (-1) → (a2 ≠ 0) ∧ ((x_W (zv1.tdiv a2)) = a1 → Q (some (0, 0)) M) ∧ (¬ (x_W (zv1.tdiv a2)) = a1 → Q (some (0, 1)) M)) ∧ (a2 = (-1) → (a2 ≠ 0) ∧ ((x_W (zv1.tdiv a2)) = a1 → Q (some (0, 0)) M) ∧ (¬ (x_W (zv1.tdiv a2)) = a1 → Q (some (0, 1)) M))))) ∧ (a2 = 0 → Q (some (0, 0)) M))) : x_Ev l E (1, 0, 0) m_X11_isTimesTooMuch 0 [(21, 103), (1, a1), (5, 0), (1, a2), (5, 0), (5, 0), (5, 0)] [] M Q := by
  refine i_lload_n 0 rfl rfl ?_
  refine i_lconst (w := 0) 1 rfl (by decide) ?_
  refine i_lcmp_eq 12 2 rfl rfl (by decide) (fun c => ?_) (fun c => ?_)
  · replace h := h.1 c
    refine i_iconst 8 rfl (by decide) ?_
    exact i_zreturn 9 rfl rfl (by decide) h
  · replace h := h.2 c
    refine i_lload_n 4 rfl rfl ?_
    refine i_lconst (w := 0) 5 rfl (by decide) ?_
    refine i_lcmp_ne 14 6 rfl rfl (by decide) (fun c => ?_) (fun c => ?_)
    · replace h := h.1 c
      refine i_lload_n 10 rfl rfl ?_
      refine i_lload_n 11 rfl rfl ?_
      refine i_lmul 12 rfl ?_
      replace h := h _ rfl
      refine i_lstore 13 rfl (by decide) rfl ?_
      refine i_lload_n 14 rfl rfl ?_
      refine i_ldc2 (v := (-1)) 15 rfl cw_1420 (by decide) ?_
      refine i_lcmp_ne 35 16 rfl rfl (by decide) (fun c => ?_) (fun c => ?_)
      · replace h := h.1 c
        refine i_lload_n 22 rfl rfl ?_
        refine i_ldc2 (v := (-1)) 23 rfl cw_1420 (by decide) ?_
        refine i_lcmp_ne 51 24 rfl rfl (by decide) (fun c => ?_) (fun c => ?_)
        · replace h := h.1 c
          refine i_lload 30 rfl rfl ?_
          refine i_lload_n 31 rfl rfl ?_
          refine i_ldiv 32 rfl h.1 ?_
          replace h := h.2
          refine i_lload_n 33 rfl rfl ?_
          refine i_lcmp_eq 64 34 rfl rfl (by decide) (fun c => ?_) (fun c => ?_)
          · replace h := h.1 c
            refine i_iconst 38 rfl (by decide) ?_
            exact i_zreturn 39 rfl rfl (by decide) h
          · replace h := h.2 c
            refine i_iconst 36 rfl (by decide) ?_
            refine i_goto 65 37 rfl (by decide) ?_
            exact i_zreturn 39 rfl rfl (by decide) h
        · replace h := h.2 c
          refine i_lload_n 26 rfl rfl ?_
          refine i_ldc2 (v := (-9223372036854775808)) 27 rfl cw_1683 (by decide) ?_
          refine i_lcmp_eq 60 28 rfl rfl (by decide) (fun c => ?_) (fun c => ?_)
          · replace h := h.1 c
            refine i_iconst 36 rfl (by decide) ?_
            refine i_goto 65 37 rfl (by decide) ?_
            exact i_zreturn 39 rfl rfl (by decide) h
          · replace h := h.2 c
            refine i_lload 30 rfl rfl ?_
            refine i_lload_n 31 rfl rfl ?_
            refine i_ldiv 32 rfl h.1 ?_
            replace h := h.2
            refine i_lload_n 33 rfl rfl ?_
            refine i_lcmp_eq 64 34 rfl rfl (by decide) (fun c => ?_) (fun c => ?_)
            · replace h := h.1 c
              refine i_iconst 38 rfl (by decide) ?_
              exact i_zreturn 39 rfl rfl (by decide) h
            · replace h := h.2 c
              refine i_iconst 36 rfl (by decide) ?_
              refine i_goto 65 37 rfl (by decide) ?_
              exact i_zreturn 39 rfl rfl (by decide) h
      · replace h := h.2 c
        refine i_lload_n 18 rfl rfl ?_
        refine i_ldc2 (v := (-9223372036854775808)) 19 rfl cw_1683 (by decide) ?_
        refine i_lcmp_eq 60 20 rfl rfl (by decide) (fun c => ?_) (fun c => ?_)
        · replace h := h.1 c
          refine i_iconst 36 rfl (by decide) ?_
          refine i_goto 65 37 rfl (by decide) ?_
          exact i_zreturn 39 rfl rfl (by decide) h
        · replace h := h.2 c
          refine i_lload_n 22 rfl rfl ?_
          refine i_ldc2 (v := (-1)) 23 rfl cw_1420 (by decide) ?_
          refine i_lcmp_ne 51 24 rfl rfl (by decide) (fun c => ?_) (fun c => ?_)
          · replace h := h.1 c
            refine i_lload 30 rfl rfl ?_
            refine i_lload_n 31 rfl rfl ?_
            refine i_ldiv 32 rfl h.1 ?_
            replace h := h.2
            refine i_lload_n 33 rfl rfl ?_
            refine i_lcmp_eq 64 34 rfl rfl (by decide) (fun c => ?_) (fun c => ?_)
            · replace h := h.1 c
              refine i_iconst 38 rfl (by decide) ?_
              exact i_zreturn 39 rfl rfl (by decide) h
            · replace h := h.2 c
              refine i_iconst 36 rfl (by decide) ?_
              refine i_goto 65 37 rfl (by decide) ?_
              exact i_zreturn 39 rfl rfl (by decide) h
          · replace h := h.2 c
            refine i_lload_n 26 rfl rfl ?_
            refine i_ldc2 (v := (-9223372036854775808)) 27 rfl cw_1683 (by decide) ?_
            refine i_lcmp_eq 60 28 rfl rfl (by decide) (fun c => ?_) (fun c => ?_)
            · exact absurd c (by omega)
            · refine i_lload 30 rfl rfl ?_
              refine i_lload_n 31 rfl rfl ?_
              refine i_ldiv 32 rfl h.1 ?_
              replace h := h.2
              refine i_lload_n 33 rfl rfl ?_
              refine i_lcmp_eq 64 34 rfl rfl (by decide) (fun c => ?_) (fun c => ?_)
              · replace h := h.1 c
                refine i_iconst 38 rfl (by decide) ?_
                exact i_zreturn 39 rfl rfl (by decide) h
              · replace h := h.2 c
                refine i_iconst 36 rfl (by decide) ?_
                refine i_goto 65 37 rfl (by decide) ?_
                exact i_zreturn 39 rfl rfl (by decide) h
    · replace h := h.2 c
      refine i_iconst 8 rfl (by decide) ?_
      exact i_zreturn 9 rfl rfl (by decide) h
theorem u_X11_isFitting_0 {l : Launch} {E : xE} (a1 a2 : Int) {M : xM} {Q : Option xV → xM → Prop} (h : x_Ev l E (5, 0, 0) m_X11_isFitting 2 [(21, 103), (0, a1), (0, a2), (0, 0), (5, 0), (5, 0), (5, 0)] [] M Q) : x_Ev l E (5, 0, 0) m_X11_isFitting 0 [(21, 103), (0, a1), (0, a2), (5, 0), (5, 0), (5, 0), (5, 0)] [] M Q := by
  refine i_iconst 0 rfl (by decide) ?_
  refine i_istore_n 1 rfl (by decide) rfl ?_
  exact h
theorem u_X11_isFitting_2 {l : Launch} {E : xE} (l1 l2 l3 : Int) {M : xM} {Q : Option xV → xM → Prop} (h : ((0 : Int) ≤ l1 ∧ (l1 : Int) < 4) ∧ ((M 545 l1) ≤ l3 → Q (some (0, 1)) M) ∧ (¬ (M 545 l1) ≤ l3 → x_Ev l E (4, 0, 0) m_X11_answer 0 [(21, 103), (0, l2), (1, l3), (5, 0), (1, 1), (5, 0)] [] M (fun r zM1 => ∃ zr2, r = some (0, zr2) ∧ x_Ev l E (2, 0, 0) m_X11_gain 0 [(21, 103), (0, l2), (0, zr2), (1, l3), (5, 0), (1, 1), (5, 0)] [] zM1 (fun r zM3 => ∃ zr4, r = some (1, zr4) ∧ ((0 : Int) ≤ l2 ∧ (l2 : Int) < 3) ∧ ((0 : Int) ≤ zr2 ∧ (zr2 : Int) < 40) ∧ ((zM3 (274 + 1 + 1 * l2) zr2) ≠ 0) ∧ ∀ zv5 : Int, zv5 = (x_W (zr4.tdiv (zM3 (274 + 1 + 1 * l2) zr2))) → x_Ev l E (1, 0, 0) m_X11_told 0 [(21, 103), (0, l1), (0, l3)] [] zM3 (fun r zM6 => ∃ zr7, r = some (1, zr7) ∧ (zr7 = (-999) → ∀ zv8 : Int, zv8 = x_w (l3 + 1) → x_Ev l E (5, 0, 0) m_X11_isFitting 2 [(21, 103), (0, l1), (0, l2), (0, zv8), (5, 0), (5, 0), (5, 0)] [] zM6 Q) ∧ (¬ zr7 = (-999) → x_Ev l E (1, 0, 0) m_X11_told 0 [(21, 103), (0, l1), (0, l3)] [] zM6 (fun r zM9 => ∃ zr10, r = some (1, zr10) ∧ (zr10 = zv5 → ∀ zv11 : Int, zv11 = x_w (l3 + 1) → x_Ev l E (5, 0, 0) m_X11_isFitting 2 [(21, 103), (0, l1), (0, l2), (0, zv11), (5, 0), (5, 0), (5, 0)] [] zM9 Q) ∧ (¬ zr10 = zv5 → Q (some (0, 0)) zM9)))))))) : x_Ev l E (5, 0, 0) m_X11_isFitting 2 [(21, 103), (0, l1), (0, l2), (0, l3), (5, 0), (5, 0), (5, 0)] [] M Q := by
  refine i_iload_n 2 rfl rfl ?_
  refine i_aload_n 3 rfl rfl (by decide) ?_
  refine i_getP (c := 11) (k := 45) (t := 103) (b := 545) 4 rfl fl_1094 (by decide) rfl (by decide) rfl ?_
  refine i_iload_n 5 rfl rfl ?_
  refine i_iald (τ := 3) 6 rfl ⟨rfl, rfl, rfl, by decide⟩ h.1.1 h.1.2 ?_
  replace h := h.2
  refine i_icmp_ge 77 7 rfl (by decide) (fun c => ?_) (fun c => ?_)
  · replace h := h.1 c
    refine i_iconst 48 rfl (by decide) ?_
    exact i_zreturn 49 rfl rfl (by decide) h
  · replace h := h.2 c
    refine i_aload_n 8 rfl rfl (by decide) ?_
    refine i_iload_n 9 rfl rfl ?_
    refine i_iload_n 10 rfl rfl ?_
    refine i_i2l 11 rfl ?_
    refine i_lconst (w := 1) 12 rfl (by decide) ?_
    refine i_callV (c := 11) (y1 := m_X11_answer) (z1 := (4, 0, 0)) (z2 := (5, 0, 0)) [(0, l2), (1, l3), (1, 1)] 13 rfl ml_1296 ok_X11_answer vk_X11_answer ⟨by decide, rfl⟩ rfl ⟨rfl, Nat.le_of_ble_eq_true rfl⟩ (Nat.le_of_ble_eq_true rfl) ⟨by decide, rfl, rfl, rfl⟩ ?_
    refine h.mono (fun r zM1 h => ?_)
    obtain ⟨zr2, rfl, h⟩ := h
    simp only [Option.toList_some, Option.toList_none, List.cons_append, List.nil_append]
    refine i_istore 14 rfl (by decide) rfl ?_
    refine i_aload_n 15 rfl rfl (by decide) ?_
    refine i_iload_n 16 rfl rfl ?_
    refine i_iload 17 rfl rfl ?_
    refine i_iload_n 18 rfl rfl ?_
    refine i_i2l 19 rfl ?_
    refine i_lconst (w := 1) 20 rfl (by decide) ?_
    refine i_callV (c := 11) (y1 := m_X11_gain) (z1 := (2, 0, 0)) (z2 := (5, 0, 0)) [(0, l2), (0, zr2), (1, l3), (1, 1)] 21 rfl ml_1331 ok_X11_gain vk_X11_gain ⟨by decide, rfl⟩ rfl ⟨rfl, Nat.le_of_ble_eq_true rfl⟩ (Nat.le_of_ble_eq_true rfl) ⟨by decide, rfl, rfl, rfl⟩ ?_
    refine h.mono (fun r zM3 h => ?_)
    obtain ⟨zr4, rfl, h⟩ := h
    simp only [Option.toList_some, Option.toList_none, List.cons_append, List.nil_append]
    refine i_aload_n 22 rfl rfl (by decide) ?_
    refine i_getP (c := 11) (k := 23) (t := 130) (b := 274) 23 rfl fl_1072 (by decide) rfl (by decide) rfl ?_
    refine i_iload_n 24 rfl rfl ?_
    refine i_aald (τ := 30) (t := 129) (len := 3) (b := (274 + 1 + 1 * l2)) 25 rfl (by decide) rfl h.1.1 h.1.2 ?_
    replace h := h.2
    refine i_iload 26 rfl rfl ?_
    refine i_lald (τ := 29) 27 rfl ⟨rfl, rfl, rfl, by decide⟩ h.1.1 h.1.2 ?_
    replace h := h.2
    refine i_ldiv 28 rfl h.1 ?_
    replace h := h.2
    replace h := h _ rfl
    refine i_lstore 29 rfl (by decide) rfl ?_
    refine i_aload_n 30 rfl rfl (by decide) ?_
    refine i_iload_n 31 rfl rfl ?_
    refine i_iload_n 32 rfl rfl ?_
    refine i_callV (c := 11) (y1 := m_X11_told) (z1 := (1, 0, 0)) (z2 := (5, 0, 0)) [(0, l1), (0, l3)] 33 rfl ml_1552 ok_X11_told vk_X11_told ⟨by decide, rfl⟩ rfl ⟨rfl, Nat.le_of_ble_eq_true rfl⟩ (Nat.le_of_ble_eq_true rfl) ⟨by decide, rfl, rfl, rfl⟩ ?_
    refine h.mono (fun r zM6 h => ?_)
    obtain ⟨zr7, rfl, h⟩ := h
    simp only [Option.toList_some, Option.toList_none, List.cons_append, List.nil_append]
    refine i_ldc2 (v := (-999)) 34 rfl cw_1696 (by decide) ?_
    refine i_lcmp_eq 71 35 rfl rfl (by decide) (fun c => ?_) (fun c => ?_)
    · replace h := h.1 c
      replace h := h _ rfl
      refine i_iinc 46 rfl rfl (by decide) rfl ?_
      refine i_goto 2 47 rfl (by decide) ?_
      refine i_weak ?_ h
      exact (And.intro (Or.inr rfl) (And.intro (Or.inr rfl) (And.intro (Or.inr rfl) (And.intro (Or.inr rfl) (And.intro (Or.inl rfl) (And.intro (Or.inl rfl) (And.intro (Or.inr rfl) trivial)))))))
    · replace h := h.2 c
      refine i_aload_n 37 rfl rfl (by decide) ?_
      refine i_iload_n 38 rfl rfl ?_
      refine i_iload_n 39 rfl rfl ?_
      refine i_callV (c := 11) (y1 := m_X11_told) (z1 := (1, 0, 0)) (z2 := (5, 0, 0)) [(0, l1), (0, l3)] 40 rfl ml_1552 ok_X11_told vk_X11_told ⟨by decide, rfl⟩ rfl ⟨rfl, Nat.le_of_ble_eq_true rfl⟩ (Nat.le_of_ble_eq_true rfl) ⟨by decide, rfl, rfl, rfl⟩ ?_
      refine h.mono (fun r zM9 h => ?_)
      obtain ⟨zr10, rfl, h⟩ := h
      simp only [Option.toList_some, Option.toList_none, List.cons_append, List.nil_append]
      refine i_lload 41 rfl rfl ?_
      refine i_lcmp_eq 71 42 rfl rfl (by decide) (fun c => ?_) (fun c => ?_)
      · replace h := h.1 c
        replace h := h _ rfl
        refine i_iinc 46 rfl rfl (by decide) rfl ?_
        refine i_goto 2 47 rfl (by decide) ?_
        refine i_weak ?_ h
        exact (And.intro (Or.inr rfl) (And.intro (Or.inr rfl) (And.intro (Or.inr rfl) (And.intro (Or.inr rfl) (And.intro (Or.inl rfl) (And.intro (Or.inl rfl) (And.intro (Or.inr rfl) trivial)))))))
      · replace h := h.2 c
        refine i_iconst 44 rfl (by decide) ?_
        exact i_zreturn 45 rfl rfl (by decide) h
theorem u_X11_isPieceRow_0 {l : Launch} {E : xE} (a1 a2 : Int) {M : xM} {Q : Option xV → xM → Prop} (h : x_Ev l E (1, 0, 0) m_X11_in 0 [(1, a1), (5, 0), (1, 0), (5, 0), (1, (x_w ((M 103 42) - 1))), (5, 0)] [] M (fun r zM1 => ∃ zr2, r = some (0, zr2) ∧ (zr2 = 0 → Q (some (0, 0)) zM1) ∧ (¬ zr2 = 0 → x_Ev l E (1, 0, 0) m_X11_in 0 [(1, a2), (5, 0), (1, 0), (5, 0), (1, 5), (5, 0)] [] zM1 (fun r zM3 => ∃ zr4, r = some (0, zr4) ∧ (zr4 = 0 → Q (some (0, 0)) zM3) ∧ (¬ zr4 = 0 → Q (some (0, 1)) zM3))))) : x_Ev l E (2, 0, 0) m_X11_isPieceRow 0 [(21, 103), (0, a1), (0, a2)] [] M Q := by
  refine i_iload_n 0 rfl rfl ?_
  refine i_i2l 1 rfl ?_
  refine i_lconst (w := 0) 2 rfl (by decide) ?_
  refine i_aload_n 3 rfl rfl (by decide) ?_
  refine i_getI (c := 11) (k := 42) 4 rfl fl_1091 (by decide) (by decide) ?_
  refine i_iconst 5 rfl (by decide) ?_
  refine i_isub 6 rfl ?_
  refine i_i2l 7 rfl ?_
  refine i_callS (y1 := m_X11_in) (z1 := (1, 0, 0)) (z2 := (2, 0, 0)) [(1, a1), (1, 0), (1, (x_w ((M 103 42) - 1)))] 8 rfl ml_1229 ok_X11_in vk_X11_in rfl ⟨rfl, Nat.le_of_ble_eq_true rfl⟩ (Nat.le_of_ble_eq_true rfl) ⟨by decide, rfl, rfl, rfl⟩ ?_
  refine h.mono (fun r zM1 h => ?_)
  obtain ⟨zr2, rfl, h⟩ := h
  simp only [Option.toList_some, Option.toList_none, List.cons_append, List.nil_append]
  refine i_if_eq 32 9 rfl (by decide) (fun c => ?_) (fun c => ?_)
  · replace h := h.1 c
    refine i_iconst 18 rfl (by decide) ?_
    exact i_zreturn 19 rfl rfl (by decide) h
  · replace h := h.2 c
    refine i_iload_n 10 rfl rfl ?_
    refine i_i2l 11 rfl ?_
    refine i_lconst (w := 0) 12 rfl (by decide) ?_
    refine i_ldc2 (v := 5) 13 rfl cw_1590 (by decide) ?_
    refine i_callS (y1 := m_X11_in) (z1 := (1, 0, 0)) (z2 := (2, 0, 0)) [(1, a2), (1, 0), (1, 5)] 14 rfl ml_1229 ok_X11_in vk_X11_in rfl ⟨rfl, Nat.le_of_ble_eq_true rfl⟩ (Nat.le_of_ble_eq_true rfl) ⟨by decide, rfl, rfl, rfl⟩ ?_
    refine h.mono (fun r zM3 h => ?_)
    obtain ⟨zr4, rfl, h⟩ := h
    simp only [Option.toList_some, Option.toList_none, List.cons_append, List.nil_append]
    refine i_if_eq 32 15 rfl (by decide) (fun c => ?_) (fun c => ?_)
    · replace h := h.1 c
      refine i_iconst 18 rfl (by decide) ?_
      exact i_zreturn 19 rfl rfl (by decide) h
    · replace h := h.2 c
      refine i_iconst 16 rfl (by decide) ?_
      refine i_goto 33 17 rfl (by decide) ?_
      exact i_zreturn 19 rfl rfl (by decide) h
theorem u_X11_whyNot_0 {l : Launch} {E : xE} (a1 a2 : Int) {M : xM} {Q : Option xV → xM → Prop} (h : x_Ev l E (2, 0, 0) m_X11_isSheet 0 [(0, a1)] [] M (fun r zM1 => ∃ zr2, r = some (0, zr2) ∧ (¬ zr2 = 0 → ((0 : Int) ≤ a1 ∧ (a1 : Int) < 4) ∧ (0 ≤ (zM1 544 a1) → ((0 : Int) ≤ a1 ∧ (a1 : Int) < 4) ∧ x_Ev l E (1, 0, 0) m_X11_in 0 [(1, a2), (5, 0), (1, 0), (5, 0), (1, (x_w ((zM1 545 a1) - 1))), (5, 0)] [] zM1 (fun r zM3 => ∃ zr4, r = some (0, zr4) ∧ (¬ zr4 = 0 → Q (some (0, (-1))) zM3) ∧ (zr4 = 0 → Q (some (0, 0)) zM3))) ∧ (¬ 0 ≤ (zM1 544 a1) → Q (some (0, 5)) zM1)) ∧ (zr2 = 0 → Q (some (0, 0)) zM1))) : x_Ev l E (3, 0, 0) m_X11_whyNot 0 [(21, 103), (0, a1), (0, a2)] [] M Q := by
  refine i_iload_n 0 rfl rfl ?_
  refine i_callS (y1 := m_X11_isSheet) (z1 := (2, 0, 0)) (z2 := (3, 0, 0)) [(0, a1)] 1 rfl ml_1541 ok_X11_isSheet vk_X11_isSheet rfl ⟨rfl, Nat.le_of_ble_eq_true rfl⟩ (Nat.le_of_ble_eq_true rfl) ⟨by decide, rfl, rfl, rfl⟩ ?_
  refine h.mono (fun r zM1 h => ?_)
  obtain ⟨zr2, rfl, h⟩ := h
  simp only [Option.toList_some, Option.toList_none, List.cons_append, List.nil_append]
  refine i_if_ne 11 2 rfl (by decide) (fun c => ?_) (fun c => ?_)
  · replace h := h.1 c
    refine i_aload_n 5 rfl rfl (by decide) ?_
    refine i_getP (c := 11) (k := 44) (t := 103) (b := 544) 6 rfl fl_1093 (by decide) rfl (by decide) rfl ?_
    refine i_iload_n 7 rfl rfl ?_
    refine i_iald (τ := 3) 8 rfl ⟨rfl, rfl, rfl, by decide⟩ h.1.1 h.1.2 ?_
    replace h := h.2
    refine i_if_ge 24 9 rfl (by decide) (fun c => ?_) (fun c => ?_)
    · replace h := h.1 c
      refine i_iload_n 12 rfl rfl ?_
      refine i_i2l 13 rfl ?_
      refine i_lconst (w := 0) 14 rfl (by decide) ?_
      refine i_aload_n 15 rfl rfl (by decide) ?_
      refine i_getP (c := 11) (k := 45) (t := 103) (b := 545) 16 rfl fl_1094 (by decide) rfl (by decide) rfl ?_
      refine i_iload_n 17 rfl rfl ?_
      refine i_iald (τ := 3) 18 rfl ⟨rfl, rfl, rfl, by decide⟩ h.1.1 h.1.2 ?_
      replace h := h.2
      refine i_iconst 19 rfl (by decide) ?_
      refine i_isub 20 rfl ?_
      refine i_i2l 21 rfl ?_
      refine i_callS (y1 := m_X11_in) (z1 := (1, 0, 0)) (z2 := (3, 0, 0)) [(1, a2), (1, 0), (1, (x_w ((zM1 545 a1) - 1)))] 22 rfl ml_1229 ok_X11_in vk_X11_in rfl ⟨rfl, Nat.le_of_ble_eq_true rfl⟩ (Nat.le_of_ble_eq_true rfl) ⟨by decide, rfl, rfl, rfl⟩ ?_
      refine h.mono (fun r zM3 h => ?_)
      obtain ⟨zr4, rfl, h⟩ := h
      simp only [Option.toList_some, Option.toList_none, List.cons_append, List.nil_append]
      refine i_if_ne 46 23 rfl (by decide) (fun c => ?_) (fun c => ?_)
      · replace h := h.1 c
        refine i_iconst 26 rfl (by decide) ?_
        exact i_ireturn 27 rfl rfl h
      · replace h := h.2 c
        refine i_iconst 24 rfl (by decide) ?_
        refine i_goto 47 25 rfl (by decide) ?_
        exact i_ireturn 27 rfl rfl h
    · replace h := h.2 c
      refine i_iconst 10 rfl (by decide) ?_
      refine i_goto 47 11 rfl (by decide) ?_
      exact i_ireturn 27 rfl rfl h
  · replace h := h.2 c
    refine i_iconst 3 rfl (by decide) ?_
    refine i_goto 47 4 rfl (by decide) ?_
    exact i_ireturn 27 rfl rfl h
theorem u_X11_holds_0 {l : Launch} {E : xE} (a1 : Int) {M : xM} {Q : Option xV → xM → Prop} (h : ((0 : Int) ≤ a1 ∧ (a1 : Int) < 10) ∧ (1 < (M 552 a1) → Q (some (0, 1)) M) ∧ (¬ 1 < (M 552 a1) → ((0 : Int) ≤ a1 ∧ (a1 : Int) < 10) ∧ (¬ (M 552 a1) = 1 → Q (some (0, 0)) M) ∧ ((M 552 a1) = 1 → ((0 : Int) ≤ a1 ∧ (a1 : Int) < 10) ∧ ((M 103 0) ≤ (M 553 a1) → Q (some (0, 0)) M) ∧ (¬ (M 103 0) ≤ (M 553 a1) → Q (some (0, 1)) M)))) : x_Ev l E (1, 0, 0) m_X11_holds 0 [(21, 103), (0, a1)] [] M Q := by
  refine i_aload_n 0 rfl rfl (by decide) ?_
  refine i_getP (c := 11) (k := 48) (t := 110) (b := 552) 1 rfl fl_1097 (by decide) rfl (by decide) rfl ?_
  refine i_iload_n 2 rfl rfl ?_
  refine i_iald (τ := 10) 3 rfl ⟨rfl, rfl, rfl, by decide⟩ h.1.1 h.1.2 ?_
  replace h := h.2
  refine i_iconst 4 rfl (by decide) ?_
  refine i_icmp_gt 33 5 rfl (by decide) (fun c => ?_) (fun c => ?_)
  · replace h := h.1 c
    refine i_iconst 19 rfl (by decide) ?_
    refine i_goto 38 20 rfl (by decide) ?_
    exact i_zreturn 22 rfl rfl (by decide) h
  · replace h := h.2 c
    refine i_aload_n 6 rfl rfl (by decide) ?_
    refine i_getP (c := 11) (k := 48) (t := 110) (b := 552) 7 rfl fl_1097 (by decide) rfl (by decide) rfl ?_
    refine i_iload_n 8 rfl rfl ?_
    refine i_iald (τ := 10) 9 rfl ⟨rfl, rfl, rfl, by decide⟩ h.1.1 h.1.2 ?_
    replace h := h.2
    refine i_iconst 10 rfl (by decide) ?_
    refine i_icmp_ne 37 11 rfl (by decide) (fun c => ?_) (fun c => ?_)
    · replace h := h.1 c
      refine i_iconst 21 rfl (by decide) ?_
      exact i_zreturn 22 rfl rfl (by decide) h
    · replace h := h.2 c
      refine i_aload_n 12 rfl rfl (by decide) ?_
      refine i_getP (c := 11) (k := 49) (t := 110) (b := 553) 13 rfl fl_1098 (by decide) rfl (by decide) rfl ?_
      refine i_iload_n 14 rfl rfl ?_
      refine i_iald (τ := 10) 15 rfl ⟨rfl, rfl, rfl, by decide⟩ h.1.1 h.1.2 ?_
      replace h := h.2
      refine i_aload_n 16 rfl rfl (by decide) ?_
      refine i_getI (c := 11) (k := 0) 17 rfl fl_1049 (by decide) (by decide) ?_
      refine i_icmp_ge 37 18 rfl (by decide) (fun c => ?_) (fun c => ?_)
      · replace h := h.1 c
        refine i_iconst 21 rfl (by decide) ?_
        exact i_zreturn 22 rfl rfl (by decide) h
      · replace h := h.2 c
        refine i_iconst 19 rfl (by decide) ?_
        refine i_goto 38 20 rfl (by decide) ?_
        exact i_zreturn 22 rfl rfl (by decide) h
theorem u_X11_isUnder_0 {l : Launch} {E : xE} (a1 a2 : Int) {M : xM} {Q : Option xV → xM → Prop} (h : (a2 = 0 → Q (some (0, 1)) M) ∧ (¬ a2 = 0 → (a2 = a1 → Q (some (0, 1)) M) ∧ (¬ a2 = a1 → (¬ a1 = 3 → (¬ a1 = 6 → (a1 = 4 → (¬ a2 = 2 → Q (some (0, 0)) M) ∧ (a2 = 2 → Q (some (0, 1)) M)) ∧ (¬ a1 = 4 → (¬ a1 = 5 → Q (some (0, 0)) M) ∧ (a1 = 5 → (¬ a2 = 2 → Q (some (0, 0)) M) ∧ (a2 = 2 → Q (some (0, 1)) M)))) ∧ (a1 = 6 → (a2 = 3 → Q (some (0, 1)) M) ∧ (¬ a2 = 3 → (a2 = 1 → Q (some (0, 1)) M) ∧ (¬ a2 = 1 → Q (some (0, 0)) M)))) ∧ (a1 = 3 → (a2 = 1 → Q (some (0, 1)) M) ∧ (¬ a2 = 1 → Q (some (0, 0)) M))))) : x_Ev l E (1, 0, 0) m_X11_isUnder 0 [(21, 103), (0, a1), (0, a2)] [] M Q := by
  refine i_iload_n 0 rfl rfl ?_
  refine i_if_eq 50 1 rfl (by decide) (fun c => ?_) (fun c => ?_)
  · replace h := h.1 c
    refine i_iconst 29 rfl (by decide) ?_
    refine i_goto 55 30 rfl (by decide) ?_
    exact i_zreturn 32 rfl rfl (by decide) h
  · replace h := h.2 c
    refine i_iload_n 2 rfl rfl ?_
    refine i_iload_n 3 rfl rfl ?_
    refine i_icmp_eq 50 4 rfl (by decide) (fun c => ?_) (fun c => ?_)
    · replace h := h.1 c
      refine i_iconst 29 rfl (by decide) ?_
      refine i_goto 55 30 rfl (by decide) ?_
      exact i_zreturn 32 rfl rfl (by decide) h
    · replace h := h.2 c
      refine i_iload_n 5 rfl rfl ?_
      refine i_iconst 6 rfl (by decide) ?_
      refine i_icmp_ne 19 7 rfl (by decide) (fun c => ?_) (fun c => ?_)
      · replace h := h.1 c
        refine i_iload_n 11 rfl rfl ?_
        refine i_bipush 12 rfl (by decide) ?_
        refine i_icmp_ne 35 13 rfl (by decide) (fun c => ?_) (fun c => ?_)
        · replace h := h.1 c
          refine i_iload_n 20 rfl rfl ?_
          refine i_iconst 21 rfl (by decide) ?_
          refine i_icmp_eq 45 22 rfl (by decide) (fun c => ?_) (fun c => ?_)
          · replace h := h.1 c
            refine i_iload_n 26 rfl rfl ?_
            refine i_iconst 27 rfl (by decide) ?_
            refine i_icmp_ne 54 28 rfl (by decide) (fun c => ?_) (fun c => ?_)
            · replace h := h.1 c
              refine i_iconst 31 rfl (by decide) ?_
              exact i_zreturn 32 rfl rfl (by decide) h
            · replace h := h.2 c
              refine i_iconst 29 rfl (by decide) ?_
              refine i_goto 55 30 rfl (by decide) ?_
              exact i_zreturn 32 rfl rfl (by decide) h
          · replace h := h.2 c
            refine i_iload_n 23 rfl rfl ?_
            refine i_iconst 24 rfl (by decide) ?_
            refine i_icmp_ne 54 25 rfl (by decide) (fun c => ?_) (fun c => ?_)
            · replace h := h.1 c
              refine i_iconst 31 rfl (by decide) ?_
              exact i_zreturn 32 rfl rfl (by decide) h
            · replace h := h.2 c
              refine i_iload_n 26 rfl rfl ?_
              refine i_iconst 27 rfl (by decide) ?_
              refine i_icmp_ne 54 28 rfl (by decide) (fun c => ?_) (fun c => ?_)
              · replace h := h.1 c
                refine i_iconst 31 rfl (by decide) ?_
                exact i_zreturn 32 rfl rfl (by decide) h
              · replace h := h.2 c
                refine i_iconst 29 rfl (by decide) ?_
                refine i_goto 55 30 rfl (by decide) ?_
                exact i_zreturn 32 rfl rfl (by decide) h
        · replace h := h.2 c
          refine i_iload_n 14 rfl rfl ?_
          refine i_iconst 15 rfl (by decide) ?_
          refine i_icmp_eq 50 16 rfl (by decide) (fun c => ?_) (fun c => ?_)
          · replace h := h.1 c
            refine i_iconst 29 rfl (by decide) ?_
            refine i_goto 55 30 rfl (by decide) ?_
            exact i_zreturn 32 rfl rfl (by decide) h
          · replace h := h.2 c
            refine i_iload_n 17 rfl rfl ?_
            refine i_iconst 18 rfl (by decide) ?_
            refine i_icmp_eq 50 19 rfl (by decide) (fun c => ?_) (fun c => ?_)
            · replace h := h.1 c
              refine i_iconst 29 rfl (by decide) ?_
              refine i_goto 55 30 rfl (by decide) ?_
              exact i_zreturn 32 rfl rfl (by decide) h
            · replace h := h.2 c
              refine i_iload_n 20 rfl rfl ?_
              refine i_iconst 21 rfl (by decide) ?_
              refine i_icmp_eq 45 22 rfl (by decide) (fun c => ?_) (fun c => ?_)
              · exact absurd c (by omega)
              · refine i_iload_n 23 rfl rfl ?_
                refine i_iconst 24 rfl (by decide) ?_
                refine i_icmp_ne 54 25 rfl (by decide) (fun c => ?_) (fun c => ?_)
                · refine i_iconst 31 rfl (by decide) ?_
                  exact i_zreturn 32 rfl rfl (by decide) h
                · exact absurd c (by omega)
      · replace h := h.2 c
        refine i_iload_n 8 rfl rfl ?_
        refine i_iconst 9 rfl (by decide) ?_
        refine i_icmp_eq 50 10 rfl (by decide) (fun c => ?_) (fun c => ?_)
        · replace h := h.1 c
          refine i_iconst 29 rfl (by decide) ?_
          refine i_goto 55 30 rfl (by decide) ?_
          exact i_zreturn 32 rfl rfl (by decide) h
        · replace h := h.2 c
          refine i_iload_n 11 rfl rfl ?_
          refine i_bipush 12 rfl (by decide) ?_
          refine i_icmp_ne 35 13 rfl (by decide) (fun c => ?_) (fun c => ?_)
          · refine i_iload_n 20 rfl rfl ?_
            refine i_iconst 21 rfl (by decide) ?_
            refine i_icmp_eq 45 22 rfl (by decide) (fun c => ?_) (fun c => ?_)
            · exact absurd c (by omega)
            · refine i_iload_n 23 rfl rfl ?_
              refine i_iconst 24 rfl (by decide) ?_
              refine i_icmp_ne 54 25 rfl (by decide) (fun c => ?_) (fun c => ?_)
              · refine i_iconst 31 rfl (by decide) ?_
                exact i_zreturn 32 rfl rfl (by decide) h
              · exact absurd c (by omega)
          · exact absurd c (by omega)
theorem u_X11_copies_0 {l : Launch} {E : xE} (a0 a1 : Int) {M : xM} {Q : Option xV → xM → Prop} (h : x_Ev l E (1, 0, 0) m_X11_copies 2 [(124, a0), (124, a1), (0, 0), (5, 0)] [] M Q) : x_Ev l E (1, 0, 0) m_X11_copies 0 [(124, a0), (124, a1), (5, 0), (5, 0)] [] M Q := by
  refine i_iconst 0 rfl (by decide) ?_
  refine i_istore_n 1 rfl (by decide) rfl ?_
  exact h
theorem u_X11_copies_2 {l : Launch} {E : xE} (l0 l1 l2 : Int) {M : xM} {Q : Option xV → xM → Prop} (h : (3 ≤ l2 → Q none M) ∧ (¬ 3 ≤ l2 → x_Ev l E (1, 0, 0) m_X11_copies 10 [(124, l0), (124, l1), (0, l2), (0, 0)] [] M Q)) : x_Ev l E (1, 0, 0) m_X11_copies 2 [(124, l0), (124, l1), (0, l2), (5, 0)] [] M Q := by
  refine i_iload_n 2 rfl rfl ?_
  refine i_aload_n 3 rfl rfl (by decide) ?_
  refine i_alen (τ := 24) (len := 3) 4 rfl (by decide) (by decide) ?_
  refine i_icmp_ge 40 5 rfl (by decide) (fun c => ?_) (fun c => ?_)
  · replace h := h.1 c
    exact i_return 28 rfl rfl h
  · replace h := h.2 c
    refine i_iconst 6 rfl (by decide) ?_
    refine i_istore_n 7 rfl (by decide) rfl ?_
    exact h
theorem u_X11_copies_10 {l : Launch} {E : xE} (l0 l1 l2 l3 : Int) {M : xM} {Q : Option xV → xM → Prop} (h : ((0 : Int) ≤ l2 ∧ (l2 : Int) < 3) ∧ (4 ≤ l3 → ∀ zv1 : Int, zv1 = x_w (l2 + 1) → x_Ev l E (1, 0, 0) m_X11_copies 2 [(124, l0), (124, l1), (0, zv1), (5, 0)] [] M Q) ∧ (¬ 4 ≤ l3 → ((0 : Int) ≤ l2 ∧ (l2 : Int) < 3) ∧ ((0 : Int) ≤ l2 ∧ (l2 : Int) < 3) ∧ ((0 : Int) ≤ l3 ∧ (l3 : Int) < 4) ∧ (0 ≤ l3 ∧ l3 < 4) ∧ ∀ zM2 : xM, zM2 = x_wr M (l1 + 1 + 1 * l2) l3 (M (l0 + 1 + 1 * l2) l3) → ∀ zv3 : Int, zv3 = x_w (l3 + 1) → x_Ev l E (1, 0, 0) m_X11_copies 10 [(124, l0), (124, l1), (0, l2), (0, zv3)] [] zM2 Q)) : x_Ev l E (1, 0, 0) m_X11_copies 10 [(124, l0), (124, l1), (0, l2), (0, l3)] [] M Q := by
  refine i_iload_n 8 rfl rfl ?_
  refine i_aload_n 9 rfl rfl (by decide) ?_
  refine i_iload_n 10 rfl rfl ?_
  refine i_aald (τ := 24) (t := 103) (len := 3) (b := (l0 + 1 + 1 * l2)) 11 rfl (by decide) rfl h.1.1 h.1.2 ?_
  replace h := h.2
  refine i_alen (τ := 3) (len := 4) 12 rfl (by decide) (by decide) ?_
  refine i_icmp_ge 34 13 rfl (by decide) (fun c => ?_) (fun c => ?_)
  · replace h := h.1 c
    replace h := h _ rfl
    refine i_iinc 26 rfl rfl (by decide) rfl ?_
    refine i_goto 2 27 rfl (by decide) ?_
    refine i_weak ?_ h
    exact (And.intro (Or.inr rfl) (And.intro (Or.inr rfl) (And.intro (Or.inr rfl) (And.intro (Or.inl rfl) trivial))))
  · replace h := h.2 c
    refine i_aload_n 14 rfl rfl (by decide) ?_
    refine i_iload_n 15 rfl rfl ?_
    refine i_aald (τ := 24) (t := 103) (len := 3) (b := (l1 + 1 + 1 * l2)) 16 rfl (by decide) rfl h.1.1 h.1.2 ?_
    replace h := h.2
    refine i_iload_n 17 rfl rfl ?_
    refine i_aload_n 18 rfl rfl (by decide) ?_
    refine i_iload_n 19 rfl rfl ?_
    refine i_aald (τ := 24) (t := 103) (len := 3) (b := (l0 + 1 + 1 * l2)) 20 rfl (by decide) rfl h.1.1 h.1.2 ?_
    replace h := h.2
    refine i_iload_n 21 rfl rfl ?_
    refine i_iald (τ := 3) 22 rfl ⟨rfl, rfl, rfl, by decide⟩ h.1.1 h.1.2 ?_
    replace h := h.2
    have hb := h.1
    replace h := h.2 _ rfl
    refine i_iast (τ := 3) 23 rfl ⟨rfl, rfl, rfl, by decide⟩ hb.1 hb.2 ?_
    replace h := h _ rfl
    refine i_iinc 24 rfl rfl (by decide) rfl ?_
    refine i_goto 10 25 rfl (by decide) ?_
    exact h
theorem u_X11_copies_0_v2 {l : Launch} {E : xE} (a0 a1 : Int) {M : xM} {Q : Option xV → xM → Prop} (h : x_Ev l E (1, 0, 0) m_X11_copies 2 [(120, a0), (120, a1), (0, 0), (5, 0)] [] M Q) : x_Ev l E (1, 0, 0) m_X11_copies 0 [(120, a0), (120, a1), (5, 0), (5, 0)] [] M Q := by
  refine i_iconst 0 rfl (by decide) ?_
  refine i_istore_n 1 rfl (by decide) rfl ?_
  exact h
theorem u_X11_copies_2_v2 {l : Launch} {E : xE} (l0 l1 l2 : Int) {M : xM} {Q : Option xV → xM → Prop} (h : (3 ≤ l2 → Q none M) ∧ (¬ 3 ≤ l2 → x_Ev l E (1, 0, 0) m_X11_copies 10 [(120, l0), (120, l1), (0, l2), (0, 0)] [] M Q)) : x_Ev l E (1, 0, 0) m_X11_copies 2 [(120, l0), (120, l1), (0, l2), (5, 0)] [] M Q := by
  refine i_iload_n 2 rfl rfl ?_
  refine i_aload_n 3 rfl rfl (by decide) ?_
  refine i_alen (τ := 20) (len := 3) 4 rfl (by decide) (by decide) ?_
  refine i_icmp_ge 40 5 rfl (by decide) (fun c => ?_) (fun c => ?_)
  · replace h := h.1 c
    exact i_return 28 rfl rfl h
  · replace h := h.2 c
    refine i_iconst 6 rfl (by decide) ?_
    refine i_istore_n 7 rfl (by decide) rfl ?_
    exact h
theorem u_X11_copies_10_v2 {l : Launch} {E : xE} (l0 l1 l2 l3 : Int) {M : xM} {Q : Option xV → xM → Prop} (h : ((0 : Int) ≤ l2 ∧ (l2 : Int) < 3) ∧ (3 ≤ l3 → ∀ zv1 : Int, zv1 = x_w (l2 + 1) → x_Ev l E (1, 0, 0) m_X11_copies 2 [(120, l0), (120, l1), (0, zv1), (5, 0)] [] M Q) ∧ (¬ 3 ≤ l3 → ((0 : Int) ≤ l2 ∧ (l2 : Int) < 3) ∧ ((0 : Int) ≤ l2 ∧ (l2 : Int) < 3) ∧ ((0 : Int) ≤ l3 ∧ (l3 : Int) < 3) ∧ (0 ≤ l3 ∧ l3 < 3) ∧ ∀ zM2 : xM, zM2 = x_wr M (l1 + 1 + 1 * l2) l3 (M (l0 + 1 + 1 * l2) l3) → ∀ zv3 : Int, zv3 = x_w (l3 + 1) → x_Ev l E (1, 0, 0) m_X11_copies 10 [(120, l0), (120, l1), (0, l2), (0, zv3)] [] zM2 Q)) : x_Ev l E (1, 0, 0) m_X11_copies 10 [(120, l0), (120, l1), (0, l2), (0, l3)] [] M Q := by
  refine i_iload_n 8 rfl rfl ?_
  refine i_aload_n 9 rfl rfl (by decide) ?_
  refine i_iload_n 10 rfl rfl ?_
  refine i_aald (τ := 20) (t := 114) (len := 3) (b := (l0 + 1 + 1 * l2)) 11 rfl (by decide) rfl h.1.1 h.1.2 ?_
  replace h := h.2
  refine i_alen (τ := 14) (len := 3) 12 rfl (by decide) (by decide) ?_
  refine i_icmp_ge 34 13 rfl (by decide) (fun c => ?_) (fun c => ?_)
  · replace h := h.1 c
    replace h := h _ rfl
    refine i_iinc 26 rfl rfl (by decide) rfl ?_
    refine i_goto 2 27 rfl (by decide) ?_
    refine i_weak ?_ h
    exact (And.intro (Or.inr rfl) (And.intro (Or.inr rfl) (And.intro (Or.inr rfl) (And.intro (Or.inl rfl) trivial))))
  · replace h := h.2 c
    refine i_aload_n 14 rfl rfl (by decide) ?_
    refine i_iload_n 15 rfl rfl ?_
    refine i_aald (τ := 20) (t := 114) (len := 3) (b := (l1 + 1 + 1 * l2)) 16 rfl (by decide) rfl h.1.1 h.1.2 ?_
    replace h := h.2
    refine i_iload_n 17 rfl rfl ?_
    refine i_aload_n 18 rfl rfl (by decide) ?_
    refine i_iload_n 19 rfl rfl ?_
    refine i_aald (τ := 20) (t := 114) (len := 3) (b := (l0 + 1 + 1 * l2)) 20 rfl (by decide) rfl h.1.1 h.1.2 ?_
    replace h := h.2
    refine i_iload_n 21 rfl rfl ?_
    refine i_iald (τ := 14) 22 rfl ⟨rfl, rfl, rfl, by decide⟩ h.1.1 h.1.2 ?_
    replace h := h.2
    have hb := h.1
    replace h := h.2 _ rfl
    refine i_iast (τ := 14) 23 rfl ⟨rfl, rfl, rfl, by decide⟩ hb.1 hb.2 ?_
    replace h := h _ rfl
    refine i_iinc 24 rfl rfl (by decide) rfl ?_
    refine i_goto 10 25 rfl (by decide) ?_
    exact h
theorem u_X11_copies_0_v3 {l : Launch} {E : xE} (a0 a1 : Int) {M : xM} {Q : Option xV → xM → Prop} (h : x_Ev l E (1, 0, 0) m_X11_copies 2 [(122, a0), (122, a1), (0, 0), (5, 0)] [] M Q) : x_Ev l E (1, 0, 0) m_X11_copies 0 [(122, a0), (122, a1), (5, 0), (5, 0)] [] M Q := by
  refine i_iconst 0 rfl (by decide) ?_
  refine i_istore_n 1 rfl (by decide) rfl ?_
  exact h
theorem u_X11_copies_2_v3 {l : Launch} {E : xE} (l0 l1 l2 : Int) {M : xM} {Q : Option xV → xM → Prop} (h : (4 ≤ l2 → Q none M) ∧ (¬ 4 ≤ l2 → x_Ev l E (1, 0, 0) m_X11_copies 10 [(122, l0), (122, l1), (0, l2), (0, 0)] [] M Q)) : x_Ev l E (1, 0, 0) m_X11_copies 2 [(122, l0), (122, l1), (0, l2), (5, 0)] [] M Q := by
  refine i_iload_n 2 rfl rfl ?_
  refine i_aload_n 3 rfl rfl (by decide) ?_
  refine i_alen (τ := 22) (len := 4) 4 rfl (by decide) (by decide) ?_
  refine i_icmp_ge 40 5 rfl (by decide) (fun c => ?_) (fun c => ?_)
  · replace h := h.1 c
    exact i_return 28 rfl rfl h
  · replace h := h.2 c
    refine i_iconst 6 rfl (by decide) ?_
    refine i_istore_n 7 rfl (by decide) rfl ?_
    exact h
theorem u_X11_copies_10_v3 {l : Launch} {E : xE} (l0 l1 l2 l3 : Int) {M : xM} {Q : Option xV → xM → Prop} (h : ((0 : Int) ≤ l2 ∧ (l2 : Int) < 4) ∧ (3 ≤ l3 → ∀ zv1 : Int, zv1 = x_w (l2 + 1) → x_Ev l E (1, 0, 0) m_X11_copies 2 [(122, l0), (122, l1), (0, zv1), (5, 0)] [] M Q) ∧ (¬ 3 ≤ l3 → ((0 : Int) ≤ l2 ∧ (l2 : Int) < 4) ∧ ((0 : Int) ≤ l2 ∧ (l2 : Int) < 4) ∧ ((0 : Int) ≤ l3 ∧ (l3 : Int) < 3) ∧ (0 ≤ l3 ∧ l3 < 3) ∧ ∀ zM2 : xM, zM2 = x_wr M (l1 + 1 + 1 * l2) l3 (M (l0 + 1 + 1 * l2) l3) → ∀ zv3 : Int, zv3 = x_w (l3 + 1) → x_Ev l E (1, 0, 0) m_X11_copies 10 [(122, l0), (122, l1), (0, l2), (0, zv3)] [] zM2 Q)) : x_Ev l E (1, 0, 0) m_X11_copies 10 [(122, l0), (122, l1), (0, l2), (0, l3)] [] M Q := by
  refine i_iload_n 8 rfl rfl ?_
  refine i_aload_n 9 rfl rfl (by decide) ?_
  refine i_iload_n 10 rfl rfl ?_
  refine i_aald (τ := 22) (t := 114) (len := 4) (b := (l0 + 1 + 1 * l2)) 11 rfl (by decide) rfl h.1.1 h.1.2 ?_
  replace h := h.2
  refine i_alen (τ := 14) (len := 3) 12 rfl (by decide) (by decide) ?_
  refine i_icmp_ge 34 13 rfl (by decide) (fun c => ?_) (fun c => ?_)
  · replace h := h.1 c
    replace h := h _ rfl
    refine i_iinc 26 rfl rfl (by decide) rfl ?_
    refine i_goto 2 27 rfl (by decide) ?_
    refine i_weak ?_ h
    exact (And.intro (Or.inr rfl) (And.intro (Or.inr rfl) (And.intro (Or.inr rfl) (And.intro (Or.inl rfl) trivial))))
  · replace h := h.2 c
    refine i_aload_n 14 rfl rfl (by decide) ?_
    refine i_iload_n 15 rfl rfl ?_
    refine i_aald (τ := 22) (t := 114) (len := 4) (b := (l1 + 1 + 1 * l2)) 16 rfl (by decide) rfl h.1.1 h.1.2 ?_
    replace h := h.2
    refine i_iload_n 17 rfl rfl ?_
    refine i_aload_n 18 rfl rfl (by decide) ?_
    refine i_iload_n 19 rfl rfl ?_
    refine i_aald (τ := 22) (t := 114) (len := 4) (b := (l0 + 1 + 1 * l2)) 20 rfl (by decide) rfl h.1.1 h.1.2 ?_
    replace h := h.2
    refine i_iload_n 21 rfl rfl ?_
    refine i_iald (τ := 14) 22 rfl ⟨rfl, rfl, rfl, by decide⟩ h.1.1 h.1.2 ?_
    replace h := h.2
    have hb := h.1
    replace h := h.2 _ rfl
    refine i_iast (τ := 14) 23 rfl ⟨rfl, rfl, rfl, by decide⟩ hb.1 hb.2 ?_
    replace h := h _ rfl
    refine i_iinc 24 rfl rfl (by decide) rfl ?_
    refine i_goto 10 25 rfl (by decide) ?_
    exact h
theorem u_X11_held_0 {l : Launch} {E : xE} {M : xM} {Q : Option xV → xM → Prop} (h : x_Ev l E (2, 0, 0) m_X11_held 4 [(21, 103), (0, 0), (0, 0)] [] M Q) : x_Ev l E (2, 0, 0) m_X11_held 0 [(21, 103), (5, 0), (5, 0)] [] M Q := by
  refine i_iconst 0 rfl (by decide) ?_
  refine i_istore_n 1 rfl (by decide) rfl ?_
  refine i_iconst 2 rfl (by decide) ?_
  refine i_istore_n 3 rfl (by decide) rfl ?_
  exact h
theorem u_X11_held_4 {l : Launch} {E : xE} (l1 l2 : Int) {M : xM} {Q : Option xV → xM → Prop} (h : (10 ≤ l2 → Q (some (0, l1)) M) ∧ (¬ 10 ≤ l2 → x_Ev l E (1, 0, 0) m_X11_holds 0 [(21, 103), (0, l2)] [] M (fun r zM1 => ∃ zr2, r = some (0, zr2) ∧ (zr2 = 0 → ∀ zv3 : Int, zv3 = (x_w (l1 + 0)) → ∀ zv4 : Int, zv4 = x_w (l2 + 1) → x_Ev l E (2, 0, 0) m_X11_held 4 [(21, 103), (0, zv3), (0, zv4)] [] zM1 Q) ∧ (¬ zr2 = 0 → ∀ zv5 : Int, zv5 = (x_w (l1 + 1)) → ∀ zv6 : Int, zv6 = x_w (l2 + 1) → x_Ev l E (2, 0, 0) m_X11_held 4 [(21, 103), (0, zv5), (0, zv6)] [] zM1 Q)))) : x_Ev l E (2, 0, 0) m_X11_held 4 [(21, 103), (0, l1), (0, l2)] [] M Q := by
  refine i_iload_n 4 rfl rfl ?_
  refine i_bipush 5 rfl (by decide) ?_
  refine i_icmp_ge 32 6 rfl (by decide) (fun c => ?_) (fun c => ?_)
  · replace h := h.1 c
    refine i_iload_n 19 rfl rfl ?_
    exact i_ireturn 20 rfl rfl h
  · replace h := h.2 c
    refine i_iload_n 7 rfl rfl ?_
    refine i_aload_n 8 rfl rfl (by decide) ?_
    refine i_iload_n 9 rfl rfl ?_
    refine i_callV (c := 11) (y1 := m_X11_holds) (z1 := (1, 0, 0)) (z2 := (2, 0, 0)) [(0, l2)] 10 rfl ml_1746 ok_X11_holds vk_X11_holds ⟨by decide, rfl⟩ rfl ⟨rfl, Nat.le_of_ble_eq_true rfl⟩ (Nat.le_of_ble_eq_true rfl) ⟨by decide, rfl, rfl, rfl⟩ ?_
    refine h.mono (fun r zM1 h => ?_)
    obtain ⟨zr2, rfl, h⟩ := h
    simp only [Option.toList_some, Option.toList_none, List.cons_append, List.nil_append]
    refine i_if_eq 23 11 rfl (by decide) (fun c => ?_) (fun c => ?_)
    · replace h := h.1 c
      refine i_iconst 14 rfl (by decide) ?_
      refine i_iadd 15 rfl ?_
      replace h := h _ rfl
      refine i_istore_n 16 rfl (by decide) rfl ?_
      replace h := h _ rfl
      refine i_iinc 17 rfl rfl (by decide) rfl ?_
      refine i_goto 4 18 rfl (by decide) ?_
      exact h
    · replace h := h.2 c
      refine i_iconst 12 rfl (by decide) ?_
      refine i_goto 24 13 rfl (by decide) ?_
      refine i_iadd 15 rfl ?_
      replace h := h _ rfl
      refine i_istore_n 16 rfl (by decide) rfl ?_
      replace h := h _ rfl
      refine i_iinc 17 rfl rfl (by decide) rfl ?_
      refine i_goto 4 18 rfl (by decide) ?_
      exact h
theorem u_X11_laysPrimal_0 {l : Launch} {E : xE} (a1 a2 : Int) {M : xM} {Q : Option xV → xM → Prop} (h : ∀ zM1 : xM, zM1 = x_wr M 103 17 0 → x_Ev l E (2, 0, 0) m_X11_laysPrimal 7 [(21, 103), (0, a1), (0, a2), (0, 0), (5, 0)] [] zM1 Q) : x_Ev l E (2, 0, 0) m_X11_laysPrimal 0 [(21, 103), (0, a1), (0, a2), (5, 0), (5, 0)] [] M Q := by
  refine i_aload_n 0 rfl rfl (by decide) ?_
  refine i_iconst 1 rfl (by decide) ?_
  replace h := h _ rfl
  refine i_putI (c := 11) (k := 17) 2 rfl fl_1066 (by decide) ⟨rfl, rfl, rfl⟩ ?_
  refine i_iconst 3 rfl (by decide) ?_
  refine i_istore_n 4 rfl (by decide) rfl ?_
  exact h
theorem u_X11_laysPrimal_7 {l : Launch} {E : xE} (l1 l2 l3 : Int) {M : xM} {Q : Option xV → xM → Prop} (h : x_Ev l E (1, 0, 0) m_X11_pairs 0 [(21, 103), (0, l1)] [] M (fun r zM1 => ∃ zr2, r = some (0, zr2) ∧ (zr2 ≤ l3 → Q none zM1) ∧ (¬ zr2 ≤ l3 → (¬ (x_iand (x_ishr l2 l3) 1) = 0 → x_Ev l E (2, 0, 0) m_X11_laysPrimal 30 [(21, 103), (0, l1), (0, l2), (0, l3), (0, 0)] [] zM1 Q) ∧ ((x_iand (x_ishr l2 l3) 1) = 0 → ∀ zv3 : Int, zv3 = x_w (l3 + 1) → x_Ev l E (2, 0, 0) m_X11_laysPrimal 7 [(21, 103), (0, l1), (0, l2), (0, zv3), (5, 0)] [] zM1 Q)))) : x_Ev l E (2, 0, 0) m_X11_laysPrimal 7 [(21, 103), (0, l1), (0, l2), (0, l3), (5, 0)] [] M Q := by
  refine i_iload_n 5 rfl rfl ?_
  refine i_aload_n 6 rfl rfl (by decide) ?_
  refine i_iload_n 7 rfl rfl ?_
  refine i_callV (c := 11) (y1 := m_X11_pairs) (z1 := (1, 0, 0)) (z2 := (2, 0, 0)) [(0, l1)] 8 rfl ml_1255 ok_X11_pairs vk_X11_pairs ⟨by decide, rfl⟩ rfl ⟨rfl, Nat.le_of_ble_eq_true rfl⟩ (Nat.le_of_ble_eq_true rfl) ⟨by decide, rfl, rfl, rfl⟩ ?_
  refine h.mono (fun r zM1 h => ?_)
  obtain ⟨zr2, rfl, h⟩ := h
  simp only [Option.toList_some, Option.toList_none, List.cons_append, List.nil_append]
  refine i_icmp_ge 150 9 rfl (by decide) (fun c => ?_) (fun c => ?_)
  · replace h := h.1 c
    exact i_return 89 rfl rfl h
  · replace h := h.2 c
    refine i_iload_n 10 rfl rfl ?_
    refine i_iload_n 11 rfl rfl ?_
    refine i_ishr 12 rfl ?_
    refine i_iconst 13 rfl (by decide) ?_
    refine i_iand 14 rfl ?_
    refine i_if_ne 27 15 rfl (by decide) (fun c => ?_) (fun c => ?_)
    · replace h := h.1 c
      refine i_iconst 17 rfl (by decide) ?_
      refine i_istore 18 rfl (by decide) rfl ?_
      exact h
    · replace h := h.2 c
      refine i_goto 144 16 rfl (by decide) ?_
      replace h := h _ rfl
      refine i_iinc 87 rfl rfl (by decide) rfl ?_
      refine i_goto 7 88 rfl (by decide) ?_
      exact h
theorem u_X11_laysPrimal_30 {l : Launch} {E : xE} (l1 l2 l3 l4 : Int) {M : xM} {Q : Option xV → xM → Prop} (h : ((0 : Int) ≤ l1 ∧ (l1 : Int) < 3) ∧ ((M 106 l1) ≤ l4 → ((0 : Int) ≤ l1 ∧ (l1 : Int) < 3) ∧ ((M 107 l1) ≤ l3 → (0 ≤ (M 103 17) ∧ (M 103 17) < 4) ∧ ∀ zM1 : xM, zM1 = x_wr M 147 (M 103 17) 0 → ∀ zM2 : xM, zM2 = x_wr zM1 103 17 (x_w ((zM1 103 17) + 1)) → ∀ zv3 : Int, zv3 = x_w (l3 + 1) → x_Ev l E (2, 0, 0) m_X11_laysPrimal 7 [(21, 103), (0, l1), (0, l2), (0, zv3), (5, 0)] [] zM2 Q) ∧ (¬ (M 107 l1) ≤ l3 → ((0 : Int) ≤ l1 ∧ (l1 : Int) < 3) ∧ ((0 : Int) ≤ l3 ∧ (l3 : Int) < 4) ∧ (0 ≤ (M 103 17) ∧ (M 103 17) < 4) ∧ ∀ zM4 : xM, zM4 = x_wr M 147 (M 103 17) (M (137 + 1 + 1 * l1) l3) → ∀ zM5 : xM, zM5 = x_wr zM4 103 17 (x_w ((zM4 103 17) + 1)) → ∀ zv6 : Int, zv6 = x_w (l3 + 1) → x_Ev l E (2, 0, 0) m_X11_laysPrimal 7 [(21, 103), (0, l1), (0, l2), (0, zv6), (5, 0)] [] zM5 Q)) ∧ (¬ (M 106 l1) ≤ l4 → ((0 : Int) ≤ (M 103 17) ∧ ((M 103 17) : Int) < 4) ∧ ((0 : Int) ≤ l1 ∧ (l1 : Int) < 3) ∧ ((M 107 l1) ≤ l3 → ((0 : Int) ≤ l1 ∧ (l1 : Int) < 3) ∧ (¬ (x_w (l3 - (M 107 l1))) = l4 → (0 ≤ l4 ∧ l4 < 4) ∧ ∀ zM7 : xM, zM7 = x_wr M (142 + 1 + 1 * (M 103 17)) l4 0 → ∀ zv8 : Int, zv8 = x_w (l4 + 1) → x_Ev l E (2, 0, 0) m_X11_laysPrimal 30 [(21, 103), (0, l1), (0, l2), (0, l3), (0, zv8)] [] zM7 Q) ∧ ((x_w (l3 - (M 107 l1))) = l4 → (0 ≤ l4 ∧ l4 < 4) ∧ ∀ zM9 : xM, zM9 = x_wr M (142 + 1 + 1 * (M 103 17)) l4 1 → ∀ zv10 : Int, zv10 = x_w (l4 + 1) → x_Ev l E (2, 0, 0) m_X11_laysPrimal 30 [(21, 103), (0, l1), (0, l2), (0, l3), (0, zv10)] [] zM9 Q)) ∧ (¬ (M 107 l1) ≤ l3 → ((0 : Int) ≤ l1 ∧ (l1 : Int) < 3) ∧ ((0 : Int) ≤ l3 ∧ (l3 : Int) < 4) ∧ ((0 : Int) ≤ l4 ∧ (l4 : Int) < 3) ∧ (0 ≤ l4 ∧ l4 < 4) ∧ ∀ zM11 : xM, zM11 = x_wr M (142 + 1 + 1 * (M 103 17)) l4 (M ((121 + 1 + 5 * l1) + 1 + 1 * l3) l4) → ∀ zv12 : Int, zv12 = x_w (l4 + 1) → x_Ev l E (2, 0, 0) m_X11_laysPrimal 30 [(21, 103), (0, l1), (0, l2), (0, l3), (0, zv12)] [] zM11 Q))) : x_Ev l E (2, 0, 0) m_X11_laysPrimal 30 [(21, 103), (0, l1), (0, l2), (0, l3), (0, l4)] [] M Q := by
  refine i_iload 19 rfl rfl ?_
  refine i_aload_n 20 rfl rfl (by decide) ?_
  refine i_getP (c := 11) (k := 3) (t := 114) (b := 106) 21 rfl fl_1052 (by decide) rfl (by decide) rfl ?_
  refine i_iload_n 22 rfl rfl ?_
  refine i_iald (τ := 14) 23 rfl ⟨rfl, rfl, rfl, by decide⟩ h.1.1 h.1.2 ?_
  replace h := h.2
  refine i_icmp_ge 102 24 rfl (by decide) (fun c => ?_) (fun c => ?_)
  · replace h := h.1 c
    refine i_aload_n 61 rfl rfl (by decide) ?_
    refine i_getP (c := 11) (k := 19) (t := 125) (b := 147) 62 rfl fl_1068 (by decide) rfl (by decide) rfl ?_
    refine i_aload_n 63 rfl rfl (by decide) ?_
    refine i_getI (c := 11) (k := 17) 64 rfl fl_1066 (by decide) (by decide) ?_
    refine i_iload_n 65 rfl rfl ?_
    refine i_aload_n 66 rfl rfl (by decide) ?_
    refine i_getP (c := 11) (k := 4) (t := 114) (b := 107) 67 rfl fl_1053 (by decide) rfl (by decide) rfl ?_
    refine i_iload_n 68 rfl rfl ?_
    refine i_iald (τ := 14) 69 rfl ⟨rfl, rfl, rfl, by decide⟩ h.1.1 h.1.2 ?_
    replace h := h.2
    refine i_icmp_ge 132 70 rfl (by decide) (fun c => ?_) (fun c => ?_)
    · replace h := h.1 c
      refine i_lconst (w := 0) 79 rfl (by decide) ?_
      have hb := h.1
      replace h := h.2 _ rfl
      refine i_last (τ := 25) 80 rfl ⟨rfl, rfl, rfl, by decide⟩ hb.1 hb.2 ?_
      refine i_aload_n 81 rfl rfl (by decide) ?_
      refine i_dup 82 rfl (Nat.ne_of_beq_eq_false rfl) ?_
      refine i_getI (c := 11) (k := 17) 83 rfl fl_1066 (by decide) (by decide) ?_
      refine i_iconst 84 rfl (by decide) ?_
      refine i_iadd 85 rfl ?_
      replace h := h _ rfl
      refine i_putI (c := 11) (k := 17) 86 rfl fl_1066 (by decide) ⟨rfl, rfl, rfl⟩ ?_
      replace h := h _ rfl
      refine i_iinc 87 rfl rfl (by decide) rfl ?_
      refine i_goto 7 88 rfl (by decide) ?_
      refine i_weak ?_ h
      exact (And.intro (Or.inr rfl) (And.intro (Or.inr rfl) (And.intro (Or.inr rfl) (And.intro (Or.inr rfl) (And.intro (Or.inl rfl) trivial)))))
    · replace h := h.2 c
      refine i_aload_n 71 rfl rfl (by decide) ?_
      refine i_getP (c := 11) (k := 7) (t := 124) (b := 137) 72 rfl fl_1056 (by decide) rfl (by decide) rfl ?_
      refine i_iload_n 73 rfl rfl ?_
      refine i_aald (τ := 24) (t := 103) (len := 3) (b := (137 + 1 + 1 * l1)) 74 rfl (by decide) rfl h.1.1 h.1.2 ?_
      replace h := h.2
      refine i_iload_n 75 rfl rfl ?_
      refine i_iald (τ := 3) 76 rfl ⟨rfl, rfl, rfl, by decide⟩ h.1.1 h.1.2 ?_
      replace h := h.2
      refine i_i2l 77 rfl ?_
      refine i_goto 133 78 rfl (by decide) ?_
      have hb := h.1
      replace h := h.2 _ rfl
      refine i_last (τ := 25) 80 rfl ⟨rfl, rfl, rfl, by decide⟩ hb.1 hb.2 ?_
      refine i_aload_n 81 rfl rfl (by decide) ?_
      refine i_dup 82 rfl (Nat.ne_of_beq_eq_false rfl) ?_
      refine i_getI (c := 11) (k := 17) 83 rfl fl_1066 (by decide) (by decide) ?_
      refine i_iconst 84 rfl (by decide) ?_
      refine i_iadd 85 rfl ?_
      replace h := h _ rfl
      refine i_putI (c := 11) (k := 17) 86 rfl fl_1066 (by decide) ⟨rfl, rfl, rfl⟩ ?_
      replace h := h _ rfl
      refine i_iinc 87 rfl rfl (by decide) rfl ?_
      refine i_goto 7 88 rfl (by decide) ?_
      refine i_weak ?_ h
      exact (And.intro (Or.inr rfl) (And.intro (Or.inr rfl) (And.intro (Or.inr rfl) (And.intro (Or.inr rfl) (And.intro (Or.inl rfl) trivial)))))
  · replace h := h.2 c
    refine i_aload_n 25 rfl rfl (by decide) ?_
    refine i_getP (c := 11) (k := 18) (t := 126) (b := 142) 26 rfl fl_1067 (by decide) rfl (by decide) rfl ?_
    refine i_aload_n 27 rfl rfl (by decide) ?_
    refine i_getI (c := 11) (k := 17) 28 rfl fl_1066 (by decide) (by decide) ?_
    refine i_aald (τ := 26) (t := 125) (len := 4) (b := (142 + 1 + 1 * (M 103 17))) 29 rfl (by decide) rfl h.1.1 h.1.2 ?_
    replace h := h.2
    refine i_iload 30 rfl rfl ?_
    refine i_iload_n 31 rfl rfl ?_
    refine i_aload_n 32 rfl rfl (by decide) ?_
    refine i_getP (c := 11) (k := 4) (t := 114) (b := 107) 33 rfl fl_1053 (by decide) rfl (by decide) rfl ?_
    refine i_iload_n 34 rfl rfl ?_
    refine i_iald (τ := 14) 35 rfl ⟨rfl, rfl, rfl, by decide⟩ h.1.1 h.1.2 ?_
    replace h := h.2
    refine i_icmp_ge 77 36 rfl (by decide) (fun c => ?_) (fun c => ?_)
    · replace h := h.1 c
      refine i_iload_n 47 rfl rfl ?_
      refine i_aload_n 48 rfl rfl (by decide) ?_
      refine i_getP (c := 11) (k := 4) (t := 114) (b := 107) 49 rfl fl_1053 (by decide) rfl (by decide) rfl ?_
      refine i_iload_n 50 rfl rfl ?_
      refine i_iald (τ := 14) 51 rfl ⟨rfl, rfl, rfl, by decide⟩ h.1.1 h.1.2 ?_
      replace h := h.2
      refine i_isub 52 rfl ?_
      refine i_iload 53 rfl rfl ?_
      refine i_icmp_ne 94 54 rfl (by decide) (fun c => ?_) (fun c => ?_)
      · replace h := h.1 c
        refine i_lconst (w := 0) 57 rfl (by decide) ?_
        have hb := h.1
        replace h := h.2 _ rfl
        refine i_last (τ := 25) 58 rfl ⟨rfl, rfl, rfl, by decide⟩ hb.1 hb.2 ?_
        replace h := h _ rfl
        refine i_iinc 59 rfl rfl (by decide) rfl ?_
        refine i_goto 30 60 rfl (by decide) ?_
        exact h
      · replace h := h.2 c
        refine i_lconst (w := 1) 55 rfl (by decide) ?_
        refine i_goto 95 56 rfl (by decide) ?_
        have hb := h.1
        replace h := h.2 _ rfl
        refine i_last (τ := 25) 58 rfl ⟨rfl, rfl, rfl, by decide⟩ hb.1 hb.2 ?_
        replace h := h _ rfl
        refine i_iinc 59 rfl rfl (by decide) rfl ?_
        refine i_goto 30 60 rfl (by decide) ?_
        exact h
    · replace h := h.2 c
      refine i_aload_n 37 rfl rfl (by decide) ?_
      refine i_getP (c := 11) (k := 6) (t := 123) (b := 121) 38 rfl fl_1055 (by decide) rfl (by decide) rfl ?_
      refine i_iload_n 39 rfl rfl ?_
      refine i_aald (τ := 23) (t := 122) (len := 3) (b := (121 + 1 + 5 * l1)) 40 rfl (by decide) rfl h.1.1 h.1.2 ?_
      replace h := h.2
      refine i_iload_n 41 rfl rfl ?_
      refine i_aald (τ := 22) (t := 114) (len := 4) (b := ((121 + 1 + 5 * l1) + 1 + 1 * l3)) 42 rfl (by decide) rfl h.1.1 h.1.2 ?_
      replace h := h.2
      refine i_iload 43 rfl rfl ?_
      refine i_iald (τ := 14) 44 rfl ⟨rfl, rfl, rfl, by decide⟩ h.1.1 h.1.2 ?_
      replace h := h.2
      refine i_i2l 45 rfl ?_
      refine i_goto 95 46 rfl (by decide) ?_
      have hb := h.1
      replace h := h.2 _ rfl
      refine i_last (τ := 25) 58 rfl ⟨rfl, rfl, rfl, by decide⟩ hb.1 hb.2 ?_
      replace h := h _ rfl
      refine i_iinc 59 rfl rfl (by decide) rfl ?_
      refine i_goto 30 60 rfl (by decide) ?_
      exact h
theorem u_X11_solves_0 {l : Launch} {E : xE} {M : xM} {Q : Option xV → xM → Prop} (h : x_Ev l E (6, 0, 0) m_X11_determinant 0 [(21, 103), (0, 0), (0, (x_w ((x_ishl 1 (M 103 17)) - 1))), (5, 0), (5, 0), (5, 0), (5, 0), (5, 0), (5, 0)] [] M (fun r zM1 => ∃ zr2, r = some (1, zr2) ∧ (¬ zr2 = 0 → x_Ev l E (8, 0, 0) m_X11_solves 24 [(21, 103), (1, zr2), (5, 0), (0, 0)] [] zM1 Q) ∧ (zr2 = 0 → Q (some (1, 0)) zM1))) : x_Ev l E (8, 0, 0) m_X11_solves 0 [(21, 103), (5, 0), (5, 0), (5, 0)] [] M Q := by
  refine i_aload_n 0 rfl rfl (by decide) ?_
  refine i_iconst 1 rfl (by decide) ?_
  refine i_iconst 2 rfl (by decide) ?_
  refine i_aload_n 3 rfl rfl (by decide) ?_
  refine i_getI (c := 11) (k := 17) 4 rfl fl_1066 (by decide) (by decide) ?_
  refine i_ishl 5 rfl ?_
  refine i_iconst 6 rfl (by decide) ?_
  refine i_isub 7 rfl ?_
  refine i_callV (c := 11) (y1 := m_X11_determinant) (z1 := (6, 0, 0)) (z2 := (8, 0, 0)) [(0, 0), (0, (x_w ((x_ishl 1 (M 103 17)) - 1)))] 8 rfl ml_1268 ok_X11_determinant vk_X11_determinant ⟨by decide, rfl⟩ rfl ⟨rfl, Nat.le_of_ble_eq_true rfl⟩ (Nat.le_of_ble_eq_true rfl) ⟨by decide, rfl, rfl, rfl⟩ ?_
  refine h.mono (fun r zM1 h => ?_)
  obtain ⟨zr2, rfl, h⟩ := h
  simp only [Option.toList_some, Option.toList_none, List.cons_append, List.nil_append]
  refine i_lstore_n 9 rfl (by decide) rfl ?_
  refine i_lload_n 10 rfl rfl ?_
  refine i_lconst (w := 0) 11 rfl (by decide) ?_
  refine i_lcmp_ne 22 12 rfl rfl (by decide) (fun c => ?_) (fun c => ?_)
  · replace h := h.1 c
    refine i_iconst 16 rfl (by decide) ?_
    refine i_istore_n 17 rfl (by decide) rfl ?_
    exact h
  · replace h := h.2 c
    refine i_lconst (w := 0) 14 rfl (by decide) ?_
    exact i_lreturn 15 rfl rfl h
theorem u_X11_solves_24 {l : Launch} {E : xE} (l1 l3 : Int) {M : xM} {Q : Option xV → xM → Prop} (h : ((M 103 17) ≤ l3 → (0 ≤ l1 → Q (some (1, l1)) M) ∧ (¬ 0 ≤ l1 → Q (some (1, (x_W (-l1)))) M)) ∧ (¬ (M 103 17) ≤ l3 → (0 ≤ l1 → x_Ev l E (7, 0, 0) m_X11_swapped 0 [(21, 103), (0, l3), (5, 0), (5, 0), (5, 0), (5, 0), (5, 0)] [] M (fun r zM1 => ∃ zr2, r = some (1, zr2) ∧ (0 ≤ l3 ∧ l3 < 4) ∧ ∀ zM3 : xM, zM3 = x_wr zM1 148 l3 zr2 → ∀ zv4 : Int, zv4 = x_w (l3 + 1) → x_Ev l E (8, 0, 0) m_X11_solves 24 [(21, 103), (1, l1), (5, 0), (0, zv4)] [] zM3 Q)) ∧ (¬ 0 ≤ l1 → x_Ev l E (7, 0, 0) m_X11_swapped 0 [(21, 103), (0, l3), (5, 0), (5, 0), (5, 0), (5, 0), (5, 0)] [] M (fun r zM5 => ∃ zr6, r = some (1, zr6) ∧ (0 ≤ l3 ∧ l3 < 4) ∧ ∀ zM7 : xM, zM7 = x_wr zM5 148 l3 (x_W (-zr6)) → ∀ zv8 : Int, zv8 = x_w (l3 + 1) → x_Ev l E (8, 0, 0) m_X11_solves 24 [(21, 103), (1, l1), (5, 0), (0, zv8)] [] zM7 Q)))) : x_Ev l E (8, 0, 0) m_X11_solves 24 [(21, 103), (1, l1), (5, 0), (0, l3)] [] M Q := by
  refine i_iload_n 18 rfl rfl ?_
  refine i_aload_n 19 rfl rfl (by decide) ?_
  refine i_getI (c := 11) (k := 17) 20 rfl fl_1066 (by decide) (by decide) ?_
  refine i_icmp_ge 64 21 rfl (by decide) (fun c => ?_) (fun c => ?_)
  · replace h := h.1 c
    refine i_lload_n 40 rfl rfl ?_
    refine i_lconst (w := 0) 41 rfl (by decide) ?_
    refine i_lcmp_ge 75 42 rfl rfl (by decide) (fun c => ?_) (fun c => ?_)
    · replace h := h.1 c
      refine i_lload_n 47 rfl rfl ?_
      exact i_lreturn 48 rfl rfl h
    · replace h := h.2 c
      refine i_lload_n 44 rfl rfl ?_
      refine i_lneg 45 rfl ?_
      refine i_goto 76 46 rfl (by decide) ?_
      exact i_lreturn 48 rfl rfl h
  · replace h := h.2 c
    refine i_aload_n 22 rfl rfl (by decide) ?_
    refine i_getP (c := 11) (k := 20) (t := 125) (b := 148) 23 rfl fl_1069 (by decide) rfl (by decide) rfl ?_
    refine i_iload_n 24 rfl rfl ?_
    refine i_lload_n 25 rfl rfl ?_
    refine i_lconst (w := 0) 26 rfl (by decide) ?_
    refine i_lcmp_ge 52 27 rfl rfl (by decide) (fun c => ?_) (fun c => ?_)
    · replace h := h.1 c
      refine i_aload_n 34 rfl rfl (by decide) ?_
      refine i_iload_n 35 rfl rfl ?_
      refine i_callV (c := 11) (y1 := m_X11_swapped) (z1 := (7, 0, 0)) (z2 := (8, 0, 0)) [(0, l3)] 36 rfl ml_1272 ok_X11_swapped vk_X11_swapped ⟨by decide, rfl⟩ rfl ⟨rfl, Nat.le_of_ble_eq_true rfl⟩ (Nat.le_of_ble_eq_true rfl) ⟨by decide, rfl, rfl, rfl⟩ ?_
      refine h.mono (fun r zM1 h => ?_)
      obtain ⟨zr2, rfl, h⟩ := h
      simp only [Option.toList_some, Option.toList_none, List.cons_append, List.nil_append]
      have hb := h.1
      replace h := h.2 _ rfl
      refine i_last (τ := 25) 37 rfl ⟨rfl, rfl, rfl, by decide⟩ hb.1 hb.2 ?_
      replace h := h _ rfl
      refine i_iinc 38 rfl rfl (by decide) rfl ?_
      refine i_goto 24 39 rfl (by decide) ?_
      exact h
    · replace h := h.2 c
      refine i_aload_n 29 rfl rfl (by decide) ?_
      refine i_iload_n 30 rfl rfl ?_
      refine i_callV (c := 11) (y1 := m_X11_swapped) (z1 := (7, 0, 0)) (z2 := (8, 0, 0)) [(0, l3)] 31 rfl ml_1272 ok_X11_swapped vk_X11_swapped ⟨by decide, rfl⟩ rfl ⟨rfl, Nat.le_of_ble_eq_true rfl⟩ (Nat.le_of_ble_eq_true rfl) ⟨by decide, rfl, rfl, rfl⟩ ?_
      refine h.mono (fun r zM5 h => ?_)
      obtain ⟨zr6, rfl, h⟩ := h
      simp only [Option.toList_some, Option.toList_none, List.cons_append, List.nil_append]
      refine i_lneg 32 rfl ?_
      refine i_goto 57 33 rfl (by decide) ?_
      have hb := h.1
      replace h := h.2 _ rfl
      refine i_last (τ := 25) 37 rfl ⟨rfl, rfl, rfl, by decide⟩ hb.1 hb.2 ?_
      replace h := h _ rfl
      refine i_iinc 38 rfl rfl (by decide) rfl ?_
      refine i_goto 24 39 rfl (by decide) ?_
      exact h
theorem u_X11_mayChoose_0 {l : Launch} {E : xE} (a1 a2 : Int) {M : xM} {Q : Option xV → xM → Prop} (h : x_Ev l E (2, 0, 0) m_X11_mayChoose 3 [(21, 103), (0, a1), (1, a2), (5, 0), (0, 0)] [] M Q) : x_Ev l E (2, 0, 0) m_X11_mayChoose 0 [(21, 103), (0, a1), (1, a2), (5, 0), (5, 0)] [] M Q := by
  refine i_iconst 0 rfl (by decide) ?_
  refine i_istore 1 rfl (by decide) rfl ?_
  exact h
theorem u_X11_mayChoose_3 {l : Launch} {E : xE} (l1 l2 l4 : Int) {M : xM} {Q : Option xV → xM → Prop} (h : ((0 : Int) ≤ l1 ∧ (l1 : Int) < 3) ∧ ((M 106 l1) ≤ l4 → x_Ev l E (2, 0, 0) m_X11_mayChoose 37 [(21, 103), (0, l1), (1, l2), (5, 0), (0, 0)] [] M Q) ∧ (¬ (M 106 l1) ≤ l4 → ((0 : Int) ≤ l4 ∧ (l4 : Int) < 4) ∧ (0 ≤ (M 148 l4) → ∀ zv1 : Int, zv1 = x_w (l4 + 1) → x_Ev l E (2, 0, 0) m_X11_mayChoose 3 [(21, 103), (0, l1), (1, l2), (5, 0), (0, zv1)] [] M Q) ∧ (¬ 0 ≤ (M 148 l4) → Q (some (0, 0)) M))) : x_Ev l E (2, 0, 0) m_X11_mayChoose 3 [(21, 103), (0, l1), (1, l2), (5, 0), (0, l4)] [] M Q := by
  refine i_iload 2 rfl rfl ?_
  refine i_aload_n 3 rfl rfl (by decide) ?_
  refine i_getP (c := 11) (k := 3) (t := 114) (b := 106) 4 rfl fl_1052 (by decide) rfl (by decide) rfl ?_
  refine i_iload_n 5 rfl rfl ?_
  refine i_iald (τ := 14) 6 rfl ⟨rfl, rfl, rfl, by decide⟩ h.1.1 h.1.2 ?_
  replace h := h.2
  refine i_icmp_ge 34 7 rfl (by decide) (fun c => ?_) (fun c => ?_)
  · replace h := h.1 c
    refine i_iconst 19 rfl (by decide) ?_
    refine i_istore 20 rfl (by decide) rfl ?_
    exact h
  · replace h := h.2 c
    refine i_aload_n 8 rfl rfl (by decide) ?_
    refine i_getP (c := 11) (k := 20) (t := 125) (b := 148) 9 rfl fl_1069 (by decide) rfl (by decide) rfl ?_
    refine i_iload 10 rfl rfl ?_
    refine i_lald (τ := 25) 11 rfl ⟨rfl, rfl, rfl, by decide⟩ h.1.1 h.1.2 ?_
    replace h := h.2
    refine i_lconst (w := 0) 12 rfl (by decide) ?_
    refine i_lcmp_ge 28 13 rfl rfl (by decide) (fun c => ?_) (fun c => ?_)
    · replace h := h.1 c
      replace h := h _ rfl
      refine i_iinc 17 rfl rfl (by decide) rfl ?_
      refine i_goto 3 18 rfl (by decide) ?_
      exact h
    · replace h := h.2 c
      refine i_iconst 15 rfl (by decide) ?_
      exact i_zreturn 16 rfl rfl (by decide) h
theorem u_X11_mayChoose_37 {l : Launch} {E : xE} (l1 l2 l4 : Int) {M : xM} {Q : Option xV → xM → Prop} (h : ((0 : Int) ≤ l1 ∧ (l1 : Int) < 3) ∧ ((M 107 l1) ≤ l4 → Q (some (0, 1)) M) ∧ (¬ (M 107 l1) ≤ l4 → x_Ev l E (1, 0, 0) m_X11_rowSum 0 [(21, 103), (0, l1), (0, l4), (5, 0), (5, 0), (5, 0)] [] M (fun r zM1 => ∃ zr2, r = some (1, zr2) ∧ ((0 : Int) ≤ l1 ∧ (l1 : Int) < 3) ∧ ((0 : Int) ≤ l4 ∧ (l4 : Int) < 4) ∧ (zr2 ≤ (x_W ((zM1 (137 + 1 + 1 * l1) l4) * l2)) → ∀ zv3 : Int, zv3 = x_w (l4 + 1) → x_Ev l E (2, 0, 0) m_X11_mayChoose 37 [(21, 103), (0, l1), (1, l2), (5, 0), (0, zv3)] [] zM1 Q) ∧ (¬ zr2 ≤ (x_W ((zM1 (137 + 1 + 1 * l1) l4) * l2)) → Q (some (0, 0)) zM1)))) : x_Ev l E (2, 0, 0) m_X11_mayChoose 37 [(21, 103), (0, l1), (1, l2), (5, 0), (0, l4)] [] M Q := by
  refine i_iload 21 rfl rfl ?_
  refine i_aload_n 22 rfl rfl (by decide) ?_
  refine i_getP (c := 11) (k := 4) (t := 114) (b := 107) 23 rfl fl_1053 (by decide) rfl (by decide) rfl ?_
  refine i_iload_n 24 rfl rfl ?_
  refine i_iald (τ := 14) 25 rfl ⟨rfl, rfl, rfl, by decide⟩ h.1.1 h.1.2 ?_
  replace h := h.2
  refine i_icmp_ge 79 26 rfl (by decide) (fun c => ?_) (fun c => ?_)
  · replace h := h.1 c
    refine i_iconst 46 rfl (by decide) ?_
    exact i_zreturn 47 rfl rfl (by decide) h
  · replace h := h.2 c
    refine i_aload_n 27 rfl rfl (by decide) ?_
    refine i_iload_n 28 rfl rfl ?_
    refine i_iload 29 rfl rfl ?_
    refine i_callV (c := 11) (y1 := m_X11_rowSum) (z1 := (1, 0, 0)) (z2 := (2, 0, 0)) [(0, l1), (0, l4)] 30 rfl ml_1280 ok_X11_rowSum vk_X11_rowSum ⟨by decide, rfl⟩ rfl ⟨rfl, Nat.le_of_ble_eq_true rfl⟩ (Nat.le_of_ble_eq_true rfl) ⟨by decide, rfl, rfl, rfl⟩ ?_
    refine h.mono (fun r zM1 h => ?_)
    obtain ⟨zr2, rfl, h⟩ := h
    simp only [Option.toList_some, Option.toList_none, List.cons_append, List.nil_append]
    refine i_aload_n 31 rfl rfl (by decide) ?_
    refine i_getP (c := 11) (k := 7) (t := 124) (b := 137) 32 rfl fl_1056 (by decide) rfl (by decide) rfl ?_
    refine i_iload_n 33 rfl rfl ?_
    refine i_aald (τ := 24) (t := 103) (len := 3) (b := (137 + 1 + 1 * l1)) 34 rfl (by decide) rfl h.1.1 h.1.2 ?_
    replace h := h.2
    refine i_iload 35 rfl rfl ?_
    refine i_iald (τ := 3) 36 rfl ⟨rfl, rfl, rfl, by decide⟩ h.1.1 h.1.2 ?_
    replace h := h.2
    refine i_i2l 37 rfl ?_
    refine i_lload_n 38 rfl rfl ?_
    refine i_lmul 39 rfl ?_
    refine i_lcmp_le 73 40 rfl rfl (by decide) (fun c => ?_) (fun c => ?_)
    · replace h := h.1 c
      replace h := h _ rfl
      refine i_iinc 44 rfl rfl (by decide) rfl ?_
      refine i_goto 37 45 rfl (by decide) ?_
      exact h
    · replace h := h.2 c
      refine i_iconst 42 rfl (by decide) ?_
      exact i_zreturn 43 rfl rfl (by decide) h
theorem u_X11_takesPlan_0 {l : Launch} {E : xE} (a1 a2 : Int) {M : xM} {Q : Option xV → xM → Prop} (h : x_Ev l E (3, 0, 0) m_X11_takesPlan 3 [(21, 103), (0, a1), (1, a2), (5, 0), (0, 0), (5, 0), (5, 0)] [] M Q) : x_Ev l E (3, 0, 0) m_X11_takesPlan 0 [(21, 103), (0, a1), (1, a2), (5, 0), (5, 0), (5, 0), (5, 0)] [] M Q := by
  refine i_iconst 0 rfl (by decide) ?_
  refine i_istore 1 rfl (by decide) rfl ?_
  exact h
theorem u_X11_takesPlan_3 {l : Launch} {E : xE} (l1 l2 l4 : Int) {M : xM} {Q : Option xV → xM → Prop} (h : ((0 : Int) ≤ l1 ∧ (l1 : Int) < 3) ∧ ((M 149 l1) ≤ l4 → ((0 : Int) ≤ l1 ∧ (l1 : Int) < 3) ∧ ((M 149 l1) ≤ l4 → ((0 : Int) ≤ l1 ∧ (l1 : Int) < 3) ∧ ∀ zv1 : Int, zv1 = (M 149 l1) → x_Ev l E (3, 0, 0) m_X11_takesPlan 62 [(21, 103), (0, l1), (1, l2), (5, 0), (0, l4), (0, zv1), (5, 0)] [] M Q) ∧ (¬ (M 149 l1) ≤ l4 → x_Ev l E (1, 0, 0) m_X11_order 0 [(21, 103), (0, l1), (0, l4), (1, l2), (5, 0), (5, 0), (5, 0), (5, 0), (5, 0), (5, 0)] [] M (fun r zM2 => ∃ zr3, r = some (0, zr3) ∧ (¬ zr3 = 0 → ((0 : Int) ≤ l1 ∧ (l1 : Int) < 3) ∧ ∀ zv4 : Int, zv4 = (zM2 149 l1) → x_Ev l E (3, 0, 0) m_X11_takesPlan 62 [(21, 103), (0, l1), (1, l2), (5, 0), (0, l4), (0, zv4), (5, 0)] [] zM2 Q) ∧ (zr3 = 0 → Q none zM2)))) ∧ (¬ (M 149 l1) ≤ l4 → x_Ev l E (1, 0, 0) m_X11_order 0 [(21, 103), (0, l1), (0, l4), (1, l2), (5, 0), (5, 0), (5, 0), (5, 0), (5, 0), (5, 0)] [] M (fun r zM5 => ∃ zr6, r = some (0, zr6) ∧ (zr6 ≤ 0 → ((0 : Int) ≤ l1 ∧ (l1 : Int) < 3) ∧ ((zM5 149 l1) ≤ l4 → ((0 : Int) ≤ l1 ∧ (l1 : Int) < 3) ∧ ∀ zv7 : Int, zv7 = (zM5 149 l1) → x_Ev l E (3, 0, 0) m_X11_takesPlan 62 [(21, 103), (0, l1), (1, l2), (5, 0), (0, l4), (0, zv7), (5, 0)] [] zM5 Q) ∧ (¬ (zM5 149 l1) ≤ l4 → x_Ev l E (1, 0, 0) m_X11_order 0 [(21, 103), (0, l1), (0, l4), (1, l2), (5, 0), (5, 0), (5, 0), (5, 0), (5, 0), (5, 0)] [] zM5 (fun r zM8 => ∃ zr9, r = some (0, zr9) ∧ (¬ zr9 = 0 → ((0 : Int) ≤ l1 ∧ (l1 : Int) < 3) ∧ ∀ zv10 : Int, zv10 = (zM8 149 l1) → x_Ev l E (3, 0, 0) m_X11_takesPlan 62 [(21, 103), (0, l1), (1, l2), (5, 0), (0, l4), (0, zv10), (5, 0)] [] zM8 Q) ∧ (zr9 = 0 → Q none zM8)))) ∧ (¬ zr6 ≤ 0 → ∀ zv11 : Int, zv11 = x_w (l4 + 1) → x_Ev l E (3, 0, 0) m_X11_takesPlan 3 [(21, 103), (0, l1), (1, l2), (5, 0), (0, zv11), (5, 0), (5, 0)] [] zM5 Q)))) : x_Ev l E (3, 0, 0) m_X11_takesPlan 3 [(21, 103), (0, l1), (1, l2), (5, 0), (0, l4), (5, 0), (5, 0)] [] M Q := by
  refine i_iload 2 rfl rfl ?_
  refine i_aload_n 3 rfl rfl (by decide) ?_
  refine i_getP (c := 11) (k := 21) (t := 114) (b := 149) 4 rfl fl_1070 (by decide) rfl (by decide) rfl ?_
  refine i_iload_n 5 rfl rfl ?_
  refine i_iald (τ := 14) 6 rfl ⟨rfl, rfl, rfl, by decide⟩ h.1.1 h.1.2 ?_
  replace h := h.2
  refine i_icmp_ge 31 7 rfl (by decide) (fun c => ?_) (fun c => ?_)
  · replace h := h.1 c
    refine i_iload 16 rfl rfl ?_
    refine i_aload_n 17 rfl rfl (by decide) ?_
    refine i_getP (c := 11) (k := 21) (t := 114) (b := 149) 18 rfl fl_1070 (by decide) rfl (by decide) rfl ?_
    refine i_iload_n 19 rfl rfl ?_
    refine i_iald (τ := 14) 20 rfl ⟨rfl, rfl, rfl, by decide⟩ h.1.1 h.1.2 ?_
    replace h := h.2
    refine i_icmp_ge 54 21 rfl (by decide) (fun c => ?_) (fun c => ?_)
    · replace h := h.1 c
      refine i_aload_n 29 rfl rfl (by decide) ?_
      refine i_getP (c := 11) (k := 21) (t := 114) (b := 149) 30 rfl fl_1070 (by decide) rfl (by decide) rfl ?_
      refine i_iload_n 31 rfl rfl ?_
      refine i_iald (τ := 14) 32 rfl ⟨rfl, rfl, rfl, by decide⟩ h.1.1 h.1.2 ?_
      replace h := h.2
      replace h := h _ rfl
      refine i_istore 33 rfl (by decide) rfl ?_
      exact h
    · replace h := h.2 c
      refine i_aload_n 22 rfl rfl (by decide) ?_
      refine i_iload_n 23 rfl rfl ?_
      refine i_iload 24 rfl rfl ?_
      refine i_lload_n 25 rfl rfl ?_
      refine i_callV (c := 11) (y1 := m_X11_order) (z1 := (1, 0, 0)) (z2 := (3, 0, 0)) [(0, l1), (0, l4), (1, l2)] 26 rfl ml_1288 ok_X11_order vk_X11_order ⟨by decide, rfl⟩ rfl ⟨rfl, Nat.le_of_ble_eq_true rfl⟩ (Nat.le_of_ble_eq_true rfl) ⟨by decide, rfl, rfl, rfl⟩ ?_
      refine h.mono (fun r zM2 h => ?_)
      obtain ⟨zr3, rfl, h⟩ := h
      simp only [Option.toList_some, Option.toList_none, List.cons_append, List.nil_append]
      refine i_if_ne 54 27 rfl (by decide) (fun c => ?_) (fun c => ?_)
      · replace h := h.1 c
        refine i_aload_n 29 rfl rfl (by decide) ?_
        refine i_getP (c := 11) (k := 21) (t := 114) (b := 149) 30 rfl fl_1070 (by decide) rfl (by decide) rfl ?_
        refine i_iload_n 31 rfl rfl ?_
        refine i_iald (τ := 14) 32 rfl ⟨rfl, rfl, rfl, by decide⟩ h.1.1 h.1.2 ?_
        replace h := h.2
        replace h := h _ rfl
        refine i_istore 33 rfl (by decide) rfl ?_
        exact h
      · replace h := h.2 c
        exact i_return 28 rfl rfl h
  · replace h := h.2 c
    refine i_aload_n 8 rfl rfl (by decide) ?_
    refine i_iload_n 9 rfl rfl ?_
    refine i_iload 10 rfl rfl ?_
    refine i_lload_n 11 rfl rfl ?_
    refine i_callV (c := 11) (y1 := m_X11_order) (z1 := (1, 0, 0)) (z2 := (3, 0, 0)) [(0, l1), (0, l4), (1, l2)] 12 rfl ml_1288 ok_X11_order vk_X11_order ⟨by decide, rfl⟩ rfl ⟨rfl, Nat.le_of_ble_eq_true rfl⟩ (Nat.le_of_ble_eq_true rfl) ⟨by decide, rfl, rfl, rfl⟩ ?_
    refine h.mono (fun r zM5 h => ?_)
    obtain ⟨zr6, rfl, h⟩ := h
    simp only [Option.toList_some, Option.toList_none, List.cons_append, List.nil_append]
    refine i_if_le 31 13 rfl (by decide) (fun c => ?_) (fun c => ?_)
    · replace h := h.1 c
      refine i_iload 16 rfl rfl ?_
      refine i_aload_n 17 rfl rfl (by decide) ?_
      refine i_getP (c := 11) (k := 21) (t := 114) (b := 149) 18 rfl fl_1070 (by decide) rfl (by decide) rfl ?_
      refine i_iload_n 19 rfl rfl ?_
      refine i_iald (τ := 14) 20 rfl ⟨rfl, rfl, rfl, by decide⟩ h.1.1 h.1.2 ?_
      replace h := h.2
      refine i_icmp_ge 54 21 rfl (by decide) (fun c => ?_) (fun c => ?_)
      · replace h := h.1 c
        refine i_aload_n 29 rfl rfl (by decide) ?_
        refine i_getP (c := 11) (k := 21) (t := 114) (b := 149) 30 rfl fl_1070 (by decide) rfl (by decide) rfl ?_
        refine i_iload_n 31 rfl rfl ?_
        refine i_iald (τ := 14) 32 rfl ⟨rfl, rfl, rfl, by decide⟩ h.1.1 h.1.2 ?_
        replace h := h.2
        replace h := h _ rfl
        refine i_istore 33 rfl (by decide) rfl ?_
        exact h
      · replace h := h.2 c
        refine i_aload_n 22 rfl rfl (by decide) ?_
        refine i_iload_n 23 rfl rfl ?_
        refine i_iload 24 rfl rfl ?_
        refine i_lload_n 25 rfl rfl ?_
        refine i_callV (c := 11) (y1 := m_X11_order) (z1 := (1, 0, 0)) (z2 := (3, 0, 0)) [(0, l1), (0, l4), (1, l2)] 26 rfl ml_1288 ok_X11_order vk_X11_order ⟨by decide, rfl⟩ rfl ⟨rfl, Nat.le_of_ble_eq_true rfl⟩ (Nat.le_of_ble_eq_true rfl) ⟨by decide, rfl, rfl, rfl⟩ ?_
        refine h.mono (fun r zM8 h => ?_)
        obtain ⟨zr9, rfl, h⟩ := h
        simp only [Option.toList_some, Option.toList_none, List.cons_append, List.nil_append]
        refine i_if_ne 54 27 rfl (by decide) (fun c => ?_) (fun c => ?_)
        · replace h := h.1 c
          refine i_aload_n 29 rfl rfl (by decide) ?_
          refine i_getP (c := 11) (k := 21) (t := 114) (b := 149) 30 rfl fl_1070 (by decide) rfl (by decide) rfl ?_
          refine i_iload_n 31 rfl rfl ?_
          refine i_iald (τ := 14) 32 rfl ⟨rfl, rfl, rfl, by decide⟩ h.1.1 h.1.2 ?_
          replace h := h.2
          replace h := h _ rfl
          refine i_istore 33 rfl (by decide) rfl ?_
          exact h
        · replace h := h.2 c
          exact i_return 28 rfl rfl h
    · replace h := h.2 c
      replace h := h _ rfl
      refine i_iinc 14 rfl rfl (by decide) rfl ?_
      refine i_goto 3 15 rfl (by decide) ?_
      exact h
theorem u_X11_takesPlan_62 {l : Launch} {E : xE} (l1 l2 l4 l5 : Int) {M : xM} {Q : Option xV → xM → Prop} (h : (l5 ≤ l4 → x_Ev l E (3, 0, 0) m_X11_takesPlan 159 [(21, 103), (0, l1), (1, l2), (5, 0), (0, l4), (0, 0), (5, 0)] [] M Q) ∧ (¬ l5 ≤ l4 → x_Ev l E (3, 0, 0) m_X11_takesPlan 72 [(21, 103), (0, l1), (1, l2), (5, 0), (0, l4), (0, l5), (0, 0)] [] M Q)) : x_Ev l E (3, 0, 0) m_X11_takesPlan 62 [(21, 103), (0, l1), (1, l2), (5, 0), (0, l4), (0, l5), (5, 0)] [] M Q := by
  refine i_iload 34 rfl rfl ?_
  refine i_iload 35 rfl rfl ?_
  refine i_icmp_le 156 36 rfl (by decide) (fun c => ?_) (fun c => ?_)
  · replace h := h.1 c
    refine i_iconst 92 rfl (by decide) ?_
    refine i_istore 93 rfl (by decide) rfl ?_
    exact h
  · replace h := h.2 c
    refine i_iconst 37 rfl (by decide) ?_
    refine i_istore 38 rfl (by decide) rfl ?_
    exact h
theorem u_X11_takesPlan_72 {l : Launch} {E : xE} (l1 l2 l4 l5 l6 : Int) {M : xM} {Q : Option xV → xM → Prop} (h : (3 ≤ l6 → ((0 : Int) ≤ l1 ∧ (l1 : Int) < 3) ∧ ((0 : Int) ≤ l1 ∧ (l1 : Int) < 3) ∧ ((0 : Int) ≤ (x_w (l5 - 1)) ∧ ((x_w (l5 - 1)) : Int) < 40) ∧ (0 ≤ l5 ∧ l5 < 40) ∧ ∀ zM1 : xM, zM1 = x_wr M (274 + 1 + 1 * l1) l5 (M (274 + 1 + 1 * l1) (x_w (l5 - 1))) → ((0 : Int) ≤ l1 ∧ (l1 : Int) < 3) ∧ ((0 : Int) ≤ l1 ∧ (l1 : Int) < 3) ∧ ((0 : Int) ≤ (x_w (l5 - 1)) ∧ ((x_w (l5 - 1)) : Int) < 40) ∧ (0 ≤ l5 ∧ l5 < 40) ∧ ∀ zM2 : xM, zM2 = x_wr zM1 (278 + 1 + 1 * l1) l5 (zM1 (278 + 1 + 1 * l1) (x_w (l5 - 1))) → ∀ zv3 : Int, zv3 = x_w (l5 + (-1)) → x_Ev l E (3, 0, 0) m_X11_takesPlan 62 [(21, 103), (0, l1), (1, l2), (5, 0), (0, l4), (0, zv3), (5, 0)] [] zM2 Q) ∧ (¬ 3 ≤ l6 → ((0 : Int) ≤ l1 ∧ (l1 : Int) < 3) ∧ ((0 : Int) ≤ l5 ∧ (l5 : Int) < 40) ∧ ((0 : Int) ≤ l1 ∧ (l1 : Int) < 3) ∧ ((0 : Int) ≤ (x_w (l5 - 1)) ∧ ((x_w (l5 - 1)) : Int) < 40) ∧ ((0 : Int) ≤ l6 ∧ (l6 : Int) < 3) ∧ (0 ≤ l6 ∧ l6 < 3) ∧ ∀ zM4 : xM, zM4 = x_wr M ((150 + 1 + 41 * l1) + 1 + 1 * l5) l6 (M ((150 + 1 + 41 * l1) + 1 + 1 * (x_w (l5 - 1))) l6) → ∀ zv5 : Int, zv5 = x_w (l6 + 1) → x_Ev l E (3, 0, 0) m_X11_takesPlan 72 [(21, 103), (0, l1), (1, l2), (5, 0), (0, l4), (0, l5), (0, zv5)] [] zM4 Q)) : x_Ev l E (3, 0, 0) m_X11_takesPlan 72 [(21, 103), (0, l1), (1, l2), (5, 0), (0, l4), (0, l5), (0, l6)] [] M Q := by
  refine i_iload 39 rfl rfl ?_
  refine i_iconst 40 rfl (by decide) ?_
  refine i_icmp_ge 110 41 rfl (by decide) (fun c => ?_) (fun c => ?_)
  · replace h := h.1 c
    refine i_aload_n 62 rfl rfl (by decide) ?_
    refine i_getP (c := 11) (k := 23) (t := 130) (b := 274) 63 rfl fl_1072 (by decide) rfl (by decide) rfl ?_
    refine i_iload_n 64 rfl rfl ?_
    refine i_aald (τ := 30) (t := 129) (len := 3) (b := (274 + 1 + 1 * l1)) 65 rfl (by decide) rfl h.1.1 h.1.2 ?_
    replace h := h.2
    refine i_iload 66 rfl rfl ?_
    refine i_aload_n 67 rfl rfl (by decide) ?_
    refine i_getP (c := 11) (k := 23) (t := 130) (b := 274) 68 rfl fl_1072 (by decide) rfl (by decide) rfl ?_
    refine i_iload_n 69 rfl rfl ?_
    refine i_aald (τ := 30) (t := 129) (len := 3) (b := (274 + 1 + 1 * l1)) 70 rfl (by decide) rfl h.1.1 h.1.2 ?_
    replace h := h.2
    refine i_iload 71 rfl rfl ?_
    refine i_iconst 72 rfl (by decide) ?_
    refine i_isub 73 rfl ?_
    refine i_lald (τ := 29) 74 rfl ⟨rfl, rfl, rfl, by decide⟩ h.1.1 h.1.2 ?_
    replace h := h.2
    have hb := h.1
    replace h := h.2 _ rfl
    refine i_last (τ := 29) 75 rfl ⟨rfl, rfl, rfl, by decide⟩ hb.1 hb.2 ?_
    refine i_aload_n 76 rfl rfl (by decide) ?_
    refine i_getP (c := 11) (k := 24) (t := 132) (b := 278) 77 rfl fl_1073 (by decide) rfl (by decide) rfl ?_
    refine i_iload_n 78 rfl rfl ?_
    refine i_aald (τ := 32) (t := 131) (len := 3) (b := (278 + 1 + 1 * l1)) 79 rfl (by decide) rfl h.1.1 h.1.2 ?_
    replace h := h.2
    refine i_iload 80 rfl rfl ?_
    refine i_aload_n 81 rfl rfl (by decide) ?_
    refine i_getP (c := 11) (k := 24) (t := 132) (b := 278) 82 rfl fl_1073 (by decide) rfl (by decide) rfl ?_
    refine i_iload_n 83 rfl rfl ?_
    refine i_aald (τ := 32) (t := 131) (len := 3) (b := (278 + 1 + 1 * l1)) 84 rfl (by decide) rfl h.1.1 h.1.2 ?_
    replace h := h.2
    refine i_iload 85 rfl rfl ?_
    refine i_iconst 86 rfl (by decide) ?_
    refine i_isub 87 rfl ?_
    refine i_iald (τ := 31) 88 rfl ⟨rfl, rfl, rfl, by decide⟩ h.1.1 h.1.2 ?_
    replace h := h.2
    have hb := h.1
    replace h := h.2 _ rfl
    refine i_iast (τ := 31) 89 rfl ⟨rfl, rfl, rfl, by decide⟩ hb.1 hb.2 ?_
    replace h := h _ rfl
    refine i_iinc 90 rfl rfl (by decide) rfl ?_
    refine i_goto 62 91 rfl (by decide) ?_
    refine i_weak ?_ h
    exact (And.intro (Or.inr rfl) (And.intro (Or.inr rfl) (And.intro (Or.inr rfl) (And.intro (Or.inr rfl) (And.intro (Or.inr rfl) (And.intro (Or.inr rfl) (And.intro (Or.inl rfl) trivial)))))))
  · replace h := h.2 c
    refine i_aload_n 42 rfl rfl (by decide) ?_
    refine i_getP (c := 11) (k := 22) (t := 128) (b := 150) 43 rfl fl_1071 (by decide) rfl (by decide) rfl ?_
    refine i_iload_n 44 rfl rfl ?_
    refine i_aald (τ := 28) (t := 127) (len := 3) (b := (150 + 1 + 41 * l1)) 45 rfl (by decide) rfl h.1.1 h.1.2 ?_
    replace h := h.2
    refine i_iload 46 rfl rfl ?_
    refine i_aald (τ := 27) (t := 105) (len := 40) (b := ((150 + 1 + 41 * l1) + 1 + 1 * l5)) 47 rfl (by decide) rfl h.1.1 h.1.2 ?_
    replace h := h.2
    refine i_iload 48 rfl rfl ?_
    refine i_aload_n 49 rfl rfl (by decide) ?_
    refine i_getP (c := 11) (k := 22) (t := 128) (b := 150) 50 rfl fl_1071 (by decide) rfl (by decide) rfl ?_
    refine i_iload_n 51 rfl rfl ?_
    refine i_aald (τ := 28) (t := 127) (len := 3) (b := (150 + 1 + 41 * l1)) 52 rfl (by decide) rfl h.1.1 h.1.2 ?_
    replace h := h.2
    refine i_iload 53 rfl rfl ?_
    refine i_iconst 54 rfl (by decide) ?_
    refine i_isub 55 rfl ?_
    refine i_aald (τ := 27) (t := 105) (len := 40) (b := ((150 + 1 + 41 * l1) + 1 + 1 * (x_w (l5 - 1)))) 56 rfl (by decide) rfl h.1.1 h.1.2 ?_
    replace h := h.2
    refine i_iload 57 rfl rfl ?_
    refine i_lald (τ := 5) 58 rfl ⟨rfl, rfl, rfl, by decide⟩ h.1.1 h.1.2 ?_
    replace h := h.2
    have hb := h.1
    replace h := h.2 _ rfl
    refine i_last (τ := 5) 59 rfl ⟨rfl, rfl, rfl, by decide⟩ hb.1 hb.2 ?_
    replace h := h _ rfl
    refine i_iinc 60 rfl rfl (by decide) rfl ?_
    refine i_goto 72 61 rfl (by decide) ?_
    exact h
theorem u_X11_takesPlan_159 {l : Launch} {E : xE} (l1 l2 l4 l5 : Int) {M : xM} {Q : Option xV → xM → Prop} (h : (3 ≤ l5 → ((0 : Int) ≤ l1 ∧ (l1 : Int) < 3) ∧ (0 ≤ l4 ∧ l4 < 40) ∧ ∀ zM1 : xM, zM1 = x_wr M (274 + 1 + 1 * l1) l4 l2 → ((0 : Int) ≤ l1 ∧ (l1 : Int) < 3) ∧ x_Ev l E (2, 0, 0) m_X11_tightPrimal 0 [(21, 103), (0, l1), (1, l2), (5, 0), (5, 0), (5, 0)] [] zM1 (fun r zM2 => ∃ zr3, r = some (0, zr3) ∧ (0 ≤ l4 ∧ l4 < 40) ∧ ∀ zM4 : xM, zM4 = x_wr zM2 (278 + 1 + 1 * l1) l4 zr3 → ((0 : Int) ≤ l1 ∧ (l1 : Int) < 3) ∧ (0 ≤ l1 ∧ l1 < 3) ∧ ∀ zM5 : xM, zM5 = x_wr zM4 149 l1 (x_w ((zM4 149 l1) + 1)) → Q none zM5)) ∧ (¬ 3 ≤ l5 → ((0 : Int) ≤ l1 ∧ (l1 : Int) < 3) ∧ ((0 : Int) ≤ l4 ∧ (l4 : Int) < 40) ∧ ((0 : Int) ≤ l1 ∧ (l1 : Int) < 3) ∧ ((M 106 l1) ≤ l5 → (0 ≤ l5 ∧ l5 < 3) ∧ ∀ zM6 : xM, zM6 = x_wr M ((150 + 1 + 41 * l1) + 1 + 1 * l4) l5 0 → ∀ zv7 : Int, zv7 = x_w (l5 + 1) → x_Ev l E (3, 0, 0) m_X11_takesPlan 159 [(21, 103), (0, l1), (1, l2), (5, 0), (0, l4), (0, zv7), (5, 0)] [] zM6 Q) ∧ (¬ (M 106 l1) ≤ l5 → ((0 : Int) ≤ l5 ∧ (l5 : Int) < 4) ∧ (0 ≤ l5 ∧ l5 < 3) ∧ ∀ zM8 : xM, zM8 = x_wr M ((150 + 1 + 41 * l1) + 1 + 1 * l4) l5 (M 148 l5) → ∀ zv9 : Int, zv9 = x_w (l5 + 1) → x_Ev l E (3, 0, 0) m_X11_takesPlan 159 [(21, 103), (0, l1), (1, l2), (5, 0), (0, l4), (0, zv9), (5, 0)] [] zM8 Q))) : x_Ev l E (3, 0, 0) m_X11_takesPlan 159 [(21, 103), (0, l1), (1, l2), (5, 0), (0, l4), (0, l5), (5, 0)] [] M Q := by
  refine i_iload 94 rfl rfl ?_
  refine i_iconst 95 rfl (by decide) ?_
  refine i_icmp_ge 205 96 rfl (by decide) (fun c => ?_) (fun c => ?_)
  · replace h := h.1 c
    refine i_aload_n 119 rfl rfl (by decide) ?_
    refine i_getP (c := 11) (k := 23) (t := 130) (b := 274) 120 rfl fl_1072 (by decide) rfl (by decide) rfl ?_
    refine i_iload_n 121 rfl rfl ?_
    refine i_aald (τ := 30) (t := 129) (len := 3) (b := (274 + 1 + 1 * l1)) 122 rfl (by decide) rfl h.1.1 h.1.2 ?_
    replace h := h.2
    refine i_iload 123 rfl rfl ?_
    refine i_lload_n 124 rfl rfl ?_
    have hb := h.1
    replace h := h.2 _ rfl
    refine i_last (τ := 29) 125 rfl ⟨rfl, rfl, rfl, by decide⟩ hb.1 hb.2 ?_
    refine i_aload_n 126 rfl rfl (by decide) ?_
    refine i_getP (c := 11) (k := 24) (t := 132) (b := 278) 127 rfl fl_1073 (by decide) rfl (by decide) rfl ?_
    refine i_iload_n 128 rfl rfl ?_
    refine i_aald (τ := 32) (t := 131) (len := 3) (b := (278 + 1 + 1 * l1)) 129 rfl (by decide) rfl h.1.1 h.1.2 ?_
    replace h := h.2
    refine i_iload 130 rfl rfl ?_
    refine i_aload_n 131 rfl rfl (by decide) ?_
    refine i_iload_n 132 rfl rfl ?_
    refine i_lload_n 133 rfl rfl ?_
    refine i_callV (c := 11) (y1 := m_X11_tightPrimal) (z1 := (2, 0, 0)) (z2 := (3, 0, 0)) [(0, l1), (1, l2)] 134 rfl ml_1292 ok_X11_tightPrimal vk_X11_tightPrimal ⟨by decide, rfl⟩ rfl ⟨rfl, Nat.le_of_ble_eq_true rfl⟩ (Nat.le_of_ble_eq_true rfl) ⟨by decide, rfl, rfl, rfl⟩ ?_
    refine h.mono (fun r zM2 h => ?_)
    obtain ⟨zr3, rfl, h⟩ := h
    simp only [Option.toList_some, Option.toList_none, List.cons_append, List.nil_append]
    have hb := h.1
    replace h := h.2 _ rfl
    refine i_iast (τ := 31) 135 rfl ⟨rfl, rfl, rfl, by decide⟩ hb.1 hb.2 ?_
    refine i_aload_n 136 rfl rfl (by decide) ?_
    refine i_getP (c := 11) (k := 21) (t := 114) (b := 149) 137 rfl fl_1070 (by decide) rfl (by decide) rfl ?_
    refine i_iload_n 138 rfl rfl ?_
    refine i_dup2 139 rfl ⟨Nat.ne_of_beq_eq_false rfl, Nat.ne_of_beq_eq_false rfl⟩ ?_
    refine i_iald (τ := 14) 140 rfl ⟨rfl, rfl, rfl, by decide⟩ h.1.1 h.1.2 ?_
    replace h := h.2
    refine i_iconst 141 rfl (by decide) ?_
    refine i_iadd 142 rfl ?_
    have hb := h.1
    replace h := h.2 _ rfl
    refine i_iast (τ := 14) 143 rfl ⟨rfl, rfl, rfl, by decide⟩ hb.1 hb.2 ?_
    exact i_return 144 rfl rfl h
  · replace h := h.2 c
    refine i_aload_n 97 rfl rfl (by decide) ?_
    refine i_getP (c := 11) (k := 22) (t := 128) (b := 150) 98 rfl fl_1071 (by decide) rfl (by decide) rfl ?_
    refine i_iload_n 99 rfl rfl ?_
    refine i_aald (τ := 28) (t := 127) (len := 3) (b := (150 + 1 + 41 * l1)) 100 rfl (by decide) rfl h.1.1 h.1.2 ?_
    replace h := h.2
    refine i_iload 101 rfl rfl ?_
    refine i_aald (τ := 27) (t := 105) (len := 40) (b := ((150 + 1 + 41 * l1) + 1 + 1 * l4)) 102 rfl (by decide) rfl h.1.1 h.1.2 ?_
    replace h := h.2
    refine i_iload 103 rfl rfl ?_
    refine i_iload 104 rfl rfl ?_
    refine i_aload_n 105 rfl rfl (by decide) ?_
    refine i_getP (c := 11) (k := 3) (t := 114) (b := 106) 106 rfl fl_1052 (by decide) rfl (by decide) rfl ?_
    refine i_iload_n 107 rfl rfl ?_
    refine i_iald (τ := 14) 108 rfl ⟨rfl, rfl, rfl, by decide⟩ h.1.1 h.1.2 ?_
    replace h := h.2
    refine i_icmp_ge 197 109 rfl (by decide) (fun c => ?_) (fun c => ?_)
    · replace h := h.1 c
      refine i_lconst (w := 0) 115 rfl (by decide) ?_
      have hb := h.1
      replace h := h.2 _ rfl
      refine i_last (τ := 5) 116 rfl ⟨rfl, rfl, rfl, by decide⟩ hb.1 hb.2 ?_
      replace h := h _ rfl
      refine i_iinc 117 rfl rfl (by decide) rfl ?_
      refine i_goto 159 118 rfl (by decide) ?_
      exact h
    · replace h := h.2 c
      refine i_aload_n 110 rfl rfl (by decide) ?_
      refine i_getP (c := 11) (k := 20) (t := 125) (b := 148) 111 rfl fl_1069 (by decide) rfl (by decide) rfl ?_
      refine i_iload 112 rfl rfl ?_
      refine i_lald (τ := 25) 113 rfl ⟨rfl, rfl, rfl, by decide⟩ h.1.1 h.1.2 ?_
      replace h := h.2
      refine i_goto 198 114 rfl (by decide) ?_
      have hb := h.1
      replace h := h.2 _ rfl
      refine i_last (τ := 5) 116 rfl ⟨rfl, rfl, rfl, by decide⟩ hb.1 hb.2 ?_
      replace h := h _ rfl
      refine i_iinc 117 rfl rfl (by decide) rfl ?_
      refine i_goto 159 118 rfl (by decide) ?_
      exact h
theorem u_X11_chosen_0 {l : Launch} {E : xE} (a1 a2 a3 a4 : Int) {M : xM} {Q : Option xV → xM → Prop} (h : ((0 : Int) ≤ a1 ∧ (a1 : Int) < 3) ∧ ∀ zv1 : Int, zv1 = (M 104 a1) → (zv1 = 2 → x_Ev l E (1, 0, 0) m_J6_numberOfTrailingZeros_0f7a4 0 [(0, a2), (5, 0)] [] M (fun r zM2 => ∃ zr3, r = some (0, zr3) ∧ Q (some (0, zr3)) zM2)) ∧ (¬ zv1 = 2 → (¬ zv1 = 4 → (¬ zv1 = 5 → x_Ev l E (3, 0, 0) m_X11_chosen 45 [(21, 103), (0, a1), (0, a2), (1, a3), (5, 0), (1, a4), (5, 0), (0, zv1), (0, (-1)), (0, 0), (5, 0), (5, 0)] [] M Q) ∧ (zv1 = 5 → x_Ev l E (1, 0, 0) m_J6_numberOfLeadingZeros_0f7a4 0 [(0, a2), (5, 0)] [] M (fun r zM4 => ∃ zr5, r = some (0, zr5) ∧ Q (some (0, (x_w (31 - zr5)))) zM4))) ∧ (zv1 = 4 → x_Ev l E (1, 0, 0) m_J6_numberOfTrailingZeros_0f7a4 0 [(0, a2), (5, 0)] [] M (fun r zM6 => ∃ zr7, r = some (0, zr7) ∧ Q (some (0, zr7)) zM6)))) : x_Ev l E (3, 0, 0) m_X11_chosen 0 [(21, 103), (0, a1), (0, a2), (1, a3), (5, 0), (1, a4), (5, 0), (5, 0), (5, 0), (5, 0), (5, 0), (5, 0)] [] M Q := by
  refine i_aload_n 0 rfl rfl (by decide) ?_
  refine i_getP (c := 11) (k := 1) (t := 114) (b := 104) 1 rfl fl_1050 (by decide) rfl (by decide) rfl ?_
  refine i_iload_n 2 rfl rfl ?_
  refine i_iald (τ := 14) 3 rfl ⟨rfl, rfl, rfl, by decide⟩ h.1.1 h.1.2 ?_
  replace h := h.2
  replace h := h _ rfl
  refine i_istore 4 rfl (by decide) rfl ?_
  refine i_iload 5 rfl rfl ?_
  refine i_iconst 6 rfl (by decide) ?_
  refine i_icmp_eq 20 7 rfl (by decide) (fun c => ?_) (fun c => ?_)
  · replace h := h.1 c
    refine i_iload_n 11 rfl rfl ?_
    refine i_callS (y1 := m_J6_numberOfTrailingZeros_0f7a4) (z1 := (1, 0, 0)) (z2 := (3, 0, 0)) [(0, a2)] 12 rfl ml_1324 ok_J6_numberOfTrailingZeros_0f7a4 vk_J6_numberOfTrailingZeros_0f7a4 rfl ⟨rfl, Nat.le_of_ble_eq_true rfl⟩ (Nat.le_of_ble_eq_true rfl) ⟨by decide, rfl, rfl, rfl⟩ ?_
    refine h.mono (fun r zM2 h => ?_)
    obtain ⟨zr3, rfl, h⟩ := h
    simp only [Option.toList_some, Option.toList_none, List.cons_append, List.nil_append]
    exact i_ireturn 13 rfl rfl h
  · replace h := h.2 c
    refine i_iload 8 rfl rfl ?_
    refine i_iconst 9 rfl (by decide) ?_
    refine i_icmp_ne 25 10 rfl (by decide) (fun c => ?_) (fun c => ?_)
    · replace h := h.1 c
      refine i_iload 14 rfl rfl ?_
      refine i_iconst 15 rfl (by decide) ?_
      refine i_icmp_ne 39 16 rfl (by decide) (fun c => ?_) (fun c => ?_)
      · replace h := h.1 c
        refine i_iconst 22 rfl (by decide) ?_
        refine i_istore 23 rfl (by decide) rfl ?_
        refine i_iconst 24 rfl (by decide) ?_
        refine i_istore 25 rfl (by decide) rfl ?_
        exact h
      · replace h := h.2 c
        refine i_bipush 17 rfl (by decide) ?_
        refine i_iload_n 18 rfl rfl ?_
        refine i_callS (y1 := m_J6_numberOfLeadingZeros_0f7a4) (z1 := (1, 0, 0)) (z2 := (3, 0, 0)) [(0, a2)] 19 rfl ml_1328 ok_J6_numberOfLeadingZeros_0f7a4 vk_J6_numberOfLeadingZeros_0f7a4 rfl ⟨rfl, Nat.le_of_ble_eq_true rfl⟩ (Nat.le_of_ble_eq_true rfl) ⟨by decide, rfl, rfl, rfl⟩ ?_
        refine h.mono (fun r zM4 h => ?_)
        obtain ⟨zr5, rfl, h⟩ := h
        simp only [Option.toList_some, Option.toList_none, List.cons_append, List.nil_append]
        refine i_isub 20 rfl ?_
        exact i_ireturn 21 rfl rfl h
    · replace h := h.2 c
      refine i_iload_n 11 rfl rfl ?_
      refine i_callS (y1 := m_J6_numberOfTrailingZeros_0f7a4) (z1 := (1, 0, 0)) (z2 := (3, 0, 0)) [(0, a2)] 12 rfl ml_1324 ok_J6_numberOfTrailingZeros_0f7a4 vk_J6_numberOfTrailingZeros_0f7a4 rfl ⟨rfl, Nat.le_of_ble_eq_true rfl⟩ (Nat.le_of_ble_eq_true rfl) ⟨by decide, rfl, rfl, rfl⟩ ?_
      refine h.mono (fun r zM6 h => ?_)
      obtain ⟨zr7, rfl, h⟩ := h
      simp only [Option.toList_some, Option.toList_none, List.cons_append, List.nil_append]
      exact i_ireturn 13 rfl rfl h
theorem u_X11_chosen_45 {l : Launch} {E : xE} (l1 l2 l3 l5 l7 l8 l9 : Int) {M : xM} {Q : Option xV → xM → Prop} (h : ((0 : Int) ≤ l1 ∧ (l1 : Int) < 3) ∧ ((M 149 l1) ≤ l9 → Q (some (0, l8)) M) ∧ (¬ (M 149 l1) ≤ l9 → (¬ (x_iand (x_ishr l2 l9) 1) = 0 → (0 ≤ l8 → x_Ev l E (2, 0, 0) m_X11_gain 0 [(21, 103), (0, l1), (0, l9), (1, l3), (5, 0), (1, l5), (5, 0)] [] M (fun r zM1 => ∃ zr2, r = some (1, zr2) ∧ ((0 : Int) ≤ l1 ∧ (l1 : Int) < 3) ∧ ((0 : Int) ≤ l8 ∧ (l8 : Int) < 40) ∧ x_Ev l E (2, 0, 0) m_X11_gain 0 [(21, 103), (0, l1), (0, l8), (1, l3), (5, 0), (1, l5), (5, 0)] [] zM1 (fun r zM3 => ∃ zr4, r = some (1, zr4) ∧ ((0 : Int) ≤ l1 ∧ (l1 : Int) < 3) ∧ ((0 : Int) ≤ l9 ∧ (l9 : Int) < 40) ∧ ∀ zv5 : Int, zv5 = (x_W ((x_W (zr2 * (zM1 (274 + 1 + 1 * l1) l8))) - (x_W (zr4 * (zM3 (274 + 1 + 1 * l1) l9))))) → (¬ l7 = 0 → (0 ≤ zv5 → ∀ zv6 : Int, zv6 = x_w (l9 + 1) → x_Ev l E (3, 0, 0) m_X11_chosen 45 [(21, 103), (0, l1), (0, l2), (1, l3), (5, 0), (1, l5), (5, 0), (0, l7), (0, l8), (0, zv6), (5, 0), (5, 0)] [] zM3 Q) ∧ (¬ 0 ≤ zv5 → ∀ zv7 : Int, zv7 = x_w (l9 + 1) → x_Ev l E (3, 0, 0) m_X11_chosen 45 [(21, 103), (0, l1), (0, l2), (1, l3), (5, 0), (1, l5), (5, 0), (0, l7), (0, l9), (0, zv7), (5, 0), (5, 0)] [] zM3 Q)) ∧ (l7 = 0 → (zv5 ≤ 0 → ∀ zv8 : Int, zv8 = x_w (l9 + 1) → x_Ev l E (3, 0, 0) m_X11_chosen 45 [(21, 103), (0, l1), (0, l2), (1, l3), (5, 0), (1, l5), (5, 0), (0, l7), (0, l8), (0, zv8), (5, 0), (5, 0)] [] zM3 Q) ∧ (¬ zv5 ≤ 0 → ∀ zv9 : Int, zv9 = x_w (l9 + 1) → x_Ev l E (3, 0, 0) m_X11_chosen 45 [(21, 103), (0, l1), (0, l2), (1, l3), (5, 0), (1, l5), (5, 0), (0, l7), (0, l9), (0, zv9), (5, 0), (5, 0)] [] zM3 Q))))) ∧ (¬ 0 ≤ l8 → ∀ zv10 : Int, zv10 = x_w (l9 + 1) → x_Ev l E (3, 0, 0) m_X11_chosen 45 [(21, 103), (0, l1), (0, l2), (1, l3), (5, 0), (1, l5), (5, 0), (0, l7), (0, l9), (0, zv10), (5, 0), (5, 0)] [] M Q)) ∧ ((x_iand (x_ishr l2 l9) 1) = 0 → ∀ zv11 : Int, zv11 = x_w (l9 + 1) → x_Ev l E (3, 0, 0) m_X11_chosen 45 [(21, 103), (0, l1), (0, l2), (1, l3), (5, 0), (1, l5), (5, 0), (0, l7), (0, l8), (0, zv11), (5, 0), (5, 0)] [] M Q))) : x_Ev l E (3, 0, 0) m_X11_chosen 45 [(21, 103), (0, l1), (0, l2), (1, l3), (5, 0), (1, l5), (5, 0), (0, l7), (0, l8), (0, l9), (5, 0), (5, 0)] [] M Q := by
  refine i_iload 26 rfl rfl ?_
  refine i_aload_n 27 rfl rfl (by decide) ?_
  refine i_getP (c := 11) (k := 21) (t := 114) (b := 149) 28 rfl fl_1070 (by decide) rfl (by decide) rfl ?_
  refine i_iload_n 29 rfl rfl ?_
  refine i_iald (τ := 14) 30 rfl ⟨rfl, rfl, rfl, by decide⟩ h.1.1 h.1.2 ?_
  replace h := h.2
  refine i_icmp_ge 157 31 rfl (by decide) (fun c => ?_) (fun c => ?_)
  · replace h := h.1 c
    refine i_iload 88 rfl rfl ?_
    exact i_ireturn 89 rfl rfl h
  · replace h := h.2 c
    refine i_iload_n 32 rfl rfl ?_
    refine i_iload 33 rfl rfl ?_
    refine i_ishr 34 rfl ?_
    refine i_iconst 35 rfl (by decide) ?_
    refine i_iand 36 rfl ?_
    refine i_if_ne 68 37 rfl (by decide) (fun c => ?_) (fun c => ?_)
    · replace h := h.1 c
      refine i_iload 39 rfl rfl ?_
      refine i_if_ge 77 40 rfl (by decide) (fun c => ?_) (fun c => ?_)
      · replace h := h.1 c
        refine i_aload_n 43 rfl rfl (by decide) ?_
        refine i_iload_n 44 rfl rfl ?_
        refine i_iload 45 rfl rfl ?_
        refine i_lload_n 46 rfl rfl ?_
        refine i_lload 47 rfl rfl ?_
        refine i_callV (c := 11) (y1 := m_X11_gain) (z1 := (2, 0, 0)) (z2 := (3, 0, 0)) [(0, l1), (0, l9), (1, l3), (1, l5)] 48 rfl ml_1331 ok_X11_gain vk_X11_gain ⟨by decide, rfl⟩ rfl ⟨rfl, Nat.le_of_ble_eq_true rfl⟩ (Nat.le_of_ble_eq_true rfl) ⟨by decide, rfl, rfl, rfl⟩ ?_
        refine h.mono (fun r zM1 h => ?_)
        obtain ⟨zr2, rfl, h⟩ := h
        simp only [Option.toList_some, Option.toList_none, List.cons_append, List.nil_append]
        refine i_aload_n 49 rfl rfl (by decide) ?_
        refine i_getP (c := 11) (k := 23) (t := 130) (b := 274) 50 rfl fl_1072 (by decide) rfl (by decide) rfl ?_
        refine i_iload_n 51 rfl rfl ?_
        refine i_aald (τ := 30) (t := 129) (len := 3) (b := (274 + 1 + 1 * l1)) 52 rfl (by decide) rfl h.1.1 h.1.2 ?_
        replace h := h.2
        refine i_iload 53 rfl rfl ?_
        refine i_lald (τ := 29) 54 rfl ⟨rfl, rfl, rfl, by decide⟩ h.1.1 h.1.2 ?_
        replace h := h.2
        refine i_lmul 55 rfl ?_
        refine i_aload_n 56 rfl rfl (by decide) ?_
        refine i_iload_n 57 rfl rfl ?_
        refine i_iload 58 rfl rfl ?_
        refine i_lload_n 59 rfl rfl ?_
        refine i_lload 60 rfl rfl ?_
        refine i_callV (c := 11) (y1 := m_X11_gain) (z1 := (2, 0, 0)) (z2 := (3, 0, 0)) [(0, l1), (0, l8), (1, l3), (1, l5)] 61 rfl ml_1331 ok_X11_gain vk_X11_gain ⟨by decide, rfl⟩ rfl ⟨rfl, Nat.le_of_ble_eq_true rfl⟩ (Nat.le_of_ble_eq_true rfl) ⟨by decide, rfl, rfl, rfl⟩ ?_
        refine h.mono (fun r zM3 h => ?_)
        obtain ⟨zr4, rfl, h⟩ := h
        simp only [Option.toList_some, Option.toList_none, List.cons_append, List.nil_append]
        refine i_aload_n 62 rfl rfl (by decide) ?_
        refine i_getP (c := 11) (k := 23) (t := 130) (b := 274) 63 rfl fl_1072 (by decide) rfl (by decide) rfl ?_
        refine i_iload_n 64 rfl rfl ?_
        refine i_aald (τ := 30) (t := 129) (len := 3) (b := (274 + 1 + 1 * l1)) 65 rfl (by decide) rfl h.1.1 h.1.2 ?_
        replace h := h.2
        refine i_iload 66 rfl rfl ?_
        refine i_lald (τ := 29) 67 rfl ⟨rfl, rfl, rfl, by decide⟩ h.1.1 h.1.2 ?_
        replace h := h.2
        refine i_lmul 68 rfl ?_
        refine i_lsub 69 rfl ?_
        replace h := h _ rfl
        refine i_lstore 70 rfl (by decide) rfl ?_
        refine i_iload 71 rfl rfl ?_
        refine i_if_lt 147 72 rfl (by decide) (fun c => ?_) (fun c => ?_)
        · exact absurd c (by omega)
        · refine i_iload 73 rfl rfl ?_
          refine i_if_ne 140 74 rfl (by decide) (fun c => ?_) (fun c => ?_)
          · replace h := h.1 c
            refine i_lload 80 rfl rfl ?_
            refine i_lconst (w := 0) 81 rfl (by decide) ?_
            refine i_lcmp_ge 151 82 rfl rfl (by decide) (fun c => ?_) (fun c => ?_)
            · replace h := h.1 c
              replace h := h _ rfl
              refine i_iinc 86 rfl rfl (by decide) rfl ?_
              refine i_goto 45 87 rfl (by decide) ?_
              refine i_weak ?_ h
              exact (And.intro (Or.inr rfl) (And.intro (Or.inr rfl) (And.intro (Or.inr rfl) (And.intro (Or.inr rfl) (And.intro (Or.inr rfl) (And.intro (Or.inr rfl) (And.intro (Or.inr rfl) (And.intro (Or.inr rfl) (And.intro (Or.inr rfl) (And.intro (Or.inr rfl) (And.intro (Or.inl rfl) (And.intro (Or.inr rfl) trivial))))))))))))
            · replace h := h.2 c
              refine i_iload 84 rfl rfl ?_
              refine i_istore 85 rfl (by decide) rfl ?_
              replace h := h _ rfl
              refine i_iinc 86 rfl rfl (by decide) rfl ?_
              refine i_goto 45 87 rfl (by decide) ?_
              refine i_weak ?_ h
              exact (And.intro (Or.inr rfl) (And.intro (Or.inr rfl) (And.intro (Or.inr rfl) (And.intro (Or.inr rfl) (And.intro (Or.inr rfl) (And.intro (Or.inr rfl) (And.intro (Or.inr rfl) (And.intro (Or.inr rfl) (And.intro (Or.inr rfl) (And.intro (Or.inr rfl) (And.intro (Or.inl rfl) (And.intro (Or.inr rfl) trivial))))))))))))
          · replace h := h.2 c
            refine i_lload 75 rfl rfl ?_
            refine i_lconst (w := 0) 76 rfl (by decide) ?_
            refine i_lcmp_le 151 77 rfl rfl (by decide) (fun c => ?_) (fun c => ?_)
            · replace h := h.1 c
              replace h := h _ rfl
              refine i_iinc 86 rfl rfl (by decide) rfl ?_
              refine i_goto 45 87 rfl (by decide) ?_
              refine i_weak ?_ h
              exact (And.intro (Or.inr rfl) (And.intro (Or.inr rfl) (And.intro (Or.inr rfl) (And.intro (Or.inr rfl) (And.intro (Or.inr rfl) (And.intro (Or.inr rfl) (And.intro (Or.inr rfl) (And.intro (Or.inr rfl) (And.intro (Or.inr rfl) (And.intro (Or.inr rfl) (And.intro (Or.inl rfl) (And.intro (Or.inr rfl) trivial))))))))))))
            · replace h := h.2 c
              refine i_goto 147 79 rfl (by decide) ?_
              refine i_iload 84 rfl rfl ?_
              refine i_istore 85 rfl (by decide) rfl ?_
              replace h := h _ rfl
              refine i_iinc 86 rfl rfl (by decide) rfl ?_
              refine i_goto 45 87 rfl (by decide) ?_
              refine i_weak ?_ h
              exact (And.intro (Or.inr rfl) (And.intro (Or.inr rfl) (And.intro (Or.inr rfl) (And.intro (Or.inr rfl) (And.intro (Or.inr rfl) (And.intro (Or.inr rfl) (And.intro (Or.inr rfl) (And.intro (Or.inr rfl) (And.intro (Or.inr rfl) (And.intro (Or.inr rfl) (And.intro (Or.inl rfl) (And.intro (Or.inr rfl) trivial))))))))))))
      · replace h := h.2 c
        refine i_lconst (w := 0) 41 rfl (by decide) ?_
        refine i_goto 118 42 rfl (by decide) ?_
        refine i_lstore 70 rfl (by decide) rfl ?_
        refine i_iload 71 rfl rfl ?_
        refine i_if_lt 147 72 rfl (by decide) (fun c => ?_) (fun c => ?_)
        · refine i_iload 84 rfl rfl ?_
          refine i_istore 85 rfl (by decide) rfl ?_
          replace h := h _ rfl
          refine i_iinc 86 rfl rfl (by decide) rfl ?_
          refine i_goto 45 87 rfl (by decide) ?_
          refine i_weak ?_ h
          exact (And.intro (Or.inr rfl) (And.intro (Or.inr rfl) (And.intro (Or.inr rfl) (And.intro (Or.inr rfl) (And.intro (Or.inr rfl) (And.intro (Or.inr rfl) (And.intro (Or.inr rfl) (And.intro (Or.inr rfl) (And.intro (Or.inr rfl) (And.intro (Or.inr rfl) (And.intro (Or.inl rfl) (And.intro (Or.inr rfl) trivial))))))))))))
        · exact absurd c (by omega)
    · replace h := h.2 c
      refine i_goto 151 38 rfl (by decide) ?_
      replace h := h _ rfl
      refine i_iinc 86 rfl rfl (by decide) rfl ?_
      refine i_goto 45 87 rfl (by decide) ?_
      exact h
theorem u_X11_divisor_0 {l : Launch} {E : xE} (a0 a1 : Int) {M : xM} {Q : Option xV → xM → Prop} (h : (0 ≤ a0 → (0 ≤ a1 → x_Ev l E (1, 0, 0) m_X11_divisor 28 [(1, a0), (5, 0), (1, a1), (5, 0), (1, a0), (5, 0), (1, a1), (5, 0), (5, 0), (5, 0)] [] M Q) ∧ (¬ 0 ≤ a1 → ∀ zv1 : Int, zv1 = (x_W (-a1)) → x_Ev l E (1, 0, 0) m_X11_divisor 28 [(1, a0), (5, 0), (1, a1), (5, 0), (1, a0), (5, 0), (1, zv1), (5, 0), (5, 0), (5, 0)] [] M Q)) ∧ (¬ 0 ≤ a0 → ∀ zv2 : Int, zv2 = (x_W (-a0)) → (0 ≤ a1 → x_Ev l E (1, 0, 0) m_X11_divisor 28 [(1, a0), (5, 0), (1, a1), (5, 0), (1, zv2), (5, 0), (1, a1), (5, 0), (5, 0), (5, 0)] [] M Q) ∧ (¬ 0 ≤ a1 → ∀ zv3 : Int, zv3 = (x_W (-a1)) → x_Ev l E (1, 0, 0) m_X11_divisor 28 [(1, a0), (5, 0), (1, a1), (5, 0), (1, zv2), (5, 0), (1, zv3), (5, 0), (5, 0), (5, 0)] [] M Q))) : x_Ev l E (1, 0, 0) m_X11_divisor 0 [(1, a0), (5, 0), (1, a1), (5, 0), (5, 0), (5, 0), (5, 0), (5, 0), (5, 0), (5, 0)] [] M Q := by
  refine i_lload_n 0 rfl rfl ?_
  refine i_lconst (w := 0) 1 rfl (by decide) ?_
  refine i_lcmp_ge 11 2 rfl rfl (by decide) (fun c => ?_) (fun c => ?_)
  · replace h := h.1 c
    refine i_lload_n 7 rfl rfl ?_
    refine i_lstore 8 rfl (by decide) rfl ?_
    refine i_lload_n 9 rfl rfl ?_
    refine i_lconst (w := 0) 10 rfl (by decide) ?_
    refine i_lcmp_ge 25 11 rfl rfl (by decide) (fun c => ?_) (fun c => ?_)
    · replace h := h.1 c
      refine i_lload_n 16 rfl rfl ?_
      refine i_lstore 17 rfl (by decide) rfl ?_
      exact h
    · replace h := h.2 c
      refine i_lload_n 13 rfl rfl ?_
      refine i_lneg 14 rfl ?_
      refine i_goto 26 15 rfl (by decide) ?_
      replace h := h _ rfl
      refine i_lstore 17 rfl (by decide) rfl ?_
      exact h
  · replace h := h.2 c
    refine i_lload_n 4 rfl rfl ?_
    refine i_lneg 5 rfl ?_
    refine i_goto 12 6 rfl (by decide) ?_
    replace h := h _ rfl
    refine i_lstore 8 rfl (by decide) rfl ?_
    refine i_lload_n 9 rfl rfl ?_
    refine i_lconst (w := 0) 10 rfl (by decide) ?_
    refine i_lcmp_ge 25 11 rfl rfl (by decide) (fun c => ?_) (fun c => ?_)
    · replace h := h.1 c
      refine i_lload_n 16 rfl rfl ?_
      refine i_lstore 17 rfl (by decide) rfl ?_
      exact h
    · replace h := h.2 c
      refine i_lload_n 13 rfl rfl ?_
      refine i_lneg 14 rfl ?_
      refine i_goto 26 15 rfl (by decide) ?_
      replace h := h _ rfl
      refine i_lstore 17 rfl (by decide) rfl ?_
      exact h
theorem u_X11_divisor_28 {l : Launch} {E : xE} (l0 l2 l4 l6 : Int) {M : xM} {Q : Option xV → xM → Prop} (h : (l6 = 0 → Q (some (1, l4)) M) ∧ (¬ l6 = 0 → (l6 ≠ 0) ∧ ∀ zv1 : Int, zv1 = (l4.tmod l6) → x_Ev l E (1, 0, 0) m_X11_divisor 28 [(1, l0), (5, 0), (1, l2), (5, 0), (1, l6), (5, 0), (1, zv1), (5, 0), (5, 0), (5, 0)] [] M Q)) : x_Ev l E (1, 0, 0) m_X11_divisor 28 [(1, l0), (5, 0), (1, l2), (5, 0), (1, l4), (5, 0), (1, l6), (5, 0), (5, 0), (5, 0)] [] M Q := by
  refine i_lload 18 rfl rfl ?_
  refine i_lconst (w := 0) 19 rfl (by decide) ?_
  refine i_lcmp_eq 53 20 rfl rfl (by decide) (fun c => ?_) (fun c => ?_)
  · replace h := h.1 c
    refine i_lload 31 rfl rfl ?_
    exact i_lreturn 32 rfl rfl h
  · replace h := h.2 c
    refine i_lload 22 rfl rfl ?_
    refine i_lload 23 rfl rfl ?_
    refine i_lrem 24 rfl h.1 ?_
    replace h := h.2
    replace h := h _ rfl
    refine i_lstore 25 rfl (by decide) rfl ?_
    refine i_lload 26 rfl rfl ?_
    refine i_lstore 27 rfl (by decide) rfl ?_
    refine i_lload 28 rfl rfl ?_
    refine i_lstore 29 rfl (by decide) rfl ?_
    refine i_goto 28 30 rfl (by decide) ?_
    refine i_weak ?_ h
    exact (And.intro (Or.inr rfl) (And.intro (Or.inr rfl) (And.intro (Or.inr rfl) (And.intro (Or.inr rfl) (And.intro (Or.inr rfl) (And.intro (Or.inr rfl) (And.intro (Or.inr rfl) (And.intro (Or.inr rfl) (And.intro (Or.inl rfl) (And.intro (Or.inr rfl) trivial))))))))))
theorem u_X11_times_0 {l : Launch} {E : xE} (a1 a2 a3 : Int) {M : xM} {Q : Option xV → xM → Prop} (h : x_Ev l E (1, 0, 0) m_X11_times 6 [(21, 103), (0, a1), (0, a2), (0, a3), (1, 0), (5, 0), (0, 0)] [] M Q) : x_Ev l E (1, 0, 0) m_X11_times 0 [(21, 103), (0, a1), (0, a2), (0, a3), (5, 0), (5, 0), (5, 0)] [] M Q := by
  refine i_lconst (w := 0) 0 rfl (by decide) ?_
  refine i_lstore 1 rfl (by decide) rfl ?_
  refine i_iconst 2 rfl (by decide) ?_
  refine i_istore 3 rfl (by decide) rfl ?_
  exact h
theorem u_X11_times_6 {l : Launch} {E : xE} (l1 l2 l3 l4 l6 : Int) {M : xM} {Q : Option xV → xM → Prop} (h : ((0 : Int) ≤ l1 ∧ (l1 : Int) < 3) ∧ ((M 106 l1) ≤ l6 → Q (some (1, l4)) M) ∧ (¬ (M 106 l1) ≤ l6 → ((0 : Int) ≤ l1 ∧ (l1 : Int) < 3) ∧ ((0 : Int) ≤ l2 ∧ (l2 : Int) < 40) ∧ ((0 : Int) ≤ l6 ∧ (l6 : Int) < 3) ∧ ((0 : Int) ≤ l1 ∧ (l1 : Int) < 3) ∧ ((0 : Int) ≤ l3 ∧ (l3 : Int) < 3) ∧ ((0 : Int) ≤ l6 ∧ (l6 : Int) < 3) ∧ ∀ zv1 : Int, zv1 = (x_W (l4 + (x_W ((M ((150 + 1 + 41 * l1) + 1 + 1 * l2) l6) * (M ((108 + 1 + 4 * l1) + 1 + 1 * l3) l6))))) → ∀ zv2 : Int, zv2 = x_w (l6 + 1) → x_Ev l E (1, 0, 0) m_X11_times 6 [(21, 103), (0, l1), (0, l2), (0, l3), (1, zv1), (5, 0), (0, zv2)] [] M Q)) : x_Ev l E (1, 0, 0) m_X11_times 6 [(21, 103), (0, l1), (0, l2), (0, l3), (1, l4), (5, 0), (0, l6)] [] M Q := by
  refine i_iload 4 rfl rfl ?_
  refine i_aload_n 5 rfl rfl (by decide) ?_
  refine i_getP (c := 11) (k := 3) (t := 114) (b := 106) 6 rfl fl_1052 (by decide) rfl (by decide) rfl ?_
  refine i_iload_n 7 rfl rfl ?_
  refine i_iald (τ := 14) 8 rfl ⟨rfl, rfl, rfl, by decide⟩ h.1.1 h.1.2 ?_
  replace h := h.2
  refine i_icmp_ge 52 9 rfl (by decide) (fun c => ?_) (fun c => ?_)
  · replace h := h.1 c
    refine i_lload 33 rfl rfl ?_
    exact i_lreturn 34 rfl rfl h
  · replace h := h.2 c
    refine i_lload 10 rfl rfl ?_
    refine i_aload_n 11 rfl rfl (by decide) ?_
    refine i_getP (c := 11) (k := 22) (t := 128) (b := 150) 12 rfl fl_1071 (by decide) rfl (by decide) rfl ?_
    refine i_iload_n 13 rfl rfl ?_
    refine i_aald (τ := 28) (t := 127) (len := 3) (b := (150 + 1 + 41 * l1)) 14 rfl (by decide) rfl h.1.1 h.1.2 ?_
    replace h := h.2
    refine i_iload_n 15 rfl rfl ?_
    refine i_aald (τ := 27) (t := 105) (len := 40) (b := ((150 + 1 + 41 * l1) + 1 + 1 * l2)) 16 rfl (by decide) rfl h.1.1 h.1.2 ?_
    replace h := h.2
    refine i_iload 17 rfl rfl ?_
    refine i_lald (τ := 5) 18 rfl ⟨rfl, rfl, rfl, by decide⟩ h.1.1 h.1.2 ?_
    replace h := h.2
    refine i_aload_n 19 rfl rfl (by decide) ?_
    refine i_getP (c := 11) (k := 5) (t := 121) (b := 108) 20 rfl fl_1054 (by decide) rfl (by decide) rfl ?_
    refine i_iload_n 21 rfl rfl ?_
    refine i_aald (τ := 21) (t := 120) (len := 3) (b := (108 + 1 + 4 * l1)) 22 rfl (by decide) rfl h.1.1 h.1.2 ?_
    replace h := h.2
    refine i_iload_n 23 rfl rfl ?_
    refine i_aald (τ := 20) (t := 114) (len := 3) (b := ((108 + 1 + 4 * l1) + 1 + 1 * l3)) 24 rfl (by decide) rfl h.1.1 h.1.2 ?_
    replace h := h.2
    refine i_iload 25 rfl rfl ?_
    refine i_iald (τ := 14) 26 rfl ⟨rfl, rfl, rfl, by decide⟩ h.1.1 h.1.2 ?_
    replace h := h.2
    refine i_i2l 27 rfl ?_
    refine i_lmul 28 rfl ?_
    refine i_ladd 29 rfl ?_
    replace h := h _ rfl
    refine i_lstore 30 rfl (by decide) rfl ?_
    replace h := h _ rfl
    refine i_iinc 31 rfl rfl (by decide) rfl ?_
    refine i_goto 6 32 rfl (by decide) ?_
    exact h
theorem u_X11_twice_0 {l : Launch} {E : xE} (a1 : Int) {M : xM} {Q : Option xV → xM → Prop} (h : ((0 : Int) ≤ a1 ∧ (a1 : Int) < 3) ∧ ((M 104 a1) = 3 → Q (some (0, 2)) M) ∧ (¬ (M 104 a1) = 3 → ((0 : Int) ≤ a1 ∧ (a1 : Int) < 3) ∧ (¬ (M 104 a1) = 6 → Q (some (0, 1)) M) ∧ ((M 104 a1) = 6 → Q (some (0, 2)) M))) : x_Ev l E (1, 0, 0) m_X11_twice 0 [(21, 103), (0, a1)] [] M Q := by
  refine i_aload_n 0 rfl rfl (by decide) ?_
  refine i_getP (c := 11) (k := 1) (t := 114) (b := 104) 1 rfl fl_1050 (by decide) rfl (by decide) rfl ?_
  refine i_iload_n 2 rfl rfl ?_
  refine i_iald (τ := 14) 3 rfl ⟨rfl, rfl, rfl, by decide⟩ h.1.1 h.1.2 ?_
  replace h := h.2
  refine i_iconst 4 rfl (by decide) ?_
  refine i_icmp_eq 21 5 rfl (by decide) (fun c => ?_) (fun c => ?_)
  · replace h := h.1 c
    refine i_iconst 12 rfl (by decide) ?_
    refine i_goto 26 13 rfl (by decide) ?_
    exact i_ireturn 15 rfl rfl h
  · replace h := h.2 c
    refine i_aload_n 6 rfl rfl (by decide) ?_
    refine i_getP (c := 11) (k := 1) (t := 114) (b := 104) 7 rfl fl_1050 (by decide) rfl (by decide) rfl ?_
    refine i_iload_n 8 rfl rfl ?_
    refine i_iald (τ := 14) 9 rfl ⟨rfl, rfl, rfl, by decide⟩ h.1.1 h.1.2 ?_
    replace h := h.2
    refine i_bipush 10 rfl (by decide) ?_
    refine i_icmp_ne 25 11 rfl (by decide) (fun c => ?_) (fun c => ?_)
    · replace h := h.1 c
      refine i_iconst 14 rfl (by decide) ?_
      exact i_ireturn 15 rfl rfl h
    · replace h := h.2 c
      refine i_iconst 12 rfl (by decide) ?_
      refine i_goto 26 13 rfl (by decide) ?_
      exact i_ireturn 15 rfl rfl h
theorem u_X11_more_0 {l : Launch} {E : xE} (a1 : Int) {M : xM} {Q : Option xV → xM → Prop} (h : ((0 : Int) ≤ a1 ∧ (a1 : Int) < 3) ∧ ((M 104 a1) = 4 → ((0 : Int) ≤ a1 ∧ (a1 : Int) < 3) ∧ Q (some (0, (M 105 a1))) M) ∧ (¬ (M 104 a1) = 4 → ((0 : Int) ≤ a1 ∧ (a1 : Int) < 3) ∧ (¬ (M 104 a1) = 6 → Q (some (0, 0)) M) ∧ ((M 104 a1) = 6 → ((0 : Int) ≤ a1 ∧ (a1 : Int) < 3) ∧ Q (some (0, (M 105 a1))) M))) : x_Ev l E (1, 0, 0) m_X11_more 0 [(21, 103), (0, a1)] [] M Q := by
  refine i_aload_n 0 rfl rfl (by decide) ?_
  refine i_getP (c := 11) (k := 1) (t := 114) (b := 104) 1 rfl fl_1050 (by decide) rfl (by decide) rfl ?_
  refine i_iload_n 2 rfl rfl ?_
  refine i_iald (τ := 14) 3 rfl ⟨rfl, rfl, rfl, by decide⟩ h.1.1 h.1.2 ?_
  replace h := h.2
  refine i_iconst 4 rfl (by decide) ?_
  refine i_icmp_eq 21 5 rfl (by decide) (fun c => ?_) (fun c => ?_)
  · replace h := h.1 c
    refine i_aload_n 12 rfl rfl (by decide) ?_
    refine i_getP (c := 11) (k := 2) (t := 114) (b := 105) 13 rfl fl_1051 (by decide) rfl (by decide) rfl ?_
    refine i_iload_n 14 rfl rfl ?_
    refine i_iald (τ := 14) 15 rfl ⟨rfl, rfl, rfl, by decide⟩ h.1.1 h.1.2 ?_
    replace h := h.2
    refine i_goto 31 16 rfl (by decide) ?_
    exact i_ireturn 18 rfl rfl h
  · replace h := h.2 c
    refine i_aload_n 6 rfl rfl (by decide) ?_
    refine i_getP (c := 11) (k := 1) (t := 114) (b := 104) 7 rfl fl_1050 (by decide) rfl (by decide) rfl ?_
    refine i_iload_n 8 rfl rfl ?_
    refine i_iald (τ := 14) 9 rfl ⟨rfl, rfl, rfl, by decide⟩ h.1.1 h.1.2 ?_
    replace h := h.2
    refine i_bipush 10 rfl (by decide) ?_
    refine i_icmp_ne 30 11 rfl (by decide) (fun c => ?_) (fun c => ?_)
    · replace h := h.1 c
      refine i_iconst 17 rfl (by decide) ?_
      exact i_ireturn 18 rfl rfl h
    · replace h := h.2 c
      refine i_aload_n 12 rfl rfl (by decide) ?_
      refine i_getP (c := 11) (k := 2) (t := 114) (b := 105) 13 rfl fl_1051 (by decide) rfl (by decide) rfl ?_
      refine i_iload_n 14 rfl rfl ?_
      refine i_iald (τ := 14) 15 rfl ⟨rfl, rfl, rfl, by decide⟩ h.1.1 h.1.2 ?_
      replace h := h.2
      refine i_goto 31 16 rfl (by decide) ?_
      exact i_ireturn 18 rfl rfl h
theorem u_X11_sums_0 {l : Launch} {E : xE} {M : xM} {Q : Option xV → xM → Prop} (h : ∀ zM1 : xM, zM1 = x_wr M 103 15 0 → ∀ zM2 : xM, zM2 = x_wr zM1 103 16 1 → Q none zM2) : x_Ev l E (1, 0, 0) m_X11_sums 0 [(21, 103)] [] M Q := by
  refine i_aload_n 0 rfl rfl (by decide) ?_
  refine i_lconst (w := 0) 1 rfl (by decide) ?_
  replace h := h _ rfl
  refine i_putL (c := 11) (k := 15) 2 rfl fl_1064 (by decide) ⟨rfl, rfl, rfl⟩ ?_
  refine i_aload_n 3 rfl rfl (by decide) ?_
  refine i_lconst (w := 1) 4 rfl (by decide) ?_
  replace h := h _ rfl
  refine i_putL (c := 11) (k := 16) 5 rfl fl_1065 (by decide) ⟨rfl, rfl, rfl⟩ ?_
  exact i_return 6 rfl rfl h
theorem u_X11_answer__0 {l : Launch} {E : xE} (a1 a2 a3 a4 : Int) {M : xM} {Q : Option xV → xM → Prop} (h : x_Ev l E (3, 0, 0) m_X11_bestPlans 0 [(21, 103), (0, a1), (1, a2), (5, 0), (1, a3), (5, 0), (5, 0), (5, 0), (5, 0), (5, 0), (5, 0)] [] M (fun r zM1 => ∃ zr2, r = some (0, zr2) ∧ (¬ a4 = 0 → (¬ a4 = 1 → x_Ev l E (2, 0, 0) m_X11_byTolls 0 [(21, 103), (0, a1), (0, zr2), (0, 0), (5, 0), (5, 0), (5, 0), (5, 0), (5, 0)] [] zM1 (fun r zM3 => ∃ zr4, r = some (0, zr4) ∧ x_Ev l E (3, 0, 0) m_X11_chosen 0 [(21, 103), (0, a1), (0, zr4), (1, a2), (5, 0), (1, a3), (5, 0), (5, 0), (5, 0), (5, 0), (5, 0), (5, 0)] [] zM3 (fun r zM5 => ∃ zr6, r = some (0, zr6) ∧ Q (some (0, zr6)) zM5))) ∧ (a4 = 1 → x_Ev l E (2, 0, 0) m_X11_byTolls 0 [(21, 103), (0, a1), (0, zr2), (0, 1), (5, 0), (5, 0), (5, 0), (5, 0), (5, 0)] [] zM1 (fun r zM7 => ∃ zr8, r = some (0, zr8) ∧ x_Ev l E (3, 0, 0) m_X11_chosen 0 [(21, 103), (0, a1), (0, zr8), (1, a2), (5, 0), (1, a3), (5, 0), (5, 0), (5, 0), (5, 0), (5, 0), (5, 0)] [] zM7 (fun r zM9 => ∃ zr10, r = some (0, zr10) ∧ Q (some (0, zr10)) zM9)))) ∧ (a4 = 0 → x_Ev l E (3, 0, 0) m_X11_chosen 0 [(21, 103), (0, a1), (0, zr2), (1, a2), (5, 0), (1, a3), (5, 0), (5, 0), (5, 0), (5, 0), (5, 0), (5, 0)] [] zM1 (fun r zM11 => ∃ zr12, r = some (0, zr12) ∧ Q (some (0, zr12)) zM11)))) : x_Ev l E (4, 0, 0) m_X11_answer_ 0 [(21, 103), (0, a1), (1, a2), (5, 0), (1, a3), (5, 0), (0, a4), (5, 0)] [] M Q := by
  refine i_aload_n 0 rfl rfl (by decide) ?_
  refine i_iload_n 1 rfl rfl ?_
  refine i_lload_n 2 rfl rfl ?_
  refine i_lload 3 rfl rfl ?_
  refine i_callV (c := 11) (y1 := m_X11_bestPlans) (z1 := (3, 0, 0)) (z2 := (4, 0, 0)) [(0, a1), (1, a2), (1, a3)] 4 rfl ml_1300 ok_X11_bestPlans vk_X11_bestPlans ⟨by decide, rfl⟩ rfl ⟨rfl, Nat.le_of_ble_eq_true rfl⟩ (Nat.le_of_ble_eq_true rfl) ⟨by decide, rfl, rfl, rfl⟩ ?_
  refine h.mono (fun r zM1 h => ?_)
  obtain ⟨zr2, rfl, h⟩ := h
  simp only [Option.toList_some, Option.toList_none, List.cons_append, List.nil_append]
  refine i_istore 5 rfl (by decide) rfl ?_
  refine i_aload_n 6 rfl rfl (by decide) ?_
  refine i_iload_n 7 rfl rfl ?_
  refine i_iload 8 rfl rfl ?_
  refine i_if_ne 22 9 rfl (by decide) (fun c => ?_) (fun c => ?_)
  · replace h := h.1 c
    refine i_aload_n 12 rfl rfl (by decide) ?_
    refine i_iload_n 13 rfl rfl ?_
    refine i_iload 14 rfl rfl ?_
    refine i_iload 15 rfl rfl ?_
    refine i_iconst 16 rfl (by decide) ?_
    refine i_icmp_ne 36 17 rfl (by decide) (fun c => ?_) (fun c => ?_)
    · replace h := h.1 c
      refine i_iconst 20 rfl (by decide) ?_
      refine i_callV (c := 11) (y1 := m_X11_byTolls) (z1 := (2, 0, 0)) (z2 := (4, 0, 0)) [(0, a1), (0, zr2), (0, 0)] 21 rfl ml_1441 ok_X11_byTolls vk_X11_byTolls ⟨by decide, rfl⟩ rfl ⟨rfl, Nat.le_of_ble_eq_true rfl⟩ (Nat.le_of_ble_eq_true rfl) ⟨by decide, rfl, rfl, rfl⟩ ?_
      refine h.mono (fun r zM3 h => ?_)
      obtain ⟨zr4, rfl, h⟩ := h
      simp only [Option.toList_some, Option.toList_none, List.cons_append, List.nil_append]
      refine i_lload_n 22 rfl rfl ?_
      refine i_lload 23 rfl rfl ?_
      refine i_callV (c := 11) (y1 := m_X11_chosen) (z1 := (3, 0, 0)) (z2 := (4, 0, 0)) [(0, a1), (0, zr4), (1, a2), (1, a3)] 24 rfl ml_1320 ok_X11_chosen vk_X11_chosen ⟨by decide, rfl⟩ rfl ⟨rfl, Nat.le_of_ble_eq_true rfl⟩ (Nat.le_of_ble_eq_true rfl) ⟨by decide, rfl, rfl, rfl⟩ ?_
      refine h.mono (fun r zM5 h => ?_)
      obtain ⟨zr6, rfl, h⟩ := h
      simp only [Option.toList_some, Option.toList_none, List.cons_append, List.nil_append]
      exact i_ireturn 25 rfl rfl h
    · replace h := h.2 c
      refine i_iconst 18 rfl (by decide) ?_
      refine i_goto 37 19 rfl (by decide) ?_
      refine i_callV (c := 11) (y1 := m_X11_byTolls) (z1 := (2, 0, 0)) (z2 := (4, 0, 0)) [(0, a1), (0, zr2), (0, 1)] 21 rfl ml_1441 ok_X11_byTolls vk_X11_byTolls ⟨by decide, rfl⟩ rfl ⟨rfl, Nat.le_of_ble_eq_true rfl⟩ (Nat.le_of_ble_eq_true rfl) ⟨by decide, rfl, rfl, rfl⟩ ?_
      refine h.mono (fun r zM7 h => ?_)
      obtain ⟨zr8, rfl, h⟩ := h
      simp only [Option.toList_some, Option.toList_none, List.cons_append, List.nil_append]
      refine i_lload_n 22 rfl rfl ?_
      refine i_lload 23 rfl rfl ?_
      refine i_callV (c := 11) (y1 := m_X11_chosen) (z1 := (3, 0, 0)) (z2 := (4, 0, 0)) [(0, a1), (0, zr8), (1, a2), (1, a3)] 24 rfl ml_1320 ok_X11_chosen vk_X11_chosen ⟨by decide, rfl⟩ rfl ⟨rfl, Nat.le_of_ble_eq_true rfl⟩ (Nat.le_of_ble_eq_true rfl) ⟨by decide, rfl, rfl, rfl⟩ ?_
      refine h.mono (fun r zM9 h => ?_)
      obtain ⟨zr10, rfl, h⟩ := h
      simp only [Option.toList_some, Option.toList_none, List.cons_append, List.nil_append]
      exact i_ireturn 25 rfl rfl h
  · replace h := h.2 c
    refine i_iload 10 rfl rfl ?_
    refine i_goto 40 11 rfl (by decide) ?_
    refine i_lload_n 22 rfl rfl ?_
    refine i_lload 23 rfl rfl ?_
    refine i_callV (c := 11) (y1 := m_X11_chosen) (z1 := (3, 0, 0)) (z2 := (4, 0, 0)) [(0, a1), (0, zr2), (1, a2), (1, a3)] 24 rfl ml_1320 ok_X11_chosen vk_X11_chosen ⟨by decide, rfl⟩ rfl ⟨rfl, Nat.le_of_ble_eq_true rfl⟩ (Nat.le_of_ble_eq_true rfl) ⟨by decide, rfl, rfl, rfl⟩ ?_
    refine h.mono (fun r zM11 h => ?_)
    obtain ⟨zr12, rfl, h⟩ := h
    simp only [Option.toList_some, Option.toList_none, List.cons_append, List.nil_append]
    exact i_ireturn 25 rfl rfl h
theorem u_X11_adds_0 {l : Launch} {E : xE} (a1 a2 : Int) {M : xM} {Q : Option xV → xM → Prop} (h : x_Ev l E (1, 0, 0) m_X11_divisor 0 [(1, a1), (5, 0), (1, a2), (5, 0), (5, 0), (5, 0), (5, 0), (5, 0), (5, 0), (5, 0)] [] M (fun r zM1 => ∃ zr2, r = some (1, zr2) ∧ (zr2 ≠ 0) ∧ ∀ zv3 : Int, zv3 = (x_W (a1.tdiv zr2)) → (zr2 ≠ 0) ∧ ∀ zv4 : Int, zv4 = (x_W (a2.tdiv zr2)) → x_Ev l E (1, 0, 0) m_X11_divisor 0 [(1, (zM1 103 16)), (5, 0), (1, zv4), (5, 0), (5, 0), (5, 0), (5, 0), (5, 0), (5, 0), (5, 0)] [] zM1 (fun r zM5 => ∃ zr6, r = some (1, zr6) ∧ (zr6 ≠ 0) ∧ (zr6 ≠ 0) ∧ ∀ zv7 : Int, zv7 = (x_W ((x_W ((zM5 103 15) * (x_W (zv4.tdiv zr6)))) + (x_W (zv3 * (x_W ((zM5 103 16).tdiv zr6)))))) → (zr6 ≠ 0) ∧ ∀ zv8 : Int, zv8 = (x_W ((x_W ((zM5 103 16).tdiv zr6)) * zv4)) → x_Ev l E (1, 0, 0) m_X11_divisor 0 [(1, zv7), (5, 0), (1, zv8), (5, 0), (5, 0), (5, 0), (5, 0), (5, 0), (5, 0), (5, 0)] [] zM5 (fun r zM9 => ∃ zr10, r = some (1, zr10) ∧ (zr10 ≠ 0) ∧ ∀ zM11 : xM, zM11 = x_wr zM9 103 15 (x_W (zv7.tdiv zr10)) → (zr10 ≠ 0) ∧ ∀ zM12 : xM, zM12 = x_wr zM11 103 16 (x_W (zv8.tdiv zr10)) → Q none zM12)))) : x_Ev l E (2, 0, 0) m_X11_adds 0 [(21, 103), (1, a1), (5, 0), (1, a2), (5, 0), (5, 0), (5, 0), (5, 0), (5, 0), (5, 0), (5, 0), (5, 0), (5, 0), (5, 0), (5, 0), (5, 0), (5, 0), (5, 0), (5, 0)] [] M Q := by
  refine i_lload_n 0 rfl rfl ?_
  refine i_lload_n 1 rfl rfl ?_
  refine i_callS (y1 := m_X11_divisor) (z1 := (1, 0, 0)) (z2 := (2, 0, 0)) [(1, a1), (1, a2)] 2 rfl ml_1397 ok_X11_divisor vk_X11_divisor rfl ⟨rfl, Nat.le_of_ble_eq_true rfl⟩ (Nat.le_of_ble_eq_true rfl) ⟨by decide, rfl, rfl, rfl⟩ ?_
  refine h.mono (fun r zM1 h => ?_)
  obtain ⟨zr2, rfl, h⟩ := h
  simp only [Option.toList_some, Option.toList_none, List.cons_append, List.nil_append]
  refine i_lstore 3 rfl (by decide) rfl ?_
  refine i_lload_n 4 rfl rfl ?_
  refine i_lload 5 rfl rfl ?_
  refine i_ldiv 6 rfl h.1 ?_
  replace h := h.2
  replace h := h _ rfl
  refine i_lstore 7 rfl (by decide) rfl ?_
  refine i_lload_n 8 rfl rfl ?_
  refine i_lload 9 rfl rfl ?_
  refine i_ldiv 10 rfl h.1 ?_
  replace h := h.2
  replace h := h _ rfl
  refine i_lstore 11 rfl (by decide) rfl ?_
  refine i_aload_n 12 rfl rfl (by decide) ?_
  refine i_getL (c := 11) (k := 16) 13 rfl fl_1065 (by decide) rfl ?_
  refine i_lload 14 rfl rfl ?_
  refine i_callS (y1 := m_X11_divisor) (z1 := (1, 0, 0)) (z2 := (2, 0, 0)) [(1, (zM1 103 16)), (1, ((x_W (a2.tdiv zr2))))] 15 rfl ml_1397 ok_X11_divisor vk_X11_divisor rfl ⟨rfl, Nat.le_of_ble_eq_true rfl⟩ (Nat.le_of_ble_eq_true rfl) ⟨by decide, rfl, rfl, rfl⟩ ?_
  refine h.mono (fun r zM5 h => ?_)
  obtain ⟨zr6, rfl, h⟩ := h
  simp only [Option.toList_some, Option.toList_none, List.cons_append, List.nil_append]
  refine i_lstore 16 rfl (by decide) rfl ?_
  refine i_aload_n 17 rfl rfl (by decide) ?_
  refine i_getL (c := 11) (k := 15) 18 rfl fl_1064 (by decide) rfl ?_
  refine i_lload 19 rfl rfl ?_
  refine i_lload 20 rfl rfl ?_
  refine i_ldiv 21 rfl h.1 ?_
  replace h := h.2
  refine i_lmul 22 rfl ?_
  refine i_lload 23 rfl rfl ?_
  refine i_aload_n 24 rfl rfl (by decide) ?_
  refine i_getL (c := 11) (k := 16) 25 rfl fl_1065 (by decide) rfl ?_
  refine i_lload 26 rfl rfl ?_
  refine i_ldiv 27 rfl h.1 ?_
  replace h := h.2
  refine i_lmul 28 rfl ?_
  refine i_ladd 29 rfl ?_
  replace h := h _ rfl
  refine i_lstore 30 rfl (by decide) rfl ?_
  refine i_aload_n 31 rfl rfl (by decide) ?_
  refine i_getL (c := 11) (k := 16) 32 rfl fl_1065 (by decide) rfl ?_
  refine i_lload 33 rfl rfl ?_
  refine i_ldiv 34 rfl h.1 ?_
  replace h := h.2
  refine i_lload 35 rfl rfl ?_
  refine i_lmul 36 rfl ?_
  replace h := h _ rfl
  refine i_lstore 37 rfl (by decide) rfl ?_
  refine i_lload 38 rfl rfl ?_
  refine i_lload 39 rfl rfl ?_
  refine i_callS (y1 := m_X11_divisor) (z1 := (1, 0, 0)) (z2 := (2, 0, 0)) [(1, ((x_W ((x_W ((zM5 103 15) * (x_W (((x_W (a2.tdiv zr2))).tdiv zr6)))) + (x_W (((x_W (a1.tdiv zr2))) * (x_W ((zM5 103 16).tdiv zr6)))))))), (1, ((x_W ((x_W ((zM5 103 16).tdiv zr6)) * ((x_W (a2.tdiv zr2)))))))] 40 rfl ml_1397 ok_X11_divisor vk_X11_divisor rfl ⟨rfl, Nat.le_of_ble_eq_true rfl⟩ (Nat.le_of_ble_eq_true rfl) ⟨by decide, rfl, rfl, rfl⟩ ?_
  refine h.mono (fun r zM9 h => ?_)
  obtain ⟨zr10, rfl, h⟩ := h
  simp only [Option.toList_some, Option.toList_none, List.cons_append, List.nil_append]
  refine i_lstore 41 rfl (by decide) rfl ?_
  refine i_aload_n 42 rfl rfl (by decide) ?_
  refine i_lload 43 rfl rfl ?_
  refine i_lload 44 rfl rfl ?_
  refine i_ldiv 45 rfl h.1 ?_
  replace h := h.2
  replace h := h _ rfl
  refine i_putL (c := 11) (k := 15) 46 rfl fl_1064 (by decide) ⟨rfl, rfl, rfl⟩ ?_
  refine i_aload_n 47 rfl rfl (by decide) ?_
  refine i_lload 48 rfl rfl ?_
  refine i_lload 49 rfl rfl ?_
  refine i_ldiv 50 rfl h.1 ?_
  replace h := h.2
  replace h := h _ rfl
  refine i_putL (c := 11) (k := 16) 51 rfl fl_1065 (by decide) ⟨rfl, rfl, rfl⟩ ?_
  exact i_return 52 rfl rfl h
theorem u_X11_isProof_0 {l : Launch} {E : xE} (a1 a2 : Int) {M : xM} {Q : Option xV → xM → Prop} (h : x_Ev l E (3, 0, 0) m_X11_isProof 2 [(21, 103), (0, a1), (0, a2), (0, 0)] [] M Q) : x_Ev l E (3, 0, 0) m_X11_isProof 0 [(21, 103), (0, a1), (0, a2), (5, 0)] [] M Q := by
  refine i_iconst 0 rfl (by decide) ?_
  refine i_istore_n 1 rfl (by decide) rfl ?_
  exact h
theorem u_X11_isProof_2 {l : Launch} {E : xE} (l1 l2 l3 : Int) {M : xM} {Q : Option xV → xM → Prop} (h : ((M 103 33) ≤ l3 → Q (some (0, 1)) M) ∧ (¬ (M 103 33) ≤ l3 → x_Ev l E (2, 0, 0) m_X11_costLess 0 [(21, 103), (0, l1), (0, l2), (0, l3)] [] M (fun r zM1 => ∃ zr2, r = some (1, zr2) ∧ (zr2 ≤ 0 → ∀ zv3 : Int, zv3 = x_w (l3 + 1) → x_Ev l E (3, 0, 0) m_X11_isProof 2 [(21, 103), (0, l1), (0, l2), (0, zv3)] [] zM1 Q) ∧ (¬ zr2 ≤ 0 → Q (some (0, 0)) zM1)))) : x_Ev l E (3, 0, 0) m_X11_isProof 2 [(21, 103), (0, l1), (0, l2), (0, l3)] [] M Q := by
  refine i_iload_n 2 rfl rfl ?_
  refine i_aload_n 3 rfl rfl (by decide) ?_
  refine i_getI (c := 11) (k := 33) 4 rfl fl_1082 (by decide) (by decide) ?_
  refine i_icmp_ge 30 5 rfl (by decide) (fun c => ?_) (fun c => ?_)
  · replace h := h.1 c
    refine i_iconst 18 rfl (by decide) ?_
    exact i_zreturn 19 rfl rfl (by decide) h
  · replace h := h.2 c
    refine i_aload_n 6 rfl rfl (by decide) ?_
    refine i_iload_n 7 rfl rfl ?_
    refine i_iload_n 8 rfl rfl ?_
    refine i_iload_n 9 rfl rfl ?_
    refine i_callV (c := 11) (y1 := m_X11_costLess) (z1 := (2, 0, 0)) (z2 := (3, 0, 0)) [(0, l1), (0, l2), (0, l3)] 10 rfl ml_1509 ok_X11_costLess vk_X11_costLess ⟨by decide, rfl⟩ rfl ⟨rfl, Nat.le_of_ble_eq_true rfl⟩ (Nat.le_of_ble_eq_true rfl) ⟨by decide, rfl, rfl, rfl⟩ ?_
    refine h.mono (fun r zM1 h => ?_)
    obtain ⟨zr2, rfl, h⟩ := h
    simp only [Option.toList_some, Option.toList_none, List.cons_append, List.nil_append]
    refine i_lconst (w := 0) 11 rfl (by decide) ?_
    refine i_lcmp_le 24 12 rfl rfl (by decide) (fun c => ?_) (fun c => ?_)
    · replace h := h.1 c
      replace h := h _ rfl
      refine i_iinc 16 rfl rfl (by decide) rfl ?_
      refine i_goto 2 17 rfl (by decide) ?_
      exact h
    · replace h := h.2 c
      refine i_iconst 14 rfl (by decide) ?_
      exact i_zreturn 15 rfl rfl (by decide) h
theorem u_X11_areTight_0 {l : Launch} {E : xE} (a1 a2 a3 : Int) {M : xM} {Q : Option xV → xM → Prop} (h : x_Ev l E (1, 0, 0) m_X11_areTight 6 [(21, 103), (0, a1), (0, a2), (0, a3), (0, 0), (0, 0), (5, 0)] [] M Q) : x_Ev l E (1, 0, 0) m_X11_areTight 0 [(21, 103), (0, a1), (0, a2), (0, a3), (5, 0), (5, 0), (5, 0)] [] M Q := by
  refine i_iconst 0 rfl (by decide) ?_
  refine i_istore 1 rfl (by decide) rfl ?_
  refine i_iconst 2 rfl (by decide) ?_
  refine i_istore 3 rfl (by decide) rfl ?_
  exact h
theorem u_X11_areTight_6 {l : Launch} {E : xE} (l1 l2 l3 l4 l5 : Int) {M : xM} {Q : Option xV → xM → Prop} (h : ((0 : Int) ≤ l1 ∧ (l1 : Int) < 3) ∧ ((M 149 l1) ≤ l5 → x_Ev l E (1, 0, 0) m_X11_areTight 54 [(21, 103), (0, l1), (0, l2), (0, l3), (0, l4), (0, 0), (0, 0)] [] M Q) ∧ (¬ (M 149 l1) ≤ l5 → ((0 : Int) ≤ l1 ∧ (l1 : Int) < 3) ∧ ((0 : Int) ≤ l5 ∧ (l5 : Int) < 40) ∧ (¬ (x_iand (M (278 + 1 + 1 * l1) l5) l2) = l2 → ∀ zv1 : Int, zv1 = (x_ior l4 0) → ∀ zv2 : Int, zv2 = x_w (l5 + 1) → x_Ev l E (1, 0, 0) m_X11_areTight 6 [(21, 103), (0, l1), (0, l2), (0, l3), (0, zv1), (0, zv2), (5, 0)] [] M Q) ∧ ((x_iand (M (278 + 1 + 1 * l1) l5) l2) = l2 → ∀ zv3 : Int, zv3 = (x_ior l4 1) → ∀ zv4 : Int, zv4 = x_w (l5 + 1) → x_Ev l E (1, 0, 0) m_X11_areTight 6 [(21, 103), (0, l1), (0, l2), (0, l3), (0, zv3), (0, zv4), (5, 0)] [] M Q))) : x_Ev l E (1, 0, 0) m_X11_areTight 6 [(21, 103), (0, l1), (0, l2), (0, l3), (0, l4), (0, l5), (5, 0)] [] M Q := by
  refine i_iload 4 rfl rfl ?_
  refine i_aload_n 5 rfl rfl (by decide) ?_
  refine i_getP (c := 11) (k := 21) (t := 114) (b := 149) 6 rfl fl_1070 (by decide) rfl (by decide) rfl ?_
  refine i_iload_n 7 rfl rfl ?_
  refine i_iald (τ := 14) 8 rfl ⟨rfl, rfl, rfl, by decide⟩ h.1.1 h.1.2 ?_
  replace h := h.2
  refine i_icmp_ge 48 9 rfl (by decide) (fun c => ?_) (fun c => ?_)
  · replace h := h.1 c
    refine i_iconst 28 rfl (by decide) ?_
    refine i_istore 29 rfl (by decide) rfl ?_
    refine i_iconst 30 rfl (by decide) ?_
    refine i_istore 31 rfl (by decide) rfl ?_
    exact h
  · replace h := h.2 c
    refine i_iload 10 rfl rfl ?_
    refine i_aload_n 11 rfl rfl (by decide) ?_
    refine i_getP (c := 11) (k := 24) (t := 132) (b := 278) 12 rfl fl_1073 (by decide) rfl (by decide) rfl ?_
    refine i_iload_n 13 rfl rfl ?_
    refine i_aald (τ := 32) (t := 131) (len := 3) (b := (278 + 1 + 1 * l1)) 14 rfl (by decide) rfl h.1.1 h.1.2 ?_
    replace h := h.2
    refine i_iload 15 rfl rfl ?_
    refine i_iald (τ := 31) 16 rfl ⟨rfl, rfl, rfl, by decide⟩ h.1.1 h.1.2 ?_
    replace h := h.2
    refine i_iload_n 17 rfl rfl ?_
    refine i_iand 18 rfl ?_
    refine i_iload_n 19 rfl rfl ?_
    refine i_icmp_ne 38 20 rfl (by decide) (fun c => ?_) (fun c => ?_)
    · replace h := h.1 c
      refine i_iconst 23 rfl (by decide) ?_
      refine i_ior 24 rfl ?_
      replace h := h _ rfl
      refine i_istore 25 rfl (by decide) rfl ?_
      replace h := h _ rfl
      refine i_iinc 26 rfl rfl (by decide) rfl ?_
      refine i_goto 6 27 rfl (by decide) ?_
      exact h
    · replace h := h.2 c
      refine i_iconst 21 rfl (by decide) ?_
      refine i_goto 39 22 rfl (by decide) ?_
      refine i_ior 24 rfl ?_
      replace h := h _ rfl
      refine i_istore 25 rfl (by decide) rfl ?_
      replace h := h _ rfl
      refine i_iinc 26 rfl rfl (by decide) rfl ?_
      refine i_goto 6 27 rfl (by decide) ?_
      exact h
theorem u_X11_areTight_54 {l : Launch} {E : xE} (l1 l2 l3 l4 l5 l6 : Int) {M : xM} {Q : Option xV → xM → Prop} (h : ((M 103 33) ≤ l6 → (l4 = 0 → Q (some (0, 0)) M) ∧ (¬ l4 = 0 → (l5 = 0 → Q (some (0, 0)) M) ∧ (¬ l5 = 0 → Q (some (0, 1)) M))) ∧ (¬ (M 103 33) ≤ l6 → ((0 : Int) ≤ l6 ∧ (l6 : Int) < 40) ∧ (¬ (x_iand (M 326 l6) l3) = l3 → ∀ zv1 : Int, zv1 = (x_ior l5 0) → ∀ zv2 : Int, zv2 = x_w (l6 + 1) → x_Ev l E (1, 0, 0) m_X11_areTight 54 [(21, 103), (0, l1), (0, l2), (0, l3), (0, l4), (0, zv1), (0, zv2)] [] M Q) ∧ ((x_iand (M 326 l6) l3) = l3 → ∀ zv3 : Int, zv3 = (x_ior l5 1) → ∀ zv4 : Int, zv4 = x_w (l6 + 1) → x_Ev l E (1, 0, 0) m_X11_areTight 54 [(21, 103), (0, l1), (0, l2), (0, l3), (0, l4), (0, zv3), (0, zv4)] [] M Q))) : x_Ev l E (1, 0, 0) m_X11_areTight 54 [(21, 103), (0, l1), (0, l2), (0, l3), (0, l4), (0, l5), (0, l6)] [] M Q := by
  refine i_iload 32 rfl rfl ?_
  refine i_aload_n 33 rfl rfl (by decide) ?_
  refine i_getI (c := 11) (k := 33) 34 rfl fl_1082 (by decide) (by decide) ?_
  refine i_icmp_ge 92 35 rfl (by decide) (fun c => ?_) (fun c => ?_)
  · replace h := h.1 c
    refine i_iload 52 rfl rfl ?_
    refine i_if_eq 106 53 rfl (by decide) (fun c => ?_) (fun c => ?_)
    · replace h := h.1 c
      refine i_iconst 58 rfl (by decide) ?_
      exact i_zreturn 59 rfl rfl (by decide) h
    · replace h := h.2 c
      refine i_iload 54 rfl rfl ?_
      refine i_if_eq 106 55 rfl (by decide) (fun c => ?_) (fun c => ?_)
      · replace h := h.1 c
        refine i_iconst 58 rfl (by decide) ?_
        exact i_zreturn 59 rfl rfl (by decide) h
      · replace h := h.2 c
        refine i_iconst 56 rfl (by decide) ?_
        refine i_goto 107 57 rfl (by decide) ?_
        exact i_zreturn 59 rfl rfl (by decide) h
  · replace h := h.2 c
    refine i_iload 36 rfl rfl ?_
    refine i_aload_n 37 rfl rfl (by decide) ?_
    refine i_getP (c := 11) (k := 36) (t := 131) (b := 326) 38 rfl fl_1085 (by decide) rfl (by decide) rfl ?_
    refine i_iload 39 rfl rfl ?_
    refine i_iald (τ := 31) 40 rfl ⟨rfl, rfl, rfl, by decide⟩ h.1.1 h.1.2 ?_
    replace h := h.2
    refine i_iload_n 41 rfl rfl ?_
    refine i_iand 42 rfl ?_
    refine i_iload_n 43 rfl rfl ?_
    refine i_icmp_ne 82 44 rfl (by decide) (fun c => ?_) (fun c => ?_)
    · replace h := h.1 c
      refine i_iconst 47 rfl (by decide) ?_
      refine i_ior 48 rfl ?_
      replace h := h _ rfl
      refine i_istore 49 rfl (by decide) rfl ?_
      replace h := h _ rfl
      refine i_iinc 50 rfl rfl (by decide) rfl ?_
      refine i_goto 54 51 rfl (by decide) ?_
      exact h
    · replace h := h.2 c
      refine i_iconst 45 rfl (by decide) ?_
      refine i_goto 83 46 rfl (by decide) ?_
      refine i_ior 48 rfl ?_
      replace h := h _ rfl
      refine i_istore 49 rfl (by decide) rfl ?_
      replace h := h _ rfl
      refine i_iinc 50 rfl rfl (by decide) rfl ?_
      refine i_goto 54 51 rfl (by decide) ?_
      exact h
theorem u_X11_laysDual_0 {l : Launch} {E : xE} (a1 a2 : Int) {M : xM} {Q : Option xV → xM → Prop} (h : ∀ zM1 : xM, zM1 = x_wr M 103 17 0 → x_Ev l E (3, 0, 0) m_X11_laysDual 7 [(21, 103), (0, a1), (0, a2), (0, 0), (5, 0)] [] zM1 Q) : x_Ev l E (3, 0, 0) m_X11_laysDual 0 [(21, 103), (0, a1), (0, a2), (5, 0), (5, 0)] [] M Q := by
  refine i_aload_n 0 rfl rfl (by decide) ?_
  refine i_iconst 1 rfl (by decide) ?_
  replace h := h _ rfl
  refine i_putI (c := 11) (k := 17) 2 rfl fl_1066 (by decide) ⟨rfl, rfl, rfl⟩ ?_
  refine i_iconst 3 rfl (by decide) ?_
  refine i_istore_n 4 rfl (by decide) rfl ?_
  exact h
theorem u_X11_laysDual_7 {l : Launch} {E : xE} (l1 l2 l3 : Int) {M : xM} {Q : Option xV → xM → Prop} (h : x_Ev l E (1, 0, 0) m_X11_pairs 0 [(21, 103), (0, l1)] [] M (fun r zM1 => ∃ zr2, r = some (0, zr2) ∧ (zr2 ≤ l3 → Q none zM1) ∧ (¬ zr2 ≤ l3 → (¬ (x_iand (x_ishr l2 l3) 1) = 0 → x_Ev l E (3, 0, 0) m_X11_laysDual 30 [(21, 103), (0, l1), (0, l2), (0, l3), (0, 0)] [] zM1 Q) ∧ ((x_iand (x_ishr l2 l3) 1) = 0 → ∀ zv3 : Int, zv3 = x_w (l3 + 1) → x_Ev l E (3, 0, 0) m_X11_laysDual 7 [(21, 103), (0, l1), (0, l2), (0, zv3), (5, 0)] [] zM1 Q)))) : x_Ev l E (3, 0, 0) m_X11_laysDual 7 [(21, 103), (0, l1), (0, l2), (0, l3), (5, 0)] [] M Q := by
  refine i_iload_n 5 rfl rfl ?_
  refine i_aload_n 6 rfl rfl (by decide) ?_
  refine i_iload_n 7 rfl rfl ?_
  refine i_callV (c := 11) (y1 := m_X11_pairs) (z1 := (1, 0, 0)) (z2 := (3, 0, 0)) [(0, l1)] 8 rfl ml_1255 ok_X11_pairs vk_X11_pairs ⟨by decide, rfl⟩ rfl ⟨rfl, Nat.le_of_ble_eq_true rfl⟩ (Nat.le_of_ble_eq_true rfl) ⟨by decide, rfl, rfl, rfl⟩ ?_
  refine h.mono (fun r zM1 h => ?_)
  obtain ⟨zr2, rfl, h⟩ := h
  simp only [Option.toList_some, Option.toList_none, List.cons_append, List.nil_append]
  refine i_icmp_ge 154 9 rfl (by decide) (fun c => ?_) (fun c => ?_)
  · replace h := h.1 c
    exact i_return 91 rfl rfl h
  · replace h := h.2 c
    refine i_iload_n 10 rfl rfl ?_
    refine i_iload_n 11 rfl rfl ?_
    refine i_ishr 12 rfl ?_
    refine i_iconst 13 rfl (by decide) ?_
    refine i_iand 14 rfl ?_
    refine i_if_ne 27 15 rfl (by decide) (fun c => ?_) (fun c => ?_)
    · replace h := h.1 c
      refine i_iconst 17 rfl (by decide) ?_
      refine i_istore 18 rfl (by decide) rfl ?_
      exact h
    · replace h := h.2 c
      refine i_goto 148 16 rfl (by decide) ?_
      replace h := h _ rfl
      refine i_iinc 89 rfl rfl (by decide) rfl ?_
      refine i_goto 7 90 rfl (by decide) ?_
      exact h
theorem u_X11_laysDual_30 {l : Launch} {E : xE} (l1 l2 l3 l4 : Int) {M : xM} {Q : Option xV → xM → Prop} (h : ((0 : Int) ≤ l1 ∧ (l1 : Int) < 3) ∧ ((M 107 l1) ≤ l4 → ((0 : Int) ≤ l1 ∧ (l1 : Int) < 3) ∧ ((M 107 l1) ≤ l3 → ((0 : Int) ≤ l1 ∧ (l1 : Int) < 3) ∧ x_Ev l E (2, 0, 0) m_X11_due 0 [(21, 103), (0, l1), (0, (x_w (l3 - (M 107 l1))))] [] M (fun r zM1 => ∃ zr2, r = some (1, zr2) ∧ (0 ≤ (M 103 17) ∧ (M 103 17) < 4) ∧ ∀ zM3 : xM, zM3 = x_wr zM1 147 (M 103 17) zr2 → ∀ zM4 : xM, zM4 = x_wr zM3 103 17 (x_w ((zM3 103 17) + 1)) → ∀ zv5 : Int, zv5 = x_w (l3 + 1) → x_Ev l E (3, 0, 0) m_X11_laysDual 7 [(21, 103), (0, l1), (0, l2), (0, zv5), (5, 0)] [] zM4 Q)) ∧ (¬ (M 107 l1) ≤ l3 → (0 ≤ (M 103 17) ∧ (M 103 17) < 4) ∧ ∀ zM6 : xM, zM6 = x_wr M 147 (M 103 17) 0 → ∀ zM7 : xM, zM7 = x_wr zM6 103 17 (x_w ((zM6 103 17) + 1)) → ∀ zv8 : Int, zv8 = x_w (l3 + 1) → x_Ev l E (3, 0, 0) m_X11_laysDual 7 [(21, 103), (0, l1), (0, l2), (0, zv8), (5, 0)] [] zM7 Q)) ∧ (¬ (M 107 l1) ≤ l4 → ((0 : Int) ≤ (M 103 17) ∧ ((M 103 17) : Int) < 4) ∧ ((0 : Int) ≤ l1 ∧ (l1 : Int) < 3) ∧ ((M 107 l1) ≤ l3 → ((0 : Int) ≤ l1 ∧ (l1 : Int) < 3) ∧ ((0 : Int) ≤ l4 ∧ (l4 : Int) < 4) ∧ ((0 : Int) ≤ l1 ∧ (l1 : Int) < 3) ∧ ((0 : Int) ≤ (x_w (l3 - (M 107 l1))) ∧ ((x_w (l3 - (M 107 l1))) : Int) < 3) ∧ (0 ≤ l4 ∧ l4 < 4) ∧ ∀ zM9 : xM, zM9 = x_wr M (142 + 1 + 1 * (M 103 17)) l4 (M ((121 + 1 + 5 * l1) + 1 + 1 * l4) (x_w (l3 - (M 107 l1)))) → ∀ zv10 : Int, zv10 = x_w (l4 + 1) → x_Ev l E (3, 0, 0) m_X11_laysDual 30 [(21, 103), (0, l1), (0, l2), (0, l3), (0, zv10)] [] zM9 Q) ∧ (¬ (M 107 l1) ≤ l3 → (¬ l3 = l4 → (0 ≤ l4 ∧ l4 < 4) ∧ ∀ zM11 : xM, zM11 = x_wr M (142 + 1 + 1 * (M 103 17)) l4 0 → ∀ zv12 : Int, zv12 = x_w (l4 + 1) → x_Ev l E (3, 0, 0) m_X11_laysDual 30 [(21, 103), (0, l1), (0, l2), (0, l3), (0, zv12)] [] zM11 Q) ∧ (l3 = l4 → (0 ≤ l4 ∧ l4 < 4) ∧ ∀ zM13 : xM, zM13 = x_wr M (142 + 1 + 1 * (M 103 17)) l4 1 → ∀ zv14 : Int, zv14 = x_w (l4 + 1) → x_Ev l E (3, 0, 0) m_X11_laysDual 30 [(21, 103), (0, l1), (0, l2), (0, l3), (0, zv14)] [] zM13 Q)))) : x_Ev l E (3, 0, 0) m_X11_laysDual 30 [(21, 103), (0, l1), (0, l2), (0, l3), (0, l4)] [] M Q := by
  refine i_iload 19 rfl rfl ?_
  refine i_aload_n 20 rfl rfl (by decide) ?_
  refine i_getP (c := 11) (k := 4) (t := 114) (b := 107) 21 rfl fl_1053 (by decide) rfl (by decide) rfl ?_
  refine i_iload_n 22 rfl rfl ?_
  refine i_iald (τ := 14) 23 rfl ⟨rfl, rfl, rfl, by decide⟩ h.1.1 h.1.2 ?_
  replace h := h.2
  refine i_icmp_ge 102 24 rfl (by decide) (fun c => ?_) (fun c => ?_)
  · replace h := h.1 c
    refine i_aload_n 61 rfl rfl (by decide) ?_
    refine i_getP (c := 11) (k := 19) (t := 125) (b := 147) 62 rfl fl_1068 (by decide) rfl (by decide) rfl ?_
    refine i_aload_n 63 rfl rfl (by decide) ?_
    refine i_getI (c := 11) (k := 17) 64 rfl fl_1066 (by decide) (by decide) ?_
    refine i_iload_n 65 rfl rfl ?_
    refine i_aload_n 66 rfl rfl (by decide) ?_
    refine i_getP (c := 11) (k := 4) (t := 114) (b := 107) 67 rfl fl_1053 (by decide) rfl (by decide) rfl ?_
    refine i_iload_n 68 rfl rfl ?_
    refine i_iald (τ := 14) 69 rfl ⟨rfl, rfl, rfl, by decide⟩ h.1.1 h.1.2 ?_
    replace h := h.2
    refine i_icmp_ge 124 70 rfl (by decide) (fun c => ?_) (fun c => ?_)
    · replace h := h.1 c
      refine i_aload_n 73 rfl rfl (by decide) ?_
      refine i_iload_n 74 rfl rfl ?_
      refine i_iload_n 75 rfl rfl ?_
      refine i_aload_n 76 rfl rfl (by decide) ?_
      refine i_getP (c := 11) (k := 4) (t := 114) (b := 107) 77 rfl fl_1053 (by decide) rfl (by decide) rfl ?_
      refine i_iload_n 78 rfl rfl ?_
      refine i_iald (τ := 14) 79 rfl ⟨rfl, rfl, rfl, by decide⟩ h.1.1 h.1.2 ?_
      replace h := h.2
      refine i_isub 80 rfl ?_
      refine i_callV (c := 11) (y1 := m_X11_due) (z1 := (2, 0, 0)) (z2 := (3, 0, 0)) [(0, l1), (0, (x_w (l3 - (M 107 l1))))] 81 rfl ml_1465 ok_X11_due vk_X11_due ⟨by decide, rfl⟩ rfl ⟨rfl, Nat.le_of_ble_eq_true rfl⟩ (Nat.le_of_ble_eq_true rfl) ⟨by decide, rfl, rfl, rfl⟩ ?_
      refine h.mono (fun r zM1 h => ?_)
      obtain ⟨zr2, rfl, h⟩ := h
      simp only [Option.toList_some, Option.toList_none, List.cons_append, List.nil_append]
      have hb := h.1
      replace h := h.2 _ rfl
      refine i_last (τ := 25) 82 rfl ⟨rfl, rfl, rfl, by decide⟩ hb.1 hb.2 ?_
      refine i_aload_n 83 rfl rfl (by decide) ?_
      refine i_dup 84 rfl (Nat.ne_of_beq_eq_false rfl) ?_
      refine i_getI (c := 11) (k := 17) 85 rfl fl_1066 (by decide) (by decide) ?_
      refine i_iconst 86 rfl (by decide) ?_
      refine i_iadd 87 rfl ?_
      replace h := h _ rfl
      refine i_putI (c := 11) (k := 17) 88 rfl fl_1066 (by decide) ⟨rfl, rfl, rfl⟩ ?_
      replace h := h _ rfl
      refine i_iinc 89 rfl rfl (by decide) rfl ?_
      refine i_goto 7 90 rfl (by decide) ?_
      refine i_weak ?_ h
      exact (And.intro (Or.inr rfl) (And.intro (Or.inr rfl) (And.intro (Or.inr rfl) (And.intro (Or.inr rfl) (And.intro (Or.inl rfl) trivial)))))
    · replace h := h.2 c
      refine i_lconst (w := 0) 71 rfl (by decide) ?_
      refine i_goto 137 72 rfl (by decide) ?_
      have hb := h.1
      replace h := h.2 _ rfl
      refine i_last (τ := 25) 82 rfl ⟨rfl, rfl, rfl, by decide⟩ hb.1 hb.2 ?_
      refine i_aload_n 83 rfl rfl (by decide) ?_
      refine i_dup 84 rfl (Nat.ne_of_beq_eq_false rfl) ?_
      refine i_getI (c := 11) (k := 17) 85 rfl fl_1066 (by decide) (by decide) ?_
      refine i_iconst 86 rfl (by decide) ?_
      refine i_iadd 87 rfl ?_
      replace h := h _ rfl
      refine i_putI (c := 11) (k := 17) 88 rfl fl_1066 (by decide) ⟨rfl, rfl, rfl⟩ ?_
      replace h := h _ rfl
      refine i_iinc 89 rfl rfl (by decide) rfl ?_
      refine i_goto 7 90 rfl (by decide) ?_
      refine i_weak ?_ h
      exact (And.intro (Or.inr rfl) (And.intro (Or.inr rfl) (And.intro (Or.inr rfl) (And.intro (Or.inr rfl) (And.intro (Or.inl rfl) trivial)))))
  · replace h := h.2 c
    refine i_aload_n 25 rfl rfl (by decide) ?_
    refine i_getP (c := 11) (k := 18) (t := 126) (b := 142) 26 rfl fl_1067 (by decide) rfl (by decide) rfl ?_
    refine i_aload_n 27 rfl rfl (by decide) ?_
    refine i_getI (c := 11) (k := 17) 28 rfl fl_1066 (by decide) (by decide) ?_
    refine i_aald (τ := 26) (t := 125) (len := 4) (b := (142 + 1 + 1 * (M 103 17))) 29 rfl (by decide) rfl h.1.1 h.1.2 ?_
    replace h := h.2
    refine i_iload 30 rfl rfl ?_
    refine i_iload_n 31 rfl rfl ?_
    refine i_aload_n 32 rfl rfl (by decide) ?_
    refine i_getP (c := 11) (k := 4) (t := 114) (b := 107) 33 rfl fl_1053 (by decide) rfl (by decide) rfl ?_
    refine i_iload_n 34 rfl rfl ?_
    refine i_iald (τ := 14) 35 rfl ⟨rfl, rfl, rfl, by decide⟩ h.1.1 h.1.2 ?_
    replace h := h.2
    refine i_icmp_ge 76 36 rfl (by decide) (fun c => ?_) (fun c => ?_)
    · replace h := h.1 c
      refine i_aload_n 44 rfl rfl (by decide) ?_
      refine i_getP (c := 11) (k := 6) (t := 123) (b := 121) 45 rfl fl_1055 (by decide) rfl (by decide) rfl ?_
      refine i_iload_n 46 rfl rfl ?_
      refine i_aald (τ := 23) (t := 122) (len := 3) (b := (121 + 1 + 5 * l1)) 47 rfl (by decide) rfl h.1.1 h.1.2 ?_
      replace h := h.2
      refine i_iload 48 rfl rfl ?_
      refine i_aald (τ := 22) (t := 114) (len := 4) (b := ((121 + 1 + 5 * l1) + 1 + 1 * l4)) 49 rfl (by decide) rfl h.1.1 h.1.2 ?_
      replace h := h.2
      refine i_iload_n 50 rfl rfl ?_
      refine i_aload_n 51 rfl rfl (by decide) ?_
      refine i_getP (c := 11) (k := 4) (t := 114) (b := 107) 52 rfl fl_1053 (by decide) rfl (by decide) rfl ?_
      refine i_iload_n 53 rfl rfl ?_
      refine i_iald (τ := 14) 54 rfl ⟨rfl, rfl, rfl, by decide⟩ h.1.1 h.1.2 ?_
      replace h := h.2
      refine i_isub 55 rfl ?_
      refine i_iald (τ := 14) 56 rfl ⟨rfl, rfl, rfl, by decide⟩ h.1.1 h.1.2 ?_
      replace h := h.2
      refine i_i2l 57 rfl ?_
      have hb := h.1
      replace h := h.2 _ rfl
      refine i_last (τ := 25) 58 rfl ⟨rfl, rfl, rfl, by decide⟩ hb.1 hb.2 ?_
      replace h := h _ rfl
      refine i_iinc 59 rfl rfl (by decide) rfl ?_
      refine i_goto 30 60 rfl (by decide) ?_
      exact h
    · replace h := h.2 c
      refine i_iload_n 37 rfl rfl ?_
      refine i_iload 38 rfl rfl ?_
      refine i_icmp_ne 72 39 rfl (by decide) (fun c => ?_) (fun c => ?_)
      · replace h := h.1 c
        refine i_lconst (w := 0) 42 rfl (by decide) ?_
        refine i_goto 95 43 rfl (by decide) ?_
        have hb := h.1
        replace h := h.2 _ rfl
        refine i_last (τ := 25) 58 rfl ⟨rfl, rfl, rfl, by decide⟩ hb.1 hb.2 ?_
        replace h := h _ rfl
        refine i_iinc 59 rfl rfl (by decide) rfl ?_
        refine i_goto 30 60 rfl (by decide) ?_
        exact h
      · replace h := h.2 c
        refine i_lconst (w := 1) 40 rfl (by decide) ?_
        refine i_goto 95 41 rfl (by decide) ?_
        have hb := h.1
        replace h := h.2 _ rfl
        refine i_last (τ := 25) 58 rfl ⟨rfl, rfl, rfl, by decide⟩ hb.1 hb.2 ?_
        replace h := h _ rfl
        refine i_iinc 59 rfl rfl (by decide) rfl ?_
        refine i_goto 30 60 rfl (by decide) ?_
        exact h
theorem u_X11_arePrices_0 {l : Launch} {E : xE} (a1 a2 : Int) {M : xM} {Q : Option xV → xM → Prop} (h : x_Ev l E (3, 0, 0) m_X11_arePrices 3 [(21, 103), (0, a1), (1, a2), (5, 0), (0, 0)] [] M Q) : x_Ev l E (3, 0, 0) m_X11_arePrices 0 [(21, 103), (0, a1), (1, a2), (5, 0), (5, 0)] [] M Q := by
  refine i_iconst 0 rfl (by decide) ?_
  refine i_istore 1 rfl (by decide) rfl ?_
  exact h
theorem u_X11_arePrices_3 {l : Launch} {E : xE} (l1 l2 l4 : Int) {M : xM} {Q : Option xV → xM → Prop} (h : ((0 : Int) ≤ l1 ∧ (l1 : Int) < 3) ∧ ((M 107 l1) ≤ l4 → x_Ev l E (3, 0, 0) m_X11_arePrices 37 [(21, 103), (0, l1), (1, l2), (5, 0), (0, 0)] [] M Q) ∧ (¬ (M 107 l1) ≤ l4 → ((0 : Int) ≤ l4 ∧ (l4 : Int) < 4) ∧ (0 ≤ (M 148 l4) → ∀ zv1 : Int, zv1 = x_w (l4 + 1) → x_Ev l E (3, 0, 0) m_X11_arePrices 3 [(21, 103), (0, l1), (1, l2), (5, 0), (0, zv1)] [] M Q) ∧ (¬ 0 ≤ (M 148 l4) → Q (some (0, 0)) M))) : x_Ev l E (3, 0, 0) m_X11_arePrices 3 [(21, 103), (0, l1), (1, l2), (5, 0), (0, l4)] [] M Q := by
  refine i_iload 2 rfl rfl ?_
  refine i_aload_n 3 rfl rfl (by decide) ?_
  refine i_getP (c := 11) (k := 4) (t := 114) (b := 107) 4 rfl fl_1053 (by decide) rfl (by decide) rfl ?_
  refine i_iload_n 5 rfl rfl ?_
  refine i_iald (τ := 14) 6 rfl ⟨rfl, rfl, rfl, by decide⟩ h.1.1 h.1.2 ?_
  replace h := h.2
  refine i_icmp_ge 34 7 rfl (by decide) (fun c => ?_) (fun c => ?_)
  · replace h := h.1 c
    refine i_iconst 19 rfl (by decide) ?_
    refine i_istore 20 rfl (by decide) rfl ?_
    exact h
  · replace h := h.2 c
    refine i_aload_n 8 rfl rfl (by decide) ?_
    refine i_getP (c := 11) (k := 20) (t := 125) (b := 148) 9 rfl fl_1069 (by decide) rfl (by decide) rfl ?_
    refine i_iload 10 rfl rfl ?_
    refine i_lald (τ := 25) 11 rfl ⟨rfl, rfl, rfl, by decide⟩ h.1.1 h.1.2 ?_
    replace h := h.2
    refine i_lconst (w := 0) 12 rfl (by decide) ?_
    refine i_lcmp_ge 28 13 rfl rfl (by decide) (fun c => ?_) (fun c => ?_)
    · replace h := h.1 c
      replace h := h _ rfl
      refine i_iinc 17 rfl rfl (by decide) rfl ?_
      refine i_goto 3 18 rfl (by decide) ?_
      exact h
    · replace h := h.2 c
      refine i_iconst 15 rfl (by decide) ?_
      exact i_zreturn 16 rfl rfl (by decide) h
theorem u_X11_arePrices_37 {l : Launch} {E : xE} (l1 l2 l4 : Int) {M : xM} {Q : Option xV → xM → Prop} (h : ((0 : Int) ≤ l1 ∧ (l1 : Int) < 3) ∧ ((M 106 l1) ≤ l4 → Q (some (0, 1)) M) ∧ (¬ (M 106 l1) ≤ l4 → x_Ev l E (1, 0, 0) m_X11_goodSum 0 [(21, 103), (0, l1), (0, l4), (5, 0), (5, 0), (5, 0)] [] M (fun r zM1 => ∃ zr2, r = some (1, zr2) ∧ x_Ev l E (2, 0, 0) m_X11_due 0 [(21, 103), (0, l1), (0, l4)] [] zM1 (fun r zM3 => ∃ zr4, r = some (1, zr4) ∧ ((x_W (zr4 * l2)) ≤ zr2 → ∀ zv5 : Int, zv5 = x_w (l4 + 1) → x_Ev l E (3, 0, 0) m_X11_arePrices 37 [(21, 103), (0, l1), (1, l2), (5, 0), (0, zv5)] [] zM3 Q) ∧ (¬ (x_W (zr4 * l2)) ≤ zr2 → Q (some (0, 0)) zM3))))) : x_Ev l E (3, 0, 0) m_X11_arePrices 37 [(21, 103), (0, l1), (1, l2), (5, 0), (0, l4)] [] M Q := by
  refine i_iload 21 rfl rfl ?_
  refine i_aload_n 22 rfl rfl (by decide) ?_
  refine i_getP (c := 11) (k := 3) (t := 114) (b := 106) 23 rfl fl_1052 (by decide) rfl (by decide) rfl ?_
  refine i_iload_n 24 rfl rfl ?_
  refine i_iald (τ := 14) 25 rfl ⟨rfl, rfl, rfl, by decide⟩ h.1.1 h.1.2 ?_
  replace h := h.2
  refine i_icmp_ge 76 26 rfl (by decide) (fun c => ?_) (fun c => ?_)
  · replace h := h.1 c
    refine i_iconst 43 rfl (by decide) ?_
    exact i_zreturn 44 rfl rfl (by decide) h
  · replace h := h.2 c
    refine i_aload_n 27 rfl rfl (by decide) ?_
    refine i_iload_n 28 rfl rfl ?_
    refine i_iload 29 rfl rfl ?_
    refine i_callV (c := 11) (y1 := m_X11_goodSum) (z1 := (1, 0, 0)) (z2 := (3, 0, 0)) [(0, l1), (0, l4)] 30 rfl ml_1473 ok_X11_goodSum vk_X11_goodSum ⟨by decide, rfl⟩ rfl ⟨rfl, Nat.le_of_ble_eq_true rfl⟩ (Nat.le_of_ble_eq_true rfl) ⟨by decide, rfl, rfl, rfl⟩ ?_
    refine h.mono (fun r zM1 h => ?_)
    obtain ⟨zr2, rfl, h⟩ := h
    simp only [Option.toList_some, Option.toList_none, List.cons_append, List.nil_append]
    refine i_aload_n 31 rfl rfl (by decide) ?_
    refine i_iload_n 32 rfl rfl ?_
    refine i_iload 33 rfl rfl ?_
    refine i_callV (c := 11) (y1 := m_X11_due) (z1 := (2, 0, 0)) (z2 := (3, 0, 0)) [(0, l1), (0, l4)] 34 rfl ml_1465 ok_X11_due vk_X11_due ⟨by decide, rfl⟩ rfl ⟨rfl, Nat.le_of_ble_eq_true rfl⟩ (Nat.le_of_ble_eq_true rfl) ⟨by decide, rfl, rfl, rfl⟩ ?_
    refine h.mono (fun r zM3 h => ?_)
    obtain ⟨zr4, rfl, h⟩ := h
    simp only [Option.toList_some, Option.toList_none, List.cons_append, List.nil_append]
    refine i_lload_n 35 rfl rfl ?_
    refine i_lmul 36 rfl ?_
    refine i_lcmp_ge 70 37 rfl rfl (by decide) (fun c => ?_) (fun c => ?_)
    · replace h := h.1 c
      replace h := h _ rfl
      refine i_iinc 41 rfl rfl (by decide) rfl ?_
      refine i_goto 37 42 rfl (by decide) ?_
      exact h
    · replace h := h.2 c
      refine i_iconst 39 rfl (by decide) ?_
      exact i_zreturn 40 rfl rfl (by decide) h
theorem u_X11_takesPrices_0 {l : Launch} {E : xE} (a1 a2 : Int) {M : xM} {Q : Option xV → xM → Prop} (h : x_Ev l E (4, 0, 0) m_X11_takesPrices 3 [(21, 103), (0, a1), (1, a2), (5, 0), (0, 0), (5, 0), (5, 0)] [] M Q) : x_Ev l E (4, 0, 0) m_X11_takesPrices 0 [(21, 103), (0, a1), (1, a2), (5, 0), (5, 0), (5, 0), (5, 0)] [] M Q := by
  refine i_iconst 0 rfl (by decide) ?_
  refine i_istore 1 rfl (by decide) rfl ?_
  exact h
theorem u_X11_takesPrices_3 {l : Launch} {E : xE} (l1 l2 l4 : Int) {M : xM} {Q : Option xV → xM → Prop} (h : ((M 103 33) ≤ l4 → x_Ev l E (4, 0, 0) m_X11_takesPrices 91 [(21, 103), (0, l1), (1, l2), (5, 0), (0, 0), (5, 0), (5, 0)] [] M Q) ∧ (¬ (M 103 33) ≤ l4 → x_Ev l E (4, 0, 0) m_X11_takesPrices 18 [(21, 103), (0, l1), (1, l2), (5, 0), (0, l4), (0, 1), (0, 0)] [] M Q)) : x_Ev l E (4, 0, 0) m_X11_takesPrices 3 [(21, 103), (0, l1), (1, l2), (5, 0), (0, l4), (5, 0), (5, 0)] [] M Q := by
  refine i_iload 2 rfl rfl ?_
  refine i_aload_n 3 rfl rfl (by decide) ?_
  refine i_getI (c := 11) (k := 33) 4 rfl fl_1082 (by decide) (by decide) ?_
  refine i_icmp_ge 88 5 rfl (by decide) (fun c => ?_) (fun c => ?_)
  · replace h := h.1 c
    refine i_iconst 48 rfl (by decide) ?_
    refine i_istore 49 rfl (by decide) rfl ?_
    exact h
  · replace h := h.2 c
    refine i_iconst 6 rfl (by decide) ?_
    refine i_istore 7 rfl (by decide) rfl ?_
    refine i_iconst 8 rfl (by decide) ?_
    refine i_istore 9 rfl (by decide) rfl ?_
    exact h
theorem u_X11_takesPrices_18 {l : Launch} {E : xE} (l1 l2 l4 l5 l6 : Int) {M : xM} {Q : Option xV → xM → Prop} (h : ((0 : Int) ≤ l1 ∧ (l1 : Int) < 3) ∧ ((M 107 l1) ≤ l6 → (l5 = 0 → ∀ zv1 : Int, zv1 = x_w (l4 + 1) → x_Ev l E (4, 0, 0) m_X11_takesPrices 3 [(21, 103), (0, l1), (1, l2), (5, 0), (0, zv1), (5, 0), (5, 0)] [] M Q) ∧ (¬ l5 = 0 → Q none M)) ∧ (¬ (M 107 l1) ≤ l6 → ((0 : Int) ≤ l6 ∧ (l6 : Int) < 4) ∧ ((0 : Int) ≤ l4 ∧ (l4 : Int) < 40) ∧ ((0 : Int) ≤ l4 ∧ (l4 : Int) < 40) ∧ ((0 : Int) ≤ l6 ∧ (l6 : Int) < 4) ∧ (¬ (x_W ((M 148 l6) * (M 325 l4))) = (x_W ((M (284 + 1 + 1 * l4) l6) * l2)) → ∀ zv2 : Int, zv2 = (x_iand l5 0) → ∀ zv3 : Int, zv3 = x_w (l6 + 1) → x_Ev l E (4, 0, 0) m_X11_takesPrices 18 [(21, 103), (0, l1), (1, l2), (5, 0), (0, l4), (0, zv2), (0, zv3)] [] M Q) ∧ ((x_W ((M 148 l6) * (M 325 l4))) = (x_W ((M (284 + 1 + 1 * l4) l6) * l2)) → ∀ zv4 : Int, zv4 = (x_iand l5 1) → ∀ zv5 : Int, zv5 = x_w (l6 + 1) → x_Ev l E (4, 0, 0) m_X11_takesPrices 18 [(21, 103), (0, l1), (1, l2), (5, 0), (0, l4), (0, zv4), (0, zv5)] [] M Q))) : x_Ev l E (4, 0, 0) m_X11_takesPrices 18 [(21, 103), (0, l1), (1, l2), (5, 0), (0, l4), (0, l5), (0, l6)] [] M Q := by
  refine i_iload 10 rfl rfl ?_
  refine i_aload_n 11 rfl rfl (by decide) ?_
  refine i_getP (c := 11) (k := 4) (t := 114) (b := 107) 12 rfl fl_1053 (by decide) rfl (by decide) rfl ?_
  refine i_iload_n 13 rfl rfl ?_
  refine i_iald (τ := 14) 14 rfl ⟨rfl, rfl, rfl, by decide⟩ h.1.1 h.1.2 ?_
  replace h := h.2
  refine i_icmp_ge 76 15 rfl (by decide) (fun c => ?_) (fun c => ?_)
  · replace h := h.1 c
    refine i_iload 43 rfl rfl ?_
    refine i_if_eq 82 44 rfl (by decide) (fun c => ?_) (fun c => ?_)
    · replace h := h.1 c
      replace h := h _ rfl
      refine i_iinc 46 rfl rfl (by decide) rfl ?_
      refine i_goto 3 47 rfl (by decide) ?_
      refine i_weak ?_ h
      exact (And.intro (Or.inr rfl) (And.intro (Or.inr rfl) (And.intro (Or.inr rfl) (And.intro (Or.inr rfl) (And.intro (Or.inr rfl) (And.intro (Or.inl rfl) (And.intro (Or.inl rfl) trivial)))))))
    · replace h := h.2 c
      exact i_return 45 rfl rfl h
  · replace h := h.2 c
    refine i_iload 16 rfl rfl ?_
    refine i_aload_n 17 rfl rfl (by decide) ?_
    refine i_getP (c := 11) (k := 20) (t := 125) (b := 148) 18 rfl fl_1069 (by decide) rfl (by decide) rfl ?_
    refine i_iload 19 rfl rfl ?_
    refine i_lald (τ := 25) 20 rfl ⟨rfl, rfl, rfl, by decide⟩ h.1.1 h.1.2 ?_
    replace h := h.2
    refine i_aload_n 21 rfl rfl (by decide) ?_
    refine i_getP (c := 11) (k := 35) (t := 129) (b := 325) 22 rfl fl_1084 (by decide) rfl (by decide) rfl ?_
    refine i_iload 23 rfl rfl ?_
    refine i_lald (τ := 29) 24 rfl ⟨rfl, rfl, rfl, by decide⟩ h.1.1 h.1.2 ?_
    replace h := h.2
    refine i_lmul 25 rfl ?_
    refine i_aload_n 26 rfl rfl (by decide) ?_
    refine i_getP (c := 11) (k := 34) (t := 134) (b := 284) 27 rfl fl_1083 (by decide) rfl (by decide) rfl ?_
    refine i_iload 28 rfl rfl ?_
    refine i_aald (τ := 34) (t := 125) (len := 40) (b := (284 + 1 + 1 * l4)) 29 rfl (by decide) rfl h.1.1 h.1.2 ?_
    replace h := h.2
    refine i_iload 30 rfl rfl ?_
    refine i_lald (τ := 25) 31 rfl ⟨rfl, rfl, rfl, by decide⟩ h.1.1 h.1.2 ?_
    replace h := h.2
    refine i_lload_n 32 rfl rfl ?_
    refine i_lmul 33 rfl ?_
    refine i_lcmp_ne 66 34 rfl rfl (by decide) (fun c => ?_) (fun c => ?_)
    · replace h := h.1 c
      refine i_iconst 38 rfl (by decide) ?_
      refine i_iand 39 rfl ?_
      replace h := h _ rfl
      refine i_istore 40 rfl (by decide) rfl ?_
      replace h := h _ rfl
      refine i_iinc 41 rfl rfl (by decide) rfl ?_
      refine i_goto 18 42 rfl (by decide) ?_
      exact h
    · replace h := h.2 c
      refine i_iconst 36 rfl (by decide) ?_
      refine i_goto 67 37 rfl (by decide) ?_
      refine i_iand 39 rfl ?_
      replace h := h _ rfl
      refine i_istore 40 rfl (by decide) rfl ?_
      replace h := h _ rfl
      refine i_iinc 41 rfl rfl (by decide) rfl ?_
      refine i_goto 18 42 rfl (by decide) ?_
      exact h
theorem u_X11_takesPrices_91 {l : Launch} {E : xE} (l1 l2 l4 : Int) {M : xM} {Q : Option xV → xM → Prop} (h : ((0 : Int) ≤ l1 ∧ (l1 : Int) < 3) ∧ ((M 107 l1) ≤ l4 → (0 ≤ (M 103 33) ∧ (M 103 33) < 40) ∧ ∀ zM1 : xM, zM1 = x_wr M 325 (M 103 33) l2 → x_Ev l E (3, 0, 0) m_X11_tightDual 0 [(21, 103), (0, l1), (1, l2), (5, 0), (5, 0), (5, 0)] [] zM1 (fun r zM2 => ∃ zr3, r = some (0, zr3) ∧ (0 ≤ (zM1 103 33) ∧ (zM1 103 33) < 40) ∧ ∀ zM4 : xM, zM4 = x_wr zM2 326 (zM1 103 33) zr3 → ∀ zM5 : xM, zM5 = x_wr zM4 103 33 (x_w ((zM4 103 33) + 1)) → Q none zM5)) ∧ (¬ (M 107 l1) ≤ l4 → ((0 : Int) ≤ (M 103 33) ∧ ((M 103 33) : Int) < 40) ∧ ((0 : Int) ≤ l4 ∧ (l4 : Int) < 4) ∧ (0 ≤ l4 ∧ l4 < 4) ∧ ∀ zM6 : xM, zM6 = x_wr M (284 + 1 + 1 * (M 103 33)) l4 (M 148 l4) → ∀ zv7 : Int, zv7 = x_w (l4 + 1) → x_Ev l E (4, 0, 0) m_X11_takesPrices 91 [(21, 103), (0, l1), (1, l2), (5, 0), (0, zv7), (5, 0), (5, 0)] [] zM6 Q)) : x_Ev l E (4, 0, 0) m_X11_takesPrices 91 [(21, 103), (0, l1), (1, l2), (5, 0), (0, l4), (5, 0), (5, 0)] [] M Q := by
  refine i_iload 50 rfl rfl ?_
  refine i_aload_n 51 rfl rfl (by decide) ?_
  refine i_getP (c := 11) (k := 4) (t := 114) (b := 107) 52 rfl fl_1053 (by decide) rfl (by decide) rfl ?_
  refine i_iload_n 53 rfl rfl ?_
  refine i_iald (τ := 14) 54 rfl ⟨rfl, rfl, rfl, by decide⟩ h.1.1 h.1.2 ?_
  replace h := h.2
  refine i_icmp_ge 127 55 rfl (by decide) (fun c => ?_) (fun c => ?_)
  · replace h := h.1 c
    refine i_aload_n 69 rfl rfl (by decide) ?_
    refine i_getP (c := 11) (k := 35) (t := 129) (b := 325) 70 rfl fl_1084 (by decide) rfl (by decide) rfl ?_
    refine i_aload_n 71 rfl rfl (by decide) ?_
    refine i_getI (c := 11) (k := 33) 72 rfl fl_1082 (by decide) (by decide) ?_
    refine i_lload_n 73 rfl rfl ?_
    have hb := h.1
    replace h := h.2 _ rfl
    refine i_last (τ := 29) 74 rfl ⟨rfl, rfl, rfl, by decide⟩ hb.1 hb.2 ?_
    refine i_aload_n 75 rfl rfl (by decide) ?_
    refine i_getP (c := 11) (k := 36) (t := 131) (b := 326) 76 rfl fl_1085 (by decide) rfl (by decide) rfl ?_
    refine i_aload_n 77 rfl rfl (by decide) ?_
    refine i_getI (c := 11) (k := 33) 78 rfl fl_1082 (by decide) (by decide) ?_
    refine i_aload_n 79 rfl rfl (by decide) ?_
    refine i_iload_n 80 rfl rfl ?_
    refine i_lload_n 81 rfl rfl ?_
    refine i_callV (c := 11) (y1 := m_X11_tightDual) (z1 := (3, 0, 0)) (z2 := (4, 0, 0)) [(0, l1), (1, l2)] 82 rfl ml_1481 ok_X11_tightDual vk_X11_tightDual ⟨by decide, rfl⟩ rfl ⟨rfl, Nat.le_of_ble_eq_true rfl⟩ (Nat.le_of_ble_eq_true rfl) ⟨by decide, rfl, rfl, rfl⟩ ?_
    refine h.mono (fun r zM2 h => ?_)
    obtain ⟨zr3, rfl, h⟩ := h
    simp only [Option.toList_some, Option.toList_none, List.cons_append, List.nil_append]
    have hb := h.1
    replace h := h.2 _ rfl
    refine i_iast (τ := 31) 83 rfl ⟨rfl, rfl, rfl, by decide⟩ hb.1 hb.2 ?_
    refine i_aload_n 84 rfl rfl (by decide) ?_
    refine i_dup 85 rfl (Nat.ne_of_beq_eq_false rfl) ?_
    refine i_getI (c := 11) (k := 33) 86 rfl fl_1082 (by decide) (by decide) ?_
    refine i_iconst 87 rfl (by decide) ?_
    refine i_iadd 88 rfl ?_
    replace h := h _ rfl
    refine i_putI (c := 11) (k := 33) 89 rfl fl_1082 (by decide) ⟨rfl, rfl, rfl⟩ ?_
    exact i_return 90 rfl rfl h
  · replace h := h.2 c
    refine i_aload_n 56 rfl rfl (by decide) ?_
    refine i_getP (c := 11) (k := 34) (t := 134) (b := 284) 57 rfl fl_1083 (by decide) rfl (by decide) rfl ?_
    refine i_aload_n 58 rfl rfl (by decide) ?_
    refine i_getI (c := 11) (k := 33) 59 rfl fl_1082 (by decide) (by decide) ?_
    refine i_aald (τ := 34) (t := 125) (len := 40) (b := (284 + 1 + 1 * (M 103 33))) 60 rfl (by decide) rfl h.1.1 h.1.2 ?_
    replace h := h.2
    refine i_iload 61 rfl rfl ?_
    refine i_aload_n 62 rfl rfl (by decide) ?_
    refine i_getP (c := 11) (k := 20) (t := 125) (b := 148) 63 rfl fl_1069 (by decide) rfl (by decide) rfl ?_
    refine i_iload 64 rfl rfl ?_
    refine i_lald (τ := 25) 65 rfl ⟨rfl, rfl, rfl, by decide⟩ h.1.1 h.1.2 ?_
    replace h := h.2
    have hb := h.1
    replace h := h.2 _ rfl
    refine i_last (τ := 25) 66 rfl ⟨rfl, rfl, rfl, by decide⟩ hb.1 hb.2 ?_
    replace h := h _ rfl
    refine i_iinc 67 rfl rfl (by decide) rfl ?_
    refine i_goto 91 68 rfl (by decide) ?_
    exact h
theorem u_X11_isAhead_0 {l : Launch} {E : xE} (a1 a2 a3 : Int) {M : xM} {Q : Option xV → xM → Prop} (h : x_Ev l E (1, 0, 0) m_X11_isAhead 3 [(21, 103), (0, a1), (0, a2), (0, a3), (0, 0), (5, 0), (5, 0), (5, 0), (5, 0)] [] M Q) : x_Ev l E (1, 0, 0) m_X11_isAhead 0 [(21, 103), (0, a1), (0, a2), (0, a3), (5, 0), (5, 0), (5, 0), (5, 0), (5, 0)] [] M Q := by
  refine i_iconst 0 rfl (by decide) ?_
  refine i_istore 1 rfl (by decide) rfl ?_
  exact h
theorem u_X11_isAhead_3 {l : Launch} {E : xE} (l1 l2 l3 l4 : Int) {M : xM} {Q : Option xV → xM → Prop} (h : ((0 : Int) ≤ l1 ∧ (l1 : Int) < 3) ∧ ((M 107 l1) ≤ l4 → Q (some (0, 0)) M) ∧ (¬ (M 107 l1) ≤ l4 → ((0 : Int) ≤ l2 ∧ (l2 : Int) < 40) ∧ ((0 : Int) ≤ l4 ∧ (l4 : Int) < 4) ∧ ((0 : Int) ≤ l3 ∧ (l3 : Int) < 40) ∧ ∀ zv1 : Int, zv1 = (x_W ((M (284 + 1 + 1 * l2) l4) * (M 325 l3))) → ((0 : Int) ≤ l3 ∧ (l3 : Int) < 40) ∧ ((0 : Int) ≤ l4 ∧ (l4 : Int) < 4) ∧ ((0 : Int) ≤ l2 ∧ (l2 : Int) < 40) ∧ ∀ zv2 : Int, zv2 = (x_W ((M (284 + 1 + 1 * l3) l4) * (M 325 l2))) → (zv1 = zv2 → ∀ zv3 : Int, zv3 = x_w (l4 + 1) → x_Ev l E (1, 0, 0) m_X11_isAhead 3 [(21, 103), (0, l1), (0, l2), (0, l3), (0, zv3), (5, 0), (5, 0), (5, 0), (5, 0)] [] M Q) ∧ (¬ zv1 = zv2 → (zv2 ≤ zv1 → Q (some (0, 0)) M) ∧ (¬ zv2 ≤ zv1 → Q (some (0, 1)) M)))) : x_Ev l E (1, 0, 0) m_X11_isAhead 3 [(21, 103), (0, l1), (0, l2), (0, l3), (0, l4), (5, 0), (5, 0), (5, 0), (5, 0)] [] M Q := by
  refine i_iload 2 rfl rfl ?_
  refine i_aload_n 3 rfl rfl (by decide) ?_
  refine i_getP (c := 11) (k := 4) (t := 114) (b := 107) 4 rfl fl_1053 (by decide) rfl (by decide) rfl ?_
  refine i_iload_n 5 rfl rfl ?_
  refine i_iald (τ := 14) 6 rfl ⟨rfl, rfl, rfl, by decide⟩ h.1.1 h.1.2 ?_
  replace h := h.2
  refine i_icmp_ge 78 7 rfl (by decide) (fun c => ?_) (fun c => ?_)
  · replace h := h.1 c
    refine i_iconst 46 rfl (by decide) ?_
    exact i_zreturn 47 rfl rfl (by decide) h
  · replace h := h.2 c
    refine i_aload_n 8 rfl rfl (by decide) ?_
    refine i_getP (c := 11) (k := 34) (t := 134) (b := 284) 9 rfl fl_1083 (by decide) rfl (by decide) rfl ?_
    refine i_iload_n 10 rfl rfl ?_
    refine i_aald (τ := 34) (t := 125) (len := 40) (b := (284 + 1 + 1 * l2)) 11 rfl (by decide) rfl h.1.1 h.1.2 ?_
    replace h := h.2
    refine i_iload 12 rfl rfl ?_
    refine i_lald (τ := 25) 13 rfl ⟨rfl, rfl, rfl, by decide⟩ h.1.1 h.1.2 ?_
    replace h := h.2
    refine i_aload_n 14 rfl rfl (by decide) ?_
    refine i_getP (c := 11) (k := 35) (t := 129) (b := 325) 15 rfl fl_1084 (by decide) rfl (by decide) rfl ?_
    refine i_iload_n 16 rfl rfl ?_
    refine i_lald (τ := 29) 17 rfl ⟨rfl, rfl, rfl, by decide⟩ h.1.1 h.1.2 ?_
    replace h := h.2
    refine i_lmul 18 rfl ?_
    replace h := h _ rfl
    refine i_lstore 19 rfl (by decide) rfl ?_
    refine i_aload_n 20 rfl rfl (by decide) ?_
    refine i_getP (c := 11) (k := 34) (t := 134) (b := 284) 21 rfl fl_1083 (by decide) rfl (by decide) rfl ?_
    refine i_iload_n 22 rfl rfl ?_
    refine i_aald (τ := 34) (t := 125) (len := 40) (b := (284 + 1 + 1 * l3)) 23 rfl (by decide) rfl h.1.1 h.1.2 ?_
    replace h := h.2
    refine i_iload 24 rfl rfl ?_
    refine i_lald (τ := 25) 25 rfl ⟨rfl, rfl, rfl, by decide⟩ h.1.1 h.1.2 ?_
    replace h := h.2
    refine i_aload_n 26 rfl rfl (by decide) ?_
    refine i_getP (c := 11) (k := 35) (t := 129) (b := 325) 27 rfl fl_1084 (by decide) rfl (by decide) rfl ?_
    refine i_iload_n 28 rfl rfl ?_
    refine i_lald (τ := 29) 29 rfl ⟨rfl, rfl, rfl, by decide⟩ h.1.1 h.1.2 ?_
    replace h := h.2
    refine i_lmul 30 rfl ?_
    replace h := h _ rfl
    refine i_lstore 31 rfl (by decide) rfl ?_
    refine i_lload 32 rfl rfl ?_
    refine i_lload 33 rfl rfl ?_
    refine i_lcmp_eq 72 34 rfl rfl (by decide) (fun c => ?_) (fun c => ?_)
    · replace h := h.1 c
      replace h := h _ rfl
      refine i_iinc 44 rfl rfl (by decide) rfl ?_
      refine i_goto 3 45 rfl (by decide) ?_
      refine i_weak ?_ h
      exact (And.intro (Or.inr rfl) (And.intro (Or.inr rfl) (And.intro (Or.inr rfl) (And.intro (Or.inr rfl) (And.intro (Or.inr rfl) (And.intro (Or.inl rfl) (And.intro (Or.inr rfl) (And.intro (Or.inl rfl) (And.intro (Or.inr rfl) trivial)))))))))
    · replace h := h.2 c
      refine i_lload 36 rfl rfl ?_
      refine i_lload 37 rfl rfl ?_
      refine i_lcmp_ge 70 38 rfl rfl (by decide) (fun c => ?_) (fun c => ?_)
      · replace h := h.1 c
        refine i_iconst 42 rfl (by decide) ?_
        exact i_zreturn 43 rfl rfl (by decide) h
      · replace h := h.2 c
        refine i_iconst 40 rfl (by decide) ?_
        refine i_goto 71 41 rfl (by decide) ?_
        exact i_zreturn 43 rfl rfl (by decide) h
theorem u_X11_areTold_0 {l : Launch} {E : xE} (a1 a2 : Int) {M : xM} {Q : Option xV → xM → Prop} (h : ((0 : Int) ≤ a1 ∧ (a1 : Int) < 4) ∧ ((0 : Int) ≤ a2 ∧ (a2 : Int) < 3) ∧ ((M 545 a1) ≤ (M 107 a2) → Q (some (0, 0)) M) ∧ (¬ (M 545 a1) ≤ (M 107 a2) → x_Ev l E (1, 0, 0) m_X11_told 0 [(21, 103), (0, a1), (0, 0)] [] M (fun r zM1 => ∃ zr2, r = some (1, zr2) ∧ x_Ev l E (1, 0, 0) m_X11_in 0 [(1, zr2), (5, 0), (1, 1), (5, 0), (1, 1000000), (5, 0)] [] zM1 (fun r zM3 => ∃ zr4, r = some (0, zr4) ∧ (¬ zr4 = 0 → x_Ev l E (2, 0, 0) m_X11_areTold 35 [(21, 103), (0, a1), (0, a2), (0, 0)] [] zM3 Q) ∧ (zr4 = 0 → Q (some (0, 0)) zM3))))) : x_Ev l E (2, 0, 0) m_X11_areTold 0 [(21, 103), (0, a1), (0, a2), (5, 0)] [] M Q := by
  refine i_aload_n 0 rfl rfl (by decide) ?_
  refine i_getP (c := 11) (k := 45) (t := 103) (b := 545) 1 rfl fl_1094 (by decide) rfl (by decide) rfl ?_
  refine i_iload_n 2 rfl rfl ?_
  refine i_iald (τ := 3) 3 rfl ⟨rfl, rfl, rfl, by decide⟩ h.1.1 h.1.2 ?_
  replace h := h.2
  refine i_aload_n 4 rfl rfl (by decide) ?_
  refine i_getP (c := 11) (k := 4) (t := 114) (b := 107) 5 rfl fl_1053 (by decide) rfl (by decide) rfl ?_
  refine i_iload_n 6 rfl rfl ?_
  refine i_iald (τ := 14) 7 rfl ⟨rfl, rfl, rfl, by decide⟩ h.1.1 h.1.2 ?_
  replace h := h.2
  refine i_icmp_le 31 8 rfl (by decide) (fun c => ?_) (fun c => ?_)
  · replace h := h.1 c
    refine i_iconst 17 rfl (by decide) ?_
    exact i_zreturn 18 rfl rfl (by decide) h
  · replace h := h.2 c
    refine i_aload_n 9 rfl rfl (by decide) ?_
    refine i_iload_n 10 rfl rfl ?_
    refine i_iconst 11 rfl (by decide) ?_
    refine i_callV (c := 11) (y1 := m_X11_told) (z1 := (1, 0, 0)) (z2 := (2, 0, 0)) [(0, a1), (0, 0)] 12 rfl ml_1552 ok_X11_told vk_X11_told ⟨by decide, rfl⟩ rfl ⟨rfl, Nat.le_of_ble_eq_true rfl⟩ (Nat.le_of_ble_eq_true rfl) ⟨by decide, rfl, rfl, rfl⟩ ?_
    refine h.mono (fun r zM1 h => ?_)
    obtain ⟨zr2, rfl, h⟩ := h
    simp only [Option.toList_some, Option.toList_none, List.cons_append, List.nil_append]
    refine i_lconst (w := 1) 13 rfl (by decide) ?_
    refine i_ldc2 (v := 1000000) 14 rfl cw_1556 (by decide) ?_
    refine i_callS (y1 := m_X11_in) (z1 := (1, 0, 0)) (z2 := (2, 0, 0)) [(1, zr2), (1, 1), (1, 1000000)] 15 rfl ml_1229 ok_X11_in vk_X11_in rfl ⟨rfl, Nat.le_of_ble_eq_true rfl⟩ (Nat.le_of_ble_eq_true rfl) ⟨by decide, rfl, rfl, rfl⟩ ?_
    refine h.mono (fun r zM3 h => ?_)
    obtain ⟨zr4, rfl, h⟩ := h
    simp only [Option.toList_some, Option.toList_none, List.cons_append, List.nil_append]
    refine i_if_ne 33 16 rfl (by decide) (fun c => ?_) (fun c => ?_)
    · replace h := h.1 c
      refine i_iconst 19 rfl (by decide) ?_
      refine i_istore_n 20 rfl (by decide) rfl ?_
      exact h
    · replace h := h.2 c
      refine i_iconst 17 rfl (by decide) ?_
      exact i_zreturn 18 rfl rfl (by decide) h
theorem u_X11_areTold_35 {l : Launch} {E : xE} (l1 l2 l3 : Int) {M : xM} {Q : Option xV → xM → Prop} (h : ((0 : Int) ≤ l2 ∧ (l2 : Int) < 3) ∧ ((M 107 l2) ≤ l3 → Q (some (0, 1)) M) ∧ (¬ (M 107 l2) ≤ l3 → x_Ev l E (1, 0, 0) m_X11_told 0 [(21, 103), (0, l1), (0, (x_w (1 + l3)))] [] M (fun r zM1 => ∃ zr2, r = some (1, zr2) ∧ x_Ev l E (1, 0, 0) m_X11_in 0 [(1, zr2), (5, 0), (1, 0), (5, 0), (1, 1000000000), (5, 0)] [] zM1 (fun r zM3 => ∃ zr4, r = some (0, zr4) ∧ (¬ zr4 = 0 → ∀ zv5 : Int, zv5 = x_w (l3 + 1) → x_Ev l E (2, 0, 0) m_X11_areTold 35 [(21, 103), (0, l1), (0, l2), (0, zv5)] [] zM3 Q) ∧ (zr4 = 0 → Q (some (0, 0)) zM3))))) : x_Ev l E (2, 0, 0) m_X11_areTold 35 [(21, 103), (0, l1), (0, l2), (0, l3)] [] M Q := by
  refine i_iload_n 21 rfl rfl ?_
  refine i_aload_n 22 rfl rfl (by decide) ?_
  refine i_getP (c := 11) (k := 4) (t := 114) (b := 107) 23 rfl fl_1053 (by decide) rfl (by decide) rfl ?_
  refine i_iload_n 24 rfl rfl ?_
  refine i_iald (τ := 14) 25 rfl ⟨rfl, rfl, rfl, by decide⟩ h.1.1 h.1.2 ?_
  replace h := h.2
  refine i_icmp_ge 71 26 rfl (by decide) (fun c => ?_) (fun c => ?_)
  · replace h := h.1 c
    refine i_iconst 41 rfl (by decide) ?_
    exact i_zreturn 42 rfl rfl (by decide) h
  · replace h := h.2 c
    refine i_aload_n 27 rfl rfl (by decide) ?_
    refine i_iload_n 28 rfl rfl ?_
    refine i_iconst 29 rfl (by decide) ?_
    refine i_iload_n 30 rfl rfl ?_
    refine i_iadd 31 rfl ?_
    refine i_callV (c := 11) (y1 := m_X11_told) (z1 := (1, 0, 0)) (z2 := (2, 0, 0)) [(0, l1), (0, (x_w (1 + l3)))] 32 rfl ml_1552 ok_X11_told vk_X11_told ⟨by decide, rfl⟩ rfl ⟨rfl, Nat.le_of_ble_eq_true rfl⟩ (Nat.le_of_ble_eq_true rfl) ⟨by decide, rfl, rfl, rfl⟩ ?_
    refine h.mono (fun r zM1 h => ?_)
    obtain ⟨zr2, rfl, h⟩ := h
    simp only [Option.toList_some, Option.toList_none, List.cons_append, List.nil_append]
    refine i_lconst (w := 0) 33 rfl (by decide) ?_
    refine i_ldc2 (v := 1000000000) 34 rfl cw_1557 (by decide) ?_
    refine i_callS (y1 := m_X11_in) (z1 := (1, 0, 0)) (z2 := (2, 0, 0)) [(1, zr2), (1, 0), (1, 1000000000)] 35 rfl ml_1229 ok_X11_in vk_X11_in rfl ⟨rfl, Nat.le_of_ble_eq_true rfl⟩ (Nat.le_of_ble_eq_true rfl) ⟨by decide, rfl, rfl, rfl⟩ ?_
    refine h.mono (fun r zM3 h => ?_)
    obtain ⟨zr4, rfl, h⟩ := h
    simp only [Option.toList_some, Option.toList_none, List.cons_append, List.nil_append]
    refine i_if_ne 65 36 rfl (by decide) (fun c => ?_) (fun c => ?_)
    · replace h := h.1 c
      replace h := h _ rfl
      refine i_iinc 39 rfl rfl (by decide) rfl ?_
      refine i_goto 35 40 rfl (by decide) ?_
      exact h
    · replace h := h.2 c
      refine i_iconst 37 rfl (by decide) ?_
      exact i_zreturn 38 rfl rfl (by decide) h
theorem u_X11_told_0 {l : Launch} {E : xE} (a1 a2 : Int) {M : xM} {Q : Option xV → xM → Prop} (h : ((0 : Int) ≤ a1 ∧ (a1 : Int) < 4) ∧ ((0 : Int) ≤ a2 ∧ (a2 : Int) < 40) ∧ Q (some (1, (M (546 + 1 + 1 * a1) a2))) M) : x_Ev l E (1, 0, 0) m_X11_told 0 [(21, 103), (0, a1), (0, a2)] [] M Q := by
  refine i_aload_n 0 rfl rfl (by decide) ?_
  refine i_getP (c := 11) (k := 46) (t := 136) (b := 546) 1 rfl fl_1095 (by decide) rfl (by decide) rfl ?_
  refine i_iload_n 2 rfl rfl ?_
  refine i_aald (τ := 36) (t := 129) (len := 4) (b := (546 + 1 + 1 * a1)) 3 rfl (by decide) rfl h.1.1 h.1.2 ?_
  replace h := h.2
  refine i_iload_n 4 rfl rfl ?_
  refine i_lald (τ := 29) 5 rfl ⟨rfl, rfl, rfl, by decide⟩ h.1.1 h.1.2 ?_
  replace h := h.2
  exact i_lreturn 6 rfl rfl h
theorem u_X11_due_0 {l : Launch} {E : xE} (a1 a2 : Int) {M : xM} {Q : Option xV → xM → Prop} (h : ((0 : Int) ≤ a1 ∧ (a1 : Int) < 3) ∧ ((0 : Int) ≤ a2 ∧ (a2 : Int) < 3) ∧ x_Ev l E (1, 0, 0) m_X11_twice 0 [(21, 103), (0, a1)] [] M (fun r zM1 => ∃ zr2, r = some (0, zr2) ∧ x_Ev l E (1, 0, 0) m_X11_more 0 [(21, 103), (0, a1)] [] zM1 (fun r zM3 => ∃ zr4, r = some (0, zr4) ∧ ((0 : Int) ≤ a1 ∧ (a1 : Int) < 3) ∧ ((0 : Int) ≤ a2 ∧ (a2 : Int) < 3) ∧ Q (some (1, (x_W ((x_W ((M ((108 + 1 + 4 * a1) + 1 + 1 * 0) a2) * (M 103 10))) - (x_W ((x_W ((x_W (zr2 * (zM1 103 9))) + (x_W (zr4 * (zM3 103 10))))) * (zM3 ((108 + 1 + 4 * a1) + 1 + 1 * 1) a2))))))) zM3))) : x_Ev l E (2, 0, 0) m_X11_due 0 [(21, 103), (0, a1), (0, a2)] [] M Q := by
  refine i_aload_n 0 rfl rfl (by decide) ?_
  refine i_getP (c := 11) (k := 5) (t := 121) (b := 108) 1 rfl fl_1054 (by decide) rfl (by decide) rfl ?_
  refine i_iload_n 2 rfl rfl ?_
  refine i_aald (τ := 21) (t := 120) (len := 3) (b := (108 + 1 + 4 * a1)) 3 rfl (by decide) rfl h.1.1 h.1.2 ?_
  replace h := h.2
  refine i_iconst 4 rfl (by decide) ?_
  refine i_aald (τ := 20) (t := 114) (len := 3) (b := ((108 + 1 + 4 * a1) + 1 + 1 * 0)) 5 rfl (by decide) rfl (by decide) (by decide) ?_
  refine i_iload_n 6 rfl rfl ?_
  refine i_iald (τ := 14) 7 rfl ⟨rfl, rfl, rfl, by decide⟩ h.1.1 h.1.2 ?_
  replace h := h.2
  refine i_i2l 8 rfl ?_
  refine i_aload_n 9 rfl rfl (by decide) ?_
  refine i_getL (c := 11) (k := 10) 10 rfl fl_1059 (by decide) rfl ?_
  refine i_lmul 11 rfl ?_
  refine i_aload_n 12 rfl rfl (by decide) ?_
  refine i_iload_n 13 rfl rfl ?_
  refine i_callV (c := 11) (y1 := m_X11_twice) (z1 := (1, 0, 0)) (z2 := (2, 0, 0)) [(0, a1)] 14 rfl ml_1312 ok_X11_twice vk_X11_twice ⟨by decide, rfl⟩ rfl ⟨rfl, Nat.le_of_ble_eq_true rfl⟩ (Nat.le_of_ble_eq_true rfl) ⟨by decide, rfl, rfl, rfl⟩ ?_
  refine h.mono (fun r zM1 h => ?_)
  obtain ⟨zr2, rfl, h⟩ := h
  simp only [Option.toList_some, Option.toList_none, List.cons_append, List.nil_append]
  refine i_i2l 15 rfl ?_
  refine i_aload_n 16 rfl rfl (by decide) ?_
  refine i_getL (c := 11) (k := 9) 17 rfl fl_1058 (by decide) rfl ?_
  refine i_lmul 18 rfl ?_
  refine i_aload_n 19 rfl rfl (by decide) ?_
  refine i_iload_n 20 rfl rfl ?_
  refine i_callV (c := 11) (y1 := m_X11_more) (z1 := (1, 0, 0)) (z2 := (2, 0, 0)) [(0, a1)] 21 rfl ml_1316 ok_X11_more vk_X11_more ⟨by decide, rfl⟩ rfl ⟨rfl, Nat.le_of_ble_eq_true rfl⟩ (Nat.le_of_ble_eq_true rfl) ⟨by decide, rfl, rfl, rfl⟩ ?_
  refine h.mono (fun r zM3 h => ?_)
  obtain ⟨zr4, rfl, h⟩ := h
  simp only [Option.toList_some, Option.toList_none, List.cons_append, List.nil_append]
  refine i_i2l 22 rfl ?_
  refine i_aload_n 23 rfl rfl (by decide) ?_
  refine i_getL (c := 11) (k := 10) 24 rfl fl_1059 (by decide) rfl ?_
  refine i_lmul 25 rfl ?_
  refine i_ladd 26 rfl ?_
  refine i_aload_n 27 rfl rfl (by decide) ?_
  refine i_getP (c := 11) (k := 5) (t := 121) (b := 108) 28 rfl fl_1054 (by decide) rfl (by decide) rfl ?_
  refine i_iload_n 29 rfl rfl ?_
  refine i_aald (τ := 21) (t := 120) (len := 3) (b := (108 + 1 + 4 * a1)) 30 rfl (by decide) rfl h.1.1 h.1.2 ?_
  replace h := h.2
  refine i_iconst 31 rfl (by decide) ?_
  refine i_aald (τ := 20) (t := 114) (len := 3) (b := ((108 + 1 + 4 * a1) + 1 + 1 * 1)) 32 rfl (by decide) rfl (by decide) (by decide) ?_
  refine i_iload_n 33 rfl rfl ?_
  refine i_iald (τ := 14) 34 rfl ⟨rfl, rfl, rfl, by decide⟩ h.1.1 h.1.2 ?_
  replace h := h.2
  refine i_i2l 35 rfl ?_
  refine i_lmul 36 rfl ?_
  refine i_lsub 37 rfl ?_
  exact i_lreturn 38 rfl rfl h
theorem u_X11_breaksOf_0 {l : Launch} {E : xE} (a1 : Int) {M : xM} {Q : Option xV → xM → Prop} (h : x_Ev l E (5, 0, 0) m_X11_breaksOf 2 [(21, 103), (0, a1), (0, 0), (5, 0)] [] M Q) : x_Ev l E (5, 0, 0) m_X11_breaksOf 0 [(21, 103), (0, a1), (5, 0), (5, 0)] [] M Q := by
  refine i_iconst 0 rfl (by decide) ?_
  refine i_istore_n 1 rfl (by decide) rfl ?_
  exact h
theorem u_X11_breaksOf_2 {l : Launch} {E : xE} (l1 l2 : Int) {M : xM} {Q : Option xV → xM → Prop} (h : ((0 : Int) ≤ l1 ∧ (l1 : Int) < 3) ∧ ((M 149 l1) ≤ l2 → Q none M) ∧ (¬ (M 149 l1) ≤ l2 → x_Ev l E (5, 0, 0) m_X11_breaksOf 14 [(21, 103), (0, l1), (0, l2), (0, 0)] [] M Q)) : x_Ev l E (5, 0, 0) m_X11_breaksOf 2 [(21, 103), (0, l1), (0, l2), (5, 0)] [] M Q := by
  refine i_iload_n 2 rfl rfl ?_
  refine i_aload_n 3 rfl rfl (by decide) ?_
  refine i_getP (c := 11) (k := 21) (t := 114) (b := 149) 4 rfl fl_1070 (by decide) rfl (by decide) rfl ?_
  refine i_iload_n 5 rfl rfl ?_
  refine i_iald (τ := 14) 6 rfl ⟨rfl, rfl, rfl, by decide⟩ h.1.1 h.1.2 ?_
  replace h := h.2
  refine i_icmp_ge 38 7 rfl (by decide) (fun c => ?_) (fun c => ?_)
  · replace h := h.1 c
    exact i_return 22 rfl rfl h
  · replace h := h.2 c
    refine i_iconst 8 rfl (by decide) ?_
    refine i_istore_n 9 rfl (by decide) rfl ?_
    exact h
theorem u_X11_breaksOf_14 {l : Launch} {E : xE} (l1 l2 l3 : Int) {M : xM} {Q : Option xV → xM → Prop} (h : (l2 ≤ l3 → ∀ zv1 : Int, zv1 = x_w (l2 + 1) → x_Ev l E (5, 0, 0) m_X11_breaksOf 2 [(21, 103), (0, l1), (0, zv1), (5, 0)] [] M Q) ∧ (¬ l2 ≤ l3 → x_Ev l E (4, 0, 0) m_X11_breaksBy 0 [(21, 103), (0, l1), (0, l2), (0, l3), (5, 0), (5, 0), (5, 0), (5, 0), (5, 0), (5, 0), (5, 0), (5, 0), (5, 0), (5, 0), (5, 0), (5, 0), (5, 0)] [] M (fun r zM2 => r = none ∧ ∀ zv3 : Int, zv3 = x_w (l3 + 1) → x_Ev l E (5, 0, 0) m_X11_breaksOf 14 [(21, 103), (0, l1), (0, l2), (0, zv3)] [] zM2 Q))) : x_Ev l E (5, 0, 0) m_X11_breaksOf 14 [(21, 103), (0, l1), (0, l2), (0, l3)] [] M Q := by
  refine i_iload_n 10 rfl rfl ?_
  refine i_iload_n 11 rfl rfl ?_
  refine i_icmp_ge 32 12 rfl (by decide) (fun c => ?_) (fun c => ?_)
  · replace h := h.1 c
    replace h := h _ rfl
    refine i_iinc 20 rfl rfl (by decide) rfl ?_
    refine i_goto 2 21 rfl (by decide) ?_
    refine i_weak ?_ h
    exact (And.intro (Or.inr rfl) (And.intro (Or.inr rfl) (And.intro (Or.inr rfl) (And.intro (Or.inl rfl) trivial))))
  · replace h := h.2 c
    refine i_aload_n 13 rfl rfl (by decide) ?_
    refine i_iload_n 14 rfl rfl ?_
    refine i_iload_n 15 rfl rfl ?_
    refine i_iload_n 16 rfl rfl ?_
    refine i_callV (c := 11) (y1 := m_X11_breaksBy) (z1 := (4, 0, 0)) (z2 := (5, 0, 0)) [(0, l1), (0, l2), (0, l3)] 17 rfl ml_1574 ok_X11_breaksBy vk_X11_breaksBy ⟨by decide, rfl⟩ rfl ⟨rfl, Nat.le_of_ble_eq_true rfl⟩ (Nat.le_of_ble_eq_true rfl) ⟨by decide, rfl, rfl, rfl⟩ ?_
    refine h.mono (fun r zM2 h => ?_)
    obtain ⟨rfl, h⟩ := h
    simp only [Option.toList_some, Option.toList_none, List.cons_append, List.nil_append]
    replace h := h _ rfl
    refine i_iinc 18 rfl rfl (by decide) rfl ?_
    refine i_goto 14 19 rfl (by decide) ?_
    exact h
theorem u_X11_pointAbove_0 {l : Launch} {E : xE} (a1 : Int) {M : xM} {Q : Option xV → xM → Prop} (h : (¬ a1 = 0 → ((M 103 25) < a1 → Q (some (1, (M 103 8))) M) ∧ (¬ (M 103 25) < a1 → ((0 : Int) ≤ (x_w (a1 - 1)) ∧ ((x_w (a1 - 1)) : Int) < 200) ∧ Q (some (1, (M 282 (x_w (a1 - 1))))) M)) ∧ (a1 = 0 → Q (some (1, 0)) M)) : x_Ev l E (1, 0, 0) m_X11_pointAbove 0 [(21, 103), (0, a1)] [] M Q := by
  refine i_iload_n 0 rfl rfl ?_
  refine i_if_ne 8 1 rfl (by decide) (fun c => ?_) (fun c => ?_)
  · replace h := h.1 c
    refine i_iload_n 4 rfl rfl ?_
    refine i_aload_n 5 rfl rfl (by decide) ?_
    refine i_getI (c := 11) (k := 25) 6 rfl fl_1074 (by decide) (by decide) ?_
    refine i_icmp_gt 27 7 rfl (by decide) (fun c => ?_) (fun c => ?_)
    · replace h := h.1 c
      refine i_aload_n 15 rfl rfl (by decide) ?_
      refine i_getI (c := 11) (k := 8) 16 rfl fl_1057 (by decide) (by decide) ?_
      refine i_i2l 17 rfl ?_
      exact i_lreturn 18 rfl rfl h
    · replace h := h.2 c
      refine i_aload_n 8 rfl rfl (by decide) ?_
      refine i_getP (c := 11) (k := 26) (t := 133) (b := 282) 9 rfl fl_1075 (by decide) rfl (by decide) rfl ?_
      refine i_iload_n 10 rfl rfl ?_
      refine i_iconst 11 rfl (by decide) ?_
      refine i_isub 12 rfl ?_
      refine i_lald (τ := 33) 13 rfl ⟨rfl, rfl, rfl, by decide⟩ h.1.1 h.1.2 ?_
      replace h := h.2
      refine i_goto 32 14 rfl (by decide) ?_
      exact i_lreturn 18 rfl rfl h
  · replace h := h.2 c
    refine i_lconst (w := 0) 2 rfl (by decide) ?_
    refine i_goto 32 3 rfl (by decide) ?_
    exact i_lreturn 18 rfl rfl h
theorem u_X11_pointBelow_0 {l : Launch} {E : xE} (a1 : Int) {M : xM} {Q : Option xV → xM → Prop} (h : (a1 = 0 → Q (some (1, 1)) M) ∧ (¬ a1 = 0 → (a1 ≤ (M 103 25) → ((0 : Int) ≤ (x_w (a1 - 1)) ∧ ((x_w (a1 - 1)) : Int) < 200) ∧ Q (some (1, (M 283 (x_w (a1 - 1))))) M) ∧ (¬ a1 ≤ (M 103 25) → Q (some (1, 1)) M))) : x_Ev l E (1, 0, 0) m_X11_pointBelow 0 [(21, 103), (0, a1)] [] M Q := by
  refine i_iload_n 0 rfl rfl ?_
  refine i_if_eq 12 1 rfl (by decide) (fun c => ?_) (fun c => ?_)
  · replace h := h.1 c
    refine i_lconst (w := 1) 6 rfl (by decide) ?_
    refine i_goto 24 7 rfl (by decide) ?_
    exact i_lreturn 14 rfl rfl h
  · replace h := h.2 c
    refine i_iload_n 2 rfl rfl ?_
    refine i_aload_n 3 rfl rfl (by decide) ?_
    refine i_getI (c := 11) (k := 25) 4 rfl fl_1074 (by decide) (by decide) ?_
    refine i_icmp_le 16 5 rfl (by decide) (fun c => ?_) (fun c => ?_)
    · replace h := h.1 c
      refine i_aload_n 8 rfl rfl (by decide) ?_
      refine i_getP (c := 11) (k := 27) (t := 133) (b := 283) 9 rfl fl_1076 (by decide) rfl (by decide) rfl ?_
      refine i_iload_n 10 rfl rfl ?_
      refine i_iconst 11 rfl (by decide) ?_
      refine i_isub 12 rfl ?_
      refine i_lald (τ := 33) 13 rfl ⟨rfl, rfl, rfl, by decide⟩ h.1.1 h.1.2 ?_
      replace h := h.2
      exact i_lreturn 14 rfl rfl h
    · replace h := h.2 c
      refine i_lconst (w := 1) 6 rfl (by decide) ?_
      refine i_goto 24 7 rfl (by decide) ?_
      exact i_lreturn 14 rfl rfl h
theorem u_X11_slopes_0 {l : Launch} {E : xE} (a1 a2 : Int) {M : xM} {Q : Option xV → xM → Prop} (h : x_Ev l E (1, 0, 0) m_X11_sums 0 [(21, 103)] [] M (fun r zM1 => r = none ∧ x_Ev l E (5, 0, 0) m_X11_slopes 7 [(21, 103), (1, a1), (5, 0), (1, a2), (5, 0), (0, 0), (5, 0)] [] zM1 Q)) : x_Ev l E (5, 0, 0) m_X11_slopes 0 [(21, 103), (1, a1), (5, 0), (1, a2), (5, 0), (5, 0), (5, 0)] [] M Q := by
  refine i_aload_n 0 rfl rfl (by decide) ?_
  refine i_callV (c := 11) (y1 := m_X11_sums) (z1 := (1, 0, 0)) (z2 := (5, 0, 0)) [] 1 rfl ml_1433 ok_X11_sums vk_X11_sums ⟨by decide, rfl⟩ rfl ⟨rfl, Nat.le_of_ble_eq_true rfl⟩ (Nat.le_of_ble_eq_true rfl) ⟨by decide, rfl, rfl, rfl⟩ ?_
  refine h.mono (fun r zM1 h => ?_)
  obtain ⟨rfl, h⟩ := h
  simp only [Option.toList_some, Option.toList_none, List.cons_append, List.nil_append]
  refine i_iconst 2 rfl (by decide) ?_
  refine i_istore 3 rfl (by decide) rfl ?_
  exact h
theorem u_X11_slopes_7 {l : Launch} {E : xE} (l1 l3 l5 : Int) {M : xM} {Q : Option xV → xM → Prop} (h : ((M 103 0) ≤ l5 → Q none M) ∧ (¬ (M 103 0) ≤ l5 → x_Ev l E (4, 0, 0) m_X11_answer_ 0 [(21, 103), (0, l5), (1, l1), (5, 0), (1, l3), (5, 0), (0, 2), (5, 0)] [] M (fun r zM1 => ∃ zr2, r = some (0, zr2) ∧ x_Ev l E (1, 0, 0) m_X11_times 0 [(21, 103), (0, l5), (0, zr2), (0, 1), (5, 0), (5, 0), (5, 0)] [] zM1 (fun r zM3 => ∃ zr4, r = some (1, zr4) ∧ ((0 : Int) ≤ l5 ∧ (l5 : Int) < 3) ∧ ((0 : Int) ≤ zr2 ∧ (zr2 : Int) < 40) ∧ x_Ev l E (2, 0, 0) m_X11_adds 0 [(21, 103), (1, zr4), (5, 0), (1, (zM3 (274 + 1 + 1 * l5) zr2)), (5, 0), (5, 0), (5, 0), (5, 0), (5, 0), (5, 0), (5, 0), (5, 0), (5, 0), (5, 0), (5, 0), (5, 0), (5, 0), (5, 0), (5, 0)] [] zM3 (fun r zM5 => r = none ∧ ∀ zv6 : Int, zv6 = x_w (l5 + 1) → x_Ev l E (5, 0, 0) m_X11_slopes 7 [(21, 103), (1, l1), (5, 0), (1, l3), (5, 0), (0, zv6), (5, 0)] [] zM5 Q))))) : x_Ev l E (5, 0, 0) m_X11_slopes 7 [(21, 103), (1, l1), (5, 0), (1, l3), (5, 0), (0, l5), (5, 0)] [] M Q := by
  refine i_iload 4 rfl rfl ?_
  refine i_aload_n 5 rfl rfl (by decide) ?_
  refine i_getI (c := 11) (k := 0) 6 rfl fl_1049 (by decide) (by decide) ?_
  refine i_icmp_ge 56 7 rfl (by decide) (fun c => ?_) (fun c => ?_)
  · replace h := h.1 c
    exact i_return 30 rfl rfl h
  · replace h := h.2 c
    refine i_aload_n 8 rfl rfl (by decide) ?_
    refine i_iload 9 rfl rfl ?_
    refine i_lload_n 10 rfl rfl ?_
    refine i_lload_n 11 rfl rfl ?_
    refine i_iconst 12 rfl (by decide) ?_
    refine i_callV (c := 11) (y1 := m_X11_answer_) (z1 := (4, 0, 0)) (z2 := (5, 0, 0)) [(0, l5), (1, l1), (1, l3), (0, 2)] 13 rfl ml_1437 ok_X11_answer_ vk_X11_answer_ ⟨by decide, rfl⟩ rfl ⟨rfl, Nat.le_of_ble_eq_true rfl⟩ (Nat.le_of_ble_eq_true rfl) ⟨by decide, rfl, rfl, rfl⟩ ?_
    refine h.mono (fun r zM1 h => ?_)
    obtain ⟨zr2, rfl, h⟩ := h
    simp only [Option.toList_some, Option.toList_none, List.cons_append, List.nil_append]
    refine i_istore 14 rfl (by decide) rfl ?_
    refine i_aload_n 15 rfl rfl (by decide) ?_
    refine i_aload_n 16 rfl rfl (by decide) ?_
    refine i_iload 17 rfl rfl ?_
    refine i_iload 18 rfl rfl ?_
    refine i_iconst 19 rfl (by decide) ?_
    refine i_callV (c := 11) (y1 := m_X11_times) (z1 := (1, 0, 0)) (z2 := (5, 0, 0)) [(0, l5), (0, zr2), (0, 1)] 20 rfl ml_1308 ok_X11_times vk_X11_times ⟨by decide, rfl⟩ rfl ⟨rfl, Nat.le_of_ble_eq_true rfl⟩ (Nat.le_of_ble_eq_true rfl) ⟨by decide, rfl, rfl, rfl⟩ ?_
    refine h.mono (fun r zM3 h => ?_)
    obtain ⟨zr4, rfl, h⟩ := h
    simp only [Option.toList_some, Option.toList_none, List.cons_append, List.nil_append]
    refine i_aload_n 21 rfl rfl (by decide) ?_
    refine i_getP (c := 11) (k := 23) (t := 130) (b := 274) 22 rfl fl_1072 (by decide) rfl (by decide) rfl ?_
    refine i_iload 23 rfl rfl ?_
    refine i_aald (τ := 30) (t := 129) (len := 3) (b := (274 + 1 + 1 * l5)) 24 rfl (by decide) rfl h.1.1 h.1.2 ?_
    replace h := h.2
    refine i_iload 25 rfl rfl ?_
    refine i_lald (τ := 29) 26 rfl ⟨rfl, rfl, rfl, by decide⟩ h.1.1 h.1.2 ?_
    replace h := h.2
    refine i_callV (c := 11) (y1 := m_X11_adds) (z1 := (2, 0, 0)) (z2 := (5, 0, 0)) [(1, zr4), (1, (zM3 (274 + 1 + 1 * l5) zr2))] 27 rfl ml_1445 ok_X11_adds vk_X11_adds ⟨by decide, rfl⟩ rfl ⟨rfl, Nat.le_of_ble_eq_true rfl⟩ (Nat.le_of_ble_eq_true rfl) ⟨by decide, rfl, rfl, rfl⟩ ?_
    refine h.mono (fun r zM5 h => ?_)
    obtain ⟨rfl, h⟩ := h
    simp only [Option.toList_some, Option.toList_none, List.cons_append, List.nil_append]
    replace h := h _ rfl
    refine i_iinc 28 rfl rfl (by decide) rfl ?_
    refine i_goto 7 29 rfl (by decide) ?_
    refine i_weak ?_ h
    exact (And.intro (Or.inr rfl) (And.intro (Or.inr rfl) (And.intro (Or.inr rfl) (And.intro (Or.inr rfl) (And.intro (Or.inr rfl) (And.intro (Or.inr rfl) (And.intro (Or.inl rfl) trivial)))))))
theorem u_X11_determinant_0 {l : Launch} {E : xE} (d : Nat) (a1 a2 : Int) {M : xM} {Q : Option xV → xM → Prop} (h : (¬ a1 = (M 103 17) → x_Ev l E (d + 1, 0, 0) m_X11_determinant 18 [(21, 103), (0, a1), (0, a2), (1, 0), (5, 0), (0, 0), (0, 0), (5, 0), (5, 0)] [] M Q) ∧ (a1 = (M 103 17) → Q (some (1, 1)) M)) : x_Ev l E (d + 1, 0, 0) m_X11_determinant 0 [(21, 103), (0, a1), (0, a2), (5, 0), (5, 0), (5, 0), (5, 0), (5, 0), (5, 0)] [] M Q := by
  refine i_iload_n 0 rfl rfl ?_
  refine i_aload_n 1 rfl rfl (by decide) ?_
  refine i_getI (c := 11) (k := 17) 2 rfl fl_1066 (by decide) (by decide) ?_
  refine i_icmp_ne 10 3 rfl (by decide) (fun c => ?_) (fun c => ?_)
  · replace h := h.1 c
    refine i_lconst (w := 0) 6 rfl (by decide) ?_
    refine i_lstore_n 7 rfl (by decide) rfl ?_
    refine i_iconst 8 rfl (by decide) ?_
    refine i_istore 9 rfl (by decide) rfl ?_
    refine i_iconst 10 rfl (by decide) ?_
    refine i_istore 11 rfl (by decide) rfl ?_
    exact h
  · replace h := h.2 c
    refine i_lconst (w := 1) 4 rfl (by decide) ?_
    exact i_lreturn 5 rfl rfl h
theorem u_X11_determinant_18 {l : Launch} {E : xE} (d : Nat) (l1 l2 l3 l5 l6 : Int) {M : xM} {Q : Option xV → xM → Prop} (h : ((M 103 17) ≤ l6 → Q (some (1, l3)) M) ∧ (¬ (M 103 17) ≤ l6 → (¬ (x_iand (x_ishr l2 l6) 1) = 0 → ((0 : Int) ≤ l1 ∧ (l1 : Int) < 4) ∧ ((0 : Int) ≤ l6 ∧ (l6 : Int) < 4) ∧ ((M (142 + 1 + 1 * l1) l6) = 0 → (¬ l5 = 0 → ∀ zv1 : Int, zv1 = x_w (l6 + 1) → x_Ev l E (d + 1, 0, 0) m_X11_determinant 18 [(21, 103), (0, l1), (0, l2), (1, l3), (5, 0), (0, 0), (0, zv1), (5, 0), (5, 0)] [] M Q) ∧ (l5 = 0 → ∀ zv2 : Int, zv2 = x_w (l6 + 1) → x_Ev l E (d + 1, 0, 0) m_X11_determinant 18 [(21, 103), (0, l1), (0, l2), (1, l3), (5, 0), (0, 1), (0, zv2), (5, 0), (5, 0)] [] M Q)) ∧ (¬ (M (142 + 1 + 1 * l1) l6) = 0 → ((0 : Int) ≤ l1 ∧ (l1 : Int) < 4) ∧ ((0 : Int) ≤ l6 ∧ (l6 : Int) < 4) ∧ x_Ev l E (d, 0, 0) m_X11_determinant 0 [(21, 103), (0, (x_w (l1 + 1))), (0, (x_iand l2 (x_ixor (x_ishl 1 l6) (-1)))), (5, 0), (5, 0), (5, 0), (5, 0), (5, 0), (5, 0)] [] M (fun r zM3 => ∃ zr4, r = some (1, zr4) ∧ ∀ zv5 : Int, zv5 = (x_W ((M (142 + 1 + 1 * l1) l6) * zr4)) → (l5 = 0 → ∀ zv6 : Int, zv6 = (x_W (l3 + zv5)) → ∀ zv7 : Int, zv7 = x_w (l6 + 1) → x_Ev l E (d + 1, 0, 0) m_X11_determinant 18 [(21, 103), (0, l1), (0, l2), (1, zv6), (5, 0), (0, 1), (0, zv7), (5, 0), (5, 0)] [] zM3 Q) ∧ (¬ l5 = 0 → ∀ zv8 : Int, zv8 = (x_W (l3 + (x_W (-zv5)))) → ∀ zv9 : Int, zv9 = x_w (l6 + 1) → x_Ev l E (d + 1, 0, 0) m_X11_determinant 18 [(21, 103), (0, l1), (0, l2), (1, zv8), (5, 0), (0, 0), (0, zv9), (5, 0), (5, 0)] [] zM3 Q)))) ∧ ((x_iand (x_ishr l2 l6) 1) = 0 → ∀ zv10 : Int, zv10 = x_w (l6 + 1) → x_Ev l E (d + 1, 0, 0) m_X11_determinant 18 [(21, 103), (0, l1), (0, l2), (1, l3), (5, 0), (0, l5), (0, zv10), (5, 0), (5, 0)] [] M Q))) : x_Ev l E (d + 1, 0, 0) m_X11_determinant 18 [(21, 103), (0, l1), (0, l2), (1, l3), (5, 0), (0, l5), (0, l6), (5, 0), (5, 0)] [] M Q := by
  refine i_iload 12 rfl rfl ?_
  refine i_aload_n 13 rfl rfl (by decide) ?_
  refine i_getI (c := 11) (k := 17) 14 rfl fl_1066 (by decide) (by decide) ?_
  refine i_icmp_ge 114 15 rfl (by decide) (fun c => ?_) (fun c => ?_)
  · replace h := h.1 c
    refine i_lload_n 69 rfl rfl ?_
    exact i_lreturn 70 rfl rfl h
  · replace h := h.2 c
    refine i_iload_n 16 rfl rfl ?_
    refine i_iload 17 rfl rfl ?_
    refine i_ishr 18 rfl ?_
    refine i_iconst 19 rfl (by decide) ?_
    refine i_iand 20 rfl ?_
    refine i_if_ne 39 21 rfl (by decide) (fun c => ?_) (fun c => ?_)
    · replace h := h.1 c
      refine i_aload_n 23 rfl rfl (by decide) ?_
      refine i_getP (c := 11) (k := 18) (t := 126) (b := 142) 24 rfl fl_1067 (by decide) rfl (by decide) rfl ?_
      refine i_iload_n 25 rfl rfl ?_
      refine i_aald (τ := 26) (t := 125) (len := 4) (b := (142 + 1 + 1 * l1)) 26 rfl (by decide) rfl h.1.1 h.1.2 ?_
      replace h := h.2
      refine i_iload 27 rfl rfl ?_
      refine i_lald (τ := 25) 28 rfl ⟨rfl, rfl, rfl, by decide⟩ h.1.1 h.1.2 ?_
      replace h := h.2
      refine i_lconst (w := 0) 29 rfl (by decide) ?_
      refine i_lcmp_eq 96 30 rfl rfl (by decide) (fun c => ?_) (fun c => ?_)
      · replace h := h.1 c
        refine i_iload 61 rfl rfl ?_
        refine i_if_ne 105 62 rfl (by decide) (fun c => ?_) (fun c => ?_)
        · replace h := h.1 c
          refine i_iconst 65 rfl (by decide) ?_
          refine i_istore 66 rfl (by decide) rfl ?_
          replace h := h _ rfl
          refine i_iinc 67 rfl rfl (by decide) rfl ?_
          refine i_goto 18 68 rfl (by decide) ?_
          exact h
        · replace h := h.2 c
          refine i_iconst 63 rfl (by decide) ?_
          refine i_goto 106 64 rfl (by decide) ?_
          refine i_istore 66 rfl (by decide) rfl ?_
          replace h := h _ rfl
          refine i_iinc 67 rfl rfl (by decide) rfl ?_
          refine i_goto 18 68 rfl (by decide) ?_
          exact h
      · replace h := h.2 c
        refine i_aload_n 32 rfl rfl (by decide) ?_
        refine i_getP (c := 11) (k := 18) (t := 126) (b := 142) 33 rfl fl_1067 (by decide) rfl (by decide) rfl ?_
        refine i_iload_n 34 rfl rfl ?_
        refine i_aald (τ := 26) (t := 125) (len := 4) (b := (142 + 1 + 1 * l1)) 35 rfl (by decide) rfl h.1.1 h.1.2 ?_
        replace h := h.2
        refine i_iload 36 rfl rfl ?_
        refine i_lald (τ := 25) 37 rfl ⟨rfl, rfl, rfl, by decide⟩ h.1.1 h.1.2 ?_
        replace h := h.2
        refine i_aload_n 38 rfl rfl (by decide) ?_
        refine i_iload_n 39 rfl rfl ?_
        refine i_iconst 40 rfl (by decide) ?_
        refine i_iadd 41 rfl ?_
        refine i_iload_n 42 rfl rfl ?_
        refine i_iconst 43 rfl (by decide) ?_
        refine i_iload 44 rfl rfl ?_
        refine i_ishl 45 rfl ?_
        refine i_iconst 46 rfl (by decide) ?_
        refine i_ixor 47 rfl ?_
        refine i_iand 48 rfl ?_
        refine i_callV (c := 11) (y1 := m_X11_determinant) (z1 := (d, 0, 0)) (z2 := (d + 1, 0, 0)) [(0, (x_w (l1 + 1))), (0, (x_iand l2 (x_ixor (x_ishl 1 l6) (-1))))] 49 rfl ml_1268 ok_X11_determinant vk_X11_determinant ⟨by decide, rfl⟩ rfl ⟨rfl, Nat.le_of_ble_eq_true rfl⟩ (Nat.le_of_ble_eq_true rfl) ⟨Nat.le_refl _, rfl, rfl, rfl⟩ ?_
        refine h.mono (fun r zM3 h => ?_)
        obtain ⟨zr4, rfl, h⟩ := h
        simp only [Option.toList_some, Option.toList_none, List.cons_append, List.nil_append]
        refine i_lmul 50 rfl ?_
        replace h := h _ rfl
        refine i_lstore 51 rfl (by decide) rfl ?_
        refine i_lload_n 52 rfl rfl ?_
        refine i_iload 53 rfl rfl ?_
        refine i_if_eq 92 54 rfl (by decide) (fun c => ?_) (fun c => ?_)
        · replace h := h.1 c
          refine i_lload 58 rfl rfl ?_
          refine i_ladd 59 rfl ?_
          replace h := h _ rfl
          refine i_lstore_n 60 rfl (by decide) rfl ?_
          refine i_iload 61 rfl rfl ?_
          refine i_if_ne 105 62 rfl (by decide) (fun c => ?_) (fun c => ?_)
          · exact absurd c (by omega)
          · refine i_iconst 63 rfl (by decide) ?_
            refine i_goto 106 64 rfl (by decide) ?_
            refine i_istore 66 rfl (by decide) rfl ?_
            replace h := h _ rfl
            refine i_iinc 67 rfl rfl (by decide) rfl ?_
            refine i_goto 18 68 rfl (by decide) ?_
            refine i_weak ?_ h
            exact (And.intro (Or.inr rfl) (And.intro (Or.inr rfl) (And.intro (Or.inr rfl) (And.intro (Or.inr rfl) (And.intro (Or.inr rfl) (And.intro (Or.inr rfl) (And.intro (Or.inr rfl) (And.intro (Or.inl rfl) (And.intro (Or.inr rfl) trivial)))))))))
        · replace h := h.2 c
          refine i_lload 55 rfl rfl ?_
          refine i_lneg 56 rfl ?_
          refine i_goto 94 57 rfl (by decide) ?_
          refine i_ladd 59 rfl ?_
          replace h := h _ rfl
          refine i_lstore_n 60 rfl (by decide) rfl ?_
          refine i_iload 61 rfl rfl ?_
          refine i_if_ne 105 62 rfl (by decide) (fun c => ?_) (fun c => ?_)
          · refine i_iconst 65 rfl (by decide) ?_
            refine i_istore 66 rfl (by decide) rfl ?_
            replace h := h _ rfl
            refine i_iinc 67 rfl rfl (by decide) rfl ?_
            refine i_goto 18 68 rfl (by decide) ?_
            refine i_weak ?_ h
            exact (And.intro (Or.inr rfl) (And.intro (Or.inr rfl) (And.intro (Or.inr rfl) (And.intro (Or.inr rfl) (And.intro (Or.inr rfl) (And.intro (Or.inr rfl) (And.intro (Or.inr rfl) (And.intro (Or.inl rfl) (And.intro (Or.inr rfl) trivial)))))))))
          · exact absurd c (by omega)
    · replace h := h.2 c
      refine i_goto 108 22 rfl (by decide) ?_
      replace h := h _ rfl
      refine i_iinc 67 rfl rfl (by decide) rfl ?_
      refine i_goto 18 68 rfl (by decide) ?_
      exact h
theorem u_X11_swapped_0 {l : Launch} {E : xE} (a1 : Int) {M : xM} {Q : Option xV → xM → Prop} (h : x_Ev l E (7, 0, 0) m_X11_swapped 2 [(21, 103), (0, a1), (0, 0), (5, 0), (5, 0), (5, 0), (5, 0)] [] M Q) : x_Ev l E (7, 0, 0) m_X11_swapped 0 [(21, 103), (0, a1), (5, 0), (5, 0), (5, 0), (5, 0), (5, 0)] [] M Q := by
  refine i_iconst 0 rfl (by decide) ?_
  refine i_istore_n 1 rfl (by decide) rfl ?_
  exact h
theorem u_X11_swapped_2 {l : Launch} {E : xE} (l1 l2 : Int) {M : xM} {Q : Option xV → xM → Prop} (h : ((M 103 17) ≤ l2 → x_Ev l E (6, 0, 0) m_X11_determinant 0 [(21, 103), (0, 0), (0, (x_w ((x_ishl 1 (M 103 17)) - 1))), (5, 0), (5, 0), (5, 0), (5, 0), (5, 0), (5, 0)] [] M (fun r zM1 => ∃ zr2, r = some (1, zr2) ∧ x_Ev l E (7, 0, 0) m_X11_swapped 63 [(21, 103), (0, l1), (1, zr2), (5, 0), (0, 0), (5, 0), (5, 0)] [] zM1 Q)) ∧ (¬ (M 103 17) ≤ l2 → ((0 : Int) ≤ l2 ∧ (l2 : Int) < 4) ∧ ((0 : Int) ≤ l1 ∧ (l1 : Int) < 4) ∧ ∀ zv3 : Int, zv3 = (M (142 + 1 + 1 * l2) l1) → ((0 : Int) ≤ l2 ∧ (l2 : Int) < 4) ∧ ((0 : Int) ≤ l2 ∧ (l2 : Int) < 4) ∧ (0 ≤ l1 ∧ l1 < 4) ∧ ∀ zM4 : xM, zM4 = x_wr M (142 + 1 + 1 * l2) l1 (M 147 l2) → (0 ≤ l2 ∧ l2 < 4) ∧ ∀ zM5 : xM, zM5 = x_wr zM4 147 l2 zv3 → ∀ zv6 : Int, zv6 = x_w (l2 + 1) → x_Ev l E (7, 0, 0) m_X11_swapped 2 [(21, 103), (0, l1), (0, zv6), (5, 0), (5, 0), (5, 0), (5, 0)] [] zM5 Q)) : x_Ev l E (7, 0, 0) m_X11_swapped 2 [(21, 103), (0, l1), (0, l2), (5, 0), (5, 0), (5, 0), (5, 0)] [] M Q := by
  refine i_iload_n 2 rfl rfl ?_
  refine i_aload_n 3 rfl rfl (by decide) ?_
  refine i_getI (c := 11) (k := 17) 4 rfl fl_1066 (by decide) (by decide) ?_
  refine i_icmp_ge 46 5 rfl (by decide) (fun c => ?_) (fun c => ?_)
  · replace h := h.1 c
    refine i_aload_n 30 rfl rfl (by decide) ?_
    refine i_iconst 31 rfl (by decide) ?_
    refine i_iconst 32 rfl (by decide) ?_
    refine i_aload_n 33 rfl rfl (by decide) ?_
    refine i_getI (c := 11) (k := 17) 34 rfl fl_1066 (by decide) (by decide) ?_
    refine i_ishl 35 rfl ?_
    refine i_iconst 36 rfl (by decide) ?_
    refine i_isub 37 rfl ?_
    refine i_callV (c := 11) (y1 := m_X11_determinant) (z1 := (6, 0, 0)) (z2 := (7, 0, 0)) [(0, 0), (0, (x_w ((x_ishl 1 (M 103 17)) - 1)))] 38 rfl ml_1268 ok_X11_determinant vk_X11_determinant ⟨by decide, rfl⟩ rfl ⟨rfl, Nat.le_of_ble_eq_true rfl⟩ (Nat.le_of_ble_eq_true rfl) ⟨by decide, rfl, rfl, rfl⟩ ?_
    refine h.mono (fun r zM1 h => ?_)
    obtain ⟨zr2, rfl, h⟩ := h
    simp only [Option.toList_some, Option.toList_none, List.cons_append, List.nil_append]
    refine i_lstore_n 39 rfl (by decide) rfl ?_
    refine i_iconst 40 rfl (by decide) ?_
    refine i_istore 41 rfl (by decide) rfl ?_
    exact h
  · replace h := h.2 c
    refine i_aload_n 6 rfl rfl (by decide) ?_
    refine i_getP (c := 11) (k := 18) (t := 126) (b := 142) 7 rfl fl_1067 (by decide) rfl (by decide) rfl ?_
    refine i_iload_n 8 rfl rfl ?_
    refine i_aald (τ := 26) (t := 125) (len := 4) (b := (142 + 1 + 1 * l2)) 9 rfl (by decide) rfl h.1.1 h.1.2 ?_
    replace h := h.2
    refine i_iload_n 10 rfl rfl ?_
    refine i_lald (τ := 25) 11 rfl ⟨rfl, rfl, rfl, by decide⟩ h.1.1 h.1.2 ?_
    replace h := h.2
    replace h := h _ rfl
    refine i_lstore_n 12 rfl (by decide) rfl ?_
    refine i_aload_n 13 rfl rfl (by decide) ?_
    refine i_getP (c := 11) (k := 18) (t := 126) (b := 142) 14 rfl fl_1067 (by decide) rfl (by decide) rfl ?_
    refine i_iload_n 15 rfl rfl ?_
    refine i_aald (τ := 26) (t := 125) (len := 4) (b := (142 + 1 + 1 * l2)) 16 rfl (by decide) rfl h.1.1 h.1.2 ?_
    replace h := h.2
    refine i_iload_n 17 rfl rfl ?_
    refine i_aload_n 18 rfl rfl (by decide) ?_
    refine i_getP (c := 11) (k := 19) (t := 125) (b := 147) 19 rfl fl_1068 (by decide) rfl (by decide) rfl ?_
    refine i_iload_n 20 rfl rfl ?_
    refine i_lald (τ := 25) 21 rfl ⟨rfl, rfl, rfl, by decide⟩ h.1.1 h.1.2 ?_
    replace h := h.2
    have hb := h.1
    replace h := h.2 _ rfl
    refine i_last (τ := 25) 22 rfl ⟨rfl, rfl, rfl, by decide⟩ hb.1 hb.2 ?_
    refine i_aload_n 23 rfl rfl (by decide) ?_
    refine i_getP (c := 11) (k := 19) (t := 125) (b := 147) 24 rfl fl_1068 (by decide) rfl (by decide) rfl ?_
    refine i_iload_n 25 rfl rfl ?_
    refine i_lload_n 26 rfl rfl ?_
    have hb := h.1
    replace h := h.2 _ rfl
    refine i_last (τ := 25) 27 rfl ⟨rfl, rfl, rfl, by decide⟩ hb.1 hb.2 ?_
    replace h := h _ rfl
    refine i_iinc 28 rfl rfl (by decide) rfl ?_
    refine i_goto 2 29 rfl (by decide) ?_
    refine i_weak ?_ h
    exact (And.intro (Or.inr rfl) (And.intro (Or.inr rfl) (And.intro (Or.inr rfl) (And.intro (Or.inl rfl) (And.intro (Or.inr rfl) (And.intro (Or.inr rfl) (And.intro (Or.inr rfl) trivial)))))))
theorem u_X11_swapped_63 {l : Launch} {E : xE} (l1 l2 l4 : Int) {M : xM} {Q : Option xV → xM → Prop} (h : ((M 103 17) ≤ l4 → Q (some (1, l2)) M) ∧ (¬ (M 103 17) ≤ l4 → ((0 : Int) ≤ l4 ∧ (l4 : Int) < 4) ∧ ((0 : Int) ≤ l1 ∧ (l1 : Int) < 4) ∧ ∀ zv1 : Int, zv1 = (M (142 + 1 + 1 * l4) l1) → ((0 : Int) ≤ l4 ∧ (l4 : Int) < 4) ∧ ((0 : Int) ≤ l4 ∧ (l4 : Int) < 4) ∧ (0 ≤ l1 ∧ l1 < 4) ∧ ∀ zM2 : xM, zM2 = x_wr M (142 + 1 + 1 * l4) l1 (M 147 l4) → (0 ≤ l4 ∧ l4 < 4) ∧ ∀ zM3 : xM, zM3 = x_wr zM2 147 l4 zv1 → ∀ zv4 : Int, zv4 = x_w (l4 + 1) → x_Ev l E (7, 0, 0) m_X11_swapped 63 [(21, 103), (0, l1), (1, l2), (5, 0), (0, zv4), (5, 0), (5, 0)] [] zM3 Q)) : x_Ev l E (7, 0, 0) m_X11_swapped 63 [(21, 103), (0, l1), (1, l2), (5, 0), (0, l4), (5, 0), (5, 0)] [] M Q := by
  refine i_iload 42 rfl rfl ?_
  refine i_aload_n 43 rfl rfl (by decide) ?_
  refine i_getI (c := 11) (k := 17) 44 rfl fl_1066 (by decide) (by decide) ?_
  refine i_icmp_ge 114 45 rfl (by decide) (fun c => ?_) (fun c => ?_)
  · replace h := h.1 c
    refine i_lload_n 70 rfl rfl ?_
    exact i_lreturn 71 rfl rfl h
  · replace h := h.2 c
    refine i_aload_n 46 rfl rfl (by decide) ?_
    refine i_getP (c := 11) (k := 18) (t := 126) (b := 142) 47 rfl fl_1067 (by decide) rfl (by decide) rfl ?_
    refine i_iload 48 rfl rfl ?_
    refine i_aald (τ := 26) (t := 125) (len := 4) (b := (142 + 1 + 1 * l4)) 49 rfl (by decide) rfl h.1.1 h.1.2 ?_
    replace h := h.2
    refine i_iload_n 50 rfl rfl ?_
    refine i_lald (τ := 25) 51 rfl ⟨rfl, rfl, rfl, by decide⟩ h.1.1 h.1.2 ?_
    replace h := h.2
    replace h := h _ rfl
    refine i_lstore 52 rfl (by decide) rfl ?_
    refine i_aload_n 53 rfl rfl (by decide) ?_
    refine i_getP (c := 11) (k := 18) (t := 126) (b := 142) 54 rfl fl_1067 (by decide) rfl (by decide) rfl ?_
    refine i_iload 55 rfl rfl ?_
    refine i_aald (τ := 26) (t := 125) (len := 4) (b := (142 + 1 + 1 * l4)) 56 rfl (by decide) rfl h.1.1 h.1.2 ?_
    replace h := h.2
    refine i_iload_n 57 rfl rfl ?_
    refine i_aload_n 58 rfl rfl (by decide) ?_
    refine i_getP (c := 11) (k := 19) (t := 125) (b := 147) 59 rfl fl_1068 (by decide) rfl (by decide) rfl ?_
    refine i_iload 60 rfl rfl ?_
    refine i_lald (τ := 25) 61 rfl ⟨rfl, rfl, rfl, by decide⟩ h.1.1 h.1.2 ?_
    replace h := h.2
    have hb := h.1
    replace h := h.2 _ rfl
    refine i_last (τ := 25) 62 rfl ⟨rfl, rfl, rfl, by decide⟩ hb.1 hb.2 ?_
    refine i_aload_n 63 rfl rfl (by decide) ?_
    refine i_getP (c := 11) (k := 19) (t := 125) (b := 147) 64 rfl fl_1068 (by decide) rfl (by decide) rfl ?_
    refine i_iload 65 rfl rfl ?_
    refine i_lload 66 rfl rfl ?_
    have hb := h.1
    replace h := h.2 _ rfl
    refine i_last (τ := 25) 67 rfl ⟨rfl, rfl, rfl, by decide⟩ hb.1 hb.2 ?_
    replace h := h _ rfl
    refine i_iinc 68 rfl rfl (by decide) rfl ?_
    refine i_goto 63 69 rfl (by decide) ?_
    refine i_weak ?_ h
    exact (And.intro (Or.inr rfl) (And.intro (Or.inr rfl) (And.intro (Or.inr rfl) (And.intro (Or.inr rfl) (And.intro (Or.inr rfl) (And.intro (Or.inl rfl) (And.intro (Or.inr rfl) trivial)))))))
theorem u_X11_rowSum_0 {l : Launch} {E : xE} (a1 a2 : Int) {M : xM} {Q : Option xV → xM → Prop} (h : x_Ev l E (1, 0, 0) m_X11_rowSum 5 [(21, 103), (0, a1), (0, a2), (1, 0), (5, 0), (0, 0)] [] M Q) : x_Ev l E (1, 0, 0) m_X11_rowSum 0 [(21, 103), (0, a1), (0, a2), (5, 0), (5, 0), (5, 0)] [] M Q := by
  refine i_lconst (w := 0) 0 rfl (by decide) ?_
  refine i_lstore_n 1 rfl (by decide) rfl ?_
  refine i_iconst 2 rfl (by decide) ?_
  refine i_istore 3 rfl (by decide) rfl ?_
  exact h
theorem u_X11_rowSum_5 {l : Launch} {E : xE} (l1 l2 l3 l5 : Int) {M : xM} {Q : Option xV → xM → Prop} (h : ((0 : Int) ≤ l1 ∧ (l1 : Int) < 3) ∧ ((M 106 l1) ≤ l5 → Q (some (1, l3)) M) ∧ (¬ (M 106 l1) ≤ l5 → ((0 : Int) ≤ l5 ∧ (l5 : Int) < 4) ∧ ((0 : Int) ≤ l1 ∧ (l1 : Int) < 3) ∧ ((0 : Int) ≤ l2 ∧ (l2 : Int) < 4) ∧ ((0 : Int) ≤ l5 ∧ (l5 : Int) < 3) ∧ ∀ zv1 : Int, zv1 = (x_W (l3 + (x_W ((M 148 l5) * (M ((121 + 1 + 5 * l1) + 1 + 1 * l2) l5))))) → ∀ zv2 : Int, zv2 = x_w (l5 + 1) → x_Ev l E (1, 0, 0) m_X11_rowSum 5 [(21, 103), (0, l1), (0, l2), (1, zv1), (5, 0), (0, zv2)] [] M Q)) : x_Ev l E (1, 0, 0) m_X11_rowSum 5 [(21, 103), (0, l1), (0, l2), (1, l3), (5, 0), (0, l5)] [] M Q := by
  refine i_iload 4 rfl rfl ?_
  refine i_aload_n 5 rfl rfl (by decide) ?_
  refine i_getP (c := 11) (k := 3) (t := 114) (b := 106) 6 rfl fl_1052 (by decide) rfl (by decide) rfl ?_
  refine i_iload_n 7 rfl rfl ?_
  refine i_iald (τ := 14) 8 rfl ⟨rfl, rfl, rfl, by decide⟩ h.1.1 h.1.2 ?_
  replace h := h.2
  refine i_icmp_ge 45 9 rfl (by decide) (fun c => ?_) (fun c => ?_)
  · replace h := h.1 c
    refine i_lload_n 29 rfl rfl ?_
    exact i_lreturn 30 rfl rfl h
  · replace h := h.2 c
    refine i_lload_n 10 rfl rfl ?_
    refine i_aload_n 11 rfl rfl (by decide) ?_
    refine i_getP (c := 11) (k := 20) (t := 125) (b := 148) 12 rfl fl_1069 (by decide) rfl (by decide) rfl ?_
    refine i_iload 13 rfl rfl ?_
    refine i_lald (τ := 25) 14 rfl ⟨rfl, rfl, rfl, by decide⟩ h.1.1 h.1.2 ?_
    replace h := h.2
    refine i_aload_n 15 rfl rfl (by decide) ?_
    refine i_getP (c := 11) (k := 6) (t := 123) (b := 121) 16 rfl fl_1055 (by decide) rfl (by decide) rfl ?_
    refine i_iload_n 17 rfl rfl ?_
    refine i_aald (τ := 23) (t := 122) (len := 3) (b := (121 + 1 + 5 * l1)) 18 rfl (by decide) rfl h.1.1 h.1.2 ?_
    replace h := h.2
    refine i_iload_n 19 rfl rfl ?_
    refine i_aald (τ := 22) (t := 114) (len := 4) (b := ((121 + 1 + 5 * l1) + 1 + 1 * l2)) 20 rfl (by decide) rfl h.1.1 h.1.2 ?_
    replace h := h.2
    refine i_iload 21 rfl rfl ?_
    refine i_iald (τ := 14) 22 rfl ⟨rfl, rfl, rfl, by decide⟩ h.1.1 h.1.2 ?_
    replace h := h.2
    refine i_i2l 23 rfl ?_
    refine i_lmul 24 rfl ?_
    refine i_ladd 25 rfl ?_
    replace h := h _ rfl
    refine i_lstore_n 26 rfl (by decide) rfl ?_
    replace h := h _ rfl
    refine i_iinc 27 rfl rfl (by decide) rfl ?_
    refine i_goto 5 28 rfl (by decide) ?_
    exact h
theorem u_X11_order_0 {l : Launch} {E : xE} (a1 a2 a3 : Int) {M : xM} {Q : Option xV → xM → Prop} (h : x_Ev l E (1, 0, 0) m_X11_order 3 [(21, 103), (0, a1), (0, a2), (1, a3), (5, 0), (0, 0), (5, 0), (5, 0), (5, 0), (5, 0)] [] M Q) : x_Ev l E (1, 0, 0) m_X11_order 0 [(21, 103), (0, a1), (0, a2), (1, a3), (5, 0), (5, 0), (5, 0), (5, 0), (5, 0), (5, 0)] [] M Q := by
  refine i_iconst 0 rfl (by decide) ?_
  refine i_istore 1 rfl (by decide) rfl ?_
  exact h
theorem u_X11_order_3 {l : Launch} {E : xE} (l1 l2 l3 l5 : Int) {M : xM} {Q : Option xV → xM → Prop} (h : ((0 : Int) ≤ l1 ∧ (l1 : Int) < 3) ∧ ((M 106 l1) ≤ l5 → Q (some (0, 0)) M) ∧ (¬ (M 106 l1) ≤ l5 → ((0 : Int) ≤ l5 ∧ (l5 : Int) < 4) ∧ ((0 : Int) ≤ l1 ∧ (l1 : Int) < 3) ∧ ((0 : Int) ≤ l2 ∧ (l2 : Int) < 40) ∧ ∀ zv1 : Int, zv1 = (x_W ((M 148 l5) * (M (274 + 1 + 1 * l1) l2))) → ((0 : Int) ≤ l1 ∧ (l1 : Int) < 3) ∧ ((0 : Int) ≤ l2 ∧ (l2 : Int) < 40) ∧ ((0 : Int) ≤ l5 ∧ (l5 : Int) < 3) ∧ ∀ zv2 : Int, zv2 = (x_W ((M ((150 + 1 + 41 * l1) + 1 + 1 * l2) l5) * l3)) → (zv1 = zv2 → ∀ zv3 : Int, zv3 = x_w (l5 + 1) → x_Ev l E (1, 0, 0) m_X11_order 3 [(21, 103), (0, l1), (0, l2), (1, l3), (5, 0), (0, zv3), (5, 0), (5, 0), (5, 0), (5, 0)] [] M Q) ∧ (¬ zv1 = zv2 → (zv2 ≤ zv1 → Q (some (0, 1)) M) ∧ (¬ zv2 ≤ zv1 → Q (some (0, (-1))) M)))) : x_Ev l E (1, 0, 0) m_X11_order 3 [(21, 103), (0, l1), (0, l2), (1, l3), (5, 0), (0, l5), (5, 0), (5, 0), (5, 0), (5, 0)] [] M Q := by
  refine i_iload 2 rfl rfl ?_
  refine i_aload_n 3 rfl rfl (by decide) ?_
  refine i_getP (c := 11) (k := 3) (t := 114) (b := 106) 4 rfl fl_1052 (by decide) rfl (by decide) rfl ?_
  refine i_iload_n 5 rfl rfl ?_
  refine i_iald (τ := 14) 6 rfl ⟨rfl, rfl, rfl, by decide⟩ h.1.1 h.1.2 ?_
  replace h := h.2
  refine i_icmp_ge 75 7 rfl (by decide) (fun c => ?_) (fun c => ?_)
  · replace h := h.1 c
    refine i_iconst 45 rfl (by decide) ?_
    exact i_ireturn 46 rfl rfl h
  · replace h := h.2 c
    refine i_aload_n 8 rfl rfl (by decide) ?_
    refine i_getP (c := 11) (k := 20) (t := 125) (b := 148) 9 rfl fl_1069 (by decide) rfl (by decide) rfl ?_
    refine i_iload 10 rfl rfl ?_
    refine i_lald (τ := 25) 11 rfl ⟨rfl, rfl, rfl, by decide⟩ h.1.1 h.1.2 ?_
    replace h := h.2
    refine i_aload_n 12 rfl rfl (by decide) ?_
    refine i_getP (c := 11) (k := 23) (t := 130) (b := 274) 13 rfl fl_1072 (by decide) rfl (by decide) rfl ?_
    refine i_iload_n 14 rfl rfl ?_
    refine i_aald (τ := 30) (t := 129) (len := 3) (b := (274 + 1 + 1 * l1)) 15 rfl (by decide) rfl h.1.1 h.1.2 ?_
    replace h := h.2
    refine i_iload_n 16 rfl rfl ?_
    refine i_lald (τ := 29) 17 rfl ⟨rfl, rfl, rfl, by decide⟩ h.1.1 h.1.2 ?_
    replace h := h.2
    refine i_lmul 18 rfl ?_
    replace h := h _ rfl
    refine i_lstore 19 rfl (by decide) rfl ?_
    refine i_aload_n 20 rfl rfl (by decide) ?_
    refine i_getP (c := 11) (k := 22) (t := 128) (b := 150) 21 rfl fl_1071 (by decide) rfl (by decide) rfl ?_
    refine i_iload_n 22 rfl rfl ?_
    refine i_aald (τ := 28) (t := 127) (len := 3) (b := (150 + 1 + 41 * l1)) 23 rfl (by decide) rfl h.1.1 h.1.2 ?_
    replace h := h.2
    refine i_iload_n 24 rfl rfl ?_
    refine i_aald (τ := 27) (t := 105) (len := 40) (b := ((150 + 1 + 41 * l1) + 1 + 1 * l2)) 25 rfl (by decide) rfl h.1.1 h.1.2 ?_
    replace h := h.2
    refine i_iload 26 rfl rfl ?_
    refine i_lald (τ := 5) 27 rfl ⟨rfl, rfl, rfl, by decide⟩ h.1.1 h.1.2 ?_
    replace h := h.2
    refine i_lload_n 28 rfl rfl ?_
    refine i_lmul 29 rfl ?_
    replace h := h _ rfl
    refine i_lstore 30 rfl (by decide) rfl ?_
    refine i_lload 31 rfl rfl ?_
    refine i_lload 32 rfl rfl ?_
    refine i_lcmp_eq 69 33 rfl rfl (by decide) (fun c => ?_) (fun c => ?_)
    · replace h := h.1 c
      replace h := h _ rfl
      refine i_iinc 43 rfl rfl (by decide) rfl ?_
      refine i_goto 3 44 rfl (by decide) ?_
      refine i_weak ?_ h
      exact (And.intro (Or.inr rfl) (And.intro (Or.inr rfl) (And.intro (Or.inr rfl) (And.intro (Or.inr rfl) (And.intro (Or.inr rfl) (And.intro (Or.inr rfl) (And.intro (Or.inl rfl) (And.intro (Or.inr rfl) (And.intro (Or.inl rfl) (And.intro (Or.inr rfl) trivial))))))))))
    · replace h := h.2 c
      refine i_lload 35 rfl rfl ?_
      refine i_lload 36 rfl rfl ?_
      refine i_lcmp_ge 67 37 rfl rfl (by decide) (fun c => ?_) (fun c => ?_)
      · replace h := h.1 c
        refine i_iconst 41 rfl (by decide) ?_
        exact i_ireturn 42 rfl rfl h
      · replace h := h.2 c
        refine i_iconst 39 rfl (by decide) ?_
        refine i_goto 68 40 rfl (by decide) ?_
        exact i_ireturn 42 rfl rfl h
