/-! Printed by wip/whole/tools/gen_vc.py: what is enough at each cut point -/
theorem u_X11_follower_0 {l : Launch} {E : xE} (a1 a2 : Int) {M : xM} {Q : Option xV → xM → Prop} (h : x_Ev l E (1, 0, 0) m_X11_in 0 [(1, a1), (5, 0), (1, 0), (5, 0), (1, 69), (5, 0)] [] M (fun r zM1 => ∃ zr2, r = some (0, zr2) ∧ (zr2 = 0 → x_Ev l E (1, 0, 0) m_X11_finds 0 [(21, 103), (0, 0)] [] zM1 (fun r zM3 => ∃ zr4, r = some (0, zr4) ∧ Q (some (0, zr4)) zM3)) ∧ (¬ zr2 = 0 → x_Ev l E (1, 0, 0) m_X11_in 0 [(1, a2), (5, 0), (1, 1), (5, 0), (1, 3), (5, 0)] [] zM1 (fun r zM5 => ∃ zr6, r = some (0, zr6) ∧ (¬ zr6 = 0 → (¬ (zM5 103 0) = 3 → ∀ zv7 : Int, zv7 = (zM5 103 0) → (0 ≤ zv7 ∧ zv7 < 3) ∧ ∀ zM8 : xM, zM8 = x_wr zM5 104 zv7 (x_w (a1.tdiv 10)) → (0 ≤ zv7 ∧ zv7 < 3) ∧ ∀ zM9 : xM, zM9 = x_wr zM8 105 zv7 (a1.tmod 10) → (0 ≤ zv7 ∧ zv7 < 3) ∧ ∀ zM10 : xM, zM10 = x_wr zM9 106 zv7 a2 → (0 ≤ zv7 ∧ zv7 < 3) ∧ ∀ zM11 : xM, zM11 = x_wr zM10 107 zv7 1 → ((0 : Int) ≤ zv7 ∧ (zv7 : Int) < 3) ∧ ∀ zM12 : xM, zM12 = x_wr zM11 (137 + 1 + 1 * zv7) 0 10 → x_Ev l E (2, 0, 0) m_X11_follower 96 [(21, 103), (0, a1), (0, a2), (0, zv7), (0, 0)] [] zM12 Q) ∧ ((zM5 103 0) = 3 → x_Ev l E (1, 0, 0) m_X11_finds 0 [(21, 103), (0, 1)] [] zM5 (fun r zM13 => ∃ zr14, r = some (0, zr14) ∧ Q (some (0, zr14)) zM13))) ∧ (zr6 = 0 → x_Ev l E (1, 0, 0) m_X11_finds 0 [(21, 103), (0, 0)] [] zM5 (fun r zM15 => ∃ zr16, r = some (0, zr16) ∧ Q (some (0, zr16)) zM15)))))) : x_Ev l E (2, 0, 0) m_X11_follower 0 [(21, 103), (0, a1), (0, a2), (5, 0), (5, 0)] [] M Q := by
  refine i_iload_n 0 rfl rfl ?_
  refine i_i2l 1 rfl ?_
  refine i_lconst (w := 0) 2 rfl (by decide) ?_
  refine i_ldc2 (v := 69) 3 rfl cw_1228 (by decide) ?_
  refine i_callS (y1 := m_X11_in) (z1 := (1, 0, 0)) (z2 := (2, 0, 0)) [(1, a1), (1, 0), (1, 69)] 4 rfl ml_1229 ok_X11_in vk_X11_in rfl ⟨rfl, Nat.le_of_ble_eq_true rfl⟩ (Nat.le_of_ble_eq_true rfl) ⟨by decide, rfl, rfl, rfl⟩ ?_
  refine h.mono (fun r zM1 h => ?_)
  obtain ⟨zr2, rfl, h⟩ := h
  simp only [Option.toList_some, Option.toList_none, List.cons_append, List.nil_append]
  refine i_if_eq 24 5 rfl (by decide) (fun c => ?_) (fun c => ?_)
  · replace h := h.1 c
    refine i_aload_n 12 rfl rfl (by decide) ?_
    refine i_iconst 13 rfl (by decide) ?_
    refine i_callV (c := 11) (y1 := m_X11_finds) (z1 := (1, 0, 0)) (z2 := (2, 0, 0)) [(0, 0)] 14 rfl ml_1233 ok_X11_finds vk_X11_finds ⟨by decide, rfl⟩ rfl ⟨rfl, Nat.le_of_ble_eq_true rfl⟩ (Nat.le_of_ble_eq_true rfl) ⟨by decide, rfl, rfl, rfl⟩ ?_
    refine h.mono (fun r zM3 h => ?_)
    obtain ⟨zr4, rfl, h⟩ := h
    simp only [Option.toList_some, Option.toList_none, List.cons_append, List.nil_append]
    exact i_ireturn 15 rfl rfl h
  · replace h := h.2 c
    refine i_iload_n 6 rfl rfl ?_
    refine i_i2l 7 rfl ?_
    refine i_lconst (w := 1) 8 rfl (by decide) ?_
    refine i_ldc2 (v := 3) 9 rfl cw_1232 (by decide) ?_
    refine i_callS (y1 := m_X11_in) (z1 := (1, 0, 0)) (z2 := (2, 0, 0)) [(1, a2), (1, 1), (1, 3)] 10 rfl ml_1229 ok_X11_in vk_X11_in rfl ⟨rfl, Nat.le_of_ble_eq_true rfl⟩ (Nat.le_of_ble_eq_true rfl) ⟨by decide, rfl, rfl, rfl⟩ ?_
    refine h.mono (fun r zM5 h => ?_)
    obtain ⟨zr6, rfl, h⟩ := h
    simp only [Option.toList_some, Option.toList_none, List.cons_append, List.nil_append]
    refine i_if_ne 30 11 rfl (by decide) (fun c => ?_) (fun c => ?_)
    · replace h := h.1 c
      refine i_aload_n 16 rfl rfl (by decide) ?_
      refine i_getI (c := 11) (k := 0) 17 rfl fl_1049 (by decide) (by decide) ?_
      refine i_iconst 18 rfl (by decide) ?_
      refine i_icmp_ne 44 19 rfl (by decide) (fun c => ?_) (fun c => ?_)
      · replace h := h.1 c
        refine i_aload_n 24 rfl rfl (by decide) ?_
        refine i_getI (c := 11) (k := 0) 25 rfl fl_1049 (by decide) (by decide) ?_
        replace h := h _ rfl
        refine i_istore_n 26 rfl (by decide) rfl ?_
        refine i_aload_n 27 rfl rfl (by decide) ?_
        refine i_getP (c := 11) (k := 1) (t := 114) (b := 104) 28 rfl fl_1050 (by decide) rfl (by decide) rfl ?_
        refine i_iload_n 29 rfl rfl ?_
        refine i_iload_n 30 rfl rfl ?_
        refine i_bipush 31 rfl (by decide) ?_
        refine i_idiv 32 rfl (by decide) ?_
        have hb := h.1
        replace h := h.2 _ rfl
        refine i_iast (τ := 14) 33 rfl ⟨rfl, rfl, rfl, by decide⟩ hb.1 hb.2 ?_
        refine i_aload_n 34 rfl rfl (by decide) ?_
        refine i_getP (c := 11) (k := 2) (t := 114) (b := 105) 35 rfl fl_1051 (by decide) rfl (by decide) rfl ?_
        refine i_iload_n 36 rfl rfl ?_
        refine i_iload_n 37 rfl rfl ?_
        refine i_bipush 38 rfl (by decide) ?_
        refine i_irem 39 rfl (by decide) ?_
        have hb := h.1
        replace h := h.2 _ rfl
        refine i_iast (τ := 14) 40 rfl ⟨rfl, rfl, rfl, by decide⟩ hb.1 hb.2 ?_
        refine i_aload_n 41 rfl rfl (by decide) ?_
        refine i_getP (c := 11) (k := 3) (t := 114) (b := 106) 42 rfl fl_1052 (by decide) rfl (by decide) rfl ?_
        refine i_iload_n 43 rfl rfl ?_
        refine i_iload_n 44 rfl rfl ?_
        have hb := h.1
        replace h := h.2 _ rfl
        refine i_iast (τ := 14) 45 rfl ⟨rfl, rfl, rfl, by decide⟩ hb.1 hb.2 ?_
        refine i_aload_n 46 rfl rfl (by decide) ?_
        refine i_getP (c := 11) (k := 4) (t := 114) (b := 107) 47 rfl fl_1053 (by decide) rfl (by decide) rfl ?_
        refine i_iload_n 48 rfl rfl ?_
        refine i_iconst 49 rfl (by decide) ?_
        have hb := h.1
        replace h := h.2 _ rfl
        refine i_iast (τ := 14) 50 rfl ⟨rfl, rfl, rfl, by decide⟩ hb.1 hb.2 ?_
        refine i_aload_n 51 rfl rfl (by decide) ?_
        refine i_getP (c := 11) (k := 7) (t := 124) (b := 137) 52 rfl fl_1056 (by decide) rfl (by decide) rfl ?_
        refine i_iload_n 53 rfl rfl ?_
        refine i_aald (τ := 24) (t := 103) (len := 3) (b := (137 + 1 + 1 * ((zM5 103 0)))) 54 rfl (by decide) rfl h.1.1 h.1.2 ?_
        replace h := h.2
        refine i_iconst 55 rfl (by decide) ?_
        refine i_bipush 56 rfl (by decide) ?_
        replace h := h _ rfl
        refine i_iast (τ := 3) 57 rfl ⟨rfl, rfl, rfl, by decide⟩ (by decide) (by decide) ?_
        refine i_iconst 58 rfl (by decide) ?_
        refine i_istore 59 rfl (by decide) rfl ?_
        exact h
      · replace h := h.2 c
        refine i_aload_n 20 rfl rfl (by decide) ?_
        refine i_iconst 21 rfl (by decide) ?_
        refine i_callV (c := 11) (y1 := m_X11_finds) (z1 := (1, 0, 0)) (z2 := (2, 0, 0)) [(0, 1)] 22 rfl ml_1233 ok_X11_finds vk_X11_finds ⟨by decide, rfl⟩ rfl ⟨rfl, Nat.le_of_ble_eq_true rfl⟩ (Nat.le_of_ble_eq_true rfl) ⟨by decide, rfl, rfl, rfl⟩ ?_
        refine h.mono (fun r zM13 h => ?_)
        obtain ⟨zr14, rfl, h⟩ := h
        simp only [Option.toList_some, Option.toList_none, List.cons_append, List.nil_append]
        exact i_ireturn 23 rfl rfl h
    · replace h := h.2 c
      refine i_aload_n 12 rfl rfl (by decide) ?_
      refine i_iconst 13 rfl (by decide) ?_
      refine i_callV (c := 11) (y1 := m_X11_finds) (z1 := (1, 0, 0)) (z2 := (2, 0, 0)) [(0, 0)] 14 rfl ml_1233 ok_X11_finds vk_X11_finds ⟨by decide, rfl⟩ rfl ⟨rfl, Nat.le_of_ble_eq_true rfl⟩ (Nat.le_of_ble_eq_true rfl) ⟨by decide, rfl, rfl, rfl⟩ ?_
      refine h.mono (fun r zM15 h => ?_)
      obtain ⟨zr16, rfl, h⟩ := h
      simp only [Option.toList_some, Option.toList_none, List.cons_append, List.nil_append]
      exact i_ireturn 15 rfl rfl h
theorem u_X11_follower_96 {l : Launch} {E : xE} (l1 l2 l3 l4 : Int) {M : xM} {Q : Option xV → xM → Prop} (h : (3 ≤ l4 → ∀ zM1 : xM, zM1 = x_wr M 103 0 (x_w ((M 103 0) + 1)) → Q (some (0, l3)) zM1) ∧ (¬ 3 ≤ l4 → ((0 : Int) ≤ l3 ∧ (l3 : Int) < 3) ∧ (0 ≤ l4 ∧ l4 < 3) ∧ ∀ zM2 : xM, zM2 = x_wr M ((108 + 1 + 4 * l3) + 1 + 1 * 0) l4 10 → ((0 : Int) ≤ l3 ∧ (l3 : Int) < 3) ∧ (0 ≤ l4 ∧ l4 < 3) ∧ ∀ zM3 : xM, zM3 = x_wr zM2 ((108 + 1 + 4 * l3) + 1 + 1 * 1) l4 1 → ((0 : Int) ≤ l3 ∧ (l3 : Int) < 3) ∧ (0 ≤ l4 ∧ l4 < 3) ∧ ∀ zM4 : xM, zM4 = x_wr zM3 ((108 + 1 + 4 * l3) + 1 + 1 * 2) l4 0 → ((0 : Int) ≤ l3 ∧ (l3 : Int) < 3) ∧ (0 ≤ l4 ∧ l4 < 3) ∧ ∀ zM5 : xM, zM5 = x_wr zM4 ((121 + 1 + 5 * l3) + 1 + 1 * 0) l4 1 → ∀ zv6 : Int, zv6 = x_w (l4 + 1) → x_Ev l E (2, 0, 0) m_X11_follower 96 [(21, 103), (0, l1), (0, l2), (0, l3), (0, zv6)] [] zM5 Q)) : x_Ev l E (2, 0, 0) m_X11_follower 96 [(21, 103), (0, l1), (0, l2), (0, l3), (0, l4)] [] M Q := by
  refine i_iload 60 rfl rfl ?_
  refine i_iconst 61 rfl (by decide) ?_
  refine i_icmp_ge 157 62 rfl (by decide) (fun c => ?_) (fun c => ?_)
  · replace h := h.1 c
    refine i_aload_n 101 rfl rfl (by decide) ?_
    refine i_dup 102 rfl (Nat.ne_of_beq_eq_false rfl) ?_
    refine i_getI (c := 11) (k := 0) 103 rfl fl_1049 (by decide) (by decide) ?_
    refine i_iconst 104 rfl (by decide) ?_
    refine i_iadd 105 rfl ?_
    replace h := h _ rfl
    refine i_putI (c := 11) (k := 0) 106 rfl fl_1049 (by decide) ⟨rfl, rfl, rfl⟩ ?_
    refine i_iload_n 107 rfl rfl ?_
    exact i_ireturn 108 rfl rfl h
  · replace h := h.2 c
    refine i_aload_n 63 rfl rfl (by decide) ?_
    refine i_getP (c := 11) (k := 5) (t := 121) (b := 108) 64 rfl fl_1054 (by decide) rfl (by decide) rfl ?_
    refine i_iload_n 65 rfl rfl ?_
    refine i_aald (τ := 21) (t := 120) (len := 3) (b := (108 + 1 + 4 * l3)) 66 rfl (by decide) rfl h.1.1 h.1.2 ?_
    replace h := h.2
    refine i_iconst 67 rfl (by decide) ?_
    refine i_aald (τ := 20) (t := 114) (len := 3) (b := ((108 + 1 + 4 * l3) + 1 + 1 * 0)) 68 rfl (by decide) rfl (by decide) (by decide) ?_
    refine i_iload 69 rfl rfl ?_
    refine i_bipush 70 rfl (by decide) ?_
    have hb := h.1
    replace h := h.2 _ rfl
    refine i_iast (τ := 14) 71 rfl ⟨rfl, rfl, rfl, by decide⟩ hb.1 hb.2 ?_
    refine i_aload_n 72 rfl rfl (by decide) ?_
    refine i_getP (c := 11) (k := 5) (t := 121) (b := 108) 73 rfl fl_1054 (by decide) rfl (by decide) rfl ?_
    refine i_iload_n 74 rfl rfl ?_
    refine i_aald (τ := 21) (t := 120) (len := 3) (b := (108 + 1 + 4 * l3)) 75 rfl (by decide) rfl h.1.1 h.1.2 ?_
    replace h := h.2
    refine i_iconst 76 rfl (by decide) ?_
    refine i_aald (τ := 20) (t := 114) (len := 3) (b := ((108 + 1 + 4 * l3) + 1 + 1 * 1)) 77 rfl (by decide) rfl (by decide) (by decide) ?_
    refine i_iload 78 rfl rfl ?_
    refine i_iconst 79 rfl (by decide) ?_
    have hb := h.1
    replace h := h.2 _ rfl
    refine i_iast (τ := 14) 80 rfl ⟨rfl, rfl, rfl, by decide⟩ hb.1 hb.2 ?_
    refine i_aload_n 81 rfl rfl (by decide) ?_
    refine i_getP (c := 11) (k := 5) (t := 121) (b := 108) 82 rfl fl_1054 (by decide) rfl (by decide) rfl ?_
    refine i_iload_n 83 rfl rfl ?_
    refine i_aald (τ := 21) (t := 120) (len := 3) (b := (108 + 1 + 4 * l3)) 84 rfl (by decide) rfl h.1.1 h.1.2 ?_
    replace h := h.2
    refine i_iconst 85 rfl (by decide) ?_
    refine i_aald (τ := 20) (t := 114) (len := 3) (b := ((108 + 1 + 4 * l3) + 1 + 1 * 2)) 86 rfl (by decide) rfl (by decide) (by decide) ?_
    refine i_iload 87 rfl rfl ?_
    refine i_iconst 88 rfl (by decide) ?_
    have hb := h.1
    replace h := h.2 _ rfl
    refine i_iast (τ := 14) 89 rfl ⟨rfl, rfl, rfl, by decide⟩ hb.1 hb.2 ?_
    refine i_aload_n 90 rfl rfl (by decide) ?_
    refine i_getP (c := 11) (k := 6) (t := 123) (b := 121) 91 rfl fl_1055 (by decide) rfl (by decide) rfl ?_
    refine i_iload_n 92 rfl rfl ?_
    refine i_aald (τ := 23) (t := 122) (len := 3) (b := (121 + 1 + 5 * l3)) 93 rfl (by decide) rfl h.1.1 h.1.2 ?_
    replace h := h.2
    refine i_iconst 94 rfl (by decide) ?_
    refine i_aald (τ := 22) (t := 114) (len := 4) (b := ((121 + 1 + 5 * l3) + 1 + 1 * 0)) 95 rfl (by decide) rfl (by decide) (by decide) ?_
    refine i_iload 96 rfl rfl ?_
    refine i_iconst 97 rfl (by decide) ?_
    have hb := h.1
    replace h := h.2 _ rfl
    refine i_iast (τ := 14) 98 rfl ⟨rfl, rfl, rfl, by decide⟩ hb.1 hb.2 ?_
    replace h := h _ rfl
    refine i_iinc 99 rfl rfl (by decide) rfl ?_
    refine i_goto 96 100 rfl (by decide) ?_
    exact h
theorem u_X11_become_0 {l : Launch} {E : xE} (a1 a2 : Int) {M : xM} {Q : Option xV → xM → Prop} (h : x_Ev l E (2, 0, 0) m_X11_isFollower 0 [(21, 103), (0, a1)] [] M (fun r zM1 => ∃ zr2, r = some (0, zr2) ∧ (zr2 = 0 → x_Ev l E (1, 0, 0) m_X11_finds 0 [(21, 103), (0, 0)] [] zM1 (fun r zM3 => ∃ zr4, r = some (0, zr4) ∧ Q (some (0, zr4)) zM3)) ∧ (¬ zr2 = 0 → x_Ev l E (1, 0, 0) m_X11_in 0 [(1, a2), (5, 0), (1, 0), (5, 0), (1, 69), (5, 0)] [] zM1 (fun r zM5 => ∃ zr6, r = some (0, zr6) ∧ (¬ zr6 = 0 → ((0 : Int) ≤ a1 ∧ (a1 : Int) < 3) ∧ ∀ zv7 : Int, zv7 = (zM5 104 a1) → (0 ≤ a1 ∧ a1 < 3) ∧ ∀ zM8 : xM, zM8 = x_wr zM5 104 a1 (x_w (a2.tdiv 10)) → (0 ≤ a1 ∧ a1 < 3) ∧ ∀ zM9 : xM, zM9 = x_wr zM8 105 a1 (a2.tmod 10) → Q (some (0, zv7)) zM9) ∧ (zr6 = 0 → x_Ev l E (1, 0, 0) m_X11_finds 0 [(21, 103), (0, 0)] [] zM5 (fun r zM10 => ∃ zr11, r = some (0, zr11) ∧ Q (some (0, zr11)) zM10)))))) : x_Ev l E (3, 0, 0) m_X11_become 0 [(21, 103), (0, a1), (0, a2), (5, 0)] [] M Q := by
  refine i_aload_n 0 rfl rfl (by decide) ?_
  refine i_iload_n 1 rfl rfl ?_
  refine i_callV (c := 11) (y1 := m_X11_isFollower) (z1 := (2, 0, 0)) (z2 := (3, 0, 0)) [(0, a1)] 2 rfl ml_1242 ok_X11_isFollower vk_X11_isFollower ⟨by decide, rfl⟩ rfl ⟨rfl, Nat.le_of_ble_eq_true rfl⟩ (Nat.le_of_ble_eq_true rfl) ⟨by decide, rfl, rfl, rfl⟩ ?_
  refine h.mono (fun r zM1 h => ?_)
  obtain ⟨zr2, rfl, h⟩ := h
  simp only [Option.toList_some, Option.toList_none, List.cons_append, List.nil_append]
  refine i_if_eq 20 3 rfl (by decide) (fun c => ?_) (fun c => ?_)
  · replace h := h.1 c
    refine i_aload_n 10 rfl rfl (by decide) ?_
    refine i_iconst 11 rfl (by decide) ?_
    refine i_callV (c := 11) (y1 := m_X11_finds) (z1 := (1, 0, 0)) (z2 := (3, 0, 0)) [(0, 0)] 12 rfl ml_1233 ok_X11_finds vk_X11_finds ⟨by decide, rfl⟩ rfl ⟨rfl, Nat.le_of_ble_eq_true rfl⟩ (Nat.le_of_ble_eq_true rfl) ⟨by decide, rfl, rfl, rfl⟩ ?_
    refine h.mono (fun r zM3 h => ?_)
    obtain ⟨zr4, rfl, h⟩ := h
    simp only [Option.toList_some, Option.toList_none, List.cons_append, List.nil_append]
    exact i_ireturn 13 rfl rfl h
  · replace h := h.2 c
    refine i_iload_n 4 rfl rfl ?_
    refine i_i2l 5 rfl ?_
    refine i_lconst (w := 0) 6 rfl (by decide) ?_
    refine i_ldc2 (v := 69) 7 rfl cw_1228 (by decide) ?_
    refine i_callS (y1 := m_X11_in) (z1 := (1, 0, 0)) (z2 := (3, 0, 0)) [(1, a2), (1, 0), (1, 69)] 8 rfl ml_1229 ok_X11_in vk_X11_in rfl ⟨rfl, Nat.le_of_ble_eq_true rfl⟩ (Nat.le_of_ble_eq_true rfl) ⟨by decide, rfl, rfl, rfl⟩ ?_
    refine h.mono (fun r zM5 h => ?_)
    obtain ⟨zr6, rfl, h⟩ := h
    simp only [Option.toList_some, Option.toList_none, List.cons_append, List.nil_append]
    refine i_if_ne 26 9 rfl (by decide) (fun c => ?_) (fun c => ?_)
    · replace h := h.1 c
      refine i_aload_n 14 rfl rfl (by decide) ?_
      refine i_getP (c := 11) (k := 1) (t := 114) (b := 104) 15 rfl fl_1050 (by decide) rfl (by decide) rfl ?_
      refine i_iload_n 16 rfl rfl ?_
      refine i_iald (τ := 14) 17 rfl ⟨rfl, rfl, rfl, by decide⟩ h.1.1 h.1.2 ?_
      replace h := h.2
      replace h := h _ rfl
      refine i_istore_n 18 rfl (by decide) rfl ?_
      refine i_aload_n 19 rfl rfl (by decide) ?_
      refine i_getP (c := 11) (k := 1) (t := 114) (b := 104) 20 rfl fl_1050 (by decide) rfl (by decide) rfl ?_
      refine i_iload_n 21 rfl rfl ?_
      refine i_iload_n 22 rfl rfl ?_
      refine i_bipush 23 rfl (by decide) ?_
      refine i_idiv 24 rfl (by decide) ?_
      have hb := h.1
      replace h := h.2 _ rfl
      refine i_iast (τ := 14) 25 rfl ⟨rfl, rfl, rfl, by decide⟩ hb.1 hb.2 ?_
      refine i_aload_n 26 rfl rfl (by decide) ?_
      refine i_getP (c := 11) (k := 2) (t := 114) (b := 105) 27 rfl fl_1051 (by decide) rfl (by decide) rfl ?_
      refine i_iload_n 28 rfl rfl ?_
      refine i_iload_n 29 rfl rfl ?_
      refine i_bipush 30 rfl (by decide) ?_
      refine i_irem 31 rfl (by decide) ?_
      have hb := h.1
      replace h := h.2 _ rfl
      refine i_iast (τ := 14) 32 rfl ⟨rfl, rfl, rfl, by decide⟩ hb.1 hb.2 ?_
      refine i_iload_n 33 rfl rfl ?_
      exact i_ireturn 34 rfl rfl h
    · replace h := h.2 c
      refine i_aload_n 10 rfl rfl (by decide) ?_
      refine i_iconst 11 rfl (by decide) ?_
      refine i_callV (c := 11) (y1 := m_X11_finds) (z1 := (1, 0, 0)) (z2 := (3, 0, 0)) [(0, 0)] 12 rfl ml_1233 ok_X11_finds vk_X11_finds ⟨by decide, rfl⟩ rfl ⟨rfl, Nat.le_of_ble_eq_true rfl⟩ (Nat.le_of_ble_eq_true rfl) ⟨by decide, rfl, rfl, rfl⟩ ?_
      refine h.mono (fun r zM10 h => ?_)
      obtain ⟨zr11, rfl, h⟩ := h
      simp only [Option.toList_some, Option.toList_none, List.cons_append, List.nil_append]
      exact i_ireturn 13 rfl rfl h
theorem u_X11_of_0 {l : Launch} {E : xE} (a1 a2 : Int) {M : xM} {Q : Option xV → xM → Prop} (h : x_Ev l E (2, 0, 0) m_X11_isFollower 0 [(21, 103), (0, a1)] [] M (fun r zM1 => ∃ zr2, r = some (0, zr2) ∧ (zr2 = 0 → x_Ev l E (1, 0, 0) m_X11_finds 0 [(21, 103), (0, 0)] [] zM1 (fun r zM3 => ∃ zr4, r = some (0, zr4) ∧ Q (some (0, zr4)) zM3)) ∧ (¬ zr2 = 0 → x_Ev l E (1, 0, 0) m_X11_in 0 [(1, a2), (5, 0), (1, 0), (5, 0), (1, 6), (5, 0)] [] zM1 (fun r zM5 => ∃ zr6, r = some (0, zr6) ∧ (¬ zr6 = 0 → x_Ev l E (9, 0, 0) m_X11_plans 0 [(21, 103), (0, a1), (5, 0), (5, 0), (5, 0)] [] zM5 (fun r zM7 => r = none ∧ ((a2 < 0 ∨ 5 < a2) → x_Ev l E (3, 0, 0) m_X11_bestPlans 0 [(21, 103), (0, a1), (1, (zM7 103 9)), (5, 0), (1, (zM7 103 10)), (5, 0), (5, 0), (5, 0), (5, 0), (5, 0), (5, 0)] [] zM7 (fun r zM8 => ∃ zr9, r = some (0, zr9) ∧ Q (some (0, zr9)) zM8)) ∧ (a2 = 0 → ((0 : Int) ≤ a1 ∧ (a1 : Int) < 3) ∧ Q (some (0, (zM7 104 a1))) zM7) ∧ (a2 = 1 → ((0 : Int) ≤ a1 ∧ (a1 : Int) < 3) ∧ Q (some (0, (zM7 105 a1))) zM7) ∧ (a2 = 2 → ((0 : Int) ≤ a1 ∧ (a1 : Int) < 3) ∧ Q (some (0, (zM7 106 a1))) zM7) ∧ (a2 = 3 → ((0 : Int) ≤ a1 ∧ (a1 : Int) < 3) ∧ Q (some (0, (zM7 107 a1))) zM7) ∧ (a2 = 4 → ((0 : Int) ≤ a1 ∧ (a1 : Int) < 3) ∧ Q (some (0, (zM7 149 a1))) zM7) ∧ (a2 = 5 → x_Ev l E (4, 0, 0) m_X11_answer 0 [(21, 103), (0, a1), (1, (zM7 103 9)), (5, 0), (1, (zM7 103 10)), (5, 0)] [] zM7 (fun r zM10 => ∃ zr11, r = some (0, zr11) ∧ Q (some (0, zr11)) zM10)))) ∧ (zr6 = 0 → x_Ev l E (1, 0, 0) m_X11_finds 0 [(21, 103), (0, 0)] [] zM5 (fun r zM12 => ∃ zr13, r = some (0, zr13) ∧ Q (some (0, zr13)) zM12)))))) : x_Ev l E (10, 0, 0) m_X11_of 0 [(21, 103), (0, a1), (0, a2)] [] M Q := by
  refine i_aload_n 0 rfl rfl (by decide) ?_
  refine i_iload_n 1 rfl rfl ?_
  refine i_callV (c := 11) (y1 := m_X11_isFollower) (z1 := (2, 0, 0)) (z2 := (10, 0, 0)) [(0, a1)] 2 rfl ml_1242 ok_X11_isFollower vk_X11_isFollower ⟨by decide, rfl⟩ rfl ⟨rfl, Nat.le_of_ble_eq_true rfl⟩ (Nat.le_of_ble_eq_true rfl) ⟨by decide, rfl, rfl, rfl⟩ ?_
  refine h.mono (fun r zM1 h => ?_)
  obtain ⟨zr2, rfl, h⟩ := h
  simp only [Option.toList_some, Option.toList_none, List.cons_append, List.nil_append]
  refine i_if_eq 20 3 rfl (by decide) (fun c => ?_) (fun c => ?_)
  · replace h := h.1 c
    refine i_aload_n 10 rfl rfl (by decide) ?_
    refine i_iconst 11 rfl (by decide) ?_
    refine i_callV (c := 11) (y1 := m_X11_finds) (z1 := (1, 0, 0)) (z2 := (10, 0, 0)) [(0, 0)] 12 rfl ml_1233 ok_X11_finds vk_X11_finds ⟨by decide, rfl⟩ rfl ⟨rfl, Nat.le_of_ble_eq_true rfl⟩ (Nat.le_of_ble_eq_true rfl) ⟨by decide, rfl, rfl, rfl⟩ ?_
    refine h.mono (fun r zM3 h => ?_)
    obtain ⟨zr4, rfl, h⟩ := h
    simp only [Option.toList_some, Option.toList_none, List.cons_append, List.nil_append]
    exact i_ireturn 13 rfl rfl h
  · replace h := h.2 c
    refine i_iload_n 4 rfl rfl ?_
    refine i_i2l 5 rfl ?_
    refine i_lconst (w := 0) 6 rfl (by decide) ?_
    refine i_ldc2 (v := 6) 7 rfl cw_1250 (by decide) ?_
    refine i_callS (y1 := m_X11_in) (z1 := (1, 0, 0)) (z2 := (10, 0, 0)) [(1, a2), (1, 0), (1, 6)] 8 rfl ml_1229 ok_X11_in vk_X11_in rfl ⟨rfl, Nat.le_of_ble_eq_true rfl⟩ (Nat.le_of_ble_eq_true rfl) ⟨by decide, rfl, rfl, rfl⟩ ?_
    refine h.mono (fun r zM5 h => ?_)
    obtain ⟨zr6, rfl, h⟩ := h
    simp only [Option.toList_some, Option.toList_none, List.cons_append, List.nil_append]
    refine i_if_ne 26 9 rfl (by decide) (fun c => ?_) (fun c => ?_)
    · replace h := h.1 c
      refine i_aload_n 14 rfl rfl (by decide) ?_
      refine i_iload_n 15 rfl rfl ?_
      refine i_callV (c := 11) (y1 := m_X11_plans) (z1 := (9, 0, 0)) (z2 := (10, 0, 0)) [(0, a1)] 16 rfl ml_1251 ok_X11_plans vk_X11_plans ⟨by decide, rfl⟩ rfl ⟨rfl, Nat.le_of_ble_eq_true rfl⟩ (Nat.le_of_ble_eq_true rfl) ⟨by decide, rfl, rfl, rfl⟩ ?_
      refine h.mono (fun r zM7 h => ?_)
      obtain ⟨rfl, h⟩ := h
      simp only [Option.toList_some, Option.toList_none, List.cons_append, List.nil_append]
      refine i_iload_n 17 rfl rfl ?_
      refine i_switch 121 18 rfl (by decide) (fun c => ?_) (fun c1 c2 => ?_)
      · replace h := h.1 c
        refine i_aload_n 52 rfl rfl (by decide) ?_
        refine i_iload_n 53 rfl rfl ?_
        refine i_aload_n 54 rfl rfl (by decide) ?_
        refine i_getL (c := 11) (k := 9) 55 rfl fl_1058 (by decide) rfl ?_
        refine i_aload_n 56 rfl rfl (by decide) ?_
        refine i_getL (c := 11) (k := 10) 57 rfl fl_1059 (by decide) rfl ?_
        refine i_callV (c := 11) (y1 := m_X11_bestPlans) (z1 := (3, 0, 0)) (z2 := (10, 0, 0)) [(0, a1), (1, (zM7 103 9)), (1, (zM7 103 10))] 58 rfl ml_1300 ok_X11_bestPlans vk_X11_bestPlans ⟨by decide, rfl⟩ rfl ⟨rfl, Nat.le_of_ble_eq_true rfl⟩ (Nat.le_of_ble_eq_true rfl) ⟨by decide, rfl, rfl, rfl⟩ ?_
        refine h.mono (fun r zM8 h => ?_)
        obtain ⟨zr9, rfl, h⟩ := h
        simp only [Option.toList_some, Option.toList_none, List.cons_append, List.nil_append]
        exact i_ireturn 59 rfl rfl h
      · replace h := h.2
        by_cases e0 : a2 = 0
        · refine ⟨40, 72, by rw [e0]; rfl, by decide, ?_⟩
          replace h := h.1 e0
          refine i_aload_n 19 rfl rfl (by decide) ?_
          refine i_getP (c := 11) (k := 1) (t := 114) (b := 104) 20 rfl fl_1050 (by decide) rfl (by decide) rfl ?_
          refine i_iload_n 21 rfl rfl ?_
          refine i_iald (τ := 14) 22 rfl ⟨rfl, rfl, rfl, by decide⟩ h.1.1 h.1.2 ?_
          replace h := h.2
          exact i_ireturn 23 rfl rfl h
        replace h := h.2
        by_cases e1 : a2 = 1
        · refine ⟨47, 79, by rw [e1]; rfl, by decide, ?_⟩
          replace h := h.1 e1
          refine i_aload_n 24 rfl rfl (by decide) ?_
          refine i_getP (c := 11) (k := 2) (t := 114) (b := 105) 25 rfl fl_1051 (by decide) rfl (by decide) rfl ?_
          refine i_iload_n 26 rfl rfl ?_
          refine i_iald (τ := 14) 27 rfl ⟨rfl, rfl, rfl, by decide⟩ h.1.1 h.1.2 ?_
          replace h := h.2
          exact i_ireturn 28 rfl rfl h
        replace h := h.2
        by_cases e2 : a2 = 2
        · refine ⟨54, 86, by rw [e2]; rfl, by decide, ?_⟩
          replace h := h.1 e2
          refine i_aload_n 29 rfl rfl (by decide) ?_
          refine i_getP (c := 11) (k := 3) (t := 114) (b := 106) 30 rfl fl_1052 (by decide) rfl (by decide) rfl ?_
          refine i_iload_n 31 rfl rfl ?_
          refine i_iald (τ := 14) 32 rfl ⟨rfl, rfl, rfl, by decide⟩ h.1.1 h.1.2 ?_
          replace h := h.2
          exact i_ireturn 33 rfl rfl h
        replace h := h.2
        by_cases e3 : a2 = 3
        · refine ⟨61, 93, by rw [e3]; rfl, by decide, ?_⟩
          replace h := h.1 e3
          refine i_aload_n 34 rfl rfl (by decide) ?_
          refine i_getP (c := 11) (k := 4) (t := 114) (b := 107) 35 rfl fl_1053 (by decide) rfl (by decide) rfl ?_
          refine i_iload_n 36 rfl rfl ?_
          refine i_iald (τ := 14) 37 rfl ⟨rfl, rfl, rfl, by decide⟩ h.1.1 h.1.2 ?_
          replace h := h.2
          exact i_ireturn 38 rfl rfl h
        replace h := h.2
        by_cases e4 : a2 = 4
        · refine ⟨68, 100, by rw [e4]; rfl, by decide, ?_⟩
          replace h := h.1 e4
          refine i_aload_n 39 rfl rfl (by decide) ?_
          refine i_getP (c := 11) (k := 21) (t := 114) (b := 149) 40 rfl fl_1070 (by decide) rfl (by decide) rfl ?_
          refine i_iload_n 41 rfl rfl ?_
          refine i_iald (τ := 14) 42 rfl ⟨rfl, rfl, rfl, by decide⟩ h.1.1 h.1.2 ?_
          replace h := h.2
          exact i_ireturn 43 rfl rfl h
        replace h := h.2
        by_cases e5 : a2 = 5
        · refine ⟨75, 107, by rw [e5]; rfl, by decide, ?_⟩
          replace h := h e5
          refine i_aload_n 44 rfl rfl (by decide) ?_
          refine i_iload_n 45 rfl rfl ?_
          refine i_aload_n 46 rfl rfl (by decide) ?_
          refine i_getL (c := 11) (k := 9) 47 rfl fl_1058 (by decide) rfl ?_
          refine i_aload_n 48 rfl rfl (by decide) ?_
          refine i_getL (c := 11) (k := 10) 49 rfl fl_1059 (by decide) rfl ?_
          refine i_callV (c := 11) (y1 := m_X11_answer) (z1 := (4, 0, 0)) (z2 := (10, 0, 0)) [(0, a1), (1, (zM7 103 9)), (1, (zM7 103 10))] 50 rfl ml_1296 ok_X11_answer vk_X11_answer ⟨by decide, rfl⟩ rfl ⟨rfl, Nat.le_of_ble_eq_true rfl⟩ (Nat.le_of_ble_eq_true rfl) ⟨by decide, rfl, rfl, rfl⟩ ?_
          refine h.mono (fun r zM10 h => ?_)
          obtain ⟨zr11, rfl, h⟩ := h
          simp only [Option.toList_some, Option.toList_none, List.cons_append, List.nil_append]
          exact i_ireturn 51 rfl rfl h
        exact absurd c1 (by omega)
    · replace h := h.2 c
      refine i_aload_n 10 rfl rfl (by decide) ?_
      refine i_iconst 11 rfl (by decide) ?_
      refine i_callV (c := 11) (y1 := m_X11_finds) (z1 := (1, 0, 0)) (z2 := (10, 0, 0)) [(0, 0)] 12 rfl ml_1233 ok_X11_finds vk_X11_finds ⟨by decide, rfl⟩ rfl ⟨rfl, Nat.le_of_ble_eq_true rfl⟩ (Nat.le_of_ble_eq_true rfl) ⟨by decide, rfl, rfl, rfl⟩ ?_
      refine h.mono (fun r zM12 h => ?_)
      obtain ⟨zr13, rfl, h⟩ := h
      simp only [Option.toList_some, Option.toList_none, List.cons_append, List.nil_append]
      exact i_ireturn 13 rfl rfl h
theorem u_X11_good_0 {l : Launch} {E : xE} (a1 a2 a3 a4 : Int) {M : xM} {Q : Option xV → xM → Prop} (h : x_Ev l E (3, 0, 0) m_X11_isGood 0 [(21, 103), (0, a1), (0, a2)] [] M (fun r zM1 => ∃ zr2, r = some (0, zr2) ∧ (zr2 = 0 → x_Ev l E (1, 0, 0) m_X11_finds 0 [(21, 103), (0, 0)] [] zM1 (fun r zM3 => ∃ zr4, r = some (0, zr4) ∧ Q (some (0, zr4)) zM3)) ∧ (¬ zr2 = 0 → x_Ev l E (2, 0, 0) m_X11_isOfGood 0 [(0, a3), (0, a4)] [] zM1 (fun r zM5 => ∃ zr6, r = some (0, zr6) ∧ (¬ zr6 = 0 → ((0 : Int) ≤ a1 ∧ (a1 : Int) < 3) ∧ ((0 : Int) ≤ a3 ∧ (a3 : Int) < 3) ∧ ((0 : Int) ≤ a2 ∧ (a2 : Int) < 3) ∧ ∀ zv7 : Int, zv7 = (zM5 ((108 + 1 + 4 * a1) + 1 + 1 * a3) a2) → ((0 : Int) ≤ a1 ∧ (a1 : Int) < 3) ∧ ((0 : Int) ≤ a3 ∧ (a3 : Int) < 3) ∧ (0 ≤ a2 ∧ a2 < 3) ∧ ∀ zM8 : xM, zM8 = x_wr zM5 ((108 + 1 + 4 * a1) + 1 + 1 * a3) a2 a4 → Q (some (0, zv7)) zM8) ∧ (zr6 = 0 → x_Ev l E (1, 0, 0) m_X11_finds 0 [(21, 103), (0, 0)] [] zM5 (fun r zM9 => ∃ zr10, r = some (0, zr10) ∧ Q (some (0, zr10)) zM9)))))) : x_Ev l E (4, 0, 0) m_X11_good 0 [(21, 103), (0, a1), (0, a2), (0, a3), (0, a4), (5, 0)] [] M Q := by
  refine i_aload_n 0 rfl rfl (by decide) ?_
  refine i_iload_n 1 rfl rfl ?_
  refine i_iload_n 2 rfl rfl ?_
  refine i_callV (c := 11) (y1 := m_X11_isGood) (z1 := (3, 0, 0)) (z2 := (4, 0, 0)) [(0, a1), (0, a2)] 3 rfl ml_1339 ok_X11_isGood vk_X11_isGood ⟨by decide, rfl⟩ rfl ⟨rfl, Nat.le_of_ble_eq_true rfl⟩ (Nat.le_of_ble_eq_true rfl) ⟨by decide, rfl, rfl, rfl⟩ ?_
  refine h.mono (fun r zM1 h => ?_)
  obtain ⟨zr2, rfl, h⟩ := h
  simp only [Option.toList_some, Option.toList_none, List.cons_append, List.nil_append]
  refine i_if_eq 18 4 rfl (by decide) (fun c => ?_) (fun c => ?_)
  · replace h := h.1 c
    refine i_aload_n 9 rfl rfl (by decide) ?_
    refine i_iconst 10 rfl (by decide) ?_
    refine i_callV (c := 11) (y1 := m_X11_finds) (z1 := (1, 0, 0)) (z2 := (4, 0, 0)) [(0, 0)] 11 rfl ml_1233 ok_X11_finds vk_X11_finds ⟨by decide, rfl⟩ rfl ⟨rfl, Nat.le_of_ble_eq_true rfl⟩ (Nat.le_of_ble_eq_true rfl) ⟨by decide, rfl, rfl, rfl⟩ ?_
    refine h.mono (fun r zM3 h => ?_)
    obtain ⟨zr4, rfl, h⟩ := h
    simp only [Option.toList_some, Option.toList_none, List.cons_append, List.nil_append]
    exact i_ireturn 12 rfl rfl h
  · replace h := h.2 c
    refine i_iload_n 5 rfl rfl ?_
    refine i_iload 6 rfl rfl ?_
    refine i_callS (y1 := m_X11_isOfGood) (z1 := (2, 0, 0)) (z2 := (4, 0, 0)) [(0, a3), (0, a4)] 7 rfl ml_1343 ok_X11_isOfGood vk_X11_isOfGood rfl ⟨rfl, Nat.le_of_ble_eq_true rfl⟩ (Nat.le_of_ble_eq_true rfl) ⟨by decide, rfl, rfl, rfl⟩ ?_
    refine h.mono (fun r zM5 h => ?_)
    obtain ⟨zr6, rfl, h⟩ := h
    simp only [Option.toList_some, Option.toList_none, List.cons_append, List.nil_append]
    refine i_if_ne 24 8 rfl (by decide) (fun c => ?_) (fun c => ?_)
    · replace h := h.1 c
      refine i_aload_n 13 rfl rfl (by decide) ?_
      refine i_getP (c := 11) (k := 5) (t := 121) (b := 108) 14 rfl fl_1054 (by decide) rfl (by decide) rfl ?_
      refine i_iload_n 15 rfl rfl ?_
      refine i_aald (τ := 21) (t := 120) (len := 3) (b := (108 + 1 + 4 * a1)) 16 rfl (by decide) rfl h.1.1 h.1.2 ?_
      replace h := h.2
      refine i_iload_n 17 rfl rfl ?_
      refine i_aald (τ := 20) (t := 114) (len := 3) (b := ((108 + 1 + 4 * a1) + 1 + 1 * a3)) 18 rfl (by decide) rfl h.1.1 h.1.2 ?_
      replace h := h.2
      refine i_iload_n 19 rfl rfl ?_
      refine i_iald (τ := 14) 20 rfl ⟨rfl, rfl, rfl, by decide⟩ h.1.1 h.1.2 ?_
      replace h := h.2
      replace h := h _ rfl
      refine i_istore 21 rfl (by decide) rfl ?_
      refine i_aload_n 22 rfl rfl (by decide) ?_
      refine i_getP (c := 11) (k := 5) (t := 121) (b := 108) 23 rfl fl_1054 (by decide) rfl (by decide) rfl ?_
      refine i_iload_n 24 rfl rfl ?_
      refine i_aald (τ := 21) (t := 120) (len := 3) (b := (108 + 1 + 4 * a1)) 25 rfl (by decide) rfl h.1.1 h.1.2 ?_
      replace h := h.2
      refine i_iload_n 26 rfl rfl ?_
      refine i_aald (τ := 20) (t := 114) (len := 3) (b := ((108 + 1 + 4 * a1) + 1 + 1 * a3)) 27 rfl (by decide) rfl h.1.1 h.1.2 ?_
      replace h := h.2
      refine i_iload_n 28 rfl rfl ?_
      refine i_iload 29 rfl rfl ?_
      have hb := h.1
      replace h := h.2 _ rfl
      refine i_iast (τ := 14) 30 rfl ⟨rfl, rfl, rfl, by decide⟩ hb.1 hb.2 ?_
      refine i_iload 31 rfl rfl ?_
      exact i_ireturn 32 rfl rfl h
    · replace h := h.2 c
      refine i_aload_n 9 rfl rfl (by decide) ?_
      refine i_iconst 10 rfl (by decide) ?_
      refine i_callV (c := 11) (y1 := m_X11_finds) (z1 := (1, 0, 0)) (z2 := (4, 0, 0)) [(0, 0)] 11 rfl ml_1233 ok_X11_finds vk_X11_finds ⟨by decide, rfl⟩ rfl ⟨rfl, Nat.le_of_ble_eq_true rfl⟩ (Nat.le_of_ble_eq_true rfl) ⟨by decide, rfl, rfl, rfl⟩ ?_
      refine h.mono (fun r zM9 h => ?_)
      obtain ⟨zr10, rfl, h⟩ := h
      simp only [Option.toList_some, Option.toList_none, List.cons_append, List.nil_append]
      exact i_ireturn 12 rfl rfl h
theorem u_X11_goodOf_0 {l : Launch} {E : xE} (a1 a2 a3 : Int) {M : xM} {Q : Option xV → xM → Prop} (h : x_Ev l E (3, 0, 0) m_X11_isGood 0 [(21, 103), (0, a1), (0, a2)] [] M (fun r zM1 => ∃ zr2, r = some (0, zr2) ∧ (zr2 = 0 → x_Ev l E (1, 0, 0) m_X11_finds 0 [(21, 103), (0, 0)] [] zM1 (fun r zM3 => ∃ zr4, r = some (0, zr4) ∧ Q (some (0, zr4)) zM3)) ∧ (¬ zr2 = 0 → x_Ev l E (1, 0, 0) m_X11_in 0 [(1, a3), (5, 0), (1, 0), (5, 0), (1, 2), (5, 0)] [] zM1 (fun r zM5 => ∃ zr6, r = some (0, zr6) ∧ (zr6 = 0 → x_Ev l E (1, 0, 0) m_X11_finds 0 [(21, 103), (0, 0)] [] zM5 (fun r zM7 => ∃ zr8, r = some (0, zr8) ∧ Q (some (0, zr8)) zM7)) ∧ (¬ zr6 = 0 → ((0 : Int) ≤ a1 ∧ (a1 : Int) < 3) ∧ ((0 : Int) ≤ a3 ∧ (a3 : Int) < 3) ∧ ((0 : Int) ≤ a2 ∧ (a2 : Int) < 3) ∧ Q (some (0, (zM5 ((108 + 1 + 4 * a1) + 1 + 1 * a3) a2))) zM5))))) : x_Ev l E (4, 0, 0) m_X11_goodOf 0 [(21, 103), (0, a1), (0, a2), (0, a3)] [] M Q := by
  refine i_aload_n 0 rfl rfl (by decide) ?_
  refine i_iload_n 1 rfl rfl ?_
  refine i_iload_n 2 rfl rfl ?_
  refine i_callV (c := 11) (y1 := m_X11_isGood) (z1 := (3, 0, 0)) (z2 := (4, 0, 0)) [(0, a1), (0, a2)] 3 rfl ml_1339 ok_X11_isGood vk_X11_isGood ⟨by decide, rfl⟩ rfl ⟨rfl, Nat.le_of_ble_eq_true rfl⟩ (Nat.le_of_ble_eq_true rfl) ⟨by decide, rfl, rfl, rfl⟩ ?_
  refine h.mono (fun r zM1 h => ?_)
  obtain ⟨zr2, rfl, h⟩ := h
  simp only [Option.toList_some, Option.toList_none, List.cons_append, List.nil_append]
  refine i_if_eq 34 4 rfl (by decide) (fun c => ?_) (fun c => ?_)
  · replace h := h.1 c
    refine i_aload_n 20 rfl rfl (by decide) ?_
    refine i_iconst 21 rfl (by decide) ?_
    refine i_callV (c := 11) (y1 := m_X11_finds) (z1 := (1, 0, 0)) (z2 := (4, 0, 0)) [(0, 0)] 22 rfl ml_1233 ok_X11_finds vk_X11_finds ⟨by decide, rfl⟩ rfl ⟨rfl, Nat.le_of_ble_eq_true rfl⟩ (Nat.le_of_ble_eq_true rfl) ⟨by decide, rfl, rfl, rfl⟩ ?_
    refine h.mono (fun r zM3 h => ?_)
    obtain ⟨zr4, rfl, h⟩ := h
    simp only [Option.toList_some, Option.toList_none, List.cons_append, List.nil_append]
    exact i_ireturn 23 rfl rfl h
  · replace h := h.2 c
    refine i_iload_n 5 rfl rfl ?_
    refine i_i2l 6 rfl ?_
    refine i_lconst (w := 0) 7 rfl (by decide) ?_
    refine i_ldc2 (v := 2) 8 rfl cw_1353 (by decide) ?_
    refine i_callS (y1 := m_X11_in) (z1 := (1, 0, 0)) (z2 := (4, 0, 0)) [(1, a3), (1, 0), (1, 2)] 9 rfl ml_1229 ok_X11_in vk_X11_in rfl ⟨rfl, Nat.le_of_ble_eq_true rfl⟩ (Nat.le_of_ble_eq_true rfl) ⟨by decide, rfl, rfl, rfl⟩ ?_
    refine h.mono (fun r zM5 h => ?_)
    obtain ⟨zr6, rfl, h⟩ := h
    simp only [Option.toList_some, Option.toList_none, List.cons_append, List.nil_append]
    refine i_if_eq 34 10 rfl (by decide) (fun c => ?_) (fun c => ?_)
    · replace h := h.1 c
      refine i_aload_n 20 rfl rfl (by decide) ?_
      refine i_iconst 21 rfl (by decide) ?_
      refine i_callV (c := 11) (y1 := m_X11_finds) (z1 := (1, 0, 0)) (z2 := (4, 0, 0)) [(0, 0)] 22 rfl ml_1233 ok_X11_finds vk_X11_finds ⟨by decide, rfl⟩ rfl ⟨rfl, Nat.le_of_ble_eq_true rfl⟩ (Nat.le_of_ble_eq_true rfl) ⟨by decide, rfl, rfl, rfl⟩ ?_
      refine h.mono (fun r zM7 h => ?_)
      obtain ⟨zr8, rfl, h⟩ := h
      simp only [Option.toList_some, Option.toList_none, List.cons_append, List.nil_append]
      exact i_ireturn 23 rfl rfl h
    · replace h := h.2 c
      refine i_aload_n 11 rfl rfl (by decide) ?_
      refine i_getP (c := 11) (k := 5) (t := 121) (b := 108) 12 rfl fl_1054 (by decide) rfl (by decide) rfl ?_
      refine i_iload_n 13 rfl rfl ?_
      refine i_aald (τ := 21) (t := 120) (len := 3) (b := (108 + 1 + 4 * a1)) 14 rfl (by decide) rfl h.1.1 h.1.2 ?_
      replace h := h.2
      refine i_iload_n 15 rfl rfl ?_
      refine i_aald (τ := 20) (t := 114) (len := 3) (b := ((108 + 1 + 4 * a1) + 1 + 1 * a3)) 16 rfl (by decide) rfl h.1.1 h.1.2 ?_
      replace h := h.2
      refine i_iload_n 17 rfl rfl ?_
      refine i_iald (τ := 14) 18 rfl ⟨rfl, rfl, rfl, by decide⟩ h.1.1 h.1.2 ?_
      replace h := h.2
      refine i_goto 39 19 rfl (by decide) ?_
      exact i_ireturn 23 rfl rfl h
theorem u_X11_budget_0 {l : Launch} {E : xE} (a1 a2 a3 : Int) {M : xM} {Q : Option xV → xM → Prop} (h : x_Ev l E (2, 0, 0) m_X11_isFollower 0 [(21, 103), (0, a1)] [] M (fun r zM1 => ∃ zr2, r = some (0, zr2) ∧ (zr2 = 0 → x_Ev l E (1, 0, 0) m_X11_finds 0 [(21, 103), (0, 0)] [] zM1 (fun r zM3 => ∃ zr4, r = some (0, zr4) ∧ Q (some (0, zr4)) zM3)) ∧ (¬ zr2 = 0 → x_Ev l E (1, 0, 0) m_X11_in 0 [(1, a2), (5, 0), (1, 0), (5, 0), (1, 26), (5, 0)] [] zM1 (fun r zM5 => ∃ zr6, r = some (0, zr6) ∧ (zr6 = 0 → x_Ev l E (1, 0, 0) m_X11_finds 0 [(21, 103), (0, 0)] [] zM5 (fun r zM7 => ∃ zr8, r = some (0, zr8) ∧ Q (some (0, zr8)) zM7)) ∧ (¬ zr6 = 0 → x_Ev l E (1, 0, 0) m_X11_in 0 [(1, a3), (5, 0), (1, 0), (5, 0), (1, 20), (5, 0)] [] zM5 (fun r zM9 => ∃ zr10, r = some (0, zr10) ∧ (¬ zr10 = 0 → ((0 : Int) ≤ a1 ∧ (a1 : Int) < 3) ∧ ∀ zv11 : Int, zv11 = (zM9 (137 + 1 + 1 * a1) 0) → x_Ev l E (1, 0, 0) m_X11_numbers 0 [(21, 103), (0, a1), (0, 0), (0, a2), (0, 3), (0, 1), (5, 0), (5, 0)] [] zM9 (fun r zM12 => r = none ∧ ((0 : Int) ≤ a1 ∧ (a1 : Int) < 3) ∧ ∀ zM13 : xM, zM13 = x_wr zM12 (137 + 1 + 1 * a1) 0 a3 → Q (some (0, zv11)) zM13)) ∧ (zr10 = 0 → x_Ev l E (1, 0, 0) m_X11_finds 0 [(21, 103), (0, 0)] [] zM9 (fun r zM14 => ∃ zr15, r = some (0, zr15) ∧ Q (some (0, zr15)) zM14)))))))) : x_Ev l E (3, 0, 0) m_X11_budget 0 [(21, 103), (0, a1), (0, a2), (0, a3), (5, 0)] [] M Q := by
  refine i_aload_n 0 rfl rfl (by decide) ?_
  refine i_iload_n 1 rfl rfl ?_
  refine i_callV (c := 11) (y1 := m_X11_isFollower) (z1 := (2, 0, 0)) (z2 := (3, 0, 0)) [(0, a1)] 2 rfl ml_1242 ok_X11_isFollower vk_X11_isFollower ⟨by decide, rfl⟩ rfl ⟨rfl, Nat.le_of_ble_eq_true rfl⟩ (Nat.le_of_ble_eq_true rfl) ⟨by decide, rfl, rfl, rfl⟩ ?_
  refine h.mono (fun r zM1 h => ?_)
  obtain ⟨zr2, rfl, h⟩ := h
  simp only [Option.toList_some, Option.toList_none, List.cons_append, List.nil_append]
  refine i_if_eq 32 3 rfl (by decide) (fun c => ?_) (fun c => ?_)
  · replace h := h.1 c
    refine i_aload_n 16 rfl rfl (by decide) ?_
    refine i_iconst 17 rfl (by decide) ?_
    refine i_callV (c := 11) (y1 := m_X11_finds) (z1 := (1, 0, 0)) (z2 := (3, 0, 0)) [(0, 0)] 18 rfl ml_1233 ok_X11_finds vk_X11_finds ⟨by decide, rfl⟩ rfl ⟨rfl, Nat.le_of_ble_eq_true rfl⟩ (Nat.le_of_ble_eq_true rfl) ⟨by decide, rfl, rfl, rfl⟩ ?_
    refine h.mono (fun r zM3 h => ?_)
    obtain ⟨zr4, rfl, h⟩ := h
    simp only [Option.toList_some, Option.toList_none, List.cons_append, List.nil_append]
    exact i_ireturn 19 rfl rfl h
  · replace h := h.2 c
    refine i_iload_n 4 rfl rfl ?_
    refine i_i2l 5 rfl ?_
    refine i_lconst (w := 0) 6 rfl (by decide) ?_
    refine i_ldc2 (v := 26) 7 rfl cw_1358 (by decide) ?_
    refine i_callS (y1 := m_X11_in) (z1 := (1, 0, 0)) (z2 := (3, 0, 0)) [(1, a2), (1, 0), (1, 26)] 8 rfl ml_1229 ok_X11_in vk_X11_in rfl ⟨rfl, Nat.le_of_ble_eq_true rfl⟩ (Nat.le_of_ble_eq_true rfl) ⟨by decide, rfl, rfl, rfl⟩ ?_
    refine h.mono (fun r zM5 h => ?_)
    obtain ⟨zr6, rfl, h⟩ := h
    simp only [Option.toList_some, Option.toList_none, List.cons_append, List.nil_append]
    refine i_if_eq 32 9 rfl (by decide) (fun c => ?_) (fun c => ?_)
    · replace h := h.1 c
      refine i_aload_n 16 rfl rfl (by decide) ?_
      refine i_iconst 17 rfl (by decide) ?_
      refine i_callV (c := 11) (y1 := m_X11_finds) (z1 := (1, 0, 0)) (z2 := (3, 0, 0)) [(0, 0)] 18 rfl ml_1233 ok_X11_finds vk_X11_finds ⟨by decide, rfl⟩ rfl ⟨rfl, Nat.le_of_ble_eq_true rfl⟩ (Nat.le_of_ble_eq_true rfl) ⟨by decide, rfl, rfl, rfl⟩ ?_
      refine h.mono (fun r zM7 h => ?_)
      obtain ⟨zr8, rfl, h⟩ := h
      simp only [Option.toList_some, Option.toList_none, List.cons_append, List.nil_append]
      exact i_ireturn 19 rfl rfl h
    · replace h := h.2 c
      refine i_iload_n 10 rfl rfl ?_
      refine i_i2l 11 rfl ?_
      refine i_lconst (w := 0) 12 rfl (by decide) ?_
      refine i_ldc2 (v := 20) 13 rfl cw_1346 (by decide) ?_
      refine i_callS (y1 := m_X11_in) (z1 := (1, 0, 0)) (z2 := (3, 0, 0)) [(1, a3), (1, 0), (1, 20)] 14 rfl ml_1229 ok_X11_in vk_X11_in rfl ⟨rfl, Nat.le_of_ble_eq_true rfl⟩ (Nat.le_of_ble_eq_true rfl) ⟨by decide, rfl, rfl, rfl⟩ ?_
      refine h.mono (fun r zM9 h => ?_)
      obtain ⟨zr10, rfl, h⟩ := h
      simp only [Option.toList_some, Option.toList_none, List.cons_append, List.nil_append]
      refine i_if_ne 38 15 rfl (by decide) (fun c => ?_) (fun c => ?_)
      · replace h := h.1 c
        refine i_aload_n 20 rfl rfl (by decide) ?_
        refine i_getP (c := 11) (k := 7) (t := 124) (b := 137) 21 rfl fl_1056 (by decide) rfl (by decide) rfl ?_
        refine i_iload_n 22 rfl rfl ?_
        refine i_aald (τ := 24) (t := 103) (len := 3) (b := (137 + 1 + 1 * a1)) 23 rfl (by decide) rfl h.1.1 h.1.2 ?_
        replace h := h.2
        refine i_iconst 24 rfl (by decide) ?_
        refine i_iald (τ := 3) 25 rfl ⟨rfl, rfl, rfl, by decide⟩ (by decide) (by decide) ?_
        replace h := h _ rfl
        refine i_istore 26 rfl (by decide) rfl ?_
        refine i_aload_n 27 rfl rfl (by decide) ?_
        refine i_iload_n 28 rfl rfl ?_
        refine i_iconst 29 rfl (by decide) ?_
        refine i_iload_n 30 rfl rfl ?_
        refine i_iconst 31 rfl (by decide) ?_
        refine i_iconst 32 rfl (by decide) ?_
        refine i_callV (c := 11) (y1 := m_X11_numbers) (z1 := (1, 0, 0)) (z2 := (3, 0, 0)) [(0, a1), (0, 0), (0, a2), (0, 3), (0, 1)] 33 rfl ml_1359 ok_X11_numbers vk_X11_numbers ⟨by decide, rfl⟩ rfl ⟨rfl, Nat.le_of_ble_eq_true rfl⟩ (Nat.le_of_ble_eq_true rfl) ⟨by decide, rfl, rfl, rfl⟩ ?_
        refine h.mono (fun r zM12 h => ?_)
        obtain ⟨rfl, h⟩ := h
        simp only [Option.toList_some, Option.toList_none, List.cons_append, List.nil_append]
        refine i_aload_n 34 rfl rfl (by decide) ?_
        refine i_getP (c := 11) (k := 7) (t := 124) (b := 137) 35 rfl fl_1056 (by decide) rfl (by decide) rfl ?_
        refine i_iload_n 36 rfl rfl ?_
        refine i_aald (τ := 24) (t := 103) (len := 3) (b := (137 + 1 + 1 * a1)) 37 rfl (by decide) rfl h.1.1 h.1.2 ?_
        replace h := h.2
        refine i_iconst 38 rfl (by decide) ?_
        refine i_iload_n 39 rfl rfl ?_
        replace h := h _ rfl
        refine i_iast (τ := 3) 40 rfl ⟨rfl, rfl, rfl, by decide⟩ (by decide) (by decide) ?_
        refine i_iload 41 rfl rfl ?_
        exact i_ireturn 42 rfl rfl h
      · replace h := h.2 c
        refine i_aload_n 16 rfl rfl (by decide) ?_
        refine i_iconst 17 rfl (by decide) ?_
        refine i_callV (c := 11) (y1 := m_X11_finds) (z1 := (1, 0, 0)) (z2 := (3, 0, 0)) [(0, 0)] 18 rfl ml_1233 ok_X11_finds vk_X11_finds ⟨by decide, rfl⟩ rfl ⟨rfl, Nat.le_of_ble_eq_true rfl⟩ (Nat.le_of_ble_eq_true rfl) ⟨by decide, rfl, rfl, rfl⟩ ?_
        refine h.mono (fun r zM14 h => ?_)
        obtain ⟨zr15, rfl, h⟩ := h
        simp only [Option.toList_some, Option.toList_none, List.cons_append, List.nil_append]
        exact i_ireturn 19 rfl rfl h
theorem u_X11_bind_0 {l : Launch} {E : xE} (a1 a2 a3 : Int) {M : xM} {Q : Option xV → xM → Prop} (h : x_Ev l E (2, 0, 0) m_X11_isFollower 0 [(21, 103), (0, a1)] [] M (fun r zM1 => ∃ zr2, r = some (0, zr2) ∧ (zr2 = 0 → x_Ev l E (1, 0, 0) m_X11_finds 0 [(21, 103), (0, 0)] [] zM1 (fun r zM3 => ∃ zr4, r = some (0, zr4) ∧ Q (some (0, zr4)) zM3)) ∧ (¬ zr2 = 0 → x_Ev l E (1, 0, 0) m_X11_in 0 [(1, a2), (5, 0), (1, 0), (5, 0), (1, 342), (5, 0)] [] zM1 (fun r zM5 => ∃ zr6, r = some (0, zr6) ∧ (zr6 = 0 → x_Ev l E (1, 0, 0) m_X11_finds 0 [(21, 103), (0, 0)] [] zM5 (fun r zM7 => ∃ zr8, r = some (0, zr8) ∧ Q (some (0, zr8)) zM7)) ∧ (¬ zr6 = 0 → x_Ev l E (1, 0, 0) m_X11_in 0 [(1, a3), (5, 0), (1, 0), (5, 0), (1, 20), (5, 0)] [] zM5 (fun r zM9 => ∃ zr10, r = some (0, zr10) ∧ (¬ zr10 = 0 → ((0 : Int) ≤ a1 ∧ (a1 : Int) < 3) ∧ (¬ (zM9 107 a1) = 4 → ((0 : Int) ≤ a1 ∧ (a1 : Int) < 3) ∧ x_Ev l E (1, 0, 0) m_X11_numbers 0 [(21, 103), (0, a1), (0, (zM9 107 a1)), (0, a2), (0, 7), (0, (-3)), (5, 0), (5, 0)] [] zM9 (fun r zM11 => r = none ∧ ((0 : Int) ≤ a1 ∧ (a1 : Int) < 3) ∧ ((0 : Int) ≤ a1 ∧ (a1 : Int) < 3) ∧ (0 ≤ (zM11 107 a1) ∧ (zM11 107 a1) < 4) ∧ ∀ zM12 : xM, zM12 = x_wr zM11 (137 + 1 + 1 * a1) (zM11 107 a1) a3 → ((0 : Int) ≤ a1 ∧ (a1 : Int) < 3) ∧ (0 ≤ a1 ∧ a1 < 3) ∧ ∀ zM13 : xM, zM13 = x_wr zM12 107 a1 (x_w ((zM12 107 a1) + 1)) → ((0 : Int) ≤ a1 ∧ (a1 : Int) < 3) ∧ Q (some (0, (x_w ((zM13 107 a1) - 1)))) zM13)) ∧ ((zM9 107 a1) = 4 → x_Ev l E (1, 0, 0) m_X11_finds 0 [(21, 103), (0, 1)] [] zM9 (fun r zM14 => ∃ zr15, r = some (0, zr15) ∧ Q (some (0, zr15)) zM14))) ∧ (zr10 = 0 → x_Ev l E (1, 0, 0) m_X11_finds 0 [(21, 103), (0, 0)] [] zM9 (fun r zM16 => ∃ zr17, r = some (0, zr17) ∧ Q (some (0, zr17)) zM16)))))))) : x_Ev l E (3, 0, 0) m_X11_bind 0 [(21, 103), (0, a1), (0, a2), (0, a3)] [] M Q := by
  refine i_aload_n 0 rfl rfl (by decide) ?_
  refine i_iload_n 1 rfl rfl ?_
  refine i_callV (c := 11) (y1 := m_X11_isFollower) (z1 := (2, 0, 0)) (z2 := (3, 0, 0)) [(0, a1)] 2 rfl ml_1242 ok_X11_isFollower vk_X11_isFollower ⟨by decide, rfl⟩ rfl ⟨rfl, Nat.le_of_ble_eq_true rfl⟩ (Nat.le_of_ble_eq_true rfl) ⟨by decide, rfl, rfl, rfl⟩ ?_
  refine h.mono (fun r zM1 h => ?_)
  obtain ⟨zr2, rfl, h⟩ := h
  simp only [Option.toList_some, Option.toList_none, List.cons_append, List.nil_append]
  refine i_if_eq 32 3 rfl (by decide) (fun c => ?_) (fun c => ?_)
  · replace h := h.1 c
    refine i_aload_n 16 rfl rfl (by decide) ?_
    refine i_iconst 17 rfl (by decide) ?_
    refine i_callV (c := 11) (y1 := m_X11_finds) (z1 := (1, 0, 0)) (z2 := (3, 0, 0)) [(0, 0)] 18 rfl ml_1233 ok_X11_finds vk_X11_finds ⟨by decide, rfl⟩ rfl ⟨rfl, Nat.le_of_ble_eq_true rfl⟩ (Nat.le_of_ble_eq_true rfl) ⟨by decide, rfl, rfl, rfl⟩ ?_
    refine h.mono (fun r zM3 h => ?_)
    obtain ⟨zr4, rfl, h⟩ := h
    simp only [Option.toList_some, Option.toList_none, List.cons_append, List.nil_append]
    exact i_ireturn 19 rfl rfl h
  · replace h := h.2 c
    refine i_iload_n 4 rfl rfl ?_
    refine i_i2l 5 rfl ?_
    refine i_lconst (w := 0) 6 rfl (by decide) ?_
    refine i_ldc2 (v := 342) 7 rfl cw_1367 (by decide) ?_
    refine i_callS (y1 := m_X11_in) (z1 := (1, 0, 0)) (z2 := (3, 0, 0)) [(1, a2), (1, 0), (1, 342)] 8 rfl ml_1229 ok_X11_in vk_X11_in rfl ⟨rfl, Nat.le_of_ble_eq_true rfl⟩ (Nat.le_of_ble_eq_true rfl) ⟨by decide, rfl, rfl, rfl⟩ ?_
    refine h.mono (fun r zM5 h => ?_)
    obtain ⟨zr6, rfl, h⟩ := h
    simp only [Option.toList_some, Option.toList_none, List.cons_append, List.nil_append]
    refine i_if_eq 32 9 rfl (by decide) (fun c => ?_) (fun c => ?_)
    · replace h := h.1 c
      refine i_aload_n 16 rfl rfl (by decide) ?_
      refine i_iconst 17 rfl (by decide) ?_
      refine i_callV (c := 11) (y1 := m_X11_finds) (z1 := (1, 0, 0)) (z2 := (3, 0, 0)) [(0, 0)] 18 rfl ml_1233 ok_X11_finds vk_X11_finds ⟨by decide, rfl⟩ rfl ⟨rfl, Nat.le_of_ble_eq_true rfl⟩ (Nat.le_of_ble_eq_true rfl) ⟨by decide, rfl, rfl, rfl⟩ ?_
      refine h.mono (fun r zM7 h => ?_)
      obtain ⟨zr8, rfl, h⟩ := h
      simp only [Option.toList_some, Option.toList_none, List.cons_append, List.nil_append]
      exact i_ireturn 19 rfl rfl h
    · replace h := h.2 c
      refine i_iload_n 10 rfl rfl ?_
      refine i_i2l 11 rfl ?_
      refine i_lconst (w := 0) 12 rfl (by decide) ?_
      refine i_ldc2 (v := 20) 13 rfl cw_1346 (by decide) ?_
      refine i_callS (y1 := m_X11_in) (z1 := (1, 0, 0)) (z2 := (3, 0, 0)) [(1, a3), (1, 0), (1, 20)] 14 rfl ml_1229 ok_X11_in vk_X11_in rfl ⟨rfl, Nat.le_of_ble_eq_true rfl⟩ (Nat.le_of_ble_eq_true rfl) ⟨by decide, rfl, rfl, rfl⟩ ?_
      refine h.mono (fun r zM9 h => ?_)
      obtain ⟨zr10, rfl, h⟩ := h
      simp only [Option.toList_some, Option.toList_none, List.cons_append, List.nil_append]
      refine i_if_ne 38 15 rfl (by decide) (fun c => ?_) (fun c => ?_)
      · replace h := h.1 c
        refine i_aload_n 20 rfl rfl (by decide) ?_
        refine i_getP (c := 11) (k := 4) (t := 114) (b := 107) 21 rfl fl_1053 (by decide) rfl (by decide) rfl ?_
        refine i_iload_n 22 rfl rfl ?_
        refine i_iald (τ := 14) 23 rfl ⟨rfl, rfl, rfl, by decide⟩ h.1.1 h.1.2 ?_
        replace h := h.2
        refine i_iconst 24 rfl (by decide) ?_
        refine i_icmp_ne 54 25 rfl (by decide) (fun c => ?_) (fun c => ?_)
        · replace h := h.1 c
          refine i_aload_n 30 rfl rfl (by decide) ?_
          refine i_iload_n 31 rfl rfl ?_
          refine i_aload_n 32 rfl rfl (by decide) ?_
          refine i_getP (c := 11) (k := 4) (t := 114) (b := 107) 33 rfl fl_1053 (by decide) rfl (by decide) rfl ?_
          refine i_iload_n 34 rfl rfl ?_
          refine i_iald (τ := 14) 35 rfl ⟨rfl, rfl, rfl, by decide⟩ h.1.1 h.1.2 ?_
          replace h := h.2
          refine i_iload_n 36 rfl rfl ?_
          refine i_bipush 37 rfl (by decide) ?_
          refine i_bipush 38 rfl (by decide) ?_
          refine i_callV (c := 11) (y1 := m_X11_numbers) (z1 := (1, 0, 0)) (z2 := (3, 0, 0)) [(0, a1), (0, (zM9 107 a1)), (0, a2), (0, 7), (0, (-3))] 39 rfl ml_1359 ok_X11_numbers vk_X11_numbers ⟨by decide, rfl⟩ rfl ⟨rfl, Nat.le_of_ble_eq_true rfl⟩ (Nat.le_of_ble_eq_true rfl) ⟨by decide, rfl, rfl, rfl⟩ ?_
          refine h.mono (fun r zM11 h => ?_)
          obtain ⟨rfl, h⟩ := h
          simp only [Option.toList_some, Option.toList_none, List.cons_append, List.nil_append]
          refine i_aload_n 40 rfl rfl (by decide) ?_
          refine i_getP (c := 11) (k := 7) (t := 124) (b := 137) 41 rfl fl_1056 (by decide) rfl (by decide) rfl ?_
          refine i_iload_n 42 rfl rfl ?_
          refine i_aald (τ := 24) (t := 103) (len := 3) (b := (137 + 1 + 1 * a1)) 43 rfl (by decide) rfl h.1.1 h.1.2 ?_
          replace h := h.2
          refine i_aload_n 44 rfl rfl (by decide) ?_
          refine i_getP (c := 11) (k := 4) (t := 114) (b := 107) 45 rfl fl_1053 (by decide) rfl (by decide) rfl ?_
          refine i_iload_n 46 rfl rfl ?_
          refine i_iald (τ := 14) 47 rfl ⟨rfl, rfl, rfl, by decide⟩ h.1.1 h.1.2 ?_
          replace h := h.2
          refine i_iload_n 48 rfl rfl ?_
          have hb := h.1
          replace h := h.2 _ rfl
          refine i_iast (τ := 3) 49 rfl ⟨rfl, rfl, rfl, by decide⟩ hb.1 hb.2 ?_
          refine i_aload_n 50 rfl rfl (by decide) ?_
          refine i_getP (c := 11) (k := 4) (t := 114) (b := 107) 51 rfl fl_1053 (by decide) rfl (by decide) rfl ?_
          refine i_iload_n 52 rfl rfl ?_
          refine i_dup2 53 rfl ⟨Nat.ne_of_beq_eq_false rfl, Nat.ne_of_beq_eq_false rfl⟩ ?_
          refine i_iald (τ := 14) 54 rfl ⟨rfl, rfl, rfl, by decide⟩ h.1.1 h.1.2 ?_
          replace h := h.2
          refine i_iconst 55 rfl (by decide) ?_
          refine i_iadd 56 rfl ?_
          have hb := h.1
          replace h := h.2 _ rfl
          refine i_iast (τ := 14) 57 rfl ⟨rfl, rfl, rfl, by decide⟩ hb.1 hb.2 ?_
          refine i_aload_n 58 rfl rfl (by decide) ?_
          refine i_getP (c := 11) (k := 4) (t := 114) (b := 107) 59 rfl fl_1053 (by decide) rfl (by decide) rfl ?_
          refine i_iload_n 60 rfl rfl ?_
          refine i_iald (τ := 14) 61 rfl ⟨rfl, rfl, rfl, by decide⟩ h.1.1 h.1.2 ?_
          replace h := h.2
          refine i_iconst 62 rfl (by decide) ?_
          refine i_isub 63 rfl ?_
          exact i_ireturn 64 rfl rfl h
        · replace h := h.2 c
          refine i_aload_n 26 rfl rfl (by decide) ?_
          refine i_iconst 27 rfl (by decide) ?_
          refine i_callV (c := 11) (y1 := m_X11_finds) (z1 := (1, 0, 0)) (z2 := (3, 0, 0)) [(0, 1)] 28 rfl ml_1233 ok_X11_finds vk_X11_finds ⟨by decide, rfl⟩ rfl ⟨rfl, Nat.le_of_ble_eq_true rfl⟩ (Nat.le_of_ble_eq_true rfl) ⟨by decide, rfl, rfl, rfl⟩ ?_
          refine h.mono (fun r zM14 h => ?_)
          obtain ⟨zr15, rfl, h⟩ := h
          simp only [Option.toList_some, Option.toList_none, List.cons_append, List.nil_append]
          exact i_ireturn 29 rfl rfl h
      · replace h := h.2 c
        refine i_aload_n 16 rfl rfl (by decide) ?_
        refine i_iconst 17 rfl (by decide) ?_
        refine i_callV (c := 11) (y1 := m_X11_finds) (z1 := (1, 0, 0)) (z2 := (3, 0, 0)) [(0, 0)] 18 rfl ml_1233 ok_X11_finds vk_X11_finds ⟨by decide, rfl⟩ rfl ⟨rfl, Nat.le_of_ble_eq_true rfl⟩ (Nat.le_of_ble_eq_true rfl) ⟨by decide, rfl, rfl, rfl⟩ ?_
        refine h.mono (fun r zM16 h => ?_)
        obtain ⟨zr17, rfl, h⟩ := h
        simp only [Option.toList_some, Option.toList_none, List.cons_append, List.nil_append]
        exact i_ireturn 19 rfl rfl h
theorem u_X11_loosen_0 {l : Launch} {E : xE} (a1 a2 : Int) {M : xM} {Q : Option xV → xM → Prop} (h : x_Ev l E (3, 0, 0) m_X11_isRow 0 [(21, 103), (0, a1), (0, a2)] [] M (fun r zM1 => ∃ zr2, r = some (0, zr2) ∧ (zr2 = 0 → x_Ev l E (1, 0, 0) m_X11_finds 0 [(21, 103), (0, 0)] [] zM1 (fun r zM3 => ∃ zr4, r = some (0, zr4) ∧ Q (some (0, zr4)) zM3)) ∧ (¬ zr2 = 0 → (¬ a2 = 0 → x_Ev l E (1, 0, 0) m_X11_takesOut 0 [(21, 103), (0, a1), (0, a2), (5, 0), (5, 0)] [] zM1 (fun r zM5 => r = none ∧ ((0 : Int) ≤ a1 ∧ (a1 : Int) < 3) ∧ Q (some (0, (zM5 107 a1))) zM5)) ∧ (a2 = 0 → x_Ev l E (1, 0, 0) m_X11_finds 0 [(21, 103), (0, 0)] [] zM1 (fun r zM6 => ∃ zr7, r = some (0, zr7) ∧ Q (some (0, zr7)) zM6))))) : x_Ev l E (4, 0, 0) m_X11_loosen 0 [(21, 103), (0, a1), (0, a2)] [] M Q := by
  refine i_aload_n 0 rfl rfl (by decide) ?_
  refine i_iload_n 1 rfl rfl ?_
  refine i_iload_n 2 rfl rfl ?_
  refine i_callV (c := 11) (y1 := m_X11_isRow) (z1 := (3, 0, 0)) (z2 := (4, 0, 0)) [(0, a1), (0, a2)] 3 rfl ml_1372 ok_X11_isRow vk_X11_isRow ⟨by decide, rfl⟩ rfl ⟨rfl, Nat.le_of_ble_eq_true rfl⟩ (Nat.le_of_ble_eq_true rfl) ⟨by decide, rfl, rfl, rfl⟩ ?_
  refine h.mono (fun r zM1 h => ?_)
  obtain ⟨zr2, rfl, h⟩ := h
  simp only [Option.toList_some, Option.toList_none, List.cons_append, List.nil_append]
  refine i_if_eq 13 4 rfl (by decide) (fun c => ?_) (fun c => ?_)
  · replace h := h.1 c
    refine i_aload_n 7 rfl rfl (by decide) ?_
    refine i_iconst 8 rfl (by decide) ?_
    refine i_callV (c := 11) (y1 := m_X11_finds) (z1 := (1, 0, 0)) (z2 := (4, 0, 0)) [(0, 0)] 9 rfl ml_1233 ok_X11_finds vk_X11_finds ⟨by decide, rfl⟩ rfl ⟨rfl, Nat.le_of_ble_eq_true rfl⟩ (Nat.le_of_ble_eq_true rfl) ⟨by decide, rfl, rfl, rfl⟩ ?_
    refine h.mono (fun r zM3 h => ?_)
    obtain ⟨zr4, rfl, h⟩ := h
    simp only [Option.toList_some, Option.toList_none, List.cons_append, List.nil_append]
    exact i_ireturn 10 rfl rfl h
  · replace h := h.2 c
    refine i_iload_n 5 rfl rfl ?_
    refine i_if_ne 19 6 rfl (by decide) (fun c => ?_) (fun c => ?_)
    · replace h := h.1 c
      refine i_aload_n 11 rfl rfl (by decide) ?_
      refine i_iload_n 12 rfl rfl ?_
      refine i_iload_n 13 rfl rfl ?_
      refine i_callV (c := 11) (y1 := m_X11_takesOut) (z1 := (1, 0, 0)) (z2 := (4, 0, 0)) [(0, a1), (0, a2)] 14 rfl ml_1376 ok_X11_takesOut vk_X11_takesOut ⟨by decide, rfl⟩ rfl ⟨rfl, Nat.le_of_ble_eq_true rfl⟩ (Nat.le_of_ble_eq_true rfl) ⟨by decide, rfl, rfl, rfl⟩ ?_
      refine h.mono (fun r zM5 h => ?_)
      obtain ⟨rfl, h⟩ := h
      simp only [Option.toList_some, Option.toList_none, List.cons_append, List.nil_append]
      refine i_aload_n 15 rfl rfl (by decide) ?_
      refine i_getP (c := 11) (k := 4) (t := 114) (b := 107) 16 rfl fl_1053 (by decide) rfl (by decide) rfl ?_
      refine i_iload_n 17 rfl rfl ?_
      refine i_iald (τ := 14) 18 rfl ⟨rfl, rfl, rfl, by decide⟩ h.1.1 h.1.2 ?_
      replace h := h.2
      exact i_ireturn 19 rfl rfl h
    · replace h := h.2 c
      refine i_aload_n 7 rfl rfl (by decide) ?_
      refine i_iconst 8 rfl (by decide) ?_
      refine i_callV (c := 11) (y1 := m_X11_finds) (z1 := (1, 0, 0)) (z2 := (4, 0, 0)) [(0, 0)] 9 rfl ml_1233 ok_X11_finds vk_X11_finds ⟨by decide, rfl⟩ rfl ⟨rfl, Nat.le_of_ble_eq_true rfl⟩ (Nat.le_of_ble_eq_true rfl) ⟨by decide, rfl, rfl, rfl⟩ ?_
      refine h.mono (fun r zM6 h => ?_)
      obtain ⟨zr7, rfl, h⟩ := h
      simp only [Option.toList_some, Option.toList_none, List.cons_append, List.nil_append]
      exact i_ireturn 10 rfl rfl h
theorem u_X11_rowOf_0 {l : Launch} {E : xE} (a1 a2 a3 : Int) {M : xM} {Q : Option xV → xM → Prop} (h : x_Ev l E (3, 0, 0) m_X11_isRow 0 [(21, 103), (0, a1), (0, a2)] [] M (fun r zM1 => ∃ zr2, r = some (0, zr2) ∧ (zr2 = 0 → x_Ev l E (1, 0, 0) m_X11_finds 0 [(21, 103), (0, 0)] [] zM1 (fun r zM3 => ∃ zr4, r = some (0, zr4) ∧ Q (some (0, zr4)) zM3)) ∧ (¬ zr2 = 0 → x_Ev l E (1, 0, 0) m_X11_in 0 [(1, a3), (5, 0), (1, 0), (5, 0), (1, 3), (5, 0)] [] zM1 (fun r zM5 => ∃ zr6, r = some (0, zr6) ∧ (zr6 = 0 → x_Ev l E (1, 0, 0) m_X11_finds 0 [(21, 103), (0, 0)] [] zM5 (fun r zM7 => ∃ zr8, r = some (0, zr8) ∧ Q (some (0, zr8)) zM7)) ∧ (¬ zr6 = 0 → (3 ≤ a3 → (¬ a3 = 3 → ((0 : Int) ≤ a1 ∧ (a1 : Int) < 3) ∧ ((0 : Int) ≤ a2 ∧ (a2 : Int) < 4) ∧ ((0 : Int) ≤ a3 ∧ (a3 : Int) < 3) ∧ Q (some (0, (zM5 ((121 + 1 + 5 * a1) + 1 + 1 * a2) a3))) zM5) ∧ (a3 = 3 → ((0 : Int) ≤ a1 ∧ (a1 : Int) < 3) ∧ ((0 : Int) ≤ a2 ∧ (a2 : Int) < 4) ∧ Q (some (0, (zM5 (137 + 1 + 1 * a1) a2))) zM5)) ∧ (¬ 3 ≤ a3 → ((0 : Int) ≤ a1 ∧ (a1 : Int) < 3) ∧ (a3 < (zM5 106 a1) → ((0 : Int) ≤ a1 ∧ (a1 : Int) < 3) ∧ ((0 : Int) ≤ a2 ∧ (a2 : Int) < 4) ∧ ((0 : Int) ≤ a3 ∧ (a3 : Int) < 3) ∧ Q (some (0, (zM5 ((121 + 1 + 5 * a1) + 1 + 1 * a2) a3))) zM5) ∧ (¬ a3 < (zM5 106 a1) → x_Ev l E (1, 0, 0) m_X11_finds 0 [(21, 103), (0, 0)] [] zM5 (fun r zM9 => ∃ zr10, r = some (0, zr10) ∧ Q (some (0, zr10)) zM9)))))))) : x_Ev l E (4, 0, 0) m_X11_rowOf 0 [(21, 103), (0, a1), (0, a2), (0, a3)] [] M Q := by
  refine i_aload_n 0 rfl rfl (by decide) ?_
  refine i_iload_n 1 rfl rfl ?_
  refine i_iload_n 2 rfl rfl ?_
  refine i_callV (c := 11) (y1 := m_X11_isRow) (z1 := (3, 0, 0)) (z2 := (4, 0, 0)) [(0, a1), (0, a2)] 3 rfl ml_1372 ok_X11_isRow vk_X11_isRow ⟨by decide, rfl⟩ rfl ⟨rfl, Nat.le_of_ble_eq_true rfl⟩ (Nat.le_of_ble_eq_true rfl) ⟨by decide, rfl, rfl, rfl⟩ ?_
  refine h.mono (fun r zM1 h => ?_)
  obtain ⟨zr2, rfl, h⟩ := h
  simp only [Option.toList_some, Option.toList_none, List.cons_append, List.nil_append]
  refine i_if_eq 36 4 rfl (by decide) (fun c => ?_) (fun c => ?_)
  · replace h := h.1 c
    refine i_aload_n 20 rfl rfl (by decide) ?_
    refine i_iconst 21 rfl (by decide) ?_
    refine i_callV (c := 11) (y1 := m_X11_finds) (z1 := (1, 0, 0)) (z2 := (4, 0, 0)) [(0, 0)] 22 rfl ml_1233 ok_X11_finds vk_X11_finds ⟨by decide, rfl⟩ rfl ⟨rfl, Nat.le_of_ble_eq_true rfl⟩ (Nat.le_of_ble_eq_true rfl) ⟨by decide, rfl, rfl, rfl⟩ ?_
    refine h.mono (fun r zM3 h => ?_)
    obtain ⟨zr4, rfl, h⟩ := h
    simp only [Option.toList_some, Option.toList_none, List.cons_append, List.nil_append]
    exact i_ireturn 23 rfl rfl h
  · replace h := h.2 c
    refine i_iload_n 5 rfl rfl ?_
    refine i_i2l 6 rfl ?_
    refine i_lconst (w := 0) 7 rfl (by decide) ?_
    refine i_ldc2 (v := 3) 8 rfl cw_1232 (by decide) ?_
    refine i_callS (y1 := m_X11_in) (z1 := (1, 0, 0)) (z2 := (4, 0, 0)) [(1, a3), (1, 0), (1, 3)] 9 rfl ml_1229 ok_X11_in vk_X11_in rfl ⟨rfl, Nat.le_of_ble_eq_true rfl⟩ (Nat.le_of_ble_eq_true rfl) ⟨by decide, rfl, rfl, rfl⟩ ?_
    refine h.mono (fun r zM5 h => ?_)
    obtain ⟨zr6, rfl, h⟩ := h
    simp only [Option.toList_some, Option.toList_none, List.cons_append, List.nil_append]
    refine i_if_eq 36 10 rfl (by decide) (fun c => ?_) (fun c => ?_)
    · replace h := h.1 c
      refine i_aload_n 20 rfl rfl (by decide) ?_
      refine i_iconst 21 rfl (by decide) ?_
      refine i_callV (c := 11) (y1 := m_X11_finds) (z1 := (1, 0, 0)) (z2 := (4, 0, 0)) [(0, 0)] 22 rfl ml_1233 ok_X11_finds vk_X11_finds ⟨by decide, rfl⟩ rfl ⟨rfl, Nat.le_of_ble_eq_true rfl⟩ (Nat.le_of_ble_eq_true rfl) ⟨by decide, rfl, rfl, rfl⟩ ?_
      refine h.mono (fun r zM7 h => ?_)
      obtain ⟨zr8, rfl, h⟩ := h
      simp only [Option.toList_some, Option.toList_none, List.cons_append, List.nil_append]
      exact i_ireturn 23 rfl rfl h
    · replace h := h.2 c
      refine i_iload_n 11 rfl rfl ?_
      refine i_iconst 12 rfl (by decide) ?_
      refine i_icmp_ge 42 13 rfl (by decide) (fun c => ?_) (fun c => ?_)
      · replace h := h.1 c
        refine i_iload_n 24 rfl rfl ?_
        refine i_iconst 25 rfl (by decide) ?_
        refine i_icmp_ne 58 26 rfl (by decide) (fun c => ?_) (fun c => ?_)
        · replace h := h.1 c
          refine i_aload_n 34 rfl rfl (by decide) ?_
          refine i_getP (c := 11) (k := 6) (t := 123) (b := 121) 35 rfl fl_1055 (by decide) rfl (by decide) rfl ?_
          refine i_iload_n 36 rfl rfl ?_
          refine i_aald (τ := 23) (t := 122) (len := 3) (b := (121 + 1 + 5 * a1)) 37 rfl (by decide) rfl h.1.1 h.1.2 ?_
          replace h := h.2
          refine i_iload_n 38 rfl rfl ?_
          refine i_aald (τ := 22) (t := 114) (len := 4) (b := ((121 + 1 + 5 * a1) + 1 + 1 * a2)) 39 rfl (by decide) rfl h.1.1 h.1.2 ?_
          replace h := h.2
          refine i_iload_n 40 rfl rfl ?_
          refine i_iald (τ := 14) 41 rfl ⟨rfl, rfl, rfl, by decide⟩ h.1.1 h.1.2 ?_
          replace h := h.2
          exact i_ireturn 42 rfl rfl h
        · replace h := h.2 c
          refine i_aload_n 27 rfl rfl (by decide) ?_
          refine i_getP (c := 11) (k := 7) (t := 124) (b := 137) 28 rfl fl_1056 (by decide) rfl (by decide) rfl ?_
          refine i_iload_n 29 rfl rfl ?_
          refine i_aald (τ := 24) (t := 103) (len := 3) (b := (137 + 1 + 1 * a1)) 30 rfl (by decide) rfl h.1.1 h.1.2 ?_
          replace h := h.2
          refine i_iload_n 31 rfl rfl ?_
          refine i_iald (τ := 3) 32 rfl ⟨rfl, rfl, rfl, by decide⟩ h.1.1 h.1.2 ?_
          replace h := h.2
          refine i_goto 68 33 rfl (by decide) ?_
          exact i_ireturn 42 rfl rfl h
      · replace h := h.2 c
        refine i_iload_n 14 rfl rfl ?_
        refine i_aload_n 15 rfl rfl (by decide) ?_
        refine i_getP (c := 11) (k := 3) (t := 114) (b := 106) 16 rfl fl_1052 (by decide) rfl (by decide) rfl ?_
        refine i_iload_n 17 rfl rfl ?_
        refine i_iald (τ := 14) 18 rfl ⟨rfl, rfl, rfl, by decide⟩ h.1.1 h.1.2 ?_
        replace h := h.2
        refine i_icmp_lt 42 19 rfl (by decide) (fun c => ?_) (fun c => ?_)
        · replace h := h.1 c
          refine i_iload_n 24 rfl rfl ?_
          refine i_iconst 25 rfl (by decide) ?_
          refine i_icmp_ne 58 26 rfl (by decide) (fun c => ?_) (fun c => ?_)
          · refine i_aload_n 34 rfl rfl (by decide) ?_
            refine i_getP (c := 11) (k := 6) (t := 123) (b := 121) 35 rfl fl_1055 (by decide) rfl (by decide) rfl ?_
            refine i_iload_n 36 rfl rfl ?_
            refine i_aald (τ := 23) (t := 122) (len := 3) (b := (121 + 1 + 5 * a1)) 37 rfl (by decide) rfl h.1.1 h.1.2 ?_
            replace h := h.2
            refine i_iload_n 38 rfl rfl ?_
            refine i_aald (τ := 22) (t := 114) (len := 4) (b := ((121 + 1 + 5 * a1) + 1 + 1 * a2)) 39 rfl (by decide) rfl h.1.1 h.1.2 ?_
            replace h := h.2
            refine i_iload_n 40 rfl rfl ?_
            refine i_iald (τ := 14) 41 rfl ⟨rfl, rfl, rfl, by decide⟩ h.1.1 h.1.2 ?_
            replace h := h.2
            exact i_ireturn 42 rfl rfl h
          · exact absurd c (by omega)
        · replace h := h.2 c
          refine i_aload_n 20 rfl rfl (by decide) ?_
          refine i_iconst 21 rfl (by decide) ?_
          refine i_callV (c := 11) (y1 := m_X11_finds) (z1 := (1, 0, 0)) (z2 := (4, 0, 0)) [(0, 0)] 22 rfl ml_1233 ok_X11_finds vk_X11_finds ⟨by decide, rfl⟩ rfl ⟨rfl, Nat.le_of_ble_eq_true rfl⟩ (Nat.le_of_ble_eq_true rfl) ⟨by decide, rfl, rfl, rfl⟩ ?_
          refine h.mono (fun r zM9 h => ?_)
          obtain ⟨zr10, rfl, h⟩ := h
          simp only [Option.toList_some, Option.toList_none, List.cons_append, List.nil_append]
          exact i_ireturn 23 rfl rfl h
theorem u_X11_most_0 {l : Launch} {E : xE} (a1 : Int) {M : xM} {Q : Option xV → xM → Prop} (h : x_Ev l E (1, 0, 0) m_X11_in 0 [(1, a1), (5, 0), (1, 1), (5, 0), (1, 40), (5, 0)] [] M (fun r zM1 => ∃ zr2, r = some (0, zr2) ∧ (¬ zr2 = 0 → ((zM1 103 9) ≤ (x_W (a1 * (zM1 103 10))) → ∀ zv3 : Int, zv3 = (zM1 103 8) → ∀ zM4 : xM, zM4 = x_wr zM1 103 8 a1 → Q (some (0, zv3)) zM4) ∧ (¬ (zM1 103 9) ≤ (x_W (a1 * (zM1 103 10))) → x_Ev l E (1, 0, 0) m_X11_finds 0 [(21, 103), (0, 4)] [] zM1 (fun r zM5 => ∃ zr6, r = some (0, zr6) ∧ Q (some (0, zr6)) zM5))) ∧ (zr2 = 0 → x_Ev l E (1, 0, 0) m_X11_finds 0 [(21, 103), (0, 0)] [] zM1 (fun r zM7 => ∃ zr8, r = some (0, zr8) ∧ Q (some (0, zr8)) zM7)))) : x_Ev l E (2, 0, 0) m_X11_most 0 [(21, 103), (0, a1), (5, 0)] [] M Q := by
  refine i_iload_n 0 rfl rfl ?_
  refine i_i2l 1 rfl ?_
  refine i_lconst (w := 1) 2 rfl (by decide) ?_
  refine i_ldc2 (v := 40) 3 rfl cw_1388 (by decide) ?_
  refine i_callS (y1 := m_X11_in) (z1 := (1, 0, 0)) (z2 := (2, 0, 0)) [(1, a1), (1, 1), (1, 40)] 4 rfl ml_1229 ok_X11_in vk_X11_in rfl ⟨rfl, Nat.le_of_ble_eq_true rfl⟩ (Nat.le_of_ble_eq_true rfl) ⟨by decide, rfl, rfl, rfl⟩ ?_
  refine h.mono (fun r zM1 h => ?_)
  obtain ⟨zr2, rfl, h⟩ := h
  simp only [Option.toList_some, Option.toList_none, List.cons_append, List.nil_append]
  refine i_if_ne 18 5 rfl (by decide) (fun c => ?_) (fun c => ?_)
  · replace h := h.1 c
    refine i_aload_n 10 rfl rfl (by decide) ?_
    refine i_getL (c := 11) (k := 9) 11 rfl fl_1058 (by decide) rfl ?_
    refine i_iload_n 12 rfl rfl ?_
    refine i_i2l 13 rfl ?_
    refine i_aload_n 14 rfl rfl (by decide) ?_
    refine i_getL (c := 11) (k := 10) 15 rfl fl_1059 (by decide) rfl ?_
    refine i_lmul 16 rfl ?_
    refine i_lcmp_le 39 17 rfl rfl (by decide) (fun c => ?_) (fun c => ?_)
    · replace h := h.1 c
      refine i_aload_n 23 rfl rfl (by decide) ?_
      refine i_getI (c := 11) (k := 8) 24 rfl fl_1057 (by decide) (by decide) ?_
      replace h := h _ rfl
      refine i_istore_n 25 rfl (by decide) rfl ?_
      refine i_aload_n 26 rfl rfl (by decide) ?_
      refine i_iload_n 27 rfl rfl ?_
      replace h := h _ rfl
      refine i_putI (c := 11) (k := 8) 28 rfl fl_1057 (by decide) ⟨rfl, rfl, rfl⟩ ?_
      refine i_iload_n 29 rfl rfl ?_
      exact i_ireturn 30 rfl rfl h
    · replace h := h.2 c
      refine i_aload_n 19 rfl rfl (by decide) ?_
      refine i_iconst 20 rfl (by decide) ?_
      refine i_callV (c := 11) (y1 := m_X11_finds) (z1 := (1, 0, 0)) (z2 := (2, 0, 0)) [(0, 4)] 21 rfl ml_1233 ok_X11_finds vk_X11_finds ⟨by decide, rfl⟩ rfl ⟨rfl, Nat.le_of_ble_eq_true rfl⟩ (Nat.le_of_ble_eq_true rfl) ⟨by decide, rfl, rfl, rfl⟩ ?_
      refine h.mono (fun r zM5 h => ?_)
      obtain ⟨zr6, rfl, h⟩ := h
      simp only [Option.toList_some, Option.toList_none, List.cons_append, List.nil_append]
      exact i_ireturn 22 rfl rfl h
  · replace h := h.2 c
    refine i_aload_n 6 rfl rfl (by decide) ?_
    refine i_iconst 7 rfl (by decide) ?_
    refine i_callV (c := 11) (y1 := m_X11_finds) (z1 := (1, 0, 0)) (z2 := (2, 0, 0)) [(0, 0)] 8 rfl ml_1233 ok_X11_finds vk_X11_finds ⟨by decide, rfl⟩ rfl ⟨rfl, Nat.le_of_ble_eq_true rfl⟩ (Nat.le_of_ble_eq_true rfl) ⟨by decide, rfl, rfl, rfl⟩ ?_
    refine h.mono (fun r zM7 h => ?_)
    obtain ⟨zr8, rfl, h⟩ := h
    simp only [Option.toList_some, Option.toList_none, List.cons_append, List.nil_append]
    exact i_ireturn 9 rfl rfl h
theorem u_X11_term_0 {l : Launch} {E : xE} (a1 a2 : Int) {M : xM} {Q : Option xV → xM → Prop} (h : x_Ev l E (1, 0, 0) m_X11_in 0 [(1, a2), (5, 0), (1, 1), (5, 0), (1, 2000000), (5, 0)] [] M (fun r zM1 => ∃ zr2, r = some (0, zr2) ∧ (zr2 = 0 → x_Ev l E (1, 0, 0) m_X11_finds 0 [(21, 103), (0, 0)] [] zM1 (fun r zM3 => ∃ zr4, r = some (0, zr4) ∧ Q (some (0, zr4)) zM3)) ∧ (¬ zr2 = 0 → (a1 < 0 → x_Ev l E (1, 0, 0) m_X11_finds 0 [(21, 103), (0, 0)] [] zM1 (fun r zM5 => ∃ zr6, r = some (0, zr6) ∧ Q (some (0, zr6)) zM5)) ∧ (¬ a1 < 0 → (a1 ≤ (x_W ((zM1 103 8) * a2)) → x_Ev l E (2, 0, 0) m_X11_part 0 [(1, a1), (5, 0), (1, a2), (5, 0), (0, 0), (5, 0), (5, 0)] [] zM1 (fun r zM7 => ∃ zr8, r = some (1, zr8) ∧ ∀ zM9 : xM, zM9 = x_wr zM7 103 9 zr8 → x_Ev l E (2, 0, 0) m_X11_part 0 [(1, a1), (5, 0), (1, a2), (5, 0), (0, 1), (5, 0), (5, 0)] [] zM9 (fun r zM10 => ∃ zr11, r = some (1, zr11) ∧ ∀ zM12 : xM, zM12 = x_wr zM10 103 10 zr11 → Q (some (0, 1)) zM12))) ∧ (¬ a1 ≤ (x_W ((zM1 103 8) * a2)) → x_Ev l E (1, 0, 0) m_X11_finds 0 [(21, 103), (0, 0)] [] zM1 (fun r zM13 => ∃ zr14, r = some (0, zr14) ∧ Q (some (0, zr14)) zM13)))))) : x_Ev l E (3, 0, 0) m_X11_term 0 [(21, 103), (1, a1), (5, 0), (1, a2), (5, 0)] [] M Q := by
  refine i_lload_n 0 rfl rfl ?_
  refine i_lconst (w := 1) 1 rfl (by decide) ?_
  refine i_ldc2 (v := 2000000) 2 rfl cw_1393 (by decide) ?_
  refine i_callS (y1 := m_X11_in) (z1 := (1, 0, 0)) (z2 := (3, 0, 0)) [(1, a2), (1, 1), (1, 2000000)] 3 rfl ml_1229 ok_X11_in vk_X11_in rfl ⟨rfl, Nat.le_of_ble_eq_true rfl⟩ (Nat.le_of_ble_eq_true rfl) ⟨by decide, rfl, rfl, rfl⟩ ?_
  refine h.mono (fun r zM1 h => ?_)
  obtain ⟨zr2, rfl, h⟩ := h
  simp only [Option.toList_some, Option.toList_none, List.cons_append, List.nil_append]
  refine i_if_eq 29 4 rfl (by decide) (fun c => ?_) (fun c => ?_)
  · replace h := h.1 c
    refine i_aload_n 17 rfl rfl (by decide) ?_
    refine i_iconst 18 rfl (by decide) ?_
    refine i_callV (c := 11) (y1 := m_X11_finds) (z1 := (1, 0, 0)) (z2 := (3, 0, 0)) [(0, 0)] 19 rfl ml_1233 ok_X11_finds vk_X11_finds ⟨by decide, rfl⟩ rfl ⟨rfl, Nat.le_of_ble_eq_true rfl⟩ (Nat.le_of_ble_eq_true rfl) ⟨by decide, rfl, rfl, rfl⟩ ?_
    refine h.mono (fun r zM3 h => ?_)
    obtain ⟨zr4, rfl, h⟩ := h
    simp only [Option.toList_some, Option.toList_none, List.cons_append, List.nil_append]
    exact i_ireturn 20 rfl rfl h
  · replace h := h.2 c
    refine i_lload_n 5 rfl rfl ?_
    refine i_lconst (w := 0) 6 rfl (by decide) ?_
    refine i_lcmp_lt 29 7 rfl rfl (by decide) (fun c => ?_) (fun c => ?_)
    · replace h := h.1 c
      refine i_aload_n 17 rfl rfl (by decide) ?_
      refine i_iconst 18 rfl (by decide) ?_
      refine i_callV (c := 11) (y1 := m_X11_finds) (z1 := (1, 0, 0)) (z2 := (3, 0, 0)) [(0, 0)] 19 rfl ml_1233 ok_X11_finds vk_X11_finds ⟨by decide, rfl⟩ rfl ⟨rfl, Nat.le_of_ble_eq_true rfl⟩ (Nat.le_of_ble_eq_true rfl) ⟨by decide, rfl, rfl, rfl⟩ ?_
      refine h.mono (fun r zM5 h => ?_)
      obtain ⟨zr6, rfl, h⟩ := h
      simp only [Option.toList_some, Option.toList_none, List.cons_append, List.nil_append]
      exact i_ireturn 20 rfl rfl h
    · replace h := h.2 c
      refine i_lload_n 9 rfl rfl ?_
      refine i_aload_n 10 rfl rfl (by decide) ?_
      refine i_getI (c := 11) (k := 8) 11 rfl fl_1057 (by decide) (by decide) ?_
      refine i_i2l 12 rfl ?_
      refine i_lload_n 13 rfl rfl ?_
      refine i_lmul 14 rfl ?_
      refine i_lcmp_le 35 15 rfl rfl (by decide) (fun c => ?_) (fun c => ?_)
      · replace h := h.1 c
        refine i_aload_n 21 rfl rfl (by decide) ?_
        refine i_lload_n 22 rfl rfl ?_
        refine i_lload_n 23 rfl rfl ?_
        refine i_iconst 24 rfl (by decide) ?_
        refine i_callS (y1 := m_X11_part) (z1 := (2, 0, 0)) (z2 := (3, 0, 0)) [(1, a1), (1, a2), (0, 0)] 25 rfl ml_1394 ok_X11_part vk_X11_part rfl ⟨rfl, Nat.le_of_ble_eq_true rfl⟩ (Nat.le_of_ble_eq_true rfl) ⟨by decide, rfl, rfl, rfl⟩ ?_
        refine h.mono (fun r zM7 h => ?_)
        obtain ⟨zr8, rfl, h⟩ := h
        simp only [Option.toList_some, Option.toList_none, List.cons_append, List.nil_append]
        replace h := h _ rfl
        refine i_putL (c := 11) (k := 9) 26 rfl fl_1058 (by decide) ⟨rfl, rfl, rfl⟩ ?_
        refine i_aload_n 27 rfl rfl (by decide) ?_
        refine i_lload_n 28 rfl rfl ?_
        refine i_lload_n 29 rfl rfl ?_
        refine i_iconst 30 rfl (by decide) ?_
        refine i_callS (y1 := m_X11_part) (z1 := (2, 0, 0)) (z2 := (3, 0, 0)) [(1, a1), (1, a2), (0, 1)] 31 rfl ml_1394 ok_X11_part vk_X11_part rfl ⟨rfl, Nat.le_of_ble_eq_true rfl⟩ (Nat.le_of_ble_eq_true rfl) ⟨by decide, rfl, rfl, rfl⟩ ?_
        refine h.mono (fun r zM10 h => ?_)
        obtain ⟨zr11, rfl, h⟩ := h
        simp only [Option.toList_some, Option.toList_none, List.cons_append, List.nil_append]
        replace h := h _ rfl
        refine i_putL (c := 11) (k := 10) 32 rfl fl_1059 (by decide) ⟨rfl, rfl, rfl⟩ ?_
        refine i_iconst 33 rfl (by decide) ?_
        exact i_ireturn 34 rfl rfl h
      · replace h := h.2 c
        refine i_aload_n 17 rfl rfl (by decide) ?_
        refine i_iconst 18 rfl (by decide) ?_
        refine i_callV (c := 11) (y1 := m_X11_finds) (z1 := (1, 0, 0)) (z2 := (3, 0, 0)) [(0, 0)] 19 rfl ml_1233 ok_X11_finds vk_X11_finds ⟨by decide, rfl⟩ rfl ⟨rfl, Nat.le_of_ble_eq_true rfl⟩ (Nat.le_of_ble_eq_true rfl) ⟨by decide, rfl, rfl, rfl⟩ ?_
        refine h.mono (fun r zM13 h => ?_)
        obtain ⟨zr14, rfl, h⟩ := h
        simp only [Option.toList_some, Option.toList_none, List.cons_append, List.nil_append]
        exact i_ireturn 20 rfl rfl h
theorem u_X11_termOf_0 {l : Launch} {E : xE} (a1 : Int) {M : xM} {Q : Option xV → xM → Prop} (h : x_Ev l E (2, 0, 0) m_X11_isPart 0 [(0, a1)] [] M (fun r zM1 => ∃ zr2, r = some (0, zr2) ∧ (zr2 = 0 → x_Ev l E (1, 0, 0) m_X11_findsLong 0 [(21, 103), (0, 0)] [] zM1 (fun r zM3 => ∃ zr4, r = some (1, zr4) ∧ Q (some (1, zr4)) zM3)) ∧ (¬ zr2 = 0 → (¬ a1 = 0 → Q (some (1, (zM1 103 10))) zM1) ∧ (a1 = 0 → Q (some (1, (zM1 103 9))) zM1)))) : x_Ev l E (3, 0, 0) m_X11_termOf 0 [(21, 103), (0, a1)] [] M Q := by
  refine i_iload_n 0 rfl rfl ?_
  refine i_callS (y1 := m_X11_isPart) (z1 := (2, 0, 0)) (z2 := (3, 0, 0)) [(0, a1)] 1 rfl ml_1404 ok_X11_isPart vk_X11_isPart rfl ⟨rfl, Nat.le_of_ble_eq_true rfl⟩ (Nat.le_of_ble_eq_true rfl) ⟨by decide, rfl, rfl, rfl⟩ ?_
  refine h.mono (fun r zM1 h => ?_)
  obtain ⟨zr2, rfl, h⟩ := h
  simp only [Option.toList_some, Option.toList_none, List.cons_append, List.nil_append]
  refine i_if_eq 25 2 rfl (by decide) (fun c => ?_) (fun c => ?_)
  · replace h := h.1 c
    refine i_aload_n 11 rfl rfl (by decide) ?_
    refine i_iconst 12 rfl (by decide) ?_
    refine i_callV (c := 11) (y1 := m_X11_findsLong) (z1 := (1, 0, 0)) (z2 := (3, 0, 0)) [(0, 0)] 13 rfl ml_1407 ok_X11_findsLong vk_X11_findsLong ⟨by decide, rfl⟩ rfl ⟨rfl, Nat.le_of_ble_eq_true rfl⟩ (Nat.le_of_ble_eq_true rfl) ⟨by decide, rfl, rfl, rfl⟩ ?_
    refine h.mono (fun r zM3 h => ?_)
    obtain ⟨zr4, rfl, h⟩ := h
    simp only [Option.toList_some, Option.toList_none, List.cons_append, List.nil_append]
    exact i_lreturn 14 rfl rfl h
  · replace h := h.2 c
    refine i_iload_n 3 rfl rfl ?_
    refine i_if_ne 18 4 rfl (by decide) (fun c => ?_) (fun c => ?_)
    · replace h := h.1 c
      refine i_aload_n 8 rfl rfl (by decide) ?_
      refine i_getL (c := 11) (k := 10) 9 rfl fl_1059 (by decide) rfl ?_
      refine i_goto 30 10 rfl (by decide) ?_
      exact i_lreturn 14 rfl rfl h
    · replace h := h.2 c
      refine i_aload_n 5 rfl rfl (by decide) ?_
      refine i_getL (c := 11) (k := 9) 6 rfl fl_1058 (by decide) rfl ?_
      refine i_goto 30 7 rfl (by decide) ?_
      exact i_lreturn 14 rfl rfl h
theorem u_X11_amount_0 {l : Launch} {E : xE} (a1 a2 a3 a4 : Int) {M : xM} {Q : Option xV → xM → Prop} (h : x_Ev l E (3, 0, 0) m_X11_isGood 0 [(21, 103), (0, a1), (0, a3)] [] M (fun r zM1 => ∃ zr2, r = some (0, zr2) ∧ (zr2 = 0 → x_Ev l E (1, 0, 0) m_X11_findsLong 0 [(21, 103), (0, 0)] [] zM1 (fun r zM3 => ∃ zr4, r = some (1, zr4) ∧ Q (some (1, zr4)) zM3)) ∧ (¬ zr2 = 0 → x_Ev l E (2, 0, 0) m_X11_isPart 0 [(0, a4)] [] zM1 (fun r zM5 => ∃ zr6, r = some (0, zr6) ∧ (¬ zr6 = 0 → x_Ev l E (9, 0, 0) m_X11_plans 0 [(21, 103), (0, a1), (5, 0), (5, 0), (5, 0)] [] zM5 (fun r zM7 => r = none ∧ ((0 : Int) ≤ a1 ∧ (a1 : Int) < 3) ∧ x_Ev l E (1, 0, 0) m_X11_in 0 [(1, a2), (5, 0), (1, 0), (5, 0), (1, (x_w ((zM7 149 a1) - 1))), (5, 0)] [] zM7 (fun r zM8 => ∃ zr9, r = some (0, zr9) ∧ (¬ zr9 = 0 → ((0 : Int) ≤ a1 ∧ (a1 : Int) < 3) ∧ ((0 : Int) ≤ a2 ∧ (a2 : Int) < 40) ∧ ((0 : Int) ≤ a3 ∧ (a3 : Int) < 3) ∧ ((0 : Int) ≤ a1 ∧ (a1 : Int) < 3) ∧ ((0 : Int) ≤ a2 ∧ (a2 : Int) < 40) ∧ x_Ev l E (2, 0, 0) m_X11_part 0 [(1, (zM8 ((150 + 1 + 41 * a1) + 1 + 1 * a2) a3)), (5, 0), (1, (zM8 (274 + 1 + 1 * a1) a2)), (5, 0), (0, a4), (5, 0), (5, 0)] [] zM8 (fun r zM10 => ∃ zr11, r = some (1, zr11) ∧ Q (some (1, zr11)) zM10)) ∧ (zr9 = 0 → x_Ev l E (1, 0, 0) m_X11_findsLong 0 [(21, 103), (0, 0)] [] zM8 (fun r zM12 => ∃ zr13, r = some (1, zr13) ∧ Q (some (1, zr13)) zM12))))) ∧ (zr6 = 0 → x_Ev l E (1, 0, 0) m_X11_findsLong 0 [(21, 103), (0, 0)] [] zM5 (fun r zM14 => ∃ zr15, r = some (1, zr15) ∧ Q (some (1, zr15)) zM14)))))) : x_Ev l E (10, 0, 0) m_X11_amount 0 [(21, 103), (0, a1), (0, a2), (0, a3), (0, a4)] [] M Q := by
  refine i_aload_n 0 rfl rfl (by decide) ?_
  refine i_iload_n 1 rfl rfl ?_
  refine i_iload_n 2 rfl rfl ?_
  refine i_callV (c := 11) (y1 := m_X11_isGood) (z1 := (3, 0, 0)) (z2 := (10, 0, 0)) [(0, a1), (0, a3)] 3 rfl ml_1339 ok_X11_isGood vk_X11_isGood ⟨by decide, rfl⟩ rfl ⟨rfl, Nat.le_of_ble_eq_true rfl⟩ (Nat.le_of_ble_eq_true rfl) ⟨by decide, rfl, rfl, rfl⟩ ?_
  refine h.mono (fun r zM1 h => ?_)
  obtain ⟨zr2, rfl, h⟩ := h
  simp only [Option.toList_some, Option.toList_none, List.cons_append, List.nil_append]
  refine i_if_eq 17 4 rfl (by decide) (fun c => ?_) (fun c => ?_)
  · replace h := h.1 c
    refine i_aload_n 8 rfl rfl (by decide) ?_
    refine i_iconst 9 rfl (by decide) ?_
    refine i_callV (c := 11) (y1 := m_X11_findsLong) (z1 := (1, 0, 0)) (z2 := (10, 0, 0)) [(0, 0)] 10 rfl ml_1407 ok_X11_findsLong vk_X11_findsLong ⟨by decide, rfl⟩ rfl ⟨rfl, Nat.le_of_ble_eq_true rfl⟩ (Nat.le_of_ble_eq_true rfl) ⟨by decide, rfl, rfl, rfl⟩ ?_
    refine h.mono (fun r zM3 h => ?_)
    obtain ⟨zr4, rfl, h⟩ := h
    simp only [Option.toList_some, Option.toList_none, List.cons_append, List.nil_append]
    exact i_lreturn 11 rfl rfl h
  · replace h := h.2 c
    refine i_iload 5 rfl rfl ?_
    refine i_callS (y1 := m_X11_isPart) (z1 := (2, 0, 0)) (z2 := (10, 0, 0)) [(0, a4)] 6 rfl ml_1404 ok_X11_isPart vk_X11_isPart rfl ⟨rfl, Nat.le_of_ble_eq_true rfl⟩ (Nat.le_of_ble_eq_true rfl) ⟨by decide, rfl, rfl, rfl⟩ ?_
    refine h.mono (fun r zM5 h => ?_)
    obtain ⟨zr6, rfl, h⟩ := h
    simp only [Option.toList_some, Option.toList_none, List.cons_append, List.nil_append]
    refine i_if_ne 23 7 rfl (by decide) (fun c => ?_) (fun c => ?_)
    · replace h := h.1 c
      refine i_aload_n 12 rfl rfl (by decide) ?_
      refine i_iload_n 13 rfl rfl ?_
      refine i_callV (c := 11) (y1 := m_X11_plans) (z1 := (9, 0, 0)) (z2 := (10, 0, 0)) [(0, a1)] 14 rfl ml_1251 ok_X11_plans vk_X11_plans ⟨by decide, rfl⟩ rfl ⟨rfl, Nat.le_of_ble_eq_true rfl⟩ (Nat.le_of_ble_eq_true rfl) ⟨by decide, rfl, rfl, rfl⟩ ?_
      refine h.mono (fun r zM7 h => ?_)
      obtain ⟨rfl, h⟩ := h
      simp only [Option.toList_some, Option.toList_none, List.cons_append, List.nil_append]
      refine i_iload_n 15 rfl rfl ?_
      refine i_i2l 16 rfl ?_
      refine i_lconst (w := 0) 17 rfl (by decide) ?_
      refine i_aload_n 18 rfl rfl (by decide) ?_
      refine i_getP (c := 11) (k := 21) (t := 114) (b := 149) 19 rfl fl_1070 (by decide) rfl (by decide) rfl ?_
      refine i_iload_n 20 rfl rfl ?_
      refine i_iald (τ := 14) 21 rfl ⟨rfl, rfl, rfl, by decide⟩ h.1.1 h.1.2 ?_
      replace h := h.2
      refine i_iconst 22 rfl (by decide) ?_
      refine i_isub 23 rfl ?_
      refine i_i2l 24 rfl ?_
      refine i_callS (y1 := m_X11_in) (z1 := (1, 0, 0)) (z2 := (10, 0, 0)) [(1, a2), (1, 0), (1, (x_w ((zM7 149 a1) - 1)))] 25 rfl ml_1229 ok_X11_in vk_X11_in rfl ⟨rfl, Nat.le_of_ble_eq_true rfl⟩ (Nat.le_of_ble_eq_true rfl) ⟨by decide, rfl, rfl, rfl⟩ ?_
      refine h.mono (fun r zM8 h => ?_)
      obtain ⟨zr9, rfl, h⟩ := h
      simp only [Option.toList_some, Option.toList_none, List.cons_append, List.nil_append]
      refine i_if_ne 52 26 rfl (by decide) (fun c => ?_) (fun c => ?_)
      · replace h := h.1 c
        refine i_aload_n 31 rfl rfl (by decide) ?_
        refine i_getP (c := 11) (k := 22) (t := 128) (b := 150) 32 rfl fl_1071 (by decide) rfl (by decide) rfl ?_
        refine i_iload_n 33 rfl rfl ?_
        refine i_aald (τ := 28) (t := 127) (len := 3) (b := (150 + 1 + 41 * a1)) 34 rfl (by decide) rfl h.1.1 h.1.2 ?_
        replace h := h.2
        refine i_iload_n 35 rfl rfl ?_
        refine i_aald (τ := 27) (t := 105) (len := 40) (b := ((150 + 1 + 41 * a1) + 1 + 1 * a2)) 36 rfl (by decide) rfl h.1.1 h.1.2 ?_
        replace h := h.2
        refine i_iload_n 37 rfl rfl ?_
        refine i_lald (τ := 5) 38 rfl ⟨rfl, rfl, rfl, by decide⟩ h.1.1 h.1.2 ?_
        replace h := h.2
        refine i_aload_n 39 rfl rfl (by decide) ?_
        refine i_getP (c := 11) (k := 23) (t := 130) (b := 274) 40 rfl fl_1072 (by decide) rfl (by decide) rfl ?_
        refine i_iload_n 41 rfl rfl ?_
        refine i_aald (τ := 30) (t := 129) (len := 3) (b := (274 + 1 + 1 * a1)) 42 rfl (by decide) rfl h.1.1 h.1.2 ?_
        replace h := h.2
        refine i_iload_n 43 rfl rfl ?_
        refine i_lald (τ := 29) 44 rfl ⟨rfl, rfl, rfl, by decide⟩ h.1.1 h.1.2 ?_
        replace h := h.2
        refine i_iload 45 rfl rfl ?_
        refine i_callS (y1 := m_X11_part) (z1 := (2, 0, 0)) (z2 := (10, 0, 0)) [(1, (zM8 ((150 + 1 + 41 * a1) + 1 + 1 * a2) a3)), (1, (zM8 (274 + 1 + 1 * a1) a2)), (0, a4)] 46 rfl ml_1394 ok_X11_part vk_X11_part rfl ⟨rfl, Nat.le_of_ble_eq_true rfl⟩ (Nat.le_of_ble_eq_true rfl) ⟨by decide, rfl, rfl, rfl⟩ ?_
        refine h.mono (fun r zM10 h => ?_)
        obtain ⟨zr11, rfl, h⟩ := h
        simp only [Option.toList_some, Option.toList_none, List.cons_append, List.nil_append]
        exact i_lreturn 47 rfl rfl h
      · replace h := h.2 c
        refine i_aload_n 27 rfl rfl (by decide) ?_
        refine i_iconst 28 rfl (by decide) ?_
        refine i_callV (c := 11) (y1 := m_X11_findsLong) (z1 := (1, 0, 0)) (z2 := (10, 0, 0)) [(0, 0)] 29 rfl ml_1407 ok_X11_findsLong vk_X11_findsLong ⟨by decide, rfl⟩ rfl ⟨rfl, Nat.le_of_ble_eq_true rfl⟩ (Nat.le_of_ble_eq_true rfl) ⟨by decide, rfl, rfl, rfl⟩ ?_
        refine h.mono (fun r zM12 h => ?_)
        obtain ⟨zr13, rfl, h⟩ := h
        simp only [Option.toList_some, Option.toList_none, List.cons_append, List.nil_append]
        exact i_lreturn 30 rfl rfl h
    · replace h := h.2 c
      refine i_aload_n 8 rfl rfl (by decide) ?_
      refine i_iconst 9 rfl (by decide) ?_
      refine i_callV (c := 11) (y1 := m_X11_findsLong) (z1 := (1, 0, 0)) (z2 := (10, 0, 0)) [(0, 0)] 10 rfl ml_1407 ok_X11_findsLong vk_X11_findsLong ⟨by decide, rfl⟩ rfl ⟨rfl, Nat.le_of_ble_eq_true rfl⟩ (Nat.le_of_ble_eq_true rfl) ⟨by decide, rfl, rfl, rfl⟩ ?_
      refine h.mono (fun r zM14 h => ?_)
      obtain ⟨zr15, rfl, h⟩ := h
      simp only [Option.toList_some, Option.toList_none, List.cons_append, List.nil_append]
      exact i_lreturn 11 rfl rfl h
theorem u_X11_brings_0 {l : Launch} {E : xE} (a1 a2 a3 a4 : Int) {M : xM} {Q : Option xV → xM → Prop} (h : x_Ev l E (2, 0, 0) m_X11_isFollower 0 [(21, 103), (0, a1)] [] M (fun r zM1 => ∃ zr2, r = some (0, zr2) ∧ (zr2 = 0 → x_Ev l E (1, 0, 0) m_X11_findsLong 0 [(21, 103), (0, 0)] [] zM1 (fun r zM3 => ∃ zr4, r = some (1, zr4) ∧ Q (some (1, zr4)) zM3)) ∧ (¬ zr2 = 0 → x_Ev l E (1, 0, 0) m_X11_in 0 [(1, a3), (5, 0), (1, 0), (5, 0), (1, 1), (5, 0)] [] zM1 (fun r zM5 => ∃ zr6, r = some (0, zr6) ∧ (zr6 = 0 → x_Ev l E (1, 0, 0) m_X11_findsLong 0 [(21, 103), (0, 0)] [] zM5 (fun r zM7 => ∃ zr8, r = some (1, zr8) ∧ Q (some (1, zr8)) zM7)) ∧ (¬ zr6 = 0 → x_Ev l E (2, 0, 0) m_X11_isPart 0 [(0, a4)] [] zM5 (fun r zM9 => ∃ zr10, r = some (0, zr10) ∧ (¬ zr10 = 0 → x_Ev l E (9, 0, 0) m_X11_plans 0 [(21, 103), (0, a1), (5, 0), (5, 0), (5, 0)] [] zM9 (fun r zM11 => r = none ∧ ((0 : Int) ≤ a1 ∧ (a1 : Int) < 3) ∧ x_Ev l E (1, 0, 0) m_X11_in 0 [(1, a2), (5, 0), (1, (-1)), (5, 0), (1, (x_w ((zM11 149 a1) - 1))), (5, 0)] [] zM11 (fun r zM12 => ∃ zr13, r = some (0, zr13) ∧ (¬ zr13 = 0 → (0 ≤ a2 → (¬ a3 = 0 → x_Ev l E (2, 0, 0) m_X11_gain 0 [(21, 103), (0, a1), (0, a2), (1, (zM12 103 9)), (5, 0), (1, (zM12 103 10)), (5, 0)] [] zM12 (fun r zM14 => ∃ zr15, r = some (1, zr15) ∧ ((0 : Int) ≤ a1 ∧ (a1 : Int) < 3) ∧ ((0 : Int) ≤ a2 ∧ (a2 : Int) < 40) ∧ x_Ev l E (2, 0, 0) m_X11_part 0 [(1, zr15), (5, 0), (1, (x_W ((zM14 (274 + 1 + 1 * a1) a2) * (zM14 103 10)))), (5, 0), (0, a4), (5, 0), (5, 0)] [] zM14 (fun r zM16 => ∃ zr17, r = some (1, zr17) ∧ Q (some (1, zr17)) zM16))) ∧ (a3 = 0 → x_Ev l E (2, 0, 0) m_X11_net 0 [(21, 103), (0, a1), (0, a2), (1, (zM12 103 9)), (5, 0), (1, (zM12 103 10)), (5, 0)] [] zM12 (fun r zM18 => ∃ zr19, r = some (1, zr19) ∧ ((0 : Int) ≤ a1 ∧ (a1 : Int) < 3) ∧ ((0 : Int) ≤ a2 ∧ (a2 : Int) < 40) ∧ x_Ev l E (2, 0, 0) m_X11_part 0 [(1, zr19), (5, 0), (1, (x_W ((zM18 (274 + 1 + 1 * a1) a2) * (zM18 103 10)))), (5, 0), (0, a4), (5, 0), (5, 0)] [] zM18 (fun r zM20 => ∃ zr21, r = some (1, zr21) ∧ Q (some (1, zr21)) zM20)))) ∧ (¬ 0 ≤ a2 → x_Ev l E (4, 0, 0) m_X11_answer 0 [(21, 103), (0, a1), (1, (zM12 103 9)), (5, 0), (1, (zM12 103 10)), (5, 0)] [] zM12 (fun r zM22 => ∃ zr23, r = some (0, zr23) ∧ (¬ a3 = 0 → x_Ev l E (2, 0, 0) m_X11_gain 0 [(21, 103), (0, a1), (0, zr23), (1, (zM22 103 9)), (5, 0), (1, (zM22 103 10)), (5, 0)] [] zM22 (fun r zM24 => ∃ zr25, r = some (1, zr25) ∧ ((0 : Int) ≤ a1 ∧ (a1 : Int) < 3) ∧ ((0 : Int) ≤ zr23 ∧ (zr23 : Int) < 40) ∧ x_Ev l E (2, 0, 0) m_X11_part 0 [(1, zr25), (5, 0), (1, (x_W ((zM24 (274 + 1 + 1 * a1) zr23) * (zM24 103 10)))), (5, 0), (0, a4), (5, 0), (5, 0)] [] zM24 (fun r zM26 => ∃ zr27, r = some (1, zr27) ∧ Q (some (1, zr27)) zM26))) ∧ (a3 = 0 → x_Ev l E (2, 0, 0) m_X11_net 0 [(21, 103), (0, a1), (0, zr23), (1, (zM22 103 9)), (5, 0), (1, (zM22 103 10)), (5, 0)] [] zM22 (fun r zM28 => ∃ zr29, r = some (1, zr29) ∧ ((0 : Int) ≤ a1 ∧ (a1 : Int) < 3) ∧ ((0 : Int) ≤ zr23 ∧ (zr23 : Int) < 40) ∧ x_Ev l E (2, 0, 0) m_X11_part 0 [(1, zr29), (5, 0), (1, (x_W ((zM28 (274 + 1 + 1 * a1) zr23) * (zM28 103 10)))), (5, 0), (0, a4), (5, 0), (5, 0)] [] zM28 (fun r zM30 => ∃ zr31, r = some (1, zr31) ∧ Q (some (1, zr31)) zM30)))))) ∧ (zr13 = 0 → x_Ev l E (1, 0, 0) m_X11_findsLong 0 [(21, 103), (0, 0)] [] zM12 (fun r zM32 => ∃ zr33, r = some (1, zr33) ∧ Q (some (1, zr33)) zM32))))) ∧ (zr10 = 0 → x_Ev l E (1, 0, 0) m_X11_findsLong 0 [(21, 103), (0, 0)] [] zM9 (fun r zM34 => ∃ zr35, r = some (1, zr35) ∧ Q (some (1, zr35)) zM34)))))))) : x_Ev l E (10, 0, 0) m_X11_brings 0 [(21, 103), (0, a1), (0, a2), (0, a3), (0, a4), (5, 0)] [] M Q := by
  refine i_aload_n 0 rfl rfl (by decide) ?_
  refine i_iload_n 1 rfl rfl ?_
  refine i_callV (c := 11) (y1 := m_X11_isFollower) (z1 := (2, 0, 0)) (z2 := (10, 0, 0)) [(0, a1)] 2 rfl ml_1242 ok_X11_isFollower vk_X11_isFollower ⟨by decide, rfl⟩ rfl ⟨rfl, Nat.le_of_ble_eq_true rfl⟩ (Nat.le_of_ble_eq_true rfl) ⟨by decide, rfl, rfl, rfl⟩ ?_
  refine h.mono (fun r zM1 h => ?_)
  obtain ⟨zr2, rfl, h⟩ := h
  simp only [Option.toList_some, Option.toList_none, List.cons_append, List.nil_append]
  refine i_if_eq 26 3 rfl (by decide) (fun c => ?_) (fun c => ?_)
  · replace h := h.1 c
    refine i_aload_n 13 rfl rfl (by decide) ?_
    refine i_iconst 14 rfl (by decide) ?_
    refine i_callV (c := 11) (y1 := m_X11_findsLong) (z1 := (1, 0, 0)) (z2 := (10, 0, 0)) [(0, 0)] 15 rfl ml_1407 ok_X11_findsLong vk_X11_findsLong ⟨by decide, rfl⟩ rfl ⟨rfl, Nat.le_of_ble_eq_true rfl⟩ (Nat.le_of_ble_eq_true rfl) ⟨by decide, rfl, rfl, rfl⟩ ?_
    refine h.mono (fun r zM3 h => ?_)
    obtain ⟨zr4, rfl, h⟩ := h
    simp only [Option.toList_some, Option.toList_none, List.cons_append, List.nil_append]
    exact i_lreturn 16 rfl rfl h
  · replace h := h.2 c
    refine i_iload_n 4 rfl rfl ?_
    refine i_i2l 5 rfl ?_
    refine i_lconst (w := 0) 6 rfl (by decide) ?_
    refine i_lconst (w := 1) 7 rfl (by decide) ?_
    refine i_callS (y1 := m_X11_in) (z1 := (1, 0, 0)) (z2 := (10, 0, 0)) [(1, a3), (1, 0), (1, 1)] 8 rfl ml_1229 ok_X11_in vk_X11_in rfl ⟨rfl, Nat.le_of_ble_eq_true rfl⟩ (Nat.le_of_ble_eq_true rfl) ⟨by decide, rfl, rfl, rfl⟩ ?_
    refine h.mono (fun r zM5 h => ?_)
    obtain ⟨zr6, rfl, h⟩ := h
    simp only [Option.toList_some, Option.toList_none, List.cons_append, List.nil_append]
    refine i_if_eq 26 9 rfl (by decide) (fun c => ?_) (fun c => ?_)
    · replace h := h.1 c
      refine i_aload_n 13 rfl rfl (by decide) ?_
      refine i_iconst 14 rfl (by decide) ?_
      refine i_callV (c := 11) (y1 := m_X11_findsLong) (z1 := (1, 0, 0)) (z2 := (10, 0, 0)) [(0, 0)] 15 rfl ml_1407 ok_X11_findsLong vk_X11_findsLong ⟨by decide, rfl⟩ rfl ⟨rfl, Nat.le_of_ble_eq_true rfl⟩ (Nat.le_of_ble_eq_true rfl) ⟨by decide, rfl, rfl, rfl⟩ ?_
      refine h.mono (fun r zM7 h => ?_)
      obtain ⟨zr8, rfl, h⟩ := h
      simp only [Option.toList_some, Option.toList_none, List.cons_append, List.nil_append]
      exact i_lreturn 16 rfl rfl h
    · replace h := h.2 c
      refine i_iload 10 rfl rfl ?_
      refine i_callS (y1 := m_X11_isPart) (z1 := (2, 0, 0)) (z2 := (10, 0, 0)) [(0, a4)] 11 rfl ml_1404 ok_X11_isPart vk_X11_isPart rfl ⟨rfl, Nat.le_of_ble_eq_true rfl⟩ (Nat.le_of_ble_eq_true rfl) ⟨by decide, rfl, rfl, rfl⟩ ?_
      refine h.mono (fun r zM9 h => ?_)
      obtain ⟨zr10, rfl, h⟩ := h
      simp only [Option.toList_some, Option.toList_none, List.cons_append, List.nil_append]
      refine i_if_ne 32 12 rfl (by decide) (fun c => ?_) (fun c => ?_)
      · replace h := h.1 c
        refine i_aload_n 17 rfl rfl (by decide) ?_
        refine i_iload_n 18 rfl rfl ?_
        refine i_callV (c := 11) (y1 := m_X11_plans) (z1 := (9, 0, 0)) (z2 := (10, 0, 0)) [(0, a1)] 19 rfl ml_1251 ok_X11_plans vk_X11_plans ⟨by decide, rfl⟩ rfl ⟨rfl, Nat.le_of_ble_eq_true rfl⟩ (Nat.le_of_ble_eq_true rfl) ⟨by decide, rfl, rfl, rfl⟩ ?_
        refine h.mono (fun r zM11 h => ?_)
        obtain ⟨rfl, h⟩ := h
        simp only [Option.toList_some, Option.toList_none, List.cons_append, List.nil_append]
        refine i_iload_n 20 rfl rfl ?_
        refine i_i2l 21 rfl ?_
        refine i_ldc2 (v := (-1)) 22 rfl cw_1420 (by decide) ?_
        refine i_aload_n 23 rfl rfl (by decide) ?_
        refine i_getP (c := 11) (k := 21) (t := 114) (b := 149) 24 rfl fl_1070 (by decide) rfl (by decide) rfl ?_
        refine i_iload_n 25 rfl rfl ?_
        refine i_iald (τ := 14) 26 rfl ⟨rfl, rfl, rfl, by decide⟩ h.1.1 h.1.2 ?_
        replace h := h.2
        refine i_iconst 27 rfl (by decide) ?_
        refine i_isub 28 rfl ?_
        refine i_i2l 29 rfl ?_
        refine i_callS (y1 := m_X11_in) (z1 := (1, 0, 0)) (z2 := (10, 0, 0)) [(1, a2), (1, (-1)), (1, (x_w ((zM11 149 a1) - 1)))] 30 rfl ml_1229 ok_X11_in vk_X11_in rfl ⟨rfl, Nat.le_of_ble_eq_true rfl⟩ (Nat.le_of_ble_eq_true rfl) ⟨by decide, rfl, rfl, rfl⟩ ?_
        refine h.mono (fun r zM12 h => ?_)
        obtain ⟨zr13, rfl, h⟩ := h
        simp only [Option.toList_some, Option.toList_none, List.cons_append, List.nil_append]
        refine i_if_ne 63 31 rfl (by decide) (fun c => ?_) (fun c => ?_)
        · replace h := h.1 c
          refine i_iload_n 36 rfl rfl ?_
          refine i_if_ge 83 37 rfl (by decide) (fun c => ?_) (fun c => ?_)
          · replace h := h.1 c
            refine i_iload_n 46 rfl rfl ?_
            refine i_istore 47 rfl (by decide) rfl ?_
            refine i_iload_n 48 rfl rfl ?_
            refine i_if_ne 108 49 rfl (by decide) (fun c => ?_) (fun c => ?_)
            · replace h := h.1 c
              refine i_aload_n 59 rfl rfl (by decide) ?_
              refine i_iload_n 60 rfl rfl ?_
              refine i_iload 61 rfl rfl ?_
              refine i_aload_n 62 rfl rfl (by decide) ?_
              refine i_getL (c := 11) (k := 9) 63 rfl fl_1058 (by decide) rfl ?_
              refine i_aload_n 64 rfl rfl (by decide) ?_
              refine i_getL (c := 11) (k := 10) 65 rfl fl_1059 (by decide) rfl ?_
              refine i_callV (c := 11) (y1 := m_X11_gain) (z1 := (2, 0, 0)) (z2 := (10, 0, 0)) [(0, a1), (0, a2), (1, (zM12 103 9)), (1, (zM12 103 10))] 66 rfl ml_1331 ok_X11_gain vk_X11_gain ⟨by decide, rfl⟩ rfl ⟨rfl, Nat.le_of_ble_eq_true rfl⟩ (Nat.le_of_ble_eq_true rfl) ⟨by decide, rfl, rfl, rfl⟩ ?_
              refine h.mono (fun r zM14 h => ?_)
              obtain ⟨zr15, rfl, h⟩ := h
              simp only [Option.toList_some, Option.toList_none, List.cons_append, List.nil_append]
              refine i_aload_n 67 rfl rfl (by decide) ?_
              refine i_getP (c := 11) (k := 23) (t := 130) (b := 274) 68 rfl fl_1072 (by decide) rfl (by decide) rfl ?_
              refine i_iload_n 69 rfl rfl ?_
              refine i_aald (τ := 30) (t := 129) (len := 3) (b := (274 + 1 + 1 * a1)) 70 rfl (by decide) rfl h.1.1 h.1.2 ?_
              replace h := h.2
              refine i_iload 71 rfl rfl ?_
              refine i_lald (τ := 29) 72 rfl ⟨rfl, rfl, rfl, by decide⟩ h.1.1 h.1.2 ?_
              replace h := h.2
              refine i_aload_n 73 rfl rfl (by decide) ?_
              refine i_getL (c := 11) (k := 10) 74 rfl fl_1059 (by decide) rfl ?_
              refine i_lmul 75 rfl ?_
              refine i_iload 76 rfl rfl ?_
              refine i_callS (y1 := m_X11_part) (z1 := (2, 0, 0)) (z2 := (10, 0, 0)) [(1, zr15), (1, (x_W ((zM14 (274 + 1 + 1 * a1) a2) * (zM14 103 10)))), (0, a4)] 77 rfl ml_1394 ok_X11_part vk_X11_part rfl ⟨rfl, Nat.le_of_ble_eq_true rfl⟩ (Nat.le_of_ble_eq_true rfl) ⟨by decide, rfl, rfl, rfl⟩ ?_
              refine h.mono (fun r zM16 h => ?_)
              obtain ⟨zr17, rfl, h⟩ := h
              simp only [Option.toList_some, Option.toList_none, List.cons_append, List.nil_append]
              exact i_lreturn 78 rfl rfl h
            · replace h := h.2 c
              refine i_aload_n 50 rfl rfl (by decide) ?_
              refine i_iload_n 51 rfl rfl ?_
              refine i_iload 52 rfl rfl ?_
              refine i_aload_n 53 rfl rfl (by decide) ?_
              refine i_getL (c := 11) (k := 9) 54 rfl fl_1058 (by decide) rfl ?_
              refine i_aload_n 55 rfl rfl (by decide) ?_
              refine i_getL (c := 11) (k := 10) 56 rfl fl_1059 (by decide) rfl ?_
              refine i_callV (c := 11) (y1 := m_X11_net) (z1 := (2, 0, 0)) (z2 := (10, 0, 0)) [(0, a1), (0, a2), (1, (zM12 103 9)), (1, (zM12 103 10))] 57 rfl ml_1304 ok_X11_net vk_X11_net ⟨by decide, rfl⟩ rfl ⟨rfl, Nat.le_of_ble_eq_true rfl⟩ (Nat.le_of_ble_eq_true rfl) ⟨by decide, rfl, rfl, rfl⟩ ?_
              refine h.mono (fun r zM18 h => ?_)
              obtain ⟨zr19, rfl, h⟩ := h
              simp only [Option.toList_some, Option.toList_none, List.cons_append, List.nil_append]
              refine i_goto 123 58 rfl (by decide) ?_
              refine i_aload_n 67 rfl rfl (by decide) ?_
              refine i_getP (c := 11) (k := 23) (t := 130) (b := 274) 68 rfl fl_1072 (by decide) rfl (by decide) rfl ?_
              refine i_iload_n 69 rfl rfl ?_
              refine i_aald (τ := 30) (t := 129) (len := 3) (b := (274 + 1 + 1 * a1)) 70 rfl (by decide) rfl h.1.1 h.1.2 ?_
              replace h := h.2
              refine i_iload 71 rfl rfl ?_
              refine i_lald (τ := 29) 72 rfl ⟨rfl, rfl, rfl, by decide⟩ h.1.1 h.1.2 ?_
              replace h := h.2
              refine i_aload_n 73 rfl rfl (by decide) ?_
              refine i_getL (c := 11) (k := 10) 74 rfl fl_1059 (by decide) rfl ?_
              refine i_lmul 75 rfl ?_
              refine i_iload 76 rfl rfl ?_
              refine i_callS (y1 := m_X11_part) (z1 := (2, 0, 0)) (z2 := (10, 0, 0)) [(1, zr19), (1, (x_W ((zM18 (274 + 1 + 1 * a1) a2) * (zM18 103 10)))), (0, a4)] 77 rfl ml_1394 ok_X11_part vk_X11_part rfl ⟨rfl, Nat.le_of_ble_eq_true rfl⟩ (Nat.le_of_ble_eq_true rfl) ⟨by decide, rfl, rfl, rfl⟩ ?_
              refine h.mono (fun r zM20 h => ?_)
              obtain ⟨zr21, rfl, h⟩ := h
              simp only [Option.toList_some, Option.toList_none, List.cons_append, List.nil_append]
              exact i_lreturn 78 rfl rfl h
          · replace h := h.2 c
            refine i_aload_n 38 rfl rfl (by decide) ?_
            refine i_iload_n 39 rfl rfl ?_
            refine i_aload_n 40 rfl rfl (by decide) ?_
            refine i_getL (c := 11) (k := 9) 41 rfl fl_1058 (by decide) rfl ?_
            refine i_aload_n 42 rfl rfl (by decide) ?_
            refine i_getL (c := 11) (k := 10) 43 rfl fl_1059 (by decide) rfl ?_
            refine i_callV (c := 11) (y1 := m_X11_answer) (z1 := (4, 0, 0)) (z2 := (10, 0, 0)) [(0, a1), (1, (zM12 103 9)), (1, (zM12 103 10))] 44 rfl ml_1296 ok_X11_answer vk_X11_answer ⟨by decide, rfl⟩ rfl ⟨rfl, Nat.le_of_ble_eq_true rfl⟩ (Nat.le_of_ble_eq_true rfl) ⟨by decide, rfl, rfl, rfl⟩ ?_
            refine h.mono (fun r zM22 h => ?_)
            obtain ⟨zr23, rfl, h⟩ := h
            simp only [Option.toList_some, Option.toList_none, List.cons_append, List.nil_append]
            refine i_goto 84 45 rfl (by decide) ?_
            refine i_istore 47 rfl (by decide) rfl ?_
            refine i_iload_n 48 rfl rfl ?_
            refine i_if_ne 108 49 rfl (by decide) (fun c => ?_) (fun c => ?_)
            · replace h := h.1 c
              refine i_aload_n 59 rfl rfl (by decide) ?_
              refine i_iload_n 60 rfl rfl ?_
              refine i_iload 61 rfl rfl ?_
              refine i_aload_n 62 rfl rfl (by decide) ?_
              refine i_getL (c := 11) (k := 9) 63 rfl fl_1058 (by decide) rfl ?_
              refine i_aload_n 64 rfl rfl (by decide) ?_
              refine i_getL (c := 11) (k := 10) 65 rfl fl_1059 (by decide) rfl ?_
              refine i_callV (c := 11) (y1 := m_X11_gain) (z1 := (2, 0, 0)) (z2 := (10, 0, 0)) [(0, a1), (0, zr23), (1, (zM22 103 9)), (1, (zM22 103 10))] 66 rfl ml_1331 ok_X11_gain vk_X11_gain ⟨by decide, rfl⟩ rfl ⟨rfl, Nat.le_of_ble_eq_true rfl⟩ (Nat.le_of_ble_eq_true rfl) ⟨by decide, rfl, rfl, rfl⟩ ?_
              refine h.mono (fun r zM24 h => ?_)
              obtain ⟨zr25, rfl, h⟩ := h
              simp only [Option.toList_some, Option.toList_none, List.cons_append, List.nil_append]
              refine i_aload_n 67 rfl rfl (by decide) ?_
              refine i_getP (c := 11) (k := 23) (t := 130) (b := 274) 68 rfl fl_1072 (by decide) rfl (by decide) rfl ?_
              refine i_iload_n 69 rfl rfl ?_
              refine i_aald (τ := 30) (t := 129) (len := 3) (b := (274 + 1 + 1 * a1)) 70 rfl (by decide) rfl h.1.1 h.1.2 ?_
              replace h := h.2
              refine i_iload 71 rfl rfl ?_
              refine i_lald (τ := 29) 72 rfl ⟨rfl, rfl, rfl, by decide⟩ h.1.1 h.1.2 ?_
              replace h := h.2
              refine i_aload_n 73 rfl rfl (by decide) ?_
              refine i_getL (c := 11) (k := 10) 74 rfl fl_1059 (by decide) rfl ?_
              refine i_lmul 75 rfl ?_
              refine i_iload 76 rfl rfl ?_
              refine i_callS (y1 := m_X11_part) (z1 := (2, 0, 0)) (z2 := (10, 0, 0)) [(1, zr25), (1, (x_W ((zM24 (274 + 1 + 1 * a1) zr23) * (zM24 103 10)))), (0, a4)] 77 rfl ml_1394 ok_X11_part vk_X11_part rfl ⟨rfl, Nat.le_of_ble_eq_true rfl⟩ (Nat.le_of_ble_eq_true rfl) ⟨by decide, rfl, rfl, rfl⟩ ?_
              refine h.mono (fun r zM26 h => ?_)
              obtain ⟨zr27, rfl, h⟩ := h
              simp only [Option.toList_some, Option.toList_none, List.cons_append, List.nil_append]
              exact i_lreturn 78 rfl rfl h
            · replace h := h.2 c
              refine i_aload_n 50 rfl rfl (by decide) ?_
              refine i_iload_n 51 rfl rfl ?_
              refine i_iload 52 rfl rfl ?_
              refine i_aload_n 53 rfl rfl (by decide) ?_
              refine i_getL (c := 11) (k := 9) 54 rfl fl_1058 (by decide) rfl ?_
              refine i_aload_n 55 rfl rfl (by decide) ?_
              refine i_getL (c := 11) (k := 10) 56 rfl fl_1059 (by decide) rfl ?_
              refine i_callV (c := 11) (y1 := m_X11_net) (z1 := (2, 0, 0)) (z2 := (10, 0, 0)) [(0, a1), (0, zr23), (1, (zM22 103 9)), (1, (zM22 103 10))] 57 rfl ml_1304 ok_X11_net vk_X11_net ⟨by decide, rfl⟩ rfl ⟨rfl, Nat.le_of_ble_eq_true rfl⟩ (Nat.le_of_ble_eq_true rfl) ⟨by decide, rfl, rfl, rfl⟩ ?_
              refine h.mono (fun r zM28 h => ?_)
              obtain ⟨zr29, rfl, h⟩ := h
              simp only [Option.toList_some, Option.toList_none, List.cons_append, List.nil_append]
              refine i_goto 123 58 rfl (by decide) ?_
              refine i_aload_n 67 rfl rfl (by decide) ?_
              refine i_getP (c := 11) (k := 23) (t := 130) (b := 274) 68 rfl fl_1072 (by decide) rfl (by decide) rfl ?_
              refine i_iload_n 69 rfl rfl ?_
              refine i_aald (τ := 30) (t := 129) (len := 3) (b := (274 + 1 + 1 * a1)) 70 rfl (by decide) rfl h.1.1 h.1.2 ?_
              replace h := h.2
              refine i_iload 71 rfl rfl ?_
              refine i_lald (τ := 29) 72 rfl ⟨rfl, rfl, rfl, by decide⟩ h.1.1 h.1.2 ?_
              replace h := h.2
              refine i_aload_n 73 rfl rfl (by decide) ?_
              refine i_getL (c := 11) (k := 10) 74 rfl fl_1059 (by decide) rfl ?_
              refine i_lmul 75 rfl ?_
              refine i_iload 76 rfl rfl ?_
              refine i_callS (y1 := m_X11_part) (z1 := (2, 0, 0)) (z2 := (10, 0, 0)) [(1, zr29), (1, (x_W ((zM28 (274 + 1 + 1 * a1) zr23) * (zM28 103 10)))), (0, a4)] 77 rfl ml_1394 ok_X11_part vk_X11_part rfl ⟨rfl, Nat.le_of_ble_eq_true rfl⟩ (Nat.le_of_ble_eq_true rfl) ⟨by decide, rfl, rfl, rfl⟩ ?_
              refine h.mono (fun r zM30 h => ?_)
              obtain ⟨zr31, rfl, h⟩ := h
              simp only [Option.toList_some, Option.toList_none, List.cons_append, List.nil_append]
              exact i_lreturn 78 rfl rfl h
        · replace h := h.2 c
          refine i_aload_n 32 rfl rfl (by decide) ?_
          refine i_iconst 33 rfl (by decide) ?_
          refine i_callV (c := 11) (y1 := m_X11_findsLong) (z1 := (1, 0, 0)) (z2 := (10, 0, 0)) [(0, 0)] 34 rfl ml_1407 ok_X11_findsLong vk_X11_findsLong ⟨by decide, rfl⟩ rfl ⟨rfl, Nat.le_of_ble_eq_true rfl⟩ (Nat.le_of_ble_eq_true rfl) ⟨by decide, rfl, rfl, rfl⟩ ?_
          refine h.mono (fun r zM32 h => ?_)
          obtain ⟨zr33, rfl, h⟩ := h
          simp only [Option.toList_some, Option.toList_none, List.cons_append, List.nil_append]
          exact i_lreturn 35 rfl rfl h
      · replace h := h.2 c
        refine i_aload_n 13 rfl rfl (by decide) ?_
        refine i_iconst 14 rfl (by decide) ?_
        refine i_callV (c := 11) (y1 := m_X11_findsLong) (z1 := (1, 0, 0)) (z2 := (10, 0, 0)) [(0, 0)] 15 rfl ml_1407 ok_X11_findsLong vk_X11_findsLong ⟨by decide, rfl⟩ rfl ⟨rfl, Nat.le_of_ble_eq_true rfl⟩ (Nat.le_of_ble_eq_true rfl) ⟨by decide, rfl, rfl, rfl⟩ ?_
        refine h.mono (fun r zM34 h => ?_)
        obtain ⟨zr35, rfl, h⟩ := h
        simp only [Option.toList_some, Option.toList_none, List.cons_append, List.nil_append]
        exact i_lreturn 16 rfl rfl h
theorem u_X11_total_0 {l : Launch} {E : xE} (a1 a2 : Int) {M : xM} {Q : Option xV → xM → Prop} (h : x_Ev l E (1, 0, 0) m_X11_in 0 [(1, a1), (5, 0), (1, 0), (5, 0), (1, 2), (5, 0)] [] M (fun r zM1 => ∃ zr2, r = some (0, zr2) ∧ (zr2 = 0 → x_Ev l E (1, 0, 0) m_X11_findsLong 0 [(21, 103), (0, 0)] [] zM1 (fun r zM3 => ∃ zr4, r = some (1, zr4) ∧ Q (some (1, zr4)) zM3)) ∧ (¬ zr2 = 0 → x_Ev l E (2, 0, 0) m_X11_isPart 0 [(0, a2)] [] zM1 (fun r zM5 => ∃ zr6, r = some (0, zr6) ∧ (¬ zr6 = 0 → (¬ a1 = 1 → (¬ a1 = 2 → x_Ev l E (10, 0, 0) m_X11_plans_ 0 [(21, 103), (5, 0)] [] zM5 (fun r zM7 => r = none ∧ x_Ev l E (5, 0, 0) m_X11_totals 0 [(21, 103), (1, (zM7 103 9)), (5, 0), (1, (zM7 103 10)), (5, 0), (0, a1), (5, 0), (5, 0)] [] zM7 (fun r zM8 => r = none ∧ (¬ a2 = 0 → Q (some (1, (zM8 103 16))) zM8) ∧ (a2 = 0 → Q (some (1, (zM8 103 15))) zM8)))) ∧ (a1 = 2 → (¬ (zM5 103 9) = (x_W ((zM5 103 8) * (zM5 103 10))) → x_Ev l E (10, 0, 0) m_X11_plans_ 0 [(21, 103), (5, 0)] [] zM5 (fun r zM9 => r = none ∧ x_Ev l E (5, 0, 0) m_X11_totals 0 [(21, 103), (1, (zM9 103 9)), (5, 0), (1, (zM9 103 10)), (5, 0), (0, a1), (5, 0), (5, 0)] [] zM9 (fun r zM10 => r = none ∧ (¬ a2 = 0 → Q (some (1, (zM10 103 16))) zM10) ∧ (a2 = 0 → Q (some (1, (zM10 103 15))) zM10)))) ∧ ((zM5 103 9) = (x_W ((zM5 103 8) * (zM5 103 10))) → x_Ev l E (1, 0, 0) m_X11_findsLong 0 [(21, 103), (0, 3)] [] zM5 (fun r zM11 => ∃ zr12, r = some (1, zr12) ∧ Q (some (1, zr12)) zM11)))) ∧ (a1 = 1 → ((zM5 103 9) = 0 → x_Ev l E (1, 0, 0) m_X11_findsLong 0 [(21, 103), (0, 3)] [] zM5 (fun r zM13 => ∃ zr14, r = some (1, zr14) ∧ Q (some (1, zr14)) zM13)) ∧ (¬ (zM5 103 9) = 0 → x_Ev l E (10, 0, 0) m_X11_plans_ 0 [(21, 103), (5, 0)] [] zM5 (fun r zM15 => r = none ∧ x_Ev l E (5, 0, 0) m_X11_totals 0 [(21, 103), (1, (zM15 103 9)), (5, 0), (1, (zM15 103 10)), (5, 0), (0, a1), (5, 0), (5, 0)] [] zM15 (fun r zM16 => r = none ∧ (¬ a2 = 0 → Q (some (1, (zM16 103 16))) zM16) ∧ (a2 = 0 → Q (some (1, (zM16 103 15))) zM16)))))) ∧ (zr6 = 0 → x_Ev l E (1, 0, 0) m_X11_findsLong 0 [(21, 103), (0, 0)] [] zM5 (fun r zM17 => ∃ zr18, r = some (1, zr18) ∧ Q (some (1, zr18)) zM17)))))) : x_Ev l E (11, 0, 0) m_X11_total 0 [(21, 103), (0, a1), (0, a2)] [] M Q := by
  refine i_iload_n 0 rfl rfl ?_
  refine i_i2l 1 rfl ?_
  refine i_lconst (w := 0) 2 rfl (by decide) ?_
  refine i_ldc2 (v := 2) 3 rfl cw_1353 (by decide) ?_
  refine i_callS (y1 := m_X11_in) (z1 := (1, 0, 0)) (z2 := (11, 0, 0)) [(1, a1), (1, 0), (1, 2)] 4 rfl ml_1229 ok_X11_in vk_X11_in rfl ⟨rfl, Nat.le_of_ble_eq_true rfl⟩ (Nat.le_of_ble_eq_true rfl) ⟨by decide, rfl, rfl, rfl⟩ ?_
  refine h.mono (fun r zM1 h => ?_)
  obtain ⟨zr2, rfl, h⟩ := h
  simp only [Option.toList_some, Option.toList_none, List.cons_append, List.nil_append]
  refine i_if_eq 19 5 rfl (by decide) (fun c => ?_) (fun c => ?_)
  · replace h := h.1 c
    refine i_aload_n 9 rfl rfl (by decide) ?_
    refine i_iconst 10 rfl (by decide) ?_
    refine i_callV (c := 11) (y1 := m_X11_findsLong) (z1 := (1, 0, 0)) (z2 := (11, 0, 0)) [(0, 0)] 11 rfl ml_1407 ok_X11_findsLong vk_X11_findsLong ⟨by decide, rfl⟩ rfl ⟨rfl, Nat.le_of_ble_eq_true rfl⟩ (Nat.le_of_ble_eq_true rfl) ⟨by decide, rfl, rfl, rfl⟩ ?_
    refine h.mono (fun r zM3 h => ?_)
    obtain ⟨zr4, rfl, h⟩ := h
    simp only [Option.toList_some, Option.toList_none, List.cons_append, List.nil_append]
    exact i_lreturn 12 rfl rfl h
  · replace h := h.2 c
    refine i_iload_n 6 rfl rfl ?_
    refine i_callS (y1 := m_X11_isPart) (z1 := (2, 0, 0)) (z2 := (11, 0, 0)) [(0, a2)] 7 rfl ml_1404 ok_X11_isPart vk_X11_isPart rfl ⟨rfl, Nat.le_of_ble_eq_true rfl⟩ (Nat.le_of_ble_eq_true rfl) ⟨by decide, rfl, rfl, rfl⟩ ?_
    refine h.mono (fun r zM5 h => ?_)
    obtain ⟨zr6, rfl, h⟩ := h
    simp only [Option.toList_some, Option.toList_none, List.cons_append, List.nil_append]
    refine i_if_ne 25 8 rfl (by decide) (fun c => ?_) (fun c => ?_)
    · replace h := h.1 c
      refine i_iload_n 13 rfl rfl ?_
      refine i_iconst 14 rfl (by decide) ?_
      refine i_icmp_ne 39 15 rfl (by decide) (fun c => ?_) (fun c => ?_)
      · replace h := h.1 c
        refine i_iload_n 21 rfl rfl ?_
        refine i_iconst 22 rfl (by decide) ?_
        refine i_icmp_ne 68 23 rfl (by decide) (fun c => ?_) (fun c => ?_)
        · replace h := h.1 c
          refine i_aload_n 38 rfl rfl (by decide) ?_
          refine i_callV (c := 11) (y1 := m_X11_plans_) (z1 := (10, 0, 0)) (z2 := (11, 0, 0)) [] 39 rfl ml_1425 ok_X11_plans_ vk_X11_plans_ ⟨by decide, rfl⟩ rfl ⟨rfl, Nat.le_of_ble_eq_true rfl⟩ (Nat.le_of_ble_eq_true rfl) ⟨by decide, rfl, rfl, rfl⟩ ?_
          refine h.mono (fun r zM7 h => ?_)
          obtain ⟨rfl, h⟩ := h
          simp only [Option.toList_some, Option.toList_none, List.cons_append, List.nil_append]
          refine i_aload_n 40 rfl rfl (by decide) ?_
          refine i_aload_n 41 rfl rfl (by decide) ?_
          refine i_getL (c := 11) (k := 9) 42 rfl fl_1058 (by decide) rfl ?_
          refine i_aload_n 43 rfl rfl (by decide) ?_
          refine i_getL (c := 11) (k := 10) 44 rfl fl_1059 (by decide) rfl ?_
          refine i_iload_n 45 rfl rfl ?_
          refine i_callV (c := 11) (y1 := m_X11_totals) (z1 := (5, 0, 0)) (z2 := (11, 0, 0)) [(1, (zM7 103 9)), (1, (zM7 103 10)), (0, a1)] 46 rfl ml_1429 ok_X11_totals vk_X11_totals ⟨by decide, rfl⟩ rfl ⟨rfl, Nat.le_of_ble_eq_true rfl⟩ (Nat.le_of_ble_eq_true rfl) ⟨by decide, rfl, rfl, rfl⟩ ?_
          refine h.mono (fun r zM8 h => ?_)
          obtain ⟨rfl, h⟩ := h
          simp only [Option.toList_some, Option.toList_none, List.cons_append, List.nil_append]
          refine i_iload_n 47 rfl rfl ?_
          refine i_if_ne 96 48 rfl (by decide) (fun c => ?_) (fun c => ?_)
          · replace h := h.1 c
            refine i_aload_n 52 rfl rfl (by decide) ?_
            refine i_getL (c := 11) (k := 16) 53 rfl fl_1065 (by decide) rfl ?_
            exact i_lreturn 54 rfl rfl h
          · replace h := h.2 c
            refine i_aload_n 49 rfl rfl (by decide) ?_
            refine i_getL (c := 11) (k := 15) 50 rfl fl_1064 (by decide) rfl ?_
            refine i_goto 100 51 rfl (by decide) ?_
            exact i_lreturn 54 rfl rfl h
        · replace h := h.2 c
          refine i_aload_n 24 rfl rfl (by decide) ?_
          refine i_getL (c := 11) (k := 9) 25 rfl fl_1058 (by decide) rfl ?_
          refine i_aload_n 26 rfl rfl (by decide) ?_
          refine i_getI (c := 11) (k := 8) 27 rfl fl_1057 (by decide) (by decide) ?_
          refine i_i2l 28 rfl ?_
          refine i_aload_n 29 rfl rfl (by decide) ?_
          refine i_getL (c := 11) (k := 10) 30 rfl fl_1059 (by decide) rfl ?_
          refine i_lmul 31 rfl ?_
          refine i_lcmp_ne 68 32 rfl rfl (by decide) (fun c => ?_) (fun c => ?_)
          · replace h := h.1 c
            refine i_aload_n 38 rfl rfl (by decide) ?_
            refine i_callV (c := 11) (y1 := m_X11_plans_) (z1 := (10, 0, 0)) (z2 := (11, 0, 0)) [] 39 rfl ml_1425 ok_X11_plans_ vk_X11_plans_ ⟨by decide, rfl⟩ rfl ⟨rfl, Nat.le_of_ble_eq_true rfl⟩ (Nat.le_of_ble_eq_true rfl) ⟨by decide, rfl, rfl, rfl⟩ ?_
            refine h.mono (fun r zM9 h => ?_)
            obtain ⟨rfl, h⟩ := h
            simp only [Option.toList_some, Option.toList_none, List.cons_append, List.nil_append]
            refine i_aload_n 40 rfl rfl (by decide) ?_
            refine i_aload_n 41 rfl rfl (by decide) ?_
            refine i_getL (c := 11) (k := 9) 42 rfl fl_1058 (by decide) rfl ?_
            refine i_aload_n 43 rfl rfl (by decide) ?_
            refine i_getL (c := 11) (k := 10) 44 rfl fl_1059 (by decide) rfl ?_
            refine i_iload_n 45 rfl rfl ?_
            refine i_callV (c := 11) (y1 := m_X11_totals) (z1 := (5, 0, 0)) (z2 := (11, 0, 0)) [(1, (zM9 103 9)), (1, (zM9 103 10)), (0, a1)] 46 rfl ml_1429 ok_X11_totals vk_X11_totals ⟨by decide, rfl⟩ rfl ⟨rfl, Nat.le_of_ble_eq_true rfl⟩ (Nat.le_of_ble_eq_true rfl) ⟨by decide, rfl, rfl, rfl⟩ ?_
            refine h.mono (fun r zM10 h => ?_)
            obtain ⟨rfl, h⟩ := h
            simp only [Option.toList_some, Option.toList_none, List.cons_append, List.nil_append]
            refine i_iload_n 47 rfl rfl ?_
            refine i_if_ne 96 48 rfl (by decide) (fun c => ?_) (fun c => ?_)
            · replace h := h.1 c
              refine i_aload_n 52 rfl rfl (by decide) ?_
              refine i_getL (c := 11) (k := 16) 53 rfl fl_1065 (by decide) rfl ?_
              exact i_lreturn 54 rfl rfl h
            · replace h := h.2 c
              refine i_aload_n 49 rfl rfl (by decide) ?_
              refine i_getL (c := 11) (k := 15) 50 rfl fl_1064 (by decide) rfl ?_
              refine i_goto 100 51 rfl (by decide) ?_
              exact i_lreturn 54 rfl rfl h
          · replace h := h.2 c
            refine i_aload_n 34 rfl rfl (by decide) ?_
            refine i_iconst 35 rfl (by decide) ?_
            refine i_callV (c := 11) (y1 := m_X11_findsLong) (z1 := (1, 0, 0)) (z2 := (11, 0, 0)) [(0, 3)] 36 rfl ml_1407 ok_X11_findsLong vk_X11_findsLong ⟨by decide, rfl⟩ rfl ⟨rfl, Nat.le_of_ble_eq_true rfl⟩ (Nat.le_of_ble_eq_true rfl) ⟨by decide, rfl, rfl, rfl⟩ ?_
            refine h.mono (fun r zM11 h => ?_)
            obtain ⟨zr12, rfl, h⟩ := h
            simp only [Option.toList_some, Option.toList_none, List.cons_append, List.nil_append]
            exact i_lreturn 37 rfl rfl h
      · replace h := h.2 c
        refine i_aload_n 16 rfl rfl (by decide) ?_
        refine i_getL (c := 11) (k := 9) 17 rfl fl_1058 (by decide) rfl ?_
        refine i_lconst (w := 0) 18 rfl (by decide) ?_
        refine i_lcmp_eq 62 19 rfl rfl (by decide) (fun c => ?_) (fun c => ?_)
        · replace h := h.1 c
          refine i_aload_n 34 rfl rfl (by decide) ?_
          refine i_iconst 35 rfl (by decide) ?_
          refine i_callV (c := 11) (y1 := m_X11_findsLong) (z1 := (1, 0, 0)) (z2 := (11, 0, 0)) [(0, 3)] 36 rfl ml_1407 ok_X11_findsLong vk_X11_findsLong ⟨by decide, rfl⟩ rfl ⟨rfl, Nat.le_of_ble_eq_true rfl⟩ (Nat.le_of_ble_eq_true rfl) ⟨by decide, rfl, rfl, rfl⟩ ?_
          refine h.mono (fun r zM13 h => ?_)
          obtain ⟨zr14, rfl, h⟩ := h
          simp only [Option.toList_some, Option.toList_none, List.cons_append, List.nil_append]
          exact i_lreturn 37 rfl rfl h
        · replace h := h.2 c
          refine i_iload_n 21 rfl rfl ?_
          refine i_iconst 22 rfl (by decide) ?_
          refine i_icmp_ne 68 23 rfl (by decide) (fun c => ?_) (fun c => ?_)
          · refine i_aload_n 38 rfl rfl (by decide) ?_
            refine i_callV (c := 11) (y1 := m_X11_plans_) (z1 := (10, 0, 0)) (z2 := (11, 0, 0)) [] 39 rfl ml_1425 ok_X11_plans_ vk_X11_plans_ ⟨by decide, rfl⟩ rfl ⟨rfl, Nat.le_of_ble_eq_true rfl⟩ (Nat.le_of_ble_eq_true rfl) ⟨by decide, rfl, rfl, rfl⟩ ?_
            refine h.mono (fun r zM15 h => ?_)
            obtain ⟨rfl, h⟩ := h
            simp only [Option.toList_some, Option.toList_none, List.cons_append, List.nil_append]
            refine i_aload_n 40 rfl rfl (by decide) ?_
            refine i_aload_n 41 rfl rfl (by decide) ?_
            refine i_getL (c := 11) (k := 9) 42 rfl fl_1058 (by decide) rfl ?_
            refine i_aload_n 43 rfl rfl (by decide) ?_
            refine i_getL (c := 11) (k := 10) 44 rfl fl_1059 (by decide) rfl ?_
            refine i_iload_n 45 rfl rfl ?_
            refine i_callV (c := 11) (y1 := m_X11_totals) (z1 := (5, 0, 0)) (z2 := (11, 0, 0)) [(1, (zM15 103 9)), (1, (zM15 103 10)), (0, a1)] 46 rfl ml_1429 ok_X11_totals vk_X11_totals ⟨by decide, rfl⟩ rfl ⟨rfl, Nat.le_of_ble_eq_true rfl⟩ (Nat.le_of_ble_eq_true rfl) ⟨by decide, rfl, rfl, rfl⟩ ?_
            refine h.mono (fun r zM16 h => ?_)
            obtain ⟨rfl, h⟩ := h
            simp only [Option.toList_some, Option.toList_none, List.cons_append, List.nil_append]
            refine i_iload_n 47 rfl rfl ?_
            refine i_if_ne 96 48 rfl (by decide) (fun c => ?_) (fun c => ?_)
            · replace h := h.1 c
              refine i_aload_n 52 rfl rfl (by decide) ?_
              refine i_getL (c := 11) (k := 16) 53 rfl fl_1065 (by decide) rfl ?_
              exact i_lreturn 54 rfl rfl h
            · replace h := h.2 c
              refine i_aload_n 49 rfl rfl (by decide) ?_
              refine i_getL (c := 11) (k := 15) 50 rfl fl_1064 (by decide) rfl ?_
              refine i_goto 100 51 rfl (by decide) ?_
              exact i_lreturn 54 rfl rfl h
          · exact absurd c (by omega)
    · replace h := h.2 c
      refine i_aload_n 9 rfl rfl (by decide) ?_
      refine i_iconst 10 rfl (by decide) ?_
      refine i_callV (c := 11) (y1 := m_X11_findsLong) (z1 := (1, 0, 0)) (z2 := (11, 0, 0)) [(0, 0)] 11 rfl ml_1407 ok_X11_findsLong vk_X11_findsLong ⟨by decide, rfl⟩ rfl ⟨rfl, Nat.le_of_ble_eq_true rfl⟩ (Nat.le_of_ble_eq_true rfl) ⟨by decide, rfl, rfl, rfl⟩ ?_
      refine h.mono (fun r zM17 h => ?_)
      obtain ⟨zr18, rfl, h⟩ := h
      simp only [Option.toList_some, Option.toList_none, List.cons_append, List.nil_append]
      exact i_lreturn 12 rfl rfl h
theorem u_X11_opens_0 {l : Launch} {E : xE} (a1 a2 : Int) {M : xM} {Q : Option xV → xM → Prop} (h : x_Ev l E (2, 0, 0) m_X11_isFollower 0 [(21, 103), (0, a1)] [] M (fun r zM1 => ∃ zr2, r = some (0, zr2) ∧ (zr2 = 0 → x_Ev l E (1, 0, 0) m_X11_finds 0 [(21, 103), (0, 0)] [] zM1 (fun r zM3 => ∃ zr4, r = some (0, zr4) ∧ Q (some (0, zr4)) zM3)) ∧ (¬ zr2 = 0 → x_Ev l E (1, 0, 0) m_X11_in 0 [(1, a2), (5, 0), (1, 0), (5, 0), (1, 2), (5, 0)] [] zM1 (fun r zM5 => ∃ zr6, r = some (0, zr6) ∧ (¬ zr6 = 0 → x_Ev l E (10, 0, 0) m_X11_bothOf 0 [(21, 103), (0, a1)] [] zM5 (fun r zM7 => r = none ∧ (¬ a2 = 0 → (¬ a2 = 1 → x_Ev l E (4, 0, 0) m_X11_proofMany 0 [(21, 103), (0, a1), (5, 0), (5, 0)] [] zM7 (fun r zM8 => ∃ zr9, r = some (0, zr9) ∧ Q (some (0, zr9)) zM8)) ∧ (a2 = 1 → x_Ev l E (2, 0, 0) m_X11_liveMany 0 [(21, 103), (0, a1), (5, 0), (5, 0), (5, 0)] [] zM7 (fun r zM10 => ∃ zr11, r = some (0, zr11) ∧ Q (some (0, zr11)) zM10))) ∧ (a2 = 0 → x_Ev l E (3, 0, 0) m_X11_openMany 0 [(21, 103), (0, a1), (5, 0), (5, 0)] [] zM7 (fun r zM12 => ∃ zr13, r = some (0, zr13) ∧ Q (some (0, zr13)) zM12)))) ∧ (zr6 = 0 → x_Ev l E (1, 0, 0) m_X11_finds 0 [(21, 103), (0, 0)] [] zM5 (fun r zM14 => ∃ zr15, r = some (0, zr15) ∧ Q (some (0, zr15)) zM14)))))) : x_Ev l E (11, 0, 0) m_X11_opens 0 [(21, 103), (0, a1), (0, a2)] [] M Q := by
  refine i_aload_n 0 rfl rfl (by decide) ?_
  refine i_iload_n 1 rfl rfl ?_
  refine i_callV (c := 11) (y1 := m_X11_isFollower) (z1 := (2, 0, 0)) (z2 := (11, 0, 0)) [(0, a1)] 2 rfl ml_1242 ok_X11_isFollower vk_X11_isFollower ⟨by decide, rfl⟩ rfl ⟨rfl, Nat.le_of_ble_eq_true rfl⟩ (Nat.le_of_ble_eq_true rfl) ⟨by decide, rfl, rfl, rfl⟩ ?_
  refine h.mono (fun r zM1 h => ?_)
  obtain ⟨zr2, rfl, h⟩ := h
  simp only [Option.toList_some, Option.toList_none, List.cons_append, List.nil_append]
  refine i_if_eq 20 3 rfl (by decide) (fun c => ?_) (fun c => ?_)
  · replace h := h.1 c
    refine i_aload_n 10 rfl rfl (by decide) ?_
    refine i_iconst 11 rfl (by decide) ?_
    refine i_callV (c := 11) (y1 := m_X11_finds) (z1 := (1, 0, 0)) (z2 := (11, 0, 0)) [(0, 0)] 12 rfl ml_1233 ok_X11_finds vk_X11_finds ⟨by decide, rfl⟩ rfl ⟨rfl, Nat.le_of_ble_eq_true rfl⟩ (Nat.le_of_ble_eq_true rfl) ⟨by decide, rfl, rfl, rfl⟩ ?_
    refine h.mono (fun r zM3 h => ?_)
    obtain ⟨zr4, rfl, h⟩ := h
    simp only [Option.toList_some, Option.toList_none, List.cons_append, List.nil_append]
    exact i_ireturn 13 rfl rfl h
  · replace h := h.2 c
    refine i_iload_n 4 rfl rfl ?_
    refine i_i2l 5 rfl ?_
    refine i_lconst (w := 0) 6 rfl (by decide) ?_
    refine i_ldc2 (v := 2) 7 rfl cw_1353 (by decide) ?_
    refine i_callS (y1 := m_X11_in) (z1 := (1, 0, 0)) (z2 := (11, 0, 0)) [(1, a2), (1, 0), (1, 2)] 8 rfl ml_1229 ok_X11_in vk_X11_in rfl ⟨rfl, Nat.le_of_ble_eq_true rfl⟩ (Nat.le_of_ble_eq_true rfl) ⟨by decide, rfl, rfl, rfl⟩ ?_
    refine h.mono (fun r zM5 h => ?_)
    obtain ⟨zr6, rfl, h⟩ := h
    simp only [Option.toList_some, Option.toList_none, List.cons_append, List.nil_append]
    refine i_if_ne 26 9 rfl (by decide) (fun c => ?_) (fun c => ?_)
    · replace h := h.1 c
      refine i_aload_n 14 rfl rfl (by decide) ?_
      refine i_iload_n 15 rfl rfl ?_
      refine i_callV (c := 11) (y1 := m_X11_bothOf) (z1 := (10, 0, 0)) (z2 := (11, 0, 0)) [(0, a1)] 16 rfl ml_1453 ok_X11_bothOf vk_X11_bothOf ⟨by decide, rfl⟩ rfl ⟨rfl, Nat.le_of_ble_eq_true rfl⟩ (Nat.le_of_ble_eq_true rfl) ⟨by decide, rfl, rfl, rfl⟩ ?_
      refine h.mono (fun r zM7 h => ?_)
      obtain ⟨rfl, h⟩ := h
      simp only [Option.toList_some, Option.toList_none, List.cons_append, List.nil_append]
      refine i_iload_n 17 rfl rfl ?_
      refine i_if_ne 43 18 rfl (by decide) (fun c => ?_) (fun c => ?_)
      · replace h := h.1 c
        refine i_iload_n 23 rfl rfl ?_
        refine i_iconst 24 rfl (by decide) ?_
        refine i_icmp_ne 56 25 rfl (by decide) (fun c => ?_) (fun c => ?_)
        · replace h := h.1 c
          refine i_aload_n 30 rfl rfl (by decide) ?_
          refine i_iload_n 31 rfl rfl ?_
          refine i_callV (c := 11) (y1 := m_X11_proofMany) (z1 := (4, 0, 0)) (z2 := (11, 0, 0)) [(0, a1)] 32 rfl ml_1501 ok_X11_proofMany vk_X11_proofMany ⟨by decide, rfl⟩ rfl ⟨rfl, Nat.le_of_ble_eq_true rfl⟩ (Nat.le_of_ble_eq_true rfl) ⟨by decide, rfl, rfl, rfl⟩ ?_
          refine h.mono (fun r zM8 h => ?_)
          obtain ⟨zr9, rfl, h⟩ := h
          simp only [Option.toList_some, Option.toList_none, List.cons_append, List.nil_append]
          exact i_ireturn 33 rfl rfl h
        · replace h := h.2 c
          refine i_aload_n 26 rfl rfl (by decide) ?_
          refine i_iload_n 27 rfl rfl ?_
          refine i_callV (c := 11) (y1 := m_X11_liveMany) (z1 := (2, 0, 0)) (z2 := (11, 0, 0)) [(0, a1)] 28 rfl ml_1497 ok_X11_liveMany vk_X11_liveMany ⟨by decide, rfl⟩ rfl ⟨rfl, Nat.le_of_ble_eq_true rfl⟩ (Nat.le_of_ble_eq_true rfl) ⟨by decide, rfl, rfl, rfl⟩ ?_
          refine h.mono (fun r zM10 h => ?_)
          obtain ⟨zr11, rfl, h⟩ := h
          simp only [Option.toList_some, Option.toList_none, List.cons_append, List.nil_append]
          refine i_goto 61 29 rfl (by decide) ?_
          exact i_ireturn 33 rfl rfl h
      · replace h := h.2 c
        refine i_aload_n 19 rfl rfl (by decide) ?_
        refine i_iload_n 20 rfl rfl ?_
        refine i_callV (c := 11) (y1 := m_X11_openMany) (z1 := (3, 0, 0)) (z2 := (11, 0, 0)) [(0, a1)] 21 rfl ml_1485 ok_X11_openMany vk_X11_openMany ⟨by decide, rfl⟩ rfl ⟨rfl, Nat.le_of_ble_eq_true rfl⟩ (Nat.le_of_ble_eq_true rfl) ⟨by decide, rfl, rfl, rfl⟩ ?_
        refine h.mono (fun r zM12 h => ?_)
        obtain ⟨zr13, rfl, h⟩ := h
        simp only [Option.toList_some, Option.toList_none, List.cons_append, List.nil_append]
        refine i_goto 61 22 rfl (by decide) ?_
        exact i_ireturn 33 rfl rfl h
    · replace h := h.2 c
      refine i_aload_n 10 rfl rfl (by decide) ?_
      refine i_iconst 11 rfl (by decide) ?_
      refine i_callV (c := 11) (y1 := m_X11_finds) (z1 := (1, 0, 0)) (z2 := (11, 0, 0)) [(0, 0)] 12 rfl ml_1233 ok_X11_finds vk_X11_finds ⟨by decide, rfl⟩ rfl ⟨rfl, Nat.le_of_ble_eq_true rfl⟩ (Nat.le_of_ble_eq_true rfl) ⟨by decide, rfl, rfl, rfl⟩ ?_
      refine h.mono (fun r zM14 h => ?_)
      obtain ⟨zr15, rfl, h⟩ := h
      simp only [Option.toList_some, Option.toList_none, List.cons_append, List.nil_append]
      exact i_ireturn 13 rfl rfl h
theorem u_X11_openAt_0 {l : Launch} {E : xE} (a1 a2 : Int) {M : xM} {Q : Option xV → xM → Prop} (h : x_Ev l E (2, 0, 0) m_X11_isFollower 0 [(21, 103), (0, a1)] [] M (fun r zM1 => ∃ zr2, r = some (0, zr2) ∧ (¬ zr2 = 0 → x_Ev l E (10, 0, 0) m_X11_bothOf 0 [(21, 103), (0, a1)] [] zM1 (fun r zM3 => r = none ∧ x_Ev l E (11, 0, 0) m_X11_openAt 24 [(21, 103), (0, a1), (0, a2), (0, (-1)), (0, 0)] [] zM3 Q)) ∧ (zr2 = 0 → x_Ev l E (1, 0, 0) m_X11_finds 0 [(21, 103), (0, 0)] [] zM1 (fun r zM4 => ∃ zr5, r = some (0, zr5) ∧ Q (some (0, zr5)) zM4)))) : x_Ev l E (11, 0, 0) m_X11_openAt 0 [(21, 103), (0, a1), (0, a2), (5, 0), (5, 0)] [] M Q := by
  refine i_aload_n 0 rfl rfl (by decide) ?_
  refine i_iload_n 1 rfl rfl ?_
  refine i_callV (c := 11) (y1 := m_X11_isFollower) (z1 := (2, 0, 0)) (z2 := (11, 0, 0)) [(0, a1)] 2 rfl ml_1242 ok_X11_isFollower vk_X11_isFollower ⟨by decide, rfl⟩ rfl ⟨rfl, Nat.le_of_ble_eq_true rfl⟩ (Nat.le_of_ble_eq_true rfl) ⟨by decide, rfl, rfl, rfl⟩ ?_
  refine h.mono (fun r zM1 h => ?_)
  obtain ⟨zr2, rfl, h⟩ := h
  simp only [Option.toList_some, Option.toList_none, List.cons_append, List.nil_append]
  refine i_if_ne 14 3 rfl (by decide) (fun c => ?_) (fun c => ?_)
  · replace h := h.1 c
    refine i_aload_n 8 rfl rfl (by decide) ?_
    refine i_iload_n 9 rfl rfl ?_
    refine i_callV (c := 11) (y1 := m_X11_bothOf) (z1 := (10, 0, 0)) (z2 := (11, 0, 0)) [(0, a1)] 10 rfl ml_1453 ok_X11_bothOf vk_X11_bothOf ⟨by decide, rfl⟩ rfl ⟨rfl, Nat.le_of_ble_eq_true rfl⟩ (Nat.le_of_ble_eq_true rfl) ⟨by decide, rfl, rfl, rfl⟩ ?_
    refine h.mono (fun r zM3 h => ?_)
    obtain ⟨rfl, h⟩ := h
    simp only [Option.toList_some, Option.toList_none, List.cons_append, List.nil_append]
    refine i_iconst 11 rfl (by decide) ?_
    refine i_istore_n 12 rfl (by decide) rfl ?_
    refine i_iconst 13 rfl (by decide) ?_
    refine i_istore 14 rfl (by decide) rfl ?_
    exact h
  · replace h := h.2 c
    refine i_aload_n 4 rfl rfl (by decide) ?_
    refine i_iconst 5 rfl (by decide) ?_
    refine i_callV (c := 11) (y1 := m_X11_finds) (z1 := (1, 0, 0)) (z2 := (11, 0, 0)) [(0, 0)] 6 rfl ml_1233 ok_X11_finds vk_X11_finds ⟨by decide, rfl⟩ rfl ⟨rfl, Nat.le_of_ble_eq_true rfl⟩ (Nat.le_of_ble_eq_true rfl) ⟨by decide, rfl, rfl, rfl⟩ ?_
    refine h.mono (fun r zM4 h => ?_)
    obtain ⟨zr5, rfl, h⟩ := h
    simp only [Option.toList_some, Option.toList_none, List.cons_append, List.nil_append]
    exact i_ireturn 7 rfl rfl h
theorem u_X11_openAt_24 {l : Launch} {E : xE} (l1 l2 l3 l4 : Int) {M : xM} {Q : Option xV → xM → Prop} (h : x_Ev l E (1, 0, 0) m_X11_pairs 0 [(21, 103), (0, l1)] [] M (fun r zM1 => ∃ zr2, r = some (0, zr2) ∧ ((x_ishl 1 zr2) ≤ l4 → x_Ev l E (1, 0, 0) m_X11_finds 0 [(21, 103), (0, 3)] [] zM1 (fun r zM3 => ∃ zr4, r = some (0, zr4) ∧ Q (some (0, zr4)) zM3)) ∧ (¬ (x_ishl 1 zr2) ≤ l4 → x_Ev l E (2, 0, 0) m_X11_isOpenSet 0 [(21, 103), (0, l1), (0, l4)] [] zM1 (fun r zM5 => ∃ zr6, r = some (0, zr6) ∧ (zr6 = 0 → ∀ zv7 : Int, zv7 = (x_w (l3 + 0)) → (¬ zv7 = l2 → ∀ zv8 : Int, zv8 = x_w (l4 + 1) → x_Ev l E (11, 0, 0) m_X11_openAt 24 [(21, 103), (0, l1), (0, l2), (0, zv7), (0, zv8)] [] zM5 Q) ∧ (zv7 = l2 → x_Ev l E (2, 0, 0) m_X11_isOpenSet 0 [(21, 103), (0, l1), (0, l4)] [] zM5 (fun r zM9 => ∃ zr10, r = some (0, zr10) ∧ (zr10 = 0 → ∀ zv11 : Int, zv11 = x_w (l4 + 1) → x_Ev l E (11, 0, 0) m_X11_openAt 24 [(21, 103), (0, l1), (0, l2), (0, zv7), (0, zv11)] [] zM9 Q) ∧ (¬ zr10 = 0 → Q (some (0, l4)) zM9)))) ∧ (¬ zr6 = 0 → ∀ zv12 : Int, zv12 = (x_w (l3 + 1)) → (¬ zv12 = l2 → ∀ zv13 : Int, zv13 = x_w (l4 + 1) → x_Ev l E (11, 0, 0) m_X11_openAt 24 [(21, 103), (0, l1), (0, l2), (0, zv12), (0, zv13)] [] zM5 Q) ∧ (zv12 = l2 → x_Ev l E (2, 0, 0) m_X11_isOpenSet 0 [(21, 103), (0, l1), (0, l4)] [] zM5 (fun r zM14 => ∃ zr15, r = some (0, zr15) ∧ (zr15 = 0 → ∀ zv16 : Int, zv16 = x_w (l4 + 1) → x_Ev l E (11, 0, 0) m_X11_openAt 24 [(21, 103), (0, l1), (0, l2), (0, zv12), (0, zv16)] [] zM14 Q) ∧ (¬ zr15 = 0 → Q (some (0, l4)) zM14)))))))) : x_Ev l E (11, 0, 0) m_X11_openAt 24 [(21, 103), (0, l1), (0, l2), (0, l3), (0, l4)] [] M Q := by
  refine i_iload 15 rfl rfl ?_
  refine i_iconst 16 rfl (by decide) ?_
  refine i_aload_n 17 rfl rfl (by decide) ?_
  refine i_iload_n 18 rfl rfl ?_
  refine i_callV (c := 11) (y1 := m_X11_pairs) (z1 := (1, 0, 0)) (z2 := (11, 0, 0)) [(0, l1)] 19 rfl ml_1255 ok_X11_pairs vk_X11_pairs ⟨by decide, rfl⟩ rfl ⟨rfl, Nat.le_of_ble_eq_true rfl⟩ (Nat.le_of_ble_eq_true rfl) ⟨by decide, rfl, rfl, rfl⟩ ?_
  refine h.mono (fun r zM1 h => ?_)
  obtain ⟨zr2, rfl, h⟩ := h
  simp only [Option.toList_some, Option.toList_none, List.cons_append, List.nil_append]
  refine i_ishl 20 rfl ?_
  refine i_icmp_ge 78 21 rfl (by decide) (fun c => ?_) (fun c => ?_)
  · replace h := h.1 c
    refine i_aload_n 45 rfl rfl (by decide) ?_
    refine i_iconst 46 rfl (by decide) ?_
    refine i_callV (c := 11) (y1 := m_X11_finds) (z1 := (1, 0, 0)) (z2 := (11, 0, 0)) [(0, 3)] 47 rfl ml_1233 ok_X11_finds vk_X11_finds ⟨by decide, rfl⟩ rfl ⟨rfl, Nat.le_of_ble_eq_true rfl⟩ (Nat.le_of_ble_eq_true rfl) ⟨by decide, rfl, rfl, rfl⟩ ?_
    refine h.mono (fun r zM3 h => ?_)
    obtain ⟨zr4, rfl, h⟩ := h
    simp only [Option.toList_some, Option.toList_none, List.cons_append, List.nil_append]
    exact i_ireturn 48 rfl rfl h
  · replace h := h.2 c
    refine i_iload_n 22 rfl rfl ?_
    refine i_aload_n 23 rfl rfl (by decide) ?_
    refine i_iload_n 24 rfl rfl ?_
    refine i_iload 25 rfl rfl ?_
    refine i_callV (c := 11) (y1 := m_X11_isOpenSet) (z1 := (2, 0, 0)) (z2 := (11, 0, 0)) [(0, l1), (0, l4)] 26 rfl ml_1489 ok_X11_isOpenSet vk_X11_isOpenSet ⟨by decide, rfl⟩ rfl ⟨rfl, Nat.le_of_ble_eq_true rfl⟩ (Nat.le_of_ble_eq_true rfl) ⟨by decide, rfl, rfl, rfl⟩ ?_
    refine h.mono (fun r zM5 h => ?_)
    obtain ⟨zr6, rfl, h⟩ := h
    simp only [Option.toList_some, Option.toList_none, List.cons_append, List.nil_append]
    refine i_if_eq 51 27 rfl (by decide) (fun c => ?_) (fun c => ?_)
    · replace h := h.1 c
      refine i_iconst 30 rfl (by decide) ?_
      refine i_iadd 31 rfl ?_
      replace h := h _ rfl
      refine i_istore_n 32 rfl (by decide) rfl ?_
      refine i_iload_n 33 rfl rfl ?_
      refine i_iload_n 34 rfl rfl ?_
      refine i_icmp_ne 72 35 rfl (by decide) (fun c => ?_) (fun c => ?_)
      · replace h := h.1 c
        replace h := h _ rfl
        refine i_iinc 43 rfl rfl (by decide) rfl ?_
        refine i_goto 24 44 rfl (by decide) ?_
        exact h
      · replace h := h.2 c
        refine i_aload_n 36 rfl rfl (by decide) ?_
        refine i_iload_n 37 rfl rfl ?_
        refine i_iload 38 rfl rfl ?_
        refine i_callV (c := 11) (y1 := m_X11_isOpenSet) (z1 := (2, 0, 0)) (z2 := (11, 0, 0)) [(0, l1), (0, l4)] 39 rfl ml_1489 ok_X11_isOpenSet vk_X11_isOpenSet ⟨by decide, rfl⟩ rfl ⟨rfl, Nat.le_of_ble_eq_true rfl⟩ (Nat.le_of_ble_eq_true rfl) ⟨by decide, rfl, rfl, rfl⟩ ?_
        refine h.mono (fun r zM9 h => ?_)
        obtain ⟨zr10, rfl, h⟩ := h
        simp only [Option.toList_some, Option.toList_none, List.cons_append, List.nil_append]
        refine i_if_eq 72 40 rfl (by decide) (fun c => ?_) (fun c => ?_)
        · replace h := h.1 c
          replace h := h _ rfl
          refine i_iinc 43 rfl rfl (by decide) rfl ?_
          refine i_goto 24 44 rfl (by decide) ?_
          exact h
        · replace h := h.2 c
          refine i_iload 41 rfl rfl ?_
          exact i_ireturn 42 rfl rfl h
    · replace h := h.2 c
      refine i_iconst 28 rfl (by decide) ?_
      refine i_goto 52 29 rfl (by decide) ?_
      refine i_iadd 31 rfl ?_
      replace h := h _ rfl
      refine i_istore_n 32 rfl (by decide) rfl ?_
      refine i_iload_n 33 rfl rfl ?_
      refine i_iload_n 34 rfl rfl ?_
      refine i_icmp_ne 72 35 rfl (by decide) (fun c => ?_) (fun c => ?_)
      · replace h := h.1 c
        replace h := h _ rfl
        refine i_iinc 43 rfl rfl (by decide) rfl ?_
        refine i_goto 24 44 rfl (by decide) ?_
        exact h
      · replace h := h.2 c
        refine i_aload_n 36 rfl rfl (by decide) ?_
        refine i_iload_n 37 rfl rfl ?_
        refine i_iload 38 rfl rfl ?_
        refine i_callV (c := 11) (y1 := m_X11_isOpenSet) (z1 := (2, 0, 0)) (z2 := (11, 0, 0)) [(0, l1), (0, l4)] 39 rfl ml_1489 ok_X11_isOpenSet vk_X11_isOpenSet ⟨by decide, rfl⟩ rfl ⟨rfl, Nat.le_of_ble_eq_true rfl⟩ (Nat.le_of_ble_eq_true rfl) ⟨by decide, rfl, rfl, rfl⟩ ?_
        refine h.mono (fun r zM14 h => ?_)
        obtain ⟨zr15, rfl, h⟩ := h
        simp only [Option.toList_some, Option.toList_none, List.cons_append, List.nil_append]
        refine i_if_eq 72 40 rfl (by decide) (fun c => ?_) (fun c => ?_)
        · replace h := h.1 c
          replace h := h _ rfl
          refine i_iinc 43 rfl rfl (by decide) rfl ?_
          refine i_goto 24 44 rfl (by decide) ?_
          exact h
        · replace h := h.2 c
          refine i_iload 41 rfl rfl ?_
          exact i_ireturn 42 rfl rfl h
theorem u_X11_isOpen_0 {l : Launch} {E : xE} (a1 a2 : Int) {M : xM} {Q : Option xV → xM → Prop} (h : x_Ev l E (2, 0, 0) m_X11_isFollower 0 [(21, 103), (0, a1)] [] M (fun r zM1 => ∃ zr2, r = some (0, zr2) ∧ (zr2 = 0 → x_Ev l E (1, 0, 0) m_X11_finds 0 [(21, 103), (0, 0)] [] zM1 (fun r zM3 => ∃ zr4, r = some (0, zr4) ∧ Q (some (0, zr4)) zM3)) ∧ (¬ zr2 = 0 → x_Ev l E (1, 0, 0) m_X11_pairs 0 [(21, 103), (0, a1)] [] zM1 (fun r zM5 => ∃ zr6, r = some (0, zr6) ∧ x_Ev l E (1, 0, 0) m_X11_in 0 [(1, a2), (5, 0), (1, 0), (5, 0), (1, (x_w ((x_ishl 1 zr6) - 1))), (5, 0)] [] zM5 (fun r zM7 => ∃ zr8, r = some (0, zr8) ∧ (¬ zr8 = 0 → x_Ev l E (10, 0, 0) m_X11_bothOf 0 [(21, 103), (0, a1)] [] zM7 (fun r zM9 => r = none ∧ x_Ev l E (2, 0, 0) m_X11_isOpenSet 0 [(21, 103), (0, a1), (0, a2)] [] zM9 (fun r zM10 => ∃ zr11, r = some (0, zr11) ∧ (zr11 = 0 → Q (some (0, 0)) zM10) ∧ (¬ zr11 = 0 → Q (some (0, 1)) zM10)))) ∧ (zr8 = 0 → x_Ev l E (1, 0, 0) m_X11_finds 0 [(21, 103), (0, 0)] [] zM7 (fun r zM12 => ∃ zr13, r = some (0, zr13) ∧ Q (some (0, zr13)) zM12))))))) : x_Ev l E (11, 0, 0) m_X11_isOpen 0 [(21, 103), (0, a1), (0, a2)] [] M Q := by
  refine i_aload_n 0 rfl rfl (by decide) ?_
  refine i_iload_n 1 rfl rfl ?_
  refine i_callV (c := 11) (y1 := m_X11_isFollower) (z1 := (2, 0, 0)) (z2 := (11, 0, 0)) [(0, a1)] 2 rfl ml_1242 ok_X11_isFollower vk_X11_isFollower ⟨by decide, rfl⟩ rfl ⟨rfl, Nat.le_of_ble_eq_true rfl⟩ (Nat.le_of_ble_eq_true rfl) ⟨by decide, rfl, rfl, rfl⟩ ?_
  refine h.mono (fun r zM1 h => ?_)
  obtain ⟨zr2, rfl, h⟩ := h
  simp only [Option.toList_some, Option.toList_none, List.cons_append, List.nil_append]
  refine i_if_eq 27 3 rfl (by decide) (fun c => ?_) (fun c => ?_)
  · replace h := h.1 c
    refine i_aload_n 17 rfl rfl (by decide) ?_
    refine i_iconst 18 rfl (by decide) ?_
    refine i_callV (c := 11) (y1 := m_X11_finds) (z1 := (1, 0, 0)) (z2 := (11, 0, 0)) [(0, 0)] 19 rfl ml_1233 ok_X11_finds vk_X11_finds ⟨by decide, rfl⟩ rfl ⟨rfl, Nat.le_of_ble_eq_true rfl⟩ (Nat.le_of_ble_eq_true rfl) ⟨by decide, rfl, rfl, rfl⟩ ?_
    refine h.mono (fun r zM3 h => ?_)
    obtain ⟨zr4, rfl, h⟩ := h
    simp only [Option.toList_some, Option.toList_none, List.cons_append, List.nil_append]
    exact i_ireturn 20 rfl rfl h
  · replace h := h.2 c
    refine i_iload_n 4 rfl rfl ?_
    refine i_i2l 5 rfl ?_
    refine i_lconst (w := 0) 6 rfl (by decide) ?_
    refine i_iconst 7 rfl (by decide) ?_
    refine i_aload_n 8 rfl rfl (by decide) ?_
    refine i_iload_n 9 rfl rfl ?_
    refine i_callV (c := 11) (y1 := m_X11_pairs) (z1 := (1, 0, 0)) (z2 := (11, 0, 0)) [(0, a1)] 10 rfl ml_1255 ok_X11_pairs vk_X11_pairs ⟨by decide, rfl⟩ rfl ⟨rfl, Nat.le_of_ble_eq_true rfl⟩ (Nat.le_of_ble_eq_true rfl) ⟨by decide, rfl, rfl, rfl⟩ ?_
    refine h.mono (fun r zM5 h => ?_)
    obtain ⟨zr6, rfl, h⟩ := h
    simp only [Option.toList_some, Option.toList_none, List.cons_append, List.nil_append]
    refine i_ishl 11 rfl ?_
    refine i_iconst 12 rfl (by decide) ?_
    refine i_isub 13 rfl ?_
    refine i_i2l 14 rfl ?_
    refine i_callS (y1 := m_X11_in) (z1 := (1, 0, 0)) (z2 := (11, 0, 0)) [(1, a2), (1, 0), (1, (x_w ((x_ishl 1 zr6) - 1)))] 15 rfl ml_1229 ok_X11_in vk_X11_in rfl ⟨rfl, Nat.le_of_ble_eq_true rfl⟩ (Nat.le_of_ble_eq_true rfl) ⟨by decide, rfl, rfl, rfl⟩ ?_
    refine h.mono (fun r zM7 h => ?_)
    obtain ⟨zr8, rfl, h⟩ := h
    simp only [Option.toList_some, Option.toList_none, List.cons_append, List.nil_append]
    refine i_if_ne 33 16 rfl (by decide) (fun c => ?_) (fun c => ?_)
    · replace h := h.1 c
      refine i_aload_n 21 rfl rfl (by decide) ?_
      refine i_iload_n 22 rfl rfl ?_
      refine i_callV (c := 11) (y1 := m_X11_bothOf) (z1 := (10, 0, 0)) (z2 := (11, 0, 0)) [(0, a1)] 23 rfl ml_1453 ok_X11_bothOf vk_X11_bothOf ⟨by decide, rfl⟩ rfl ⟨rfl, Nat.le_of_ble_eq_true rfl⟩ (Nat.le_of_ble_eq_true rfl) ⟨by decide, rfl, rfl, rfl⟩ ?_
      refine h.mono (fun r zM9 h => ?_)
      obtain ⟨rfl, h⟩ := h
      simp only [Option.toList_some, Option.toList_none, List.cons_append, List.nil_append]
      refine i_aload_n 24 rfl rfl (by decide) ?_
      refine i_iload_n 25 rfl rfl ?_
      refine i_iload_n 26 rfl rfl ?_
      refine i_callV (c := 11) (y1 := m_X11_isOpenSet) (z1 := (2, 0, 0)) (z2 := (11, 0, 0)) [(0, a1), (0, a2)] 27 rfl ml_1489 ok_X11_isOpenSet vk_X11_isOpenSet ⟨by decide, rfl⟩ rfl ⟨rfl, Nat.le_of_ble_eq_true rfl⟩ (Nat.le_of_ble_eq_true rfl) ⟨by decide, rfl, rfl, rfl⟩ ?_
      refine h.mono (fun r zM10 h => ?_)
      obtain ⟨zr11, rfl, h⟩ := h
      simp only [Option.toList_some, Option.toList_none, List.cons_append, List.nil_append]
      refine i_if_eq 51 28 rfl (by decide) (fun c => ?_) (fun c => ?_)
      · replace h := h.1 c
        refine i_iconst 31 rfl (by decide) ?_
        exact i_ireturn 32 rfl rfl h
      · replace h := h.2 c
        refine i_iconst 29 rfl (by decide) ?_
        refine i_goto 52 30 rfl (by decide) ?_
        exact i_ireturn 32 rfl rfl h
    · replace h := h.2 c
      refine i_aload_n 17 rfl rfl (by decide) ?_
      refine i_iconst 18 rfl (by decide) ?_
      refine i_callV (c := 11) (y1 := m_X11_finds) (z1 := (1, 0, 0)) (z2 := (11, 0, 0)) [(0, 0)] 19 rfl ml_1233 ok_X11_finds vk_X11_finds ⟨by decide, rfl⟩ rfl ⟨rfl, Nat.le_of_ble_eq_true rfl⟩ (Nat.le_of_ble_eq_true rfl) ⟨by decide, rfl, rfl, rfl⟩ ?_
      refine h.mono (fun r zM12 h => ?_)
      obtain ⟨zr13, rfl, h⟩ := h
      simp only [Option.toList_some, Option.toList_none, List.cons_append, List.nil_append]
      exact i_ireturn 20 rfl rfl h
theorem u_X11_price_0 {l : Launch} {E : xE} (a1 a2 a3 : Int) {M : xM} {Q : Option xV → xM → Prop} (h : x_Ev l E (3, 0, 0) m_X11_isRow 0 [(21, 103), (0, a1), (0, a2)] [] M (fun r zM1 => ∃ zr2, r = some (0, zr2) ∧ (zr2 = 0 → x_Ev l E (1, 0, 0) m_X11_findsLong 0 [(21, 103), (0, 0)] [] zM1 (fun r zM3 => ∃ zr4, r = some (1, zr4) ∧ Q (some (1, zr4)) zM3)) ∧ (¬ zr2 = 0 → x_Ev l E (2, 0, 0) m_X11_isPart 0 [(0, a3)] [] zM1 (fun r zM5 => ∃ zr6, r = some (0, zr6) ∧ (¬ zr6 = 0 → x_Ev l E (9, 0, 0) m_X11_prices 0 [(21, 103), (0, a1), (5, 0), (5, 0), (5, 0)] [] zM5 (fun r zM7 => r = none ∧ x_Ev l E (4, 0, 0) m_X11_theProof 0 [(21, 103), (0, a1), (5, 0), (5, 0)] [] zM7 (fun r zM8 => ∃ zr9, r = some (0, zr9) ∧ ((0 : Int) ≤ zr9 ∧ (zr9 : Int) < 40) ∧ ((0 : Int) ≤ a2 ∧ (a2 : Int) < 4) ∧ ((0 : Int) ≤ zr9 ∧ (zr9 : Int) < 40) ∧ x_Ev l E (2, 0, 0) m_X11_part 0 [(1, (zM8 (284 + 1 + 1 * zr9) a2)), (5, 0), (1, (x_W ((zM8 325 zr9) * (zM8 103 10)))), (5, 0), (0, a3), (5, 0), (5, 0)] [] zM8 (fun r zM10 => ∃ zr11, r = some (1, zr11) ∧ Q (some (1, zr11)) zM10)))) ∧ (zr6 = 0 → x_Ev l E (1, 0, 0) m_X11_findsLong 0 [(21, 103), (0, 0)] [] zM5 (fun r zM12 => ∃ zr13, r = some (1, zr13) ∧ Q (some (1, zr13)) zM12)))))) : x_Ev l E (10, 0, 0) m_X11_price 0 [(21, 103), (0, a1), (0, a2), (0, a3), (5, 0)] [] M Q := by
  refine i_aload_n 0 rfl rfl (by decide) ?_
  refine i_iload_n 1 rfl rfl ?_
  refine i_iload_n 2 rfl rfl ?_
  refine i_callV (c := 11) (y1 := m_X11_isRow) (z1 := (3, 0, 0)) (z2 := (10, 0, 0)) [(0, a1), (0, a2)] 3 rfl ml_1372 ok_X11_isRow vk_X11_isRow ⟨by decide, rfl⟩ rfl ⟨rfl, Nat.le_of_ble_eq_true rfl⟩ (Nat.le_of_ble_eq_true rfl) ⟨by decide, rfl, rfl, rfl⟩ ?_
  refine h.mono (fun r zM1 h => ?_)
  obtain ⟨zr2, rfl, h⟩ := h
  simp only [Option.toList_some, Option.toList_none, List.cons_append, List.nil_append]
  refine i_if_eq 16 4 rfl (by decide) (fun c => ?_) (fun c => ?_)
  · replace h := h.1 c
    refine i_aload_n 8 rfl rfl (by decide) ?_
    refine i_iconst 9 rfl (by decide) ?_
    refine i_callV (c := 11) (y1 := m_X11_findsLong) (z1 := (1, 0, 0)) (z2 := (10, 0, 0)) [(0, 0)] 10 rfl ml_1407 ok_X11_findsLong vk_X11_findsLong ⟨by decide, rfl⟩ rfl ⟨rfl, Nat.le_of_ble_eq_true rfl⟩ (Nat.le_of_ble_eq_true rfl) ⟨by decide, rfl, rfl, rfl⟩ ?_
    refine h.mono (fun r zM3 h => ?_)
    obtain ⟨zr4, rfl, h⟩ := h
    simp only [Option.toList_some, Option.toList_none, List.cons_append, List.nil_append]
    exact i_lreturn 11 rfl rfl h
  · replace h := h.2 c
    refine i_iload_n 5 rfl rfl ?_
    refine i_callS (y1 := m_X11_isPart) (z1 := (2, 0, 0)) (z2 := (10, 0, 0)) [(0, a3)] 6 rfl ml_1404 ok_X11_isPart vk_X11_isPart rfl ⟨rfl, Nat.le_of_ble_eq_true rfl⟩ (Nat.le_of_ble_eq_true rfl) ⟨by decide, rfl, rfl, rfl⟩ ?_
    refine h.mono (fun r zM5 h => ?_)
    obtain ⟨zr6, rfl, h⟩ := h
    simp only [Option.toList_some, Option.toList_none, List.cons_append, List.nil_append]
    refine i_if_ne 22 7 rfl (by decide) (fun c => ?_) (fun c => ?_)
    · replace h := h.1 c
      refine i_aload_n 12 rfl rfl (by decide) ?_
      refine i_iload_n 13 rfl rfl ?_
      refine i_callV (c := 11) (y1 := m_X11_prices) (z1 := (9, 0, 0)) (z2 := (10, 0, 0)) [(0, a1)] 14 rfl ml_1457 ok_X11_prices vk_X11_prices ⟨by decide, rfl⟩ rfl ⟨rfl, Nat.le_of_ble_eq_true rfl⟩ (Nat.le_of_ble_eq_true rfl) ⟨by decide, rfl, rfl, rfl⟩ ?_
      refine h.mono (fun r zM7 h => ?_)
      obtain ⟨rfl, h⟩ := h
      simp only [Option.toList_some, Option.toList_none, List.cons_append, List.nil_append]
      refine i_aload_n 15 rfl rfl (by decide) ?_
      refine i_iload_n 16 rfl rfl ?_
      refine i_callV (c := 11) (y1 := m_X11_theProof) (z1 := (4, 0, 0)) (z2 := (10, 0, 0)) [(0, a1)] 17 rfl ml_1529 ok_X11_theProof vk_X11_theProof ⟨by decide, rfl⟩ rfl ⟨rfl, Nat.le_of_ble_eq_true rfl⟩ (Nat.le_of_ble_eq_true rfl) ⟨by decide, rfl, rfl, rfl⟩ ?_
      refine h.mono (fun r zM8 h => ?_)
      obtain ⟨zr9, rfl, h⟩ := h
      simp only [Option.toList_some, Option.toList_none, List.cons_append, List.nil_append]
      refine i_istore 18 rfl (by decide) rfl ?_
      refine i_aload_n 19 rfl rfl (by decide) ?_
      refine i_getP (c := 11) (k := 34) (t := 134) (b := 284) 20 rfl fl_1083 (by decide) rfl (by decide) rfl ?_
      refine i_iload 21 rfl rfl ?_
      refine i_aald (τ := 34) (t := 125) (len := 40) (b := (284 + 1 + 1 * zr9)) 22 rfl (by decide) rfl h.1.1 h.1.2 ?_
      replace h := h.2
      refine i_iload_n 23 rfl rfl ?_
      refine i_lald (τ := 25) 24 rfl ⟨rfl, rfl, rfl, by decide⟩ h.1.1 h.1.2 ?_
      replace h := h.2
      refine i_aload_n 25 rfl rfl (by decide) ?_
      refine i_getP (c := 11) (k := 35) (t := 129) (b := 325) 26 rfl fl_1084 (by decide) rfl (by decide) rfl ?_
      refine i_iload 27 rfl rfl ?_
      refine i_lald (τ := 29) 28 rfl ⟨rfl, rfl, rfl, by decide⟩ h.1.1 h.1.2 ?_
      replace h := h.2
      refine i_aload_n 29 rfl rfl (by decide) ?_
      refine i_getL (c := 11) (k := 10) 30 rfl fl_1059 (by decide) rfl ?_
      refine i_lmul 31 rfl ?_
      refine i_iload_n 32 rfl rfl ?_
      refine i_callS (y1 := m_X11_part) (z1 := (2, 0, 0)) (z2 := (10, 0, 0)) [(1, (zM8 (284 + 1 + 1 * zr9) a2)), (1, (x_W ((zM8 325 zr9) * (zM8 103 10)))), (0, a3)] 33 rfl ml_1394 ok_X11_part vk_X11_part rfl ⟨rfl, Nat.le_of_ble_eq_true rfl⟩ (Nat.le_of_ble_eq_true rfl) ⟨by decide, rfl, rfl, rfl⟩ ?_
      refine h.mono (fun r zM10 h => ?_)
      obtain ⟨zr11, rfl, h⟩ := h
      simp only [Option.toList_some, Option.toList_none, List.cons_append, List.nil_append]
      exact i_lreturn 34 rfl rfl h
    · replace h := h.2 c
      refine i_aload_n 8 rfl rfl (by decide) ?_
      refine i_iconst 9 rfl (by decide) ?_
      refine i_callV (c := 11) (y1 := m_X11_findsLong) (z1 := (1, 0, 0)) (z2 := (10, 0, 0)) [(0, 0)] 10 rfl ml_1407 ok_X11_findsLong vk_X11_findsLong ⟨by decide, rfl⟩ rfl ⟨rfl, Nat.le_of_ble_eq_true rfl⟩ (Nat.le_of_ble_eq_true rfl) ⟨by decide, rfl, rfl, rfl⟩ ?_
      refine h.mono (fun r zM12 h => ?_)
      obtain ⟨zr13, rfl, h⟩ := h
      simp only [Option.toList_some, Option.toList_none, List.cons_append, List.nil_append]
      exact i_lreturn 11 rfl rfl h
theorem u_X11_weigh_0 {l : Launch} {E : xE} (a1 a2 : Int) {M : xM} {Q : Option xV → xM → Prop} (h : x_Ev l E (2, 0, 0) m_X11_isSheet 0 [(0, a1)] [] M (fun r zM1 => ∃ zr2, r = some (0, zr2) ∧ (zr2 = 0 → x_Ev l E (1, 0, 0) m_X11_finds 0 [(21, 103), (0, 0)] [] zM1 (fun r zM3 => ∃ zr4, r = some (0, zr4) ∧ Q (some (0, zr4)) zM3)) ∧ (¬ zr2 = 0 → x_Ev l E (2, 0, 0) m_X11_isFollower 0 [(21, 103), (0, a2)] [] zM1 (fun r zM5 => ∃ zr6, r = some (0, zr6) ∧ (¬ zr6 = 0 → ((0 : Int) ≤ a1 ∧ (a1 : Int) < 4) ∧ (0 ≤ (zM5 544 a1) → x_Ev l E (10, 0, 0) m_X11_weighed 0 [(21, 103), (0, a1), (0, a2), (5, 0), (5, 0), (5, 0), (5, 0), (5, 0), (5, 0)] [] zM5 (fun r zM7 => ∃ zr8, r = some (0, zr8) ∧ Q (some (0, zr8)) zM7)) ∧ (¬ 0 ≤ (zM5 544 a1) → x_Ev l E (1, 0, 0) m_X11_finds 0 [(21, 103), (0, 5)] [] zM5 (fun r zM9 => ∃ zr10, r = some (0, zr10) ∧ Q (some (0, zr10)) zM9))) ∧ (zr6 = 0 → x_Ev l E (1, 0, 0) m_X11_finds 0 [(21, 103), (0, 0)] [] zM5 (fun r zM11 => ∃ zr12, r = some (0, zr12) ∧ Q (some (0, zr12)) zM11)))))) : x_Ev l E (11, 0, 0) m_X11_weigh 0 [(21, 103), (0, a1), (0, a2)] [] M Q := by
  refine i_iload_n 0 rfl rfl ?_
  refine i_callS (y1 := m_X11_isSheet) (z1 := (2, 0, 0)) (z2 := (11, 0, 0)) [(0, a1)] 1 rfl ml_1541 ok_X11_isSheet vk_X11_isSheet rfl ⟨rfl, Nat.le_of_ble_eq_true rfl⟩ (Nat.le_of_ble_eq_true rfl) ⟨by decide, rfl, rfl, rfl⟩ ?_
  refine h.mono (fun r zM1 h => ?_)
  obtain ⟨zr2, rfl, h⟩ := h
  simp only [Option.toList_some, Option.toList_none, List.cons_append, List.nil_append]
  refine i_if_eq 15 2 rfl (by decide) (fun c => ?_) (fun c => ?_)
  · replace h := h.1 c
    refine i_aload_n 7 rfl rfl (by decide) ?_
    refine i_iconst 8 rfl (by decide) ?_
    refine i_callV (c := 11) (y1 := m_X11_finds) (z1 := (1, 0, 0)) (z2 := (11, 0, 0)) [(0, 0)] 9 rfl ml_1233 ok_X11_finds vk_X11_finds ⟨by decide, rfl⟩ rfl ⟨rfl, Nat.le_of_ble_eq_true rfl⟩ (Nat.le_of_ble_eq_true rfl) ⟨by decide, rfl, rfl, rfl⟩ ?_
    refine h.mono (fun r zM3 h => ?_)
    obtain ⟨zr4, rfl, h⟩ := h
    simp only [Option.toList_some, Option.toList_none, List.cons_append, List.nil_append]
    exact i_ireturn 10 rfl rfl h
  · replace h := h.2 c
    refine i_aload_n 3 rfl rfl (by decide) ?_
    refine i_iload_n 4 rfl rfl ?_
    refine i_callV (c := 11) (y1 := m_X11_isFollower) (z1 := (2, 0, 0)) (z2 := (11, 0, 0)) [(0, a2)] 5 rfl ml_1242 ok_X11_isFollower vk_X11_isFollower ⟨by decide, rfl⟩ rfl ⟨rfl, Nat.le_of_ble_eq_true rfl⟩ (Nat.le_of_ble_eq_true rfl) ⟨by decide, rfl, rfl, rfl⟩ ?_
    refine h.mono (fun r zM5 h => ?_)
    obtain ⟨zr6, rfl, h⟩ := h
    simp only [Option.toList_some, Option.toList_none, List.cons_append, List.nil_append]
    refine i_if_ne 21 6 rfl (by decide) (fun c => ?_) (fun c => ?_)
    · replace h := h.1 c
      refine i_aload_n 11 rfl rfl (by decide) ?_
      refine i_getP (c := 11) (k := 44) (t := 103) (b := 544) 12 rfl fl_1093 (by decide) rfl (by decide) rfl ?_
      refine i_iload_n 13 rfl rfl ?_
      refine i_iald (τ := 3) 14 rfl ⟨rfl, rfl, rfl, by decide⟩ h.1.1 h.1.2 ?_
      replace h := h.2
      refine i_if_ge 38 15 rfl (by decide) (fun c => ?_) (fun c => ?_)
      · replace h := h.1 c
        refine i_aload_n 20 rfl rfl (by decide) ?_
        refine i_iload_n 21 rfl rfl ?_
        refine i_iload_n 22 rfl rfl ?_
        refine i_callV (c := 11) (y1 := m_X11_weighed) (z1 := (10, 0, 0)) (z2 := (11, 0, 0)) [(0, a1), (0, a2)] 23 rfl ml_1544 ok_X11_weighed vk_X11_weighed ⟨by decide, rfl⟩ rfl ⟨rfl, Nat.le_of_ble_eq_true rfl⟩ (Nat.le_of_ble_eq_true rfl) ⟨by decide, rfl, rfl, rfl⟩ ?_
        refine h.mono (fun r zM7 h => ?_)
        obtain ⟨zr8, rfl, h⟩ := h
        simp only [Option.toList_some, Option.toList_none, List.cons_append, List.nil_append]
        exact i_ireturn 24 rfl rfl h
      · replace h := h.2 c
        refine i_aload_n 16 rfl rfl (by decide) ?_
        refine i_iconst 17 rfl (by decide) ?_
        refine i_callV (c := 11) (y1 := m_X11_finds) (z1 := (1, 0, 0)) (z2 := (11, 0, 0)) [(0, 5)] 18 rfl ml_1233 ok_X11_finds vk_X11_finds ⟨by decide, rfl⟩ rfl ⟨rfl, Nat.le_of_ble_eq_true rfl⟩ (Nat.le_of_ble_eq_true rfl) ⟨by decide, rfl, rfl, rfl⟩ ?_
        refine h.mono (fun r zM9 h => ?_)
        obtain ⟨zr10, rfl, h⟩ := h
        simp only [Option.toList_some, Option.toList_none, List.cons_append, List.nil_append]
        refine i_goto 44 19 rfl (by decide) ?_
        exact i_ireturn 24 rfl rfl h
    · replace h := h.2 c
      refine i_aload_n 7 rfl rfl (by decide) ?_
      refine i_iconst 8 rfl (by decide) ?_
      refine i_callV (c := 11) (y1 := m_X11_finds) (z1 := (1, 0, 0)) (z2 := (11, 0, 0)) [(0, 0)] 9 rfl ml_1233 ok_X11_finds vk_X11_finds ⟨by decide, rfl⟩ rfl ⟨rfl, Nat.le_of_ble_eq_true rfl⟩ (Nat.le_of_ble_eq_true rfl) ⟨by decide, rfl, rfl, rfl⟩ ?_
      refine h.mono (fun r zM11 h => ?_)
      obtain ⟨zr12, rfl, h⟩ := h
      simp only [Option.toList_some, Option.toList_none, List.cons_append, List.nil_append]
      exact i_ireturn 10 rfl rfl h
theorem u_X11_breaks_0 {l : Launch} {E : xE} (a1 : Int) {M : xM} {Q : Option xV → xM → Prop} (h : (a1 = (-1) → x_Ev l E (10, 0, 0) m_X11_plans_ 0 [(21, 103), (5, 0)] [] M (fun r zM1 => r = none ∧ x_Ev l E (6, 0, 0) m_X11_findsBreaks 0 [(21, 103), (0, a1), (5, 0)] [] zM1 (fun r zM2 => r = none ∧ Q (some (0, (zM2 103 25))) zM2))) ∧ (¬ a1 = (-1) → x_Ev l E (2, 0, 0) m_X11_isFollower 0 [(21, 103), (0, a1)] [] M (fun r zM3 => ∃ zr4, r = some (0, zr4) ∧ (¬ zr4 = 0 → x_Ev l E (10, 0, 0) m_X11_plans_ 0 [(21, 103), (5, 0)] [] zM3 (fun r zM5 => r = none ∧ x_Ev l E (6, 0, 0) m_X11_findsBreaks 0 [(21, 103), (0, a1), (5, 0)] [] zM5 (fun r zM6 => r = none ∧ Q (some (0, (zM6 103 25))) zM6))) ∧ (zr4 = 0 → x_Ev l E (1, 0, 0) m_X11_finds 0 [(21, 103), (0, 0)] [] zM3 (fun r zM7 => ∃ zr8, r = some (0, zr8) ∧ Q (some (0, zr8)) zM7))))) : x_Ev l E (11, 0, 0) m_X11_breaks 0 [(21, 103), (0, a1)] [] M Q := by
  refine i_iload_n 0 rfl rfl ?_
  refine i_iconst 1 rfl (by decide) ?_
  refine i_icmp_eq 19 2 rfl (by decide) (fun c => ?_) (fun c => ?_)
  · replace h := h.1 c
    refine i_aload_n 11 rfl rfl (by decide) ?_
    refine i_callV (c := 11) (y1 := m_X11_plans_) (z1 := (10, 0, 0)) (z2 := (11, 0, 0)) [] 12 rfl ml_1425 ok_X11_plans_ vk_X11_plans_ ⟨by decide, rfl⟩ rfl ⟨rfl, Nat.le_of_ble_eq_true rfl⟩ (Nat.le_of_ble_eq_true rfl) ⟨by decide, rfl, rfl, rfl⟩ ?_
    refine h.mono (fun r zM1 h => ?_)
    obtain ⟨rfl, h⟩ := h
    simp only [Option.toList_some, Option.toList_none, List.cons_append, List.nil_append]
    refine i_aload_n 13 rfl rfl (by decide) ?_
    refine i_iload_n 14 rfl rfl ?_
    refine i_callV (c := 11) (y1 := m_X11_findsBreaks) (z1 := (6, 0, 0)) (z2 := (11, 0, 0)) [(0, a1)] 15 rfl ml_1566 ok_X11_findsBreaks vk_X11_findsBreaks ⟨by decide, rfl⟩ rfl ⟨rfl, Nat.le_of_ble_eq_true rfl⟩ (Nat.le_of_ble_eq_true rfl) ⟨by decide, rfl, rfl, rfl⟩ ?_
    refine h.mono (fun r zM2 h => ?_)
    obtain ⟨rfl, h⟩ := h
    simp only [Option.toList_some, Option.toList_none, List.cons_append, List.nil_append]
    refine i_aload_n 16 rfl rfl (by decide) ?_
    refine i_getI (c := 11) (k := 25) 17 rfl fl_1074 (by decide) (by decide) ?_
    exact i_ireturn 18 rfl rfl h
  · replace h := h.2 c
    refine i_aload_n 3 rfl rfl (by decide) ?_
    refine i_iload_n 4 rfl rfl ?_
    refine i_callV (c := 11) (y1 := m_X11_isFollower) (z1 := (2, 0, 0)) (z2 := (11, 0, 0)) [(0, a1)] 5 rfl ml_1242 ok_X11_isFollower vk_X11_isFollower ⟨by decide, rfl⟩ rfl ⟨rfl, Nat.le_of_ble_eq_true rfl⟩ (Nat.le_of_ble_eq_true rfl) ⟨by decide, rfl, rfl, rfl⟩ ?_
    refine h.mono (fun r zM3 h => ?_)
    obtain ⟨zr4, rfl, h⟩ := h
    simp only [Option.toList_some, Option.toList_none, List.cons_append, List.nil_append]
    refine i_if_ne 19 6 rfl (by decide) (fun c => ?_) (fun c => ?_)
    · replace h := h.1 c
      refine i_aload_n 11 rfl rfl (by decide) ?_
      refine i_callV (c := 11) (y1 := m_X11_plans_) (z1 := (10, 0, 0)) (z2 := (11, 0, 0)) [] 12 rfl ml_1425 ok_X11_plans_ vk_X11_plans_ ⟨by decide, rfl⟩ rfl ⟨rfl, Nat.le_of_ble_eq_true rfl⟩ (Nat.le_of_ble_eq_true rfl) ⟨by decide, rfl, rfl, rfl⟩ ?_
      refine h.mono (fun r zM5 h => ?_)
      obtain ⟨rfl, h⟩ := h
      simp only [Option.toList_some, Option.toList_none, List.cons_append, List.nil_append]
      refine i_aload_n 13 rfl rfl (by decide) ?_
      refine i_iload_n 14 rfl rfl ?_
      refine i_callV (c := 11) (y1 := m_X11_findsBreaks) (z1 := (6, 0, 0)) (z2 := (11, 0, 0)) [(0, a1)] 15 rfl ml_1566 ok_X11_findsBreaks vk_X11_findsBreaks ⟨by decide, rfl⟩ rfl ⟨rfl, Nat.le_of_ble_eq_true rfl⟩ (Nat.le_of_ble_eq_true rfl) ⟨by decide, rfl, rfl, rfl⟩ ?_
      refine h.mono (fun r zM6 h => ?_)
      obtain ⟨rfl, h⟩ := h
      simp only [Option.toList_some, Option.toList_none, List.cons_append, List.nil_append]
      refine i_aload_n 16 rfl rfl (by decide) ?_
      refine i_getI (c := 11) (k := 25) 17 rfl fl_1074 (by decide) (by decide) ?_
      exact i_ireturn 18 rfl rfl h
    · replace h := h.2 c
      refine i_aload_n 7 rfl rfl (by decide) ?_
      refine i_iconst 8 rfl (by decide) ?_
      refine i_callV (c := 11) (y1 := m_X11_finds) (z1 := (1, 0, 0)) (z2 := (11, 0, 0)) [(0, 0)] 9 rfl ml_1233 ok_X11_finds vk_X11_finds ⟨by decide, rfl⟩ rfl ⟨rfl, Nat.le_of_ble_eq_true rfl⟩ (Nat.le_of_ble_eq_true rfl) ⟨by decide, rfl, rfl, rfl⟩ ?_
      refine h.mono (fun r zM7 h => ?_)
      obtain ⟨zr8, rfl, h⟩ := h
      simp only [Option.toList_some, Option.toList_none, List.cons_append, List.nil_append]
      exact i_ireturn 10 rfl rfl h
theorem u_X11_breakAt_0 {l : Launch} {E : xE} (a1 a2 a3 : Int) {M : xM} {Q : Option xV → xM → Prop} (h : (a1 = (-1) → x_Ev l E (2, 0, 0) m_X11_isPart 0 [(0, a3)] [] M (fun r zM1 => ∃ zr2, r = some (0, zr2) ∧ (¬ zr2 = 0 → x_Ev l E (10, 0, 0) m_X11_plans_ 0 [(21, 103), (5, 0)] [] zM1 (fun r zM3 => r = none ∧ x_Ev l E (6, 0, 0) m_X11_findsBreaks 0 [(21, 103), (0, a1), (5, 0)] [] zM3 (fun r zM4 => r = none ∧ x_Ev l E (1, 0, 0) m_X11_in 0 [(1, a2), (5, 0), (1, 0), (5, 0), (1, (x_w ((zM4 103 25) - 1))), (5, 0)] [] zM4 (fun r zM5 => ∃ zr6, r = some (0, zr6) ∧ (zr6 = 0 → x_Ev l E (1, 0, 0) m_X11_findsLong 0 [(21, 103), (0, 0)] [] zM5 (fun r zM7 => ∃ zr8, r = some (1, zr8) ∧ Q (some (1, zr8)) zM7)) ∧ (¬ zr6 = 0 → (¬ a3 = 0 → ((0 : Int) ≤ a2 ∧ (a2 : Int) < 200) ∧ Q (some (1, (zM5 283 a2))) zM5) ∧ (a3 = 0 → ((0 : Int) ≤ a2 ∧ (a2 : Int) < 200) ∧ Q (some (1, (zM5 282 a2))) zM5)))))) ∧ (zr2 = 0 → x_Ev l E (1, 0, 0) m_X11_findsLong 0 [(21, 103), (0, 0)] [] zM1 (fun r zM9 => ∃ zr10, r = some (1, zr10) ∧ Q (some (1, zr10)) zM9)))) ∧ (¬ a1 = (-1) → x_Ev l E (2, 0, 0) m_X11_isFollower 0 [(21, 103), (0, a1)] [] M (fun r zM11 => ∃ zr12, r = some (0, zr12) ∧ (zr12 = 0 → x_Ev l E (1, 0, 0) m_X11_findsLong 0 [(21, 103), (0, 0)] [] zM11 (fun r zM13 => ∃ zr14, r = some (1, zr14) ∧ Q (some (1, zr14)) zM13)) ∧ (¬ zr12 = 0 → x_Ev l E (2, 0, 0) m_X11_isPart 0 [(0, a3)] [] zM11 (fun r zM15 => ∃ zr16, r = some (0, zr16) ∧ (¬ zr16 = 0 → x_Ev l E (10, 0, 0) m_X11_plans_ 0 [(21, 103), (5, 0)] [] zM15 (fun r zM17 => r = none ∧ x_Ev l E (6, 0, 0) m_X11_findsBreaks 0 [(21, 103), (0, a1), (5, 0)] [] zM17 (fun r zM18 => r = none ∧ x_Ev l E (1, 0, 0) m_X11_in 0 [(1, a2), (5, 0), (1, 0), (5, 0), (1, (x_w ((zM18 103 25) - 1))), (5, 0)] [] zM18 (fun r zM19 => ∃ zr20, r = some (0, zr20) ∧ (zr20 = 0 → x_Ev l E (1, 0, 0) m_X11_findsLong 0 [(21, 103), (0, 0)] [] zM19 (fun r zM21 => ∃ zr22, r = some (1, zr22) ∧ Q (some (1, zr22)) zM21)) ∧ (¬ zr20 = 0 → (¬ a3 = 0 → ((0 : Int) ≤ a2 ∧ (a2 : Int) < 200) ∧ Q (some (1, (zM19 283 a2))) zM19) ∧ (a3 = 0 → ((0 : Int) ≤ a2 ∧ (a2 : Int) < 200) ∧ Q (some (1, (zM19 282 a2))) zM19)))))) ∧ (zr16 = 0 → x_Ev l E (1, 0, 0) m_X11_findsLong 0 [(21, 103), (0, 0)] [] zM15 (fun r zM23 => ∃ zr24, r = some (1, zr24) ∧ Q (some (1, zr24)) zM23))))))) : x_Ev l E (11, 0, 0) m_X11_breakAt 0 [(21, 103), (0, a1), (0, a2), (0, a3)] [] M Q := by
  refine i_iload_n 0 rfl rfl ?_
  refine i_iconst 1 rfl (by decide) ?_
  refine i_icmp_eq 13 2 rfl (by decide) (fun c => ?_) (fun c => ?_)
  · replace h := h.1 c
    refine i_iload_n 7 rfl rfl ?_
    refine i_callS (y1 := m_X11_isPart) (z1 := (2, 0, 0)) (z2 := (11, 0, 0)) [(0, a3)] 8 rfl ml_1404 ok_X11_isPart vk_X11_isPart rfl ⟨rfl, Nat.le_of_ble_eq_true rfl⟩ (Nat.le_of_ble_eq_true rfl) ⟨by decide, rfl, rfl, rfl⟩ ?_
    refine h.mono (fun r zM1 h => ?_)
    obtain ⟨zr2, rfl, h⟩ := h
    simp only [Option.toList_some, Option.toList_none, List.cons_append, List.nil_append]
    refine i_if_ne 26 9 rfl (by decide) (fun c => ?_) (fun c => ?_)
    · replace h := h.1 c
      refine i_aload_n 14 rfl rfl (by decide) ?_
      refine i_callV (c := 11) (y1 := m_X11_plans_) (z1 := (10, 0, 0)) (z2 := (11, 0, 0)) [] 15 rfl ml_1425 ok_X11_plans_ vk_X11_plans_ ⟨by decide, rfl⟩ rfl ⟨rfl, Nat.le_of_ble_eq_true rfl⟩ (Nat.le_of_ble_eq_true rfl) ⟨by decide, rfl, rfl, rfl⟩ ?_
      refine h.mono (fun r zM3 h => ?_)
      obtain ⟨rfl, h⟩ := h
      simp only [Option.toList_some, Option.toList_none, List.cons_append, List.nil_append]
      refine i_aload_n 16 rfl rfl (by decide) ?_
      refine i_iload_n 17 rfl rfl ?_
      refine i_callV (c := 11) (y1 := m_X11_findsBreaks) (z1 := (6, 0, 0)) (z2 := (11, 0, 0)) [(0, a1)] 18 rfl ml_1566 ok_X11_findsBreaks vk_X11_findsBreaks ⟨by decide, rfl⟩ rfl ⟨rfl, Nat.le_of_ble_eq_true rfl⟩ (Nat.le_of_ble_eq_true rfl) ⟨by decide, rfl, rfl, rfl⟩ ?_
      refine h.mono (fun r zM4 h => ?_)
      obtain ⟨rfl, h⟩ := h
      simp only [Option.toList_some, Option.toList_none, List.cons_append, List.nil_append]
      refine i_iload_n 19 rfl rfl ?_
      refine i_i2l 20 rfl ?_
      refine i_lconst (w := 0) 21 rfl (by decide) ?_
      refine i_aload_n 22 rfl rfl (by decide) ?_
      refine i_getI (c := 11) (k := 25) 23 rfl fl_1074 (by decide) (by decide) ?_
      refine i_iconst 24 rfl (by decide) ?_
      refine i_isub 25 rfl ?_
      refine i_i2l 26 rfl ?_
      refine i_callS (y1 := m_X11_in) (z1 := (1, 0, 0)) (z2 := (11, 0, 0)) [(1, a2), (1, 0), (1, (x_w ((zM4 103 25) - 1)))] 27 rfl ml_1229 ok_X11_in vk_X11_in rfl ⟨rfl, Nat.le_of_ble_eq_true rfl⟩ (Nat.le_of_ble_eq_true rfl) ⟨by decide, rfl, rfl, rfl⟩ ?_
      refine h.mono (fun r zM5 h => ?_)
      obtain ⟨zr6, rfl, h⟩ := h
      simp only [Option.toList_some, Option.toList_none, List.cons_append, List.nil_append]
      refine i_if_eq 73 28 rfl (by decide) (fun c => ?_) (fun c => ?_)
      · replace h := h.1 c
        refine i_aload_n 41 rfl rfl (by decide) ?_
        refine i_iconst 42 rfl (by decide) ?_
        refine i_callV (c := 11) (y1 := m_X11_findsLong) (z1 := (1, 0, 0)) (z2 := (11, 0, 0)) [(0, 0)] 43 rfl ml_1407 ok_X11_findsLong vk_X11_findsLong ⟨by decide, rfl⟩ rfl ⟨rfl, Nat.le_of_ble_eq_true rfl⟩ (Nat.le_of_ble_eq_true rfl) ⟨by decide, rfl, rfl, rfl⟩ ?_
        refine h.mono (fun r zM7 h => ?_)
        obtain ⟨zr8, rfl, h⟩ := h
        simp only [Option.toList_some, Option.toList_none, List.cons_append, List.nil_append]
        exact i_lreturn 44 rfl rfl h
      · replace h := h.2 c
        refine i_iload_n 29 rfl rfl ?_
        refine i_if_ne 64 30 rfl (by decide) (fun c => ?_) (fun c => ?_)
        · replace h := h.1 c
          refine i_aload_n 36 rfl rfl (by decide) ?_
          refine i_getP (c := 11) (k := 27) (t := 133) (b := 283) 37 rfl fl_1076 (by decide) rfl (by decide) rfl ?_
          refine i_iload_n 38 rfl rfl ?_
          refine i_lald (τ := 33) 39 rfl ⟨rfl, rfl, rfl, by decide⟩ h.1.1 h.1.2 ?_
          replace h := h.2
          refine i_goto 78 40 rfl (by decide) ?_
          exact i_lreturn 44 rfl rfl h
        · replace h := h.2 c
          refine i_aload_n 31 rfl rfl (by decide) ?_
          refine i_getP (c := 11) (k := 26) (t := 133) (b := 282) 32 rfl fl_1075 (by decide) rfl (by decide) rfl ?_
          refine i_iload_n 33 rfl rfl ?_
          refine i_lald (τ := 33) 34 rfl ⟨rfl, rfl, rfl, by decide⟩ h.1.1 h.1.2 ?_
          replace h := h.2
          refine i_goto 78 35 rfl (by decide) ?_
          exact i_lreturn 44 rfl rfl h
    · replace h := h.2 c
      refine i_aload_n 10 rfl rfl (by decide) ?_
      refine i_iconst 11 rfl (by decide) ?_
      refine i_callV (c := 11) (y1 := m_X11_findsLong) (z1 := (1, 0, 0)) (z2 := (11, 0, 0)) [(0, 0)] 12 rfl ml_1407 ok_X11_findsLong vk_X11_findsLong ⟨by decide, rfl⟩ rfl ⟨rfl, Nat.le_of_ble_eq_true rfl⟩ (Nat.le_of_ble_eq_true rfl) ⟨by decide, rfl, rfl, rfl⟩ ?_
      refine h.mono (fun r zM9 h => ?_)
      obtain ⟨zr10, rfl, h⟩ := h
      simp only [Option.toList_some, Option.toList_none, List.cons_append, List.nil_append]
      exact i_lreturn 13 rfl rfl h
  · replace h := h.2 c
    refine i_aload_n 3 rfl rfl (by decide) ?_
    refine i_iload_n 4 rfl rfl ?_
    refine i_callV (c := 11) (y1 := m_X11_isFollower) (z1 := (2, 0, 0)) (z2 := (11, 0, 0)) [(0, a1)] 5 rfl ml_1242 ok_X11_isFollower vk_X11_isFollower ⟨by decide, rfl⟩ rfl ⟨rfl, Nat.le_of_ble_eq_true rfl⟩ (Nat.le_of_ble_eq_true rfl) ⟨by decide, rfl, rfl, rfl⟩ ?_
    refine h.mono (fun r zM11 h => ?_)
    obtain ⟨zr12, rfl, h⟩ := h
    simp only [Option.toList_some, Option.toList_none, List.cons_append, List.nil_append]
    refine i_if_eq 20 6 rfl (by decide) (fun c => ?_) (fun c => ?_)
    · replace h := h.1 c
      refine i_aload_n 10 rfl rfl (by decide) ?_
      refine i_iconst 11 rfl (by decide) ?_
      refine i_callV (c := 11) (y1 := m_X11_findsLong) (z1 := (1, 0, 0)) (z2 := (11, 0, 0)) [(0, 0)] 12 rfl ml_1407 ok_X11_findsLong vk_X11_findsLong ⟨by decide, rfl⟩ rfl ⟨rfl, Nat.le_of_ble_eq_true rfl⟩ (Nat.le_of_ble_eq_true rfl) ⟨by decide, rfl, rfl, rfl⟩ ?_
      refine h.mono (fun r zM13 h => ?_)
      obtain ⟨zr14, rfl, h⟩ := h
      simp only [Option.toList_some, Option.toList_none, List.cons_append, List.nil_append]
      exact i_lreturn 13 rfl rfl h
    · replace h := h.2 c
      refine i_iload_n 7 rfl rfl ?_
      refine i_callS (y1 := m_X11_isPart) (z1 := (2, 0, 0)) (z2 := (11, 0, 0)) [(0, a3)] 8 rfl ml_1404 ok_X11_isPart vk_X11_isPart rfl ⟨rfl, Nat.le_of_ble_eq_true rfl⟩ (Nat.le_of_ble_eq_true rfl) ⟨by decide, rfl, rfl, rfl⟩ ?_
      refine h.mono (fun r zM15 h => ?_)
      obtain ⟨zr16, rfl, h⟩ := h
      simp only [Option.toList_some, Option.toList_none, List.cons_append, List.nil_append]
      refine i_if_ne 26 9 rfl (by decide) (fun c => ?_) (fun c => ?_)
      · replace h := h.1 c
        refine i_aload_n 14 rfl rfl (by decide) ?_
        refine i_callV (c := 11) (y1 := m_X11_plans_) (z1 := (10, 0, 0)) (z2 := (11, 0, 0)) [] 15 rfl ml_1425 ok_X11_plans_ vk_X11_plans_ ⟨by decide, rfl⟩ rfl ⟨rfl, Nat.le_of_ble_eq_true rfl⟩ (Nat.le_of_ble_eq_true rfl) ⟨by decide, rfl, rfl, rfl⟩ ?_
        refine h.mono (fun r zM17 h => ?_)
        obtain ⟨rfl, h⟩ := h
        simp only [Option.toList_some, Option.toList_none, List.cons_append, List.nil_append]
        refine i_aload_n 16 rfl rfl (by decide) ?_
        refine i_iload_n 17 rfl rfl ?_
        refine i_callV (c := 11) (y1 := m_X11_findsBreaks) (z1 := (6, 0, 0)) (z2 := (11, 0, 0)) [(0, a1)] 18 rfl ml_1566 ok_X11_findsBreaks vk_X11_findsBreaks ⟨by decide, rfl⟩ rfl ⟨rfl, Nat.le_of_ble_eq_true rfl⟩ (Nat.le_of_ble_eq_true rfl) ⟨by decide, rfl, rfl, rfl⟩ ?_
        refine h.mono (fun r zM18 h => ?_)
        obtain ⟨rfl, h⟩ := h
        simp only [Option.toList_some, Option.toList_none, List.cons_append, List.nil_append]
        refine i_iload_n 19 rfl rfl ?_
        refine i_i2l 20 rfl ?_
        refine i_lconst (w := 0) 21 rfl (by decide) ?_
        refine i_aload_n 22 rfl rfl (by decide) ?_
        refine i_getI (c := 11) (k := 25) 23 rfl fl_1074 (by decide) (by decide) ?_
        refine i_iconst 24 rfl (by decide) ?_
        refine i_isub 25 rfl ?_
        refine i_i2l 26 rfl ?_
        refine i_callS (y1 := m_X11_in) (z1 := (1, 0, 0)) (z2 := (11, 0, 0)) [(1, a2), (1, 0), (1, (x_w ((zM18 103 25) - 1)))] 27 rfl ml_1229 ok_X11_in vk_X11_in rfl ⟨rfl, Nat.le_of_ble_eq_true rfl⟩ (Nat.le_of_ble_eq_true rfl) ⟨by decide, rfl, rfl, rfl⟩ ?_
        refine h.mono (fun r zM19 h => ?_)
        obtain ⟨zr20, rfl, h⟩ := h
        simp only [Option.toList_some, Option.toList_none, List.cons_append, List.nil_append]
        refine i_if_eq 73 28 rfl (by decide) (fun c => ?_) (fun c => ?_)
        · replace h := h.1 c
          refine i_aload_n 41 rfl rfl (by decide) ?_
          refine i_iconst 42 rfl (by decide) ?_
          refine i_callV (c := 11) (y1 := m_X11_findsLong) (z1 := (1, 0, 0)) (z2 := (11, 0, 0)) [(0, 0)] 43 rfl ml_1407 ok_X11_findsLong vk_X11_findsLong ⟨by decide, rfl⟩ rfl ⟨rfl, Nat.le_of_ble_eq_true rfl⟩ (Nat.le_of_ble_eq_true rfl) ⟨by decide, rfl, rfl, rfl⟩ ?_
          refine h.mono (fun r zM21 h => ?_)
          obtain ⟨zr22, rfl, h⟩ := h
          simp only [Option.toList_some, Option.toList_none, List.cons_append, List.nil_append]
          exact i_lreturn 44 rfl rfl h
        · replace h := h.2 c
          refine i_iload_n 29 rfl rfl ?_
          refine i_if_ne 64 30 rfl (by decide) (fun c => ?_) (fun c => ?_)
          · replace h := h.1 c
            refine i_aload_n 36 rfl rfl (by decide) ?_
            refine i_getP (c := 11) (k := 27) (t := 133) (b := 283) 37 rfl fl_1076 (by decide) rfl (by decide) rfl ?_
            refine i_iload_n 38 rfl rfl ?_
            refine i_lald (τ := 33) 39 rfl ⟨rfl, rfl, rfl, by decide⟩ h.1.1 h.1.2 ?_
            replace h := h.2
            refine i_goto 78 40 rfl (by decide) ?_
            exact i_lreturn 44 rfl rfl h
          · replace h := h.2 c
            refine i_aload_n 31 rfl rfl (by decide) ?_
            refine i_getP (c := 11) (k := 26) (t := 133) (b := 282) 32 rfl fl_1075 (by decide) rfl (by decide) rfl ?_
            refine i_iload_n 33 rfl rfl ?_
            refine i_lald (τ := 33) 34 rfl ⟨rfl, rfl, rfl, by decide⟩ h.1.1 h.1.2 ?_
            replace h := h.2
            refine i_goto 78 35 rfl (by decide) ?_
            exact i_lreturn 44 rfl rfl h
      · replace h := h.2 c
        refine i_aload_n 10 rfl rfl (by decide) ?_
        refine i_iconst 11 rfl (by decide) ?_
        refine i_callV (c := 11) (y1 := m_X11_findsLong) (z1 := (1, 0, 0)) (z2 := (11, 0, 0)) [(0, 0)] 12 rfl ml_1407 ok_X11_findsLong vk_X11_findsLong ⟨by decide, rfl⟩ rfl ⟨rfl, Nat.le_of_ble_eq_true rfl⟩ (Nat.le_of_ble_eq_true rfl) ⟨by decide, rfl, rfl, rfl⟩ ?_
        refine h.mono (fun r zM23 h => ?_)
        obtain ⟨zr24, rfl, h⟩ := h
        simp only [Option.toList_some, Option.toList_none, List.cons_append, List.nil_append]
        exact i_lreturn 13 rfl rfl h
theorem u_X11_piece_0 {l : Launch} {E : xE} (a1 a2 : Int) {M : xM} {Q : Option xV → xM → Prop} (h : x_Ev l E (10, 0, 0) m_X11_plans_ 0 [(21, 103), (5, 0)] [] M (fun r zM1 => r = none ∧ x_Ev l E (6, 0, 0) m_X11_findsBreaks 0 [(21, 103), (0, (-1)), (5, 0)] [] zM1 (fun r zM2 => r = none ∧ x_Ev l E (1, 0, 0) m_X11_in 0 [(1, a1), (5, 0), (1, 0), (5, 0), (1, (zM2 103 25)), (5, 0)] [] zM2 (fun r zM3 => ∃ zr4, r = some (0, zr4) ∧ (zr4 = 0 → x_Ev l E (1, 0, 0) m_X11_findsLong 0 [(21, 103), (0, 0)] [] zM3 (fun r zM5 => ∃ zr6, r = some (1, zr6) ∧ Q (some (1, zr6)) zM5)) ∧ (¬ zr4 = 0 → x_Ev l E (1, 0, 0) m_X11_in 0 [(1, a2), (5, 0), (1, 0), (5, 0), (1, 5), (5, 0)] [] zM3 (fun r zM7 => ∃ zr8, r = some (0, zr8) ∧ (zr8 = 0 → x_Ev l E (1, 0, 0) m_X11_findsLong 0 [(21, 103), (0, 0)] [] zM7 (fun r zM9 => ∃ zr10, r = some (1, zr10) ∧ Q (some (1, zr10)) zM9)) ∧ (¬ zr8 = 0 → x_Ev l E (6, 0, 0) m_X11_pieceOf 0 [(21, 103), (0, a1), (0, a2)] [] zM7 (fun r zM11 => ∃ zr12, r = some (1, zr12) ∧ Q (some (1, zr12)) zM11)))))))) : x_Ev l E (11, 0, 0) m_X11_piece 0 [(21, 103), (0, a1), (0, a2)] [] M Q := by
  refine i_aload_n 0 rfl rfl (by decide) ?_
  refine i_callV (c := 11) (y1 := m_X11_plans_) (z1 := (10, 0, 0)) (z2 := (11, 0, 0)) [] 1 rfl ml_1425 ok_X11_plans_ vk_X11_plans_ ⟨by decide, rfl⟩ rfl ⟨rfl, Nat.le_of_ble_eq_true rfl⟩ (Nat.le_of_ble_eq_true rfl) ⟨by decide, rfl, rfl, rfl⟩ ?_
  refine h.mono (fun r zM1 h => ?_)
  obtain ⟨rfl, h⟩ := h
  simp only [Option.toList_some, Option.toList_none, List.cons_append, List.nil_append]
  refine i_aload_n 2 rfl rfl (by decide) ?_
  refine i_iconst 3 rfl (by decide) ?_
  refine i_callV (c := 11) (y1 := m_X11_findsBreaks) (z1 := (6, 0, 0)) (z2 := (11, 0, 0)) [(0, (-1))] 4 rfl ml_1566 ok_X11_findsBreaks vk_X11_findsBreaks ⟨by decide, rfl⟩ rfl ⟨rfl, Nat.le_of_ble_eq_true rfl⟩ (Nat.le_of_ble_eq_true rfl) ⟨by decide, rfl, rfl, rfl⟩ ?_
  refine h.mono (fun r zM2 h => ?_)
  obtain ⟨rfl, h⟩ := h
  simp only [Option.toList_some, Option.toList_none, List.cons_append, List.nil_append]
  refine i_iload_n 5 rfl rfl ?_
  refine i_i2l 6 rfl ?_
  refine i_lconst (w := 0) 7 rfl (by decide) ?_
  refine i_aload_n 8 rfl rfl (by decide) ?_
  refine i_getI (c := 11) (k := 25) 9 rfl fl_1074 (by decide) (by decide) ?_
  refine i_i2l 10 rfl ?_
  refine i_callS (y1 := m_X11_in) (z1 := (1, 0, 0)) (z2 := (11, 0, 0)) [(1, a1), (1, 0), (1, (zM2 103 25))] 11 rfl ml_1229 ok_X11_in vk_X11_in rfl ⟨rfl, Nat.le_of_ble_eq_true rfl⟩ (Nat.le_of_ble_eq_true rfl) ⟨by decide, rfl, rfl, rfl⟩ ?_
  refine h.mono (fun r zM3 h => ?_)
  obtain ⟨zr4, rfl, h⟩ := h
  simp only [Option.toList_some, Option.toList_none, List.cons_append, List.nil_append]
  refine i_if_eq 44 12 rfl (by decide) (fun c => ?_) (fun c => ?_)
  · replace h := h.1 c
    refine i_aload_n 24 rfl rfl (by decide) ?_
    refine i_iconst 25 rfl (by decide) ?_
    refine i_callV (c := 11) (y1 := m_X11_findsLong) (z1 := (1, 0, 0)) (z2 := (11, 0, 0)) [(0, 0)] 26 rfl ml_1407 ok_X11_findsLong vk_X11_findsLong ⟨by decide, rfl⟩ rfl ⟨rfl, Nat.le_of_ble_eq_true rfl⟩ (Nat.le_of_ble_eq_true rfl) ⟨by decide, rfl, rfl, rfl⟩ ?_
    refine h.mono (fun r zM5 h => ?_)
    obtain ⟨zr6, rfl, h⟩ := h
    simp only [Option.toList_some, Option.toList_none, List.cons_append, List.nil_append]
    exact i_lreturn 27 rfl rfl h
  · replace h := h.2 c
    refine i_iload_n 13 rfl rfl ?_
    refine i_i2l 14 rfl ?_
    refine i_lconst (w := 0) 15 rfl (by decide) ?_
    refine i_ldc2 (v := 5) 16 rfl cw_1590 (by decide) ?_
    refine i_callS (y1 := m_X11_in) (z1 := (1, 0, 0)) (z2 := (11, 0, 0)) [(1, a2), (1, 0), (1, 5)] 17 rfl ml_1229 ok_X11_in vk_X11_in rfl ⟨rfl, Nat.le_of_ble_eq_true rfl⟩ (Nat.le_of_ble_eq_true rfl) ⟨by decide, rfl, rfl, rfl⟩ ?_
    refine h.mono (fun r zM7 h => ?_)
    obtain ⟨zr8, rfl, h⟩ := h
    simp only [Option.toList_some, Option.toList_none, List.cons_append, List.nil_append]
    refine i_if_eq 44 18 rfl (by decide) (fun c => ?_) (fun c => ?_)
    · replace h := h.1 c
      refine i_aload_n 24 rfl rfl (by decide) ?_
      refine i_iconst 25 rfl (by decide) ?_
      refine i_callV (c := 11) (y1 := m_X11_findsLong) (z1 := (1, 0, 0)) (z2 := (11, 0, 0)) [(0, 0)] 26 rfl ml_1407 ok_X11_findsLong vk_X11_findsLong ⟨by decide, rfl⟩ rfl ⟨rfl, Nat.le_of_ble_eq_true rfl⟩ (Nat.le_of_ble_eq_true rfl) ⟨by decide, rfl, rfl, rfl⟩ ?_
      refine h.mono (fun r zM9 h => ?_)
      obtain ⟨zr10, rfl, h⟩ := h
      simp only [Option.toList_some, Option.toList_none, List.cons_append, List.nil_append]
      exact i_lreturn 27 rfl rfl h
    · replace h := h.2 c
      refine i_aload_n 19 rfl rfl (by decide) ?_
      refine i_iload_n 20 rfl rfl ?_
      refine i_iload_n 21 rfl rfl ?_
      refine i_callV (c := 11) (y1 := m_X11_pieceOf) (z1 := (6, 0, 0)) (z2 := (11, 0, 0)) [(0, a1), (0, a2)] 22 rfl ml_1591 ok_X11_pieceOf vk_X11_pieceOf ⟨by decide, rfl⟩ rfl ⟨rfl, Nat.le_of_ble_eq_true rfl⟩ (Nat.le_of_ble_eq_true rfl) ⟨by decide, rfl, rfl, rfl⟩ ?_
      refine h.mono (fun r zM11 h => ?_)
      obtain ⟨zr12, rfl, h⟩ := h
      simp only [Option.toList_some, Option.toList_none, List.cons_append, List.nil_append]
      refine i_goto 49 23 rfl (by decide) ?_
      exact i_lreturn 27 rfl rfl h
theorem u_X11_best_0 {l : Launch} {E : xE} (a1 : Int) {M : xM} {Q : Option xV → xM → Prop} (h : x_Ev l E (1, 0, 0) m_X11_in 0 [(1, a1), (5, 0), (1, 0), (5, 0), (1, 4), (5, 0)] [] M (fun r zM1 => ∃ zr2, r = some (0, zr2) ∧ (¬ zr2 = 0 → x_Ev l E (10, 0, 0) m_X11_plans_ 0 [(21, 103), (5, 0)] [] zM1 (fun r zM3 => r = none ∧ x_Ev l E (7, 0, 0) m_X11_findsBest 0 [(21, 103), (5, 0), (5, 0), (5, 0)] [] zM3 (fun r zM4 => r = none ∧ x_Ev l E (1, 1, 5) m_X11_toldBest 0 [(21, 103), (0, a1), (5, 0)] [] zM4 (fun r zM5 => ∃ zr6, r = some (1, zr6) ∧ Q (some (1, zr6)) zM5)))) ∧ (zr2 = 0 → x_Ev l E (1, 0, 0) m_X11_findsLong 0 [(21, 103), (0, 0)] [] zM1 (fun r zM7 => ∃ zr8, r = some (1, zr8) ∧ Q (some (1, zr8)) zM7)))) : x_Ev l E (11, 1, 5) m_X11_best 0 [(21, 103), (0, a1)] [] M Q := by
  refine i_iload_n 0 rfl rfl ?_
  refine i_i2l 1 rfl ?_
  refine i_lconst (w := 0) 2 rfl (by decide) ?_
  refine i_ldc2 (v := 4) 3 rfl cw_1611 (by decide) ?_
  refine i_callS (y1 := m_X11_in) (z1 := (1, 0, 0)) (z2 := (11, 1, 5)) [(1, a1), (1, 0), (1, 4)] 4 rfl ml_1229 ok_X11_in vk_X11_in rfl ⟨rfl, Nat.le_of_ble_eq_true rfl⟩ (Nat.le_of_ble_eq_true rfl) ⟨by decide, rfl, rfl, rfl⟩ ?_
  refine h.mono (fun r zM1 h => ?_)
  obtain ⟨zr2, rfl, h⟩ := h
  simp only [Option.toList_some, Option.toList_none, List.cons_append, List.nil_append]
  refine i_if_ne 18 5 rfl (by decide) (fun c => ?_) (fun c => ?_)
  · replace h := h.1 c
    refine i_aload_n 10 rfl rfl (by decide) ?_
    refine i_callV (c := 11) (y1 := m_X11_plans_) (z1 := (10, 0, 0)) (z2 := (11, 1, 5)) [] 11 rfl ml_1425 ok_X11_plans_ vk_X11_plans_ ⟨by decide, rfl⟩ rfl ⟨rfl, Nat.le_of_ble_eq_true rfl⟩ (Nat.le_of_ble_eq_true rfl) ⟨by decide, rfl, rfl, rfl⟩ ?_
    refine h.mono (fun r zM3 h => ?_)
    obtain ⟨rfl, h⟩ := h
    simp only [Option.toList_some, Option.toList_none, List.cons_append, List.nil_append]
    refine i_aload_n 12 rfl rfl (by decide) ?_
    refine i_callV (c := 11) (y1 := m_X11_findsBest) (z1 := (7, 0, 0)) (z2 := (11, 1, 5)) [] 13 rfl ml_1612 ok_X11_findsBest vk_X11_findsBest ⟨by decide, rfl⟩ rfl ⟨rfl, Nat.le_of_ble_eq_true rfl⟩ (Nat.le_of_ble_eq_true rfl) ⟨by decide, rfl, rfl, rfl⟩ ?_
    refine h.mono (fun r zM4 h => ?_)
    obtain ⟨rfl, h⟩ := h
    simp only [Option.toList_some, Option.toList_none, List.cons_append, List.nil_append]
    refine i_aload_n 14 rfl rfl (by decide) ?_
    refine i_iload_n 15 rfl rfl ?_
    refine i_callV (c := 11) (y1 := m_X11_toldBest) (z1 := (1, 1, 5)) (z2 := (11, 0, 0)) [(0, a1)] 16 rfl ml_1616 ok_X11_toldBest vk_X11_toldBest ⟨by decide, rfl⟩ rfl ⟨rfl, Nat.le_of_ble_eq_true rfl⟩ (Nat.le_of_ble_eq_true rfl) ⟨by decide, rfl, rfl, rfl⟩ ?_
    refine h.mono (fun r zM5 h => ?_)
    obtain ⟨zr6, rfl, h⟩ := h
    simp only [Option.toList_some, Option.toList_none, List.cons_append, List.nil_append]
    exact i_lreturn 17 rfl rfl h
  · replace h := h.2 c
    refine i_aload_n 6 rfl rfl (by decide) ?_
    refine i_iconst 7 rfl (by decide) ?_
    refine i_callV (c := 11) (y1 := m_X11_findsLong) (z1 := (1, 0, 0)) (z2 := (11, 1, 5)) [(0, 0)] 8 rfl ml_1407 ok_X11_findsLong vk_X11_findsLong ⟨by decide, rfl⟩ rfl ⟨rfl, Nat.le_of_ble_eq_true rfl⟩ (Nat.le_of_ble_eq_true rfl) ⟨by decide, rfl, rfl, rfl⟩ ?_
    refine h.mono (fun r zM7 h => ?_)
    obtain ⟨zr8, rfl, h⟩ := h
    simp only [Option.toList_some, Option.toList_none, List.cons_append, List.nil_append]
    exact i_lreturn 9 rfl rfl h
theorem u_X11_settle_0 {l : Launch} {E : xE} {M : xM} {Q : Option xV → xM → Prop} (h : x_Ev l E (10, 0, 0) m_X11_plans_ 0 [(21, 103), (5, 0)] [] M (fun r zM1 => r = none ∧ x_Ev l E (7, 0, 0) m_X11_findsBest 0 [(21, 103), (5, 0), (5, 0), (5, 0)] [] zM1 (fun r zM2 => r = none ∧ ∀ zM3 : xM, zM3 = x_wr zM2 103 9 (zM2 103 30) → ∀ zM4 : xM, zM4 = x_wr zM3 103 10 (zM3 103 31) → Q (some (0, (zM4 103 32))) zM4))) : x_Ev l E (11, 0, 0) m_X11_settle 0 [(21, 103)] [] M Q := by
  refine i_aload_n 0 rfl rfl (by decide) ?_
  refine i_callV (c := 11) (y1 := m_X11_plans_) (z1 := (10, 0, 0)) (z2 := (11, 0, 0)) [] 1 rfl ml_1425 ok_X11_plans_ vk_X11_plans_ ⟨by decide, rfl⟩ rfl ⟨rfl, Nat.le_of_ble_eq_true rfl⟩ (Nat.le_of_ble_eq_true rfl) ⟨by decide, rfl, rfl, rfl⟩ ?_
  refine h.mono (fun r zM1 h => ?_)
  obtain ⟨rfl, h⟩ := h
  simp only [Option.toList_some, Option.toList_none, List.cons_append, List.nil_append]
  refine i_aload_n 2 rfl rfl (by decide) ?_
  refine i_callV (c := 11) (y1 := m_X11_findsBest) (z1 := (7, 0, 0)) (z2 := (11, 0, 0)) [] 3 rfl ml_1612 ok_X11_findsBest vk_X11_findsBest ⟨by decide, rfl⟩ rfl ⟨rfl, Nat.le_of_ble_eq_true rfl⟩ (Nat.le_of_ble_eq_true rfl) ⟨by decide, rfl, rfl, rfl⟩ ?_
  refine h.mono (fun r zM2 h => ?_)
  obtain ⟨rfl, h⟩ := h
  simp only [Option.toList_some, Option.toList_none, List.cons_append, List.nil_append]
  refine i_aload_n 4 rfl rfl (by decide) ?_
  refine i_aload_n 5 rfl rfl (by decide) ?_
  refine i_getL (c := 11) (k := 30) 6 rfl fl_1079 (by decide) rfl ?_
  replace h := h _ rfl
  refine i_putL (c := 11) (k := 9) 7 rfl fl_1058 (by decide) ⟨rfl, rfl, rfl⟩ ?_
  refine i_aload_n 8 rfl rfl (by decide) ?_
  refine i_aload_n 9 rfl rfl (by decide) ?_
  refine i_getL (c := 11) (k := 31) 10 rfl fl_1080 (by decide) rfl ?_
  replace h := h _ rfl
  refine i_putL (c := 11) (k := 10) 11 rfl fl_1059 (by decide) ⟨rfl, rfl, rfl⟩ ?_
  refine i_aload_n 12 rfl rfl (by decide) ?_
  refine i_getI (c := 11) (k := 32) 13 rfl fl_1081 (by decide) (by decide) ?_
  exact i_ireturn 14 rfl rfl h
theorem u_X11_kindFor_0 {l : Launch} {E : xE} (a1 : Int) {M : xM} {Q : Option xV → xM → Prop} (h : x_Ev l E (2, 0, 0) m_X11_isFollower 0 [(21, 103), (0, a1)] [] M (fun r zM1 => ∃ zr2, r = some (0, zr2) ∧ (¬ zr2 = 0 → x_Ev l E (10, 0, 0) m_X11_plans_ 0 [(21, 103), (5, 0)] [] zM1 (fun r zM3 => r = none ∧ ((0 : Int) ≤ a1 ∧ (a1 : Int) < 3) ∧ ∀ zv4 : Int, zv4 = (zM3 104 a1) → x_Ev l E (1, 0, 0) m_X11_begins 0 [(21, 103)] [] zM3 (fun r zM5 => r = none ∧ x_Ev l E (11, 0, 0) m_X11_kindFor 31 [(21, 103), (0, a1), (0, zv4), (0, 0)] [] zM5 Q))) ∧ (zr2 = 0 → x_Ev l E (1, 0, 0) m_X11_finds 0 [(21, 103), (0, 0)] [] zM1 (fun r zM6 => ∃ zr7, r = some (0, zr7) ∧ Q (some (0, zr7)) zM6)))) : x_Ev l E (11, 0, 0) m_X11_kindFor 0 [(21, 103), (0, a1), (5, 0), (5, 0)] [] M Q := by
  refine i_aload_n 0 rfl rfl (by decide) ?_
  refine i_iload_n 1 rfl rfl ?_
  refine i_callV (c := 11) (y1 := m_X11_isFollower) (z1 := (2, 0, 0)) (z2 := (11, 0, 0)) [(0, a1)] 2 rfl ml_1242 ok_X11_isFollower vk_X11_isFollower ⟨by decide, rfl⟩ rfl ⟨rfl, Nat.le_of_ble_eq_true rfl⟩ (Nat.le_of_ble_eq_true rfl) ⟨by decide, rfl, rfl, rfl⟩ ?_
  refine h.mono (fun r zM1 h => ?_)
  obtain ⟨zr2, rfl, h⟩ := h
  simp only [Option.toList_some, Option.toList_none, List.cons_append, List.nil_append]
  refine i_if_ne 14 3 rfl (by decide) (fun c => ?_) (fun c => ?_)
  · replace h := h.1 c
    refine i_aload_n 8 rfl rfl (by decide) ?_
    refine i_callV (c := 11) (y1 := m_X11_plans_) (z1 := (10, 0, 0)) (z2 := (11, 0, 0)) [] 9 rfl ml_1425 ok_X11_plans_ vk_X11_plans_ ⟨by decide, rfl⟩ rfl ⟨rfl, Nat.le_of_ble_eq_true rfl⟩ (Nat.le_of_ble_eq_true rfl) ⟨by decide, rfl, rfl, rfl⟩ ?_
    refine h.mono (fun r zM3 h => ?_)
    obtain ⟨rfl, h⟩ := h
    simp only [Option.toList_some, Option.toList_none, List.cons_append, List.nil_append]
    refine i_aload_n 10 rfl rfl (by decide) ?_
    refine i_getP (c := 11) (k := 1) (t := 114) (b := 104) 11 rfl fl_1050 (by decide) rfl (by decide) rfl ?_
    refine i_iload_n 12 rfl rfl ?_
    refine i_iald (τ := 14) 13 rfl ⟨rfl, rfl, rfl, by decide⟩ h.1.1 h.1.2 ?_
    replace h := h.2
    replace h := h _ rfl
    refine i_istore_n 14 rfl (by decide) rfl ?_
    refine i_aload_n 15 rfl rfl (by decide) ?_
    refine i_callV (c := 11) (y1 := m_X11_begins) (z1 := (1, 0, 0)) (z2 := (11, 0, 0)) [] 16 rfl ml_1632 ok_X11_begins vk_X11_begins ⟨by decide, rfl⟩ rfl ⟨rfl, Nat.le_of_ble_eq_true rfl⟩ (Nat.le_of_ble_eq_true rfl) ⟨by decide, rfl, rfl, rfl⟩ ?_
    refine h.mono (fun r zM5 h => ?_)
    obtain ⟨rfl, h⟩ := h
    simp only [Option.toList_some, Option.toList_none, List.cons_append, List.nil_append]
    refine i_iconst 17 rfl (by decide) ?_
    refine i_istore_n 18 rfl (by decide) rfl ?_
    exact h
  · replace h := h.2 c
    refine i_aload_n 4 rfl rfl (by decide) ?_
    refine i_iconst 5 rfl (by decide) ?_
    refine i_callV (c := 11) (y1 := m_X11_finds) (z1 := (1, 0, 0)) (z2 := (11, 0, 0)) [(0, 0)] 6 rfl ml_1233 ok_X11_finds vk_X11_finds ⟨by decide, rfl⟩ rfl ⟨rfl, Nat.le_of_ble_eq_true rfl⟩ (Nat.le_of_ble_eq_true rfl) ⟨by decide, rfl, rfl, rfl⟩ ?_
    refine h.mono (fun r zM6 h => ?_)
    obtain ⟨zr7, rfl, h⟩ := h
    simp only [Option.toList_some, Option.toList_none, List.cons_append, List.nil_append]
    exact i_ireturn 7 rfl rfl h
theorem u_X11_kindFor_31 {l : Launch} {E : xE} (l1 l2 l3 : Int) {M : xM} {Q : Option xV → xM → Prop} (h : (7 ≤ l3 → (0 ≤ l1 ∧ l1 < 3) ∧ ∀ zM1 : xM, zM1 = x_wr M 104 l1 l2 → Q (some (0, (zM1 103 39))) zM1) ∧ (¬ 7 ≤ l3 → (0 ≤ l1 ∧ l1 < 3) ∧ ∀ zM2 : xM, zM2 = x_wr M 104 l1 l3 → x_Ev l E (7, 0, 0) m_X11_findsBest 0 [(21, 103), (5, 0), (5, 0), (5, 0)] [] zM2 (fun r zM3 => r = none ∧ x_Ev l E (3, 0, 0) m_X11_tries 0 [(21, 103), (0, l3)] [] zM3 (fun r zM4 => r = none ∧ ∀ zv5 : Int, zv5 = x_w (l3 + 1) → x_Ev l E (11, 0, 0) m_X11_kindFor 31 [(21, 103), (0, l1), (0, l2), (0, zv5)] [] zM4 Q)))) : x_Ev l E (11, 0, 0) m_X11_kindFor 31 [(21, 103), (0, l1), (0, l2), (0, l3)] [] M Q := by
  refine i_iload_n 19 rfl rfl ?_
  refine i_bipush 20 rfl (by decide) ?_
  refine i_icmp_ge 59 21 rfl (by decide) (fun c => ?_) (fun c => ?_)
  · replace h := h.1 c
    refine i_aload_n 34 rfl rfl (by decide) ?_
    refine i_getP (c := 11) (k := 1) (t := 114) (b := 104) 35 rfl fl_1050 (by decide) rfl (by decide) rfl ?_
    refine i_iload_n 36 rfl rfl ?_
    refine i_iload_n 37 rfl rfl ?_
    have hb := h.1
    replace h := h.2 _ rfl
    refine i_iast (τ := 14) 38 rfl ⟨rfl, rfl, rfl, by decide⟩ hb.1 hb.2 ?_
    refine i_aload_n 39 rfl rfl (by decide) ?_
    refine i_getI (c := 11) (k := 39) 40 rfl fl_1088 (by decide) (by decide) ?_
    exact i_ireturn 41 rfl rfl h
  · replace h := h.2 c
    refine i_aload_n 22 rfl rfl (by decide) ?_
    refine i_getP (c := 11) (k := 1) (t := 114) (b := 104) 23 rfl fl_1050 (by decide) rfl (by decide) rfl ?_
    refine i_iload_n 24 rfl rfl ?_
    refine i_iload_n 25 rfl rfl ?_
    have hb := h.1
    replace h := h.2 _ rfl
    refine i_iast (τ := 14) 26 rfl ⟨rfl, rfl, rfl, by decide⟩ hb.1 hb.2 ?_
    refine i_aload_n 27 rfl rfl (by decide) ?_
    refine i_callV (c := 11) (y1 := m_X11_findsBest) (z1 := (7, 0, 0)) (z2 := (11, 0, 0)) [] 28 rfl ml_1612 ok_X11_findsBest vk_X11_findsBest ⟨by decide, rfl⟩ rfl ⟨rfl, Nat.le_of_ble_eq_true rfl⟩ (Nat.le_of_ble_eq_true rfl) ⟨by decide, rfl, rfl, rfl⟩ ?_
    refine h.mono (fun r zM3 h => ?_)
    obtain ⟨rfl, h⟩ := h
    simp only [Option.toList_some, Option.toList_none, List.cons_append, List.nil_append]
    refine i_aload_n 29 rfl rfl (by decide) ?_
    refine i_iload_n 30 rfl rfl ?_
    refine i_callV (c := 11) (y1 := m_X11_tries) (z1 := (3, 0, 0)) (z2 := (11, 0, 0)) [(0, l3)] 31 rfl ml_1636 ok_X11_tries vk_X11_tries ⟨by decide, rfl⟩ rfl ⟨rfl, Nat.le_of_ble_eq_true rfl⟩ (Nat.le_of_ble_eq_true rfl) ⟨by decide, rfl, rfl, rfl⟩ ?_
    refine h.mono (fun r zM4 h => ?_)
    obtain ⟨rfl, h⟩ := h
    simp only [Option.toList_some, Option.toList_none, List.cons_append, List.nil_append]
    replace h := h _ rfl
    refine i_iinc 32 rfl rfl (by decide) rfl ?_
    refine i_goto 31 33 rfl (by decide) ?_
    exact h
theorem u_X11_tollFor_0 {l : Launch} {E : xE} (a1 a2 : Int) {M : xM} {Q : Option xV → xM → Prop} (h : x_Ev l E (3, 0, 0) m_X11_isGood 0 [(21, 103), (0, a1), (0, a2)] [] M (fun r zM1 => ∃ zr2, r = some (0, zr2) ∧ (¬ zr2 = 0 → x_Ev l E (10, 0, 0) m_X11_plans_ 0 [(21, 103), (5, 0)] [] zM1 (fun r zM3 => r = none ∧ ((0 : Int) ≤ a1 ∧ (a1 : Int) < 3) ∧ ((0 : Int) ≤ a2 ∧ (a2 : Int) < 3) ∧ ∀ zv4 : Int, zv4 = (zM3 ((108 + 1 + 4 * a1) + 1 + 1 * 1) a2) → x_Ev l E (1, 0, 0) m_X11_begins 0 [(21, 103)] [] zM3 (fun r zM5 => r = none ∧ x_Ev l E (11, 0, 0) m_X11_tollFor 37 [(21, 103), (0, a1), (0, a2), (0, zv4), (0, 0)] [] zM5 Q))) ∧ (zr2 = 0 → x_Ev l E (1, 0, 0) m_X11_finds 0 [(21, 103), (0, 0)] [] zM1 (fun r zM6 => ∃ zr7, r = some (0, zr7) ∧ Q (some (0, zr7)) zM6)))) : x_Ev l E (11, 0, 0) m_X11_tollFor 0 [(21, 103), (0, a1), (0, a2), (5, 0), (5, 0)] [] M Q := by
  refine i_aload_n 0 rfl rfl (by decide) ?_
  refine i_iload_n 1 rfl rfl ?_
  refine i_iload_n 2 rfl rfl ?_
  refine i_callV (c := 11) (y1 := m_X11_isGood) (z1 := (3, 0, 0)) (z2 := (11, 0, 0)) [(0, a1), (0, a2)] 3 rfl ml_1339 ok_X11_isGood vk_X11_isGood ⟨by decide, rfl⟩ rfl ⟨rfl, Nat.le_of_ble_eq_true rfl⟩ (Nat.le_of_ble_eq_true rfl) ⟨by decide, rfl, rfl, rfl⟩ ?_
  refine h.mono (fun r zM1 h => ?_)
  obtain ⟨zr2, rfl, h⟩ := h
  simp only [Option.toList_some, Option.toList_none, List.cons_append, List.nil_append]
  refine i_if_ne 15 4 rfl (by decide) (fun c => ?_) (fun c => ?_)
  · replace h := h.1 c
    refine i_aload_n 9 rfl rfl (by decide) ?_
    refine i_callV (c := 11) (y1 := m_X11_plans_) (z1 := (10, 0, 0)) (z2 := (11, 0, 0)) [] 10 rfl ml_1425 ok_X11_plans_ vk_X11_plans_ ⟨by decide, rfl⟩ rfl ⟨rfl, Nat.le_of_ble_eq_true rfl⟩ (Nat.le_of_ble_eq_true rfl) ⟨by decide, rfl, rfl, rfl⟩ ?_
    refine h.mono (fun r zM3 h => ?_)
    obtain ⟨rfl, h⟩ := h
    simp only [Option.toList_some, Option.toList_none, List.cons_append, List.nil_append]
    refine i_aload_n 11 rfl rfl (by decide) ?_
    refine i_getP (c := 11) (k := 5) (t := 121) (b := 108) 12 rfl fl_1054 (by decide) rfl (by decide) rfl ?_
    refine i_iload_n 13 rfl rfl ?_
    refine i_aald (τ := 21) (t := 120) (len := 3) (b := (108 + 1 + 4 * a1)) 14 rfl (by decide) rfl h.1.1 h.1.2 ?_
    replace h := h.2
    refine i_iconst 15 rfl (by decide) ?_
    refine i_aald (τ := 20) (t := 114) (len := 3) (b := ((108 + 1 + 4 * a1) + 1 + 1 * 1)) 16 rfl (by decide) rfl (by decide) (by decide) ?_
    refine i_iload_n 17 rfl rfl ?_
    refine i_iald (τ := 14) 18 rfl ⟨rfl, rfl, rfl, by decide⟩ h.1.1 h.1.2 ?_
    replace h := h.2
    replace h := h _ rfl
    refine i_istore_n 19 rfl (by decide) rfl ?_
    refine i_aload_n 20 rfl rfl (by decide) ?_
    refine i_callV (c := 11) (y1 := m_X11_begins) (z1 := (1, 0, 0)) (z2 := (11, 0, 0)) [] 21 rfl ml_1632 ok_X11_begins vk_X11_begins ⟨by decide, rfl⟩ rfl ⟨rfl, Nat.le_of_ble_eq_true rfl⟩ (Nat.le_of_ble_eq_true rfl) ⟨by decide, rfl, rfl, rfl⟩ ?_
    refine h.mono (fun r zM5 h => ?_)
    obtain ⟨rfl, h⟩ := h
    simp only [Option.toList_some, Option.toList_none, List.cons_append, List.nil_append]
    refine i_iconst 22 rfl (by decide) ?_
    refine i_istore 23 rfl (by decide) rfl ?_
    exact h
  · replace h := h.2 c
    refine i_aload_n 5 rfl rfl (by decide) ?_
    refine i_iconst 6 rfl (by decide) ?_
    refine i_callV (c := 11) (y1 := m_X11_finds) (z1 := (1, 0, 0)) (z2 := (11, 0, 0)) [(0, 0)] 7 rfl ml_1233 ok_X11_finds vk_X11_finds ⟨by decide, rfl⟩ rfl ⟨rfl, Nat.le_of_ble_eq_true rfl⟩ (Nat.le_of_ble_eq_true rfl) ⟨by decide, rfl, rfl, rfl⟩ ?_
    refine h.mono (fun r zM6 h => ?_)
    obtain ⟨zr7, rfl, h⟩ := h
    simp only [Option.toList_some, Option.toList_none, List.cons_append, List.nil_append]
    exact i_ireturn 8 rfl rfl h
theorem u_X11_tollFor_37 {l : Launch} {E : xE} (l1 l2 l3 l4 : Int) {M : xM} {Q : Option xV → xM → Prop} (h : (4 ≤ l4 → ((0 : Int) ≤ l1 ∧ (l1 : Int) < 3) ∧ (0 ≤ l2 ∧ l2 < 3) ∧ ∀ zM1 : xM, zM1 = x_wr M ((108 + 1 + 4 * l1) + 1 + 1 * 1) l2 l3 → Q (some (0, (zM1 103 39))) zM1) ∧ (¬ 4 ≤ l4 → ((0 : Int) ≤ l1 ∧ (l1 : Int) < 3) ∧ (0 ≤ l2 ∧ l2 < 3) ∧ ∀ zM2 : xM, zM2 = x_wr M ((108 + 1 + 4 * l1) + 1 + 1 * 1) l2 l4 → x_Ev l E (7, 0, 0) m_X11_findsBest 0 [(21, 103), (5, 0), (5, 0), (5, 0)] [] zM2 (fun r zM3 => r = none ∧ x_Ev l E (3, 0, 0) m_X11_tries 0 [(21, 103), (0, l4)] [] zM3 (fun r zM4 => r = none ∧ ∀ zv5 : Int, zv5 = x_w (l4 + 1) → x_Ev l E (11, 0, 0) m_X11_tollFor 37 [(21, 103), (0, l1), (0, l2), (0, l3), (0, zv5)] [] zM4 Q)))) : x_Ev l E (11, 0, 0) m_X11_tollFor 37 [(21, 103), (0, l1), (0, l2), (0, l3), (0, l4)] [] M Q := by
  refine i_iload 24 rfl rfl ?_
  refine i_iconst 25 rfl (by decide) ?_
  refine i_icmp_ge 71 26 rfl (by decide) (fun c => ?_) (fun c => ?_)
  · replace h := h.1 c
    refine i_aload_n 43 rfl rfl (by decide) ?_
    refine i_getP (c := 11) (k := 5) (t := 121) (b := 108) 44 rfl fl_1054 (by decide) rfl (by decide) rfl ?_
    refine i_iload_n 45 rfl rfl ?_
    refine i_aald (τ := 21) (t := 120) (len := 3) (b := (108 + 1 + 4 * l1)) 46 rfl (by decide) rfl h.1.1 h.1.2 ?_
    replace h := h.2
    refine i_iconst 47 rfl (by decide) ?_
    refine i_aald (τ := 20) (t := 114) (len := 3) (b := ((108 + 1 + 4 * l1) + 1 + 1 * 1)) 48 rfl (by decide) rfl (by decide) (by decide) ?_
    refine i_iload_n 49 rfl rfl ?_
    refine i_iload_n 50 rfl rfl ?_
    have hb := h.1
    replace h := h.2 _ rfl
    refine i_iast (τ := 14) 51 rfl ⟨rfl, rfl, rfl, by decide⟩ hb.1 hb.2 ?_
    refine i_aload_n 52 rfl rfl (by decide) ?_
    refine i_getI (c := 11) (k := 39) 53 rfl fl_1088 (by decide) (by decide) ?_
    exact i_ireturn 54 rfl rfl h
  · replace h := h.2 c
    refine i_aload_n 27 rfl rfl (by decide) ?_
    refine i_getP (c := 11) (k := 5) (t := 121) (b := 108) 28 rfl fl_1054 (by decide) rfl (by decide) rfl ?_
    refine i_iload_n 29 rfl rfl ?_
    refine i_aald (τ := 21) (t := 120) (len := 3) (b := (108 + 1 + 4 * l1)) 30 rfl (by decide) rfl h.1.1 h.1.2 ?_
    replace h := h.2
    refine i_iconst 31 rfl (by decide) ?_
    refine i_aald (τ := 20) (t := 114) (len := 3) (b := ((108 + 1 + 4 * l1) + 1 + 1 * 1)) 32 rfl (by decide) rfl (by decide) (by decide) ?_
    refine i_iload_n 33 rfl rfl ?_
    refine i_iload 34 rfl rfl ?_
    have hb := h.1
    replace h := h.2 _ rfl
    refine i_iast (τ := 14) 35 rfl ⟨rfl, rfl, rfl, by decide⟩ hb.1 hb.2 ?_
    refine i_aload_n 36 rfl rfl (by decide) ?_
    refine i_callV (c := 11) (y1 := m_X11_findsBest) (z1 := (7, 0, 0)) (z2 := (11, 0, 0)) [] 37 rfl ml_1612 ok_X11_findsBest vk_X11_findsBest ⟨by decide, rfl⟩ rfl ⟨rfl, Nat.le_of_ble_eq_true rfl⟩ (Nat.le_of_ble_eq_true rfl) ⟨by decide, rfl, rfl, rfl⟩ ?_
    refine h.mono (fun r zM3 h => ?_)
    obtain ⟨rfl, h⟩ := h
    simp only [Option.toList_some, Option.toList_none, List.cons_append, List.nil_append]
    refine i_aload_n 38 rfl rfl (by decide) ?_
    refine i_iload 39 rfl rfl ?_
    refine i_callV (c := 11) (y1 := m_X11_tries) (z1 := (3, 0, 0)) (z2 := (11, 0, 0)) [(0, l4)] 40 rfl ml_1636 ok_X11_tries vk_X11_tries ⟨by decide, rfl⟩ rfl ⟨rfl, Nat.le_of_ble_eq_true rfl⟩ (Nat.le_of_ble_eq_true rfl) ⟨by decide, rfl, rfl, rfl⟩ ?_
    refine h.mono (fun r zM4 h => ?_)
    obtain ⟨rfl, h⟩ := h
    simp only [Option.toList_some, Option.toList_none, List.cons_append, List.nil_append]
    replace h := h _ rfl
    refine i_iinc 41 rfl rfl (by decide) rfl ?_
    refine i_goto 37 42 rfl (by decide) ?_
    exact h
theorem u_X11_without_0 {l : Launch} {E : xE} (a1 : Int) {M : xM} {Q : Option xV → xM → Prop} (h : x_Ev l E (2, 0, 0) m_X11_isFollower 0 [(21, 103), (0, a1)] [] M (fun r zM1 => ∃ zr2, r = some (0, zr2) ∧ (¬ zr2 = 0 → x_Ev l E (10, 0, 0) m_X11_plans_ 0 [(21, 103), (5, 0)] [] zM1 (fun r zM3 => r = none ∧ x_Ev l E (7, 0, 0) m_X11_findsBest 0 [(21, 103), (5, 0), (5, 0), (5, 0)] [] zM3 (fun r zM4 => r = none ∧ ∀ zv5 : Int, zv5 = (zM4 103 28) → ∀ zv6 : Int, zv6 = (zM4 103 29) → ((0 : Int) ≤ a1 ∧ (a1 : Int) < 3) ∧ ∀ zv7 : Int, zv7 = (zM4 107 a1) → x_Ev l E (1, 0, 0) m_X11_copiesRows 0 [(21, 103), (0, a1), (0, 0), (0, zv7), (5, 0), (5, 0)] [] zM4 (fun r zM8 => r = none ∧ x_Ev l E (1, 0, 0) m_X11_begins 0 [(21, 103)] [] zM8 (fun r zM9 => r = none ∧ x_Ev l E (11, 0, 0) m_X11_without 56 [(21, 103), (0, a1), (1, zv5), (5, 0), (1, zv6), (5, 0), (0, zv7), (0, 1)] [] zM9 Q))))) ∧ (zr2 = 0 → x_Ev l E (1, 0, 0) m_X11_finds 0 [(21, 103), (0, 0)] [] zM1 (fun r zM10 => ∃ zr11, r = some (0, zr11) ∧ Q (some (0, zr11)) zM10)))) : x_Ev l E (11, 0, 0) m_X11_without 0 [(21, 103), (0, a1), (5, 0), (5, 0), (5, 0), (5, 0), (5, 0), (5, 0)] [] M Q := by
  refine i_aload_n 0 rfl rfl (by decide) ?_
  refine i_iload_n 1 rfl rfl ?_
  refine i_callV (c := 11) (y1 := m_X11_isFollower) (z1 := (2, 0, 0)) (z2 := (11, 0, 0)) [(0, a1)] 2 rfl ml_1242 ok_X11_isFollower vk_X11_isFollower ⟨by decide, rfl⟩ rfl ⟨rfl, Nat.le_of_ble_eq_true rfl⟩ (Nat.le_of_ble_eq_true rfl) ⟨by decide, rfl, rfl, rfl⟩ ?_
  refine h.mono (fun r zM1 h => ?_)
  obtain ⟨zr2, rfl, h⟩ := h
  simp only [Option.toList_some, Option.toList_none, List.cons_append, List.nil_append]
  refine i_if_ne 14 3 rfl (by decide) (fun c => ?_) (fun c => ?_)
  · replace h := h.1 c
    refine i_aload_n 8 rfl rfl (by decide) ?_
    refine i_callV (c := 11) (y1 := m_X11_plans_) (z1 := (10, 0, 0)) (z2 := (11, 0, 0)) [] 9 rfl ml_1425 ok_X11_plans_ vk_X11_plans_ ⟨by decide, rfl⟩ rfl ⟨rfl, Nat.le_of_ble_eq_true rfl⟩ (Nat.le_of_ble_eq_true rfl) ⟨by decide, rfl, rfl, rfl⟩ ?_
    refine h.mono (fun r zM3 h => ?_)
    obtain ⟨rfl, h⟩ := h
    simp only [Option.toList_some, Option.toList_none, List.cons_append, List.nil_append]
    refine i_aload_n 10 rfl rfl (by decide) ?_
    refine i_callV (c := 11) (y1 := m_X11_findsBest) (z1 := (7, 0, 0)) (z2 := (11, 0, 0)) [] 11 rfl ml_1612 ok_X11_findsBest vk_X11_findsBest ⟨by decide, rfl⟩ rfl ⟨rfl, Nat.le_of_ble_eq_true rfl⟩ (Nat.le_of_ble_eq_true rfl) ⟨by decide, rfl, rfl, rfl⟩ ?_
    refine h.mono (fun r zM4 h => ?_)
    obtain ⟨rfl, h⟩ := h
    simp only [Option.toList_some, Option.toList_none, List.cons_append, List.nil_append]
    refine i_aload_n 12 rfl rfl (by decide) ?_
    refine i_getL (c := 11) (k := 28) 13 rfl fl_1077 (by decide) rfl ?_
    replace h := h _ rfl
    refine i_lstore_n 14 rfl (by decide) rfl ?_
    refine i_aload_n 15 rfl rfl (by decide) ?_
    refine i_getL (c := 11) (k := 29) 16 rfl fl_1078 (by decide) rfl ?_
    replace h := h _ rfl
    refine i_lstore 17 rfl (by decide) rfl ?_
    refine i_aload_n 18 rfl rfl (by decide) ?_
    refine i_getP (c := 11) (k := 4) (t := 114) (b := 107) 19 rfl fl_1053 (by decide) rfl (by decide) rfl ?_
    refine i_iload_n 20 rfl rfl ?_
    refine i_iald (τ := 14) 21 rfl ⟨rfl, rfl, rfl, by decide⟩ h.1.1 h.1.2 ?_
    replace h := h.2
    replace h := h _ rfl
    refine i_istore 22 rfl (by decide) rfl ?_
    refine i_aload_n 23 rfl rfl (by decide) ?_
    refine i_iload_n 24 rfl rfl ?_
    refine i_iconst 25 rfl (by decide) ?_
    refine i_iload 26 rfl rfl ?_
    refine i_callV (c := 11) (y1 := m_X11_copiesRows) (z1 := (1, 0, 0)) (z2 := (11, 0, 0)) [(0, a1), (0, 0), (0, ((zM4 107 a1)))] 27 rfl ml_1648 ok_X11_copiesRows vk_X11_copiesRows ⟨by decide, rfl⟩ rfl ⟨rfl, Nat.le_of_ble_eq_true rfl⟩ (Nat.le_of_ble_eq_true rfl) ⟨by decide, rfl, rfl, rfl⟩ ?_
    refine h.mono (fun r zM8 h => ?_)
    obtain ⟨rfl, h⟩ := h
    simp only [Option.toList_some, Option.toList_none, List.cons_append, List.nil_append]
    refine i_aload_n 28 rfl rfl (by decide) ?_
    refine i_callV (c := 11) (y1 := m_X11_begins) (z1 := (1, 0, 0)) (z2 := (11, 0, 0)) [] 29 rfl ml_1632 ok_X11_begins vk_X11_begins ⟨by decide, rfl⟩ rfl ⟨rfl, Nat.le_of_ble_eq_true rfl⟩ (Nat.le_of_ble_eq_true rfl) ⟨by decide, rfl, rfl, rfl⟩ ?_
    refine h.mono (fun r zM9 h => ?_)
    obtain ⟨rfl, h⟩ := h
    simp only [Option.toList_some, Option.toList_none, List.cons_append, List.nil_append]
    refine i_iconst 30 rfl (by decide) ?_
    refine i_istore 31 rfl (by decide) rfl ?_
    exact h
  · replace h := h.2 c
    refine i_aload_n 4 rfl rfl (by decide) ?_
    refine i_iconst 5 rfl (by decide) ?_
    refine i_callV (c := 11) (y1 := m_X11_finds) (z1 := (1, 0, 0)) (z2 := (11, 0, 0)) [(0, 0)] 6 rfl ml_1233 ok_X11_finds vk_X11_finds ⟨by decide, rfl⟩ rfl ⟨rfl, Nat.le_of_ble_eq_true rfl⟩ (Nat.le_of_ble_eq_true rfl) ⟨by decide, rfl, rfl, rfl⟩ ?_
    refine h.mono (fun r zM10 h => ?_)
    obtain ⟨zr11, rfl, h⟩ := h
    simp only [Option.toList_some, Option.toList_none, List.cons_append, List.nil_append]
    exact i_ireturn 7 rfl rfl h
theorem u_X11_without_56 {l : Launch} {E : xE} (l1 l2 l4 l6 l7 : Int) {M : xM} {Q : Option xV → xM → Prop} (h : (l6 ≤ l7 → Q (some (0, (M 103 39))) M) ∧ (¬ l6 ≤ l7 → x_Ev l E (1, 0, 0) m_X11_takesOut 0 [(21, 103), (0, l1), (0, l7), (5, 0), (5, 0)] [] M (fun r zM1 => r = none ∧ x_Ev l E (9, 0, 0) m_X11_plans 0 [(21, 103), (0, l1), (5, 0), (5, 0), (5, 0)] [] zM1 (fun r zM2 => r = none ∧ x_Ev l E (7, 0, 0) m_X11_findsBest 0 [(21, 103), (5, 0), (5, 0), (5, 0)] [] zM2 (fun r zM3 => r = none ∧ x_Ev l E (1, 0, 0) m_X11_copiesRows 0 [(21, 103), (0, l1), (0, 1), (0, l6), (5, 0), (5, 0)] [] zM3 (fun r zM4 => r = none ∧ x_Ev l E (2, 0, 0) m_X11_compare 0 [(1, (zM4 103 28)), (5, 0), (1, (zM4 103 29)), (5, 0), (1, l2), (5, 0), (1, l4), (5, 0), (5, 0), (5, 0), (5, 0), (5, 0), (5, 0), (5, 0), (5, 0), (5, 0), (5, 0), (5, 0), (5, 0), (5, 0), (5, 0), (5, 0), (5, 0), (5, 0), (5, 0)] [] zM4 (fun r zM5 => ∃ zr6, r = some (0, zr6) ∧ (zr6 ≤ 0 → ∀ zv7 : Int, zv7 = x_w (l7 + 1) → x_Ev l E (11, 0, 0) m_X11_without 56 [(21, 103), (0, l1), (1, l2), (5, 0), (1, l4), (5, 0), (0, l6), (0, zv7)] [] zM5 Q) ∧ (¬ zr6 ≤ 0 → x_Ev l E (3, 0, 0) m_X11_tries 0 [(21, 103), (0, l7)] [] zM5 (fun r zM8 => r = none ∧ ∀ zv9 : Int, zv9 = x_w (l7 + 1) → x_Ev l E (11, 0, 0) m_X11_without 56 [(21, 103), (0, l1), (1, l2), (5, 0), (1, l4), (5, 0), (0, l6), (0, zv9)] [] zM8 Q))))))))) : x_Ev l E (11, 0, 0) m_X11_without 56 [(21, 103), (0, l1), (1, l2), (5, 0), (1, l4), (5, 0), (0, l6), (0, l7)] [] M Q := by
  refine i_iload 32 rfl rfl ?_
  refine i_iload 33 rfl rfl ?_
  refine i_icmp_ge 116 34 rfl (by decide) (fun c => ?_) (fun c => ?_)
  · replace h := h.1 c
    refine i_aload_n 62 rfl rfl (by decide) ?_
    refine i_getI (c := 11) (k := 39) 63 rfl fl_1088 (by decide) (by decide) ?_
    exact i_ireturn 64 rfl rfl h
  · replace h := h.2 c
    refine i_aload_n 35 rfl rfl (by decide) ?_
    refine i_iload_n 36 rfl rfl ?_
    refine i_iload 37 rfl rfl ?_
    refine i_callV (c := 11) (y1 := m_X11_takesOut) (z1 := (1, 0, 0)) (z2 := (11, 0, 0)) [(0, l1), (0, l7)] 38 rfl ml_1376 ok_X11_takesOut vk_X11_takesOut ⟨by decide, rfl⟩ rfl ⟨rfl, Nat.le_of_ble_eq_true rfl⟩ (Nat.le_of_ble_eq_true rfl) ⟨by decide, rfl, rfl, rfl⟩ ?_
    refine h.mono (fun r zM1 h => ?_)
    obtain ⟨rfl, h⟩ := h
    simp only [Option.toList_some, Option.toList_none, List.cons_append, List.nil_append]
    refine i_aload_n 39 rfl rfl (by decide) ?_
    refine i_iload_n 40 rfl rfl ?_
    refine i_callV (c := 11) (y1 := m_X11_plans) (z1 := (9, 0, 0)) (z2 := (11, 0, 0)) [(0, l1)] 41 rfl ml_1251 ok_X11_plans vk_X11_plans ⟨by decide, rfl⟩ rfl ⟨rfl, Nat.le_of_ble_eq_true rfl⟩ (Nat.le_of_ble_eq_true rfl) ⟨by decide, rfl, rfl, rfl⟩ ?_
    refine h.mono (fun r zM2 h => ?_)
    obtain ⟨rfl, h⟩ := h
    simp only [Option.toList_some, Option.toList_none, List.cons_append, List.nil_append]
    refine i_aload_n 42 rfl rfl (by decide) ?_
    refine i_callV (c := 11) (y1 := m_X11_findsBest) (z1 := (7, 0, 0)) (z2 := (11, 0, 0)) [] 43 rfl ml_1612 ok_X11_findsBest vk_X11_findsBest ⟨by decide, rfl⟩ rfl ⟨rfl, Nat.le_of_ble_eq_true rfl⟩ (Nat.le_of_ble_eq_true rfl) ⟨by decide, rfl, rfl, rfl⟩ ?_
    refine h.mono (fun r zM3 h => ?_)
    obtain ⟨rfl, h⟩ := h
    simp only [Option.toList_some, Option.toList_none, List.cons_append, List.nil_append]
    refine i_aload_n 44 rfl rfl (by decide) ?_
    refine i_iload_n 45 rfl rfl ?_
    refine i_iconst 46 rfl (by decide) ?_
    refine i_iload 47 rfl rfl ?_
    refine i_callV (c := 11) (y1 := m_X11_copiesRows) (z1 := (1, 0, 0)) (z2 := (11, 0, 0)) [(0, l1), (0, 1), (0, l6)] 48 rfl ml_1648 ok_X11_copiesRows vk_X11_copiesRows ⟨by decide, rfl⟩ rfl ⟨rfl, Nat.le_of_ble_eq_true rfl⟩ (Nat.le_of_ble_eq_true rfl) ⟨by decide, rfl, rfl, rfl⟩ ?_
    refine h.mono (fun r zM4 h => ?_)
    obtain ⟨rfl, h⟩ := h
    simp only [Option.toList_some, Option.toList_none, List.cons_append, List.nil_append]
    refine i_aload_n 49 rfl rfl (by decide) ?_
    refine i_getL (c := 11) (k := 28) 50 rfl fl_1077 (by decide) rfl ?_
    refine i_aload_n 51 rfl rfl (by decide) ?_
    refine i_getL (c := 11) (k := 29) 52 rfl fl_1078 (by decide) rfl ?_
    refine i_lload_n 53 rfl rfl ?_
    refine i_lload 54 rfl rfl ?_
    refine i_callS (y1 := m_X11_compare) (z1 := (2, 0, 0)) (z2 := (11, 0, 0)) [(1, (zM4 103 28)), (1, (zM4 103 29)), (1, l2), (1, l4)] 55 rfl ml_1558 ok_X11_compare vk_X11_compare rfl ⟨rfl, Nat.le_of_ble_eq_true rfl⟩ (Nat.le_of_ble_eq_true rfl) ⟨by decide, rfl, rfl, rfl⟩ ?_
    refine h.mono (fun r zM5 h => ?_)
    obtain ⟨zr6, rfl, h⟩ := h
    simp only [Option.toList_some, Option.toList_none, List.cons_append, List.nil_append]
    refine i_if_le 110 56 rfl (by decide) (fun c => ?_) (fun c => ?_)
    · replace h := h.1 c
      replace h := h _ rfl
      refine i_iinc 60 rfl rfl (by decide) rfl ?_
      refine i_goto 56 61 rfl (by decide) ?_
      exact h
    · replace h := h.2 c
      refine i_aload_n 57 rfl rfl (by decide) ?_
      refine i_iload 58 rfl rfl ?_
      refine i_callV (c := 11) (y1 := m_X11_tries) (z1 := (3, 0, 0)) (z2 := (11, 0, 0)) [(0, l7)] 59 rfl ml_1636 ok_X11_tries vk_X11_tries ⟨by decide, rfl⟩ rfl ⟨rfl, Nat.le_of_ble_eq_true rfl⟩ (Nat.le_of_ble_eq_true rfl) ⟨by decide, rfl, rfl, rfl⟩ ?_
      refine h.mono (fun r zM8 h => ?_)
      obtain ⟨rfl, h⟩ := h
      simp only [Option.toList_some, Option.toList_none, List.cons_append, List.nil_append]
      replace h := h _ rfl
      refine i_iinc 60 rfl rfl (by decide) rfl ?_
      refine i_goto 56 61 rfl (by decide) ?_
      exact h
theorem u_X11_mostFor_0 {l : Launch} {E : xE} (a1 : Int) {M : xM} {Q : Option xV → xM → Prop} (h : x_Ev l E (1, 0, 0) m_X11_in 0 [(1, a1), (5, 0), (1, (-9999)), (5, 0), (1, 9999), (5, 0)] [] M (fun r zM1 => ∃ zr2, r = some (0, zr2) ∧ (¬ zr2 = 0 → x_Ev l E (10, 0, 0) m_X11_plans_ 0 [(21, 103), (5, 0)] [] zM1 (fun r zM3 => r = none ∧ ∀ zv4 : Int, zv4 = (zM3 103 8) → x_Ev l E (11, 0, 0) m_X11_mostFor 34 [(21, 103), (0, a1), (0, zv4), (0, (-1)), (0, 1)] [] zM3 Q)) ∧ (zr2 = 0 → x_Ev l E (1, 0, 0) m_X11_finds 0 [(21, 103), (0, 0)] [] zM1 (fun r zM5 => ∃ zr6, r = some (0, zr6) ∧ Q (some (0, zr6)) zM5)))) : x_Ev l E (11, 0, 0) m_X11_mostFor 0 [(21, 103), (0, a1), (5, 0), (5, 0), (5, 0)] [] M Q := by
  refine i_iload_n 0 rfl rfl ?_
  refine i_i2l 1 rfl ?_
  refine i_ldc2 (v := (-9999)) 2 rfl cw_1656 (by decide) ?_
  refine i_ldc2 (v := 9999) 3 rfl cw_1657 (by decide) ?_
  refine i_callS (y1 := m_X11_in) (z1 := (1, 0, 0)) (z2 := (11, 0, 0)) [(1, a1), (1, (-9999)), (1, 9999)] 4 rfl ml_1229 ok_X11_in vk_X11_in rfl ⟨rfl, Nat.le_of_ble_eq_true rfl⟩ (Nat.le_of_ble_eq_true rfl) ⟨by decide, rfl, rfl, rfl⟩ ?_
  refine h.mono (fun r zM1 h => ?_)
  obtain ⟨zr2, rfl, h⟩ := h
  simp only [Option.toList_some, Option.toList_none, List.cons_append, List.nil_append]
  refine i_if_ne 20 5 rfl (by decide) (fun c => ?_) (fun c => ?_)
  · replace h := h.1 c
    refine i_aload_n 10 rfl rfl (by decide) ?_
    refine i_callV (c := 11) (y1 := m_X11_plans_) (z1 := (10, 0, 0)) (z2 := (11, 0, 0)) [] 11 rfl ml_1425 ok_X11_plans_ vk_X11_plans_ ⟨by decide, rfl⟩ rfl ⟨rfl, Nat.le_of_ble_eq_true rfl⟩ (Nat.le_of_ble_eq_true rfl) ⟨by decide, rfl, rfl, rfl⟩ ?_
    refine h.mono (fun r zM3 h => ?_)
    obtain ⟨rfl, h⟩ := h
    simp only [Option.toList_some, Option.toList_none, List.cons_append, List.nil_append]
    refine i_aload_n 12 rfl rfl (by decide) ?_
    refine i_getI (c := 11) (k := 8) 13 rfl fl_1057 (by decide) (by decide) ?_
    replace h := h _ rfl
    refine i_istore_n 14 rfl (by decide) rfl ?_
    refine i_iconst 15 rfl (by decide) ?_
    refine i_istore_n 16 rfl (by decide) rfl ?_
    refine i_iconst 17 rfl (by decide) ?_
    refine i_istore 18 rfl (by decide) rfl ?_
    exact h
  · replace h := h.2 c
    refine i_aload_n 6 rfl rfl (by decide) ?_
    refine i_iconst 7 rfl (by decide) ?_
    refine i_callV (c := 11) (y1 := m_X11_finds) (z1 := (1, 0, 0)) (z2 := (11, 0, 0)) [(0, 0)] 8 rfl ml_1233 ok_X11_finds vk_X11_finds ⟨by decide, rfl⟩ rfl ⟨rfl, Nat.le_of_ble_eq_true rfl⟩ (Nat.le_of_ble_eq_true rfl) ⟨by decide, rfl, rfl, rfl⟩ ?_
    refine h.mono (fun r zM5 h => ?_)
    obtain ⟨zr6, rfl, h⟩ := h
    simp only [Option.toList_some, Option.toList_none, List.cons_append, List.nil_append]
    exact i_ireturn 9 rfl rfl h
theorem u_X11_mostFor_34 {l : Launch} {E : xE} (l1 l2 l3 l4 : Int) {M : xM} {Q : Option xV → xM → Prop} (h : (40 < l4 → ∀ zM1 : xM, zM1 = x_wr M 103 8 l2 → (0 ≤ l3 → Q (some (0, l3)) zM1) ∧ (¬ 0 ≤ l3 → x_Ev l E (1, 0, 0) m_X11_finds 0 [(21, 103), (0, 3)] [] zM1 (fun r zM2 => ∃ zr3, r = some (0, zr3) ∧ Q (some (0, zr3)) zM2))) ∧ (¬ 40 < l4 → (0 ≤ l3 → ∀ zM4 : xM, zM4 = x_wr M 103 8 l2 → Q (some (0, l3)) zM4) ∧ (¬ 0 ≤ l3 → ∀ zM5 : xM, zM5 = x_wr M 103 8 l4 → x_Ev l E (7, 0, 0) m_X11_findsBest 0 [(21, 103), (5, 0), (5, 0), (5, 0)] [] zM5 (fun r zM6 => r = none ∧ x_Ev l E (2, 0, 0) m_X11_compare 0 [(1, (zM6 103 28)), (5, 0), (1, (zM6 103 29)), (5, 0), (1, l1), (5, 0), (1, 1), (5, 0), (5, 0), (5, 0), (5, 0), (5, 0), (5, 0), (5, 0), (5, 0), (5, 0), (5, 0), (5, 0), (5, 0), (5, 0), (5, 0), (5, 0), (5, 0), (5, 0), (5, 0)] [] zM6 (fun r zM7 => ∃ zr8, r = some (0, zr8) ∧ (zr8 < 0 → ∀ zv9 : Int, zv9 = x_w (l4 + 1) → x_Ev l E (11, 0, 0) m_X11_mostFor 34 [(21, 103), (0, l1), (0, l2), (0, (-1)), (0, zv9)] [] zM7 Q) ∧ (¬ zr8 < 0 → ∀ zv10 : Int, zv10 = x_w (l4 + 1) → x_Ev l E (11, 0, 0) m_X11_mostFor 34 [(21, 103), (0, l1), (0, l2), (0, l4), (0, zv10)] [] zM7 Q)))))) : x_Ev l E (11, 0, 0) m_X11_mostFor 34 [(21, 103), (0, l1), (0, l2), (0, l3), (0, l4)] [] M Q := by
  refine i_iload 19 rfl rfl ?_
  refine i_bipush 20 rfl (by decide) ?_
  refine i_icmp_gt 85 21 rfl (by decide) (fun c => ?_) (fun c => ?_)
  · replace h := h.1 c
    refine i_aload_n 44 rfl rfl (by decide) ?_
    refine i_iload_n 45 rfl rfl ?_
    replace h := h _ rfl
    refine i_putI (c := 11) (k := 8) 46 rfl fl_1057 (by decide) ⟨rfl, rfl, rfl⟩ ?_
    refine i_iload_n 47 rfl rfl ?_
    refine i_if_ge 102 48 rfl (by decide) (fun c => ?_) (fun c => ?_)
    · replace h := h.1 c
      refine i_iload_n 53 rfl rfl ?_
      exact i_ireturn 54 rfl rfl h
    · replace h := h.2 c
      refine i_aload_n 49 rfl rfl (by decide) ?_
      refine i_iconst 50 rfl (by decide) ?_
      refine i_callV (c := 11) (y1 := m_X11_finds) (z1 := (1, 0, 0)) (z2 := (11, 0, 0)) [(0, 3)] 51 rfl ml_1233 ok_X11_finds vk_X11_finds ⟨by decide, rfl⟩ rfl ⟨rfl, Nat.le_of_ble_eq_true rfl⟩ (Nat.le_of_ble_eq_true rfl) ⟨by decide, rfl, rfl, rfl⟩ ?_
      refine h.mono (fun r zM2 h => ?_)
      obtain ⟨zr3, rfl, h⟩ := h
      simp only [Option.toList_some, Option.toList_none, List.cons_append, List.nil_append]
      refine i_goto 103 52 rfl (by decide) ?_
      exact i_ireturn 54 rfl rfl h
  · replace h := h.2 c
    refine i_iload_n 22 rfl rfl ?_
    refine i_if_ge 85 23 rfl (by decide) (fun c => ?_) (fun c => ?_)
    · replace h := h.1 c
      refine i_aload_n 44 rfl rfl (by decide) ?_
      refine i_iload_n 45 rfl rfl ?_
      replace h := h _ rfl
      refine i_putI (c := 11) (k := 8) 46 rfl fl_1057 (by decide) ⟨rfl, rfl, rfl⟩ ?_
      refine i_iload_n 47 rfl rfl ?_
      refine i_if_ge 102 48 rfl (by decide) (fun c => ?_) (fun c => ?_)
      · refine i_iload_n 53 rfl rfl ?_
        exact i_ireturn 54 rfl rfl h
      · exact absurd c (by omega)
    · replace h := h.2 c
      refine i_aload_n 24 rfl rfl (by decide) ?_
      refine i_iload 25 rfl rfl ?_
      replace h := h _ rfl
      refine i_putI (c := 11) (k := 8) 26 rfl fl_1057 (by decide) ⟨rfl, rfl, rfl⟩ ?_
      refine i_aload_n 27 rfl rfl (by decide) ?_
      refine i_callV (c := 11) (y1 := m_X11_findsBest) (z1 := (7, 0, 0)) (z2 := (11, 0, 0)) [] 28 rfl ml_1612 ok_X11_findsBest vk_X11_findsBest ⟨by decide, rfl⟩ rfl ⟨rfl, Nat.le_of_ble_eq_true rfl⟩ (Nat.le_of_ble_eq_true rfl) ⟨by decide, rfl, rfl, rfl⟩ ?_
      refine h.mono (fun r zM6 h => ?_)
      obtain ⟨rfl, h⟩ := h
      simp only [Option.toList_some, Option.toList_none, List.cons_append, List.nil_append]
      refine i_aload_n 29 rfl rfl (by decide) ?_
      refine i_getL (c := 11) (k := 28) 30 rfl fl_1077 (by decide) rfl ?_
      refine i_aload_n 31 rfl rfl (by decide) ?_
      refine i_getL (c := 11) (k := 29) 32 rfl fl_1078 (by decide) rfl ?_
      refine i_iload_n 33 rfl rfl ?_
      refine i_i2l 34 rfl ?_
      refine i_lconst (w := 1) 35 rfl (by decide) ?_
      refine i_callS (y1 := m_X11_compare) (z1 := (2, 0, 0)) (z2 := (11, 0, 0)) [(1, (zM6 103 28)), (1, (zM6 103 29)), (1, l1), (1, 1)] 36 rfl ml_1558 ok_X11_compare vk_X11_compare rfl ⟨rfl, Nat.le_of_ble_eq_true rfl⟩ (Nat.le_of_ble_eq_true rfl) ⟨by decide, rfl, rfl, rfl⟩ ?_
      refine h.mono (fun r zM7 h => ?_)
      obtain ⟨zr8, rfl, h⟩ := h
      simp only [Option.toList_some, Option.toList_none, List.cons_append, List.nil_append]
      refine i_if_lt 77 37 rfl (by decide) (fun c => ?_) (fun c => ?_)
      · replace h := h.1 c
        refine i_iconst 40 rfl (by decide) ?_
        refine i_istore_n 41 rfl (by decide) rfl ?_
        replace h := h _ rfl
        refine i_iinc 42 rfl rfl (by decide) rfl ?_
        refine i_goto 34 43 rfl (by decide) ?_
        exact h
      · replace h := h.2 c
        refine i_iload 38 rfl rfl ?_
        refine i_goto 78 39 rfl (by decide) ?_
        refine i_istore_n 41 rfl (by decide) rfl ?_
        replace h := h _ rfl
        refine i_iinc 42 rfl rfl (by decide) rfl ?_
        refine i_goto 34 43 rfl (by decide) ?_
        exact h
theorem u_X11_round_0 {l : Launch} {E : xE} {M : xM} {Q : Option xV → xM → Prop} (h : (¬ (M 103 12) = 9999 → x_Ev l E (11, 0, 0) m_X11_totalCut 0 [(21, 103)] [] M (fun r zM1 => ∃ zr2, r = some (0, zr2) ∧ x_Ev l E (1, 0, 0) m_X11_isTooMuch 0 [(21, 103), (1, (zM1 103 11)), (5, 0), (1, zr2), (5, 0), (5, 0), (5, 0)] [] zM1 (fun r zM3 => ∃ zr4, r = some (0, zr4) ∧ (zr4 = 0 → ∀ zM5 : xM, zM5 = x_wr zM3 103 11 (x_W ((zM3 103 11) + zr2)) → ∀ zM6 : xM, zM6 = x_wr zM5 103 12 (x_w ((zM5 103 12) + 1)) → Q (some (0, zr2)) zM6) ∧ (¬ zr4 = 0 → x_Ev l E (1, 0, 0) m_X11_finds 0 [(21, 103), (0, 7)] [] zM3 (fun r zM7 => ∃ zr8, r = some (0, zr8) ∧ Q (some (0, zr8)) zM7))))) ∧ ((M 103 12) = 9999 → x_Ev l E (1, 0, 0) m_X11_finds 0 [(21, 103), (0, 4)] [] M (fun r zM9 => ∃ zr10, r = some (0, zr10) ∧ Q (some (0, zr10)) zM9))) : x_Ev l E (12, 0, 0) m_X11_round 0 [(21, 103), (5, 0)] [] M Q := by
  refine i_aload_n 0 rfl rfl (by decide) ?_
  refine i_getI (c := 11) (k := 12) 1 rfl fl_1061 (by decide) (by decide) ?_
  refine i_sipush 2 rfl (by decide) ?_
  refine i_icmp_ne 16 3 rfl (by decide) (fun c => ?_) (fun c => ?_)
  · replace h := h.1 c
    refine i_aload_n 8 rfl rfl (by decide) ?_
    refine i_callV (c := 11) (y1 := m_X11_totalCut) (z1 := (11, 0, 0)) (z2 := (12, 0, 0)) [] 9 rfl ml_1662 ok_X11_totalCut vk_X11_totalCut ⟨by decide, rfl⟩ rfl ⟨rfl, Nat.le_of_ble_eq_true rfl⟩ (Nat.le_of_ble_eq_true rfl) ⟨by decide, rfl, rfl, rfl⟩ ?_
    refine h.mono (fun r zM1 h => ?_)
    obtain ⟨zr2, rfl, h⟩ := h
    simp only [Option.toList_some, Option.toList_none, List.cons_append, List.nil_append]
    refine i_istore_n 10 rfl (by decide) rfl ?_
    refine i_aload_n 11 rfl rfl (by decide) ?_
    refine i_aload_n 12 rfl rfl (by decide) ?_
    refine i_getL (c := 11) (k := 11) 13 rfl fl_1060 (by decide) rfl ?_
    refine i_iload_n 14 rfl rfl ?_
    refine i_i2l 15 rfl ?_
    refine i_callV (c := 11) (y1 := m_X11_isTooMuch) (z1 := (1, 0, 0)) (z2 := (12, 0, 0)) [(1, (zM1 103 11)), (1, zr2)] 16 rfl ml_1666 ok_X11_isTooMuch vk_X11_isTooMuch ⟨by decide, rfl⟩ rfl ⟨rfl, Nat.le_of_ble_eq_true rfl⟩ (Nat.le_of_ble_eq_true rfl) ⟨by decide, rfl, rfl, rfl⟩ ?_
    refine h.mono (fun r zM3 h => ?_)
    obtain ⟨zr4, rfl, h⟩ := h
    simp only [Option.toList_some, Option.toList_none, List.cons_append, List.nil_append]
    refine i_if_eq 41 17 rfl (by decide) (fun c => ?_) (fun c => ?_)
    · replace h := h.1 c
      refine i_aload_n 22 rfl rfl (by decide) ?_
      refine i_dup 23 rfl (Nat.ne_of_beq_eq_false rfl) ?_
      refine i_getL (c := 11) (k := 11) 24 rfl fl_1060 (by decide) rfl ?_
      refine i_iload_n 25 rfl rfl ?_
      refine i_i2l 26 rfl ?_
      refine i_ladd 27 rfl ?_
      replace h := h _ rfl
      refine i_putL (c := 11) (k := 11) 28 rfl fl_1060 (by decide) ⟨rfl, rfl, rfl⟩ ?_
      refine i_aload_n 29 rfl rfl (by decide) ?_
      refine i_dup 30 rfl (Nat.ne_of_beq_eq_false rfl) ?_
      refine i_getI (c := 11) (k := 12) 31 rfl fl_1061 (by decide) (by decide) ?_
      refine i_iconst 32 rfl (by decide) ?_
      refine i_iadd 33 rfl ?_
      replace h := h _ rfl
      refine i_putI (c := 11) (k := 12) 34 rfl fl_1061 (by decide) ⟨rfl, rfl, rfl⟩ ?_
      refine i_iload_n 35 rfl rfl ?_
      exact i_ireturn 36 rfl rfl h
    · replace h := h.2 c
      refine i_aload_n 18 rfl rfl (by decide) ?_
      refine i_bipush 19 rfl (by decide) ?_
      refine i_callV (c := 11) (y1 := m_X11_finds) (z1 := (1, 0, 0)) (z2 := (12, 0, 0)) [(0, 7)] 20 rfl ml_1233 ok_X11_finds vk_X11_finds ⟨by decide, rfl⟩ rfl ⟨rfl, Nat.le_of_ble_eq_true rfl⟩ (Nat.le_of_ble_eq_true rfl) ⟨by decide, rfl, rfl, rfl⟩ ?_
      refine h.mono (fun r zM7 h => ?_)
      obtain ⟨zr8, rfl, h⟩ := h
      simp only [Option.toList_some, Option.toList_none, List.cons_append, List.nil_append]
      exact i_ireturn 21 rfl rfl h
  · replace h := h.2 c
    refine i_aload_n 4 rfl rfl (by decide) ?_
    refine i_iconst 5 rfl (by decide) ?_
    refine i_callV (c := 11) (y1 := m_X11_finds) (z1 := (1, 0, 0)) (z2 := (12, 0, 0)) [(0, 4)] 6 rfl ml_1233 ok_X11_finds vk_X11_finds ⟨by decide, rfl⟩ rfl ⟨rfl, Nat.le_of_ble_eq_true rfl⟩ (Nat.le_of_ble_eq_true rfl) ⟨by decide, rfl, rfl, rfl⟩ ?_
    refine h.mono (fun r zM9 h => ?_)
    obtain ⟨zr10, rfl, h⟩ := h
    simp only [Option.toList_some, Option.toList_none, List.cons_append, List.nil_append]
    exact i_ireturn 7 rfl rfl h
theorem u_X11_loose_0 {l : Launch} {E : xE} (a1 : Int) {M : xM} {Q : Option xV → xM → Prop} (h : x_Ev l E (1, 0, 0) m_X11_in 0 [(1, a1), (5, 0), (1, 1), (5, 0), (1, 20), (5, 0)] [] M (fun r zM1 => ∃ zr2, r = some (0, zr2) ∧ (¬ zr2 = 0 → ((x_w ((zM1 103 12) + a1)) ≤ 9999 → ∀ zv3 : Int, zv3 = (zM1 103 9) → ∀ zv4 : Int, zv4 = (zM1 103 10) → ∀ zv5 : Int, zv5 = (zM1 103 11) → ∀ zv6 : Int, zv6 = (zM1 103 13) → x_Ev l E (12, 0, 0) m_X11_loose 65 [(21, 103), (0, a1), (1, zv3), (5, 0), (1, zv4), (5, 0), (1, zv5), (5, 0), (0, zv6), (0, 0), (0, 0)] [] zM1 Q) ∧ (¬ (x_w ((zM1 103 12) + a1)) ≤ 9999 → x_Ev l E (1, 0, 0) m_X11_finds 0 [(21, 103), (0, 4)] [] zM1 (fun r zM7 => ∃ zr8, r = some (0, zr8) ∧ Q (some (0, zr8)) zM7))) ∧ (zr2 = 0 → x_Ev l E (1, 0, 0) m_X11_finds 0 [(21, 103), (0, 0)] [] zM1 (fun r zM9 => ∃ zr10, r = some (0, zr10) ∧ Q (some (0, zr10)) zM9)))) : x_Ev l E (12, 0, 0) m_X11_loose 0 [(21, 103), (0, a1), (5, 0), (5, 0), (5, 0), (5, 0), (5, 0), (5, 0), (5, 0), (5, 0), (5, 0)] [] M Q := by
  refine i_iload_n 0 rfl rfl ?_
  refine i_i2l 1 rfl ?_
  refine i_lconst (w := 1) 2 rfl (by decide) ?_
  refine i_ldc2 (v := 20) 3 rfl cw_1346 (by decide) ?_
  refine i_callS (y1 := m_X11_in) (z1 := (1, 0, 0)) (z2 := (12, 0, 0)) [(1, a1), (1, 1), (1, 20)] 4 rfl ml_1229 ok_X11_in vk_X11_in rfl ⟨rfl, Nat.le_of_ble_eq_true rfl⟩ (Nat.le_of_ble_eq_true rfl) ⟨by decide, rfl, rfl, rfl⟩ ?_
  refine h.mono (fun r zM1 h => ?_)
  obtain ⟨zr2, rfl, h⟩ := h
  simp only [Option.toList_some, Option.toList_none, List.cons_append, List.nil_append]
  refine i_if_ne 18 5 rfl (by decide) (fun c => ?_) (fun c => ?_)
  · replace h := h.1 c
    refine i_aload_n 10 rfl rfl (by decide) ?_
    refine i_getI (c := 11) (k := 12) 11 rfl fl_1061 (by decide) (by decide) ?_
    refine i_iload_n 12 rfl rfl ?_
    refine i_iadd 13 rfl ?_
    refine i_sipush 14 rfl (by decide) ?_
    refine i_icmp_le 36 15 rfl (by decide) (fun c => ?_) (fun c => ?_)
    · replace h := h.1 c
      refine i_aload_n 20 rfl rfl (by decide) ?_
      refine i_getL (c := 11) (k := 9) 21 rfl fl_1058 (by decide) rfl ?_
      replace h := h _ rfl
      refine i_lstore_n 22 rfl (by decide) rfl ?_
      refine i_aload_n 23 rfl rfl (by decide) ?_
      refine i_getL (c := 11) (k := 10) 24 rfl fl_1059 (by decide) rfl ?_
      replace h := h _ rfl
      refine i_lstore 25 rfl (by decide) rfl ?_
      refine i_aload_n 26 rfl rfl (by decide) ?_
      refine i_getL (c := 11) (k := 11) 27 rfl fl_1060 (by decide) rfl ?_
      replace h := h _ rfl
      refine i_lstore 28 rfl (by decide) rfl ?_
      refine i_aload_n 29 rfl rfl (by decide) ?_
      refine i_getI (c := 11) (k := 13) 30 rfl fl_1062 (by decide) (by decide) ?_
      replace h := h _ rfl
      refine i_istore 31 rfl (by decide) rfl ?_
      refine i_iconst 32 rfl (by decide) ?_
      refine i_istore 33 rfl (by decide) rfl ?_
      refine i_iconst 34 rfl (by decide) ?_
      refine i_istore 35 rfl (by decide) rfl ?_
      exact h
    · replace h := h.2 c
      refine i_aload_n 16 rfl rfl (by decide) ?_
      refine i_iconst 17 rfl (by decide) ?_
      refine i_callV (c := 11) (y1 := m_X11_finds) (z1 := (1, 0, 0)) (z2 := (12, 0, 0)) [(0, 4)] 18 rfl ml_1233 ok_X11_finds vk_X11_finds ⟨by decide, rfl⟩ rfl ⟨rfl, Nat.le_of_ble_eq_true rfl⟩ (Nat.le_of_ble_eq_true rfl) ⟨by decide, rfl, rfl, rfl⟩ ?_
      refine h.mono (fun r zM7 h => ?_)
      obtain ⟨zr8, rfl, h⟩ := h
      simp only [Option.toList_some, Option.toList_none, List.cons_append, List.nil_append]
      exact i_ireturn 19 rfl rfl h
  · replace h := h.2 c
    refine i_aload_n 6 rfl rfl (by decide) ?_
    refine i_iconst 7 rfl (by decide) ?_
    refine i_callV (c := 11) (y1 := m_X11_finds) (z1 := (1, 0, 0)) (z2 := (12, 0, 0)) [(0, 0)] 8 rfl ml_1233 ok_X11_finds vk_X11_finds ⟨by decide, rfl⟩ rfl ⟨rfl, Nat.le_of_ble_eq_true rfl⟩ (Nat.le_of_ble_eq_true rfl) ⟨by decide, rfl, rfl, rfl⟩ ?_
    refine h.mono (fun r zM9 h => ?_)
    obtain ⟨zr10, rfl, h⟩ := h
    simp only [Option.toList_some, Option.toList_none, List.cons_append, List.nil_append]
    exact i_ireturn 9 rfl rfl h
theorem u_X11_loose_65 {l : Launch} {E : xE} (l1 l2 l4 l6 l8 l9 l10 : Int) {M : xM} {Q : Option xV → xM → Prop} (h : (l1 ≤ l10 → ∀ zM1 : xM, zM1 = x_wr M 103 12 (x_w ((M 103 12) + l1)) → Q (some (0, l9)) zM1) ∧ (¬ l1 ≤ l10 → ∀ zM2 : xM, zM2 = x_wr M 103 13 (x_w ((x_w ((M 103 13) * 1103515245)) + 12345)) → ((x_w ((zM2 103 8) + 1)) ≠ 0) ∧ ∀ zM3 : xM, zM3 = x_wr zM2 103 9 ((x_iushr (zM2 103 13) 8).tmod (x_w ((zM2 103 8) + 1))) → ∀ zM4 : xM, zM4 = x_wr zM3 103 10 1 → x_Ev l E (11, 0, 0) m_X11_totalCut 0 [(21, 103)] [] zM4 (fun r zM5 => ∃ zr6, r = some (0, zr6) ∧ x_Ev l E (1, 0, 0) m_X11_isTooMuch 0 [(21, 103), (1, (zM5 103 11)), (5, 0), (1, zr6), (5, 0), (5, 0), (5, 0)] [] zM5 (fun r zM7 => ∃ zr8, r = some (0, zr8) ∧ (zr8 = 0 → ∀ zM9 : xM, zM9 = x_wr zM7 103 11 (x_W ((zM7 103 11) + zr6)) → ∀ zv10 : Int, zv10 = x_w (l10 + 1) → x_Ev l E (12, 0, 0) m_X11_loose 65 [(21, 103), (0, l1), (1, l2), (5, 0), (1, l4), (5, 0), (1, l6), (5, 0), (0, l8), (0, zr6), (0, zv10)] [] zM9 Q) ∧ (¬ zr8 = 0 → ∀ zM11 : xM, zM11 = x_wr zM7 103 9 l2 → ∀ zM12 : xM, zM12 = x_wr zM11 103 10 l4 → ∀ zM13 : xM, zM13 = x_wr zM12 103 11 l6 → ∀ zM14 : xM, zM14 = x_wr zM13 103 13 l8 → x_Ev l E (1, 0, 0) m_X11_finds 0 [(21, 103), (0, 7)] [] zM14 (fun r zM15 => ∃ zr16, r = some (0, zr16) ∧ Q (some (0, zr16)) zM15)))))) : x_Ev l E (12, 0, 0) m_X11_loose 65 [(21, 103), (0, l1), (1, l2), (5, 0), (1, l4), (5, 0), (1, l6), (5, 0), (0, l8), (0, l9), (0, l10)] [] M Q := by
  refine i_iload 36 rfl rfl ?_
  refine i_iload_n 37 rfl rfl ?_
  refine i_icmp_ge 179 38 rfl (by decide) (fun c => ?_) (fun c => ?_)
  · replace h := h.1 c
    refine i_aload_n 97 rfl rfl (by decide) ?_
    refine i_dup 98 rfl (Nat.ne_of_beq_eq_false rfl) ?_
    refine i_getI (c := 11) (k := 12) 99 rfl fl_1061 (by decide) (by decide) ?_
    refine i_iload_n 100 rfl rfl ?_
    refine i_iadd 101 rfl ?_
    replace h := h _ rfl
    refine i_putI (c := 11) (k := 12) 102 rfl fl_1061 (by decide) ⟨rfl, rfl, rfl⟩ ?_
    refine i_iload 103 rfl rfl ?_
    exact i_ireturn 104 rfl rfl h
  · replace h := h.2 c
    refine i_aload_n 39 rfl rfl (by decide) ?_
    refine i_aload_n 40 rfl rfl (by decide) ?_
    refine i_getI (c := 11) (k := 13) 41 rfl fl_1062 (by decide) (by decide) ?_
    refine i_ldcw (v := 1103515245) 42 rfl cw_1674 (by decide) ?_
    refine i_imul 43 rfl ?_
    refine i_sipush 44 rfl (by decide) ?_
    refine i_iadd 45 rfl ?_
    replace h := h _ rfl
    refine i_putI (c := 11) (k := 13) 46 rfl fl_1062 (by decide) ⟨rfl, rfl, rfl⟩ ?_
    refine i_aload_n 47 rfl rfl (by decide) ?_
    refine i_aload_n 48 rfl rfl (by decide) ?_
    refine i_getI (c := 11) (k := 13) 49 rfl fl_1062 (by decide) (by decide) ?_
    refine i_bipush 50 rfl (by decide) ?_
    refine i_iushr 51 rfl ?_
    refine i_aload_n 52 rfl rfl (by decide) ?_
    refine i_getI (c := 11) (k := 8) 53 rfl fl_1057 (by decide) (by decide) ?_
    refine i_iconst 54 rfl (by decide) ?_
    refine i_iadd 55 rfl ?_
    refine i_irem 56 rfl h.1 ?_
    replace h := h.2
    refine i_i2l 57 rfl ?_
    replace h := h _ rfl
    refine i_putL (c := 11) (k := 9) 58 rfl fl_1058 (by decide) ⟨rfl, rfl, rfl⟩ ?_
    refine i_aload_n 59 rfl rfl (by decide) ?_
    refine i_lconst (w := 1) 60 rfl (by decide) ?_
    replace h := h _ rfl
    refine i_putL (c := 11) (k := 10) 61 rfl fl_1059 (by decide) ⟨rfl, rfl, rfl⟩ ?_
    refine i_aload_n 62 rfl rfl (by decide) ?_
    refine i_callV (c := 11) (y1 := m_X11_totalCut) (z1 := (11, 0, 0)) (z2 := (12, 0, 0)) [] 63 rfl ml_1662 ok_X11_totalCut vk_X11_totalCut ⟨by decide, rfl⟩ rfl ⟨rfl, Nat.le_of_ble_eq_true rfl⟩ (Nat.le_of_ble_eq_true rfl) ⟨by decide, rfl, rfl, rfl⟩ ?_
    refine h.mono (fun r zM5 h => ?_)
    obtain ⟨zr6, rfl, h⟩ := h
    simp only [Option.toList_some, Option.toList_none, List.cons_append, List.nil_append]
    refine i_istore 64 rfl (by decide) rfl ?_
    refine i_aload_n 65 rfl rfl (by decide) ?_
    refine i_aload_n 66 rfl rfl (by decide) ?_
    refine i_getL (c := 11) (k := 11) 67 rfl fl_1060 (by decide) rfl ?_
    refine i_iload 68 rfl rfl ?_
    refine i_i2l 69 rfl ?_
    refine i_callV (c := 11) (y1 := m_X11_isTooMuch) (z1 := (1, 0, 0)) (z2 := (12, 0, 0)) [(1, (zM5 103 11)), (1, zr6)] 70 rfl ml_1666 ok_X11_isTooMuch vk_X11_isTooMuch ⟨by decide, rfl⟩ rfl ⟨rfl, Nat.le_of_ble_eq_true rfl⟩ (Nat.le_of_ble_eq_true rfl) ⟨by decide, rfl, rfl, rfl⟩ ?_
    refine h.mono (fun r zM7 h => ?_)
    obtain ⟨zr8, rfl, h⟩ := h
    simp only [Option.toList_some, Option.toList_none, List.cons_append, List.nil_append]
    refine i_if_eq 161 71 rfl (by decide) (fun c => ?_) (fun c => ?_)
    · replace h := h.1 c
      refine i_aload_n 88 rfl rfl (by decide) ?_
      refine i_dup 89 rfl (Nat.ne_of_beq_eq_false rfl) ?_
      refine i_getL (c := 11) (k := 11) 90 rfl fl_1060 (by decide) rfl ?_
      refine i_iload 91 rfl rfl ?_
      refine i_i2l 92 rfl ?_
      refine i_ladd 93 rfl ?_
      replace h := h _ rfl
      refine i_putL (c := 11) (k := 11) 94 rfl fl_1060 (by decide) ⟨rfl, rfl, rfl⟩ ?_
      replace h := h _ rfl
      refine i_iinc 95 rfl rfl (by decide) rfl ?_
      refine i_goto 65 96 rfl (by decide) ?_
      exact h
    · replace h := h.2 c
      refine i_aload_n 72 rfl rfl (by decide) ?_
      refine i_lload_n 73 rfl rfl ?_
      replace h := h _ rfl
      refine i_putL (c := 11) (k := 9) 74 rfl fl_1058 (by decide) ⟨rfl, rfl, rfl⟩ ?_
      refine i_aload_n 75 rfl rfl (by decide) ?_
      refine i_lload 76 rfl rfl ?_
      replace h := h _ rfl
      refine i_putL (c := 11) (k := 10) 77 rfl fl_1059 (by decide) ⟨rfl, rfl, rfl⟩ ?_
      refine i_aload_n 78 rfl rfl (by decide) ?_
      refine i_lload 79 rfl rfl ?_
      replace h := h _ rfl
      refine i_putL (c := 11) (k := 11) 80 rfl fl_1060 (by decide) ⟨rfl, rfl, rfl⟩ ?_
      refine i_aload_n 81 rfl rfl (by decide) ?_
      refine i_iload 82 rfl rfl ?_
      replace h := h _ rfl
      refine i_putI (c := 11) (k := 13) 83 rfl fl_1062 (by decide) ⟨rfl, rfl, rfl⟩ ?_
      refine i_aload_n 84 rfl rfl (by decide) ?_
      refine i_bipush 85 rfl (by decide) ?_
      refine i_callV (c := 11) (y1 := m_X11_finds) (z1 := (1, 0, 0)) (z2 := (12, 0, 0)) [(0, 7)] 86 rfl ml_1233 ok_X11_finds vk_X11_finds ⟨by decide, rfl⟩ rfl ⟨rfl, Nat.le_of_ble_eq_true rfl⟩ (Nat.le_of_ble_eq_true rfl) ⟨by decide, rfl, rfl, rfl⟩ ?_
      refine h.mono (fun r zM15 h => ?_)
      obtain ⟨zr16, rfl, h⟩ := h
      simp only [Option.toList_some, Option.toList_none, List.cons_append, List.nil_append]
      exact i_ireturn 87 rfl rfl h
theorem u_X11_book_0 {l : Launch} {E : xE} (a1 a2 : Int) {M : xM} {Q : Option xV → xM → Prop} (h : x_Ev l E (1, 0, 0) m_X11_in 0 [(1, a1), (5, 0), (1, 0), (5, 0), (1, 2), (5, 0)] [] M (fun r zM1 => ∃ zr2, r = some (0, zr2) ∧ (¬ zr2 = 0 → (¬ a1 = 2 → (¬ a1 = 0 → (¬ a1 = 1 → (¬ (zM1 103 11) = (-9223372036854775808) → (a2 ≠ 0) ∧ ∀ zM3 : xM, zM3 = x_wr zM1 103 11 (x_W ((zM1 103 11).tdiv a2)) → Q (some (1, (zM3 103 11))) zM3) ∧ ((zM1 103 11) = (-9223372036854775808) → (¬ a2 = (-1) → (a2 ≠ 0) ∧ ∀ zM4 : xM, zM4 = x_wr zM1 103 11 (x_W ((zM1 103 11).tdiv a2)) → Q (some (1, (zM4 103 11))) zM4) ∧ (a2 = (-1) → x_Ev l E (1, 0, 0) m_X11_findsLong 0 [(21, 103), (0, 7)] [] zM1 (fun r zM5 => ∃ zr6, r = some (1, zr6) ∧ Q (some (1, zr6)) zM5)))) ∧ (a1 = 1 → x_Ev l E (1, 0, 0) m_X11_isTimesTooMuch 0 [(21, 103), (1, (zM1 103 11)), (5, 0), (1, a2), (5, 0), (5, 0), (5, 0)] [] zM1 (fun r zM7 => ∃ zr8, r = some (0, zr8) ∧ (zr8 = 0 → ∀ zM9 : xM, zM9 = x_wr zM7 103 11 (x_W ((zM7 103 11) * a2)) → Q (some (1, (zM9 103 11))) zM9) ∧ (¬ zr8 = 0 → x_Ev l E (1, 0, 0) m_X11_findsLong 0 [(21, 103), (0, 7)] [] zM7 (fun r zM10 => ∃ zr11, r = some (1, zr11) ∧ Q (some (1, zr11)) zM10))))) ∧ (a1 = 0 → x_Ev l E (1, 0, 0) m_X11_isTooMuch 0 [(21, 103), (1, (zM1 103 11)), (5, 0), (1, a2), (5, 0), (5, 0), (5, 0)] [] zM1 (fun r zM12 => ∃ zr13, r = some (0, zr13) ∧ (zr13 = 0 → ∀ zM14 : xM, zM14 = x_wr zM12 103 11 (x_W ((zM12 103 11) + a2)) → Q (some (1, (zM14 103 11))) zM14) ∧ (¬ zr13 = 0 → x_Ev l E (1, 0, 0) m_X11_findsLong 0 [(21, 103), (0, 7)] [] zM12 (fun r zM15 => ∃ zr16, r = some (1, zr16) ∧ Q (some (1, zr16)) zM15))))) ∧ (a1 = 2 → (¬ a2 = 0 → (¬ (zM1 103 11) = (-9223372036854775808) → (a2 ≠ 0) ∧ ∀ zM17 : xM, zM17 = x_wr zM1 103 11 (x_W ((zM1 103 11).tdiv a2)) → Q (some (1, (zM17 103 11))) zM17) ∧ ((zM1 103 11) = (-9223372036854775808) → (¬ a2 = (-1) → (a2 ≠ 0) ∧ ∀ zM18 : xM, zM18 = x_wr zM1 103 11 (x_W ((zM1 103 11).tdiv a2)) → Q (some (1, (zM18 103 11))) zM18) ∧ (a2 = (-1) → x_Ev l E (1, 0, 0) m_X11_findsLong 0 [(21, 103), (0, 7)] [] zM1 (fun r zM19 => ∃ zr20, r = some (1, zr20) ∧ Q (some (1, zr20)) zM19)))) ∧ (a2 = 0 → x_Ev l E (1, 0, 0) m_X11_findsLong 0 [(21, 103), (0, 3)] [] zM1 (fun r zM21 => ∃ zr22, r = some (1, zr22) ∧ Q (some (1, zr22)) zM21)))) ∧ (zr2 = 0 → x_Ev l E (1, 0, 0) m_X11_findsLong 0 [(21, 103), (0, 0)] [] zM1 (fun r zM23 => ∃ zr24, r = some (1, zr24) ∧ Q (some (1, zr24)) zM23)))) : x_Ev l E (2, 0, 0) m_X11_book 0 [(21, 103), (0, a1), (1, a2), (5, 0), (5, 0)] [] M Q := by
  refine i_iload_n 0 rfl rfl ?_
  refine i_i2l 1 rfl ?_
  refine i_lconst (w := 0) 2 rfl (by decide) ?_
  refine i_ldc2 (v := 2) 3 rfl cw_1353 (by decide) ?_
  refine i_callS (y1 := m_X11_in) (z1 := (1, 0, 0)) (z2 := (2, 0, 0)) [(1, a1), (1, 0), (1, 2)] 4 rfl ml_1229 ok_X11_in vk_X11_in rfl ⟨rfl, Nat.le_of_ble_eq_true rfl⟩ (Nat.le_of_ble_eq_true rfl) ⟨by decide, rfl, rfl, rfl⟩ ?_
  refine h.mono (fun r zM1 h => ?_)
  obtain ⟨zr2, rfl, h⟩ := h
  simp only [Option.toList_some, Option.toList_none, List.cons_append, List.nil_append]
  refine i_if_ne 18 5 rfl (by decide) (fun c => ?_) (fun c => ?_)
  · replace h := h.1 c
    refine i_iload_n 10 rfl rfl ?_
    refine i_iconst 11 rfl (by decide) ?_
    refine i_icmp_ne 35 12 rfl (by decide) (fun c => ?_) (fun c => ?_)
    · replace h := h.1 c
      refine i_iload_n 21 rfl rfl ?_
      refine i_if_ne 51 22 rfl (by decide) (fun c => ?_) (fun c => ?_)
      · replace h := h.1 c
        refine i_iload_n 29 rfl rfl ?_
        refine i_iconst 30 rfl (by decide) ?_
        refine i_icmp_ne 68 31 rfl (by decide) (fun c => ?_) (fun c => ?_)
        · replace h := h.1 c
          refine i_aload_n 38 rfl rfl (by decide) ?_
          refine i_getL (c := 11) (k := 11) 39 rfl fl_1060 (by decide) rfl ?_
          refine i_ldc2 (v := (-9223372036854775808)) 40 rfl cw_1683 (by decide) ?_
          refine i_lcmp_ne 91 41 rfl rfl (by decide) (fun c => ?_) (fun c => ?_)
          · replace h := h.1 c
            refine i_iconst 49 rfl (by decide) ?_
            refine i_istore 50 rfl (by decide) rfl ?_
            refine i_iload 51 rfl rfl ?_
            refine i_if_eq 106 52 rfl (by decide) (fun c => ?_) (fun c => ?_)
            · refine i_aload_n 57 rfl rfl (by decide) ?_
              refine i_iload_n 58 rfl rfl ?_
              refine i_if_ne 120 59 rfl (by decide) (fun c => ?_) (fun c => ?_)
              · refine i_iload_n 65 rfl rfl ?_
                refine i_iconst 66 rfl (by decide) ?_
                refine i_icmp_ne 134 67 rfl (by decide) (fun c => ?_) (fun c => ?_)
                · refine i_aload_n 73 rfl rfl (by decide) ?_
                  refine i_getL (c := 11) (k := 11) 74 rfl fl_1060 (by decide) rfl ?_
                  refine i_lload_n 75 rfl rfl ?_
                  refine i_ldiv 76 rfl h.1 ?_
                  replace h := h.2
                  replace h := h _ rfl
                  refine i_putL (c := 11) (k := 11) 77 rfl fl_1060 (by decide) ⟨rfl, rfl, rfl⟩ ?_
                  refine i_aload_n 78 rfl rfl (by decide) ?_
                  refine i_getL (c := 11) (k := 11) 79 rfl fl_1060 (by decide) rfl ?_
                  exact i_lreturn 80 rfl rfl h
                · exact absurd c (by omega)
              · exact absurd c (by omega)
            · exact absurd c (by decide)
          · replace h := h.2 c
            refine i_lload_n 43 rfl rfl ?_
            refine i_ldc2 (v := (-1)) 44 rfl cw_1420 (by decide) ?_
            refine i_lcmp_ne 91 45 rfl rfl (by decide) (fun c => ?_) (fun c => ?_)
            · replace h := h.1 c
              refine i_iconst 49 rfl (by decide) ?_
              refine i_istore 50 rfl (by decide) rfl ?_
              refine i_iload 51 rfl rfl ?_
              refine i_if_eq 106 52 rfl (by decide) (fun c => ?_) (fun c => ?_)
              · refine i_aload_n 57 rfl rfl (by decide) ?_
                refine i_iload_n 58 rfl rfl ?_
                refine i_if_ne 120 59 rfl (by decide) (fun c => ?_) (fun c => ?_)
                · refine i_iload_n 65 rfl rfl ?_
                  refine i_iconst 66 rfl (by decide) ?_
                  refine i_icmp_ne 134 67 rfl (by decide) (fun c => ?_) (fun c => ?_)
                  · refine i_aload_n 73 rfl rfl (by decide) ?_
                    refine i_getL (c := 11) (k := 11) 74 rfl fl_1060 (by decide) rfl ?_
                    refine i_lload_n 75 rfl rfl ?_
                    refine i_ldiv 76 rfl h.1 ?_
                    replace h := h.2
                    replace h := h _ rfl
                    refine i_putL (c := 11) (k := 11) 77 rfl fl_1060 (by decide) ⟨rfl, rfl, rfl⟩ ?_
                    refine i_aload_n 78 rfl rfl (by decide) ?_
                    refine i_getL (c := 11) (k := 11) 79 rfl fl_1060 (by decide) rfl ?_
                    exact i_lreturn 80 rfl rfl h
                  · exact absurd c (by omega)
                · exact absurd c (by omega)
              · exact absurd c (by decide)
            · replace h := h.2 c
              refine i_iconst 47 rfl (by decide) ?_
              refine i_goto 92 48 rfl (by decide) ?_
              refine i_istore 50 rfl (by decide) rfl ?_
              refine i_iload 51 rfl rfl ?_
              refine i_if_eq 106 52 rfl (by decide) (fun c => ?_) (fun c => ?_)
              · exact absurd c (by decide)
              · refine i_aload_n 53 rfl rfl (by decide) ?_
                refine i_bipush 54 rfl (by decide) ?_
                refine i_callV (c := 11) (y1 := m_X11_findsLong) (z1 := (1, 0, 0)) (z2 := (2, 0, 0)) [(0, 7)] 55 rfl ml_1407 ok_X11_findsLong vk_X11_findsLong ⟨by decide, rfl⟩ rfl ⟨rfl, Nat.le_of_ble_eq_true rfl⟩ (Nat.le_of_ble_eq_true rfl) ⟨by decide, rfl, rfl, rfl⟩ ?_
                refine h.mono (fun r zM5 h => ?_)
                obtain ⟨zr6, rfl, h⟩ := h
                simp only [Option.toList_some, Option.toList_none, List.cons_append, List.nil_append]
                exact i_lreturn 56 rfl rfl h
        · replace h := h.2 c
          refine i_aload_n 32 rfl rfl (by decide) ?_
          refine i_aload_n 33 rfl rfl (by decide) ?_
          refine i_getL (c := 11) (k := 11) 34 rfl fl_1060 (by decide) rfl ?_
          refine i_lload_n 35 rfl rfl ?_
          refine i_callV (c := 11) (y1 := m_X11_isTimesTooMuch) (z1 := (1, 0, 0)) (z2 := (2, 0, 0)) [(1, (zM1 103 11)), (1, a2)] 36 rfl ml_1679 ok_X11_isTimesTooMuch vk_X11_isTimesTooMuch ⟨by decide, rfl⟩ rfl ⟨rfl, Nat.le_of_ble_eq_true rfl⟩ (Nat.le_of_ble_eq_true rfl) ⟨by decide, rfl, rfl, rfl⟩ ?_
          refine h.mono (fun r zM7 h => ?_)
          obtain ⟨zr8, rfl, h⟩ := h
          simp only [Option.toList_some, Option.toList_none, List.cons_append, List.nil_append]
          refine i_goto 92 37 rfl (by decide) ?_
          refine i_istore 50 rfl (by decide) rfl ?_
          refine i_iload 51 rfl rfl ?_
          refine i_if_eq 106 52 rfl (by decide) (fun c => ?_) (fun c => ?_)
          · replace h := h.1 c
            refine i_aload_n 57 rfl rfl (by decide) ?_
            refine i_iload_n 58 rfl rfl ?_
            refine i_if_ne 120 59 rfl (by decide) (fun c => ?_) (fun c => ?_)
            · refine i_iload_n 65 rfl rfl ?_
              refine i_iconst 66 rfl (by decide) ?_
              refine i_icmp_ne 134 67 rfl (by decide) (fun c => ?_) (fun c => ?_)
              · exact absurd c (by omega)
              · refine i_aload_n 68 rfl rfl (by decide) ?_
                refine i_getL (c := 11) (k := 11) 69 rfl fl_1060 (by decide) rfl ?_
                refine i_lload_n 70 rfl rfl ?_
                refine i_lmul 71 rfl ?_
                refine i_goto 140 72 rfl (by decide) ?_
                replace h := h _ rfl
                refine i_putL (c := 11) (k := 11) 77 rfl fl_1060 (by decide) ⟨rfl, rfl, rfl⟩ ?_
                refine i_aload_n 78 rfl rfl (by decide) ?_
                refine i_getL (c := 11) (k := 11) 79 rfl fl_1060 (by decide) rfl ?_
                exact i_lreturn 80 rfl rfl h
            · exact absurd c (by omega)
          · replace h := h.2 c
            refine i_aload_n 53 rfl rfl (by decide) ?_
            refine i_bipush 54 rfl (by decide) ?_
            refine i_callV (c := 11) (y1 := m_X11_findsLong) (z1 := (1, 0, 0)) (z2 := (2, 0, 0)) [(0, 7)] 55 rfl ml_1407 ok_X11_findsLong vk_X11_findsLong ⟨by decide, rfl⟩ rfl ⟨rfl, Nat.le_of_ble_eq_true rfl⟩ (Nat.le_of_ble_eq_true rfl) ⟨by decide, rfl, rfl, rfl⟩ ?_
            refine h.mono (fun r zM10 h => ?_)
            obtain ⟨zr11, rfl, h⟩ := h
            simp only [Option.toList_some, Option.toList_none, List.cons_append, List.nil_append]
            exact i_lreturn 56 rfl rfl h
      · replace h := h.2 c
        refine i_aload_n 23 rfl rfl (by decide) ?_
        refine i_aload_n 24 rfl rfl (by decide) ?_
        refine i_getL (c := 11) (k := 11) 25 rfl fl_1060 (by decide) rfl ?_
        refine i_lload_n 26 rfl rfl ?_
        refine i_callV (c := 11) (y1 := m_X11_isTooMuch) (z1 := (1, 0, 0)) (z2 := (2, 0, 0)) [(1, (zM1 103 11)), (1, a2)] 27 rfl ml_1666 ok_X11_isTooMuch vk_X11_isTooMuch ⟨by decide, rfl⟩ rfl ⟨rfl, Nat.le_of_ble_eq_true rfl⟩ (Nat.le_of_ble_eq_true rfl) ⟨by decide, rfl, rfl, rfl⟩ ?_
        refine h.mono (fun r zM12 h => ?_)
        obtain ⟨zr13, rfl, h⟩ := h
        simp only [Option.toList_some, Option.toList_none, List.cons_append, List.nil_append]
        refine i_goto 92 28 rfl (by decide) ?_
        refine i_istore 50 rfl (by decide) rfl ?_
        refine i_iload 51 rfl rfl ?_
        refine i_if_eq 106 52 rfl (by decide) (fun c => ?_) (fun c => ?_)
        · replace h := h.1 c
          refine i_aload_n 57 rfl rfl (by decide) ?_
          refine i_iload_n 58 rfl rfl ?_
          refine i_if_ne 120 59 rfl (by decide) (fun c => ?_) (fun c => ?_)
          · exact absurd c (by omega)
          · refine i_aload_n 60 rfl rfl (by decide) ?_
            refine i_getL (c := 11) (k := 11) 61 rfl fl_1060 (by decide) rfl ?_
            refine i_lload_n 62 rfl rfl ?_
            refine i_ladd 63 rfl ?_
            refine i_goto 140 64 rfl (by decide) ?_
            replace h := h _ rfl
            refine i_putL (c := 11) (k := 11) 77 rfl fl_1060 (by decide) ⟨rfl, rfl, rfl⟩ ?_
            refine i_aload_n 78 rfl rfl (by decide) ?_
            refine i_getL (c := 11) (k := 11) 79 rfl fl_1060 (by decide) rfl ?_
            exact i_lreturn 80 rfl rfl h
        · replace h := h.2 c
          refine i_aload_n 53 rfl rfl (by decide) ?_
          refine i_bipush 54 rfl (by decide) ?_
          refine i_callV (c := 11) (y1 := m_X11_findsLong) (z1 := (1, 0, 0)) (z2 := (2, 0, 0)) [(0, 7)] 55 rfl ml_1407 ok_X11_findsLong vk_X11_findsLong ⟨by decide, rfl⟩ rfl ⟨rfl, Nat.le_of_ble_eq_true rfl⟩ (Nat.le_of_ble_eq_true rfl) ⟨by decide, rfl, rfl, rfl⟩ ?_
          refine h.mono (fun r zM15 h => ?_)
          obtain ⟨zr16, rfl, h⟩ := h
          simp only [Option.toList_some, Option.toList_none, List.cons_append, List.nil_append]
          exact i_lreturn 56 rfl rfl h
    · replace h := h.2 c
      refine i_lload_n 13 rfl rfl ?_
      refine i_lconst (w := 0) 14 rfl (by decide) ?_
      refine i_lcmp_ne 35 15 rfl rfl (by decide) (fun c => ?_) (fun c => ?_)
      · replace h := h.1 c
        refine i_iload_n 21 rfl rfl ?_
        refine i_if_ne 51 22 rfl (by decide) (fun c => ?_) (fun c => ?_)
        · refine i_iload_n 29 rfl rfl ?_
          refine i_iconst 30 rfl (by decide) ?_
          refine i_icmp_ne 68 31 rfl (by decide) (fun c => ?_) (fun c => ?_)
          · refine i_aload_n 38 rfl rfl (by decide) ?_
            refine i_getL (c := 11) (k := 11) 39 rfl fl_1060 (by decide) rfl ?_
            refine i_ldc2 (v := (-9223372036854775808)) 40 rfl cw_1683 (by decide) ?_
            refine i_lcmp_ne 91 41 rfl rfl (by decide) (fun c => ?_) (fun c => ?_)
            · replace h := h.1 c
              refine i_iconst 49 rfl (by decide) ?_
              refine i_istore 50 rfl (by decide) rfl ?_
              refine i_iload 51 rfl rfl ?_
              refine i_if_eq 106 52 rfl (by decide) (fun c => ?_) (fun c => ?_)
              · refine i_aload_n 57 rfl rfl (by decide) ?_
                refine i_iload_n 58 rfl rfl ?_
                refine i_if_ne 120 59 rfl (by decide) (fun c => ?_) (fun c => ?_)
                · refine i_iload_n 65 rfl rfl ?_
                  refine i_iconst 66 rfl (by decide) ?_
                  refine i_icmp_ne 134 67 rfl (by decide) (fun c => ?_) (fun c => ?_)
                  · refine i_aload_n 73 rfl rfl (by decide) ?_
                    refine i_getL (c := 11) (k := 11) 74 rfl fl_1060 (by decide) rfl ?_
                    refine i_lload_n 75 rfl rfl ?_
                    refine i_ldiv 76 rfl h.1 ?_
                    replace h := h.2
                    replace h := h _ rfl
                    refine i_putL (c := 11) (k := 11) 77 rfl fl_1060 (by decide) ⟨rfl, rfl, rfl⟩ ?_
                    refine i_aload_n 78 rfl rfl (by decide) ?_
                    refine i_getL (c := 11) (k := 11) 79 rfl fl_1060 (by decide) rfl ?_
                    exact i_lreturn 80 rfl rfl h
                  · exact absurd c (by omega)
                · exact absurd c (by omega)
              · exact absurd c (by decide)
            · replace h := h.2 c
              refine i_lload_n 43 rfl rfl ?_
              refine i_ldc2 (v := (-1)) 44 rfl cw_1420 (by decide) ?_
              refine i_lcmp_ne 91 45 rfl rfl (by decide) (fun c => ?_) (fun c => ?_)
              · replace h := h.1 c
                refine i_iconst 49 rfl (by decide) ?_
                refine i_istore 50 rfl (by decide) rfl ?_
                refine i_iload 51 rfl rfl ?_
                refine i_if_eq 106 52 rfl (by decide) (fun c => ?_) (fun c => ?_)
                · refine i_aload_n 57 rfl rfl (by decide) ?_
                  refine i_iload_n 58 rfl rfl ?_
                  refine i_if_ne 120 59 rfl (by decide) (fun c => ?_) (fun c => ?_)
                  · refine i_iload_n 65 rfl rfl ?_
                    refine i_iconst 66 rfl (by decide) ?_
                    refine i_icmp_ne 134 67 rfl (by decide) (fun c => ?_) (fun c => ?_)
                    · refine i_aload_n 73 rfl rfl (by decide) ?_
                      refine i_getL (c := 11) (k := 11) 74 rfl fl_1060 (by decide) rfl ?_
                      refine i_lload_n 75 rfl rfl ?_
                      refine i_ldiv 76 rfl h.1 ?_
                      replace h := h.2
                      replace h := h _ rfl
                      refine i_putL (c := 11) (k := 11) 77 rfl fl_1060 (by decide) ⟨rfl, rfl, rfl⟩ ?_
                      refine i_aload_n 78 rfl rfl (by decide) ?_
                      refine i_getL (c := 11) (k := 11) 79 rfl fl_1060 (by decide) rfl ?_
                      exact i_lreturn 80 rfl rfl h
                    · exact absurd c (by omega)
                  · exact absurd c (by omega)
                · exact absurd c (by decide)
              · replace h := h.2 c
                refine i_iconst 47 rfl (by decide) ?_
                refine i_goto 92 48 rfl (by decide) ?_
                refine i_istore 50 rfl (by decide) rfl ?_
                refine i_iload 51 rfl rfl ?_
                refine i_if_eq 106 52 rfl (by decide) (fun c => ?_) (fun c => ?_)
                · exact absurd c (by decide)
                · refine i_aload_n 53 rfl rfl (by decide) ?_
                  refine i_bipush 54 rfl (by decide) ?_
                  refine i_callV (c := 11) (y1 := m_X11_findsLong) (z1 := (1, 0, 0)) (z2 := (2, 0, 0)) [(0, 7)] 55 rfl ml_1407 ok_X11_findsLong vk_X11_findsLong ⟨by decide, rfl⟩ rfl ⟨rfl, Nat.le_of_ble_eq_true rfl⟩ (Nat.le_of_ble_eq_true rfl) ⟨by decide, rfl, rfl, rfl⟩ ?_
                  refine h.mono (fun r zM19 h => ?_)
                  obtain ⟨zr20, rfl, h⟩ := h
                  simp only [Option.toList_some, Option.toList_none, List.cons_append, List.nil_append]
                  exact i_lreturn 56 rfl rfl h
          · exact absurd c (by omega)
        · exact absurd c (by omega)
      · replace h := h.2 c
        refine i_aload_n 17 rfl rfl (by decide) ?_
        refine i_iconst 18 rfl (by decide) ?_
        refine i_callV (c := 11) (y1 := m_X11_findsLong) (z1 := (1, 0, 0)) (z2 := (2, 0, 0)) [(0, 3)] 19 rfl ml_1407 ok_X11_findsLong vk_X11_findsLong ⟨by decide, rfl⟩ rfl ⟨rfl, Nat.le_of_ble_eq_true rfl⟩ (Nat.le_of_ble_eq_true rfl) ⟨by decide, rfl, rfl, rfl⟩ ?_
        refine h.mono (fun r zM21 h => ?_)
        obtain ⟨zr22, rfl, h⟩ := h
        simp only [Option.toList_some, Option.toList_none, List.cons_append, List.nil_append]
        exact i_lreturn 20 rfl rfl h
  · replace h := h.2 c
    refine i_aload_n 6 rfl rfl (by decide) ?_
    refine i_iconst 7 rfl (by decide) ?_
    refine i_callV (c := 11) (y1 := m_X11_findsLong) (z1 := (1, 0, 0)) (z2 := (2, 0, 0)) [(0, 0)] 8 rfl ml_1407 ok_X11_findsLong vk_X11_findsLong ⟨by decide, rfl⟩ rfl ⟨rfl, Nat.le_of_ble_eq_true rfl⟩ (Nat.le_of_ble_eq_true rfl) ⟨by decide, rfl, rfl, rfl⟩ ?_
    refine h.mono (fun r zM23 h => ?_)
    obtain ⟨zr24, rfl, h⟩ := h
    simp only [Option.toList_some, Option.toList_none, List.cons_append, List.nil_append]
    exact i_lreturn 9 rfl rfl h
theorem u_X11_seed_0 {l : Launch} {E : xE} (a1 : Int) {M : xM} {Q : Option xV → xM → Prop} (h : ∀ zv1 : Int, zv1 = (M 103 13) → ∀ zM2 : xM, zM2 = x_wr M 103 13 a1 → Q (some (0, zv1)) zM2) : x_Ev l E (1, 0, 0) m_X11_seed 0 [(21, 103), (0, a1), (5, 0)] [] M Q := by
  refine i_aload_n 0 rfl rfl (by decide) ?_
  refine i_getI (c := 11) (k := 13) 1 rfl fl_1062 (by decide) (by decide) ?_
  replace h := h _ rfl
  refine i_istore_n 2 rfl (by decide) rfl ?_
  refine i_aload_n 3 rfl rfl (by decide) ?_
  refine i_iload_n 4 rfl rfl ?_
  replace h := h _ rfl
  refine i_putI (c := 11) (k := 13) 5 rfl fl_1062 (by decide) ⟨rfl, rfl, rfl⟩ ?_
  refine i_iload_n 6 rfl rfl ?_
  exact i_ireturn 7 rfl rfl h
theorem u_X11_fits_0 {l : Launch} {E : xE} (a1 a2 a3 : Int) {M : xM} {Q : Option xV → xM → Prop} (h : x_Ev l E (2, 0, 0) m_X11_isSheet 0 [(0, a1)] [] M (fun r zM1 => ∃ zr2, r = some (0, zr2) ∧ (zr2 = 0 → x_Ev l E (1, 0, 0) m_X11_finds 0 [(21, 103), (0, 0)] [] zM1 (fun r zM3 => ∃ zr4, r = some (0, zr4) ∧ Q (some (0, zr4)) zM3)) ∧ (¬ zr2 = 0 → x_Ev l E (2, 0, 0) m_X11_isFollower 0 [(21, 103), (0, a2)] [] zM1 (fun r zM5 => ∃ zr6, r = some (0, zr6) ∧ (zr6 = 0 → x_Ev l E (1, 0, 0) m_X11_finds 0 [(21, 103), (0, 0)] [] zM5 (fun r zM7 => ∃ zr8, r = some (0, zr8) ∧ Q (some (0, zr8)) zM7)) ∧ (¬ zr6 = 0 → x_Ev l E (1, 0, 0) m_X11_in 0 [(1, a3), (5, 0), (1, 0), (5, 0), (1, 1), (5, 0)] [] zM5 (fun r zM9 => ∃ zr10, r = some (0, zr10) ∧ (¬ zr10 = 0 → ((0 : Int) ≤ a1 ∧ (a1 : Int) < 4) ∧ (0 ≤ (zM9 544 a1) → x_Ev l E (9, 0, 0) m_X11_plans 0 [(21, 103), (0, a2), (5, 0), (5, 0), (5, 0)] [] zM9 (fun r zM11 => r = none ∧ ((0 : Int) ≤ a2 ∧ (a2 : Int) < 3) ∧ ∀ zv12 : Int, zv12 = (zM11 104 a2) → x_Ev l E (10, 0, 0) m_X11_fits 65 [(21, 103), (0, a1), (0, a2), (0, a3), (0, zv12), (0, 0), (0, 0)] [] zM11 Q)) ∧ (¬ 0 ≤ (zM9 544 a1) → x_Ev l E (1, 0, 0) m_X11_finds 0 [(21, 103), (0, 5)] [] zM9 (fun r zM13 => ∃ zr14, r = some (0, zr14) ∧ Q (some (0, zr14)) zM13))) ∧ (zr10 = 0 → x_Ev l E (1, 0, 0) m_X11_finds 0 [(21, 103), (0, 0)] [] zM9 (fun r zM15 => ∃ zr16, r = some (0, zr16) ∧ Q (some (0, zr16)) zM15)))))))) : x_Ev l E (10, 0, 0) m_X11_fits 0 [(21, 103), (0, a1), (0, a2), (0, a3), (5, 0), (5, 0), (5, 0)] [] M Q := by
  refine i_iload_n 0 rfl rfl ?_
  refine i_callS (y1 := m_X11_isSheet) (z1 := (2, 0, 0)) (z2 := (10, 0, 0)) [(0, a1)] 1 rfl ml_1541 ok_X11_isSheet vk_X11_isSheet rfl ⟨rfl, Nat.le_of_ble_eq_true rfl⟩ (Nat.le_of_ble_eq_true rfl) ⟨by decide, rfl, rfl, rfl⟩ ?_
  refine h.mono (fun r zM1 h => ?_)
  obtain ⟨zr2, rfl, h⟩ := h
  simp only [Option.toList_some, Option.toList_none, List.cons_append, List.nil_append]
  refine i_if_eq 25 2 rfl (by decide) (fun c => ?_) (fun c => ?_)
  · replace h := h.1 c
    refine i_aload_n 13 rfl rfl (by decide) ?_
    refine i_iconst 14 rfl (by decide) ?_
    refine i_callV (c := 11) (y1 := m_X11_finds) (z1 := (1, 0, 0)) (z2 := (10, 0, 0)) [(0, 0)] 15 rfl ml_1233 ok_X11_finds vk_X11_finds ⟨by decide, rfl⟩ rfl ⟨rfl, Nat.le_of_ble_eq_true rfl⟩ (Nat.le_of_ble_eq_true rfl) ⟨by decide, rfl, rfl, rfl⟩ ?_
    refine h.mono (fun r zM3 h => ?_)
    obtain ⟨zr4, rfl, h⟩ := h
    simp only [Option.toList_some, Option.toList_none, List.cons_append, List.nil_append]
    exact i_ireturn 16 rfl rfl h
  · replace h := h.2 c
    refine i_aload_n 3 rfl rfl (by decide) ?_
    refine i_iload_n 4 rfl rfl ?_
    refine i_callV (c := 11) (y1 := m_X11_isFollower) (z1 := (2, 0, 0)) (z2 := (10, 0, 0)) [(0, a2)] 5 rfl ml_1242 ok_X11_isFollower vk_X11_isFollower ⟨by decide, rfl⟩ rfl ⟨rfl, Nat.le_of_ble_eq_true rfl⟩ (Nat.le_of_ble_eq_true rfl) ⟨by decide, rfl, rfl, rfl⟩ ?_
    refine h.mono (fun r zM5 h => ?_)
    obtain ⟨zr6, rfl, h⟩ := h
    simp only [Option.toList_some, Option.toList_none, List.cons_append, List.nil_append]
    refine i_if_eq 25 6 rfl (by decide) (fun c => ?_) (fun c => ?_)
    · replace h := h.1 c
      refine i_aload_n 13 rfl rfl (by decide) ?_
      refine i_iconst 14 rfl (by decide) ?_
      refine i_callV (c := 11) (y1 := m_X11_finds) (z1 := (1, 0, 0)) (z2 := (10, 0, 0)) [(0, 0)] 15 rfl ml_1233 ok_X11_finds vk_X11_finds ⟨by decide, rfl⟩ rfl ⟨rfl, Nat.le_of_ble_eq_true rfl⟩ (Nat.le_of_ble_eq_true rfl) ⟨by decide, rfl, rfl, rfl⟩ ?_
      refine h.mono (fun r zM7 h => ?_)
      obtain ⟨zr8, rfl, h⟩ := h
      simp only [Option.toList_some, Option.toList_none, List.cons_append, List.nil_append]
      exact i_ireturn 16 rfl rfl h
    · replace h := h.2 c
      refine i_iload_n 7 rfl rfl ?_
      refine i_i2l 8 rfl ?_
      refine i_lconst (w := 0) 9 rfl (by decide) ?_
      refine i_lconst (w := 1) 10 rfl (by decide) ?_
      refine i_callS (y1 := m_X11_in) (z1 := (1, 0, 0)) (z2 := (10, 0, 0)) [(1, a3), (1, 0), (1, 1)] 11 rfl ml_1229 ok_X11_in vk_X11_in rfl ⟨rfl, Nat.le_of_ble_eq_true rfl⟩ (Nat.le_of_ble_eq_true rfl) ⟨by decide, rfl, rfl, rfl⟩ ?_
      refine h.mono (fun r zM9 h => ?_)
      obtain ⟨zr10, rfl, h⟩ := h
      simp only [Option.toList_some, Option.toList_none, List.cons_append, List.nil_append]
      refine i_if_ne 31 12 rfl (by decide) (fun c => ?_) (fun c => ?_)
      · replace h := h.1 c
        refine i_aload_n 17 rfl rfl (by decide) ?_
        refine i_getP (c := 11) (k := 44) (t := 103) (b := 544) 18 rfl fl_1093 (by decide) rfl (by decide) rfl ?_
        refine i_iload_n 19 rfl rfl ?_
        refine i_iald (τ := 3) 20 rfl ⟨rfl, rfl, rfl, by decide⟩ h.1.1 h.1.2 ?_
        replace h := h.2
        refine i_if_ge 46 21 rfl (by decide) (fun c => ?_) (fun c => ?_)
        · replace h := h.1 c
          refine i_aload_n 26 rfl rfl (by decide) ?_
          refine i_iload_n 27 rfl rfl ?_
          refine i_callV (c := 11) (y1 := m_X11_plans) (z1 := (9, 0, 0)) (z2 := (10, 0, 0)) [(0, a2)] 28 rfl ml_1251 ok_X11_plans vk_X11_plans ⟨by decide, rfl⟩ rfl ⟨rfl, Nat.le_of_ble_eq_true rfl⟩ (Nat.le_of_ble_eq_true rfl) ⟨by decide, rfl, rfl, rfl⟩ ?_
          refine h.mono (fun r zM11 h => ?_)
          obtain ⟨rfl, h⟩ := h
          simp only [Option.toList_some, Option.toList_none, List.cons_append, List.nil_append]
          refine i_aload_n 29 rfl rfl (by decide) ?_
          refine i_getP (c := 11) (k := 1) (t := 114) (b := 104) 30 rfl fl_1050 (by decide) rfl (by decide) rfl ?_
          refine i_iload_n 31 rfl rfl ?_
          refine i_iald (τ := 14) 32 rfl ⟨rfl, rfl, rfl, by decide⟩ h.1.1 h.1.2 ?_
          replace h := h.2
          replace h := h _ rfl
          refine i_istore 33 rfl (by decide) rfl ?_
          refine i_iconst 34 rfl (by decide) ?_
          refine i_istore 35 rfl (by decide) rfl ?_
          refine i_iconst 36 rfl (by decide) ?_
          refine i_istore 37 rfl (by decide) rfl ?_
          exact h
        · replace h := h.2 c
          refine i_aload_n 22 rfl rfl (by decide) ?_
          refine i_iconst 23 rfl (by decide) ?_
          refine i_callV (c := 11) (y1 := m_X11_finds) (z1 := (1, 0, 0)) (z2 := (10, 0, 0)) [(0, 5)] 24 rfl ml_1233 ok_X11_finds vk_X11_finds ⟨by decide, rfl⟩ rfl ⟨rfl, Nat.le_of_ble_eq_true rfl⟩ (Nat.le_of_ble_eq_true rfl) ⟨by decide, rfl, rfl, rfl⟩ ?_
          refine h.mono (fun r zM13 h => ?_)
          obtain ⟨zr14, rfl, h⟩ := h
          simp only [Option.toList_some, Option.toList_none, List.cons_append, List.nil_append]
          exact i_ireturn 25 rfl rfl h
      · replace h := h.2 c
        refine i_aload_n 13 rfl rfl (by decide) ?_
        refine i_iconst 14 rfl (by decide) ?_
        refine i_callV (c := 11) (y1 := m_X11_finds) (z1 := (1, 0, 0)) (z2 := (10, 0, 0)) [(0, 0)] 15 rfl ml_1233 ok_X11_finds vk_X11_finds ⟨by decide, rfl⟩ rfl ⟨rfl, Nat.le_of_ble_eq_true rfl⟩ (Nat.le_of_ble_eq_true rfl) ⟨by decide, rfl, rfl, rfl⟩ ?_
        refine h.mono (fun r zM15 h => ?_)
        obtain ⟨zr16, rfl, h⟩ := h
        simp only [Option.toList_some, Option.toList_none, List.cons_append, List.nil_append]
        exact i_ireturn 16 rfl rfl h
theorem u_X11_fits_65 {l : Launch} {E : xE} (l1 l2 l3 l4 l5 l6 : Int) {M : xM} {Q : Option xV → xM → Prop} (h : (7 ≤ l6 → (0 ≤ l2 ∧ l2 < 3) ∧ ∀ zM1 : xM, zM1 = x_wr M 104 l2 l4 → (¬ l3 = 0 → x_Ev l E (1, 0, 0) m_J6_bitCount_0f7a4 0 [(0, l5)] [] zM1 (fun r zM2 => ∃ zr3, r = some (0, zr3) ∧ Q (some (0, zr3)) zM2)) ∧ (l3 = 0 → Q (some (0, l5)) zM1)) ∧ (¬ 7 ≤ l6 → (0 ≤ l2 ∧ l2 < 3) ∧ ∀ zM4 : xM, zM4 = x_wr M 104 l2 l6 → x_Ev l E (5, 0, 0) m_X11_isFitting 0 [(21, 103), (0, l1), (0, l2), (5, 0), (5, 0), (5, 0), (5, 0)] [] zM4 (fun r zM5 => ∃ zr6, r = some (0, zr6) ∧ (zr6 = 0 → ∀ zv7 : Int, zv7 = (x_ior l5 0) → ∀ zv8 : Int, zv8 = x_w (l6 + 1) → x_Ev l E (10, 0, 0) m_X11_fits 65 [(21, 103), (0, l1), (0, l2), (0, l3), (0, l4), (0, zv7), (0, zv8)] [] zM5 Q) ∧ (¬ zr6 = 0 → ∀ zv9 : Int, zv9 = (x_ior l5 (x_ishl 1 l6)) → ∀ zv10 : Int, zv10 = x_w (l6 + 1) → x_Ev l E (10, 0, 0) m_X11_fits 65 [(21, 103), (0, l1), (0, l2), (0, l3), (0, l4), (0, zv9), (0, zv10)] [] zM5 Q)))) : x_Ev l E (10, 0, 0) m_X11_fits 65 [(21, 103), (0, l1), (0, l2), (0, l3), (0, l4), (0, l5), (0, l6)] [] M Q := by
  refine i_iload 38 rfl rfl ?_
  refine i_bipush 39 rfl (by decide) ?_
  refine i_icmp_ge 108 40 rfl (by decide) (fun c => ?_) (fun c => ?_)
  · replace h := h.1 c
    refine i_aload_n 61 rfl rfl (by decide) ?_
    refine i_getP (c := 11) (k := 1) (t := 114) (b := 104) 62 rfl fl_1050 (by decide) rfl (by decide) rfl ?_
    refine i_iload_n 63 rfl rfl ?_
    refine i_iload 64 rfl rfl ?_
    have hb := h.1
    replace h := h.2 _ rfl
    refine i_iast (τ := 14) 65 rfl ⟨rfl, rfl, rfl, by decide⟩ hb.1 hb.2 ?_
    refine i_iload_n 66 rfl rfl ?_
    refine i_if_ne 125 67 rfl (by decide) (fun c => ?_) (fun c => ?_)
    · replace h := h.1 c
      refine i_iload 70 rfl rfl ?_
      refine i_callS (y1 := m_J6_bitCount_0f7a4) (z1 := (1, 0, 0)) (z2 := (10, 0, 0)) [(0, l5)] 71 rfl ml_1259 ok_J6_bitCount_0f7a4 vk_J6_bitCount_0f7a4 rfl ⟨rfl, Nat.le_of_ble_eq_true rfl⟩ (Nat.le_of_ble_eq_true rfl) ⟨by decide, rfl, rfl, rfl⟩ ?_
      refine h.mono (fun r zM2 h => ?_)
      obtain ⟨zr3, rfl, h⟩ := h
      simp only [Option.toList_some, Option.toList_none, List.cons_append, List.nil_append]
      exact i_ireturn 72 rfl rfl h
    · replace h := h.2 c
      refine i_iload 68 rfl rfl ?_
      refine i_goto 130 69 rfl (by decide) ?_
      exact i_ireturn 72 rfl rfl h
  · replace h := h.2 c
    refine i_aload_n 41 rfl rfl (by decide) ?_
    refine i_getP (c := 11) (k := 1) (t := 114) (b := 104) 42 rfl fl_1050 (by decide) rfl (by decide) rfl ?_
    refine i_iload_n 43 rfl rfl ?_
    refine i_iload 44 rfl rfl ?_
    have hb := h.1
    replace h := h.2 _ rfl
    refine i_iast (τ := 14) 45 rfl ⟨rfl, rfl, rfl, by decide⟩ hb.1 hb.2 ?_
    refine i_iload 46 rfl rfl ?_
    refine i_aload_n 47 rfl rfl (by decide) ?_
    refine i_iload_n 48 rfl rfl ?_
    refine i_iload_n 49 rfl rfl ?_
    refine i_callV (c := 11) (y1 := m_X11_isFitting) (z1 := (5, 0, 0)) (z2 := (10, 0, 0)) [(0, l1), (0, l2)] 50 rfl ml_1692 ok_X11_isFitting vk_X11_isFitting ⟨by decide, rfl⟩ rfl ⟨rfl, Nat.le_of_ble_eq_true rfl⟩ (Nat.le_of_ble_eq_true rfl) ⟨by decide, rfl, rfl, rfl⟩ ?_
    refine h.mono (fun r zM5 h => ?_)
    obtain ⟨zr6, rfl, h⟩ := h
    simp only [Option.toList_some, Option.toList_none, List.cons_append, List.nil_append]
    refine i_if_eq 98 51 rfl (by decide) (fun c => ?_) (fun c => ?_)
    · replace h := h.1 c
      refine i_iconst 56 rfl (by decide) ?_
      refine i_ior 57 rfl ?_
      replace h := h _ rfl
      refine i_istore 58 rfl (by decide) rfl ?_
      replace h := h _ rfl
      refine i_iinc 59 rfl rfl (by decide) rfl ?_
      refine i_goto 65 60 rfl (by decide) ?_
      exact h
    · replace h := h.2 c
      refine i_iconst 52 rfl (by decide) ?_
      refine i_iload 53 rfl rfl ?_
      refine i_ishl 54 rfl ?_
      refine i_goto 99 55 rfl (by decide) ?_
      refine i_ior 57 rfl ?_
      replace h := h _ rfl
      refine i_istore 58 rfl (by decide) rfl ?_
      replace h := h _ rfl
      refine i_iinc 59 rfl rfl (by decide) rfl ?_
      refine i_goto 65 60 rfl (by decide) ?_
      exact h
theorem u_X11_prove_0 {l : Launch} {E : xE} {M : xM} {Q : Option xV → xM → Prop} (h : x_Ev l E (10, 0, 0) m_X11_plans_ 0 [(21, 103), (5, 0)] [] M (fun r zM1 => r = none ∧ x_Ev l E (6, 0, 0) m_X11_findsBreaks 0 [(21, 103), (0, (-1)), (5, 0)] [] zM1 (fun r zM2 => r = none ∧ ∀ zM3 : xM, zM3 = x_wr zM2 103 42 (x_w ((zM2 103 25) + 1)) → x_Ev l E (11, 0, 0) m_X11_prove 21 [(21, 103), (0, 0), (5, 0)] [] zM3 Q))) : x_Ev l E (11, 0, 0) m_X11_prove 0 [(21, 103), (5, 0), (5, 0)] [] M Q := by
  refine i_aload_n 0 rfl rfl (by decide) ?_
  refine i_callV (c := 11) (y1 := m_X11_plans_) (z1 := (10, 0, 0)) (z2 := (11, 0, 0)) [] 1 rfl ml_1425 ok_X11_plans_ vk_X11_plans_ ⟨by decide, rfl⟩ rfl ⟨rfl, Nat.le_of_ble_eq_true rfl⟩ (Nat.le_of_ble_eq_true rfl) ⟨by decide, rfl, rfl, rfl⟩ ?_
  refine h.mono (fun r zM1 h => ?_)
  obtain ⟨rfl, h⟩ := h
  simp only [Option.toList_some, Option.toList_none, List.cons_append, List.nil_append]
  refine i_aload_n 2 rfl rfl (by decide) ?_
  refine i_iconst 3 rfl (by decide) ?_
  refine i_callV (c := 11) (y1 := m_X11_findsBreaks) (z1 := (6, 0, 0)) (z2 := (11, 0, 0)) [(0, (-1))] 4 rfl ml_1566 ok_X11_findsBreaks vk_X11_findsBreaks ⟨by decide, rfl⟩ rfl ⟨rfl, Nat.le_of_ble_eq_true rfl⟩ (Nat.le_of_ble_eq_true rfl) ⟨by decide, rfl, rfl, rfl⟩ ?_
  refine h.mono (fun r zM2 h => ?_)
  obtain ⟨rfl, h⟩ := h
  simp only [Option.toList_some, Option.toList_none, List.cons_append, List.nil_append]
  refine i_aload_n 5 rfl rfl (by decide) ?_
  refine i_aload_n 6 rfl rfl (by decide) ?_
  refine i_getI (c := 11) (k := 25) 7 rfl fl_1074 (by decide) (by decide) ?_
  refine i_iconst 8 rfl (by decide) ?_
  refine i_iadd 9 rfl ?_
  replace h := h _ rfl
  refine i_putI (c := 11) (k := 42) 10 rfl fl_1091 (by decide) ⟨rfl, rfl, rfl⟩ ?_
  refine i_iconst 11 rfl (by decide) ?_
  refine i_istore_n 12 rfl (by decide) rfl ?_
  exact h
theorem u_X11_prove_21 {l : Launch} {E : xE} (l1 : Int) {M : xM} {Q : Option xV → xM → Prop} (h : ((M 103 42) ≤ l1 → Q (some (0, (M 103 42))) M) ∧ (¬ (M 103 42) ≤ l1 → x_Ev l E (11, 0, 0) m_X11_prove 31 [(21, 103), (0, l1), (0, 0)] [] M Q)) : x_Ev l E (11, 0, 0) m_X11_prove 21 [(21, 103), (0, l1), (5, 0)] [] M Q := by
  refine i_iload_n 13 rfl rfl ?_
  refine i_aload_n 14 rfl rfl (by decide) ?_
  refine i_getI (c := 11) (k := 42) 15 rfl fl_1091 (by decide) (by decide) ?_
  refine i_icmp_ge 63 16 rfl (by decide) (fun c => ?_) (fun c => ?_)
  · replace h := h.1 c
    refine i_aload_n 36 rfl rfl (by decide) ?_
    refine i_getI (c := 11) (k := 42) 37 rfl fl_1091 (by decide) (by decide) ?_
    exact i_ireturn 38 rfl rfl h
  · replace h := h.2 c
    refine i_iconst 17 rfl (by decide) ?_
    refine i_istore_n 18 rfl (by decide) rfl ?_
    exact h
theorem u_X11_prove_31 {l : Launch} {E : xE} (l1 l2 : Int) {M : xM} {Q : Option xV → xM → Prop} (h : (6 ≤ l2 → ∀ zv1 : Int, zv1 = x_w (l1 + 1) → x_Ev l E (11, 0, 0) m_X11_prove 21 [(21, 103), (0, zv1), (5, 0)] [] M Q) ∧ (¬ 6 ≤ l2 → ((0 : Int) ≤ l1 ∧ (l1 : Int) < 210) ∧ x_Ev l E (6, 0, 0) m_X11_pieceOf 0 [(21, 103), (0, l1), (0, l2)] [] M (fun r zM2 => ∃ zr3, r = some (1, zr3) ∧ (0 ≤ l2 ∧ l2 < 6) ∧ ∀ zM4 : xM, zM4 = x_wr zM2 (333 + 1 + 1 * l1) l2 zr3 → ∀ zv5 : Int, zv5 = x_w (l2 + 1) → x_Ev l E (11, 0, 0) m_X11_prove 31 [(21, 103), (0, l1), (0, zv5)] [] zM4 Q))) : x_Ev l E (11, 0, 0) m_X11_prove 31 [(21, 103), (0, l1), (0, l2)] [] M Q := by
  refine i_iload_n 19 rfl rfl ?_
  refine i_bipush 20 rfl (by decide) ?_
  refine i_icmp_ge 57 21 rfl (by decide) (fun c => ?_) (fun c => ?_)
  · replace h := h.1 c
    replace h := h _ rfl
    refine i_iinc 34 rfl rfl (by decide) rfl ?_
    refine i_goto 21 35 rfl (by decide) ?_
    refine i_weak ?_ h
    exact (And.intro (Or.inr rfl) (And.intro (Or.inr rfl) (And.intro (Or.inl rfl) trivial)))
  · replace h := h.2 c
    refine i_aload_n 22 rfl rfl (by decide) ?_
    refine i_getP (c := 11) (k := 43) (t := 135) (b := 333) 23 rfl fl_1092 (by decide) rfl (by decide) rfl ?_
    refine i_iload_n 24 rfl rfl ?_
    refine i_aald (τ := 35) (t := 118) (len := 210) (b := (333 + 1 + 1 * l1)) 25 rfl (by decide) rfl h.1.1 h.1.2 ?_
    replace h := h.2
    refine i_iload_n 26 rfl rfl ?_
    refine i_aload_n 27 rfl rfl (by decide) ?_
    refine i_iload_n 28 rfl rfl ?_
    refine i_iload_n 29 rfl rfl ?_
    refine i_callV (c := 11) (y1 := m_X11_pieceOf) (z1 := (6, 0, 0)) (z2 := (11, 0, 0)) [(0, l1), (0, l2)] 30 rfl ml_1591 ok_X11_pieceOf vk_X11_pieceOf ⟨by decide, rfl⟩ rfl ⟨rfl, Nat.le_of_ble_eq_true rfl⟩ (Nat.le_of_ble_eq_true rfl) ⟨by decide, rfl, rfl, rfl⟩ ?_
    refine h.mono (fun r zM2 h => ?_)
    obtain ⟨zr3, rfl, h⟩ := h
    simp only [Option.toList_some, Option.toList_none, List.cons_append, List.nil_append]
    have hb := h.1
    replace h := h.2 _ rfl
    refine i_last (τ := 18) 31 rfl ⟨rfl, rfl, rfl, by decide⟩ hb.1 hb.2 ?_
    replace h := h _ rfl
    refine i_iinc 32 rfl rfl (by decide) rfl ?_
    refine i_goto 31 33 rfl (by decide) ?_
    exact h
theorem u_X11_row_0 {l : Launch} {E : xE} (a1 a2 : Int) {M : xM} {Q : Option xV → xM → Prop} (h : x_Ev l E (2, 0, 0) m_X11_isPieceRow 0 [(21, 103), (0, a1), (0, a2)] [] M (fun r zM1 => ∃ zr2, r = some (0, zr2) ∧ (zr2 = 0 → x_Ev l E (1, 0, 0) m_X11_findsLong 0 [(21, 103), (0, 0)] [] zM1 (fun r zM3 => ∃ zr4, r = some (1, zr4) ∧ Q (some (1, zr4)) zM3)) ∧ (¬ zr2 = 0 → ((0 : Int) ≤ a1 ∧ (a1 : Int) < 210) ∧ ((0 : Int) ≤ a2 ∧ (a2 : Int) < 6) ∧ Q (some (1, (zM1 (333 + 1 + 1 * a1) a2))) zM1))) : x_Ev l E (3, 0, 0) m_X11_row 0 [(21, 103), (0, a1), (0, a2)] [] M Q := by
  refine i_aload_n 0 rfl rfl (by decide) ?_
  refine i_iload_n 1 rfl rfl ?_
  refine i_iload_n 2 rfl rfl ?_
  refine i_callV (c := 11) (y1 := m_X11_isPieceRow) (z1 := (2, 0, 0)) (z2 := (3, 0, 0)) [(0, a1), (0, a2)] 3 rfl ml_1705 ok_X11_isPieceRow vk_X11_isPieceRow ⟨by decide, rfl⟩ rfl ⟨rfl, Nat.le_of_ble_eq_true rfl⟩ (Nat.le_of_ble_eq_true rfl) ⟨by decide, rfl, rfl, rfl⟩ ?_
  refine h.mono (fun r zM1 h => ?_)
  obtain ⟨zr2, rfl, h⟩ := h
  simp only [Option.toList_some, Option.toList_none, List.cons_append, List.nil_append]
  refine i_if_eq 20 4 rfl (by decide) (fun c => ?_) (fun c => ?_)
  · replace h := h.1 c
    refine i_aload_n 12 rfl rfl (by decide) ?_
    refine i_iconst 13 rfl (by decide) ?_
    refine i_callV (c := 11) (y1 := m_X11_findsLong) (z1 := (1, 0, 0)) (z2 := (3, 0, 0)) [(0, 0)] 14 rfl ml_1407 ok_X11_findsLong vk_X11_findsLong ⟨by decide, rfl⟩ rfl ⟨rfl, Nat.le_of_ble_eq_true rfl⟩ (Nat.le_of_ble_eq_true rfl) ⟨by decide, rfl, rfl, rfl⟩ ?_
    refine h.mono (fun r zM3 h => ?_)
    obtain ⟨zr4, rfl, h⟩ := h
    simp only [Option.toList_some, Option.toList_none, List.cons_append, List.nil_append]
    exact i_lreturn 15 rfl rfl h
  · replace h := h.2 c
    refine i_aload_n 5 rfl rfl (by decide) ?_
    refine i_getP (c := 11) (k := 43) (t := 135) (b := 333) 6 rfl fl_1092 (by decide) rfl (by decide) rfl ?_
    refine i_iload_n 7 rfl rfl ?_
    refine i_aald (τ := 35) (t := 118) (len := 210) (b := (333 + 1 + 1 * a1)) 8 rfl (by decide) rfl h.1.1 h.1.2 ?_
    replace h := h.2
    refine i_iload_n 9 rfl rfl ?_
    refine i_lald (τ := 18) 10 rfl ⟨rfl, rfl, rfl, by decide⟩ h.1.1 h.1.2 ?_
    replace h := h.2
    refine i_goto 25 11 rfl (by decide) ?_
    exact i_lreturn 15 rfl rfl h
