/-! asKind's loops, once the row is made: as in 25, with what room is left then -/
theorem u_X11_asKind_68w {l : Launch} {E : xE} (l1 l2 l3 l4 : Int) {M : xM} {Q : Option xV → xM → Prop} (h : (3 ≤ l4 → x_Ev l E (7, 0, 0) m_X11_findsBest 0 [(21, 103), (5, 0), (5, 0), (5, 0)] [] M (fun r zM1 => r = none ∧ x_Ev l E (11, 1, 5) m_X11_asKind 95 [(21, 103), (0, l1), (0, l2), (192, l3), (0, 0)] [] zM1 Q)) ∧ (¬ 3 ≤ l4 → (0 ≤ l4 ∧ l4 < 3) ∧ ∀ zM2 : xM, zM2 = x_wr M 104 l4 l1 → ∀ zv3 : Int, zv3 = x_w (l4 + 1) → x_Ev l E (11, 1, 5) m_X11_asKind 68 [(21, 103), (0, l1), (0, l2), (192, l3), (0, zv3)] [] zM2 Q)) : x_Ev l E (11, 1, 5) m_X11_asKind 68 [(21, 103), (0, l1), (0, l2), (192, l3), (0, l4)] [] M Q := by
  refine i_iload 44 rfl rfl ?_
  refine i_iconst 45 rfl (by decide) ?_
  refine i_icmp_ge 88 46 rfl (by decide) (fun c => ?_) (fun c => ?_)
  · replace h := h.1 c
    refine i_aload_n 54 rfl rfl (by decide) ?_
    refine i_callV (c := 11) (y1 := m_X11_findsBest) (z1 := (7, 0, 0)) (z2 := (11, 1, 5)) [] 55 rfl ml_1612 ok_X11_findsBest vk_X11_findsBest ⟨by decide, rfl⟩ rfl ⟨rfl, Nat.le_of_ble_eq_true rfl⟩ (Nat.le_of_ble_eq_true rfl) ⟨by decide, rfl, rfl, rfl⟩ ?_
    refine h.mono (fun r zM1 h => ?_)
    obtain ⟨rfl, h⟩ := h
    simp only [Option.toList_some, Option.toList_none, List.cons_append, List.nil_append]
    refine i_iconst 56 rfl (by decide) ?_
    refine i_istore 57 rfl (by decide) rfl ?_
    exact h
  · replace h := h.2 c
    refine i_aload_n 47 rfl rfl (by decide) ?_
    refine i_getP (c := 11) (k := 1) (t := 114) (b := 104) 48 rfl fl_1050 (by decide) rfl (by decide) rfl ?_
    refine i_iload 49 rfl rfl ?_
    refine i_iload_n 50 rfl rfl ?_
    have hb := h.1
    replace h := h.2 _ rfl
    refine i_iast (τ := 14) 51 rfl ⟨rfl, rfl, rfl, by decide⟩ hb.1 hb.2 ?_
    replace h := h _ rfl
    refine i_iinc 52 rfl rfl (by decide) rfl ?_
    refine i_goto 68 53 rfl (by decide) ?_
    exact h
theorem u_X11_asKind_95w {l : Launch} {E : xE} (l1 l2 l3 l4 : Int) {M : xM} {Q : Option xV → xM → Prop} (h : (3 ≤ l4 → x_Ev l E (1, 1, 5) m_X11_toldBest 0 [(21, 103), (0, l2), (5, 0)] [] M (fun r zM1 => ∃ zr2, r = some (1, zr2) ∧ Q (some (1, zr2)) zM1)) ∧ (¬ 3 ≤ l4 → ((0 : Int) ≤ l4 ∧ (l4 : Int) < 3) ∧ (0 ≤ l4 ∧ l4 < 3) ∧ ∀ zM3 : xM, zM3 = x_wr M 104 l4 (M l3 l4) → ∀ zv4 : Int, zv4 = x_w (l4 + 1) → x_Ev l E (11, 1, 5) m_X11_asKind 95 [(21, 103), (0, l1), (0, l2), (192, l3), (0, zv4)] [] zM3 Q)) : x_Ev l E (11, 1, 5) m_X11_asKind 95 [(21, 103), (0, l1), (0, l2), (192, l3), (0, l4)] [] M Q := by
  refine i_iload 58 rfl rfl ?_
  refine i_iconst 59 rfl (by decide) ?_
  refine i_icmp_ge 118 60 rfl (by decide) (fun c => ?_) (fun c => ?_)
  · replace h := h.1 c
    refine i_aload_n 70 rfl rfl (by decide) ?_
    refine i_iload_n 71 rfl rfl ?_
    refine i_callV (c := 11) (y1 := m_X11_toldBest) (z1 := (1, 1, 5)) (z2 := (11, 0, 0)) [(0, l2)] 72 rfl ml_1616 ok_X11_toldBest vk_X11_toldBest ⟨by decide, rfl⟩ rfl ⟨rfl, Nat.le_of_ble_eq_true rfl⟩ (Nat.le_of_ble_eq_true rfl) ⟨by decide, rfl, rfl, rfl⟩ ?_
    refine h.mono (fun r zM1 h => ?_)
    obtain ⟨zr2, rfl, h⟩ := h
    simp only [Option.toList_some, Option.toList_none, List.cons_append, List.nil_append]
    exact i_lreturn 73 rfl rfl h
  · replace h := h.2 c
    refine i_aload_n 61 rfl rfl (by decide) ?_
    refine i_getP (c := 11) (k := 1) (t := 114) (b := 104) 62 rfl fl_1050 (by decide) rfl (by decide) rfl ?_
    refine i_iload 63 rfl rfl ?_
    refine i_aload_n 64 rfl rfl (by decide) ?_
    refine i_iload 65 rfl rfl ?_
    refine i_iald (τ := 92) 66 rfl ⟨rfl, rfl, rfl, by decide⟩ h.1.1 h.1.2 ?_
    replace h := h.2
    have hb := h.1
    replace h := h.2 _ rfl
    refine i_iast (τ := 14) 67 rfl ⟨rfl, rfl, rfl, by decide⟩ hb.1 hb.2 ?_
    replace h := h _ rfl
    refine i_iinc 68 rfl rfl (by decide) rfl ?_
    refine i_goto 95 69 rfl (by decide) ?_
    exact h
