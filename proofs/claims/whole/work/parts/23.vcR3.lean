/-! Printed by wip/whole/tools/gen_vc.py: what is enough at each cut point -/
theorem u_X11_tightPrimal_0 {l : Launch} {E : xE} (a1 a2 : Int) {M : xM} {Q : Option xV → xM → Prop} (h : x_Ev l E (2, 0, 0) m_X11_tightPrimal 6 [(21, 103), (0, a1), (1, a2), (5, 0), (0, 0), (0, 0)] [] M Q) : x_Ev l E (2, 0, 0) m_X11_tightPrimal 0 [(21, 103), (0, a1), (1, a2), (5, 0), (5, 0), (5, 0)] [] M Q := by
  refine i_iconst 0 rfl (by decide) ?_
  refine i_istore 1 rfl (by decide) rfl ?_
  refine i_iconst 2 rfl (by decide) ?_
  refine i_istore 3 rfl (by decide) rfl ?_
  exact h
theorem u_X11_tightPrimal_6 {l : Launch} {E : xE} (l1 l2 l4 l5 : Int) {M : xM} {Q : Option xV → xM → Prop} (h : ((0 : Int) ≤ l1 ∧ (l1 : Int) < 3) ∧ ((M 107 l1) ≤ l5 → x_Ev l E (2, 0, 0) m_X11_tightPrimal 62 [(21, 103), (0, l1), (1, l2), (5, 0), (0, l4), (0, 0)] [] M Q) ∧ (¬ (M 107 l1) ≤ l5 → x_Ev l E (1, 0, 0) m_X11_rowSum 0 [(21, 103), (0, l1), (0, l5), (5, 0), (5, 0), (5, 0)] [] M (fun r zM1 => ∃ zr2, r = some (1, zr2) ∧ ((0 : Int) ≤ l1 ∧ (l1 : Int) < 3) ∧ ((0 : Int) ≤ l5 ∧ (l5 : Int) < 4) ∧ (¬ zr2 = (x_W ((zM1 (137 + 1 + 1 * l1) l5) * l2)) → ∀ zv3 : Int, zv3 = (x_ior l4 0) → ∀ zv4 : Int, zv4 = x_w (l5 + 1) → x_Ev l E (2, 0, 0) m_X11_tightPrimal 6 [(21, 103), (0, l1), (1, l2), (5, 0), (0, zv3), (0, zv4)] [] zM1 Q) ∧ (zr2 = (x_W ((zM1 (137 + 1 + 1 * l1) l5) * l2)) → ∀ zv5 : Int, zv5 = (x_ior l4 (x_ishl 1 l5)) → ∀ zv6 : Int, zv6 = x_w (l5 + 1) → x_Ev l E (2, 0, 0) m_X11_tightPrimal 6 [(21, 103), (0, l1), (1, l2), (5, 0), (0, zv5), (0, zv6)] [] zM1 Q)))) : x_Ev l E (2, 0, 0) m_X11_tightPrimal 6 [(21, 103), (0, l1), (1, l2), (5, 0), (0, l4), (0, l5)] [] M Q := by
  refine i_iload 4 rfl rfl ?_
  refine i_aload_n 5 rfl rfl (by decide) ?_
  refine i_getP (c := 11) (k := 4) (t := 114) (b := 107) 6 rfl fl_1053 (by decide) rfl (by decide) rfl ?_
  refine i_iload_n 7 rfl rfl ?_
  refine i_iald (τ := 14) 8 rfl ⟨rfl, rfl, rfl, by decide⟩ h.1.1 h.1.2 ?_
  replace h := h.2
  refine i_icmp_ge 59 9 rfl (by decide) (fun c => ?_) (fun c => ?_)
  · replace h := h.1 c
    refine i_iconst 35 rfl (by decide) ?_
    refine i_istore 36 rfl (by decide) rfl ?_
    exact h
  · replace h := h.2 c
    refine i_iload 10 rfl rfl ?_
    refine i_aload_n 11 rfl rfl (by decide) ?_
    refine i_iload_n 12 rfl rfl ?_
    refine i_iload 13 rfl rfl ?_
    refine i_callV (c := 11) (y1 := m_X11_rowSum) (z1 := (1, 0, 0)) (z2 := (2, 0, 0)) [(0, l1), (0, l5)] 14 rfl ml_1280 ok_X11_rowSum vk_X11_rowSum ⟨by decide, rfl⟩ rfl ⟨rfl, Nat.le_of_ble_eq_true rfl⟩ (Nat.le_of_ble_eq_true rfl) ⟨by decide, rfl, rfl, rfl⟩ ?_
    refine h.mono (fun r zM1 h => ?_)
    obtain ⟨zr2, rfl, h⟩ := h
    simp only [Option.toList_some, Option.toList_none, List.cons_append, List.nil_append]
    refine i_aload_n 15 rfl rfl (by decide) ?_
    refine i_getP (c := 11) (k := 7) (t := 124) (b := 137) 16 rfl fl_1056 (by decide) rfl (by decide) rfl ?_
    refine i_iload_n 17 rfl rfl ?_
    refine i_aald (τ := 24) (t := 103) (len := 3) (b := (137 + 1 + 1 * l1)) 18 rfl (by decide) rfl h.1.1 h.1.2 ?_
    replace h := h.2
    refine i_iload 19 rfl rfl ?_
    refine i_iald (τ := 3) 20 rfl ⟨rfl, rfl, rfl, by decide⟩ h.1.1 h.1.2 ?_
    replace h := h.2
    refine i_i2l 21 rfl ?_
    refine i_lload_n 22 rfl rfl ?_
    refine i_lmul 23 rfl ?_
    refine i_lcmp_ne 49 24 rfl rfl (by decide) (fun c => ?_) (fun c => ?_)
    · replace h := h.1 c
      refine i_iconst 30 rfl (by decide) ?_
      refine i_ior 31 rfl ?_
      replace h := h _ rfl
      refine i_istore 32 rfl (by decide) rfl ?_
      replace h := h _ rfl
      refine i_iinc 33 rfl rfl (by decide) rfl ?_
      refine i_goto 6 34 rfl (by decide) ?_
      exact h
    · replace h := h.2 c
      refine i_iconst 26 rfl (by decide) ?_
      refine i_iload 27 rfl rfl ?_
      refine i_ishl 28 rfl ?_
      refine i_goto 50 29 rfl (by decide) ?_
      refine i_ior 31 rfl ?_
      replace h := h _ rfl
      refine i_istore 32 rfl (by decide) rfl ?_
      replace h := h _ rfl
      refine i_iinc 33 rfl rfl (by decide) rfl ?_
      refine i_goto 6 34 rfl (by decide) ?_
      exact h
theorem u_X11_tightPrimal_62 {l : Launch} {E : xE} (l1 l2 l4 l5 : Int) {M : xM} {Q : Option xV → xM → Prop} (h : ((0 : Int) ≤ l1 ∧ (l1 : Int) < 3) ∧ ((M 106 l1) ≤ l5 → Q (some (0, l4)) M) ∧ (¬ (M 106 l1) ≤ l5 → ((0 : Int) ≤ l5 ∧ (l5 : Int) < 4) ∧ (¬ (M 148 l5) = 0 → ∀ zv1 : Int, zv1 = (x_ior l4 0) → ∀ zv2 : Int, zv2 = x_w (l5 + 1) → x_Ev l E (2, 0, 0) m_X11_tightPrimal 62 [(21, 103), (0, l1), (1, l2), (5, 0), (0, zv1), (0, zv2)] [] M Q) ∧ ((M 148 l5) = 0 → ((0 : Int) ≤ l1 ∧ (l1 : Int) < 3) ∧ ∀ zv3 : Int, zv3 = (x_ior l4 (x_ishl 1 (x_w ((M 107 l1) + l5)))) → ∀ zv4 : Int, zv4 = x_w (l5 + 1) → x_Ev l E (2, 0, 0) m_X11_tightPrimal 62 [(21, 103), (0, l1), (1, l2), (5, 0), (0, zv3), (0, zv4)] [] M Q))) : x_Ev l E (2, 0, 0) m_X11_tightPrimal 62 [(21, 103), (0, l1), (1, l2), (5, 0), (0, l4), (0, l5)] [] M Q := by
  refine i_iload 37 rfl rfl ?_
  refine i_aload_n 38 rfl rfl (by decide) ?_
  refine i_getP (c := 11) (k := 3) (t := 114) (b := 106) 39 rfl fl_1052 (by decide) rfl (by decide) rfl ?_
  refine i_iload_n 40 rfl rfl ?_
  refine i_iald (τ := 14) 41 rfl ⟨rfl, rfl, rfl, by decide⟩ h.1.1 h.1.2 ?_
  replace h := h.2
  refine i_icmp_ge 111 42 rfl (by decide) (fun c => ?_) (fun c => ?_)
  · replace h := h.1 c
    refine i_iload 65 rfl rfl ?_
    exact i_ireturn 66 rfl rfl h
  · replace h := h.2 c
    refine i_iload 43 rfl rfl ?_
    refine i_aload_n 44 rfl rfl (by decide) ?_
    refine i_getP (c := 11) (k := 20) (t := 125) (b := 148) 45 rfl fl_1069 (by decide) rfl (by decide) rfl ?_
    refine i_iload 46 rfl rfl ?_
    refine i_lald (τ := 25) 47 rfl ⟨rfl, rfl, rfl, by decide⟩ h.1.1 h.1.2 ?_
    replace h := h.2
    refine i_lconst (w := 0) 48 rfl (by decide) ?_
    refine i_lcmp_ne 101 49 rfl rfl (by decide) (fun c => ?_) (fun c => ?_)
    · replace h := h.1 c
      refine i_iconst 60 rfl (by decide) ?_
      refine i_ior 61 rfl ?_
      replace h := h _ rfl
      refine i_istore 62 rfl (by decide) rfl ?_
      replace h := h _ rfl
      refine i_iinc 63 rfl rfl (by decide) rfl ?_
      refine i_goto 62 64 rfl (by decide) ?_
      exact h
    · replace h := h.2 c
      refine i_iconst 51 rfl (by decide) ?_
      refine i_aload_n 52 rfl rfl (by decide) ?_
      refine i_getP (c := 11) (k := 4) (t := 114) (b := 107) 53 rfl fl_1053 (by decide) rfl (by decide) rfl ?_
      refine i_iload_n 54 rfl rfl ?_
      refine i_iald (τ := 14) 55 rfl ⟨rfl, rfl, rfl, by decide⟩ h.1.1 h.1.2 ?_
      replace h := h.2
      refine i_iload 56 rfl rfl ?_
      refine i_iadd 57 rfl ?_
      refine i_ishl 58 rfl ?_
      refine i_goto 102 59 rfl (by decide) ?_
      refine i_ior 61 rfl ?_
      replace h := h _ rfl
      refine i_istore 62 rfl (by decide) rfl ?_
      replace h := h _ rfl
      refine i_iinc 63 rfl rfl (by decide) rfl ?_
      refine i_goto 62 64 rfl (by decide) ?_
      exact h
theorem u_X11_byTolls_0 {l : Launch} {E : xE} (a1 a2 a3 : Int) {M : xM} {Q : Option xV → xM → Prop} (h : x_Ev l E (2, 0, 0) m_X11_byTolls 9 [(21, 103), (0, a1), (0, a2), (0, a3), (0, 0), (0, (-1)), (0, 0), (5, 0), (5, 0)] [] M Q) : x_Ev l E (2, 0, 0) m_X11_byTolls 0 [(21, 103), (0, a1), (0, a2), (0, a3), (5, 0), (5, 0), (5, 0), (5, 0), (5, 0)] [] M Q := by
  refine i_iconst 0 rfl (by decide) ?_
  refine i_istore 1 rfl (by decide) rfl ?_
  refine i_iconst 2 rfl (by decide) ?_
  refine i_istore 3 rfl (by decide) rfl ?_
  refine i_iconst 4 rfl (by decide) ?_
  refine i_istore 5 rfl (by decide) rfl ?_
  exact h
theorem u_X11_byTolls_9 {l : Launch} {E : xE} (l1 l2 l3 l4 l5 l6 : Int) {M : xM} {Q : Option xV → xM → Prop} (h : ((0 : Int) ≤ l1 ∧ (l1 : Int) < 3) ∧ ((M 149 l1) ≤ l6 → Q (some (0, l4)) M) ∧ (¬ (M 149 l1) ≤ l6 → (¬ (x_iand (x_ishr l2 l6) 1) = 0 → (0 ≤ l5 → x_Ev l E (1, 0, 0) m_X11_times 0 [(21, 103), (0, l1), (0, l6), (0, 1), (5, 0), (5, 0), (5, 0)] [] M (fun r zM1 => ∃ zr2, r = some (1, zr2) ∧ ((0 : Int) ≤ l1 ∧ (l1 : Int) < 3) ∧ ((0 : Int) ≤ l5 ∧ (l5 : Int) < 40) ∧ x_Ev l E (1, 0, 0) m_X11_times 0 [(21, 103), (0, l1), (0, l5), (0, 1), (5, 0), (5, 0), (5, 0)] [] zM1 (fun r zM3 => ∃ zr4, r = some (1, zr4) ∧ ((0 : Int) ≤ l1 ∧ (l1 : Int) < 3) ∧ ((0 : Int) ≤ l6 ∧ (l6 : Int) < 40) ∧ ∀ zv5 : Int, zv5 = (x_W ((x_W (zr2 * (zM1 (274 + 1 + 1 * l1) l5))) - (x_W (zr4 * (zM3 (274 + 1 + 1 * l1) l6))))) → (l3 = 0 → (0 ≤ zv5 → (¬ zv5 = 0 → ∀ zv6 : Int, zv6 = x_w (l6 + 1) → x_Ev l E (2, 0, 0) m_X11_byTolls 9 [(21, 103), (0, l1), (0, l2), (0, l3), (0, l4), (0, l5), (0, zv6), (5, 0), (5, 0)] [] zM3 Q) ∧ (zv5 = 0 → ∀ zv7 : Int, zv7 = (x_ior l4 (x_ishl 1 l6)) → ∀ zv8 : Int, zv8 = x_w (l6 + 1) → x_Ev l E (2, 0, 0) m_X11_byTolls 9 [(21, 103), (0, l1), (0, l2), (0, l3), (0, zv7), (0, l5), (0, zv8), (5, 0), (5, 0)] [] zM3 Q)) ∧ (¬ 0 ≤ zv5 → ∀ zv9 : Int, zv9 = (x_ishl 1 l6) → ∀ zv10 : Int, zv10 = x_w (l6 + 1) → x_Ev l E (2, 0, 0) m_X11_byTolls 9 [(21, 103), (0, l1), (0, l2), (0, l3), (0, zv9), (0, l6), (0, zv10), (5, 0), (5, 0)] [] zM3 Q)) ∧ (¬ l3 = 0 → (zv5 ≤ 0 → (¬ zv5 = 0 → ∀ zv11 : Int, zv11 = x_w (l6 + 1) → x_Ev l E (2, 0, 0) m_X11_byTolls 9 [(21, 103), (0, l1), (0, l2), (0, l3), (0, l4), (0, l5), (0, zv11), (5, 0), (5, 0)] [] zM3 Q) ∧ (zv5 = 0 → ∀ zv12 : Int, zv12 = (x_ior l4 (x_ishl 1 l6)) → ∀ zv13 : Int, zv13 = x_w (l6 + 1) → x_Ev l E (2, 0, 0) m_X11_byTolls 9 [(21, 103), (0, l1), (0, l2), (0, l3), (0, zv12), (0, l5), (0, zv13), (5, 0), (5, 0)] [] zM3 Q)) ∧ (¬ zv5 ≤ 0 → ∀ zv14 : Int, zv14 = (x_ishl 1 l6) → ∀ zv15 : Int, zv15 = x_w (l6 + 1) → x_Ev l E (2, 0, 0) m_X11_byTolls 9 [(21, 103), (0, l1), (0, l2), (0, l3), (0, zv14), (0, l6), (0, zv15), (5, 0), (5, 0)] [] zM3 Q))))) ∧ (¬ 0 ≤ l5 → ∀ zv16 : Int, zv16 = (x_ishl 1 l6) → ∀ zv17 : Int, zv17 = x_w (l6 + 1) → x_Ev l E (2, 0, 0) m_X11_byTolls 9 [(21, 103), (0, l1), (0, l2), (0, l3), (0, zv16), (0, l6), (0, zv17), (5, 0), (5, 0)] [] M Q)) ∧ ((x_iand (x_ishr l2 l6) 1) = 0 → ∀ zv18 : Int, zv18 = x_w (l6 + 1) → x_Ev l E (2, 0, 0) m_X11_byTolls 9 [(21, 103), (0, l1), (0, l2), (0, l3), (0, l4), (0, l5), (0, zv18), (5, 0), (5, 0)] [] M Q))) : x_Ev l E (2, 0, 0) m_X11_byTolls 9 [(21, 103), (0, l1), (0, l2), (0, l3), (0, l4), (0, l5), (0, l6), (5, 0), (5, 0)] [] M Q := by
  refine i_iload 6 rfl rfl ?_
  refine i_aload_n 7 rfl rfl (by decide) ?_
  refine i_getP (c := 11) (k := 21) (t := 114) (b := 149) 8 rfl fl_1070 (by decide) rfl (by decide) rfl ?_
  refine i_iload_n 9 rfl rfl ?_
  refine i_iald (τ := 14) 10 rfl ⟨rfl, rfl, rfl, by decide⟩ h.1.1 h.1.2 ?_
  replace h := h.2
  refine i_icmp_ge 141 11 rfl (by decide) (fun c => ?_) (fun c => ?_)
  · replace h := h.1 c
    refine i_iload 81 rfl rfl ?_
    exact i_ireturn 82 rfl rfl h
  · replace h := h.2 c
    refine i_iload_n 12 rfl rfl ?_
    refine i_iload 13 rfl rfl ?_
    refine i_ishr 14 rfl ?_
    refine i_iconst 15 rfl (by decide) ?_
    refine i_iand 16 rfl ?_
    refine i_if_ne 32 17 rfl (by decide) (fun c => ?_) (fun c => ?_)
    · replace h := h.1 c
      refine i_iload 19 rfl rfl ?_
      refine i_if_ge 41 20 rfl (by decide) (fun c => ?_) (fun c => ?_)
      · replace h := h.1 c
        refine i_aload_n 23 rfl rfl (by decide) ?_
        refine i_iload_n 24 rfl rfl ?_
        refine i_iload 25 rfl rfl ?_
        refine i_iconst 26 rfl (by decide) ?_
        refine i_callV (c := 11) (y1 := m_X11_times) (z1 := (1, 0, 0)) (z2 := (2, 0, 0)) [(0, l1), (0, l6), (0, 1)] 27 rfl ml_1308 ok_X11_times vk_X11_times ⟨by decide, rfl⟩ rfl ⟨rfl, Nat.le_of_ble_eq_true rfl⟩ (Nat.le_of_ble_eq_true rfl) ⟨by decide, rfl, rfl, rfl⟩ ?_
        refine h.mono (fun r zM1 h => ?_)
        obtain ⟨zr2, rfl, h⟩ := h
        simp only [Option.toList_some, Option.toList_none, List.cons_append, List.nil_append]
        refine i_aload_n 28 rfl rfl (by decide) ?_
        refine i_getP (c := 11) (k := 23) (t := 130) (b := 274) 29 rfl fl_1072 (by decide) rfl (by decide) rfl ?_
        refine i_iload_n 30 rfl rfl ?_
        refine i_aald (τ := 30) (t := 129) (len := 3) (b := (274 + 1 + 1 * l1)) 31 rfl (by decide) rfl h.1.1 h.1.2 ?_
        replace h := h.2
        refine i_iload 32 rfl rfl ?_
        refine i_lald (τ := 29) 33 rfl ⟨rfl, rfl, rfl, by decide⟩ h.1.1 h.1.2 ?_
        replace h := h.2
        refine i_lmul 34 rfl ?_
        refine i_aload_n 35 rfl rfl (by decide) ?_
        refine i_iload_n 36 rfl rfl ?_
        refine i_iload 37 rfl rfl ?_
        refine i_iconst 38 rfl (by decide) ?_
        refine i_callV (c := 11) (y1 := m_X11_times) (z1 := (1, 0, 0)) (z2 := (2, 0, 0)) [(0, l1), (0, l5), (0, 1)] 39 rfl ml_1308 ok_X11_times vk_X11_times ⟨by decide, rfl⟩ rfl ⟨rfl, Nat.le_of_ble_eq_true rfl⟩ (Nat.le_of_ble_eq_true rfl) ⟨by decide, rfl, rfl, rfl⟩ ?_
        refine h.mono (fun r zM3 h => ?_)
        obtain ⟨zr4, rfl, h⟩ := h
        simp only [Option.toList_some, Option.toList_none, List.cons_append, List.nil_append]
        refine i_aload_n 40 rfl rfl (by decide) ?_
        refine i_getP (c := 11) (k := 23) (t := 130) (b := 274) 41 rfl fl_1072 (by decide) rfl (by decide) rfl ?_
        refine i_iload_n 42 rfl rfl ?_
        refine i_aald (τ := 30) (t := 129) (len := 3) (b := (274 + 1 + 1 * l1)) 43 rfl (by decide) rfl h.1.1 h.1.2 ?_
        replace h := h.2
        refine i_iload 44 rfl rfl ?_
        refine i_lald (τ := 29) 45 rfl ⟨rfl, rfl, rfl, by decide⟩ h.1.1 h.1.2 ?_
        replace h := h.2
        refine i_lmul 46 rfl ?_
        refine i_lsub 47 rfl ?_
        replace h := h _ rfl
        refine i_lstore 48 rfl (by decide) rfl ?_
        refine i_iload 49 rfl rfl ?_
        refine i_if_lt 106 50 rfl (by decide) (fun c => ?_) (fun c => ?_)
        · exact absurd c (by omega)
        · refine i_iload_n 51 rfl rfl ?_
          refine i_if_eq 99 52 rfl (by decide) (fun c => ?_) (fun c => ?_)
          · replace h := h.1 c
            refine i_lload 58 rfl rfl ?_
            refine i_lconst (w := 0) 59 rfl (by decide) ?_
            refine i_lcmp_ge 119 60 rfl rfl (by decide) (fun c => ?_) (fun c => ?_)
            · replace h := h.1 c
              refine i_lload 69 rfl rfl ?_
              refine i_lconst (w := 0) 70 rfl (by decide) ?_
              refine i_lcmp_ne 135 71 rfl rfl (by decide) (fun c => ?_) (fun c => ?_)
              · replace h := h.1 c
                replace h := h _ rfl
                refine i_iinc 79 rfl rfl (by decide) rfl ?_
                refine i_goto 9 80 rfl (by decide) ?_
                refine i_weak ?_ h
                exact (And.intro (Or.inr rfl) (And.intro (Or.inr rfl) (And.intro (Or.inr rfl) (And.intro (Or.inr rfl) (And.intro (Or.inr rfl) (And.intro (Or.inr rfl) (And.intro (Or.inr rfl) (And.intro (Or.inl rfl) (And.intro (Or.inr rfl) trivial)))))))))
              · replace h := h.2 c
                refine i_iload 73 rfl rfl ?_
                refine i_iconst 74 rfl (by decide) ?_
                refine i_iload 75 rfl rfl ?_
                refine i_ishl 76 rfl ?_
                refine i_ior 77 rfl ?_
                replace h := h _ rfl
                refine i_istore 78 rfl (by decide) rfl ?_
                replace h := h _ rfl
                refine i_iinc 79 rfl rfl (by decide) rfl ?_
                refine i_goto 9 80 rfl (by decide) ?_
                refine i_weak ?_ h
                exact (And.intro (Or.inr rfl) (And.intro (Or.inr rfl) (And.intro (Or.inr rfl) (And.intro (Or.inr rfl) (And.intro (Or.inr rfl) (And.intro (Or.inr rfl) (And.intro (Or.inr rfl) (And.intro (Or.inl rfl) (And.intro (Or.inr rfl) trivial)))))))))
            · replace h := h.2 c
              refine i_iconst 62 rfl (by decide) ?_
              refine i_iload 63 rfl rfl ?_
              refine i_ishl 64 rfl ?_
              replace h := h _ rfl
              refine i_istore 65 rfl (by decide) rfl ?_
              refine i_iload 66 rfl rfl ?_
              refine i_istore 67 rfl (by decide) rfl ?_
              refine i_goto 135 68 rfl (by decide) ?_
              replace h := h _ rfl
              refine i_iinc 79 rfl rfl (by decide) rfl ?_
              refine i_goto 9 80 rfl (by decide) ?_
              refine i_weak ?_ h
              exact (And.intro (Or.inr rfl) (And.intro (Or.inr rfl) (And.intro (Or.inr rfl) (And.intro (Or.inr rfl) (And.intro (Or.inr rfl) (And.intro (Or.inr rfl) (And.intro (Or.inr rfl) (And.intro (Or.inl rfl) (And.intro (Or.inr rfl) trivial)))))))))
          · replace h := h.2 c
            refine i_lload 53 rfl rfl ?_
            refine i_lconst (w := 0) 54 rfl (by decide) ?_
            refine i_lcmp_le 119 55 rfl rfl (by decide) (fun c => ?_) (fun c => ?_)
            · replace h := h.1 c
              refine i_lload 69 rfl rfl ?_
              refine i_lconst (w := 0) 70 rfl (by decide) ?_
              refine i_lcmp_ne 135 71 rfl rfl (by decide) (fun c => ?_) (fun c => ?_)
              · replace h := h.1 c
                replace h := h _ rfl
                refine i_iinc 79 rfl rfl (by decide) rfl ?_
                refine i_goto 9 80 rfl (by decide) ?_
                refine i_weak ?_ h
                exact (And.intro (Or.inr rfl) (And.intro (Or.inr rfl) (And.intro (Or.inr rfl) (And.intro (Or.inr rfl) (And.intro (Or.inr rfl) (And.intro (Or.inr rfl) (And.intro (Or.inr rfl) (And.intro (Or.inl rfl) (And.intro (Or.inr rfl) trivial)))))))))
              · replace h := h.2 c
                refine i_iload 73 rfl rfl ?_
                refine i_iconst 74 rfl (by decide) ?_
                refine i_iload 75 rfl rfl ?_
                refine i_ishl 76 rfl ?_
                refine i_ior 77 rfl ?_
                replace h := h _ rfl
                refine i_istore 78 rfl (by decide) rfl ?_
                replace h := h _ rfl
                refine i_iinc 79 rfl rfl (by decide) rfl ?_
                refine i_goto 9 80 rfl (by decide) ?_
                refine i_weak ?_ h
                exact (And.intro (Or.inr rfl) (And.intro (Or.inr rfl) (And.intro (Or.inr rfl) (And.intro (Or.inr rfl) (And.intro (Or.inr rfl) (And.intro (Or.inr rfl) (And.intro (Or.inr rfl) (And.intro (Or.inl rfl) (And.intro (Or.inr rfl) trivial)))))))))
            · replace h := h.2 c
              refine i_goto 106 57 rfl (by decide) ?_
              refine i_iconst 62 rfl (by decide) ?_
              refine i_iload 63 rfl rfl ?_
              refine i_ishl 64 rfl ?_
              replace h := h _ rfl
              refine i_istore 65 rfl (by decide) rfl ?_
              refine i_iload 66 rfl rfl ?_
              refine i_istore 67 rfl (by decide) rfl ?_
              refine i_goto 135 68 rfl (by decide) ?_
              replace h := h _ rfl
              refine i_iinc 79 rfl rfl (by decide) rfl ?_
              refine i_goto 9 80 rfl (by decide) ?_
              refine i_weak ?_ h
              exact (And.intro (Or.inr rfl) (And.intro (Or.inr rfl) (And.intro (Or.inr rfl) (And.intro (Or.inr rfl) (And.intro (Or.inr rfl) (And.intro (Or.inr rfl) (And.intro (Or.inr rfl) (And.intro (Or.inl rfl) (And.intro (Or.inr rfl) trivial)))))))))
      · replace h := h.2 c
        refine i_lconst (w := 0) 21 rfl (by decide) ?_
        refine i_goto 78 22 rfl (by decide) ?_
        refine i_lstore 48 rfl (by decide) rfl ?_
        refine i_iload 49 rfl rfl ?_
        refine i_if_lt 106 50 rfl (by decide) (fun c => ?_) (fun c => ?_)
        · refine i_iconst 62 rfl (by decide) ?_
          refine i_iload 63 rfl rfl ?_
          refine i_ishl 64 rfl ?_
          replace h := h _ rfl
          refine i_istore 65 rfl (by decide) rfl ?_
          refine i_iload 66 rfl rfl ?_
          refine i_istore 67 rfl (by decide) rfl ?_
          refine i_goto 135 68 rfl (by decide) ?_
          replace h := h _ rfl
          refine i_iinc 79 rfl rfl (by decide) rfl ?_
          refine i_goto 9 80 rfl (by decide) ?_
          refine i_weak ?_ h
          exact (And.intro (Or.inr rfl) (And.intro (Or.inr rfl) (And.intro (Or.inr rfl) (And.intro (Or.inr rfl) (And.intro (Or.inr rfl) (And.intro (Or.inr rfl) (And.intro (Or.inr rfl) (And.intro (Or.inl rfl) (And.intro (Or.inr rfl) trivial)))))))))
        · exact absurd c (by omega)
    · replace h := h.2 c
      refine i_goto 135 18 rfl (by decide) ?_
      replace h := h _ rfl
      refine i_iinc 79 rfl rfl (by decide) rfl ?_
      refine i_goto 9 80 rfl (by decide) ?_
      exact h
theorem u_X11_costLess_0 {l : Launch} {E : xE} (a1 a2 a3 : Int) {M : xM} {Q : Option xV → xM → Prop} (h : x_Ev l E (1, 0, 0) m_X11_costOf 0 [(21, 103), (0, a1), (0, a2), (5, 0), (5, 0), (5, 0)] [] M (fun r zM1 => ∃ zr2, r = some (1, zr2) ∧ ((0 : Int) ≤ a3 ∧ (a3 : Int) < 40) ∧ x_Ev l E (1, 0, 0) m_X11_costOf 0 [(21, 103), (0, a1), (0, a3), (5, 0), (5, 0), (5, 0)] [] zM1 (fun r zM3 => ∃ zr4, r = some (1, zr4) ∧ ((0 : Int) ≤ a2 ∧ (a2 : Int) < 40) ∧ Q (some (1, (x_W ((x_W (zr2 * (zM1 325 a3))) - (x_W (zr4 * (zM3 325 a2))))))) zM3))) : x_Ev l E (2, 0, 0) m_X11_costLess 0 [(21, 103), (0, a1), (0, a2), (0, a3)] [] M Q := by
  refine i_aload_n 0 rfl rfl (by decide) ?_
  refine i_iload_n 1 rfl rfl ?_
  refine i_iload_n 2 rfl rfl ?_
  refine i_callV (c := 11) (y1 := m_X11_costOf) (z1 := (1, 0, 0)) (z2 := (2, 0, 0)) [(0, a1), (0, a2)] 3 rfl ml_1513 ok_X11_costOf vk_X11_costOf ⟨by decide, rfl⟩ rfl ⟨rfl, Nat.le_of_ble_eq_true rfl⟩ (Nat.le_of_ble_eq_true rfl) ⟨by decide, rfl, rfl, rfl⟩ ?_
  refine h.mono (fun r zM1 h => ?_)
  obtain ⟨zr2, rfl, h⟩ := h
  simp only [Option.toList_some, Option.toList_none, List.cons_append, List.nil_append]
  refine i_aload_n 4 rfl rfl (by decide) ?_
  refine i_getP (c := 11) (k := 35) (t := 129) (b := 325) 5 rfl fl_1084 (by decide) rfl (by decide) rfl ?_
  refine i_iload_n 6 rfl rfl ?_
  refine i_lald (τ := 29) 7 rfl ⟨rfl, rfl, rfl, by decide⟩ h.1.1 h.1.2 ?_
  replace h := h.2
  refine i_lmul 8 rfl ?_
  refine i_aload_n 9 rfl rfl (by decide) ?_
  refine i_iload_n 10 rfl rfl ?_
  refine i_iload_n 11 rfl rfl ?_
  refine i_callV (c := 11) (y1 := m_X11_costOf) (z1 := (1, 0, 0)) (z2 := (2, 0, 0)) [(0, a1), (0, a3)] 12 rfl ml_1513 ok_X11_costOf vk_X11_costOf ⟨by decide, rfl⟩ rfl ⟨rfl, Nat.le_of_ble_eq_true rfl⟩ (Nat.le_of_ble_eq_true rfl) ⟨by decide, rfl, rfl, rfl⟩ ?_
  refine h.mono (fun r zM3 h => ?_)
  obtain ⟨zr4, rfl, h⟩ := h
  simp only [Option.toList_some, Option.toList_none, List.cons_append, List.nil_append]
  refine i_aload_n 13 rfl rfl (by decide) ?_
  refine i_getP (c := 11) (k := 35) (t := 129) (b := 325) 14 rfl fl_1084 (by decide) rfl (by decide) rfl ?_
  refine i_iload_n 15 rfl rfl ?_
  refine i_lald (τ := 29) 16 rfl ⟨rfl, rfl, rfl, by decide⟩ h.1.1 h.1.2 ?_
  replace h := h.2
  refine i_lmul 17 rfl ?_
  refine i_lsub 18 rfl ?_
  exact i_lreturn 19 rfl rfl h
theorem u_X11_goodSum_0 {l : Launch} {E : xE} (a1 a2 : Int) {M : xM} {Q : Option xV → xM → Prop} (h : x_Ev l E (1, 0, 0) m_X11_goodSum 5 [(21, 103), (0, a1), (0, a2), (1, 0), (5, 0), (0, 0)] [] M Q) : x_Ev l E (1, 0, 0) m_X11_goodSum 0 [(21, 103), (0, a1), (0, a2), (5, 0), (5, 0), (5, 0)] [] M Q := by
  refine i_lconst (w := 0) 0 rfl (by decide) ?_
  refine i_lstore_n 1 rfl (by decide) rfl ?_
  refine i_iconst 2 rfl (by decide) ?_
  refine i_istore 3 rfl (by decide) rfl ?_
  exact h
theorem u_X11_goodSum_5 {l : Launch} {E : xE} (l1 l2 l3 l5 : Int) {M : xM} {Q : Option xV → xM → Prop} (h : ((0 : Int) ≤ l1 ∧ (l1 : Int) < 3) ∧ ((M 107 l1) ≤ l5 → Q (some (1, l3)) M) ∧ (¬ (M 107 l1) ≤ l5 → ((0 : Int) ≤ l5 ∧ (l5 : Int) < 4) ∧ ((0 : Int) ≤ l1 ∧ (l1 : Int) < 3) ∧ ((0 : Int) ≤ l5 ∧ (l5 : Int) < 4) ∧ ((0 : Int) ≤ l2 ∧ (l2 : Int) < 3) ∧ ∀ zv1 : Int, zv1 = (x_W (l3 + (x_W ((M 148 l5) * (M ((121 + 1 + 5 * l1) + 1 + 1 * l5) l2))))) → ∀ zv2 : Int, zv2 = x_w (l5 + 1) → x_Ev l E (1, 0, 0) m_X11_goodSum 5 [(21, 103), (0, l1), (0, l2), (1, zv1), (5, 0), (0, zv2)] [] M Q)) : x_Ev l E (1, 0, 0) m_X11_goodSum 5 [(21, 103), (0, l1), (0, l2), (1, l3), (5, 0), (0, l5)] [] M Q := by
  refine i_iload 4 rfl rfl ?_
  refine i_aload_n 5 rfl rfl (by decide) ?_
  refine i_getP (c := 11) (k := 4) (t := 114) (b := 107) 6 rfl fl_1053 (by decide) rfl (by decide) rfl ?_
  refine i_iload_n 7 rfl rfl ?_
  refine i_iald (τ := 14) 8 rfl ⟨rfl, rfl, rfl, by decide⟩ h.1.1 h.1.2 ?_
  replace h := h.2
  refine i_icmp_ge 45 9 rfl (by decide) (fun c => ?_) (fun c => ?_)
  · replace h := h.1 c
    refine i_lload_n 29 rfl rfl ?_
    exact i_lreturn 30 rfl rfl h
  · replace h := h.2 c
    refine i_lload_n 10 rfl rfl ?_
    refine i_aload_n 11 rfl rfl (by decide) ?_
    refine i_getP (c := 11) (k := 20) (t := 125) (b := 148) 12 rfl fl_1069 (by decide) rfl (by decide) rfl ?_
    refine i_iload 13 rfl rfl ?_
    refine i_lald (τ := 25) 14 rfl ⟨rfl, rfl, rfl, by decide⟩ h.1.1 h.1.2 ?_
    replace h := h.2
    refine i_aload_n 15 rfl rfl (by decide) ?_
    refine i_getP (c := 11) (k := 6) (t := 123) (b := 121) 16 rfl fl_1055 (by decide) rfl (by decide) rfl ?_
    refine i_iload_n 17 rfl rfl ?_
    refine i_aald (τ := 23) (t := 122) (len := 3) (b := (121 + 1 + 5 * l1)) 18 rfl (by decide) rfl h.1.1 h.1.2 ?_
    replace h := h.2
    refine i_iload 19 rfl rfl ?_
    refine i_aald (τ := 22) (t := 114) (len := 4) (b := ((121 + 1 + 5 * l1) + 1 + 1 * l5)) 20 rfl (by decide) rfl h.1.1 h.1.2 ?_
    replace h := h.2
    refine i_iload_n 21 rfl rfl ?_
    refine i_iald (τ := 14) 22 rfl ⟨rfl, rfl, rfl, by decide⟩ h.1.1 h.1.2 ?_
    replace h := h.2
    refine i_i2l 23 rfl ?_
    refine i_lmul 24 rfl ?_
    refine i_ladd 25 rfl ?_
    replace h := h _ rfl
    refine i_lstore_n 26 rfl (by decide) rfl ?_
    replace h := h _ rfl
    refine i_iinc 27 rfl rfl (by decide) rfl ?_
    refine i_goto 5 28 rfl (by decide) ?_
    exact h
theorem u_X11_tightDual_0 {l : Launch} {E : xE} (a1 a2 : Int) {M : xM} {Q : Option xV → xM → Prop} (h : x_Ev l E (3, 0, 0) m_X11_tightDual 6 [(21, 103), (0, a1), (1, a2), (5, 0), (0, 0), (0, 0)] [] M Q) : x_Ev l E (3, 0, 0) m_X11_tightDual 0 [(21, 103), (0, a1), (1, a2), (5, 0), (5, 0), (5, 0)] [] M Q := by
  refine i_iconst 0 rfl (by decide) ?_
  refine i_istore 1 rfl (by decide) rfl ?_
  refine i_iconst 2 rfl (by decide) ?_
  refine i_istore 3 rfl (by decide) rfl ?_
  exact h
theorem u_X11_tightDual_6 {l : Launch} {E : xE} (l1 l2 l4 l5 : Int) {M : xM} {Q : Option xV → xM → Prop} (h : ((0 : Int) ≤ l1 ∧ (l1 : Int) < 3) ∧ ((M 107 l1) ≤ l5 → x_Ev l E (3, 0, 0) m_X11_tightDual 51 [(21, 103), (0, l1), (1, l2), (5, 0), (0, l4), (0, 0)] [] M Q) ∧ (¬ (M 107 l1) ≤ l5 → ((0 : Int) ≤ l5 ∧ (l5 : Int) < 4) ∧ (¬ (M 148 l5) = 0 → ∀ zv1 : Int, zv1 = (x_ior l4 0) → ∀ zv2 : Int, zv2 = x_w (l5 + 1) → x_Ev l E (3, 0, 0) m_X11_tightDual 6 [(21, 103), (0, l1), (1, l2), (5, 0), (0, zv1), (0, zv2)] [] M Q) ∧ ((M 148 l5) = 0 → ∀ zv3 : Int, zv3 = (x_ior l4 (x_ishl 1 l5)) → ∀ zv4 : Int, zv4 = x_w (l5 + 1) → x_Ev l E (3, 0, 0) m_X11_tightDual 6 [(21, 103), (0, l1), (1, l2), (5, 0), (0, zv3), (0, zv4)] [] M Q))) : x_Ev l E (3, 0, 0) m_X11_tightDual 6 [(21, 103), (0, l1), (1, l2), (5, 0), (0, l4), (0, l5)] [] M Q := by
  refine i_iload 4 rfl rfl ?_
  refine i_aload_n 5 rfl rfl (by decide) ?_
  refine i_getP (c := 11) (k := 4) (t := 114) (b := 107) 6 rfl fl_1053 (by decide) rfl (by decide) rfl ?_
  refine i_iload_n 7 rfl rfl ?_
  refine i_iald (τ := 14) 8 rfl ⟨rfl, rfl, rfl, by decide⟩ h.1.1 h.1.2 ?_
  replace h := h.2
  refine i_icmp_ge 48 9 rfl (by decide) (fun c => ?_) (fun c => ?_)
  · replace h := h.1 c
    refine i_iconst 27 rfl (by decide) ?_
    refine i_istore 28 rfl (by decide) rfl ?_
    exact h
  · replace h := h.2 c
    refine i_iload 10 rfl rfl ?_
    refine i_aload_n 11 rfl rfl (by decide) ?_
    refine i_getP (c := 11) (k := 20) (t := 125) (b := 148) 12 rfl fl_1069 (by decide) rfl (by decide) rfl ?_
    refine i_iload 13 rfl rfl ?_
    refine i_lald (τ := 25) 14 rfl ⟨rfl, rfl, rfl, by decide⟩ h.1.1 h.1.2 ?_
    replace h := h.2
    refine i_lconst (w := 0) 15 rfl (by decide) ?_
    refine i_lcmp_ne 38 16 rfl rfl (by decide) (fun c => ?_) (fun c => ?_)
    · replace h := h.1 c
      refine i_iconst 22 rfl (by decide) ?_
      refine i_ior 23 rfl ?_
      replace h := h _ rfl
      refine i_istore 24 rfl (by decide) rfl ?_
      replace h := h _ rfl
      refine i_iinc 25 rfl rfl (by decide) rfl ?_
      refine i_goto 6 26 rfl (by decide) ?_
      exact h
    · replace h := h.2 c
      refine i_iconst 18 rfl (by decide) ?_
      refine i_iload 19 rfl rfl ?_
      refine i_ishl 20 rfl ?_
      refine i_goto 39 21 rfl (by decide) ?_
      refine i_ior 23 rfl ?_
      replace h := h _ rfl
      refine i_istore 24 rfl (by decide) rfl ?_
      replace h := h _ rfl
      refine i_iinc 25 rfl rfl (by decide) rfl ?_
      refine i_goto 6 26 rfl (by decide) ?_
      exact h
theorem u_X11_tightDual_51 {l : Launch} {E : xE} (l1 l2 l4 l5 : Int) {M : xM} {Q : Option xV → xM → Prop} (h : ((0 : Int) ≤ l1 ∧ (l1 : Int) < 3) ∧ ((M 106 l1) ≤ l5 → Q (some (0, l4)) M) ∧ (¬ (M 106 l1) ≤ l5 → x_Ev l E (1, 0, 0) m_X11_goodSum 0 [(21, 103), (0, l1), (0, l5), (5, 0), (5, 0), (5, 0)] [] M (fun r zM1 => ∃ zr2, r = some (1, zr2) ∧ x_Ev l E (2, 0, 0) m_X11_due 0 [(21, 103), (0, l1), (0, l5)] [] zM1 (fun r zM3 => ∃ zr4, r = some (1, zr4) ∧ (¬ zr2 = (x_W (zr4 * l2)) → ∀ zv5 : Int, zv5 = (x_ior l4 0) → ∀ zv6 : Int, zv6 = x_w (l5 + 1) → x_Ev l E (3, 0, 0) m_X11_tightDual 51 [(21, 103), (0, l1), (1, l2), (5, 0), (0, zv5), (0, zv6)] [] zM3 Q) ∧ (zr2 = (x_W (zr4 * l2)) → ((0 : Int) ≤ l1 ∧ (l1 : Int) < 3) ∧ ∀ zv7 : Int, zv7 = (x_ior l4 (x_ishl 1 (x_w ((zM3 107 l1) + l5)))) → ∀ zv8 : Int, zv8 = x_w (l5 + 1) → x_Ev l E (3, 0, 0) m_X11_tightDual 51 [(21, 103), (0, l1), (1, l2), (5, 0), (0, zv7), (0, zv8)] [] zM3 Q))))) : x_Ev l E (3, 0, 0) m_X11_tightDual 51 [(21, 103), (0, l1), (1, l2), (5, 0), (0, l4), (0, l5)] [] M Q := by
  refine i_iload 29 rfl rfl ?_
  refine i_aload_n 30 rfl rfl (by decide) ?_
  refine i_getP (c := 11) (k := 3) (t := 114) (b := 106) 31 rfl fl_1052 (by decide) rfl (by decide) rfl ?_
  refine i_iload_n 32 rfl rfl ?_
  refine i_iald (τ := 14) 33 rfl ⟨rfl, rfl, rfl, by decide⟩ h.1.1 h.1.2 ?_
  replace h := h.2
  refine i_icmp_ge 108 34 rfl (by decide) (fun c => ?_) (fun c => ?_)
  · replace h := h.1 c
    refine i_iload 62 rfl rfl ?_
    exact i_ireturn 63 rfl rfl h
  · replace h := h.2 c
    refine i_iload 35 rfl rfl ?_
    refine i_aload_n 36 rfl rfl (by decide) ?_
    refine i_iload_n 37 rfl rfl ?_
    refine i_iload 38 rfl rfl ?_
    refine i_callV (c := 11) (y1 := m_X11_goodSum) (z1 := (1, 0, 0)) (z2 := (3, 0, 0)) [(0, l1), (0, l5)] 39 rfl ml_1473 ok_X11_goodSum vk_X11_goodSum ⟨by decide, rfl⟩ rfl ⟨rfl, Nat.le_of_ble_eq_true rfl⟩ (Nat.le_of_ble_eq_true rfl) ⟨by decide, rfl, rfl, rfl⟩ ?_
    refine h.mono (fun r zM1 h => ?_)
    obtain ⟨zr2, rfl, h⟩ := h
    simp only [Option.toList_some, Option.toList_none, List.cons_append, List.nil_append]
    refine i_aload_n 40 rfl rfl (by decide) ?_
    refine i_iload_n 41 rfl rfl ?_
    refine i_iload 42 rfl rfl ?_
    refine i_callV (c := 11) (y1 := m_X11_due) (z1 := (2, 0, 0)) (z2 := (3, 0, 0)) [(0, l1), (0, l5)] 43 rfl ml_1465 ok_X11_due vk_X11_due ⟨by decide, rfl⟩ rfl ⟨rfl, Nat.le_of_ble_eq_true rfl⟩ (Nat.le_of_ble_eq_true rfl) ⟨by decide, rfl, rfl, rfl⟩ ?_
    refine h.mono (fun r zM3 h => ?_)
    obtain ⟨zr4, rfl, h⟩ := h
    simp only [Option.toList_some, Option.toList_none, List.cons_append, List.nil_append]
    refine i_lload_n 44 rfl rfl ?_
    refine i_lmul 45 rfl ?_
    refine i_lcmp_ne 98 46 rfl rfl (by decide) (fun c => ?_) (fun c => ?_)
    · replace h := h.1 c
      refine i_iconst 57 rfl (by decide) ?_
      refine i_ior 58 rfl ?_
      replace h := h _ rfl
      refine i_istore 59 rfl (by decide) rfl ?_
      replace h := h _ rfl
      refine i_iinc 60 rfl rfl (by decide) rfl ?_
      refine i_goto 51 61 rfl (by decide) ?_
      exact h
    · replace h := h.2 c
      refine i_iconst 48 rfl (by decide) ?_
      refine i_aload_n 49 rfl rfl (by decide) ?_
      refine i_getP (c := 11) (k := 4) (t := 114) (b := 107) 50 rfl fl_1053 (by decide) rfl (by decide) rfl ?_
      refine i_iload_n 51 rfl rfl ?_
      refine i_iald (τ := 14) 52 rfl ⟨rfl, rfl, rfl, by decide⟩ h.1.1 h.1.2 ?_
      replace h := h.2
      refine i_iload 53 rfl rfl ?_
      refine i_iadd 54 rfl ?_
      refine i_ishl 55 rfl ?_
      refine i_goto 99 56 rfl (by decide) ?_
      refine i_ior 58 rfl ?_
      replace h := h _ rfl
      refine i_istore 59 rfl (by decide) rfl ?_
      replace h := h _ rfl
      refine i_iinc 60 rfl rfl (by decide) rfl ?_
      refine i_goto 51 61 rfl (by decide) ?_
      exact h
theorem u_X11_breaksBy_0 {l : Launch} {E : xE} (a1 a2 a3 : Int) {M : xM} {Q : Option xV → xM → Prop} (h : x_Ev l E (1, 0, 0) m_X11_times 0 [(21, 103), (0, a1), (0, a2), (0, 1), (5, 0), (5, 0), (5, 0)] [] M (fun r zM1 => ∃ zr2, r = some (1, zr2) ∧ ((0 : Int) ≤ a1 ∧ (a1 : Int) < 3) ∧ ((0 : Int) ≤ a3 ∧ (a3 : Int) < 40) ∧ x_Ev l E (1, 0, 0) m_X11_times 0 [(21, 103), (0, a1), (0, a3), (0, 1), (5, 0), (5, 0), (5, 0)] [] zM1 (fun r zM3 => ∃ zr4, r = some (1, zr4) ∧ ((0 : Int) ≤ a1 ∧ (a1 : Int) < 3) ∧ ((0 : Int) ≤ a2 ∧ (a2 : Int) < 40) ∧ ∀ zv5 : Int, zv5 = (x_W ((x_W (zr2 * (zM1 (274 + 1 + 1 * a1) a3))) - (x_W (zr4 * (zM3 (274 + 1 + 1 * a1) a2))))) → (¬ zv5 = 0 → x_Ev l E (1, 0, 0) m_X11_times 0 [(21, 103), (0, a1), (0, a2), (0, 0), (5, 0), (5, 0), (5, 0)] [] zM3 (fun r zM6 => ∃ zr7, r = some (1, zr7) ∧ x_Ev l E (1, 0, 0) m_X11_more 0 [(21, 103), (0, a1)] [] zM6 (fun r zM8 => ∃ zr9, r = some (0, zr9) ∧ x_Ev l E (1, 0, 0) m_X11_times 0 [(21, 103), (0, a1), (0, a2), (0, 1), (5, 0), (5, 0), (5, 0)] [] zM8 (fun r zM10 => ∃ zr11, r = some (1, zr11) ∧ ∀ zv12 : Int, zv12 = (x_W (zr7 - (x_W (zr9 * zr11)))) → x_Ev l E (1, 0, 0) m_X11_times 0 [(21, 103), (0, a1), (0, a3), (0, 0), (5, 0), (5, 0), (5, 0)] [] zM10 (fun r zM13 => ∃ zr14, r = some (1, zr14) ∧ x_Ev l E (1, 0, 0) m_X11_more 0 [(21, 103), (0, a1)] [] zM13 (fun r zM15 => ∃ zr16, r = some (0, zr16) ∧ x_Ev l E (1, 0, 0) m_X11_times 0 [(21, 103), (0, a1), (0, a3), (0, 1), (5, 0), (5, 0), (5, 0)] [] zM15 (fun r zM17 => ∃ zr18, r = some (1, zr18) ∧ ∀ zv19 : Int, zv19 = (x_W (zr14 - (x_W (zr16 * zr18)))) → ((0 : Int) ≤ a1 ∧ (a1 : Int) < 3) ∧ ((0 : Int) ≤ a3 ∧ (a3 : Int) < 40) ∧ ((0 : Int) ≤ a1 ∧ (a1 : Int) < 3) ∧ ((0 : Int) ≤ a2 ∧ (a2 : Int) < 40) ∧ ∀ zv20 : Int, zv20 = (x_W ((x_W (zv12 * (zM17 (274 + 1 + 1 * a1) a3))) - (x_W (zv19 * (zM17 (274 + 1 + 1 * a1) a2))))) → x_Ev l E (1, 0, 0) m_X11_twice 0 [(21, 103), (0, a1)] [] zM17 (fun r zM21 => ∃ zr22, r = some (0, zr22) ∧ ∀ zv23 : Int, zv23 = (x_W (zr22 * zv5)) → (0 ≤ zv23 → (zv20 ≤ 0 → Q none zM21) ∧ (¬ zv20 ≤ 0 → (zv20 < (x_W ((zM21 103 8) * zv23)) → x_Ev l E (1, 0, 0) m_X11_divisor 0 [(1, zv20), (5, 0), (1, zv23), (5, 0), (5, 0), (5, 0), (5, 0), (5, 0), (5, 0), (5, 0)] [] zM21 (fun r zM24 => ∃ zr25, r = some (1, zr25) ∧ (zr25 ≠ 0) ∧ (zr25 ≠ 0) ∧ x_Ev l E (3, 0, 0) m_X11_bestPlans 0 [(21, 103), (0, a1), (1, (x_W (zv20.tdiv zr25))), (5, 0), (1, (x_W (zv23.tdiv zr25))), (5, 0), (5, 0), (5, 0), (5, 0), (5, 0), (5, 0)] [] zM24 (fun r zM26 => ∃ zr27, r = some (0, zr27) ∧ (¬ (x_iand (x_ishr zr27 a2) 1) = 1 → Q none zM26) ∧ ((x_iand (x_ishr zr27 a2) 1) = 1 → (¬ (x_iand (x_ishr zr27 a3) 1) = 1 → Q none zM26) ∧ ((x_iand (x_ishr zr27 a3) 1) = 1 → (zr25 ≠ 0) ∧ (zr25 ≠ 0) ∧ x_Ev l E (3, 0, 0) m_X11_isBreak 0 [(21, 103), (1, (x_W (zv20.tdiv zr25))), (5, 0), (1, (x_W (zv23.tdiv zr25))), (5, 0), (5, 0), (5, 0)] [] zM26 (fun r zM28 => r = none ∧ Q none zM28)))))) ∧ (¬ zv20 < (x_W ((zM21 103 8) * zv23)) → Q none zM21))) ∧ (¬ 0 ≤ zv23 → ∀ zv29 : Int, zv29 = (x_W (-zv20)) → ∀ zv30 : Int, zv30 = (x_W (-zv23)) → (zv29 ≤ 0 → Q none zM21) ∧ (¬ zv29 ≤ 0 → (zv29 < (x_W ((zM21 103 8) * zv30)) → x_Ev l E (1, 0, 0) m_X11_divisor 0 [(1, zv29), (5, 0), (1, zv30), (5, 0), (5, 0), (5, 0), (5, 0), (5, 0), (5, 0), (5, 0)] [] zM21 (fun r zM31 => ∃ zr32, r = some (1, zr32) ∧ (zr32 ≠ 0) ∧ (zr32 ≠ 0) ∧ x_Ev l E (3, 0, 0) m_X11_bestPlans 0 [(21, 103), (0, a1), (1, (x_W (zv29.tdiv zr32))), (5, 0), (1, (x_W (zv30.tdiv zr32))), (5, 0), (5, 0), (5, 0), (5, 0), (5, 0), (5, 0)] [] zM31 (fun r zM33 => ∃ zr34, r = some (0, zr34) ∧ (¬ (x_iand (x_ishr zr34 a2) 1) = 1 → Q none zM33) ∧ ((x_iand (x_ishr zr34 a2) 1) = 1 → (¬ (x_iand (x_ishr zr34 a3) 1) = 1 → Q none zM33) ∧ ((x_iand (x_ishr zr34 a3) 1) = 1 → (zr32 ≠ 0) ∧ (zr32 ≠ 0) ∧ x_Ev l E (3, 0, 0) m_X11_isBreak 0 [(21, 103), (1, (x_W (zv29.tdiv zr32))), (5, 0), (1, (x_W (zv30.tdiv zr32))), (5, 0), (5, 0), (5, 0)] [] zM33 (fun r zM35 => r = none ∧ Q none zM35)))))) ∧ (¬ zv29 < (x_W ((zM21 103 8) * zv30)) → Q none zM21))))))))))) ∧ (zv5 = 0 → Q none zM3)))) : x_Ev l E (4, 0, 0) m_X11_breaksBy 0 [(21, 103), (0, a1), (0, a2), (0, a3), (5, 0), (5, 0), (5, 0), (5, 0), (5, 0), (5, 0), (5, 0), (5, 0), (5, 0), (5, 0), (5, 0), (5, 0), (5, 0)] [] M Q := by
  refine i_aload_n 0 rfl rfl (by decide) ?_
  refine i_iload_n 1 rfl rfl ?_
  refine i_iload_n 2 rfl rfl ?_
  refine i_iconst 3 rfl (by decide) ?_
  refine i_callV (c := 11) (y1 := m_X11_times) (z1 := (1, 0, 0)) (z2 := (4, 0, 0)) [(0, a1), (0, a2), (0, 1)] 4 rfl ml_1308 ok_X11_times vk_X11_times ⟨by decide, rfl⟩ rfl ⟨rfl, Nat.le_of_ble_eq_true rfl⟩ (Nat.le_of_ble_eq_true rfl) ⟨by decide, rfl, rfl, rfl⟩ ?_
  refine h.mono (fun r zM1 h => ?_)
  obtain ⟨zr2, rfl, h⟩ := h
  simp only [Option.toList_some, Option.toList_none, List.cons_append, List.nil_append]
  refine i_aload_n 5 rfl rfl (by decide) ?_
  refine i_getP (c := 11) (k := 23) (t := 130) (b := 274) 6 rfl fl_1072 (by decide) rfl (by decide) rfl ?_
  refine i_iload_n 7 rfl rfl ?_
  refine i_aald (τ := 30) (t := 129) (len := 3) (b := (274 + 1 + 1 * a1)) 8 rfl (by decide) rfl h.1.1 h.1.2 ?_
  replace h := h.2
  refine i_iload_n 9 rfl rfl ?_
  refine i_lald (τ := 29) 10 rfl ⟨rfl, rfl, rfl, by decide⟩ h.1.1 h.1.2 ?_
  replace h := h.2
  refine i_lmul 11 rfl ?_
  refine i_aload_n 12 rfl rfl (by decide) ?_
  refine i_iload_n 13 rfl rfl ?_
  refine i_iload_n 14 rfl rfl ?_
  refine i_iconst 15 rfl (by decide) ?_
  refine i_callV (c := 11) (y1 := m_X11_times) (z1 := (1, 0, 0)) (z2 := (4, 0, 0)) [(0, a1), (0, a3), (0, 1)] 16 rfl ml_1308 ok_X11_times vk_X11_times ⟨by decide, rfl⟩ rfl ⟨rfl, Nat.le_of_ble_eq_true rfl⟩ (Nat.le_of_ble_eq_true rfl) ⟨by decide, rfl, rfl, rfl⟩ ?_
  refine h.mono (fun r zM3 h => ?_)
  obtain ⟨zr4, rfl, h⟩ := h
  simp only [Option.toList_some, Option.toList_none, List.cons_append, List.nil_append]
  refine i_aload_n 17 rfl rfl (by decide) ?_
  refine i_getP (c := 11) (k := 23) (t := 130) (b := 274) 18 rfl fl_1072 (by decide) rfl (by decide) rfl ?_
  refine i_iload_n 19 rfl rfl ?_
  refine i_aald (τ := 30) (t := 129) (len := 3) (b := (274 + 1 + 1 * a1)) 20 rfl (by decide) rfl h.1.1 h.1.2 ?_
  replace h := h.2
  refine i_iload_n 21 rfl rfl ?_
  refine i_lald (τ := 29) 22 rfl ⟨rfl, rfl, rfl, by decide⟩ h.1.1 h.1.2 ?_
  replace h := h.2
  refine i_lmul 23 rfl ?_
  refine i_lsub 24 rfl ?_
  replace h := h _ rfl
  refine i_lstore 25 rfl (by decide) rfl ?_
  refine i_lload 26 rfl rfl ?_
  refine i_lconst (w := 0) 27 rfl (by decide) ?_
  refine i_lcmp_ne 43 28 rfl rfl (by decide) (fun c => ?_) (fun c => ?_)
  · replace h := h.1 c
    refine i_aload_n 31 rfl rfl (by decide) ?_
    refine i_iload_n 32 rfl rfl ?_
    refine i_iload_n 33 rfl rfl ?_
    refine i_iconst 34 rfl (by decide) ?_
    refine i_callV (c := 11) (y1 := m_X11_times) (z1 := (1, 0, 0)) (z2 := (4, 0, 0)) [(0, a1), (0, a2), (0, 0)] 35 rfl ml_1308 ok_X11_times vk_X11_times ⟨by decide, rfl⟩ rfl ⟨rfl, Nat.le_of_ble_eq_true rfl⟩ (Nat.le_of_ble_eq_true rfl) ⟨by decide, rfl, rfl, rfl⟩ ?_
    refine h.mono (fun r zM6 h => ?_)
    obtain ⟨zr7, rfl, h⟩ := h
    simp only [Option.toList_some, Option.toList_none, List.cons_append, List.nil_append]
    refine i_aload_n 36 rfl rfl (by decide) ?_
    refine i_iload_n 37 rfl rfl ?_
    refine i_callV (c := 11) (y1 := m_X11_more) (z1 := (1, 0, 0)) (z2 := (4, 0, 0)) [(0, a1)] 38 rfl ml_1316 ok_X11_more vk_X11_more ⟨by decide, rfl⟩ rfl ⟨rfl, Nat.le_of_ble_eq_true rfl⟩ (Nat.le_of_ble_eq_true rfl) ⟨by decide, rfl, rfl, rfl⟩ ?_
    refine h.mono (fun r zM8 h => ?_)
    obtain ⟨zr9, rfl, h⟩ := h
    simp only [Option.toList_some, Option.toList_none, List.cons_append, List.nil_append]
    refine i_i2l 39 rfl ?_
    refine i_aload_n 40 rfl rfl (by decide) ?_
    refine i_iload_n 41 rfl rfl ?_
    refine i_iload_n 42 rfl rfl ?_
    refine i_iconst 43 rfl (by decide) ?_
    refine i_callV (c := 11) (y1 := m_X11_times) (z1 := (1, 0, 0)) (z2 := (4, 0, 0)) [(0, a1), (0, a2), (0, 1)] 44 rfl ml_1308 ok_X11_times vk_X11_times ⟨by decide, rfl⟩ rfl ⟨rfl, Nat.le_of_ble_eq_true rfl⟩ (Nat.le_of_ble_eq_true rfl) ⟨by decide, rfl, rfl, rfl⟩ ?_
    refine h.mono (fun r zM10 h => ?_)
    obtain ⟨zr11, rfl, h⟩ := h
    simp only [Option.toList_some, Option.toList_none, List.cons_append, List.nil_append]
    refine i_lmul 45 rfl ?_
    refine i_lsub 46 rfl ?_
    replace h := h _ rfl
    refine i_lstore 47 rfl (by decide) rfl ?_
    refine i_aload_n 48 rfl rfl (by decide) ?_
    refine i_iload_n 49 rfl rfl ?_
    refine i_iload_n 50 rfl rfl ?_
    refine i_iconst 51 rfl (by decide) ?_
    refine i_callV (c := 11) (y1 := m_X11_times) (z1 := (1, 0, 0)) (z2 := (4, 0, 0)) [(0, a1), (0, a3), (0, 0)] 52 rfl ml_1308 ok_X11_times vk_X11_times ⟨by decide, rfl⟩ rfl ⟨rfl, Nat.le_of_ble_eq_true rfl⟩ (Nat.le_of_ble_eq_true rfl) ⟨by decide, rfl, rfl, rfl⟩ ?_
    refine h.mono (fun r zM13 h => ?_)
    obtain ⟨zr14, rfl, h⟩ := h
    simp only [Option.toList_some, Option.toList_none, List.cons_append, List.nil_append]
    refine i_aload_n 53 rfl rfl (by decide) ?_
    refine i_iload_n 54 rfl rfl ?_
    refine i_callV (c := 11) (y1 := m_X11_more) (z1 := (1, 0, 0)) (z2 := (4, 0, 0)) [(0, a1)] 55 rfl ml_1316 ok_X11_more vk_X11_more ⟨by decide, rfl⟩ rfl ⟨rfl, Nat.le_of_ble_eq_true rfl⟩ (Nat.le_of_ble_eq_true rfl) ⟨by decide, rfl, rfl, rfl⟩ ?_
    refine h.mono (fun r zM15 h => ?_)
    obtain ⟨zr16, rfl, h⟩ := h
    simp only [Option.toList_some, Option.toList_none, List.cons_append, List.nil_append]
    refine i_i2l 56 rfl ?_
    refine i_aload_n 57 rfl rfl (by decide) ?_
    refine i_iload_n 58 rfl rfl ?_
    refine i_iload_n 59 rfl rfl ?_
    refine i_iconst 60 rfl (by decide) ?_
    refine i_callV (c := 11) (y1 := m_X11_times) (z1 := (1, 0, 0)) (z2 := (4, 0, 0)) [(0, a1), (0, a3), (0, 1)] 61 rfl ml_1308 ok_X11_times vk_X11_times ⟨by decide, rfl⟩ rfl ⟨rfl, Nat.le_of_ble_eq_true rfl⟩ (Nat.le_of_ble_eq_true rfl) ⟨by decide, rfl, rfl, rfl⟩ ?_
    refine h.mono (fun r zM17 h => ?_)
    obtain ⟨zr18, rfl, h⟩ := h
    simp only [Option.toList_some, Option.toList_none, List.cons_append, List.nil_append]
    refine i_lmul 62 rfl ?_
    refine i_lsub 63 rfl ?_
    replace h := h _ rfl
    refine i_lstore 64 rfl (by decide) rfl ?_
    refine i_lload 65 rfl rfl ?_
    refine i_aload_n 66 rfl rfl (by decide) ?_
    refine i_getP (c := 11) (k := 23) (t := 130) (b := 274) 67 rfl fl_1072 (by decide) rfl (by decide) rfl ?_
    refine i_iload_n 68 rfl rfl ?_
    refine i_aald (τ := 30) (t := 129) (len := 3) (b := (274 + 1 + 1 * a1)) 69 rfl (by decide) rfl h.1.1 h.1.2 ?_
    replace h := h.2
    refine i_iload_n 70 rfl rfl ?_
    refine i_lald (τ := 29) 71 rfl ⟨rfl, rfl, rfl, by decide⟩ h.1.1 h.1.2 ?_
    replace h := h.2
    refine i_lmul 72 rfl ?_
    refine i_lload 73 rfl rfl ?_
    refine i_aload_n 74 rfl rfl (by decide) ?_
    refine i_getP (c := 11) (k := 23) (t := 130) (b := 274) 75 rfl fl_1072 (by decide) rfl (by decide) rfl ?_
    refine i_iload_n 76 rfl rfl ?_
    refine i_aald (τ := 30) (t := 129) (len := 3) (b := (274 + 1 + 1 * a1)) 77 rfl (by decide) rfl h.1.1 h.1.2 ?_
    replace h := h.2
    refine i_iload_n 78 rfl rfl ?_
    refine i_lald (τ := 29) 79 rfl ⟨rfl, rfl, rfl, by decide⟩ h.1.1 h.1.2 ?_
    replace h := h.2
    refine i_lmul 80 rfl ?_
    refine i_lsub 81 rfl ?_
    replace h := h _ rfl
    refine i_lstore 82 rfl (by decide) rfl ?_
    refine i_aload_n 83 rfl rfl (by decide) ?_
    refine i_iload_n 84 rfl rfl ?_
    refine i_callV (c := 11) (y1 := m_X11_twice) (z1 := (1, 0, 0)) (z2 := (4, 0, 0)) [(0, a1)] 85 rfl ml_1312 ok_X11_twice vk_X11_twice ⟨by decide, rfl⟩ rfl ⟨rfl, Nat.le_of_ble_eq_true rfl⟩ (Nat.le_of_ble_eq_true rfl) ⟨by decide, rfl, rfl, rfl⟩ ?_
    refine h.mono (fun r zM21 h => ?_)
    obtain ⟨zr22, rfl, h⟩ := h
    simp only [Option.toList_some, Option.toList_none, List.cons_append, List.nil_append]
    refine i_i2l 86 rfl ?_
    refine i_lload 87 rfl rfl ?_
    refine i_lmul 88 rfl ?_
    replace h := h _ rfl
    refine i_lstore 89 rfl (by decide) rfl ?_
    refine i_lload 90 rfl rfl ?_
    refine i_lconst (w := 0) 91 rfl (by decide) ?_
    refine i_lcmp_ge 144 92 rfl rfl (by decide) (fun c => ?_) (fun c => ?_)
    · replace h := h.1 c
      refine i_lload 100 rfl rfl ?_
      refine i_lconst (w := 0) 101 rfl (by decide) ?_
      refine i_lcmp_le 165 102 rfl rfl (by decide) (fun c => ?_) (fun c => ?_)
      · replace h := h.1 c
        exact i_return 112 rfl rfl h
      · replace h := h.2 c
        refine i_lload 104 rfl rfl ?_
        refine i_aload_n 105 rfl rfl (by decide) ?_
        refine i_getI (c := 11) (k := 8) 106 rfl fl_1057 (by decide) (by decide) ?_
        refine i_i2l 107 rfl ?_
        refine i_lload 108 rfl rfl ?_
        refine i_lmul 109 rfl ?_
        refine i_lcmp_lt 166 110 rfl rfl (by decide) (fun c => ?_) (fun c => ?_)
        · replace h := h.1 c
          refine i_lload 113 rfl rfl ?_
          refine i_lload 114 rfl rfl ?_
          refine i_callS (y1 := m_X11_divisor) (z1 := (1, 0, 0)) (z2 := (4, 0, 0)) [(1, ((x_W ((x_W (((x_W (zr7 - (x_W (zr9 * zr11))))) * (zM17 (274 + 1 + 1 * a1) a3))) - (x_W (((x_W (zr14 - (x_W (zr16 * zr18))))) * (zM17 (274 + 1 + 1 * a1) a2))))))), (1, ((x_W (zr22 * ((x_W ((x_W (zr2 * (zM1 (274 + 1 + 1 * a1) a3))) - (x_W (zr4 * (zM3 (274 + 1 + 1 * a1) a2))))))))))] 115 rfl ml_1397 ok_X11_divisor vk_X11_divisor rfl ⟨rfl, Nat.le_of_ble_eq_true rfl⟩ (Nat.le_of_ble_eq_true rfl) ⟨by decide, rfl, rfl, rfl⟩ ?_
          refine h.mono (fun r zM24 h => ?_)
          obtain ⟨zr25, rfl, h⟩ := h
          simp only [Option.toList_some, Option.toList_none, List.cons_append, List.nil_append]
          refine i_lstore 116 rfl (by decide) rfl ?_
          refine i_aload_n 117 rfl rfl (by decide) ?_
          refine i_iload_n 118 rfl rfl ?_
          refine i_lload 119 rfl rfl ?_
          refine i_lload 120 rfl rfl ?_
          refine i_ldiv 121 rfl h.1 ?_
          replace h := h.2
          refine i_lload 122 rfl rfl ?_
          refine i_lload 123 rfl rfl ?_
          refine i_ldiv 124 rfl h.1 ?_
          replace h := h.2
          refine i_callV (c := 11) (y1 := m_X11_bestPlans) (z1 := (3, 0, 0)) (z2 := (4, 0, 0)) [(0, a1), (1, (x_W (((x_W ((x_W (((x_W (zr7 - (x_W (zr9 * zr11))))) * (zM17 (274 + 1 + 1 * a1) a3))) - (x_W (((x_W (zr14 - (x_W (zr16 * zr18))))) * (zM17 (274 + 1 + 1 * a1) a2)))))).tdiv zr25))), (1, (x_W (((x_W (zr22 * ((x_W ((x_W (zr2 * (zM1 (274 + 1 + 1 * a1) a3))) - (x_W (zr4 * (zM3 (274 + 1 + 1 * a1) a2))))))))).tdiv zr25)))] 125 rfl ml_1300 ok_X11_bestPlans vk_X11_bestPlans ⟨by decide, rfl⟩ rfl ⟨rfl, Nat.le_of_ble_eq_true rfl⟩ (Nat.le_of_ble_eq_true rfl) ⟨by decide, rfl, rfl, rfl⟩ ?_
          refine h.mono (fun r zM26 h => ?_)
          obtain ⟨zr27, rfl, h⟩ := h
          simp only [Option.toList_some, Option.toList_none, List.cons_append, List.nil_append]
          refine i_istore 126 rfl (by decide) rfl ?_
          refine i_iload 127 rfl rfl ?_
          refine i_iload_n 128 rfl rfl ?_
          refine i_ishr 129 rfl ?_
          refine i_iconst 130 rfl (by decide) ?_
          refine i_iand 131 rfl ?_
          refine i_iconst 132 rfl (by decide) ?_
          refine i_icmp_ne 226 133 rfl (by decide) (fun c => ?_) (fun c => ?_)
          · replace h := h.1 c
            exact i_return 149 rfl rfl h
          · replace h := h.2 c
            refine i_iload 134 rfl rfl ?_
            refine i_iload_n 135 rfl rfl ?_
            refine i_ishr 136 rfl ?_
            refine i_iconst 137 rfl (by decide) ?_
            refine i_iand 138 rfl ?_
            refine i_iconst 139 rfl (by decide) ?_
            refine i_icmp_ne 226 140 rfl (by decide) (fun c => ?_) (fun c => ?_)
            · replace h := h.1 c
              exact i_return 149 rfl rfl h
            · replace h := h.2 c
              refine i_aload_n 141 rfl rfl (by decide) ?_
              refine i_lload 142 rfl rfl ?_
              refine i_lload 143 rfl rfl ?_
              refine i_ldiv 144 rfl h.1 ?_
              replace h := h.2
              refine i_lload 145 rfl rfl ?_
              refine i_lload 146 rfl rfl ?_
              refine i_ldiv 147 rfl h.1 ?_
              replace h := h.2
              refine i_callV (c := 11) (y1 := m_X11_isBreak) (z1 := (3, 0, 0)) (z2 := (4, 0, 0)) [(1, (x_W (((x_W ((x_W (((x_W (zr7 - (x_W (zr9 * zr11))))) * (zM17 (274 + 1 + 1 * a1) a3))) - (x_W (((x_W (zr14 - (x_W (zr16 * zr18))))) * (zM17 (274 + 1 + 1 * a1) a2)))))).tdiv zr25))), (1, (x_W (((x_W (zr22 * ((x_W ((x_W (zr2 * (zM1 (274 + 1 + 1 * a1) a3))) - (x_W (zr4 * (zM3 (274 + 1 + 1 * a1) a2))))))))).tdiv zr25)))] 148 rfl ml_1578 ok_X11_isBreak vk_X11_isBreak ⟨by decide, rfl⟩ rfl ⟨rfl, Nat.le_of_ble_eq_true rfl⟩ (Nat.le_of_ble_eq_true rfl) ⟨by decide, rfl, rfl, rfl⟩ ?_
              refine h.mono (fun r zM28 h => ?_)
              obtain ⟨rfl, h⟩ := h
              simp only [Option.toList_some, Option.toList_none, List.cons_append, List.nil_append]
              exact i_return 149 rfl rfl h
        · replace h := h.2 c
          exact i_return 112 rfl rfl h
    · replace h := h.2 c
      refine i_lload 94 rfl rfl ?_
      refine i_lneg 95 rfl ?_
      replace h := h _ rfl
      refine i_lstore 96 rfl (by decide) rfl ?_
      refine i_lload 97 rfl rfl ?_
      refine i_lneg 98 rfl ?_
      replace h := h _ rfl
      refine i_lstore 99 rfl (by decide) rfl ?_
      refine i_lload 100 rfl rfl ?_
      refine i_lconst (w := 0) 101 rfl (by decide) ?_
      refine i_lcmp_le 165 102 rfl rfl (by decide) (fun c => ?_) (fun c => ?_)
      · replace h := h.1 c
        exact i_return 112 rfl rfl h
      · replace h := h.2 c
        refine i_lload 104 rfl rfl ?_
        refine i_aload_n 105 rfl rfl (by decide) ?_
        refine i_getI (c := 11) (k := 8) 106 rfl fl_1057 (by decide) (by decide) ?_
        refine i_i2l 107 rfl ?_
        refine i_lload 108 rfl rfl ?_
        refine i_lmul 109 rfl ?_
        refine i_lcmp_lt 166 110 rfl rfl (by decide) (fun c => ?_) (fun c => ?_)
        · replace h := h.1 c
          refine i_lload 113 rfl rfl ?_
          refine i_lload 114 rfl rfl ?_
          refine i_callS (y1 := m_X11_divisor) (z1 := (1, 0, 0)) (z2 := (4, 0, 0)) [(1, ((x_W (-((x_W ((x_W (((x_W (zr7 - (x_W (zr9 * zr11))))) * (zM17 (274 + 1 + 1 * a1) a3))) - (x_W (((x_W (zr14 - (x_W (zr16 * zr18))))) * (zM17 (274 + 1 + 1 * a1) a2)))))))))), (1, ((x_W (-((x_W (zr22 * ((x_W ((x_W (zr2 * (zM1 (274 + 1 + 1 * a1) a3))) - (x_W (zr4 * (zM3 (274 + 1 + 1 * a1) a2)))))))))))))] 115 rfl ml_1397 ok_X11_divisor vk_X11_divisor rfl ⟨rfl, Nat.le_of_ble_eq_true rfl⟩ (Nat.le_of_ble_eq_true rfl) ⟨by decide, rfl, rfl, rfl⟩ ?_
          refine h.mono (fun r zM31 h => ?_)
          obtain ⟨zr32, rfl, h⟩ := h
          simp only [Option.toList_some, Option.toList_none, List.cons_append, List.nil_append]
          refine i_lstore 116 rfl (by decide) rfl ?_
          refine i_aload_n 117 rfl rfl (by decide) ?_
          refine i_iload_n 118 rfl rfl ?_
          refine i_lload 119 rfl rfl ?_
          refine i_lload 120 rfl rfl ?_
          refine i_ldiv 121 rfl h.1 ?_
          replace h := h.2
          refine i_lload 122 rfl rfl ?_
          refine i_lload 123 rfl rfl ?_
          refine i_ldiv 124 rfl h.1 ?_
          replace h := h.2
          refine i_callV (c := 11) (y1 := m_X11_bestPlans) (z1 := (3, 0, 0)) (z2 := (4, 0, 0)) [(0, a1), (1, (x_W (((x_W (-((x_W ((x_W (((x_W (zr7 - (x_W (zr9 * zr11))))) * (zM17 (274 + 1 + 1 * a1) a3))) - (x_W (((x_W (zr14 - (x_W (zr16 * zr18))))) * (zM17 (274 + 1 + 1 * a1) a2))))))))).tdiv zr32))), (1, (x_W (((x_W (-((x_W (zr22 * ((x_W ((x_W (zr2 * (zM1 (274 + 1 + 1 * a1) a3))) - (x_W (zr4 * (zM3 (274 + 1 + 1 * a1) a2)))))))))))).tdiv zr32)))] 125 rfl ml_1300 ok_X11_bestPlans vk_X11_bestPlans ⟨by decide, rfl⟩ rfl ⟨rfl, Nat.le_of_ble_eq_true rfl⟩ (Nat.le_of_ble_eq_true rfl) ⟨by decide, rfl, rfl, rfl⟩ ?_
          refine h.mono (fun r zM33 h => ?_)
          obtain ⟨zr34, rfl, h⟩ := h
          simp only [Option.toList_some, Option.toList_none, List.cons_append, List.nil_append]
          refine i_istore 126 rfl (by decide) rfl ?_
          refine i_iload 127 rfl rfl ?_
          refine i_iload_n 128 rfl rfl ?_
          refine i_ishr 129 rfl ?_
          refine i_iconst 130 rfl (by decide) ?_
          refine i_iand 131 rfl ?_
          refine i_iconst 132 rfl (by decide) ?_
          refine i_icmp_ne 226 133 rfl (by decide) (fun c => ?_) (fun c => ?_)
          · replace h := h.1 c
            exact i_return 149 rfl rfl h
          · replace h := h.2 c
            refine i_iload 134 rfl rfl ?_
            refine i_iload_n 135 rfl rfl ?_
            refine i_ishr 136 rfl ?_
            refine i_iconst 137 rfl (by decide) ?_
            refine i_iand 138 rfl ?_
            refine i_iconst 139 rfl (by decide) ?_
            refine i_icmp_ne 226 140 rfl (by decide) (fun c => ?_) (fun c => ?_)
            · replace h := h.1 c
              exact i_return 149 rfl rfl h
            · replace h := h.2 c
              refine i_aload_n 141 rfl rfl (by decide) ?_
              refine i_lload 142 rfl rfl ?_
              refine i_lload 143 rfl rfl ?_
              refine i_ldiv 144 rfl h.1 ?_
              replace h := h.2
              refine i_lload 145 rfl rfl ?_
              refine i_lload 146 rfl rfl ?_
              refine i_ldiv 147 rfl h.1 ?_
              replace h := h.2
              refine i_callV (c := 11) (y1 := m_X11_isBreak) (z1 := (3, 0, 0)) (z2 := (4, 0, 0)) [(1, (x_W (((x_W (-((x_W ((x_W (((x_W (zr7 - (x_W (zr9 * zr11))))) * (zM17 (274 + 1 + 1 * a1) a3))) - (x_W (((x_W (zr14 - (x_W (zr16 * zr18))))) * (zM17 (274 + 1 + 1 * a1) a2))))))))).tdiv zr32))), (1, (x_W (((x_W (-((x_W (zr22 * ((x_W ((x_W (zr2 * (zM1 (274 + 1 + 1 * a1) a3))) - (x_W (zr4 * (zM3 (274 + 1 + 1 * a1) a2)))))))))))).tdiv zr32)))] 148 rfl ml_1578 ok_X11_isBreak vk_X11_isBreak ⟨by decide, rfl⟩ rfl ⟨rfl, Nat.le_of_ble_eq_true rfl⟩ (Nat.le_of_ble_eq_true rfl) ⟨by decide, rfl, rfl, rfl⟩ ?_
              refine h.mono (fun r zM35 h => ?_)
              obtain ⟨rfl, h⟩ := h
              simp only [Option.toList_some, Option.toList_none, List.cons_append, List.nil_append]
              exact i_return 149 rfl rfl h
        · replace h := h.2 c
          exact i_return 112 rfl rfl h
  · replace h := h.2 c
    exact i_return 30 rfl rfl h
theorem u_X11_costOf_0 {l : Launch} {E : xE} (a1 a2 : Int) {M : xM} {Q : Option xV → xM → Prop} (h : x_Ev l E (1, 0, 0) m_X11_costOf 5 [(21, 103), (0, a1), (0, a2), (1, 0), (5, 0), (0, 0)] [] M Q) : x_Ev l E (1, 0, 0) m_X11_costOf 0 [(21, 103), (0, a1), (0, a2), (5, 0), (5, 0), (5, 0)] [] M Q := by
  refine i_lconst (w := 0) 0 rfl (by decide) ?_
  refine i_lstore_n 1 rfl (by decide) rfl ?_
  refine i_iconst 2 rfl (by decide) ?_
  refine i_istore 3 rfl (by decide) rfl ?_
  exact h
theorem u_X11_costOf_5 {l : Launch} {E : xE} (l1 l2 l3 l5 : Int) {M : xM} {Q : Option xV → xM → Prop} (h : ((0 : Int) ≤ l1 ∧ (l1 : Int) < 3) ∧ ((M 107 l1) ≤ l5 → Q (some (1, l3)) M) ∧ (¬ (M 107 l1) ≤ l5 → ((0 : Int) ≤ l2 ∧ (l2 : Int) < 40) ∧ ((0 : Int) ≤ l5 ∧ (l5 : Int) < 4) ∧ ((0 : Int) ≤ l1 ∧ (l1 : Int) < 3) ∧ ((0 : Int) ≤ l5 ∧ (l5 : Int) < 4) ∧ ∀ zv1 : Int, zv1 = (x_W (l3 + (x_W ((M (284 + 1 + 1 * l2) l5) * (M (137 + 1 + 1 * l1) l5))))) → ∀ zv2 : Int, zv2 = x_w (l5 + 1) → x_Ev l E (1, 0, 0) m_X11_costOf 5 [(21, 103), (0, l1), (0, l2), (1, zv1), (5, 0), (0, zv2)] [] M Q)) : x_Ev l E (1, 0, 0) m_X11_costOf 5 [(21, 103), (0, l1), (0, l2), (1, l3), (5, 0), (0, l5)] [] M Q := by
  refine i_iload 4 rfl rfl ?_
  refine i_aload_n 5 rfl rfl (by decide) ?_
  refine i_getP (c := 11) (k := 4) (t := 114) (b := 107) 6 rfl fl_1053 (by decide) rfl (by decide) rfl ?_
  refine i_iload_n 7 rfl rfl ?_
  refine i_iald (τ := 14) 8 rfl ⟨rfl, rfl, rfl, by decide⟩ h.1.1 h.1.2 ?_
  replace h := h.2
  refine i_icmp_ge 45 9 rfl (by decide) (fun c => ?_) (fun c => ?_)
  · replace h := h.1 c
    refine i_lload_n 29 rfl rfl ?_
    exact i_lreturn 30 rfl rfl h
  · replace h := h.2 c
    refine i_lload_n 10 rfl rfl ?_
    refine i_aload_n 11 rfl rfl (by decide) ?_
    refine i_getP (c := 11) (k := 34) (t := 134) (b := 284) 12 rfl fl_1083 (by decide) rfl (by decide) rfl ?_
    refine i_iload_n 13 rfl rfl ?_
    refine i_aald (τ := 34) (t := 125) (len := 40) (b := (284 + 1 + 1 * l2)) 14 rfl (by decide) rfl h.1.1 h.1.2 ?_
    replace h := h.2
    refine i_iload 15 rfl rfl ?_
    refine i_lald (τ := 25) 16 rfl ⟨rfl, rfl, rfl, by decide⟩ h.1.1 h.1.2 ?_
    replace h := h.2
    refine i_aload_n 17 rfl rfl (by decide) ?_
    refine i_getP (c := 11) (k := 7) (t := 124) (b := 137) 18 rfl fl_1056 (by decide) rfl (by decide) rfl ?_
    refine i_iload_n 19 rfl rfl ?_
    refine i_aald (τ := 24) (t := 103) (len := 3) (b := (137 + 1 + 1 * l1)) 20 rfl (by decide) rfl h.1.1 h.1.2 ?_
    replace h := h.2
    refine i_iload 21 rfl rfl ?_
    refine i_iald (τ := 3) 22 rfl ⟨rfl, rfl, rfl, by decide⟩ h.1.1 h.1.2 ?_
    replace h := h.2
    refine i_i2l 23 rfl ?_
    refine i_lmul 24 rfl ?_
    refine i_ladd 25 rfl ?_
    replace h := h _ rfl
    refine i_lstore_n 26 rfl (by decide) rfl ?_
    replace h := h _ rfl
    refine i_iinc 27 rfl rfl (by decide) rfl ?_
    refine i_goto 5 28 rfl (by decide) ?_
    exact h
theorem u_X11_isBreak_0 {l : Launch} {E : xE} (a1 a2 : Int) {M : xM} {Q : Option xV → xM → Prop} (h : x_Ev l E (3, 0, 0) m_X11_isBreak 3 [(21, 103), (1, a1), (5, 0), (1, a2), (5, 0), (0, 0), (5, 0)] [] M Q) : x_Ev l E (3, 0, 0) m_X11_isBreak 0 [(21, 103), (1, a1), (5, 0), (1, a2), (5, 0), (5, 0), (5, 0)] [] M Q := by
  refine i_iconst 0 rfl (by decide) ?_
  refine i_istore 1 rfl (by decide) rfl ?_
  exact h
theorem u_X11_isBreak_3 {l : Launch} {E : xE} (l1 l3 l5 : Int) {M : xM} {Q : Option xV → xM → Prop} (h : ((M 103 25) ≤ l5 → ((M 103 25) ≤ l5 → ∀ zv1 : Int, zv1 = (M 103 25) → x_Ev l E (3, 0, 0) m_X11_isBreak 80 [(21, 103), (1, l1), (5, 0), (1, l3), (5, 0), (0, l5), (0, zv1)] [] M Q) ∧ (¬ (M 103 25) ≤ l5 → ((0 : Int) ≤ l5 ∧ (l5 : Int) < 200) ∧ (¬ (M 282 l5) = l1 → ∀ zv2 : Int, zv2 = (M 103 25) → x_Ev l E (3, 0, 0) m_X11_isBreak 80 [(21, 103), (1, l1), (5, 0), (1, l3), (5, 0), (0, l5), (0, zv2)] [] M Q) ∧ ((M 282 l5) = l1 → ((0 : Int) ≤ l5 ∧ (l5 : Int) < 200) ∧ (¬ (M 283 l5) = l3 → ∀ zv3 : Int, zv3 = (M 103 25) → x_Ev l E (3, 0, 0) m_X11_isBreak 80 [(21, 103), (1, l1), (5, 0), (1, l3), (5, 0), (0, l5), (0, zv3)] [] M Q) ∧ ((M 283 l5) = l3 → Q none M)))) ∧ (¬ (M 103 25) ≤ l5 → ((0 : Int) ≤ l5 ∧ (l5 : Int) < 200) ∧ ((0 : Int) ≤ l5 ∧ (l5 : Int) < 200) ∧ x_Ev l E (2, 0, 0) m_X11_compare 0 [(1, (M 282 l5)), (5, 0), (1, (M 283 l5)), (5, 0), (1, l1), (5, 0), (1, l3), (5, 0), (5, 0), (5, 0), (5, 0), (5, 0), (5, 0), (5, 0), (5, 0), (5, 0), (5, 0), (5, 0), (5, 0), (5, 0), (5, 0), (5, 0), (5, 0), (5, 0), (5, 0)] [] M (fun r zM4 => ∃ zr5, r = some (0, zr5) ∧ (0 ≤ zr5 → ((zM4 103 25) ≤ l5 → ∀ zv6 : Int, zv6 = (zM4 103 25) → x_Ev l E (3, 0, 0) m_X11_isBreak 80 [(21, 103), (1, l1), (5, 0), (1, l3), (5, 0), (0, l5), (0, zv6)] [] zM4 Q) ∧ (¬ (zM4 103 25) ≤ l5 → ((0 : Int) ≤ l5 ∧ (l5 : Int) < 200) ∧ (¬ (zM4 282 l5) = l1 → ∀ zv7 : Int, zv7 = (zM4 103 25) → x_Ev l E (3, 0, 0) m_X11_isBreak 80 [(21, 103), (1, l1), (5, 0), (1, l3), (5, 0), (0, l5), (0, zv7)] [] zM4 Q) ∧ ((zM4 282 l5) = l1 → ((0 : Int) ≤ l5 ∧ (l5 : Int) < 200) ∧ (¬ (zM4 283 l5) = l3 → ∀ zv8 : Int, zv8 = (zM4 103 25) → x_Ev l E (3, 0, 0) m_X11_isBreak 80 [(21, 103), (1, l1), (5, 0), (1, l3), (5, 0), (0, l5), (0, zv8)] [] zM4 Q) ∧ ((zM4 283 l5) = l3 → Q none zM4)))) ∧ (¬ 0 ≤ zr5 → ∀ zv9 : Int, zv9 = x_w (l5 + 1) → x_Ev l E (3, 0, 0) m_X11_isBreak 3 [(21, 103), (1, l1), (5, 0), (1, l3), (5, 0), (0, zv9), (5, 0)] [] zM4 Q)))) : x_Ev l E (3, 0, 0) m_X11_isBreak 3 [(21, 103), (1, l1), (5, 0), (1, l3), (5, 0), (0, l5), (5, 0)] [] M Q := by
  refine i_iload 2 rfl rfl ?_
  refine i_aload_n 3 rfl rfl (by decide) ?_
  refine i_getI (c := 11) (k := 25) 4 rfl fl_1074 (by decide) (by decide) ?_
  refine i_icmp_ge 40 5 rfl (by decide) (fun c => ?_) (fun c => ?_)
  · replace h := h.1 c
    refine i_iload 20 rfl rfl ?_
    refine i_aload_n 21 rfl rfl (by decide) ?_
    refine i_getI (c := 11) (k := 25) 22 rfl fl_1074 (by decide) (by decide) ?_
    refine i_icmp_ge 74 23 rfl (by decide) (fun c => ?_) (fun c => ?_)
    · replace h := h.1 c
      refine i_aload_n 39 rfl rfl (by decide) ?_
      refine i_getI (c := 11) (k := 25) 40 rfl fl_1074 (by decide) (by decide) ?_
      replace h := h _ rfl
      refine i_istore 41 rfl (by decide) rfl ?_
      exact h
    · replace h := h.2 c
      refine i_aload_n 24 rfl rfl (by decide) ?_
      refine i_getP (c := 11) (k := 26) (t := 133) (b := 282) 25 rfl fl_1075 (by decide) rfl (by decide) rfl ?_
      refine i_iload 26 rfl rfl ?_
      refine i_lald (τ := 33) 27 rfl ⟨rfl, rfl, rfl, by decide⟩ h.1.1 h.1.2 ?_
      replace h := h.2
      refine i_lload_n 28 rfl rfl ?_
      refine i_lcmp_ne 74 29 rfl rfl (by decide) (fun c => ?_) (fun c => ?_)
      · replace h := h.1 c
        refine i_aload_n 39 rfl rfl (by decide) ?_
        refine i_getI (c := 11) (k := 25) 40 rfl fl_1074 (by decide) (by decide) ?_
        replace h := h _ rfl
        refine i_istore 41 rfl (by decide) rfl ?_
        exact h
      · replace h := h.2 c
        refine i_aload_n 31 rfl rfl (by decide) ?_
        refine i_getP (c := 11) (k := 27) (t := 133) (b := 283) 32 rfl fl_1076 (by decide) rfl (by decide) rfl ?_
        refine i_iload 33 rfl rfl ?_
        refine i_lald (τ := 33) 34 rfl ⟨rfl, rfl, rfl, by decide⟩ h.1.1 h.1.2 ?_
        replace h := h.2
        refine i_lload_n 35 rfl rfl ?_
        refine i_lcmp_ne 74 36 rfl rfl (by decide) (fun c => ?_) (fun c => ?_)
        · replace h := h.1 c
          refine i_aload_n 39 rfl rfl (by decide) ?_
          refine i_getI (c := 11) (k := 25) 40 rfl fl_1074 (by decide) (by decide) ?_
          replace h := h _ rfl
          refine i_istore 41 rfl (by decide) rfl ?_
          exact h
        · replace h := h.2 c
          exact i_return 38 rfl rfl h
  · replace h := h.2 c
    refine i_aload_n 6 rfl rfl (by decide) ?_
    refine i_getP (c := 11) (k := 26) (t := 133) (b := 282) 7 rfl fl_1075 (by decide) rfl (by decide) rfl ?_
    refine i_iload 8 rfl rfl ?_
    refine i_lald (τ := 33) 9 rfl ⟨rfl, rfl, rfl, by decide⟩ h.1.1 h.1.2 ?_
    replace h := h.2
    refine i_aload_n 10 rfl rfl (by decide) ?_
    refine i_getP (c := 11) (k := 27) (t := 133) (b := 283) 11 rfl fl_1076 (by decide) rfl (by decide) rfl ?_
    refine i_iload 12 rfl rfl ?_
    refine i_lald (τ := 33) 13 rfl ⟨rfl, rfl, rfl, by decide⟩ h.1.1 h.1.2 ?_
    replace h := h.2
    refine i_lload_n 14 rfl rfl ?_
    refine i_lload_n 15 rfl rfl ?_
    refine i_callS (y1 := m_X11_compare) (z1 := (2, 0, 0)) (z2 := (3, 0, 0)) [(1, (M 282 l5)), (1, (M 283 l5)), (1, l1), (1, l3)] 16 rfl ml_1558 ok_X11_compare vk_X11_compare rfl ⟨rfl, Nat.le_of_ble_eq_true rfl⟩ (Nat.le_of_ble_eq_true rfl) ⟨by decide, rfl, rfl, rfl⟩ ?_
    refine h.mono (fun r zM4 h => ?_)
    obtain ⟨zr5, rfl, h⟩ := h
    simp only [Option.toList_some, Option.toList_none, List.cons_append, List.nil_append]
    refine i_if_ge 40 17 rfl (by decide) (fun c => ?_) (fun c => ?_)
    · replace h := h.1 c
      refine i_iload 20 rfl rfl ?_
      refine i_aload_n 21 rfl rfl (by decide) ?_
      refine i_getI (c := 11) (k := 25) 22 rfl fl_1074 (by decide) (by decide) ?_
      refine i_icmp_ge 74 23 rfl (by decide) (fun c => ?_) (fun c => ?_)
      · replace h := h.1 c
        refine i_aload_n 39 rfl rfl (by decide) ?_
        refine i_getI (c := 11) (k := 25) 40 rfl fl_1074 (by decide) (by decide) ?_
        replace h := h _ rfl
        refine i_istore 41 rfl (by decide) rfl ?_
        exact h
      · replace h := h.2 c
        refine i_aload_n 24 rfl rfl (by decide) ?_
        refine i_getP (c := 11) (k := 26) (t := 133) (b := 282) 25 rfl fl_1075 (by decide) rfl (by decide) rfl ?_
        refine i_iload 26 rfl rfl ?_
        refine i_lald (τ := 33) 27 rfl ⟨rfl, rfl, rfl, by decide⟩ h.1.1 h.1.2 ?_
        replace h := h.2
        refine i_lload_n 28 rfl rfl ?_
        refine i_lcmp_ne 74 29 rfl rfl (by decide) (fun c => ?_) (fun c => ?_)
        · replace h := h.1 c
          refine i_aload_n 39 rfl rfl (by decide) ?_
          refine i_getI (c := 11) (k := 25) 40 rfl fl_1074 (by decide) (by decide) ?_
          replace h := h _ rfl
          refine i_istore 41 rfl (by decide) rfl ?_
          exact h
        · replace h := h.2 c
          refine i_aload_n 31 rfl rfl (by decide) ?_
          refine i_getP (c := 11) (k := 27) (t := 133) (b := 283) 32 rfl fl_1076 (by decide) rfl (by decide) rfl ?_
          refine i_iload 33 rfl rfl ?_
          refine i_lald (τ := 33) 34 rfl ⟨rfl, rfl, rfl, by decide⟩ h.1.1 h.1.2 ?_
          replace h := h.2
          refine i_lload_n 35 rfl rfl ?_
          refine i_lcmp_ne 74 36 rfl rfl (by decide) (fun c => ?_) (fun c => ?_)
          · replace h := h.1 c
            refine i_aload_n 39 rfl rfl (by decide) ?_
            refine i_getI (c := 11) (k := 25) 40 rfl fl_1074 (by decide) (by decide) ?_
            replace h := h _ rfl
            refine i_istore 41 rfl (by decide) rfl ?_
            exact h
          · replace h := h.2 c
            exact i_return 38 rfl rfl h
    · replace h := h.2 c
      replace h := h _ rfl
      refine i_iinc 18 rfl rfl (by decide) rfl ?_
      refine i_goto 3 19 rfl (by decide) ?_
      exact h
theorem u_X11_isBreak_80 {l : Launch} {E : xE} (l1 l3 l5 l6 : Int) {M : xM} {Q : Option xV → xM → Prop} (h : (l6 ≤ l5 → (0 ≤ l5 ∧ l5 < 200) ∧ ∀ zM1 : xM, zM1 = x_wr M 282 l5 l1 → (0 ≤ l5 ∧ l5 < 200) ∧ ∀ zM2 : xM, zM2 = x_wr zM1 283 l5 l3 → ∀ zM3 : xM, zM3 = x_wr zM2 103 25 (x_w ((zM2 103 25) + 1)) → Q none zM3) ∧ (¬ l6 ≤ l5 → ((0 : Int) ≤ (x_w (l6 - 1)) ∧ ((x_w (l6 - 1)) : Int) < 200) ∧ (0 ≤ l6 ∧ l6 < 200) ∧ ∀ zM4 : xM, zM4 = x_wr M 282 l6 (M 282 (x_w (l6 - 1))) → ((0 : Int) ≤ (x_w (l6 - 1)) ∧ ((x_w (l6 - 1)) : Int) < 200) ∧ (0 ≤ l6 ∧ l6 < 200) ∧ ∀ zM5 : xM, zM5 = x_wr zM4 283 l6 (zM4 283 (x_w (l6 - 1))) → ∀ zv6 : Int, zv6 = x_w (l6 + (-1)) → x_Ev l E (3, 0, 0) m_X11_isBreak 80 [(21, 103), (1, l1), (5, 0), (1, l3), (5, 0), (0, l5), (0, zv6)] [] zM5 Q)) : x_Ev l E (3, 0, 0) m_X11_isBreak 80 [(21, 103), (1, l1), (5, 0), (1, l3), (5, 0), (0, l5), (0, l6)] [] M Q := by
  refine i_iload 42 rfl rfl ?_
  refine i_iload 43 rfl rfl ?_
  refine i_icmp_le 125 44 rfl (by decide) (fun c => ?_) (fun c => ?_)
  · replace h := h.1 c
    refine i_aload_n 67 rfl rfl (by decide) ?_
    refine i_getP (c := 11) (k := 26) (t := 133) (b := 282) 68 rfl fl_1075 (by decide) rfl (by decide) rfl ?_
    refine i_iload 69 rfl rfl ?_
    refine i_lload_n 70 rfl rfl ?_
    have hb := h.1
    replace h := h.2 _ rfl
    refine i_last (τ := 33) 71 rfl ⟨rfl, rfl, rfl, by decide⟩ hb.1 hb.2 ?_
    refine i_aload_n 72 rfl rfl (by decide) ?_
    refine i_getP (c := 11) (k := 27) (t := 133) (b := 283) 73 rfl fl_1076 (by decide) rfl (by decide) rfl ?_
    refine i_iload 74 rfl rfl ?_
    refine i_lload_n 75 rfl rfl ?_
    have hb := h.1
    replace h := h.2 _ rfl
    refine i_last (τ := 33) 76 rfl ⟨rfl, rfl, rfl, by decide⟩ hb.1 hb.2 ?_
    refine i_aload_n 77 rfl rfl (by decide) ?_
    refine i_dup 78 rfl (Nat.ne_of_beq_eq_false rfl) ?_
    refine i_getI (c := 11) (k := 25) 79 rfl fl_1074 (by decide) (by decide) ?_
    refine i_iconst 80 rfl (by decide) ?_
    refine i_iadd 81 rfl ?_
    replace h := h _ rfl
    refine i_putI (c := 11) (k := 25) 82 rfl fl_1074 (by decide) ⟨rfl, rfl, rfl⟩ ?_
    exact i_return 83 rfl rfl h
  · replace h := h.2 c
    refine i_aload_n 45 rfl rfl (by decide) ?_
    refine i_getP (c := 11) (k := 26) (t := 133) (b := 282) 46 rfl fl_1075 (by decide) rfl (by decide) rfl ?_
    refine i_iload 47 rfl rfl ?_
    refine i_aload_n 48 rfl rfl (by decide) ?_
    refine i_getP (c := 11) (k := 26) (t := 133) (b := 282) 49 rfl fl_1075 (by decide) rfl (by decide) rfl ?_
    refine i_iload 50 rfl rfl ?_
    refine i_iconst 51 rfl (by decide) ?_
    refine i_isub 52 rfl ?_
    refine i_lald (τ := 33) 53 rfl ⟨rfl, rfl, rfl, by decide⟩ h.1.1 h.1.2 ?_
    replace h := h.2
    have hb := h.1
    replace h := h.2 _ rfl
    refine i_last (τ := 33) 54 rfl ⟨rfl, rfl, rfl, by decide⟩ hb.1 hb.2 ?_
    refine i_aload_n 55 rfl rfl (by decide) ?_
    refine i_getP (c := 11) (k := 27) (t := 133) (b := 283) 56 rfl fl_1076 (by decide) rfl (by decide) rfl ?_
    refine i_iload 57 rfl rfl ?_
    refine i_aload_n 58 rfl rfl (by decide) ?_
    refine i_getP (c := 11) (k := 27) (t := 133) (b := 283) 59 rfl fl_1076 (by decide) rfl (by decide) rfl ?_
    refine i_iload 60 rfl rfl ?_
    refine i_iconst 61 rfl (by decide) ?_
    refine i_isub 62 rfl ?_
    refine i_lald (τ := 33) 63 rfl ⟨rfl, rfl, rfl, by decide⟩ h.1.1 h.1.2 ?_
    replace h := h.2
    have hb := h.1
    replace h := h.2 _ rfl
    refine i_last (τ := 33) 64 rfl ⟨rfl, rfl, rfl, by decide⟩ hb.1 hb.2 ?_
    replace h := h _ rfl
    refine i_iinc 65 rfl rfl (by decide) rfl ?_
    refine i_goto 80 66 rfl (by decide) ?_
    exact h
