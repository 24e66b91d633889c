/-! Printed by wip/whole/tools/gen_vc.py: what is enough at each cut point -/
theorem u_X10_book_0 {l : Launch} {E : xE} (a1 a2 : Int) {M : xM} {Q : Option xV → xM → Prop} (h : (a1 < 0 → x_Ev l E (1, 0, 0) m_X10_tellLong 0 [(20, 5), (0, 0)] [] M (fun r zM1 => ∃ zr2, r = some (1, zr2) ∧ Q (some (1, zr2)) zM1)) ∧ (¬ a1 < 0 → (a1 ≤ 2 → (¬ a1 = 2 → ∀ zv3 : Int, zv3 = (M 6 4) → (¬ a1 = 0 → x_Ev l E (1, 0, 0) m_X10_isProductOver 0 [(1, zv3), (5, 0), (1, a2), (5, 0)] [] M (fun r zM4 => ∃ zr5, r = some (0, zr5) ∧ (zr5 = 0 → ∀ zM6 : xM, zM6 = x_wr zM4 6 4 (x_W (zv3 * a2)) → Q (some (1, (zM6 6 4))) zM6) ∧ (¬ zr5 = 0 → x_Ev l E (1, 0, 0) m_X10_tellLong 0 [(20, 5), (0, 7)] [] zM4 (fun r zM7 => ∃ zr8, r = some (1, zr8) ∧ Q (some (1, zr8)) zM7)))) ∧ (a1 = 0 → x_Ev l E (1, 0, 0) m_X10_isSumOver 0 [(1, zv3), (5, 0), (1, a2), (5, 0), (5, 0), (5, 0)] [] M (fun r zM9 => ∃ zr10, r = some (0, zr10) ∧ (zr10 = 0 → ∀ zM11 : xM, zM11 = x_wr zM9 6 4 (x_W (zv3 + a2)) → Q (some (1, (zM11 6 4))) zM11) ∧ (¬ zr10 = 0 → x_Ev l E (1, 0, 0) m_X10_tellLong 0 [(20, 5), (0, 7)] [] zM9 (fun r zM12 => ∃ zr13, r = some (1, zr13) ∧ Q (some (1, zr13)) zM12))))) ∧ (a1 = 2 → (¬ a2 = 0 → ∀ zv14 : Int, zv14 = (M 6 4) → (¬ zv14 = (-9223372036854775808) → (a2 ≠ 0) ∧ ∀ zM15 : xM, zM15 = x_wr M 6 4 (x_W (zv14.tdiv a2)) → Q (some (1, (zM15 6 4))) zM15) ∧ (zv14 = (-9223372036854775808) → (¬ a2 = (-1) → (a2 ≠ 0) ∧ ∀ zM16 : xM, zM16 = x_wr M 6 4 (x_W (zv14.tdiv a2)) → Q (some (1, (zM16 6 4))) zM16) ∧ (a2 = (-1) → x_Ev l E (1, 0, 0) m_X10_tellLong 0 [(20, 5), (0, 7)] [] M (fun r zM17 => ∃ zr18, r = some (1, zr18) ∧ Q (some (1, zr18)) zM17)))) ∧ (a2 = 0 → x_Ev l E (1, 0, 0) m_X10_tellLong 0 [(20, 5), (0, 3)] [] M (fun r zM19 => ∃ zr20, r = some (1, zr20) ∧ Q (some (1, zr20)) zM19)))) ∧ (¬ a1 ≤ 2 → x_Ev l E (1, 0, 0) m_X10_tellLong 0 [(20, 5), (0, 0)] [] M (fun r zM21 => ∃ zr22, r = some (1, zr22) ∧ Q (some (1, zr22)) zM21)))) : x_Ev l E (2, 0, 0) m_X10_book 0 [(20, 5), (0, a1), (1, a2), (5, 0), (5, 0), (5, 0), (5, 0)] [] M Q := by
  refine i_iload_n 0 rfl rfl ?_
  refine i_if_lt 9 1 rfl (by decide) (fun c => ?_) (fun c => ?_)
  · replace h := h.1 c
    refine i_aload_n 5 rfl rfl (by decide) ?_
    refine i_iconst 6 rfl (by decide) ?_
    refine i_callV (c := 10) (y1 := m_X10_tellLong) (z1 := (1, 0, 0)) (z2 := (2, 0, 0)) [(0, 0)] 7 rfl ml_607 ok_X10_tellLong vk_X10_tellLong ⟨by decide, rfl⟩ rfl ⟨rfl, Nat.le_of_ble_eq_true rfl⟩ (Nat.le_of_ble_eq_true rfl) ⟨by decide, rfl, rfl, rfl⟩ ?_
    refine h.mono (fun r zM1 h => ?_)
    obtain ⟨zr2, rfl, h⟩ := h
    simp only [Option.toList_some, Option.toList_none, List.cons_append, List.nil_append]
    exact i_lreturn 8 rfl rfl h
  · replace h := h.2 c
    refine i_iload_n 2 rfl rfl ?_
    refine i_iconst 3 rfl (by decide) ?_
    refine i_icmp_le 15 4 rfl (by decide) (fun c => ?_) (fun c => ?_)
    · replace h := h.1 c
      refine i_iload_n 9 rfl rfl ?_
      refine i_iconst 10 rfl (by decide) ?_
      refine i_icmp_ne 32 11 rfl (by decide) (fun c => ?_) (fun c => ?_)
      · replace h := h.1 c
        refine i_aload_n 20 rfl rfl (by decide) ?_
        refine i_getP (c := 10) (k := 0) (t := 19) (b := 6) 21 rfl fl_346 (by decide) rfl (by decide) rfl ?_
        refine i_getL (c := 9) (k := 4) 22 rfl fl_115 (by decide) rfl ?_
        replace h := h _ rfl
        refine i_lstore 23 rfl (by decide) rfl ?_
        refine i_iload_n 24 rfl rfl ?_
        refine i_if_ne 54 25 rfl (by decide) (fun c => ?_) (fun c => ?_)
        · replace h := h.1 c
          refine i_iload_n 30 rfl rfl ?_
          refine i_iconst 31 rfl (by decide) ?_
          refine i_icmp_ne 68 32 rfl (by decide) (fun c => ?_) (fun c => ?_)
          · exact absurd c (by omega)
          · refine i_lload 33 rfl rfl ?_
            refine i_lload_n 34 rfl rfl ?_
            refine i_callS (y1 := m_X10_isProductOver) (z1 := (1, 0, 0)) (z2 := (2, 0, 0)) [(1, ((M 6 4))), (1, a2)] 35 rfl ml_892 ok_X10_isProductOver vk_X10_isProductOver rfl ⟨rfl, Nat.le_of_ble_eq_true rfl⟩ (Nat.le_of_ble_eq_true rfl) ⟨by decide, rfl, rfl, rfl⟩ ?_
            refine h.mono (fun r zM4 h => ?_)
            obtain ⟨zr5, rfl, h⟩ := h
            simp only [Option.toList_some, Option.toList_none, List.cons_append, List.nil_append]
            refine i_goto 90 36 rfl (by decide) ?_
            refine i_istore 48 rfl (by decide) rfl ?_
            refine i_iload 49 rfl rfl ?_
            refine i_if_eq 104 50 rfl (by decide) (fun c => ?_) (fun c => ?_)
            · replace h := h.1 c
              refine i_iload_n 55 rfl rfl ?_
              refine i_if_ne 122 56 rfl (by decide) (fun c => ?_) (fun c => ?_)
              · refine i_iload_n 64 rfl rfl ?_
                refine i_iconst 65 rfl (by decide) ?_
                refine i_icmp_ne 141 66 rfl (by decide) (fun c => ?_) (fun c => ?_)
                · exact absurd c (by omega)
                · refine i_aload_n 67 rfl rfl (by decide) ?_
                  refine i_getP (c := 10) (k := 0) (t := 19) (b := 6) 68 rfl fl_346 (by decide) rfl (by decide) rfl ?_
                  refine i_lload 69 rfl rfl ?_
                  refine i_lload_n 70 rfl rfl ?_
                  refine i_lmul 71 rfl ?_
                  replace h := h _ rfl
                  refine i_putL (c := 9) (k := 4) 72 rfl fl_115 (by decide) ⟨rfl, rfl, rfl⟩ ?_
                  refine i_goto 158 73 rfl (by decide) ?_
                  refine i_aload_n 84 rfl rfl (by decide) ?_
                  refine i_getP (c := 10) (k := 0) (t := 19) (b := 6) 85 rfl fl_346 (by decide) rfl (by decide) rfl ?_
                  refine i_getL (c := 9) (k := 4) 86 rfl fl_115 (by decide) rfl ?_
                  exact i_lreturn 87 rfl rfl h
              · exact absurd c (by omega)
            · replace h := h.2 c
              refine i_aload_n 51 rfl rfl (by decide) ?_
              refine i_bipush 52 rfl (by decide) ?_
              refine i_callV (c := 10) (y1 := m_X10_tellLong) (z1 := (1, 0, 0)) (z2 := (2, 0, 0)) [(0, 7)] 53 rfl ml_607 ok_X10_tellLong vk_X10_tellLong ⟨by decide, rfl⟩ rfl ⟨rfl, Nat.le_of_ble_eq_true rfl⟩ (Nat.le_of_ble_eq_true rfl) ⟨by decide, rfl, rfl, rfl⟩ ?_
              refine h.mono (fun r zM7 h => ?_)
              obtain ⟨zr8, rfl, h⟩ := h
              simp only [Option.toList_some, Option.toList_none, List.cons_append, List.nil_append]
              exact i_lreturn 54 rfl rfl h
        · replace h := h.2 c
          refine i_lload 26 rfl rfl ?_
          refine i_lload_n 27 rfl rfl ?_
          refine i_callS (y1 := m_X10_isSumOver) (z1 := (1, 0, 0)) (z2 := (2, 0, 0)) [(1, ((M 6 4))), (1, a2)] 28 rfl ml_891 ok_X10_isSumOver vk_X10_isSumOver rfl ⟨rfl, Nat.le_of_ble_eq_true rfl⟩ (Nat.le_of_ble_eq_true rfl) ⟨by decide, rfl, rfl, rfl⟩ ?_
          refine h.mono (fun r zM9 h => ?_)
          obtain ⟨zr10, rfl, h⟩ := h
          simp only [Option.toList_some, Option.toList_none, List.cons_append, List.nil_append]
          refine i_goto 90 29 rfl (by decide) ?_
          refine i_istore 48 rfl (by decide) rfl ?_
          refine i_iload 49 rfl rfl ?_
          refine i_if_eq 104 50 rfl (by decide) (fun c => ?_) (fun c => ?_)
          · replace h := h.1 c
            refine i_iload_n 55 rfl rfl ?_
            refine i_if_ne 122 56 rfl (by decide) (fun c => ?_) (fun c => ?_)
            · exact absurd c (by omega)
            · refine i_aload_n 57 rfl rfl (by decide) ?_
              refine i_getP (c := 10) (k := 0) (t := 19) (b := 6) 58 rfl fl_346 (by decide) rfl (by decide) rfl ?_
              refine i_lload 59 rfl rfl ?_
              refine i_lload_n 60 rfl rfl ?_
              refine i_ladd 61 rfl ?_
              replace h := h _ rfl
              refine i_putL (c := 9) (k := 4) 62 rfl fl_115 (by decide) ⟨rfl, rfl, rfl⟩ ?_
              refine i_goto 158 63 rfl (by decide) ?_
              refine i_aload_n 84 rfl rfl (by decide) ?_
              refine i_getP (c := 10) (k := 0) (t := 19) (b := 6) 85 rfl fl_346 (by decide) rfl (by decide) rfl ?_
              refine i_getL (c := 9) (k := 4) 86 rfl fl_115 (by decide) rfl ?_
              exact i_lreturn 87 rfl rfl h
          · replace h := h.2 c
            refine i_aload_n 51 rfl rfl (by decide) ?_
            refine i_bipush 52 rfl (by decide) ?_
            refine i_callV (c := 10) (y1 := m_X10_tellLong) (z1 := (1, 0, 0)) (z2 := (2, 0, 0)) [(0, 7)] 53 rfl ml_607 ok_X10_tellLong vk_X10_tellLong ⟨by decide, rfl⟩ rfl ⟨rfl, Nat.le_of_ble_eq_true rfl⟩ (Nat.le_of_ble_eq_true rfl) ⟨by decide, rfl, rfl, rfl⟩ ?_
            refine h.mono (fun r zM12 h => ?_)
            obtain ⟨zr13, rfl, h⟩ := h
            simp only [Option.toList_some, Option.toList_none, List.cons_append, List.nil_append]
            exact i_lreturn 54 rfl rfl h
      · replace h := h.2 c
        refine i_lload_n 12 rfl rfl ?_
        refine i_lconst (w := 0) 13 rfl (by decide) ?_
        refine i_lcmp_ne 32 14 rfl rfl (by decide) (fun c => ?_) (fun c => ?_)
        · replace h := h.1 c
          refine i_aload_n 20 rfl rfl (by decide) ?_
          refine i_getP (c := 10) (k := 0) (t := 19) (b := 6) 21 rfl fl_346 (by decide) rfl (by decide) rfl ?_
          refine i_getL (c := 9) (k := 4) 22 rfl fl_115 (by decide) rfl ?_
          replace h := h _ rfl
          refine i_lstore 23 rfl (by decide) rfl ?_
          refine i_iload_n 24 rfl rfl ?_
          refine i_if_ne 54 25 rfl (by decide) (fun c => ?_) (fun c => ?_)
          · refine i_iload_n 30 rfl rfl ?_
            refine i_iconst 31 rfl (by decide) ?_
            refine i_icmp_ne 68 32 rfl (by decide) (fun c => ?_) (fun c => ?_)
            · refine i_lload 37 rfl rfl ?_
              refine i_ldc2 (v := (-9223372036854775808)) 38 rfl cw_895 (by decide) ?_
              refine i_lcmp_ne 89 39 rfl rfl (by decide) (fun c => ?_) (fun c => ?_)
              · replace h := h.1 c
                refine i_iconst 47 rfl (by decide) ?_
                refine i_istore 48 rfl (by decide) rfl ?_
                refine i_iload 49 rfl rfl ?_
                refine i_if_eq 104 50 rfl (by decide) (fun c => ?_) (fun c => ?_)
                · refine i_iload_n 55 rfl rfl ?_
                  refine i_if_ne 122 56 rfl (by decide) (fun c => ?_) (fun c => ?_)
                  · refine i_iload_n 64 rfl rfl ?_
                    refine i_iconst 65 rfl (by decide) ?_
                    refine i_icmp_ne 141 66 rfl (by decide) (fun c => ?_) (fun c => ?_)
                    · refine i_lload_n 74 rfl rfl ?_
                      refine i_lconst (w := 0) 75 rfl (by decide) ?_
                      refine i_lcmp_eq 158 76 rfl rfl (by decide) (fun c => ?_) (fun c => ?_)
                      · exact absurd c (by omega)
                      · refine i_aload_n 78 rfl rfl (by decide) ?_
                        refine i_getP (c := 10) (k := 0) (t := 19) (b := 6) 79 rfl fl_346 (by decide) rfl (by decide) rfl ?_
                        refine i_lload 80 rfl rfl ?_
                        refine i_lload_n 81 rfl rfl ?_
                        refine i_ldiv 82 rfl h.1 ?_
                        replace h := h.2
                        replace h := h _ rfl
                        refine i_putL (c := 9) (k := 4) 83 rfl fl_115 (by decide) ⟨rfl, rfl, rfl⟩ ?_
                        refine i_aload_n 84 rfl rfl (by decide) ?_
                        refine i_getP (c := 10) (k := 0) (t := 19) (b := 6) 85 rfl fl_346 (by decide) rfl (by decide) rfl ?_
                        refine i_getL (c := 9) (k := 4) 86 rfl fl_115 (by decide) rfl ?_
                        exact i_lreturn 87 rfl rfl h
                    · exact absurd c (by omega)
                  · exact absurd c (by omega)
                · exact absurd c (by decide)
              · replace h := h.2 c
                refine i_lload_n 41 rfl rfl ?_
                refine i_ldc2 (v := (-1)) 42 rfl cw_896 (by decide) ?_
                refine i_lcmp_ne 89 43 rfl rfl (by decide) (fun c => ?_) (fun c => ?_)
                · replace h := h.1 c
                  refine i_iconst 47 rfl (by decide) ?_
                  refine i_istore 48 rfl (by decide) rfl ?_
                  refine i_iload 49 rfl rfl ?_
                  refine i_if_eq 104 50 rfl (by decide) (fun c => ?_) (fun c => ?_)
                  · refine i_iload_n 55 rfl rfl ?_
                    refine i_if_ne 122 56 rfl (by decide) (fun c => ?_) (fun c => ?_)
                    · refine i_iload_n 64 rfl rfl ?_
                      refine i_iconst 65 rfl (by decide) ?_
                      refine i_icmp_ne 141 66 rfl (by decide) (fun c => ?_) (fun c => ?_)
                      · refine i_lload_n 74 rfl rfl ?_
                        refine i_lconst (w := 0) 75 rfl (by decide) ?_
                        refine i_lcmp_eq 158 76 rfl rfl (by decide) (fun c => ?_) (fun c => ?_)
                        · exact absurd c (by omega)
                        · refine i_aload_n 78 rfl rfl (by decide) ?_
                          refine i_getP (c := 10) (k := 0) (t := 19) (b := 6) 79 rfl fl_346 (by decide) rfl (by decide) rfl ?_
                          refine i_lload 80 rfl rfl ?_
                          refine i_lload_n 81 rfl rfl ?_
                          refine i_ldiv 82 rfl h.1 ?_
                          replace h := h.2
                          replace h := h _ rfl
                          refine i_putL (c := 9) (k := 4) 83 rfl fl_115 (by decide) ⟨rfl, rfl, rfl⟩ ?_
                          refine i_aload_n 84 rfl rfl (by decide) ?_
                          refine i_getP (c := 10) (k := 0) (t := 19) (b := 6) 85 rfl fl_346 (by decide) rfl (by decide) rfl ?_
                          refine i_getL (c := 9) (k := 4) 86 rfl fl_115 (by decide) rfl ?_
                          exact i_lreturn 87 rfl rfl h
                      · exact absurd c (by omega)
                    · exact absurd c (by omega)
                  · exact absurd c (by decide)
                · replace h := h.2 c
                  refine i_iconst 45 rfl (by decide) ?_
                  refine i_goto 90 46 rfl (by decide) ?_
                  refine i_istore 48 rfl (by decide) rfl ?_
                  refine i_iload 49 rfl rfl ?_
                  refine i_if_eq 104 50 rfl (by decide) (fun c => ?_) (fun c => ?_)
                  · exact absurd c (by decide)
                  · refine i_aload_n 51 rfl rfl (by decide) ?_
                    refine i_bipush 52 rfl (by decide) ?_
                    refine i_callV (c := 10) (y1 := m_X10_tellLong) (z1 := (1, 0, 0)) (z2 := (2, 0, 0)) [(0, 7)] 53 rfl ml_607 ok_X10_tellLong vk_X10_tellLong ⟨by decide, rfl⟩ rfl ⟨rfl, Nat.le_of_ble_eq_true rfl⟩ (Nat.le_of_ble_eq_true rfl) ⟨by decide, rfl, rfl, rfl⟩ ?_
                    refine h.mono (fun r zM17 h => ?_)
                    obtain ⟨zr18, rfl, h⟩ := h
                    simp only [Option.toList_some, Option.toList_none, List.cons_append, List.nil_append]
                    exact i_lreturn 54 rfl rfl h
            · exact absurd c (by omega)
          · exact absurd c (by omega)
        · replace h := h.2 c
          refine i_aload_n 16 rfl rfl (by decide) ?_
          refine i_iconst 17 rfl (by decide) ?_
          refine i_callV (c := 10) (y1 := m_X10_tellLong) (z1 := (1, 0, 0)) (z2 := (2, 0, 0)) [(0, 3)] 18 rfl ml_607 ok_X10_tellLong vk_X10_tellLong ⟨by decide, rfl⟩ rfl ⟨rfl, Nat.le_of_ble_eq_true rfl⟩ (Nat.le_of_ble_eq_true rfl) ⟨by decide, rfl, rfl, rfl⟩ ?_
          refine h.mono (fun r zM19 h => ?_)
          obtain ⟨zr20, rfl, h⟩ := h
          simp only [Option.toList_some, Option.toList_none, List.cons_append, List.nil_append]
          exact i_lreturn 19 rfl rfl h
    · replace h := h.2 c
      refine i_aload_n 5 rfl rfl (by decide) ?_
      refine i_iconst 6 rfl (by decide) ?_
      refine i_callV (c := 10) (y1 := m_X10_tellLong) (z1 := (1, 0, 0)) (z2 := (2, 0, 0)) [(0, 0)] 7 rfl ml_607 ok_X10_tellLong vk_X10_tellLong ⟨by decide, rfl⟩ rfl ⟨rfl, Nat.le_of_ble_eq_true rfl⟩ (Nat.le_of_ble_eq_true rfl) ⟨by decide, rfl, rfl, rfl⟩ ?_
      refine h.mono (fun r zM21 h => ?_)
      obtain ⟨zr22, rfl, h⟩ := h
      simp only [Option.toList_some, Option.toList_none, List.cons_append, List.nil_append]
      exact i_lreturn 8 rfl rfl h
theorem u_X10_seed_0 {l : Launch} {E : xE} (a1 : Int) {M : xM} {Q : Option xV → xM → Prop} (h : ∀ zv1 : Int, zv1 = (M 6 3) → ∀ zM2 : xM, zM2 = x_wr M 6 3 a1 → Q (some (0, zv1)) zM2) : x_Ev l E (1, 0, 0) m_X10_seed 0 [(20, 5), (0, a1), (5, 0)] [] M Q := by
  refine i_aload_n 0 rfl rfl (by decide) ?_
  refine i_getP (c := 10) (k := 0) (t := 19) (b := 6) 1 rfl fl_346 (by decide) rfl (by decide) rfl ?_
  refine i_getI (c := 9) (k := 3) 2 rfl fl_113 (by decide) (by decide) ?_
  replace h := h _ rfl
  refine i_istore_n 3 rfl (by decide) rfl ?_
  refine i_aload_n 4 rfl rfl (by decide) ?_
  refine i_getP (c := 10) (k := 0) (t := 19) (b := 6) 5 rfl fl_346 (by decide) rfl (by decide) rfl ?_
  refine i_iload_n 6 rfl rfl ?_
  replace h := h _ rfl
  refine i_putI (c := 9) (k := 3) 7 rfl fl_113 (by decide) ⟨rfl, rfl, rfl⟩ ?_
  refine i_iload_n 8 rfl rfl ?_
  exact i_ireturn 9 rfl rfl h
theorem u_X10_fits_0 {l : Launch} {E : xE} (a1 a2 a3 : Int) {M : xM} {Q : Option xV → xM → Prop} (h : x_Ev l E (1, 0, 0) m_X10_isNoSheet 0 [(20, 5), (0, a1)] [] M (fun r zM1 => ∃ zr2, r = some (0, zr2) ∧ (¬ zr2 = 0 → x_Ev l E (1, 0, 0) m_X10_tell 0 [(20, 5), (0, 0)] [] zM1 (fun r zM3 => ∃ zr4, r = some (0, zr4) ∧ Q (some (0, zr4)) zM3)) ∧ (zr2 = 0 → x_Ev l E (1, 0, 0) m_X10_isNoFollower 0 [(20, 5), (0, a2)] [] zM1 (fun r zM5 => ∃ zr6, r = some (0, zr6) ∧ (¬ zr6 = 0 → x_Ev l E (1, 0, 0) m_X10_tell 0 [(20, 5), (0, 0)] [] zM5 (fun r zM7 => ∃ zr8, r = some (0, zr8) ∧ Q (some (0, zr8)) zM7)) ∧ (zr6 = 0 → (a3 < 0 → x_Ev l E (1, 0, 0) m_X10_tell 0 [(20, 5), (0, 0)] [] zM5 (fun r zM9 => ∃ zr10, r = some (0, zr10) ∧ Q (some (0, zr10)) zM9)) ∧ (¬ a3 < 0 → (a3 ≤ 1 → ((0 : Int) ≤ a1 ∧ (a1 : Int) < 4) ∧ (¬ (zM5 88 a1) < 0 → ((0 : Int) ≤ a2 ∧ (a2 : Int) < 3) ∧ ∀ zv11 : Int, zv11 = (zM5 (8 + 1 + 4 * a2) 0) → x_Ev l E (5, 0, 0) m_X10_fits 74 [(20, 5), (0, a1), (0, a2), (0, a3), (9, (zM5 88 a1)), (11, (8 + 1 + 4 * a2)), (0, zv11), (0, 0), (0, 0)] [] zM5 Q) ∧ ((zM5 88 a1) < 0 → x_Ev l E (1, 0, 0) m_X10_tell 0 [(20, 5), (0, 5)] [] zM5 (fun r zM12 => ∃ zr13, r = some (0, zr13) ∧ Q (some (0, zr13)) zM12))) ∧ (¬ a3 ≤ 1 → x_Ev l E (1, 0, 0) m_X10_tell 0 [(20, 5), (0, 0)] [] zM5 (fun r zM14 => ∃ zr15, r = some (0, zr15) ∧ Q (some (0, zr15)) zM14)))))))) : x_Ev l E (5, 0, 0) m_X10_fits 0 [(20, 5), (0, a1), (0, a2), (0, a3), (5, 0), (5, 0), (5, 0), (5, 0), (5, 0)] [] M Q := by
  refine i_aload_n 0 rfl rfl (by decide) ?_
  refine i_iload_n 1 rfl rfl ?_
  refine i_callV (c := 10) (y1 := m_X10_isNoSheet) (z1 := (1, 0, 0)) (z2 := (5, 0, 0)) [(0, a1)] 2 rfl ml_715 ok_X10_isNoSheet vk_X10_isNoSheet ⟨by decide, rfl⟩ rfl ⟨rfl, Nat.le_of_ble_eq_true rfl⟩ (Nat.le_of_ble_eq_true rfl) ⟨by decide, rfl, rfl, rfl⟩ ?_
  refine h.mono (fun r zM1 h => ?_)
  obtain ⟨zr2, rfl, h⟩ := h
  simp only [Option.toList_some, Option.toList_none, List.cons_append, List.nil_append]
  refine i_if_ne 25 3 rfl (by decide) (fun c => ?_) (fun c => ?_)
  · replace h := h.1 c
    refine i_aload_n 13 rfl rfl (by decide) ?_
    refine i_iconst 14 rfl (by decide) ?_
    refine i_callV (c := 10) (y1 := m_X10_tell) (z1 := (1, 0, 0)) (z2 := (5, 0, 0)) [(0, 0)] 15 rfl ml_400 ok_X10_tell vk_X10_tell ⟨by decide, rfl⟩ rfl ⟨rfl, Nat.le_of_ble_eq_true rfl⟩ (Nat.le_of_ble_eq_true rfl) ⟨by decide, rfl, rfl, rfl⟩ ?_
    refine h.mono (fun r zM3 h => ?_)
    obtain ⟨zr4, rfl, h⟩ := h
    simp only [Option.toList_some, Option.toList_none, List.cons_append, List.nil_append]
    exact i_ireturn 16 rfl rfl h
  · replace h := h.2 c
    refine i_aload_n 4 rfl rfl (by decide) ?_
    refine i_iload_n 5 rfl rfl ?_
    refine i_callV (c := 10) (y1 := m_X10_isNoFollower) (z1 := (1, 0, 0)) (z2 := (5, 0, 0)) [(0, a2)] 6 rfl ml_488 ok_X10_isNoFollower vk_X10_isNoFollower ⟨by decide, rfl⟩ rfl ⟨rfl, Nat.le_of_ble_eq_true rfl⟩ (Nat.le_of_ble_eq_true rfl) ⟨by decide, rfl, rfl, rfl⟩ ?_
    refine h.mono (fun r zM5 h => ?_)
    obtain ⟨zr6, rfl, h⟩ := h
    simp only [Option.toList_some, Option.toList_none, List.cons_append, List.nil_append]
    refine i_if_ne 25 7 rfl (by decide) (fun c => ?_) (fun c => ?_)
    · replace h := h.1 c
      refine i_aload_n 13 rfl rfl (by decide) ?_
      refine i_iconst 14 rfl (by decide) ?_
      refine i_callV (c := 10) (y1 := m_X10_tell) (z1 := (1, 0, 0)) (z2 := (5, 0, 0)) [(0, 0)] 15 rfl ml_400 ok_X10_tell vk_X10_tell ⟨by decide, rfl⟩ rfl ⟨rfl, Nat.le_of_ble_eq_true rfl⟩ (Nat.le_of_ble_eq_true rfl) ⟨by decide, rfl, rfl, rfl⟩ ?_
      refine h.mono (fun r zM7 h => ?_)
      obtain ⟨zr8, rfl, h⟩ := h
      simp only [Option.toList_some, Option.toList_none, List.cons_append, List.nil_append]
      exact i_ireturn 16 rfl rfl h
    · replace h := h.2 c
      refine i_iload_n 8 rfl rfl ?_
      refine i_if_lt 25 9 rfl (by decide) (fun c => ?_) (fun c => ?_)
      · replace h := h.1 c
        refine i_aload_n 13 rfl rfl (by decide) ?_
        refine i_iconst 14 rfl (by decide) ?_
        refine i_callV (c := 10) (y1 := m_X10_tell) (z1 := (1, 0, 0)) (z2 := (5, 0, 0)) [(0, 0)] 15 rfl ml_400 ok_X10_tell vk_X10_tell ⟨by decide, rfl⟩ rfl ⟨rfl, Nat.le_of_ble_eq_true rfl⟩ (Nat.le_of_ble_eq_true rfl) ⟨by decide, rfl, rfl, rfl⟩ ?_
        refine h.mono (fun r zM9 h => ?_)
        obtain ⟨zr10, rfl, h⟩ := h
        simp only [Option.toList_some, Option.toList_none, List.cons_append, List.nil_append]
        exact i_ireturn 16 rfl rfl h
      · replace h := h.2 c
        refine i_iload_n 10 rfl rfl ?_
        refine i_iconst 11 rfl (by decide) ?_
        refine i_icmp_le 31 12 rfl (by decide) (fun c => ?_) (fun c => ?_)
        · replace h := h.1 c
          refine i_aload_n 17 rfl rfl (by decide) ?_
          refine i_getP (c := 10) (k := 9) (t := 115) (b := 88) 18 rfl fl_355 (by decide) rfl (by decide) rfl ?_
          refine i_iload_n 19 rfl rfl ?_
          refine i_aaldR 20 rfl h.1.1 h.1.2 ?_
          replace h := h.2
          refine i_astore 21 rfl (by decide) (by decide) rfl ?_
          refine i_aload 22 rfl rfl (by decide) ?_
          refine i_ifnonnull 50 23 rfl (by decide) (by decide) (fun c => ?_) (fun c => ?_)
          · replace h := h.1 c
            refine i_aload_n 28 rfl rfl (by decide) ?_
            refine i_getP (c := 10) (k := 0) (t := 19) (b := 6) 29 rfl fl_346 (by decide) rfl (by decide) rfl ?_
            refine i_getP (c := 9) (k := 6) (t := 100) (b := 8) 30 rfl fl_121 (by decide) rfl (by decide) rfl ?_
            refine i_iload_n 31 rfl rfl ?_
            refine i_aald (τ := 0) (t := 11) (len := 3) (b := (8 + 1 + 4 * a2)) 32 rfl (by decide) rfl h.1.1 h.1.2 ?_
            replace h := h.2
            refine i_astore 33 rfl (by decide) (by decide) rfl ?_
            refine i_aload 34 rfl rfl (by decide) ?_
            refine i_getI (c := 1) (k := 0) 35 rfl fl_61 (by decide) (by decide) ?_
            replace h := h _ rfl
            refine i_istore 36 rfl (by decide) rfl ?_
            refine i_iconst 37 rfl (by decide) ?_
            refine i_istore 38 rfl (by decide) rfl ?_
            refine i_iconst 39 rfl (by decide) ?_
            refine i_istore 40 rfl (by decide) rfl ?_
            exact h
          · replace h := h.2 c
            refine i_aload_n 24 rfl rfl (by decide) ?_
            refine i_iconst 25 rfl (by decide) ?_
            refine i_callV (c := 10) (y1 := m_X10_tell) (z1 := (1, 0, 0)) (z2 := (5, 0, 0)) [(0, 5)] 26 rfl ml_400 ok_X10_tell vk_X10_tell ⟨by decide, rfl⟩ rfl ⟨rfl, Nat.le_of_ble_eq_true rfl⟩ (Nat.le_of_ble_eq_true rfl) ⟨by decide, rfl, rfl, rfl⟩ ?_
            refine h.mono (fun r zM12 h => ?_)
            obtain ⟨zr13, rfl, h⟩ := h
            simp only [Option.toList_some, Option.toList_none, List.cons_append, List.nil_append]
            exact i_ireturn 27 rfl rfl h
        · replace h := h.2 c
          refine i_aload_n 13 rfl rfl (by decide) ?_
          refine i_iconst 14 rfl (by decide) ?_
          refine i_callV (c := 10) (y1 := m_X10_tell) (z1 := (1, 0, 0)) (z2 := (5, 0, 0)) [(0, 0)] 15 rfl ml_400 ok_X10_tell vk_X10_tell ⟨by decide, rfl⟩ rfl ⟨rfl, Nat.le_of_ble_eq_true rfl⟩ (Nat.le_of_ble_eq_true rfl) ⟨by decide, rfl, rfl, rfl⟩ ?_
          refine h.mono (fun r zM14 h => ?_)
          obtain ⟨zr15, rfl, h⟩ := h
          simp only [Option.toList_some, Option.toList_none, List.cons_append, List.nil_append]
          exact i_ireturn 16 rfl rfl h
theorem u_X10_fits_74 {l : Launch} {E : xE} (l1 l2 l3 l4 l5 l6 l7 l8 : Int) {M : xM} {Q : Option xV → xM → Prop} (h : (7 ≤ l8 → ∀ zM1 : xM, zM1 = x_wr M l5 0 l6 → (¬ l3 = 0 → x_Ev l E (1, 0, 0) m_J6_bitCount_0f7a4 0 [(0, l7)] [] zM1 (fun r zM2 => ∃ zr3, r = some (0, zr3) ∧ Q (some (0, zr3)) zM2)) ∧ (l3 = 0 → Q (some (0, l7)) zM1)) ∧ (¬ 7 ≤ l8 → ∀ zM4 : xM, zM4 = x_wr M l5 0 l8 → ((0 : Int) ≤ l2 ∧ (l2 : Int) < 3) ∧ x_Ev l E (4, 0, 0) m_X10_answersAs 0 [(20, 5), (14, (41 + 8 + 9 * l2)), (9, l4), (5, 0)] [] zM4 (fun r zM5 => ∃ zr6, r = some (0, zr6) ∧ (zr6 = 0 → ∀ zv7 : Int, zv7 = x_w (l8 + 1) → x_Ev l E (5, 0, 0) m_X10_fits 74 [(20, 5), (0, l1), (0, l2), (0, l3), (9, l4), (11, l5), (0, l6), (0, l7), (0, zv7)] [] zM5 Q) ∧ (¬ zr6 = 0 → ∀ zv8 : Int, zv8 = (x_ior l7 (x_ishl 1 l8)) → ∀ zv9 : Int, zv9 = x_w (l8 + 1) → x_Ev l E (5, 0, 0) m_X10_fits 74 [(20, 5), (0, l1), (0, l2), (0, l3), (9, l4), (11, l5), (0, l6), (0, zv8), (0, zv9)] [] zM5 Q)))) : x_Ev l E (5, 0, 0) m_X10_fits 74 [(20, 5), (0, l1), (0, l2), (0, l3), (9, l4), (11, l5), (0, l6), (0, l7), (0, l8)] [] M Q := by
  refine i_iload 41 rfl rfl ?_
  refine i_bipush 42 rfl (by decide) ?_
  refine i_icmp_ge 121 43 rfl (by decide) (fun c => ?_) (fun c => ?_)
  · replace h := h.1 c
    refine i_aload 64 rfl rfl (by decide) ?_
    refine i_iload 65 rfl rfl ?_
    replace h := h _ rfl
    refine i_putI (c := 1) (k := 0) 66 rfl fl_61 (by decide) ⟨rfl, rfl, rfl⟩ ?_
    refine i_iload_n 67 rfl rfl ?_
    refine i_if_ne 137 68 rfl (by decide) (fun c => ?_) (fun c => ?_)
    · replace h := h.1 c
      refine i_iload 71 rfl rfl ?_
      refine i_callS (y1 := m_J6_bitCount_0f7a4) (z1 := (1, 0, 0)) (z2 := (5, 0, 0)) [(0, l7)] 72 rfl ml_916 ok_J6_bitCount_0f7a4 vk_J6_bitCount_0f7a4 rfl ⟨rfl, Nat.le_of_ble_eq_true rfl⟩ (Nat.le_of_ble_eq_true rfl) ⟨by decide, rfl, rfl, rfl⟩ ?_
      refine h.mono (fun r zM2 h => ?_)
      obtain ⟨zr3, rfl, h⟩ := h
      simp only [Option.toList_some, Option.toList_none, List.cons_append, List.nil_append]
      exact i_ireturn 73 rfl rfl h
    · replace h := h.2 c
      refine i_iload 69 rfl rfl ?_
      refine i_goto 142 70 rfl (by decide) ?_
      exact i_ireturn 73 rfl rfl h
  · replace h := h.2 c
    refine i_aload 44 rfl rfl (by decide) ?_
    refine i_iload 45 rfl rfl ?_
    replace h := h _ rfl
    refine i_putI (c := 1) (k := 0) 46 rfl fl_61 (by decide) ⟨rfl, rfl, rfl⟩ ?_
    refine i_aload_n 47 rfl rfl (by decide) ?_
    refine i_aload_n 48 rfl rfl (by decide) ?_
    refine i_getP (c := 10) (k := 3) (t := 13) (b := 40) 49 rfl fl_349 (by decide) rfl (by decide) rfl ?_
    refine i_getP (c := 3) (k := 1) (t := 106) (b := 41) 50 rfl fl_255 (by decide) rfl (by decide) rfl ?_
    refine i_iload_n 51 rfl rfl ?_
    refine i_aald (τ := 6) (t := 14) (len := 3) (b := (41 + 8 + 9 * l2)) 52 rfl (by decide) rfl h.1.1 h.1.2 ?_
    replace h := h.2
    refine i_aload 53 rfl rfl (by decide) ?_
    refine i_callV (c := 10) (y1 := m_X10_answersAs) (z1 := (4, 0, 0)) (z2 := (5, 0, 0)) [(14, (41 + 8 + 9 * l2)), (9, l4)] 54 rfl ml_905 ok_X10_answersAs vk_X10_answersAs ⟨by decide, rfl⟩ rfl ⟨rfl, Nat.le_of_ble_eq_true rfl⟩ (Nat.le_of_ble_eq_true rfl) ⟨by decide, rfl, rfl, rfl⟩ ?_
    refine h.mono (fun r zM5 h => ?_)
    obtain ⟨zr6, rfl, h⟩ := h
    simp only [Option.toList_some, Option.toList_none, List.cons_append, List.nil_append]
    refine i_if_eq 115 55 rfl (by decide) (fun c => ?_) (fun c => ?_)
    · replace h := h.1 c
      replace h := h _ rfl
      refine i_iinc 62 rfl rfl (by decide) rfl ?_
      refine i_goto 74 63 rfl (by decide) ?_
      exact h
    · replace h := h.2 c
      refine i_iload 56 rfl rfl ?_
      refine i_iconst 57 rfl (by decide) ?_
      refine i_iload 58 rfl rfl ?_
      refine i_ishl 59 rfl ?_
      refine i_ior 60 rfl ?_
      replace h := h _ rfl
      refine i_istore 61 rfl (by decide) rfl ?_
      replace h := h _ rfl
      refine i_iinc 62 rfl rfl (by decide) rfl ?_
      refine i_goto 74 63 rfl (by decide) ?_
      exact h
theorem u_X10_prove_0 {l : Launch} {E : xE} {M : xM} {Q : Option xV → xM → Prop} (h : x_Ev l E (5, 0, 0) m_X3_gatherBreaks 0 [(13, 40), (0, (-1)), (0, (M 6 1)), (5, 0)] [] M (fun r zM1 => r = none ∧ ∀ zM2 : xM, zM2 = x_wr zM1 5 12 (x_w ((zM1 42 0) + 1)) → x_Ev l E (6, 0, 0) m_X10_prove 33 [(20, 5), (0, 0)] [] zM2 Q)) : x_Ev l E (6, 0, 0) m_X10_prove 0 [(20, 5), (5, 0)] [] M Q := by
  refine i_aload_n 0 rfl rfl (by decide) ?_
  refine i_getP (c := 10) (k := 3) (t := 13) (b := 40) 1 rfl fl_349 (by decide) rfl (by decide) rfl ?_
  refine i_iconst 2 rfl (by decide) ?_
  refine i_aload_n 3 rfl rfl (by decide) ?_
  refine i_getP (c := 10) (k := 0) (t := 19) (b := 6) 4 rfl fl_346 (by decide) rfl (by decide) rfl ?_
  refine i_getI (c := 9) (k := 1) 5 rfl fl_109 (by decide) (by decide) ?_
  refine i_callV (c := 3) (y1 := m_X3_gatherBreaks) (z1 := (5, 0, 0)) (z2 := (6, 0, 0)) [(0, (-1)), (0, (M 6 1))] 6 rfl ml_746 ok_X3_gatherBreaks vk_X3_gatherBreaks ⟨by decide, rfl⟩ rfl ⟨rfl, Nat.le_of_ble_eq_true rfl⟩ (Nat.le_of_ble_eq_true rfl) ⟨by decide, rfl, rfl, rfl⟩ ?_
  refine h.mono (fun r zM1 h => ?_)
  obtain ⟨rfl, h⟩ := h
  simp only [Option.toList_some, Option.toList_none, List.cons_append, List.nil_append]
  refine i_aload_n 7 rfl rfl (by decide) ?_
  refine i_aload_n 8 rfl rfl (by decide) ?_
  refine i_getP (c := 10) (k := 3) (t := 13) (b := 40) 9 rfl fl_349 (by decide) rfl (by decide) rfl ?_
  refine i_getP (c := 3) (k := 2) (t := 10) (b := 42) 10 rfl fl_257 (by decide) rfl (by decide) rfl ?_
  refine i_getI (c := 0) (k := 0) 11 rfl fl_179 (by decide) (by decide) ?_
  refine i_iconst 12 rfl (by decide) ?_
  refine i_iadd 13 rfl ?_
  replace h := h _ rfl
  refine i_putI (c := 10) (k := 12) 14 rfl fl_358 (by decide) ⟨rfl, rfl, rfl⟩ ?_
  refine i_iconst 15 rfl (by decide) ?_
  refine i_istore_n 16 rfl (by decide) rfl ?_
  exact h
theorem u_X10_prove_33 {l : Launch} {E : xE} (l1 : Int) {M : xM} {Q : Option xV → xM → Prop} (h : ((M 5 12) ≤ l1 → Q (some (0, (M 5 12))) M) ∧ (¬ (M 5 12) ≤ l1 → x_Ev l E (5, 0, 0) m_X3_tellPiece 0 [(13, 40), (0, l1), (117, 100), (0, (x_w (l1 * 6)))] [] M (fun r zM1 => r = none ∧ ∀ zv2 : Int, zv2 = x_w (l1 + 1) → x_Ev l E (6, 0, 0) m_X10_prove 33 [(20, 5), (0, zv2)] [] zM1 Q))) : x_Ev l E (6, 0, 0) m_X10_prove 33 [(20, 5), (0, l1)] [] M Q := by
  refine i_iload_n 17 rfl rfl ?_
  refine i_aload_n 18 rfl rfl (by decide) ?_
  refine i_getI (c := 10) (k := 12) 19 rfl fl_358 (by decide) (by decide) ?_
  refine i_icmp_ge 63 20 rfl (by decide) (fun c => ?_) (fun c => ?_)
  · replace h := h.1 c
    refine i_aload_n 32 rfl rfl (by decide) ?_
    refine i_getI (c := 10) (k := 12) 33 rfl fl_358 (by decide) (by decide) ?_
    exact i_ireturn 34 rfl rfl h
  · replace h := h.2 c
    refine i_aload_n 21 rfl rfl (by decide) ?_
    refine i_getP (c := 10) (k := 3) (t := 13) (b := 40) 22 rfl fl_349 (by decide) rfl (by decide) rfl ?_
    refine i_iload_n 23 rfl rfl ?_
    refine i_aload_n 24 rfl rfl (by decide) ?_
    refine i_getP (c := 10) (k := 11) (t := 117) (b := 100) 25 rfl fl_357 (by decide) rfl (by decide) rfl ?_
    refine i_iload_n 26 rfl rfl ?_
    refine i_bipush 27 rfl (by decide) ?_
    refine i_imul 28 rfl ?_
    refine i_callV (c := 3) (y1 := m_X3_tellPiece) (z1 := (5, 0, 0)) (z2 := (6, 0, 0)) [(0, l1), (117, 100), (0, (x_w (l1 * 6)))] 29 rfl ml_787 ok_X3_tellPiece vk_X3_tellPiece ⟨by decide, rfl⟩ rfl ⟨rfl, Nat.le_of_ble_eq_true rfl⟩ (Nat.le_of_ble_eq_true rfl) ⟨by decide, rfl, rfl, rfl⟩ ?_
    refine h.mono (fun r zM1 h => ?_)
    obtain ⟨rfl, h⟩ := h
    simp only [Option.toList_some, Option.toList_none, List.cons_append, List.nil_append]
    replace h := h _ rfl
    refine i_iinc 30 rfl rfl (by decide) rfl ?_
    refine i_goto 33 31 rfl (by decide) ?_
    exact h
theorem u_X10_row_0 {l : Launch} {E : xE} (a1 a2 : Int) {M : xM} {Q : Option xV → xM → Prop} (h : x_Ev l E (1, 0, 0) m_X10_isNoPieceNumber 0 [(20, 5), (0, a1), (0, a2)] [] M (fun r zM1 => ∃ zr2, r = some (0, zr2) ∧ (zr2 = 0 → ((0 : Int) ≤ (x_w ((x_w (a1 * 6)) + a2)) ∧ ((x_w ((x_w (a1 * 6)) + a2)) : Int) < 168) ∧ Q (some (1, (zM1 100 (x_w ((x_w (a1 * 6)) + a2))))) zM1) ∧ (¬ zr2 = 0 → x_Ev l E (1, 0, 0) m_X10_tellLong 0 [(20, 5), (0, 0)] [] zM1 (fun r zM3 => ∃ zr4, r = some (1, zr4) ∧ Q (some (1, zr4)) zM3)))) : x_Ev l E (2, 0, 0) m_X10_row 0 [(20, 5), (0, a1), (0, a2)] [] M Q := by
  refine i_aload_n 0 rfl rfl (by decide) ?_
  refine i_iload_n 1 rfl rfl ?_
  refine i_iload_n 2 rfl rfl ?_
  refine i_callV (c := 10) (y1 := m_X10_isNoPieceNumber) (z1 := (1, 0, 0)) (z2 := (2, 0, 0)) [(0, a1), (0, a2)] 3 rfl ml_925 ok_X10_isNoPieceNumber vk_X10_isNoPieceNumber ⟨by decide, rfl⟩ rfl ⟨rfl, Nat.le_of_ble_eq_true rfl⟩ (Nat.le_of_ble_eq_true rfl) ⟨by decide, rfl, rfl, rfl⟩ ?_
  refine h.mono (fun r zM1 h => ?_)
  obtain ⟨zr2, rfl, h⟩ := h
  simp only [Option.toList_some, Option.toList_none, List.cons_append, List.nil_append]
  refine i_if_eq 15 4 rfl (by decide) (fun c => ?_) (fun c => ?_)
  · replace h := h.1 c
    refine i_aload_n 9 rfl rfl (by decide) ?_
    refine i_getP (c := 10) (k := 11) (t := 117) (b := 100) 10 rfl fl_357 (by decide) rfl (by decide) rfl ?_
    refine i_iload_n 11 rfl rfl ?_
    refine i_bipush 12 rfl (by decide) ?_
    refine i_imul 13 rfl ?_
    refine i_iload_n 14 rfl rfl ?_
    refine i_iadd 15 rfl ?_
    refine i_lald (τ := 17) 16 rfl ⟨rfl, rfl, rfl, by decide⟩ h.1.1 h.1.2 ?_
    replace h := h.2
    exact i_lreturn 17 rfl rfl h
  · replace h := h.2 c
    refine i_aload_n 5 rfl rfl (by decide) ?_
    refine i_iconst 6 rfl (by decide) ?_
    refine i_callV (c := 10) (y1 := m_X10_tellLong) (z1 := (1, 0, 0)) (z2 := (2, 0, 0)) [(0, 0)] 7 rfl ml_607 ok_X10_tellLong vk_X10_tellLong ⟨by decide, rfl⟩ rfl ⟨rfl, Nat.le_of_ble_eq_true rfl⟩ (Nat.le_of_ble_eq_true rfl) ⟨by decide, rfl, rfl, rfl⟩ ?_
    refine h.mono (fun r zM3 h => ?_)
    obtain ⟨zr4, rfl, h⟩ := h
    simp only [Option.toList_some, Option.toList_none, List.cons_append, List.nil_append]
    exact i_lreturn 8 rfl rfl h
theorem u_X10_alter_0 {l : Launch} {E : xE} (a1 a2 a3 : Int) {M : xM} {Q : Option xV → xM → Prop} (h : x_Ev l E (1, 0, 0) m_X10_isNoPieceNumber 0 [(20, 5), (0, a1), (0, a2)] [] M (fun r zM1 => ∃ zr2, r = some (0, zr2) ∧ (zr2 = 0 → ((0 : Int) ≤ (x_w ((x_w (a1 * 6)) + a2)) ∧ ((x_w ((x_w (a1 * 6)) + a2)) : Int) < 168) ∧ ∀ zv3 : Int, zv3 = (zM1 100 (x_w ((x_w (a1 * 6)) + a2))) → (0 ≤ (x_w ((x_w (a1 * 6)) + a2)) ∧ (x_w ((x_w (a1 * 6)) + a2)) < 168) ∧ ∀ zM4 : xM, zM4 = x_wr zM1 100 (x_w ((x_w (a1 * 6)) + a2)) a3 → Q (some (1, zv3)) zM4) ∧ (¬ zr2 = 0 → x_Ev l E (1, 0, 0) m_X10_tellLong 0 [(20, 5), (0, 0)] [] zM1 (fun r zM5 => ∃ zr6, r = some (1, zr6) ∧ Q (some (1, zr6)) zM5)))) : x_Ev l E (2, 0, 0) m_X10_alter 0 [(20, 5), (0, a1), (0, a2), (1, a3), (5, 0), (5, 0), (5, 0)] [] M Q := by
  refine i_aload_n 0 rfl rfl (by decide) ?_
  refine i_iload_n 1 rfl rfl ?_
  refine i_iload_n 2 rfl rfl ?_
  refine i_callV (c := 10) (y1 := m_X10_isNoPieceNumber) (z1 := (1, 0, 0)) (z2 := (2, 0, 0)) [(0, a1), (0, a2)] 3 rfl ml_925 ok_X10_isNoPieceNumber vk_X10_isNoPieceNumber ⟨by decide, rfl⟩ rfl ⟨rfl, Nat.le_of_ble_eq_true rfl⟩ (Nat.le_of_ble_eq_true rfl) ⟨by decide, rfl, rfl, rfl⟩ ?_
  refine h.mono (fun r zM1 h => ?_)
  obtain ⟨zr2, rfl, h⟩ := h
  simp only [Option.toList_some, Option.toList_none, List.cons_append, List.nil_append]
  refine i_if_eq 15 4 rfl (by decide) (fun c => ?_) (fun c => ?_)
  · replace h := h.1 c
    refine i_aload_n 9 rfl rfl (by decide) ?_
    refine i_getP (c := 10) (k := 11) (t := 117) (b := 100) 10 rfl fl_357 (by decide) rfl (by decide) rfl ?_
    refine i_iload_n 11 rfl rfl ?_
    refine i_bipush 12 rfl (by decide) ?_
    refine i_imul 13 rfl ?_
    refine i_iload_n 14 rfl rfl ?_
    refine i_iadd 15 rfl ?_
    refine i_lald (τ := 17) 16 rfl ⟨rfl, rfl, rfl, by decide⟩ h.1.1 h.1.2 ?_
    replace h := h.2
    replace h := h _ rfl
    refine i_lstore 17 rfl (by decide) rfl ?_
    refine i_aload_n 18 rfl rfl (by decide) ?_
    refine i_getP (c := 10) (k := 11) (t := 117) (b := 100) 19 rfl fl_357 (by decide) rfl (by decide) rfl ?_
    refine i_iload_n 20 rfl rfl ?_
    refine i_bipush 21 rfl (by decide) ?_
    refine i_imul 22 rfl ?_
    refine i_iload_n 23 rfl rfl ?_
    refine i_iadd 24 rfl ?_
    refine i_lload_n 25 rfl rfl ?_
    have hb := h.1
    replace h := h.2 _ rfl
    refine i_last (τ := 17) 26 rfl ⟨rfl, rfl, rfl, by decide⟩ hb.1 hb.2 ?_
    refine i_lload 27 rfl rfl ?_
    exact i_lreturn 28 rfl rfl h
  · replace h := h.2 c
    refine i_aload_n 5 rfl rfl (by decide) ?_
    refine i_iconst 6 rfl (by decide) ?_
    refine i_callV (c := 10) (y1 := m_X10_tellLong) (z1 := (1, 0, 0)) (z2 := (2, 0, 0)) [(0, 0)] 7 rfl ml_607 ok_X10_tellLong vk_X10_tellLong ⟨by decide, rfl⟩ rfl ⟨rfl, Nat.le_of_ble_eq_true rfl⟩ (Nat.le_of_ble_eq_true rfl) ⟨by decide, rfl, rfl, rfl⟩ ?_
    refine h.mono (fun r zM5 h => ?_)
    obtain ⟨zr6, rfl, h⟩ := h
    simp only [Option.toList_some, Option.toList_none, List.cons_append, List.nil_append]
    exact i_lreturn 8 rfl rfl h
theorem u_X10_judge_0 {l : Launch} {E : xE} {M : xM} {Q : Option xV → xM → Prop} (h : x_Ev l E (5, 0, 0) m_X3_gatherBreaks 0 [(13, 40), (0, (-1)), (0, (M 6 1)), (5, 0)] [] M (fun r zM1 => r = none ∧ ∀ zv2 : Int, zv2 = (x_w ((zM1 42 0) + 1)) → x_Ev l E (1, 0, 0) m_J9_min_7cf53 0 [(0, zv2), (0, (zM1 5 12))] [] zM1 (fun r zM3 => ∃ zr4, r = some (0, zr4) ∧ x_Ev l E (6, 0, 0) m_X10_judge 39 [(20, 5), (0, zv2), (0, zr4), (0, 0), (5, 0)] [] zM3 Q))) : x_Ev l E (6, 0, 0) m_X10_judge 0 [(20, 5), (5, 0), (5, 0), (5, 0), (5, 0)] [] M Q := by
  refine i_aload_n 0 rfl rfl (by decide) ?_
  refine i_getP (c := 10) (k := 3) (t := 13) (b := 40) 1 rfl fl_349 (by decide) rfl (by decide) rfl ?_
  refine i_iconst 2 rfl (by decide) ?_
  refine i_aload_n 3 rfl rfl (by decide) ?_
  refine i_getP (c := 10) (k := 0) (t := 19) (b := 6) 4 rfl fl_346 (by decide) rfl (by decide) rfl ?_
  refine i_getI (c := 9) (k := 1) 5 rfl fl_109 (by decide) (by decide) ?_
  refine i_callV (c := 3) (y1 := m_X3_gatherBreaks) (z1 := (5, 0, 0)) (z2 := (6, 0, 0)) [(0, (-1)), (0, (M 6 1))] 6 rfl ml_746 ok_X3_gatherBreaks vk_X3_gatherBreaks ⟨by decide, rfl⟩ rfl ⟨rfl, Nat.le_of_ble_eq_true rfl⟩ (Nat.le_of_ble_eq_true rfl) ⟨by decide, rfl, rfl, rfl⟩ ?_
  refine h.mono (fun r zM1 h => ?_)
  obtain ⟨rfl, h⟩ := h
  simp only [Option.toList_some, Option.toList_none, List.cons_append, List.nil_append]
  refine i_aload_n 7 rfl rfl (by decide) ?_
  refine i_getP (c := 10) (k := 3) (t := 13) (b := 40) 8 rfl fl_349 (by decide) rfl (by decide) rfl ?_
  refine i_getP (c := 3) (k := 2) (t := 10) (b := 42) 9 rfl fl_257 (by decide) rfl (by decide) rfl ?_
  refine i_getI (c := 0) (k := 0) 10 rfl fl_179 (by decide) (by decide) ?_
  refine i_iconst 11 rfl (by decide) ?_
  refine i_iadd 12 rfl ?_
  replace h := h _ rfl
  refine i_istore_n 13 rfl (by decide) rfl ?_
  refine i_iload_n 14 rfl rfl ?_
  refine i_aload_n 15 rfl rfl (by decide) ?_
  refine i_getI (c := 10) (k := 12) 16 rfl fl_358 (by decide) (by decide) ?_
  refine i_callS (y1 := m_J9_min_7cf53) (z1 := (1, 0, 0)) (z2 := (6, 0, 0)) [(0, ((x_w ((zM1 42 0) + 1)))), (0, (zM1 5 12))] 17 rfl ml_937 ok_J9_min_7cf53 vk_J9_min_7cf53 rfl ⟨rfl, Nat.le_of_ble_eq_true rfl⟩ (Nat.le_of_ble_eq_true rfl) ⟨by decide, rfl, rfl, rfl⟩ ?_
  refine h.mono (fun r zM3 h => ?_)
  obtain ⟨zr4, rfl, h⟩ := h
  simp only [Option.toList_some, Option.toList_none, List.cons_append, List.nil_append]
  refine i_istore_n 18 rfl (by decide) rfl ?_
  refine i_iconst 19 rfl (by decide) ?_
  refine i_istore_n 20 rfl (by decide) rfl ?_
  exact h
theorem u_X10_judge_39 {l : Launch} {E : xE} (l1 l2 l3 : Int) {M : xM} {Q : Option xV → xM → Prop} (h : (l2 ≤ l3 → (¬ l1 = (M 5 12) → Q (some (0, (x_w (1 + l2)))) M) ∧ (l1 = (M 5 12) → Q (some (0, 0)) M)) ∧ (¬ l2 ≤ l3 → x_Ev l E (5, 0, 0) m_X3_tellPiece 0 [(13, 40), (0, l3), (118, 101), (0, 0)] [] M (fun r zM1 => r = none ∧ x_Ev l E (6, 0, 0) m_X10_judge 60 [(20, 5), (0, l1), (0, l2), (0, l3), (0, 0)] [] zM1 Q))) : x_Ev l E (6, 0, 0) m_X10_judge 39 [(20, 5), (0, l1), (0, l2), (0, l3), (5, 0)] [] M Q := by
  refine i_iload_n 21 rfl rfl ?_
  refine i_iload_n 22 rfl rfl ?_
  refine i_icmp_ge 106 23 rfl (by decide) (fun c => ?_) (fun c => ?_)
  · replace h := h.1 c
    refine i_iload_n 58 rfl rfl ?_
    refine i_aload_n 59 rfl rfl (by decide) ?_
    refine i_getI (c := 10) (k := 12) 60 rfl fl_358 (by decide) (by decide) ?_
    refine i_icmp_ne 118 61 rfl (by decide) (fun c => ?_) (fun c => ?_)
    · replace h := h.1 c
      refine i_iconst 64 rfl (by decide) ?_
      refine i_iload_n 65 rfl rfl ?_
      refine i_iadd 66 rfl ?_
      exact i_ireturn 67 rfl rfl h
    · replace h := h.2 c
      refine i_iconst 62 rfl (by decide) ?_
      refine i_goto 121 63 rfl (by decide) ?_
      exact i_ireturn 67 rfl rfl h
  · replace h := h.2 c
    refine i_aload_n 24 rfl rfl (by decide) ?_
    refine i_getP (c := 10) (k := 3) (t := 13) (b := 40) 25 rfl fl_349 (by decide) rfl (by decide) rfl ?_
    refine i_iload_n 26 rfl rfl ?_
    refine i_aload_n 27 rfl rfl (by decide) ?_
    refine i_getP (c := 10) (k := 13) (t := 118) (b := 101) 28 rfl fl_359 (by decide) rfl (by decide) rfl ?_
    refine i_iconst 29 rfl (by decide) ?_
    refine i_callV (c := 3) (y1 := m_X3_tellPiece) (z1 := (5, 0, 0)) (z2 := (6, 0, 0)) [(0, l3), (118, 101), (0, 0)] 30 rfl ml_787 ok_X3_tellPiece vk_X3_tellPiece ⟨by decide, rfl⟩ rfl ⟨rfl, Nat.le_of_ble_eq_true rfl⟩ (Nat.le_of_ble_eq_true rfl) ⟨by decide, rfl, rfl, rfl⟩ ?_
    refine h.mono (fun r zM1 h => ?_)
    obtain ⟨rfl, h⟩ := h
    simp only [Option.toList_some, Option.toList_none, List.cons_append, List.nil_append]
    refine i_iconst 31 rfl (by decide) ?_
    refine i_istore 32 rfl (by decide) rfl ?_
    exact h
theorem u_X10_judge_60 {l : Launch} {E : xE} (l1 l2 l3 l4 : Int) {M : xM} {Q : Option xV → xM → Prop} (h : (6 ≤ l4 → ∀ zv1 : Int, zv1 = x_w (l3 + 1) → x_Ev l E (6, 0, 0) m_X10_judge 39 [(20, 5), (0, l1), (0, l2), (0, zv1), (5, 0)] [] M Q) ∧ (¬ 6 ≤ l4 → ((0 : Int) ≤ l4 ∧ (l4 : Int) < 6) ∧ ((0 : Int) ≤ (x_w ((x_w (l3 * 6)) + l4)) ∧ ((x_w ((x_w (l3 * 6)) + l4)) : Int) < 168) ∧ ((M 101 l4) = (M 100 (x_w ((x_w (l3 * 6)) + l4))) → ∀ zv2 : Int, zv2 = x_w (l4 + 1) → x_Ev l E (6, 0, 0) m_X10_judge 60 [(20, 5), (0, l1), (0, l2), (0, l3), (0, zv2)] [] M Q) ∧ (¬ (M 101 l4) = (M 100 (x_w ((x_w (l3 * 6)) + l4))) → Q (some (0, (x_w (1 + l3)))) M))) : x_Ev l E (6, 0, 0) m_X10_judge 60 [(20, 5), (0, l1), (0, l2), (0, l3), (0, l4)] [] M Q := by
  refine i_iload 33 rfl rfl ?_
  refine i_bipush 34 rfl (by decide) ?_
  refine i_icmp_ge 100 35 rfl (by decide) (fun c => ?_) (fun c => ?_)
  · replace h := h.1 c
    replace h := h _ rfl
    refine i_iinc 56 rfl rfl (by decide) rfl ?_
    refine i_goto 39 57 rfl (by decide) ?_
    refine i_weak ?_ h
    exact (And.intro (Or.inr rfl) (And.intro (Or.inr rfl) (And.intro (Or.inr rfl) (And.intro (Or.inr rfl) (And.intro (Or.inl rfl) trivial)))))
  · replace h := h.2 c
    refine i_aload_n 36 rfl rfl (by decide) ?_
    refine i_getP (c := 10) (k := 13) (t := 118) (b := 101) 37 rfl fl_359 (by decide) rfl (by decide) rfl ?_
    refine i_iload 38 rfl rfl ?_
    refine i_lald (τ := 18) 39 rfl ⟨rfl, rfl, rfl, by decide⟩ h.1.1 h.1.2 ?_
    replace h := h.2
    refine i_aload_n 40 rfl rfl (by decide) ?_
    refine i_getP (c := 10) (k := 11) (t := 117) (b := 100) 41 rfl fl_357 (by decide) rfl (by decide) rfl ?_
    refine i_iload_n 42 rfl rfl ?_
    refine i_bipush 43 rfl (by decide) ?_
    refine i_imul 44 rfl ?_
    refine i_iload 45 rfl rfl ?_
    refine i_iadd 46 rfl ?_
    refine i_lald (τ := 17) 47 rfl ⟨rfl, rfl, rfl, by decide⟩ h.1.1 h.1.2 ?_
    replace h := h.2
    refine i_lcmp_eq 94 48 rfl rfl (by decide) (fun c => ?_) (fun c => ?_)
    · replace h := h.1 c
      replace h := h _ rfl
      refine i_iinc 54 rfl rfl (by decide) rfl ?_
      refine i_goto 60 55 rfl (by decide) ?_
      exact h
    · replace h := h.2 c
      refine i_iconst 50 rfl (by decide) ?_
      refine i_iload_n 51 rfl rfl ?_
      refine i_iadd 52 rfl ?_
      exact i_ireturn 53 rfl rfl h
theorem u_X10_write_0 {l : Launch} {E : xE} (a1 a2 a3 : Int) {M : xM} {Q : Option xV → xM → Prop} (h : x_Ev l E (1, 0, 0) m_X10_isNoSheet 0 [(20, 5), (0, a1)] [] M (fun r zM1 => ∃ zr2, r = some (0, zr2) ∧ (zr2 = 0 → ((0 : Int) ≤ a1 ∧ (a1 : Int) < 4) ∧ (¬ (zM1 88 a1) < 0 → (0 ≤ (zM1 88 a1)) ∧ x_Ev l E (1, 0, 0) m_X6_lacks 0 [(9, (zM1 88 a1)), (0, a2)] [] zM1 (fun r zM3 => ∃ zr4, r = some (0, zr4) ∧ (zr4 = 0 → (0 ≤ (zM1 88 a1)) ∧ x_Ev l E (1, 0, 0) m_X6_put 0 [(9, (zM1 88 a1)), (0, a2), (1, a3), (5, 0)] [] zM3 (fun r zM5 => r = none ∧ Q (some (0, 1)) zM5)) ∧ (¬ zr4 = 0 → x_Ev l E (1, 0, 0) m_X10_tell 0 [(20, 5), (0, 0)] [] zM3 (fun r zM6 => ∃ zr7, r = some (0, zr7) ∧ Q (some (0, zr7)) zM6)))) ∧ ((zM1 88 a1) < 0 → x_Ev l E (1, 0, 0) m_X10_tell 0 [(20, 5), (0, 5)] [] zM1 (fun r zM8 => ∃ zr9, r = some (0, zr9) ∧ Q (some (0, zr9)) zM8))) ∧ (¬ zr2 = 0 → x_Ev l E (1, 0, 0) m_X10_tell 0 [(20, 5), (0, 0)] [] zM1 (fun r zM10 => ∃ zr11, r = some (0, zr11) ∧ Q (some (0, zr11)) zM10)))) : x_Ev l E (2, 0, 0) m_X10_write 0 [(20, 5), (0, a1), (0, a2), (1, a3), (5, 0), (5, 0)] [] M Q := by
  refine i_aload_n 0 rfl rfl (by decide) ?_
  refine i_iload_n 1 rfl rfl ?_
  refine i_callV (c := 10) (y1 := m_X10_isNoSheet) (z1 := (1, 0, 0)) (z2 := (2, 0, 0)) [(0, a1)] 2 rfl ml_715 ok_X10_isNoSheet vk_X10_isNoSheet ⟨by decide, rfl⟩ rfl ⟨rfl, Nat.le_of_ble_eq_true rfl⟩ (Nat.le_of_ble_eq_true rfl) ⟨by decide, rfl, rfl, rfl⟩ ?_
  refine h.mono (fun r zM1 h => ?_)
  obtain ⟨zr2, rfl, h⟩ := h
  simp only [Option.toList_some, Option.toList_none, List.cons_append, List.nil_append]
  refine i_if_eq 14 3 rfl (by decide) (fun c => ?_) (fun c => ?_)
  · replace h := h.1 c
    refine i_aload_n 8 rfl rfl (by decide) ?_
    refine i_getP (c := 10) (k := 9) (t := 115) (b := 88) 9 rfl fl_355 (by decide) rfl (by decide) rfl ?_
    refine i_iload_n 10 rfl rfl ?_
    refine i_aaldR 11 rfl h.1.1 h.1.2 ?_
    replace h := h.2
    refine i_astore 12 rfl (by decide) (by decide) rfl ?_
    refine i_aload 13 rfl rfl (by decide) ?_
    refine i_ifnonnull 33 14 rfl (by decide) (by decide) (fun c => ?_) (fun c => ?_)
    · replace h := h.1 c
      refine i_aload 19 rfl rfl (by decide) ?_
      refine i_iload_n 20 rfl rfl ?_
      have hb := h.1
      replace h := h.2
      refine i_callR (y1 := m_X6_lacks) (z1 := (1, 0, 0)) (z2 := (2, 0, 0)) [(0, a2)] 21 rfl ml_965 ok_X6_lacks vk_X6_lacks rfl hb rfl ⟨rfl, Nat.le_of_ble_eq_true rfl⟩ (Nat.le_of_ble_eq_true rfl) ⟨by decide, rfl, rfl, rfl⟩ ?_
      refine h.mono (fun r zM3 h => ?_)
      obtain ⟨zr4, rfl, h⟩ := h
      simp only [Option.toList_some, Option.toList_none, List.cons_append, List.nil_append]
      refine i_if_eq 48 22 rfl (by decide) (fun c => ?_) (fun c => ?_)
      · replace h := h.1 c
        refine i_aload 27 rfl rfl (by decide) ?_
        refine i_iload_n 28 rfl rfl ?_
        refine i_lload_n 29 rfl rfl ?_
        have hb := h.1
        replace h := h.2
        refine i_callR (y1 := m_X6_put) (z1 := (1, 0, 0)) (z2 := (2, 0, 0)) [(0, a2), (1, a3)] 30 rfl ml_969 ok_X6_put vk_X6_put rfl hb rfl ⟨rfl, Nat.le_of_ble_eq_true rfl⟩ (Nat.le_of_ble_eq_true rfl) ⟨by decide, rfl, rfl, rfl⟩ ?_
        refine h.mono (fun r zM5 h => ?_)
        obtain ⟨rfl, h⟩ := h
        simp only [Option.toList_some, Option.toList_none, List.cons_append, List.nil_append]
        refine i_iconst 31 rfl (by decide) ?_
        exact i_ireturn 32 rfl rfl h
      · replace h := h.2 c
        refine i_aload_n 23 rfl rfl (by decide) ?_
        refine i_iconst 24 rfl (by decide) ?_
        refine i_callV (c := 10) (y1 := m_X10_tell) (z1 := (1, 0, 0)) (z2 := (2, 0, 0)) [(0, 0)] 25 rfl ml_400 ok_X10_tell vk_X10_tell ⟨by decide, rfl⟩ rfl ⟨rfl, Nat.le_of_ble_eq_true rfl⟩ (Nat.le_of_ble_eq_true rfl) ⟨by decide, rfl, rfl, rfl⟩ ?_
        refine h.mono (fun r zM6 h => ?_)
        obtain ⟨zr7, rfl, h⟩ := h
        simp only [Option.toList_some, Option.toList_none, List.cons_append, List.nil_append]
        exact i_ireturn 26 rfl rfl h
    · replace h := h.2 c
      refine i_aload_n 15 rfl rfl (by decide) ?_
      refine i_iconst 16 rfl (by decide) ?_
      refine i_callV (c := 10) (y1 := m_X10_tell) (z1 := (1, 0, 0)) (z2 := (2, 0, 0)) [(0, 5)] 17 rfl ml_400 ok_X10_tell vk_X10_tell ⟨by decide, rfl⟩ rfl ⟨rfl, Nat.le_of_ble_eq_true rfl⟩ (Nat.le_of_ble_eq_true rfl) ⟨by decide, rfl, rfl, rfl⟩ ?_
      refine h.mono (fun r zM8 h => ?_)
      obtain ⟨zr9, rfl, h⟩ := h
      simp only [Option.toList_some, Option.toList_none, List.cons_append, List.nil_append]
      exact i_ireturn 18 rfl rfl h
  · replace h := h.2 c
    refine i_aload_n 4 rfl rfl (by decide) ?_
    refine i_iconst 5 rfl (by decide) ?_
    refine i_callV (c := 10) (y1 := m_X10_tell) (z1 := (1, 0, 0)) (z2 := (2, 0, 0)) [(0, 0)] 6 rfl ml_400 ok_X10_tell vk_X10_tell ⟨by decide, rfl⟩ rfl ⟨rfl, Nat.le_of_ble_eq_true rfl⟩ (Nat.le_of_ble_eq_true rfl) ⟨by decide, rfl, rfl, rfl⟩ ?_
    refine h.mono (fun r zM10 h => ?_)
    obtain ⟨zr11, rfl, h⟩ := h
    simp only [Option.toList_some, Option.toList_none, List.cons_append, List.nil_append]
    exact i_ireturn 7 rfl rfl h
theorem u_X10_item_0 {l : Launch} {E : xE} (a1 a2 : Int) {M : xM} {Q : Option xV → xM → Prop} (h : x_Ev l E (1, 0, 0) m_X10_isNoSheet 0 [(20, 5), (0, a1)] [] M (fun r zM1 => ∃ zr2, r = some (0, zr2) ∧ (zr2 = 0 → ((0 : Int) ≤ a1 ∧ (a1 : Int) < 4) ∧ (¬ (zM1 88 a1) < 0 → (0 ≤ (zM1 88 a1)) ∧ x_Ev l E (1, 0, 0) m_X6_lacks 0 [(9, (zM1 88 a1)), (0, a2)] [] zM1 (fun r zM3 => ∃ zr4, r = some (0, zr4) ∧ (zr4 = 0 → (0 ≤ (zM1 88 a1)) ∧ ((0 : Int) ≤ a2 ∧ (a2 : Int) < zM3 (((zM1 88 a1) + 1) - 1) 1) ∧ Q (some (1, (zM3 ((zM1 88 a1) + 1) a2))) zM3) ∧ (¬ zr4 = 0 → x_Ev l E (1, 0, 0) m_X10_tellLong 0 [(20, 5), (0, 0)] [] zM3 (fun r zM5 => ∃ zr6, r = some (1, zr6) ∧ Q (some (1, zr6)) zM5)))) ∧ ((zM1 88 a1) < 0 → x_Ev l E (1, 0, 0) m_X10_tellLong 0 [(20, 5), (0, 5)] [] zM1 (fun r zM7 => ∃ zr8, r = some (1, zr8) ∧ Q (some (1, zr8)) zM7))) ∧ (¬ zr2 = 0 → x_Ev l E (1, 0, 0) m_X10_tellLong 0 [(20, 5), (0, 0)] [] zM1 (fun r zM9 => ∃ zr10, r = some (1, zr10) ∧ Q (some (1, zr10)) zM9)))) : x_Ev l E (2, 0, 0) m_X10_item 0 [(20, 5), (0, a1), (0, a2), (5, 0)] [] M Q := by
  refine i_aload_n 0 rfl rfl (by decide) ?_
  refine i_iload_n 1 rfl rfl ?_
  refine i_callV (c := 10) (y1 := m_X10_isNoSheet) (z1 := (1, 0, 0)) (z2 := (2, 0, 0)) [(0, a1)] 2 rfl ml_715 ok_X10_isNoSheet vk_X10_isNoSheet ⟨by decide, rfl⟩ rfl ⟨rfl, Nat.le_of_ble_eq_true rfl⟩ (Nat.le_of_ble_eq_true rfl) ⟨by decide, rfl, rfl, rfl⟩ ?_
  refine h.mono (fun r zM1 h => ?_)
  obtain ⟨zr2, rfl, h⟩ := h
  simp only [Option.toList_some, Option.toList_none, List.cons_append, List.nil_append]
  refine i_if_eq 14 3 rfl (by decide) (fun c => ?_) (fun c => ?_)
  · replace h := h.1 c
    refine i_aload_n 8 rfl rfl (by decide) ?_
    refine i_getP (c := 10) (k := 9) (t := 115) (b := 88) 9 rfl fl_355 (by decide) rfl (by decide) rfl ?_
    refine i_iload_n 10 rfl rfl ?_
    refine i_aaldR 11 rfl h.1.1 h.1.2 ?_
    replace h := h.2
    refine i_astore_n 12 rfl (by decide) (by decide) rfl ?_
    refine i_aload_n 13 rfl rfl (by decide) ?_
    refine i_ifnonnull 31 14 rfl (by decide) (by decide) (fun c => ?_) (fun c => ?_)
    · replace h := h.1 c
      refine i_aload_n 19 rfl rfl (by decide) ?_
      refine i_iload_n 20 rfl rfl ?_
      have hb := h.1
      replace h := h.2
      refine i_callR (y1 := m_X6_lacks) (z1 := (1, 0, 0)) (z2 := (2, 0, 0)) [(0, a2)] 21 rfl ml_965 ok_X6_lacks vk_X6_lacks rfl hb rfl ⟨rfl, Nat.le_of_ble_eq_true rfl⟩ (Nat.le_of_ble_eq_true rfl) ⟨by decide, rfl, rfl, rfl⟩ ?_
      refine h.mono (fun r zM3 h => ?_)
      obtain ⟨zr4, rfl, h⟩ := h
      simp only [Option.toList_some, Option.toList_none, List.cons_append, List.nil_append]
      refine i_if_eq 45 22 rfl (by decide) (fun c => ?_) (fun c => ?_)
      · replace h := h.1 c
        refine i_aload_n 27 rfl rfl (by decide) ?_
        refine i_rowP 28 rfl fl_955 h.1 ?_
        replace h := h.2
        refine i_iload_n 29 rfl rfl ?_
        refine i_laldR 30 rfl h.1.1 h.1.2 ?_
        replace h := h.2
        exact i_lreturn 31 rfl rfl h
      · replace h := h.2 c
        refine i_aload_n 23 rfl rfl (by decide) ?_
        refine i_iconst 24 rfl (by decide) ?_
        refine i_callV (c := 10) (y1 := m_X10_tellLong) (z1 := (1, 0, 0)) (z2 := (2, 0, 0)) [(0, 0)] 25 rfl ml_607 ok_X10_tellLong vk_X10_tellLong ⟨by decide, rfl⟩ rfl ⟨rfl, Nat.le_of_ble_eq_true rfl⟩ (Nat.le_of_ble_eq_true rfl) ⟨by decide, rfl, rfl, rfl⟩ ?_
        refine h.mono (fun r zM5 h => ?_)
        obtain ⟨zr6, rfl, h⟩ := h
        simp only [Option.toList_some, Option.toList_none, List.cons_append, List.nil_append]
        exact i_lreturn 26 rfl rfl h
    · replace h := h.2 c
      refine i_aload_n 15 rfl rfl (by decide) ?_
      refine i_iconst 16 rfl (by decide) ?_
      refine i_callV (c := 10) (y1 := m_X10_tellLong) (z1 := (1, 0, 0)) (z2 := (2, 0, 0)) [(0, 5)] 17 rfl ml_607 ok_X10_tellLong vk_X10_tellLong ⟨by decide, rfl⟩ rfl ⟨rfl, Nat.le_of_ble_eq_true rfl⟩ (Nat.le_of_ble_eq_true rfl) ⟨by decide, rfl, rfl, rfl⟩ ?_
      refine h.mono (fun r zM7 h => ?_)
      obtain ⟨zr8, rfl, h⟩ := h
      simp only [Option.toList_some, Option.toList_none, List.cons_append, List.nil_append]
      exact i_lreturn 18 rfl rfl h
  · replace h := h.2 c
    refine i_aload_n 4 rfl rfl (by decide) ?_
    refine i_iconst 5 rfl (by decide) ?_
    refine i_callV (c := 10) (y1 := m_X10_tellLong) (z1 := (1, 0, 0)) (z2 := (2, 0, 0)) [(0, 0)] 6 rfl ml_607 ok_X10_tellLong vk_X10_tellLong ⟨by decide, rfl⟩ rfl ⟨rfl, Nat.le_of_ble_eq_true rfl⟩ (Nat.le_of_ble_eq_true rfl) ⟨by decide, rfl, rfl, rfl⟩ ?_
    refine h.mono (fun r zM9 h => ?_)
    obtain ⟨zr10, rfl, h⟩ := h
    simp only [Option.toList_some, Option.toList_none, List.cons_append, List.nil_append]
    exact i_lreturn 7 rfl rfl h
theorem u_X10_copy_0 {l : Launch} {E : xE} (a1 a2 a3 a4 a5 : Int) {M : xM} {Q : Option xV → xM → Prop} (h : x_Ev l E (1, 0, 0) m_X10_isNoSheet 0 [(20, 5), (0, a1)] [] M (fun r zM1 => ∃ zr2, r = some (0, zr2) ∧ (¬ zr2 = 0 → x_Ev l E (1, 0, 0) m_X10_tell 0 [(20, 5), (0, 0)] [] zM1 (fun r zM3 => ∃ zr4, r = some (0, zr4) ∧ Q (some (0, zr4)) zM3)) ∧ (zr2 = 0 → x_Ev l E (1, 0, 0) m_X10_isNoSheet 0 [(20, 5), (0, a3)] [] zM1 (fun r zM5 => ∃ zr6, r = some (0, zr6) ∧ (zr6 = 0 → ((0 : Int) ≤ a1 ∧ (a1 : Int) < 4) ∧ ((0 : Int) ≤ a3 ∧ (a3 : Int) < 4) ∧ ((zM5 88 a1) < 0 → x_Ev l E (1, 0, 0) m_X10_tell 0 [(20, 5), (0, 5)] [] zM5 (fun r zM7 => ∃ zr8, r = some (0, zr8) ∧ Q (some (0, zr8)) zM7)) ∧ (¬ (zM5 88 a1) < 0 → (¬ (zM5 88 a3) < 0 → (0 ≤ (zM5 88 a1)) ∧ (0 ≤ (zM5 88 a3)) ∧ ((zM5 (zM5 88 a1) 0) = (zM5 (zM5 88 a3) 0) → (a2 < 0 → x_Ev l E (1, 0, 0) m_X10_tell 0 [(20, 5), (0, 0)] [] zM5 (fun r zM9 => ∃ zr10, r = some (0, zr10) ∧ Q (some (0, zr10)) zM9)) ∧ (¬ a2 < 0 → (a4 < 0 → x_Ev l E (1, 0, 0) m_X10_tell 0 [(20, 5), (0, 0)] [] zM5 (fun r zM11 => ∃ zr12, r = some (0, zr12) ∧ Q (some (0, zr12)) zM11)) ∧ (¬ a4 < 0 → (a5 < 0 → x_Ev l E (1, 0, 0) m_X10_tell 0 [(20, 5), (0, 0)] [] zM5 (fun r zM13 => ∃ zr14, r = some (0, zr14) ∧ Q (some (0, zr14)) zM13)) ∧ (¬ a5 < 0 → (0 ≤ (zM5 88 a1)) ∧ (0 ≤ zM5 (((zM5 88 a1) + 1) - 1) 1 ∧ zM5 (((zM5 88 a1) + 1) - 1) 1 < 2147483648) ∧ ((x_w ((zM5 (((zM5 88 a1) + 1) - 1) 1) - a2)) < a5 → x_Ev l E (1, 0, 0) m_X10_tell 0 [(20, 5), (0, 0)] [] zM5 (fun r zM15 => ∃ zr16, r = some (0, zr16) ∧ Q (some (0, zr16)) zM15)) ∧ (¬ (x_w ((zM5 (((zM5 88 a1) + 1) - 1) 1) - a2)) < a5 → (0 ≤ (zM5 88 a3)) ∧ (0 ≤ zM5 (((zM5 88 a3) + 1) - 1) 1 ∧ zM5 (((zM5 88 a3) + 1) - 1) 1 < 2147483648) ∧ (a5 ≤ (x_w ((zM5 (((zM5 88 a3) + 1) - 1) 1) - a4)) → (0 ≤ (zM5 88 a1)) ∧ (0 ≤ (zM5 88 a3)) ∧ (((0 : Int) ≤ a2 ∧ (0 : Int) ≤ a4 ∧ (0 : Int) ≤ a5) ∧ (a2 : Int) + a5 ≤ zM5 (((zM5 88 a1) + 1) - 1) 1 ∧ (a4 : Int) + a5 ≤ zM5 (((zM5 88 a3) + 1) - 1) 1) ∧ ∀ zM17 : xM, zM17 = x_cpy zM5 ((zM5 88 a1) + 1) a2 ((zM5 88 a3) + 1) a4 a5 → Q (some (0, a5)) zM17) ∧ (¬ a5 ≤ (x_w ((zM5 (((zM5 88 a3) + 1) - 1) 1) - a4)) → x_Ev l E (1, 0, 0) m_X10_tell 0 [(20, 5), (0, 0)] [] zM5 (fun r zM18 => ∃ zr19, r = some (0, zr19) ∧ Q (some (0, zr19)) zM18))))))) ∧ (¬ (zM5 (zM5 88 a1) 0) = (zM5 (zM5 88 a3) 0) → x_Ev l E (1, 0, 0) m_X10_tell 0 [(20, 5), (0, 2)] [] zM5 (fun r zM20 => ∃ zr21, r = some (0, zr21) ∧ Q (some (0, zr21)) zM20))) ∧ ((zM5 88 a3) < 0 → x_Ev l E (1, 0, 0) m_X10_tell 0 [(20, 5), (0, 5)] [] zM5 (fun r zM22 => ∃ zr23, r = some (0, zr23) ∧ Q (some (0, zr23)) zM22)))) ∧ (¬ zr6 = 0 → x_Ev l E (1, 0, 0) m_X10_tell 0 [(20, 5), (0, 0)] [] zM5 (fun r zM24 => ∃ zr25, r = some (0, zr25) ∧ Q (some (0, zr25)) zM24)))))) : x_Ev l E (2, 0, 0) m_X10_copy 0 [(20, 5), (0, a1), (0, a2), (0, a3), (0, a4), (0, a5), (5, 0), (5, 0)] [] M Q := by
  refine i_aload_n 0 rfl rfl (by decide) ?_
  refine i_iload_n 1 rfl rfl ?_
  refine i_callV (c := 10) (y1 := m_X10_isNoSheet) (z1 := (1, 0, 0)) (z2 := (2, 0, 0)) [(0, a1)] 2 rfl ml_715 ok_X10_isNoSheet vk_X10_isNoSheet ⟨by decide, rfl⟩ rfl ⟨rfl, Nat.le_of_ble_eq_true rfl⟩ (Nat.le_of_ble_eq_true rfl) ⟨by decide, rfl, rfl, rfl⟩ ?_
  refine h.mono (fun r zM1 h => ?_)
  obtain ⟨zr2, rfl, h⟩ := h
  simp only [Option.toList_some, Option.toList_none, List.cons_append, List.nil_append]
  refine i_if_ne 16 3 rfl (by decide) (fun c => ?_) (fun c => ?_)
  · replace h := h.1 c
    refine i_aload_n 8 rfl rfl (by decide) ?_
    refine i_iconst 9 rfl (by decide) ?_
    refine i_callV (c := 10) (y1 := m_X10_tell) (z1 := (1, 0, 0)) (z2 := (2, 0, 0)) [(0, 0)] 10 rfl ml_400 ok_X10_tell vk_X10_tell ⟨by decide, rfl⟩ rfl ⟨rfl, Nat.le_of_ble_eq_true rfl⟩ (Nat.le_of_ble_eq_true rfl) ⟨by decide, rfl, rfl, rfl⟩ ?_
    refine h.mono (fun r zM3 h => ?_)
    obtain ⟨zr4, rfl, h⟩ := h
    simp only [Option.toList_some, Option.toList_none, List.cons_append, List.nil_append]
    exact i_ireturn 11 rfl rfl h
  · replace h := h.2 c
    refine i_aload_n 4 rfl rfl (by decide) ?_
    refine i_iload_n 5 rfl rfl ?_
    refine i_callV (c := 10) (y1 := m_X10_isNoSheet) (z1 := (1, 0, 0)) (z2 := (2, 0, 0)) [(0, a3)] 6 rfl ml_715 ok_X10_isNoSheet vk_X10_isNoSheet ⟨by decide, rfl⟩ rfl ⟨rfl, Nat.le_of_ble_eq_true rfl⟩ (Nat.le_of_ble_eq_true rfl) ⟨by decide, rfl, rfl, rfl⟩ ?_
    refine h.mono (fun r zM5 h => ?_)
    obtain ⟨zr6, rfl, h⟩ := h
    simp only [Option.toList_some, Option.toList_none, List.cons_append, List.nil_append]
    refine i_if_eq 22 7 rfl (by decide) (fun c => ?_) (fun c => ?_)
    · replace h := h.1 c
      refine i_aload_n 12 rfl rfl (by decide) ?_
      refine i_getP (c := 10) (k := 9) (t := 115) (b := 88) 13 rfl fl_355 (by decide) rfl (by decide) rfl ?_
      refine i_iload_n 14 rfl rfl ?_
      refine i_aaldR 15 rfl h.1.1 h.1.2 ?_
      replace h := h.2
      refine i_astore 16 rfl (by decide) (by decide) rfl ?_
      refine i_aload_n 17 rfl rfl (by decide) ?_
      refine i_getP (c := 10) (k := 9) (t := 115) (b := 88) 18 rfl fl_355 (by decide) rfl (by decide) rfl ?_
      refine i_iload_n 19 rfl rfl ?_
      refine i_aaldR 20 rfl h.1.1 h.1.2 ?_
      replace h := h.2
      refine i_astore 21 rfl (by decide) (by decide) rfl ?_
      refine i_aload 22 rfl rfl (by decide) ?_
      refine i_ifnull 48 23 rfl (by decide) (by decide) (fun c => ?_) (fun c => ?_)
      · replace h := h.1 c
        refine i_aload_n 26 rfl rfl (by decide) ?_
        refine i_iconst 27 rfl (by decide) ?_
        refine i_callV (c := 10) (y1 := m_X10_tell) (z1 := (1, 0, 0)) (z2 := (2, 0, 0)) [(0, 5)] 28 rfl ml_400 ok_X10_tell vk_X10_tell ⟨by decide, rfl⟩ rfl ⟨rfl, Nat.le_of_ble_eq_true rfl⟩ (Nat.le_of_ble_eq_true rfl) ⟨by decide, rfl, rfl, rfl⟩ ?_
        refine h.mono (fun r zM7 h => ?_)
        obtain ⟨zr8, rfl, h⟩ := h
        simp only [Option.toList_some, Option.toList_none, List.cons_append, List.nil_append]
        exact i_ireturn 29 rfl rfl h
      · replace h := h.2 c
        refine i_aload 24 rfl rfl (by decide) ?_
        refine i_ifnonnull 54 25 rfl (by decide) (by decide) (fun c => ?_) (fun c => ?_)
        · replace h := h.1 c
          refine i_aload 30 rfl rfl (by decide) ?_
          refine i_rowI 31 rfl fl_953 h.1 ?_
          replace h := h.2
          refine i_aload 32 rfl rfl (by decide) ?_
          refine i_rowI 33 rfl fl_953 h.1 ?_
          replace h := h.2
          refine i_icmp_eq 73 34 rfl (by decide) (fun c => ?_) (fun c => ?_)
          · replace h := h.1 c
            refine i_iload_n 39 rfl rfl ?_
            refine i_if_lt 114 40 rfl (by decide) (fun c => ?_) (fun c => ?_)
            · replace h := h.1 c
              refine i_aload_n 59 rfl rfl (by decide) ?_
              refine i_iconst 60 rfl (by decide) ?_
              refine i_callV (c := 10) (y1 := m_X10_tell) (z1 := (1, 0, 0)) (z2 := (2, 0, 0)) [(0, 0)] 61 rfl ml_400 ok_X10_tell vk_X10_tell ⟨by decide, rfl⟩ rfl ⟨rfl, Nat.le_of_ble_eq_true rfl⟩ (Nat.le_of_ble_eq_true rfl) ⟨by decide, rfl, rfl, rfl⟩ ?_
              refine h.mono (fun r zM9 h => ?_)
              obtain ⟨zr10, rfl, h⟩ := h
              simp only [Option.toList_some, Option.toList_none, List.cons_append, List.nil_append]
              exact i_ireturn 62 rfl rfl h
            · replace h := h.2 c
              refine i_iload 41 rfl rfl ?_
              refine i_if_lt 114 42 rfl (by decide) (fun c => ?_) (fun c => ?_)
              · replace h := h.1 c
                refine i_aload_n 59 rfl rfl (by decide) ?_
                refine i_iconst 60 rfl (by decide) ?_
                refine i_callV (c := 10) (y1 := m_X10_tell) (z1 := (1, 0, 0)) (z2 := (2, 0, 0)) [(0, 0)] 61 rfl ml_400 ok_X10_tell vk_X10_tell ⟨by decide, rfl⟩ rfl ⟨rfl, Nat.le_of_ble_eq_true rfl⟩ (Nat.le_of_ble_eq_true rfl) ⟨by decide, rfl, rfl, rfl⟩ ?_
                refine h.mono (fun r zM11 h => ?_)
                obtain ⟨zr12, rfl, h⟩ := h
                simp only [Option.toList_some, Option.toList_none, List.cons_append, List.nil_append]
                exact i_ireturn 62 rfl rfl h
              · replace h := h.2 c
                refine i_iload 43 rfl rfl ?_
                refine i_if_lt 114 44 rfl (by decide) (fun c => ?_) (fun c => ?_)
                · replace h := h.1 c
                  refine i_aload_n 59 rfl rfl (by decide) ?_
                  refine i_iconst 60 rfl (by decide) ?_
                  refine i_callV (c := 10) (y1 := m_X10_tell) (z1 := (1, 0, 0)) (z2 := (2, 0, 0)) [(0, 0)] 61 rfl ml_400 ok_X10_tell vk_X10_tell ⟨by decide, rfl⟩ rfl ⟨rfl, Nat.le_of_ble_eq_true rfl⟩ (Nat.le_of_ble_eq_true rfl) ⟨by decide, rfl, rfl, rfl⟩ ?_
                  refine h.mono (fun r zM13 h => ?_)
                  obtain ⟨zr14, rfl, h⟩ := h
                  simp only [Option.toList_some, Option.toList_none, List.cons_append, List.nil_append]
                  exact i_ireturn 62 rfl rfl h
                · replace h := h.2 c
                  refine i_iload 45 rfl rfl ?_
                  refine i_aload 46 rfl rfl (by decide) ?_
                  refine i_rowP 47 rfl fl_955 h.1 ?_
                  replace h := h.2
                  refine i_alenR 48 rfl h.1 ?_
                  replace h := h.2
                  refine i_iload_n 49 rfl rfl ?_
                  refine i_isub 50 rfl ?_
                  refine i_icmp_gt 114 51 rfl (by decide) (fun c => ?_) (fun c => ?_)
                  · replace h := h.1 c
                    refine i_aload_n 59 rfl rfl (by decide) ?_
                    refine i_iconst 60 rfl (by decide) ?_
                    refine i_callV (c := 10) (y1 := m_X10_tell) (z1 := (1, 0, 0)) (z2 := (2, 0, 0)) [(0, 0)] 61 rfl ml_400 ok_X10_tell vk_X10_tell ⟨by decide, rfl⟩ rfl ⟨rfl, Nat.le_of_ble_eq_true rfl⟩ (Nat.le_of_ble_eq_true rfl) ⟨by decide, rfl, rfl, rfl⟩ ?_
                    refine h.mono (fun r zM15 h => ?_)
                    obtain ⟨zr16, rfl, h⟩ := h
                    simp only [Option.toList_some, Option.toList_none, List.cons_append, List.nil_append]
                    exact i_ireturn 62 rfl rfl h
                  · replace h := h.2 c
                    refine i_iload 52 rfl rfl ?_
                    refine i_aload 53 rfl rfl (by decide) ?_
                    refine i_rowP 54 rfl fl_955 h.1 ?_
                    replace h := h.2
                    refine i_alenR 55 rfl h.1 ?_
                    replace h := h.2
                    refine i_iload 56 rfl rfl ?_
                    refine i_isub 57 rfl ?_
                    refine i_icmp_le 120 58 rfl (by decide) (fun c => ?_) (fun c => ?_)
                    · replace h := h.1 c
                      refine i_aload 63 rfl rfl (by decide) ?_
                      refine i_rowP 64 rfl fl_955 h.1 ?_
                      replace h := h.2
                      refine i_iload_n 65 rfl rfl ?_
                      refine i_aload 66 rfl rfl (by decide) ?_
                      refine i_rowP 67 rfl fl_955 h.1 ?_
                      replace h := h.2
                      refine i_iload 68 rfl rfl ?_
                      refine i_iload 69 rfl rfl ?_
                      have hb := h.1
                      replace h := h.2 _ rfl
                      refine i_copy 70 rfl ml_981 cpw (by decide) hb.1.1 hb.1.2.1 hb.1.2.2 hb.2.1 hb.2.2 (Nat.le_of_ble_eq_true rfl) (by decide) ?_
                      refine i_iload 71 rfl rfl ?_
                      exact i_ireturn 72 rfl rfl h
                    · replace h := h.2 c
                      refine i_aload_n 59 rfl rfl (by decide) ?_
                      refine i_iconst 60 rfl (by decide) ?_
                      refine i_callV (c := 10) (y1 := m_X10_tell) (z1 := (1, 0, 0)) (z2 := (2, 0, 0)) [(0, 0)] 61 rfl ml_400 ok_X10_tell vk_X10_tell ⟨by decide, rfl⟩ rfl ⟨rfl, Nat.le_of_ble_eq_true rfl⟩ (Nat.le_of_ble_eq_true rfl) ⟨by decide, rfl, rfl, rfl⟩ ?_
                      refine h.mono (fun r zM18 h => ?_)
                      obtain ⟨zr19, rfl, h⟩ := h
                      simp only [Option.toList_some, Option.toList_none, List.cons_append, List.nil_append]
                      exact i_ireturn 62 rfl rfl h
          · replace h := h.2 c
            refine i_aload_n 35 rfl rfl (by decide) ?_
            refine i_iconst 36 rfl (by decide) ?_
            refine i_callV (c := 10) (y1 := m_X10_tell) (z1 := (1, 0, 0)) (z2 := (2, 0, 0)) [(0, 2)] 37 rfl ml_400 ok_X10_tell vk_X10_tell ⟨by decide, rfl⟩ rfl ⟨rfl, Nat.le_of_ble_eq_true rfl⟩ (Nat.le_of_ble_eq_true rfl) ⟨by decide, rfl, rfl, rfl⟩ ?_
            refine h.mono (fun r zM20 h => ?_)
            obtain ⟨zr21, rfl, h⟩ := h
            simp only [Option.toList_some, Option.toList_none, List.cons_append, List.nil_append]
            exact i_ireturn 38 rfl rfl h
        · replace h := h.2 c
          refine i_aload_n 26 rfl rfl (by decide) ?_
          refine i_iconst 27 rfl (by decide) ?_
          refine i_callV (c := 10) (y1 := m_X10_tell) (z1 := (1, 0, 0)) (z2 := (2, 0, 0)) [(0, 5)] 28 rfl ml_400 ok_X10_tell vk_X10_tell ⟨by decide, rfl⟩ rfl ⟨rfl, Nat.le_of_ble_eq_true rfl⟩ (Nat.le_of_ble_eq_true rfl) ⟨by decide, rfl, rfl, rfl⟩ ?_
          refine h.mono (fun r zM22 h => ?_)
          obtain ⟨zr23, rfl, h⟩ := h
          simp only [Option.toList_some, Option.toList_none, List.cons_append, List.nil_append]
          exact i_ireturn 29 rfl rfl h
    · replace h := h.2 c
      refine i_aload_n 8 rfl rfl (by decide) ?_
      refine i_iconst 9 rfl (by decide) ?_
      refine i_callV (c := 10) (y1 := m_X10_tell) (z1 := (1, 0, 0)) (z2 := (2, 0, 0)) [(0, 0)] 10 rfl ml_400 ok_X10_tell vk_X10_tell ⟨by decide, rfl⟩ rfl ⟨rfl, Nat.le_of_ble_eq_true rfl⟩ (Nat.le_of_ble_eq_true rfl) ⟨by decide, rfl, rfl, rfl⟩ ?_
      refine h.mono (fun r zM24 h => ?_)
      obtain ⟨zr25, rfl, h⟩ := h
      simp only [Option.toList_some, Option.toList_none, List.cons_append, List.nil_append]
      exact i_ireturn 11 rfl rfl h
theorem u_X10_hold_0 {l : Launch} {E : xE} (a1 a2 a3 : Int) {M : xM} {Q : Option xV → xM → Prop} (h : (¬ a2 = 0 → (¬ a2 = 2 → x_Ev l E (1, 0, 0) m_X10_isNoSpot 0 [(20, 5), (0, a1)] [] M (fun r zM1 => ∃ zr2, r = some (0, zr2) ∧ (¬ zr2 = 0 → x_Ev l E (1, 0, 0) m_X10_tell 0 [(20, 5), (0, 0)] [] zM1 (fun r zM3 => ∃ zr4, r = some (0, zr4) ∧ Q (some (0, zr4)) zM3)) ∧ (zr2 = 0 → (a2 < 0 → x_Ev l E (1, 0, 0) m_X10_tell 0 [(20, 5), (0, 0)] [] zM1 (fun r zM5 => ∃ zr6, r = some (0, zr6) ∧ Q (some (0, zr6)) zM5)) ∧ (¬ a2 < 0 → (3 < a2 → x_Ev l E (1, 0, 0) m_X10_tell 0 [(20, 5), (0, 0)] [] zM1 (fun r zM7 => ∃ zr8, r = some (0, zr8) ∧ Q (some (0, zr8)) zM7)) ∧ (¬ 3 < a2 → ((0 : Int) ≤ a1 ∧ (a1 : Int) < 10) ∧ (¬ a2 = 1 → x_Ev l E (1, 0, 0) m_X7_keep 0 [(17, (89 + 1 + 1 * a1)), (0, 0), (0, 0), (2, (-1))] [] zM1 (fun r zM9 => r = none ∧ Q (some (0, 1)) zM9)) ∧ (a2 = 1 → x_Ev l E (1, 0, 0) m_X2_cut 0 [(12, 7)] [] zM1 (fun r zM10 => ∃ zr11, r = some (1, zr11) ∧ x_Ev l E (1, 0, 0) m_X7_keep 0 [(17, (89 + 1 + 1 * a1)), (0, 2), (0, (x_w zr11)), (2, (-1))] [] zM10 (fun r zM12 => r = none ∧ Q (some (0, 1)) zM12)))))))) ∧ (a2 = 2 → x_Ev l E (1, 0, 0) m_X10_isNoSheet 0 [(20, 5), (0, a3)] [] M (fun r zM13 => ∃ zr14, r = some (0, zr14) ∧ (zr14 = 0 → x_Ev l E (1, 0, 0) m_X10_isNoSpot 0 [(20, 5), (0, a1)] [] zM13 (fun r zM15 => ∃ zr16, r = some (0, zr16) ∧ (¬ zr16 = 0 → x_Ev l E (1, 0, 0) m_X10_tell 0 [(20, 5), (0, 0)] [] zM15 (fun r zM17 => ∃ zr18, r = some (0, zr18) ∧ Q (some (0, zr18)) zM17)) ∧ (zr16 = 0 → ((0 : Int) ≤ a1 ∧ (a1 : Int) < 10) ∧ ((0 : Int) ≤ a3 ∧ (a3 : Int) < 4) ∧ ((zM15 88 a3) < 0 → x_Ev l E (1, 0, 0) m_X7_keep 0 [(17, (89 + 1 + 1 * a1)), (0, 0), (0, 0), (2, (-1))] [] zM15 (fun r zM19 => r = none ∧ Q (some (0, 1)) zM19)) ∧ (¬ (zM15 88 a3) < 0 → ((0 : Int) ≤ a3 ∧ (a3 : Int) < 4) ∧ x_Ev l E (1, 0, 0) m_X7_keep 0 [(17, (89 + 1 + 1 * a1)), (0, 3), (0, 0), (9, (zM15 88 a3))] [] zM15 (fun r zM20 => r = none ∧ Q (some (0, 1)) zM20))))) ∧ (¬ zr14 = 0 → x_Ev l E (1, 0, 0) m_X10_isNoSpot 0 [(20, 5), (0, a1)] [] zM13 (fun r zM21 => ∃ zr22, r = some (0, zr22) ∧ (¬ zr22 = 0 → x_Ev l E (1, 0, 0) m_X10_tell 0 [(20, 5), (0, 0)] [] zM21 (fun r zM23 => ∃ zr24, r = some (0, zr24) ∧ Q (some (0, zr24)) zM23)) ∧ (zr22 = 0 → x_Ev l E (1, 0, 0) m_X10_tell 0 [(20, 5), (0, 0)] [] zM21 (fun r zM25 => ∃ zr26, r = some (0, zr26) ∧ Q (some (0, zr26)) zM25))))))) ∧ (a2 = 0 → x_Ev l E (1, 0, 0) m_X10_isNoFollower 0 [(20, 5), (0, a3)] [] M (fun r zM27 => ∃ zr28, r = some (0, zr28) ∧ (¬ zr28 = 0 → x_Ev l E (1, 0, 0) m_X10_isNoSpot 0 [(20, 5), (0, a1)] [] zM27 (fun r zM29 => ∃ zr30, r = some (0, zr30) ∧ (¬ zr30 = 0 → x_Ev l E (1, 0, 0) m_X10_tell 0 [(20, 5), (0, 0)] [] zM29 (fun r zM31 => ∃ zr32, r = some (0, zr32) ∧ Q (some (0, zr32)) zM31)) ∧ (zr30 = 0 → x_Ev l E (1, 0, 0) m_X10_tell 0 [(20, 5), (0, 0)] [] zM29 (fun r zM33 => ∃ zr34, r = some (0, zr34) ∧ Q (some (0, zr34)) zM33)))) ∧ (zr28 = 0 → x_Ev l E (1, 0, 0) m_X10_isNoSpot 0 [(20, 5), (0, a1)] [] zM27 (fun r zM35 => ∃ zr36, r = some (0, zr36) ∧ (¬ zr36 = 0 → x_Ev l E (1, 0, 0) m_X10_tell 0 [(20, 5), (0, 0)] [] zM35 (fun r zM37 => ∃ zr38, r = some (0, zr38) ∧ Q (some (0, zr38)) zM37)) ∧ (zr36 = 0 → ((0 : Int) ≤ a1 ∧ (a1 : Int) < 10) ∧ x_Ev l E (1, 0, 0) m_X7_keep 0 [(17, (89 + 1 + 1 * a1)), (0, 1), (0, a3), (2, (-1))] [] zM35 (fun r zM39 => r = none ∧ Q (some (0, 1)) zM39))))))) : x_Ev l E (2, 0, 0) m_X10_hold 0 [(20, 5), (0, a1), (0, a2), (0, a3), (5, 0), (5, 0)] [] M Q := by
  refine i_iload_n 0 rfl rfl ?_
  refine i_if_ne 12 1 rfl (by decide) (fun c => ?_) (fun c => ?_)
  · replace h := h.1 c
    refine i_iload_n 6 rfl rfl ?_
    refine i_iconst 7 rfl (by decide) ?_
    refine i_icmp_ne 29 8 rfl (by decide) (fun c => ?_) (fun c => ?_)
    · replace h := h.1 c
      refine i_iconst 15 rfl (by decide) ?_
      refine i_istore 16 rfl (by decide) rfl ?_
      refine i_aload_n 17 rfl rfl (by decide) ?_
      refine i_iload_n 18 rfl rfl ?_
      refine i_callV (c := 10) (y1 := m_X10_isNoSpot) (z1 := (1, 0, 0)) (z2 := (2, 0, 0)) [(0, a1)] 19 rfl ml_986 ok_X10_isNoSpot vk_X10_isNoSpot ⟨by decide, rfl⟩ rfl ⟨rfl, Nat.le_of_ble_eq_true rfl⟩ (Nat.le_of_ble_eq_true rfl) ⟨by decide, rfl, rfl, rfl⟩ ?_
      refine h.mono (fun r zM1 h => ?_)
      obtain ⟨zr2, rfl, h⟩ := h
      simp only [Option.toList_some, Option.toList_none, List.cons_append, List.nil_append]
      refine i_if_ne 54 20 rfl (by decide) (fun c => ?_) (fun c => ?_)
      · replace h := h.1 c
        refine i_aload_n 28 rfl rfl (by decide) ?_
        refine i_iconst 29 rfl (by decide) ?_
        refine i_callV (c := 10) (y1 := m_X10_tell) (z1 := (1, 0, 0)) (z2 := (2, 0, 0)) [(0, 0)] 30 rfl ml_400 ok_X10_tell vk_X10_tell ⟨by decide, rfl⟩ rfl ⟨rfl, Nat.le_of_ble_eq_true rfl⟩ (Nat.le_of_ble_eq_true rfl) ⟨by decide, rfl, rfl, rfl⟩ ?_
        refine h.mono (fun r zM3 h => ?_)
        obtain ⟨zr4, rfl, h⟩ := h
        simp only [Option.toList_some, Option.toList_none, List.cons_append, List.nil_append]
        exact i_ireturn 31 rfl rfl h
      · replace h := h.2 c
        refine i_iload_n 21 rfl rfl ?_
        refine i_if_lt 54 22 rfl (by decide) (fun c => ?_) (fun c => ?_)
        · replace h := h.1 c
          refine i_aload_n 28 rfl rfl (by decide) ?_
          refine i_iconst 29 rfl (by decide) ?_
          refine i_callV (c := 10) (y1 := m_X10_tell) (z1 := (1, 0, 0)) (z2 := (2, 0, 0)) [(0, 0)] 30 rfl ml_400 ok_X10_tell vk_X10_tell ⟨by decide, rfl⟩ rfl ⟨rfl, Nat.le_of_ble_eq_true rfl⟩ (Nat.le_of_ble_eq_true rfl) ⟨by decide, rfl, rfl, rfl⟩ ?_
          refine h.mono (fun r zM5 h => ?_)
          obtain ⟨zr6, rfl, h⟩ := h
          simp only [Option.toList_some, Option.toList_none, List.cons_append, List.nil_append]
          exact i_ireturn 31 rfl rfl h
        · replace h := h.2 c
          refine i_iload_n 23 rfl rfl ?_
          refine i_iconst 24 rfl (by decide) ?_
          refine i_icmp_gt 54 25 rfl (by decide) (fun c => ?_) (fun c => ?_)
          · replace h := h.1 c
            refine i_aload_n 28 rfl rfl (by decide) ?_
            refine i_iconst 29 rfl (by decide) ?_
            refine i_callV (c := 10) (y1 := m_X10_tell) (z1 := (1, 0, 0)) (z2 := (2, 0, 0)) [(0, 0)] 30 rfl ml_400 ok_X10_tell vk_X10_tell ⟨by decide, rfl⟩ rfl ⟨rfl, Nat.le_of_ble_eq_true rfl⟩ (Nat.le_of_ble_eq_true rfl) ⟨by decide, rfl, rfl, rfl⟩ ?_
            refine h.mono (fun r zM7 h => ?_)
            obtain ⟨zr8, rfl, h⟩ := h
            simp only [Option.toList_some, Option.toList_none, List.cons_append, List.nil_append]
            exact i_ireturn 31 rfl rfl h
          · replace h := h.2 c
            refine i_iload 26 rfl rfl ?_
            refine i_if_eq 60 27 rfl (by decide) (fun c => ?_) (fun c => ?_)
            · refine i_aload_n 32 rfl rfl (by decide) ?_
              refine i_getP (c := 10) (k := 10) (t := 116) (b := 89) 33 rfl fl_356 (by decide) rfl (by decide) rfl ?_
              refine i_iload_n 34 rfl rfl ?_
              refine i_aald (τ := 16) (t := 17) (len := 10) (b := (89 + 1 + 1 * a1)) 35 rfl (by decide) rfl h.1.1 h.1.2 ?_
              replace h := h.2
              refine i_astore 36 rfl (by decide) (by decide) rfl ?_
              refine i_iload_n 37 rfl rfl ?_
              refine i_if_ne 83 38 rfl (by decide) (fun c => ?_) (fun c => ?_)
              · refine i_iload_n 45 rfl rfl ?_
                refine i_iconst 46 rfl (by decide) ?_
                refine i_icmp_ne 109 47 rfl (by decide) (fun c => ?_) (fun c => ?_)
                · replace h := h.1 c
                  refine i_iload_n 58 rfl rfl ?_
                  refine i_iconst 59 rfl (by decide) ?_
                  refine i_icmp_ne 139 60 rfl (by decide) (fun c => ?_) (fun c => ?_)
                  · refine i_aload 75 rfl rfl (by decide) ?_
                    refine i_iconst 76 rfl (by decide) ?_
                    refine i_iconst 77 rfl (by decide) ?_
                    refine i_null 78 rfl ?_
                    refine i_callV (c := 7) (y1 := m_X7_keep) (z1 := (1, 0, 0)) (z2 := (2, 0, 0)) [(0, 0), (0, 0), (2, (-1))] 79 rfl ml_990 ok_X7_keep vk_X7_keep ⟨by decide, rfl⟩ rfl ⟨rfl, Nat.le_of_ble_eq_true rfl⟩ (Nat.le_of_ble_eq_true rfl) ⟨by decide, rfl, rfl, rfl⟩ ?_
                    refine h.mono (fun r zM9 h => ?_)
                    obtain ⟨rfl, h⟩ := h
                    simp only [Option.toList_some, Option.toList_none, List.cons_append, List.nil_append]
                    refine i_iconst 80 rfl (by decide) ?_
                    exact i_ireturn 81 rfl rfl h
                  · exact absurd c (by omega)
                · replace h := h.2 c
                  refine i_aload 48 rfl rfl (by decide) ?_
                  refine i_iconst 49 rfl (by decide) ?_
                  refine i_aload_n 50 rfl rfl (by decide) ?_
                  refine i_getP (c := 10) (k := 0) (t := 19) (b := 6) 51 rfl fl_346 (by decide) rfl (by decide) rfl ?_
                  refine i_getP (c := 9) (k := 5) (t := 12) (b := 7) 52 rfl fl_118 (by decide) rfl (by decide) rfl ?_
                  refine i_callV (c := 2) (y1 := m_X2_cut) (z1 := (1, 0, 0)) (z2 := (2, 0, 0)) [] 53 rfl ml_994 ok_X2_cut vk_X2_cut ⟨by decide, rfl⟩ rfl ⟨rfl, Nat.le_of_ble_eq_true rfl⟩ (Nat.le_of_ble_eq_true rfl) ⟨by decide, rfl, rfl, rfl⟩ ?_
                  refine h.mono (fun r zM10 h => ?_)
                  obtain ⟨zr11, rfl, h⟩ := h
                  simp only [Option.toList_some, Option.toList_none, List.cons_append, List.nil_append]
                  refine i_l2i 54 rfl ?_
                  refine i_null 55 rfl ?_
                  refine i_callV (c := 7) (y1 := m_X7_keep) (z1 := (1, 0, 0)) (z2 := (2, 0, 0)) [(0, 2), (0, (x_w zr11)), (2, (-1))] 56 rfl ml_990 ok_X7_keep vk_X7_keep ⟨by decide, rfl⟩ rfl ⟨rfl, Nat.le_of_ble_eq_true rfl⟩ (Nat.le_of_ble_eq_true rfl) ⟨by decide, rfl, rfl, rfl⟩ ?_
                  refine h.mono (fun r zM12 h => ?_)
                  obtain ⟨rfl, h⟩ := h
                  simp only [Option.toList_some, Option.toList_none, List.cons_append, List.nil_append]
                  refine i_goto 147 57 rfl (by decide) ?_
                  refine i_iconst 80 rfl (by decide) ?_
                  exact i_ireturn 81 rfl rfl h
              · exact absurd c (by omega)
            · exact absurd c (by decide)
    · replace h := h.2 c
      refine i_aload_n 9 rfl rfl (by decide) ?_
      refine i_iload_n 10 rfl rfl ?_
      refine i_callV (c := 10) (y1 := m_X10_isNoSheet) (z1 := (1, 0, 0)) (z2 := (2, 0, 0)) [(0, a3)] 11 rfl ml_715 ok_X10_isNoSheet vk_X10_isNoSheet ⟨by decide, rfl⟩ rfl ⟨rfl, Nat.le_of_ble_eq_true rfl⟩ (Nat.le_of_ble_eq_true rfl) ⟨by decide, rfl, rfl, rfl⟩ ?_
      refine h.mono (fun r zM13 h => ?_)
      obtain ⟨zr14, rfl, h⟩ := h
      simp only [Option.toList_some, Option.toList_none, List.cons_append, List.nil_append]
      refine i_if_eq 29 12 rfl (by decide) (fun c => ?_) (fun c => ?_)
      · replace h := h.1 c
        refine i_iconst 15 rfl (by decide) ?_
        refine i_istore 16 rfl (by decide) rfl ?_
        refine i_aload_n 17 rfl rfl (by decide) ?_
        refine i_iload_n 18 rfl rfl ?_
        refine i_callV (c := 10) (y1 := m_X10_isNoSpot) (z1 := (1, 0, 0)) (z2 := (2, 0, 0)) [(0, a1)] 19 rfl ml_986 ok_X10_isNoSpot vk_X10_isNoSpot ⟨by decide, rfl⟩ rfl ⟨rfl, Nat.le_of_ble_eq_true rfl⟩ (Nat.le_of_ble_eq_true rfl) ⟨by decide, rfl, rfl, rfl⟩ ?_
        refine h.mono (fun r zM15 h => ?_)
        obtain ⟨zr16, rfl, h⟩ := h
        simp only [Option.toList_some, Option.toList_none, List.cons_append, List.nil_append]
        refine i_if_ne 54 20 rfl (by decide) (fun c => ?_) (fun c => ?_)
        · replace h := h.1 c
          refine i_aload_n 28 rfl rfl (by decide) ?_
          refine i_iconst 29 rfl (by decide) ?_
          refine i_callV (c := 10) (y1 := m_X10_tell) (z1 := (1, 0, 0)) (z2 := (2, 0, 0)) [(0, 0)] 30 rfl ml_400 ok_X10_tell vk_X10_tell ⟨by decide, rfl⟩ rfl ⟨rfl, Nat.le_of_ble_eq_true rfl⟩ (Nat.le_of_ble_eq_true rfl) ⟨by decide, rfl, rfl, rfl⟩ ?_
          refine h.mono (fun r zM17 h => ?_)
          obtain ⟨zr18, rfl, h⟩ := h
          simp only [Option.toList_some, Option.toList_none, List.cons_append, List.nil_append]
          exact i_ireturn 31 rfl rfl h
        · replace h := h.2 c
          refine i_iload_n 21 rfl rfl ?_
          refine i_if_lt 54 22 rfl (by decide) (fun c => ?_) (fun c => ?_)
          · exact absurd c (by omega)
          · refine i_iload_n 23 rfl rfl ?_
            refine i_iconst 24 rfl (by decide) ?_
            refine i_icmp_gt 54 25 rfl (by decide) (fun c => ?_) (fun c => ?_)
            · exact absurd c (by omega)
            · refine i_iload 26 rfl rfl ?_
              refine i_if_eq 60 27 rfl (by decide) (fun c => ?_) (fun c => ?_)
              · refine i_aload_n 32 rfl rfl (by decide) ?_
                refine i_getP (c := 10) (k := 10) (t := 116) (b := 89) 33 rfl fl_356 (by decide) rfl (by decide) rfl ?_
                refine i_iload_n 34 rfl rfl ?_
                refine i_aald (τ := 16) (t := 17) (len := 10) (b := (89 + 1 + 1 * a1)) 35 rfl (by decide) rfl h.1.1 h.1.2 ?_
                replace h := h.2
                refine i_astore 36 rfl (by decide) (by decide) rfl ?_
                refine i_iload_n 37 rfl rfl ?_
                refine i_if_ne 83 38 rfl (by decide) (fun c => ?_) (fun c => ?_)
                · refine i_iload_n 45 rfl rfl ?_
                  refine i_iconst 46 rfl (by decide) ?_
                  refine i_icmp_ne 109 47 rfl (by decide) (fun c => ?_) (fun c => ?_)
                  · refine i_iload_n 58 rfl rfl ?_
                    refine i_iconst 59 rfl (by decide) ?_
                    refine i_icmp_ne 139 60 rfl (by decide) (fun c => ?_) (fun c => ?_)
                    · exact absurd c (by omega)
                    · refine i_aload_n 61 rfl rfl (by decide) ?_
                      refine i_getP (c := 10) (k := 9) (t := 115) (b := 88) 62 rfl fl_355 (by decide) rfl (by decide) rfl ?_
                      refine i_iload_n 63 rfl rfl ?_
                      refine i_aaldR 64 rfl h.1.1 h.1.2 ?_
                      replace h := h.2
                      refine i_ifnull 139 65 rfl (by decide) (by decide) (fun c => ?_) (fun c => ?_)
                      · replace h := h.1 c
                        refine i_aload 75 rfl rfl (by decide) ?_
                        refine i_iconst 76 rfl (by decide) ?_
                        refine i_iconst 77 rfl (by decide) ?_
                        refine i_null 78 rfl ?_
                        refine i_callV (c := 7) (y1 := m_X7_keep) (z1 := (1, 0, 0)) (z2 := (2, 0, 0)) [(0, 0), (0, 0), (2, (-1))] 79 rfl ml_990 ok_X7_keep vk_X7_keep ⟨by decide, rfl⟩ rfl ⟨rfl, Nat.le_of_ble_eq_true rfl⟩ (Nat.le_of_ble_eq_true rfl) ⟨by decide, rfl, rfl, rfl⟩ ?_
                        refine h.mono (fun r zM19 h => ?_)
                        obtain ⟨rfl, h⟩ := h
                        simp only [Option.toList_some, Option.toList_none, List.cons_append, List.nil_append]
                        refine i_iconst 80 rfl (by decide) ?_
                        exact i_ireturn 81 rfl rfl h
                      · replace h := h.2 c
                        refine i_aload 66 rfl rfl (by decide) ?_
                        refine i_iconst 67 rfl (by decide) ?_
                        refine i_iconst 68 rfl (by decide) ?_
                        refine i_aload_n 69 rfl rfl (by decide) ?_
                        refine i_getP (c := 10) (k := 9) (t := 115) (b := 88) 70 rfl fl_355 (by decide) rfl (by decide) rfl ?_
                        refine i_iload_n 71 rfl rfl ?_
                        refine i_aaldR 72 rfl h.1.1 h.1.2 ?_
                        replace h := h.2
                        refine i_callV (c := 7) (y1 := m_X7_keep) (z1 := (1, 0, 0)) (z2 := (2, 0, 0)) [(0, 3), (0, 0), (9, (zM15 88 a3))] 73 rfl ml_990 ok_X7_keep vk_X7_keep ⟨by decide, rfl⟩ rfl ⟨rfl, Nat.le_of_ble_eq_true rfl⟩ (Nat.le_of_ble_eq_true rfl) ⟨by decide, rfl, rfl, rfl⟩ ?_
                        refine h.mono (fun r zM20 h => ?_)
                        obtain ⟨rfl, h⟩ := h
                        simp only [Option.toList_some, Option.toList_none, List.cons_append, List.nil_append]
                        refine i_goto 147 74 rfl (by decide) ?_
                        refine i_iconst 80 rfl (by decide) ?_
                        exact i_ireturn 81 rfl rfl h
                  · exact absurd c (by omega)
                · exact absurd c (by omega)
              · exact absurd c (by decide)
      · replace h := h.2 c
        refine i_iconst 13 rfl (by decide) ?_
        refine i_goto 30 14 rfl (by decide) ?_
        refine i_istore 16 rfl (by decide) rfl ?_
        refine i_aload_n 17 rfl rfl (by decide) ?_
        refine i_iload_n 18 rfl rfl ?_
        refine i_callV (c := 10) (y1 := m_X10_isNoSpot) (z1 := (1, 0, 0)) (z2 := (2, 0, 0)) [(0, a1)] 19 rfl ml_986 ok_X10_isNoSpot vk_X10_isNoSpot ⟨by decide, rfl⟩ rfl ⟨rfl, Nat.le_of_ble_eq_true rfl⟩ (Nat.le_of_ble_eq_true rfl) ⟨by decide, rfl, rfl, rfl⟩ ?_
        refine h.mono (fun r zM21 h => ?_)
        obtain ⟨zr22, rfl, h⟩ := h
        simp only [Option.toList_some, Option.toList_none, List.cons_append, List.nil_append]
        refine i_if_ne 54 20 rfl (by decide) (fun c => ?_) (fun c => ?_)
        · replace h := h.1 c
          refine i_aload_n 28 rfl rfl (by decide) ?_
          refine i_iconst 29 rfl (by decide) ?_
          refine i_callV (c := 10) (y1 := m_X10_tell) (z1 := (1, 0, 0)) (z2 := (2, 0, 0)) [(0, 0)] 30 rfl ml_400 ok_X10_tell vk_X10_tell ⟨by decide, rfl⟩ rfl ⟨rfl, Nat.le_of_ble_eq_true rfl⟩ (Nat.le_of_ble_eq_true rfl) ⟨by decide, rfl, rfl, rfl⟩ ?_
          refine h.mono (fun r zM23 h => ?_)
          obtain ⟨zr24, rfl, h⟩ := h
          simp only [Option.toList_some, Option.toList_none, List.cons_append, List.nil_append]
          exact i_ireturn 31 rfl rfl h
        · replace h := h.2 c
          refine i_iload_n 21 rfl rfl ?_
          refine i_if_lt 54 22 rfl (by decide) (fun c => ?_) (fun c => ?_)
          · exact absurd c (by omega)
          · refine i_iload_n 23 rfl rfl ?_
            refine i_iconst 24 rfl (by decide) ?_
            refine i_icmp_gt 54 25 rfl (by decide) (fun c => ?_) (fun c => ?_)
            · exact absurd c (by omega)
            · refine i_iload 26 rfl rfl ?_
              refine i_if_eq 60 27 rfl (by decide) (fun c => ?_) (fun c => ?_)
              · exact absurd c (by decide)
              · refine i_aload_n 28 rfl rfl (by decide) ?_
                refine i_iconst 29 rfl (by decide) ?_
                refine i_callV (c := 10) (y1 := m_X10_tell) (z1 := (1, 0, 0)) (z2 := (2, 0, 0)) [(0, 0)] 30 rfl ml_400 ok_X10_tell vk_X10_tell ⟨by decide, rfl⟩ rfl ⟨rfl, Nat.le_of_ble_eq_true rfl⟩ (Nat.le_of_ble_eq_true rfl) ⟨by decide, rfl, rfl, rfl⟩ ?_
                refine h.mono (fun r zM25 h => ?_)
                obtain ⟨zr26, rfl, h⟩ := h
                simp only [Option.toList_some, Option.toList_none, List.cons_append, List.nil_append]
                exact i_ireturn 31 rfl rfl h
  · replace h := h.2 c
    refine i_aload_n 2 rfl rfl (by decide) ?_
    refine i_iload_n 3 rfl rfl ?_
    refine i_callV (c := 10) (y1 := m_X10_isNoFollower) (z1 := (1, 0, 0)) (z2 := (2, 0, 0)) [(0, a3)] 4 rfl ml_488 ok_X10_isNoFollower vk_X10_isNoFollower ⟨by decide, rfl⟩ rfl ⟨rfl, Nat.le_of_ble_eq_true rfl⟩ (Nat.le_of_ble_eq_true rfl) ⟨by decide, rfl, rfl, rfl⟩ ?_
    refine h.mono (fun r zM27 h => ?_)
    obtain ⟨zr28, rfl, h⟩ := h
    simp only [Option.toList_some, Option.toList_none, List.cons_append, List.nil_append]
    refine i_if_ne 25 5 rfl (by decide) (fun c => ?_) (fun c => ?_)
    · replace h := h.1 c
      refine i_iconst 13 rfl (by decide) ?_
      refine i_goto 30 14 rfl (by decide) ?_
      refine i_istore 16 rfl (by decide) rfl ?_
      refine i_aload_n 17 rfl rfl (by decide) ?_
      refine i_iload_n 18 rfl rfl ?_
      refine i_callV (c := 10) (y1 := m_X10_isNoSpot) (z1 := (1, 0, 0)) (z2 := (2, 0, 0)) [(0, a1)] 19 rfl ml_986 ok_X10_isNoSpot vk_X10_isNoSpot ⟨by decide, rfl⟩ rfl ⟨rfl, Nat.le_of_ble_eq_true rfl⟩ (Nat.le_of_ble_eq_true rfl) ⟨by decide, rfl, rfl, rfl⟩ ?_
      refine h.mono (fun r zM29 h => ?_)
      obtain ⟨zr30, rfl, h⟩ := h
      simp only [Option.toList_some, Option.toList_none, List.cons_append, List.nil_append]
      refine i_if_ne 54 20 rfl (by decide) (fun c => ?_) (fun c => ?_)
      · replace h := h.1 c
        refine i_aload_n 28 rfl rfl (by decide) ?_
        refine i_iconst 29 rfl (by decide) ?_
        refine i_callV (c := 10) (y1 := m_X10_tell) (z1 := (1, 0, 0)) (z2 := (2, 0, 0)) [(0, 0)] 30 rfl ml_400 ok_X10_tell vk_X10_tell ⟨by decide, rfl⟩ rfl ⟨rfl, Nat.le_of_ble_eq_true rfl⟩ (Nat.le_of_ble_eq_true rfl) ⟨by decide, rfl, rfl, rfl⟩ ?_
        refine h.mono (fun r zM31 h => ?_)
        obtain ⟨zr32, rfl, h⟩ := h
        simp only [Option.toList_some, Option.toList_none, List.cons_append, List.nil_append]
        exact i_ireturn 31 rfl rfl h
      · replace h := h.2 c
        refine i_iload_n 21 rfl rfl ?_
        refine i_if_lt 54 22 rfl (by decide) (fun c => ?_) (fun c => ?_)
        · exact absurd c (by omega)
        · refine i_iload_n 23 rfl rfl ?_
          refine i_iconst 24 rfl (by decide) ?_
          refine i_icmp_gt 54 25 rfl (by decide) (fun c => ?_) (fun c => ?_)
          · exact absurd c (by omega)
          · refine i_iload 26 rfl rfl ?_
            refine i_if_eq 60 27 rfl (by decide) (fun c => ?_) (fun c => ?_)
            · exact absurd c (by decide)
            · refine i_aload_n 28 rfl rfl (by decide) ?_
              refine i_iconst 29 rfl (by decide) ?_
              refine i_callV (c := 10) (y1 := m_X10_tell) (z1 := (1, 0, 0)) (z2 := (2, 0, 0)) [(0, 0)] 30 rfl ml_400 ok_X10_tell vk_X10_tell ⟨by decide, rfl⟩ rfl ⟨rfl, Nat.le_of_ble_eq_true rfl⟩ (Nat.le_of_ble_eq_true rfl) ⟨by decide, rfl, rfl, rfl⟩ ?_
              refine h.mono (fun r zM33 h => ?_)
              obtain ⟨zr34, rfl, h⟩ := h
              simp only [Option.toList_some, Option.toList_none, List.cons_append, List.nil_append]
              exact i_ireturn 31 rfl rfl h
    · replace h := h.2 c
      refine i_iload_n 6 rfl rfl ?_
      refine i_iconst 7 rfl (by decide) ?_
      refine i_icmp_ne 29 8 rfl (by decide) (fun c => ?_) (fun c => ?_)
      · refine i_iconst 15 rfl (by decide) ?_
        refine i_istore 16 rfl (by decide) rfl ?_
        refine i_aload_n 17 rfl rfl (by decide) ?_
        refine i_iload_n 18 rfl rfl ?_
        refine i_callV (c := 10) (y1 := m_X10_isNoSpot) (z1 := (1, 0, 0)) (z2 := (2, 0, 0)) [(0, a1)] 19 rfl ml_986 ok_X10_isNoSpot vk_X10_isNoSpot ⟨by decide, rfl⟩ rfl ⟨rfl, Nat.le_of_ble_eq_true rfl⟩ (Nat.le_of_ble_eq_true rfl) ⟨by decide, rfl, rfl, rfl⟩ ?_
        refine h.mono (fun r zM35 h => ?_)
        obtain ⟨zr36, rfl, h⟩ := h
        simp only [Option.toList_some, Option.toList_none, List.cons_append, List.nil_append]
        refine i_if_ne 54 20 rfl (by decide) (fun c => ?_) (fun c => ?_)
        · replace h := h.1 c
          refine i_aload_n 28 rfl rfl (by decide) ?_
          refine i_iconst 29 rfl (by decide) ?_
          refine i_callV (c := 10) (y1 := m_X10_tell) (z1 := (1, 0, 0)) (z2 := (2, 0, 0)) [(0, 0)] 30 rfl ml_400 ok_X10_tell vk_X10_tell ⟨by decide, rfl⟩ rfl ⟨rfl, Nat.le_of_ble_eq_true rfl⟩ (Nat.le_of_ble_eq_true rfl) ⟨by decide, rfl, rfl, rfl⟩ ?_
          refine h.mono (fun r zM37 h => ?_)
          obtain ⟨zr38, rfl, h⟩ := h
          simp only [Option.toList_some, Option.toList_none, List.cons_append, List.nil_append]
          exact i_ireturn 31 rfl rfl h
        · replace h := h.2 c
          refine i_iload_n 21 rfl rfl ?_
          refine i_if_lt 54 22 rfl (by decide) (fun c => ?_) (fun c => ?_)
          · exact absurd c (by omega)
          · refine i_iload_n 23 rfl rfl ?_
            refine i_iconst 24 rfl (by decide) ?_
            refine i_icmp_gt 54 25 rfl (by decide) (fun c => ?_) (fun c => ?_)
            · exact absurd c (by omega)
            · refine i_iload 26 rfl rfl ?_
              refine i_if_eq 60 27 rfl (by decide) (fun c => ?_) (fun c => ?_)
              · refine i_aload_n 32 rfl rfl (by decide) ?_
                refine i_getP (c := 10) (k := 10) (t := 116) (b := 89) 33 rfl fl_356 (by decide) rfl (by decide) rfl ?_
                refine i_iload_n 34 rfl rfl ?_
                refine i_aald (τ := 16) (t := 17) (len := 10) (b := (89 + 1 + 1 * a1)) 35 rfl (by decide) rfl h.1.1 h.1.2 ?_
                replace h := h.2
                refine i_astore 36 rfl (by decide) (by decide) rfl ?_
                refine i_iload_n 37 rfl rfl ?_
                refine i_if_ne 83 38 rfl (by decide) (fun c => ?_) (fun c => ?_)
                · exact absurd c (by omega)
                · refine i_aload 39 rfl rfl (by decide) ?_
                  refine i_iconst 40 rfl (by decide) ?_
                  refine i_iload_n 41 rfl rfl ?_
                  refine i_null 42 rfl ?_
                  refine i_callV (c := 7) (y1 := m_X7_keep) (z1 := (1, 0, 0)) (z2 := (2, 0, 0)) [(0, 1), (0, a3), (2, (-1))] 43 rfl ml_990 ok_X7_keep vk_X7_keep ⟨by decide, rfl⟩ rfl ⟨rfl, Nat.le_of_ble_eq_true rfl⟩ (Nat.le_of_ble_eq_true rfl) ⟨by decide, rfl, rfl, rfl⟩ ?_
                  refine h.mono (fun r zM39 h => ?_)
                  obtain ⟨rfl, h⟩ := h
                  simp only [Option.toList_some, Option.toList_none, List.cons_append, List.nil_append]
                  refine i_goto 147 44 rfl (by decide) ?_
                  refine i_iconst 80 rfl (by decide) ?_
                  exact i_ireturn 81 rfl rfl h
              · exact absurd c (by decide)
      · exact absurd c (by omega)
theorem u_X10_taken_0 {l : Launch} {E : xE} (a1 a2 : Int) {M : xM} {Q : Option xV → xM → Prop} (h : x_Ev l E (1, 0, 0) m_X10_isNoSpot 0 [(20, 5), (0, a1)] [] M (fun r zM1 => ∃ zr2, r = some (0, zr2) ∧ (¬ zr2 = 0 → x_Ev l E (1, 0, 0) m_X10_tell 0 [(20, 5), (0, 0)] [] zM1 (fun r zM3 => ∃ zr4, r = some (0, zr4) ∧ Q (some (0, zr4)) zM3)) ∧ (zr2 = 0 → (a2 < 0 → x_Ev l E (1, 0, 0) m_X10_tell 0 [(20, 5), (0, 0)] [] zM1 (fun r zM5 => ∃ zr6, r = some (0, zr6) ∧ Q (some (0, zr6)) zM5)) ∧ (¬ a2 < 0 → (a2 ≤ 10 → ((0 : Int) ≤ a1 ∧ (a1 : Int) < 10) ∧ x_Ev l E (1, 0, 0) m_X7_holdsNow 0 [(17, (89 + 1 + 1 * a1)), (19, 6)] [] zM1 (fun r zM7 => ∃ zr8, r = some (0, zr8) ∧ (¬ zr8 = 0 → (7 ≤ a2 → (¬ a2 = 7 → ((zM7 (89 + 1 + 1 * a1) 2) < 0 → x_Ev l E (1, 0, 0) m_X10_tell 0 [(20, 5), (0, 2)] [] zM7 (fun r zM9 => ∃ zr10, r = some (0, zr10) ∧ Q (some (0, zr10)) zM9)) ∧ (¬ (zM7 (89 + 1 + 1 * a1) 2) < 0 → (0 ≤ (zM7 (89 + 1 + 1 * a1) 2)) ∧ (¬ (zM7 (zM7 (89 + 1 + 1 * a1) 2) 0) = (x_w (a2 - 8)) → x_Ev l E (1, 0, 0) m_X10_tell 0 [(20, 5), (0, 2)] [] zM7 (fun r zM11 => ∃ zr12, r = some (0, zr12) ∧ Q (some (0, zr12)) zM11)) ∧ ((zM7 (zM7 (89 + 1 + 1 * a1) 2) 0) = (x_w (a2 - 8)) → (0 ≤ (zM7 (89 + 1 + 1 * a1) 2)) ∧ (0 ≤ zM7 (((zM7 (89 + 1 + 1 * a1) 2) + 1) - 1) 1 ∧ zM7 (((zM7 (89 + 1 + 1 * a1) 2) + 1) - 1) 1 < 2147483648) ∧ Q (some (0, (zM7 (((zM7 (89 + 1 + 1 * a1) 2) + 1) - 1) 1))) zM7))) ∧ (a2 = 7 → (¬ (zM7 (89 + 1 + 1 * a1) 0) = 2 → ((zM7 (89 + 1 + 1 * a1) 2) < 0 → x_Ev l E (1, 0, 0) m_X10_tell 0 [(20, 5), (0, 2)] [] zM7 (fun r zM13 => ∃ zr14, r = some (0, zr14) ∧ Q (some (0, zr14)) zM13)) ∧ (¬ (zM7 (89 + 1 + 1 * a1) 2) < 0 → (0 ≤ (zM7 (89 + 1 + 1 * a1) 2)) ∧ (¬ (zM7 (zM7 (89 + 1 + 1 * a1) 2) 0) = (x_w (a2 - 8)) → x_Ev l E (1, 0, 0) m_X10_tell 0 [(20, 5), (0, 2)] [] zM7 (fun r zM15 => ∃ zr16, r = some (0, zr16) ∧ Q (some (0, zr16)) zM15)) ∧ ((zM7 (zM7 (89 + 1 + 1 * a1) 2) 0) = (x_w (a2 - 8)) → (0 ≤ (zM7 (89 + 1 + 1 * a1) 2)) ∧ (0 ≤ zM7 (((zM7 (89 + 1 + 1 * a1) 2) + 1) - 1) 1 ∧ zM7 (((zM7 (89 + 1 + 1 * a1) 2) + 1) - 1) 1 < 2147483648) ∧ Q (some (0, (zM7 (((zM7 (89 + 1 + 1 * a1) 2) + 1) - 1) 1))) zM7))) ∧ ((zM7 (89 + 1 + 1 * a1) 0) = 2 → Q (some (0, (zM7 (89 + 1 + 1 * a1) 1))) zM7))) ∧ (¬ 7 ≤ a2 → (¬ (zM7 (89 + 1 + 1 * a1) 0) = 1 → ((zM7 (89 + 1 + 1 * a1) 2) < 0 → x_Ev l E (1, 0, 0) m_X10_tell 0 [(20, 5), (0, 2)] [] zM7 (fun r zM17 => ∃ zr18, r = some (0, zr18) ∧ Q (some (0, zr18)) zM17)) ∧ (¬ (zM7 (89 + 1 + 1 * a1) 2) < 0 → (0 ≤ (zM7 (89 + 1 + 1 * a1) 2)) ∧ (¬ (zM7 (zM7 (89 + 1 + 1 * a1) 2) 0) = (x_w (a2 - 8)) → x_Ev l E (1, 0, 0) m_X10_tell 0 [(20, 5), (0, 2)] [] zM7 (fun r zM19 => ∃ zr20, r = some (0, zr20) ∧ Q (some (0, zr20)) zM19)) ∧ ((zM7 (zM7 (89 + 1 + 1 * a1) 2) 0) = (x_w (a2 - 8)) → (0 ≤ (zM7 (89 + 1 + 1 * a1) 2)) ∧ (0 ≤ zM7 (((zM7 (89 + 1 + 1 * a1) 2) + 1) - 1) 1 ∧ zM7 (((zM7 (89 + 1 + 1 * a1) 2) + 1) - 1) 1 < 2147483648) ∧ Q (some (0, (zM7 (((zM7 (89 + 1 + 1 * a1) 2) + 1) - 1) 1))) zM7))) ∧ ((zM7 (89 + 1 + 1 * a1) 0) = 1 → ((0 : Int) ≤ (zM7 (89 + 1 + 1 * a1) 1) ∧ ((zM7 (89 + 1 + 1 * a1) 1) : Int) < 3) ∧ x_Ev l E (1, 0, 0) m_X1_isOfKind 0 [(11, (8 + 1 + 4 * (zM7 (89 + 1 + 1 * a1) 1))), (0, a2), (5, 0), (5, 0)] [] zM7 (fun r zM21 => ∃ zr22, r = some (0, zr22) ∧ (zr22 = 0 → ((zM21 (89 + 1 + 1 * a1) 2) < 0 → x_Ev l E (1, 0, 0) m_X10_tell 0 [(20, 5), (0, 2)] [] zM21 (fun r zM23 => ∃ zr24, r = some (0, zr24) ∧ Q (some (0, zr24)) zM23)) ∧ (¬ (zM21 (89 + 1 + 1 * a1) 2) < 0 → (0 ≤ (zM21 (89 + 1 + 1 * a1) 2)) ∧ (¬ (zM21 (zM21 (89 + 1 + 1 * a1) 2) 0) = (x_w (a2 - 8)) → x_Ev l E (1, 0, 0) m_X10_tell 0 [(20, 5), (0, 2)] [] zM21 (fun r zM25 => ∃ zr26, r = some (0, zr26) ∧ Q (some (0, zr26)) zM25)) ∧ ((zM21 (zM21 (89 + 1 + 1 * a1) 2) 0) = (x_w (a2 - 8)) → (0 ≤ (zM21 (89 + 1 + 1 * a1) 2)) ∧ (0 ≤ zM21 (((zM21 (89 + 1 + 1 * a1) 2) + 1) - 1) 1 ∧ zM21 (((zM21 (89 + 1 + 1 * a1) 2) + 1) - 1) 1 < 2147483648) ∧ Q (some (0, (zM21 (((zM21 (89 + 1 + 1 * a1) 2) + 1) - 1) 1))) zM21))) ∧ (¬ zr22 = 0 → Q (some (0, (zM21 (89 + 1 + 1 * a1) 1))) zM21))))) ∧ (zr8 = 0 → x_Ev l E (1, 0, 0) m_X10_tell 0 [(20, 5), (0, 5)] [] zM7 (fun r zM27 => ∃ zr28, r = some (0, zr28) ∧ Q (some (0, zr28)) zM27)))) ∧ (¬ a2 ≤ 10 → x_Ev l E (1, 0, 0) m_X10_tell 0 [(20, 5), (0, 0)] [] zM1 (fun r zM29 => ∃ zr30, r = some (0, zr30) ∧ Q (some (0, zr30)) zM29)))))) : x_Ev l E (2, 0, 0) m_X10_taken 0 [(20, 5), (0, a1), (0, a2), (5, 0), (5, 0)] [] M Q := by
  refine i_aload_n 0 rfl rfl (by decide) ?_
  refine i_iload_n 1 rfl rfl ?_
  refine i_callV (c := 10) (y1 := m_X10_isNoSpot) (z1 := (1, 0, 0)) (z2 := (2, 0, 0)) [(0, a1)] 2 rfl ml_986 ok_X10_isNoSpot vk_X10_isNoSpot ⟨by decide, rfl⟩ rfl ⟨rfl, Nat.le_of_ble_eq_true rfl⟩ (Nat.le_of_ble_eq_true rfl) ⟨by decide, rfl, rfl, rfl⟩ ?_
  refine h.mono (fun r zM1 h => ?_)
  obtain ⟨zr2, rfl, h⟩ := h
  simp only [Option.toList_some, Option.toList_none, List.cons_append, List.nil_append]
  refine i_if_ne 18 3 rfl (by decide) (fun c => ?_) (fun c => ?_)
  · replace h := h.1 c
    refine i_aload_n 9 rfl rfl (by decide) ?_
    refine i_iconst 10 rfl (by decide) ?_
    refine i_callV (c := 10) (y1 := m_X10_tell) (z1 := (1, 0, 0)) (z2 := (2, 0, 0)) [(0, 0)] 11 rfl ml_400 ok_X10_tell vk_X10_tell ⟨by decide, rfl⟩ rfl ⟨rfl, Nat.le_of_ble_eq_true rfl⟩ (Nat.le_of_ble_eq_true rfl) ⟨by decide, rfl, rfl, rfl⟩ ?_
    refine h.mono (fun r zM3 h => ?_)
    obtain ⟨zr4, rfl, h⟩ := h
    simp only [Option.toList_some, Option.toList_none, List.cons_append, List.nil_append]
    exact i_ireturn 12 rfl rfl h
  · replace h := h.2 c
    refine i_iload_n 4 rfl rfl ?_
    refine i_if_lt 18 5 rfl (by decide) (fun c => ?_) (fun c => ?_)
    · replace h := h.1 c
      refine i_aload_n 9 rfl rfl (by decide) ?_
      refine i_iconst 10 rfl (by decide) ?_
      refine i_callV (c := 10) (y1 := m_X10_tell) (z1 := (1, 0, 0)) (z2 := (2, 0, 0)) [(0, 0)] 11 rfl ml_400 ok_X10_tell vk_X10_tell ⟨by decide, rfl⟩ rfl ⟨rfl, Nat.le_of_ble_eq_true rfl⟩ (Nat.le_of_ble_eq_true rfl) ⟨by decide, rfl, rfl, rfl⟩ ?_
      refine h.mono (fun r zM5 h => ?_)
      obtain ⟨zr6, rfl, h⟩ := h
      simp only [Option.toList_some, Option.toList_none, List.cons_append, List.nil_append]
      exact i_ireturn 12 rfl rfl h
    · replace h := h.2 c
      refine i_iload_n 6 rfl rfl ?_
      refine i_bipush 7 rfl (by decide) ?_
      refine i_icmp_le 24 8 rfl (by decide) (fun c => ?_) (fun c => ?_)
      · replace h := h.1 c
        refine i_aload_n 13 rfl rfl (by decide) ?_
        refine i_getP (c := 10) (k := 10) (t := 116) (b := 89) 14 rfl fl_356 (by decide) rfl (by decide) rfl ?_
        refine i_iload_n 15 rfl rfl ?_
        refine i_aald (τ := 16) (t := 17) (len := 10) (b := (89 + 1 + 1 * a1)) 16 rfl (by decide) rfl h.1.1 h.1.2 ?_
        replace h := h.2
        refine i_astore_n 17 rfl (by decide) (by decide) rfl ?_
        refine i_aload_n 18 rfl rfl (by decide) ?_
        refine i_aload_n 19 rfl rfl (by decide) ?_
        refine i_getP (c := 10) (k := 0) (t := 19) (b := 6) 20 rfl fl_346 (by decide) rfl (by decide) rfl ?_
        refine i_callV (c := 7) (y1 := m_X7_holdsNow) (z1 := (1, 0, 0)) (z2 := (2, 0, 0)) [(19, 6)] 21 rfl ml_999 ok_X7_holdsNow vk_X7_holdsNow ⟨by decide, rfl⟩ rfl ⟨rfl, Nat.le_of_ble_eq_true rfl⟩ (Nat.le_of_ble_eq_true rfl) ⟨by decide, rfl, rfl, rfl⟩ ?_
        refine h.mono (fun r zM7 h => ?_)
        obtain ⟨zr8, rfl, h⟩ := h
        simp only [Option.toList_some, Option.toList_none, List.cons_append, List.nil_append]
        refine i_if_ne 48 22 rfl (by decide) (fun c => ?_) (fun c => ?_)
        · replace h := h.1 c
          refine i_iload_n 27 rfl rfl ?_
          refine i_bipush 28 rfl (by decide) ?_
          refine i_icmp_ge 86 29 rfl (by decide) (fun c => ?_) (fun c => ?_)
          · replace h := h.1 c
            refine i_iload_n 46 rfl rfl ?_
            refine i_bipush 47 rfl (by decide) ?_
            refine i_icmp_ne 105 48 rfl (by decide) (fun c => ?_) (fun c => ?_)
            · replace h := h.1 c
              refine i_aload_n 56 rfl rfl (by decide) ?_
              refine i_getR (c := 7) (k := 2) 57 rfl fl_338 (by decide) ?_
              refine i_astore 58 rfl (by decide) (by decide) rfl ?_
              refine i_aload 59 rfl rfl (by decide) ?_
              refine i_ifnull 135 60 rfl (by decide) (by decide) (fun c => ?_) (fun c => ?_)
              · replace h := h.1 c
                refine i_aload_n 71 rfl rfl (by decide) ?_
                refine i_iconst 72 rfl (by decide) ?_
                refine i_callV (c := 10) (y1 := m_X10_tell) (z1 := (1, 0, 0)) (z2 := (2, 0, 0)) [(0, 2)] 73 rfl ml_400 ok_X10_tell vk_X10_tell ⟨by decide, rfl⟩ rfl ⟨rfl, Nat.le_of_ble_eq_true rfl⟩ (Nat.le_of_ble_eq_true rfl) ⟨by decide, rfl, rfl, rfl⟩ ?_
                refine h.mono (fun r zM9 h => ?_)
                obtain ⟨zr10, rfl, h⟩ := h
                simp only [Option.toList_some, Option.toList_none, List.cons_append, List.nil_append]
                exact i_ireturn 74 rfl rfl h
              · replace h := h.2 c
                refine i_aload 61 rfl rfl (by decide) ?_
                refine i_rowI 62 rfl fl_953 h.1 ?_
                replace h := h.2
                refine i_iload_n 63 rfl rfl ?_
                refine i_bipush 64 rfl (by decide) ?_
                refine i_isub 65 rfl ?_
                refine i_icmp_ne 135 66 rfl (by decide) (fun c => ?_) (fun c => ?_)
                · replace h := h.1 c
                  refine i_aload_n 71 rfl rfl (by decide) ?_
                  refine i_iconst 72 rfl (by decide) ?_
                  refine i_callV (c := 10) (y1 := m_X10_tell) (z1 := (1, 0, 0)) (z2 := (2, 0, 0)) [(0, 2)] 73 rfl ml_400 ok_X10_tell vk_X10_tell ⟨by decide, rfl⟩ rfl ⟨rfl, Nat.le_of_ble_eq_true rfl⟩ (Nat.le_of_ble_eq_true rfl) ⟨by decide, rfl, rfl, rfl⟩ ?_
                  refine h.mono (fun r zM11 h => ?_)
                  obtain ⟨zr12, rfl, h⟩ := h
                  simp only [Option.toList_some, Option.toList_none, List.cons_append, List.nil_append]
                  exact i_ireturn 74 rfl rfl h
                · replace h := h.2 c
                  refine i_aload 67 rfl rfl (by decide) ?_
                  refine i_rowP 68 rfl fl_955 h.1 ?_
                  replace h := h.2
                  refine i_alenR 69 rfl h.1 ?_
                  replace h := h.2
                  exact i_ireturn 70 rfl rfl h
            · replace h := h.2 c
              refine i_aload_n 49 rfl rfl (by decide) ?_
              refine i_getI (c := 7) (k := 0) 50 rfl fl_334 (by decide) (by decide) ?_
              refine i_iconst 51 rfl (by decide) ?_
              refine i_icmp_ne 105 52 rfl (by decide) (fun c => ?_) (fun c => ?_)
              · replace h := h.1 c
                refine i_aload_n 56 rfl rfl (by decide) ?_
                refine i_getR (c := 7) (k := 2) 57 rfl fl_338 (by decide) ?_
                refine i_astore 58 rfl (by decide) (by decide) rfl ?_
                refine i_aload 59 rfl rfl (by decide) ?_
                refine i_ifnull 135 60 rfl (by decide) (by decide) (fun c => ?_) (fun c => ?_)
                · replace h := h.1 c
                  refine i_aload_n 71 rfl rfl (by decide) ?_
                  refine i_iconst 72 rfl (by decide) ?_
                  refine i_callV (c := 10) (y1 := m_X10_tell) (z1 := (1, 0, 0)) (z2 := (2, 0, 0)) [(0, 2)] 73 rfl ml_400 ok_X10_tell vk_X10_tell ⟨by decide, rfl⟩ rfl ⟨rfl, Nat.le_of_ble_eq_true rfl⟩ (Nat.le_of_ble_eq_true rfl) ⟨by decide, rfl, rfl, rfl⟩ ?_
                  refine h.mono (fun r zM13 h => ?_)
                  obtain ⟨zr14, rfl, h⟩ := h
                  simp only [Option.toList_some, Option.toList_none, List.cons_append, List.nil_append]
                  exact i_ireturn 74 rfl rfl h
                · replace h := h.2 c
                  refine i_aload 61 rfl rfl (by decide) ?_
                  refine i_rowI 62 rfl fl_953 h.1 ?_
                  replace h := h.2
                  refine i_iload_n 63 rfl rfl ?_
                  refine i_bipush 64 rfl (by decide) ?_
                  refine i_isub 65 rfl ?_
                  refine i_icmp_ne 135 66 rfl (by decide) (fun c => ?_) (fun c => ?_)
                  · replace h := h.1 c
                    refine i_aload_n 71 rfl rfl (by decide) ?_
                    refine i_iconst 72 rfl (by decide) ?_
                    refine i_callV (c := 10) (y1 := m_X10_tell) (z1 := (1, 0, 0)) (z2 := (2, 0, 0)) [(0, 2)] 73 rfl ml_400 ok_X10_tell vk_X10_tell ⟨by decide, rfl⟩ rfl ⟨rfl, Nat.le_of_ble_eq_true rfl⟩ (Nat.le_of_ble_eq_true rfl) ⟨by decide, rfl, rfl, rfl⟩ ?_
                    refine h.mono (fun r zM15 h => ?_)
                    obtain ⟨zr16, rfl, h⟩ := h
                    simp only [Option.toList_some, Option.toList_none, List.cons_append, List.nil_append]
                    exact i_ireturn 74 rfl rfl h
                  · replace h := h.2 c
                    refine i_aload 67 rfl rfl (by decide) ?_
                    refine i_rowP 68 rfl fl_955 h.1 ?_
                    replace h := h.2
                    refine i_alenR 69 rfl h.1 ?_
                    replace h := h.2
                    exact i_ireturn 70 rfl rfl h
              · replace h := h.2 c
                refine i_aload_n 53 rfl rfl (by decide) ?_
                refine i_getI (c := 7) (k := 1) 54 rfl fl_336 (by decide) (by decide) ?_
                exact i_ireturn 55 rfl rfl h
          · replace h := h.2 c
            refine i_aload_n 30 rfl rfl (by decide) ?_
            refine i_getI (c := 7) (k := 0) 31 rfl fl_334 (by decide) (by decide) ?_
            refine i_iconst 32 rfl (by decide) ?_
            refine i_icmp_ne 86 33 rfl (by decide) (fun c => ?_) (fun c => ?_)
            · replace h := h.1 c
              refine i_iload_n 46 rfl rfl ?_
              refine i_bipush 47 rfl (by decide) ?_
              refine i_icmp_ne 105 48 rfl (by decide) (fun c => ?_) (fun c => ?_)
              · refine i_aload_n 56 rfl rfl (by decide) ?_
                refine i_getR (c := 7) (k := 2) 57 rfl fl_338 (by decide) ?_
                refine i_astore 58 rfl (by decide) (by decide) rfl ?_
                refine i_aload 59 rfl rfl (by decide) ?_
                refine i_ifnull 135 60 rfl (by decide) (by decide) (fun c => ?_) (fun c => ?_)
                · replace h := h.1 c
                  refine i_aload_n 71 rfl rfl (by decide) ?_
                  refine i_iconst 72 rfl (by decide) ?_
                  refine i_callV (c := 10) (y1 := m_X10_tell) (z1 := (1, 0, 0)) (z2 := (2, 0, 0)) [(0, 2)] 73 rfl ml_400 ok_X10_tell vk_X10_tell ⟨by decide, rfl⟩ rfl ⟨rfl, Nat.le_of_ble_eq_true rfl⟩ (Nat.le_of_ble_eq_true rfl) ⟨by decide, rfl, rfl, rfl⟩ ?_
                  refine h.mono (fun r zM17 h => ?_)
                  obtain ⟨zr18, rfl, h⟩ := h
                  simp only [Option.toList_some, Option.toList_none, List.cons_append, List.nil_append]
                  exact i_ireturn 74 rfl rfl h
                · replace h := h.2 c
                  refine i_aload 61 rfl rfl (by decide) ?_
                  refine i_rowI 62 rfl fl_953 h.1 ?_
                  replace h := h.2
                  refine i_iload_n 63 rfl rfl ?_
                  refine i_bipush 64 rfl (by decide) ?_
                  refine i_isub 65 rfl ?_
                  refine i_icmp_ne 135 66 rfl (by decide) (fun c => ?_) (fun c => ?_)
                  · replace h := h.1 c
                    refine i_aload_n 71 rfl rfl (by decide) ?_
                    refine i_iconst 72 rfl (by decide) ?_
                    refine i_callV (c := 10) (y1 := m_X10_tell) (z1 := (1, 0, 0)) (z2 := (2, 0, 0)) [(0, 2)] 73 rfl ml_400 ok_X10_tell vk_X10_tell ⟨by decide, rfl⟩ rfl ⟨rfl, Nat.le_of_ble_eq_true rfl⟩ (Nat.le_of_ble_eq_true rfl) ⟨by decide, rfl, rfl, rfl⟩ ?_
                    refine h.mono (fun r zM19 h => ?_)
                    obtain ⟨zr20, rfl, h⟩ := h
                    simp only [Option.toList_some, Option.toList_none, List.cons_append, List.nil_append]
                    exact i_ireturn 74 rfl rfl h
                  · replace h := h.2 c
                    refine i_aload 67 rfl rfl (by decide) ?_
                    refine i_rowP 68 rfl fl_955 h.1 ?_
                    replace h := h.2
                    refine i_alenR 69 rfl h.1 ?_
                    replace h := h.2
                    exact i_ireturn 70 rfl rfl h
              · exact absurd c (by omega)
            · replace h := h.2 c
              refine i_aload_n 34 rfl rfl (by decide) ?_
              refine i_getP (c := 10) (k := 0) (t := 19) (b := 6) 35 rfl fl_346 (by decide) rfl (by decide) rfl ?_
              refine i_getP (c := 9) (k := 6) (t := 100) (b := 8) 36 rfl fl_121 (by decide) rfl (by decide) rfl ?_
              refine i_aload_n 37 rfl rfl (by decide) ?_
              refine i_getI (c := 7) (k := 1) 38 rfl fl_336 (by decide) (by decide) ?_
              refine i_aald (τ := 0) (t := 11) (len := 3) (b := (8 + 1 + 4 * (zM7 (89 + 1 + 1 * a1) 1))) 39 rfl (by decide) rfl h.1.1 h.1.2 ?_
              replace h := h.2
              refine i_iload_n 40 rfl rfl ?_
              refine i_callV (c := 1) (y1 := m_X1_isOfKind) (z1 := (1, 0, 0)) (z2 := (2, 0, 0)) [(0, a2)] 41 rfl ml_1003 ok_X1_isOfKind vk_X1_isOfKind ⟨by decide, rfl⟩ rfl ⟨rfl, Nat.le_of_ble_eq_true rfl⟩ (Nat.le_of_ble_eq_true rfl) ⟨by decide, rfl, rfl, rfl⟩ ?_
              refine h.mono (fun r zM21 h => ?_)
              obtain ⟨zr22, rfl, h⟩ := h
              simp only [Option.toList_some, Option.toList_none, List.cons_append, List.nil_append]
              refine i_if_eq 86 42 rfl (by decide) (fun c => ?_) (fun c => ?_)
              · replace h := h.1 c
                refine i_iload_n 46 rfl rfl ?_
                refine i_bipush 47 rfl (by decide) ?_
                refine i_icmp_ne 105 48 rfl (by decide) (fun c => ?_) (fun c => ?_)
                · refine i_aload_n 56 rfl rfl (by decide) ?_
                  refine i_getR (c := 7) (k := 2) 57 rfl fl_338 (by decide) ?_
                  refine i_astore 58 rfl (by decide) (by decide) rfl ?_
                  refine i_aload 59 rfl rfl (by decide) ?_
                  refine i_ifnull 135 60 rfl (by decide) (by decide) (fun c => ?_) (fun c => ?_)
                  · replace h := h.1 c
                    refine i_aload_n 71 rfl rfl (by decide) ?_
                    refine i_iconst 72 rfl (by decide) ?_
                    refine i_callV (c := 10) (y1 := m_X10_tell) (z1 := (1, 0, 0)) (z2 := (2, 0, 0)) [(0, 2)] 73 rfl ml_400 ok_X10_tell vk_X10_tell ⟨by decide, rfl⟩ rfl ⟨rfl, Nat.le_of_ble_eq_true rfl⟩ (Nat.le_of_ble_eq_true rfl) ⟨by decide, rfl, rfl, rfl⟩ ?_
                    refine h.mono (fun r zM23 h => ?_)
                    obtain ⟨zr24, rfl, h⟩ := h
                    simp only [Option.toList_some, Option.toList_none, List.cons_append, List.nil_append]
                    exact i_ireturn 74 rfl rfl h
                  · replace h := h.2 c
                    refine i_aload 61 rfl rfl (by decide) ?_
                    refine i_rowI 62 rfl fl_953 h.1 ?_
                    replace h := h.2
                    refine i_iload_n 63 rfl rfl ?_
                    refine i_bipush 64 rfl (by decide) ?_
                    refine i_isub 65 rfl ?_
                    refine i_icmp_ne 135 66 rfl (by decide) (fun c => ?_) (fun c => ?_)
                    · replace h := h.1 c
                      refine i_aload_n 71 rfl rfl (by decide) ?_
                      refine i_iconst 72 rfl (by decide) ?_
                      refine i_callV (c := 10) (y1 := m_X10_tell) (z1 := (1, 0, 0)) (z2 := (2, 0, 0)) [(0, 2)] 73 rfl ml_400 ok_X10_tell vk_X10_tell ⟨by decide, rfl⟩ rfl ⟨rfl, Nat.le_of_ble_eq_true rfl⟩ (Nat.le_of_ble_eq_true rfl) ⟨by decide, rfl, rfl, rfl⟩ ?_
                      refine h.mono (fun r zM25 h => ?_)
                      obtain ⟨zr26, rfl, h⟩ := h
                      simp only [Option.toList_some, Option.toList_none, List.cons_append, List.nil_append]
                      exact i_ireturn 74 rfl rfl h
                    · replace h := h.2 c
                      refine i_aload 67 rfl rfl (by decide) ?_
                      refine i_rowP 68 rfl fl_955 h.1 ?_
                      replace h := h.2
                      refine i_alenR 69 rfl h.1 ?_
                      replace h := h.2
                      exact i_ireturn 70 rfl rfl h
                · exact absurd c (by omega)
              · replace h := h.2 c
                refine i_aload_n 43 rfl rfl (by decide) ?_
                refine i_getI (c := 7) (k := 1) 44 rfl fl_336 (by decide) (by decide) ?_
                exact i_ireturn 45 rfl rfl h
        · replace h := h.2 c
          refine i_aload_n 23 rfl rfl (by decide) ?_
          refine i_iconst 24 rfl (by decide) ?_
          refine i_callV (c := 10) (y1 := m_X10_tell) (z1 := (1, 0, 0)) (z2 := (2, 0, 0)) [(0, 5)] 25 rfl ml_400 ok_X10_tell vk_X10_tell ⟨by decide, rfl⟩ rfl ⟨rfl, Nat.le_of_ble_eq_true rfl⟩ (Nat.le_of_ble_eq_true rfl) ⟨by decide, rfl, rfl, rfl⟩ ?_
          refine h.mono (fun r zM27 h => ?_)
          obtain ⟨zr28, rfl, h⟩ := h
          simp only [Option.toList_some, Option.toList_none, List.cons_append, List.nil_append]
          exact i_ireturn 26 rfl rfl h
      · replace h := h.2 c
        refine i_aload_n 9 rfl rfl (by decide) ?_
        refine i_iconst 10 rfl (by decide) ?_
        refine i_callV (c := 10) (y1 := m_X10_tell) (z1 := (1, 0, 0)) (z2 := (2, 0, 0)) [(0, 0)] 11 rfl ml_400 ok_X10_tell vk_X10_tell ⟨by decide, rfl⟩ rfl ⟨rfl, Nat.le_of_ble_eq_true rfl⟩ (Nat.le_of_ble_eq_true rfl) ⟨by decide, rfl, rfl, rfl⟩ ?_
        refine h.mono (fun r zM29 h => ?_)
        obtain ⟨zr30, rfl, h⟩ := h
        simp only [Option.toList_some, Option.toList_none, List.cons_append, List.nil_append]
        exact i_ireturn 12 rfl rfl h
theorem u_X10_image_0 {l : Launch} {E : xE} {M : xM} {Q : Option xV → xM → Prop} (h : x_Ev l E (3, 0, 0) m_X9_takeAll 0 [(19, 21), (19, 6), (5, 0)] [] M (fun r zM1 => r = none ∧ ∀ zM2 : xM, zM2 = x_wr zM1 5 2 1 → Q (some (0, 1)) zM2)) : x_Ev l E (4, 0, 0) m_X10_image 0 [(20, 5)] [] M Q := by
  refine i_aload_n 0 rfl rfl (by decide) ?_
  refine i_getP (c := 10) (k := 1) (t := 19) (b := 21) 1 rfl fl_347 (by decide) rfl (by decide) rfl ?_
  refine i_aload_n 2 rfl rfl (by decide) ?_
  refine i_getP (c := 10) (k := 0) (t := 19) (b := 6) 3 rfl fl_346 (by decide) rfl (by decide) rfl ?_
  refine i_callV (c := 9) (y1 := m_X9_takeAll) (z1 := (3, 0, 0)) (z2 := (4, 0, 0)) [(19, 6)] 4 rfl ml_1013 ok_X9_takeAll vk_X9_takeAll ⟨by decide, rfl⟩ rfl ⟨rfl, Nat.le_of_ble_eq_true rfl⟩ (Nat.le_of_ble_eq_true rfl) ⟨by decide, rfl, rfl, rfl⟩ ?_
  refine h.mono (fun r zM1 h => ?_)
  obtain ⟨rfl, h⟩ := h
  simp only [Option.toList_some, Option.toList_none, List.cons_append, List.nil_append]
  refine i_aload_n 5 rfl rfl (by decide) ?_
  refine i_iconst 6 rfl (by decide) ?_
  replace h := h _ rfl
  refine i_putZ (c := 10) (k := 2) 7 rfl fl_348 (by decide) ⟨rfl, rfl, rfl⟩ (by decide) ?_
  refine i_iconst 8 rfl (by decide) ?_
  exact i_ireturn 9 rfl rfl h
theorem u_X10_back_0 {l : Launch} {E : xE} {M : xM} {Q : Option xV → xM → Prop} (h : (¬ (M 5 2) = 0 → x_Ev l E (3, 0, 0) m_X9_takeAll 0 [(19, 6), (19, 21), (5, 0)] [] M (fun r zM1 => r = none ∧ x_Ev l E (5, 0, 0) m_X10_back 26 [(20, 5), (0, 0)] [] zM1 Q)) ∧ ((M 5 2) = 0 → x_Ev l E (1, 0, 0) m_X10_tell 0 [(20, 5), (0, 3)] [] M (fun r zM2 => ∃ zr3, r = some (0, zr3) ∧ Q (some (0, zr3)) zM2))) : x_Ev l E (5, 0, 0) m_X10_back 0 [(20, 5), (5, 0)] [] M Q := by
  refine i_aload_n 0 rfl rfl (by decide) ?_
  refine i_getI (c := 10) (k := 2) 1 rfl fl_348 (by decide) (by decide) ?_
  refine i_if_ne 13 2 rfl (by decide) (fun c => ?_) (fun c => ?_)
  · replace h := h.1 c
    refine i_aload_n 7 rfl rfl (by decide) ?_
    refine i_getP (c := 10) (k := 0) (t := 19) (b := 6) 8 rfl fl_346 (by decide) rfl (by decide) rfl ?_
    refine i_aload_n 9 rfl rfl (by decide) ?_
    refine i_getP (c := 10) (k := 1) (t := 19) (b := 21) 10 rfl fl_347 (by decide) rfl (by decide) rfl ?_
    refine i_callV (c := 9) (y1 := m_X9_takeAll) (z1 := (3, 0, 0)) (z2 := (5, 0, 0)) [(19, 21)] 11 rfl ml_1013 ok_X9_takeAll vk_X9_takeAll ⟨by decide, rfl⟩ rfl ⟨rfl, Nat.le_of_ble_eq_true rfl⟩ (Nat.le_of_ble_eq_true rfl) ⟨by decide, rfl, rfl, rfl⟩ ?_
    refine h.mono (fun r zM1 h => ?_)
    obtain ⟨rfl, h⟩ := h
    simp only [Option.toList_some, Option.toList_none, List.cons_append, List.nil_append]
    refine i_iconst 12 rfl (by decide) ?_
    refine i_istore_n 13 rfl (by decide) rfl ?_
    exact h
  · replace h := h.2 c
    refine i_aload_n 3 rfl rfl (by decide) ?_
    refine i_iconst 4 rfl (by decide) ?_
    refine i_callV (c := 10) (y1 := m_X10_tell) (z1 := (1, 0, 0)) (z2 := (5, 0, 0)) [(0, 3)] 5 rfl ml_400 ok_X10_tell vk_X10_tell ⟨by decide, rfl⟩ rfl ⟨rfl, Nat.le_of_ble_eq_true rfl⟩ (Nat.le_of_ble_eq_true rfl) ⟨by decide, rfl, rfl, rfl⟩ ?_
    refine h.mono (fun r zM2 h => ?_)
    obtain ⟨zr3, rfl, h⟩ := h
    simp only [Option.toList_some, Option.toList_none, List.cons_append, List.nil_append]
    exact i_ireturn 6 rfl rfl h
theorem u_X10_back_26 {l : Launch} {E : xE} (l1 : Int) {M : xM} {Q : Option xV → xM → Prop} (h : ((M 6 0) ≤ l1 → Q (some (0, (M 6 0))) M) ∧ (¬ (M 6 0) ≤ l1 → ((0 : Int) ≤ l1 ∧ (l1 : Int) < 3) ∧ x_Ev l E (4, 0, 0) m_X4_findAll 0 [(14, (41 + 8 + 9 * l1)), (5, 0), (5, 0), (5, 0)] [] M (fun r zM1 => r = none ∧ ∀ zv2 : Int, zv2 = x_w (l1 + 1) → x_Ev l E (5, 0, 0) m_X10_back 26 [(20, 5), (0, zv2)] [] zM1 Q))) : x_Ev l E (5, 0, 0) m_X10_back 26 [(20, 5), (0, l1)] [] M Q := by
  refine i_iload_n 14 rfl rfl ?_
  refine i_aload_n 15 rfl rfl (by decide) ?_
  refine i_getP (c := 10) (k := 0) (t := 19) (b := 6) 16 rfl fl_346 (by decide) rfl (by decide) rfl ?_
  refine i_getI (c := 9) (k := 0) 17 rfl fl_104 (by decide) (by decide) ?_
  refine i_icmp_ge 55 18 rfl (by decide) (fun c => ?_) (fun c => ?_)
  · replace h := h.1 c
    refine i_aload_n 27 rfl rfl (by decide) ?_
    refine i_getP (c := 10) (k := 0) (t := 19) (b := 6) 28 rfl fl_346 (by decide) rfl (by decide) rfl ?_
    refine i_getI (c := 9) (k := 0) 29 rfl fl_104 (by decide) (by decide) ?_
    exact i_ireturn 30 rfl rfl h
  · replace h := h.2 c
    refine i_aload_n 19 rfl rfl (by decide) ?_
    refine i_getP (c := 10) (k := 3) (t := 13) (b := 40) 20 rfl fl_349 (by decide) rfl (by decide) rfl ?_
    refine i_getP (c := 3) (k := 1) (t := 106) (b := 41) 21 rfl fl_255 (by decide) rfl (by decide) rfl ?_
    refine i_iload_n 22 rfl rfl ?_
    refine i_aald (τ := 6) (t := 14) (len := 3) (b := (41 + 8 + 9 * l1)) 23 rfl (by decide) rfl h.1.1 h.1.2 ?_
    replace h := h.2
    refine i_callV (c := 4) (y1 := m_X4_findAll) (z1 := (4, 0, 0)) (z2 := (5, 0, 0)) [] 24 rfl ml_419 ok_X4_findAll vk_X4_findAll ⟨by decide, rfl⟩ rfl ⟨rfl, Nat.le_of_ble_eq_true rfl⟩ (Nat.le_of_ble_eq_true rfl) ⟨by decide, rfl, rfl, rfl⟩ ?_
    refine h.mono (fun r zM1 h => ?_)
    obtain ⟨rfl, h⟩ := h
    simp only [Option.toList_some, Option.toList_none, List.cons_append, List.nil_append]
    replace h := h _ rfl
    refine i_iinc 25 rfl rfl (by decide) rfl ?_
    refine i_goto 26 26 rfl (by decide) ?_
    exact h
theorem u_X10_count_0 {l : Launch} {E : xE} (a1 : Int) {M : xM} {Q : Option xV → xM → Prop} (h : ((a1 < 0 ∨ 7 < a1) → x_Ev l E (1, 0, 0) m_X10_tell 0 [(20, 5), (0, 0)] [] M (fun r zM1 => ∃ zr2, r = some (0, zr2) ∧ Q (some (0, zr2)) zM1)) ∧ (a1 = 0 → Q (some (0, (M 6 0))) M) ∧ (a1 = 1 → Q (some (0, (M 6 1))) M) ∧ (a1 = 2 → Q (some (0, (M 6 2))) M) ∧ (a1 = 3 → Q (some (0, (M 6 3))) M) ∧ (a1 = 4 → Q (some (0, (M 5 12))) M) ∧ (a1 = 5 → x_Ev l E (2, 0, 0) m_X10_fullSpots 0 [(20, 5), (5, 0), (5, 0)] [] M (fun r zM3 => ∃ zr4, r = some (0, zr4) ∧ Q (some (0, zr4)) zM3)) ∧ (a1 = 6 → x_Ev l E (5, 0, 0) m_X3_gatherBreaks 0 [(13, 40), (0, (-1)), (0, (M 6 1)), (5, 0)] [] M (fun r zM5 => r = none ∧ Q (some (0, (x_w ((zM5 42 0) + 1)))) zM5)) ∧ (a1 = 7 → (¬ (M 6 4) = (x_w (M 6 4)) → x_Ev l E (1, 0, 0) m_X10_tell 0 [(20, 5), (0, 7)] [] M (fun r zM6 => ∃ zr7, r = some (0, zr7) ∧ Q (some (0, zr7)) zM6)) ∧ ((M 6 4) = (x_w (M 6 4)) → Q (some (0, (x_w (M 6 4)))) M))) : x_Ev l E (6, 0, 0) m_X10_count 0 [(20, 5), (0, a1)] [] M Q := by
  refine i_iload_n 0 rfl rfl ?_
  refine i_switch 156 1 rfl (by decide) (fun c => ?_) (fun c1 c2 => ?_)
  · replace h := h.1 c
    refine i_aload_n 57 rfl rfl (by decide) ?_
    refine i_iconst 58 rfl (by decide) ?_
    refine i_callV (c := 10) (y1 := m_X10_tell) (z1 := (1, 0, 0)) (z2 := (6, 0, 0)) [(0, 0)] 59 rfl ml_400 ok_X10_tell vk_X10_tell ⟨by decide, rfl⟩ rfl ⟨rfl, Nat.le_of_ble_eq_true rfl⟩ (Nat.le_of_ble_eq_true rfl) ⟨by decide, rfl, rfl, rfl⟩ ?_
    refine h.mono (fun r zM1 h => ?_)
    obtain ⟨zr2, rfl, h⟩ := h
    simp only [Option.toList_some, Option.toList_none, List.cons_append, List.nil_append]
    exact i_ireturn 60 rfl rfl h
  · replace h := h.2
    by_cases e0 : a1 = 0
    · refine ⟨47, 48, by rw [e0]; rfl, by decide, ?_⟩
      replace h := h.1 e0
      refine i_aload_n 2 rfl rfl (by decide) ?_
      refine i_getP (c := 10) (k := 0) (t := 19) (b := 6) 3 rfl fl_346 (by decide) rfl (by decide) rfl ?_
      refine i_getI (c := 9) (k := 0) 4 rfl fl_104 (by decide) (by decide) ?_
      exact i_ireturn 5 rfl rfl h
    replace h := h.2
    by_cases e1 : a1 = 1
    · refine ⟨55, 56, by rw [e1]; rfl, by decide, ?_⟩
      replace h := h.1 e1
      refine i_aload_n 6 rfl rfl (by decide) ?_
      refine i_getP (c := 10) (k := 0) (t := 19) (b := 6) 7 rfl fl_346 (by decide) rfl (by decide) rfl ?_
      refine i_getI (c := 9) (k := 1) 8 rfl fl_109 (by decide) (by decide) ?_
      exact i_ireturn 9 rfl rfl h
    replace h := h.2
    by_cases e2 : a1 = 2
    · refine ⟨63, 64, by rw [e2]; rfl, by decide, ?_⟩
      replace h := h.1 e2
      refine i_aload_n 10 rfl rfl (by decide) ?_
      refine i_getP (c := 10) (k := 0) (t := 19) (b := 6) 11 rfl fl_346 (by decide) rfl (by decide) rfl ?_
      refine i_getI (c := 9) (k := 2) 12 rfl fl_111 (by decide) (by decide) ?_
      exact i_ireturn 13 rfl rfl h
    replace h := h.2
    by_cases e3 : a1 = 3
    · refine ⟨71, 72, by rw [e3]; rfl, by decide, ?_⟩
      replace h := h.1 e3
      refine i_aload_n 14 rfl rfl (by decide) ?_
      refine i_getP (c := 10) (k := 0) (t := 19) (b := 6) 15 rfl fl_346 (by decide) rfl (by decide) rfl ?_
      refine i_getI (c := 9) (k := 3) 16 rfl fl_113 (by decide) (by decide) ?_
      exact i_ireturn 17 rfl rfl h
    replace h := h.2
    by_cases e4 : a1 = 4
    · refine ⟨79, 80, by rw [e4]; rfl, by decide, ?_⟩
      replace h := h.1 e4
      refine i_aload_n 18 rfl rfl (by decide) ?_
      refine i_getI (c := 10) (k := 12) 19 rfl fl_358 (by decide) (by decide) ?_
      exact i_ireturn 20 rfl rfl h
    replace h := h.2
    by_cases e5 : a1 = 5
    · refine ⟨84, 85, by rw [e5]; rfl, by decide, ?_⟩
      replace h := h.1 e5
      refine i_aload_n 21 rfl rfl (by decide) ?_
      refine i_callV (c := 10) (y1 := m_X10_fullSpots) (z1 := (2, 0, 0)) (z2 := (6, 0, 0)) [] 22 rfl ml_1027 ok_X10_fullSpots vk_X10_fullSpots ⟨by decide, rfl⟩ rfl ⟨rfl, Nat.le_of_ble_eq_true rfl⟩ (Nat.le_of_ble_eq_true rfl) ⟨by decide, rfl, rfl, rfl⟩ ?_
      refine h.mono (fun r zM3 h => ?_)
      obtain ⟨zr4, rfl, h⟩ := h
      simp only [Option.toList_some, Option.toList_none, List.cons_append, List.nil_append]
      exact i_ireturn 23 rfl rfl h
    replace h := h.2
    by_cases e6 : a1 = 6
    · refine ⟨89, 90, by rw [e6]; rfl, by decide, ?_⟩
      replace h := h.1 e6
      refine i_aload_n 24 rfl rfl (by decide) ?_
      refine i_getP (c := 10) (k := 3) (t := 13) (b := 40) 25 rfl fl_349 (by decide) rfl (by decide) rfl ?_
      refine i_iconst 26 rfl (by decide) ?_
      refine i_aload_n 27 rfl rfl (by decide) ?_
      refine i_getP (c := 10) (k := 0) (t := 19) (b := 6) 28 rfl fl_346 (by decide) rfl (by decide) rfl ?_
      refine i_getI (c := 9) (k := 1) 29 rfl fl_109 (by decide) (by decide) ?_
      refine i_callV (c := 3) (y1 := m_X3_gatherBreaks) (z1 := (5, 0, 0)) (z2 := (6, 0, 0)) [(0, (-1)), (0, (M 6 1))] 30 rfl ml_746 ok_X3_gatherBreaks vk_X3_gatherBreaks ⟨by decide, rfl⟩ rfl ⟨rfl, Nat.le_of_ble_eq_true rfl⟩ (Nat.le_of_ble_eq_true rfl) ⟨by decide, rfl, rfl, rfl⟩ ?_
      refine h.mono (fun r zM5 h => ?_)
      obtain ⟨rfl, h⟩ := h
      simp only [Option.toList_some, Option.toList_none, List.cons_append, List.nil_append]
      refine i_aload_n 31 rfl rfl (by decide) ?_
      refine i_getP (c := 10) (k := 3) (t := 13) (b := 40) 32 rfl fl_349 (by decide) rfl (by decide) rfl ?_
      refine i_getP (c := 3) (k := 2) (t := 10) (b := 42) 33 rfl fl_257 (by decide) rfl (by decide) rfl ?_
      refine i_getI (c := 0) (k := 0) 34 rfl fl_179 (by decide) (by decide) ?_
      refine i_iconst 35 rfl (by decide) ?_
      refine i_iadd 36 rfl ?_
      exact i_ireturn 37 rfl rfl h
    replace h := h.2
    by_cases e7 : a1 = 7
    · refine ⟨117, 118, by rw [e7]; rfl, by decide, ?_⟩
      replace h := h e7
      refine i_aload_n 38 rfl rfl (by decide) ?_
      refine i_getP (c := 10) (k := 0) (t := 19) (b := 6) 39 rfl fl_346 (by decide) rfl (by decide) rfl ?_
      refine i_getL (c := 9) (k := 4) 40 rfl fl_115 (by decide) rfl ?_
      refine i_aload_n 41 rfl rfl (by decide) ?_
      refine i_getP (c := 10) (k := 0) (t := 19) (b := 6) 42 rfl fl_346 (by decide) rfl (by decide) rfl ?_
      refine i_getL (c := 9) (k := 4) 43 rfl fl_115 (by decide) rfl ?_
      refine i_l2i 44 rfl ?_
      refine i_i2l 45 rfl ?_
      refine i_lcmp_ne 149 46 rfl rfl (by decide) (fun c => ?_) (fun c => ?_)
      · replace h := h.1 c
        refine i_aload_n 53 rfl rfl (by decide) ?_
        refine i_bipush 54 rfl (by decide) ?_
        refine i_callV (c := 10) (y1 := m_X10_tell) (z1 := (1, 0, 0)) (z2 := (6, 0, 0)) [(0, 7)] 55 rfl ml_400 ok_X10_tell vk_X10_tell ⟨by decide, rfl⟩ rfl ⟨rfl, Nat.le_of_ble_eq_true rfl⟩ (Nat.le_of_ble_eq_true rfl) ⟨by decide, rfl, rfl, rfl⟩ ?_
        refine h.mono (fun r zM6 h => ?_)
        obtain ⟨zr7, rfl, h⟩ := h
        simp only [Option.toList_some, Option.toList_none, List.cons_append, List.nil_append]
        exact i_ireturn 56 rfl rfl h
      · replace h := h.2 c
        refine i_aload_n 48 rfl rfl (by decide) ?_
        refine i_getP (c := 10) (k := 0) (t := 19) (b := 6) 49 rfl fl_346 (by decide) rfl (by decide) rfl ?_
        refine i_getL (c := 9) (k := 4) 50 rfl fl_115 (by decide) rfl ?_
        refine i_l2i 51 rfl ?_
        refine i_goto 155 52 rfl (by decide) ?_
        exact i_ireturn 56 rfl rfl h
    exact absurd c1 (by omega)
theorem u_X10_status_0 {l : Launch} {E : xE} (a1 : Int) {M : xM} {Q : Option xV → xM → Prop} (h : (a1 < (-1) → x_Ev l E (1, 0, 0) m_X10_tell 0 [(20, 5), (0, 0)] [] M (fun r zM1 => ∃ zr2, r = some (0, zr2) ∧ Q (some (0, zr2)) zM1)) ∧ (¬ a1 < (-1) → (a1 ≤ 7 → (a1 < 0 → x_Ev l E (2, 0, 0) m_X10_status 42 [(20, 5), (0, a1), (0, 0), (119, 102), (0, 8), (0, 0), (5, 0)] [] M Q) ∧ (¬ a1 < 0 → ((0 : Int) ≤ a1 ∧ (a1 : Int) < 8) ∧ Q (some (0, (M 102 a1))) M)) ∧ (¬ a1 ≤ 7 → x_Ev l E (1, 0, 0) m_X10_tell 0 [(20, 5), (0, 0)] [] M (fun r zM3 => ∃ zr4, r = some (0, zr4) ∧ Q (some (0, zr4)) zM3)))) : x_Ev l E (2, 0, 0) m_X10_status 0 [(20, 5), (0, a1), (5, 0), (5, 0), (5, 0), (5, 0), (5, 0)] [] M Q := by
  refine i_iload_n 0 rfl rfl ?_
  refine i_iconst 1 rfl (by decide) ?_
  refine i_icmp_lt 11 2 rfl (by decide) (fun c => ?_) (fun c => ?_)
  · replace h := h.1 c
    refine i_aload_n 6 rfl rfl (by decide) ?_
    refine i_iconst 7 rfl (by decide) ?_
    refine i_callV (c := 10) (y1 := m_X10_tell) (z1 := (1, 0, 0)) (z2 := (2, 0, 0)) [(0, 0)] 8 rfl ml_400 ok_X10_tell vk_X10_tell ⟨by decide, rfl⟩ rfl ⟨rfl, Nat.le_of_ble_eq_true rfl⟩ (Nat.le_of_ble_eq_true rfl) ⟨by decide, rfl, rfl, rfl⟩ ?_
    refine h.mono (fun r zM1 h => ?_)
    obtain ⟨zr2, rfl, h⟩ := h
    simp only [Option.toList_some, Option.toList_none, List.cons_append, List.nil_append]
    exact i_ireturn 9 rfl rfl h
  · replace h := h.2 c
    refine i_iload_n 3 rfl rfl ?_
    refine i_bipush 4 rfl (by decide) ?_
    refine i_icmp_le 17 5 rfl (by decide) (fun c => ?_) (fun c => ?_)
    · replace h := h.1 c
      refine i_iload_n 10 rfl rfl ?_
      refine i_if_lt 28 11 rfl (by decide) (fun c => ?_) (fun c => ?_)
      · replace h := h.1 c
        refine i_iconst 17 rfl (by decide) ?_
        refine i_istore_n 18 rfl (by decide) rfl ?_
        refine i_aload_n 19 rfl rfl (by decide) ?_
        refine i_getP (c := 10) (k := 14) (t := 119) (b := 102) 20 rfl fl_360 (by decide) rfl (by decide) rfl ?_
        refine i_astore_n 21 rfl (by decide) (by decide) rfl ?_
        refine i_aload_n 22 rfl rfl (by decide) ?_
        refine i_alen (τ := 19) (len := 8) 23 rfl (by decide) (by decide) ?_
        refine i_istore 24 rfl (by decide) rfl ?_
        refine i_iconst 25 rfl (by decide) ?_
        refine i_istore 26 rfl (by decide) rfl ?_
        exact h
      · replace h := h.2 c
        refine i_aload_n 12 rfl rfl (by decide) ?_
        refine i_getP (c := 10) (k := 14) (t := 119) (b := 102) 13 rfl fl_360 (by decide) rfl (by decide) rfl ?_
        refine i_iload_n 14 rfl rfl ?_
        refine i_iald (τ := 19) 15 rfl ⟨rfl, rfl, rfl, by decide⟩ h.1.1 h.1.2 ?_
        replace h := h.2
        exact i_ireturn 16 rfl rfl h
    · replace h := h.2 c
      refine i_aload_n 6 rfl rfl (by decide) ?_
      refine i_iconst 7 rfl (by decide) ?_
      refine i_callV (c := 10) (y1 := m_X10_tell) (z1 := (1, 0, 0)) (z2 := (2, 0, 0)) [(0, 0)] 8 rfl ml_400 ok_X10_tell vk_X10_tell ⟨by decide, rfl⟩ rfl ⟨rfl, Nat.le_of_ble_eq_true rfl⟩ (Nat.le_of_ble_eq_true rfl) ⟨by decide, rfl, rfl, rfl⟩ ?_
      refine h.mono (fun r zM3 h => ?_)
      obtain ⟨zr4, rfl, h⟩ := h
      simp only [Option.toList_some, Option.toList_none, List.cons_append, List.nil_append]
      exact i_ireturn 9 rfl rfl h
theorem u_X10_status_42 {l : Launch} {E : xE} (l1 l2 l3 l4 l5 : Int) {M : xM} {Q : Option xV → xM → Prop} (h : (l4 ≤ l5 → Q (some (0, l2)) M) ∧ (¬ l4 ≤ l5 → ((0 : Int) ≤ l5 ∧ (l5 : Int) < 8) ∧ ∀ zv1 : Int, zv1 = (M l3 l5) → ∀ zv2 : Int, zv2 = (x_w (l2 + zv1)) → ∀ zv3 : Int, zv3 = x_w (l5 + 1) → x_Ev l E (2, 0, 0) m_X10_status 42 [(20, 5), (0, l1), (0, zv2), (119, l3), (0, l4), (0, zv3), (5, 0)] [] M Q)) : x_Ev l E (2, 0, 0) m_X10_status 42 [(20, 5), (0, l1), (0, l2), (119, l3), (0, l4), (0, l5), (5, 0)] [] M Q := by
  refine i_iload 27 rfl rfl ?_
  refine i_iload 28 rfl rfl ?_
  refine i_icmp_ge 66 29 rfl (by decide) (fun c => ?_) (fun c => ?_)
  · replace h := h.1 c
    refine i_iload_n 40 rfl rfl ?_
    exact i_ireturn 41 rfl rfl h
  · replace h := h.2 c
    refine i_aload_n 30 rfl rfl (by decide) ?_
    refine i_iload 31 rfl rfl ?_
    refine i_iald (τ := 19) 32 rfl ⟨rfl, rfl, rfl, by decide⟩ h.1.1 h.1.2 ?_
    replace h := h.2
    replace h := h _ rfl
    refine i_istore 33 rfl (by decide) rfl ?_
    refine i_iload_n 34 rfl rfl ?_
    refine i_iload 35 rfl rfl ?_
    refine i_iadd 36 rfl ?_
    replace h := h _ rfl
    refine i_istore_n 37 rfl (by decide) rfl ?_
    replace h := h _ rfl
    refine i_iinc 38 rfl rfl (by decide) rfl ?_
    refine i_goto 42 39 rfl (by decide) ?_
    refine i_weak ?_ h
    exact (And.intro (Or.inr rfl) (And.intro (Or.inr rfl) (And.intro (Or.inr rfl) (And.intro (Or.inr rfl) (And.intro (Or.inr rfl) (And.intro (Or.inr rfl) (And.intro (Or.inl rfl) trivial)))))))
theorem u_X10_isNoKind_0 {l : Launch} {E : xE} (a1 : Int) {M : xM} {Q : Option xV → xM → Prop} (h : (a1 < 0 → Q (some (0, 1)) M) ∧ (¬ a1 < 0 → (a1 < 70 → Q (some (0, 0)) M) ∧ (¬ a1 < 70 → Q (some (0, 1)) M))) : x_Ev l E (1, 0, 0) m_X10_isNoKind 0 [(20, 5), (0, a1)] [] M Q := by
  refine i_iload_n 0 rfl rfl ?_
  refine i_if_lt 10 1 rfl (by decide) (fun c => ?_) (fun c => ?_)
  · replace h := h.1 c
    refine i_iconst 5 rfl (by decide) ?_
    refine i_goto 15 6 rfl (by decide) ?_
    exact i_zreturn 8 rfl rfl (by decide) h
  · replace h := h.2 c
    refine i_iload_n 2 rfl rfl ?_
    refine i_bipush 3 rfl (by decide) ?_
    refine i_icmp_lt 14 4 rfl (by decide) (fun c => ?_) (fun c => ?_)
    · replace h := h.1 c
      refine i_iconst 7 rfl (by decide) ?_
      exact i_zreturn 8 rfl rfl (by decide) h
    · replace h := h.2 c
      refine i_iconst 5 rfl (by decide) ?_
      refine i_goto 15 6 rfl (by decide) ?_
      exact i_zreturn 8 rfl rfl (by decide) h
theorem u_X10_tell_0 {l : Launch} {E : xE} (a1 : Int) {M : xM} {Q : Option xV → xM → Prop} (h : ((0 : Int) ≤ a1 ∧ (a1 : Int) < 8) ∧ (0 ≤ a1 ∧ a1 < 8) ∧ ∀ zM1 : xM, zM1 = x_wr M 102 a1 (x_w ((M 102 a1) + 1)) → Q (some (0, (x_w ((-1000001) - a1)))) zM1) : x_Ev l E (1, 0, 0) m_X10_tell 0 [(20, 5), (0, a1)] [] M Q := by
  refine i_aload_n 0 rfl rfl (by decide) ?_
  refine i_getP (c := 10) (k := 14) (t := 119) (b := 102) 1 rfl fl_360 (by decide) rfl (by decide) rfl ?_
  refine i_iload_n 2 rfl rfl ?_
  refine i_dup2 3 rfl ⟨Nat.ne_of_beq_eq_false rfl, Nat.ne_of_beq_eq_false rfl⟩ ?_
  refine i_iald (τ := 19) 4 rfl ⟨rfl, rfl, rfl, by decide⟩ h.1.1 h.1.2 ?_
  replace h := h.2
  refine i_iconst 5 rfl (by decide) ?_
  refine i_iadd 6 rfl ?_
  have hb := h.1
  replace h := h.2 _ rfl
  refine i_iast (τ := 19) 7 rfl ⟨rfl, rfl, rfl, by decide⟩ hb.1 hb.2 ?_
  refine i_ldcw (v := (-1000001)) 8 rfl cw_404 (by decide) ?_
  refine i_iload_n 9 rfl rfl ?_
  refine i_isub 10 rfl ?_
  exact i_ireturn 11 rfl rfl h
theorem u_X10_isNoFollower_0 {l : Launch} {E : xE} (a1 : Int) {M : xM} {Q : Option xV → xM → Prop} (h : (a1 < 0 → Q (some (0, 1)) M) ∧ (¬ a1 < 0 → (a1 < (M 6 0) → Q (some (0, 0)) M) ∧ (¬ a1 < (M 6 0) → Q (some (0, 1)) M))) : x_Ev l E (1, 0, 0) m_X10_isNoFollower 0 [(20, 5), (0, a1)] [] M Q := by
  refine i_iload_n 0 rfl rfl ?_
  refine i_if_lt 15 1 rfl (by decide) (fun c => ?_) (fun c => ?_)
  · replace h := h.1 c
    refine i_iconst 7 rfl (by decide) ?_
    refine i_goto 20 8 rfl (by decide) ?_
    exact i_zreturn 10 rfl rfl (by decide) h
  · replace h := h.2 c
    refine i_iload_n 2 rfl rfl ?_
    refine i_aload_n 3 rfl rfl (by decide) ?_
    refine i_getP (c := 10) (k := 0) (t := 19) (b := 6) 4 rfl fl_346 (by decide) rfl (by decide) rfl ?_
    refine i_getI (c := 9) (k := 0) 5 rfl fl_104 (by decide) (by decide) ?_
    refine i_icmp_lt 19 6 rfl (by decide) (fun c => ?_) (fun c => ?_)
    · replace h := h.1 c
      refine i_iconst 9 rfl (by decide) ?_
      exact i_zreturn 10 rfl rfl (by decide) h
    · replace h := h.2 c
      refine i_iconst 7 rfl (by decide) ?_
      refine i_goto 20 8 rfl (by decide) ?_
      exact i_zreturn 10 rfl rfl (by decide) h
theorem u_X10_isNoTrait_0 {l : Launch} {E : xE} (a1 a2 a3 : Int) {M : xM} {Q : Option xV → xM → Prop} (h : x_Ev l E (2, 0, 0) m_X10_isNoGood 0 [(20, 5), (0, a1), (0, a2)] [] M (fun r zM1 => ∃ zr2, r = some (0, zr2) ∧ (¬ zr2 = 0 → Q (some (0, 1)) zM1) ∧ (zr2 = 0 → (a3 < 0 → Q (some (0, 1)) zM1) ∧ (¬ a3 < 0 → (a3 ≤ 2 → Q (some (0, 0)) zM1) ∧ (¬ a3 ≤ 2 → Q (some (0, 1)) zM1))))) : x_Ev l E (3, 0, 0) m_X10_isNoTrait 0 [(20, 5), (0, a1), (0, a2), (0, a3)] [] M Q := by
  refine i_aload_n 0 rfl rfl (by decide) ?_
  refine i_iload_n 1 rfl rfl ?_
  refine i_iload_n 2 rfl rfl ?_
  refine i_callV (c := 10) (y1 := m_X10_isNoGood) (z1 := (2, 0, 0)) (z2 := (3, 0, 0)) [(0, a1), (0, a2)] 3 rfl ml_540 ok_X10_isNoGood vk_X10_isNoGood ⟨by decide, rfl⟩ rfl ⟨rfl, Nat.le_of_ble_eq_true rfl⟩ (Nat.le_of_ble_eq_true rfl) ⟨by decide, rfl, rfl, rfl⟩ ?_
  refine h.mono (fun r zM1 h => ?_)
  obtain ⟨zr2, rfl, h⟩ := h
  simp only [Option.toList_some, Option.toList_none, List.cons_append, List.nil_append]
  refine i_if_ne 18 4 rfl (by decide) (fun c => ?_) (fun c => ?_)
  · replace h := h.1 c
    refine i_iconst 10 rfl (by decide) ?_
    refine i_goto 23 11 rfl (by decide) ?_
    exact i_zreturn 13 rfl rfl (by decide) h
  · replace h := h.2 c
    refine i_iload_n 5 rfl rfl ?_
    refine i_if_lt 18 6 rfl (by decide) (fun c => ?_) (fun c => ?_)
    · replace h := h.1 c
      refine i_iconst 10 rfl (by decide) ?_
      refine i_goto 23 11 rfl (by decide) ?_
      exact i_zreturn 13 rfl rfl (by decide) h
    · replace h := h.2 c
      refine i_iload_n 7 rfl rfl ?_
      refine i_iconst 8 rfl (by decide) ?_
      refine i_icmp_le 22 9 rfl (by decide) (fun c => ?_) (fun c => ?_)
      · replace h := h.1 c
        refine i_iconst 12 rfl (by decide) ?_
        exact i_zreturn 13 rfl rfl (by decide) h
      · replace h := h.2 c
        refine i_iconst 10 rfl (by decide) ?_
        refine i_goto 23 11 rfl (by decide) ?_
        exact i_zreturn 13 rfl rfl (by decide) h
theorem u_X10_isNoBound_0 {l : Launch} {E : xE} (a1 : Int) {M : xM} {Q : Option xV → xM → Prop} (h : (a1 < 0 → Q (some (0, 1)) M) ∧ (¬ a1 < 0 → (a1 ≤ 20 → Q (some (0, 0)) M) ∧ (¬ a1 ≤ 20 → Q (some (0, 1)) M))) : x_Ev l E (1, 0, 0) m_X10_isNoBound 0 [(20, 5), (0, a1)] [] M Q := by
  refine i_iload_n 0 rfl rfl ?_
  refine i_if_lt 10 1 rfl (by decide) (fun c => ?_) (fun c => ?_)
  · replace h := h.1 c
    refine i_iconst 5 rfl (by decide) ?_
    refine i_goto 15 6 rfl (by decide) ?_
    exact i_zreturn 8 rfl rfl (by decide) h
  · replace h := h.2 c
    refine i_iload_n 2 rfl rfl ?_
    refine i_bipush 3 rfl (by decide) ?_
    refine i_icmp_le 14 4 rfl (by decide) (fun c => ?_) (fun c => ?_)
    · replace h := h.1 c
      refine i_iconst 7 rfl (by decide) ?_
      exact i_zreturn 8 rfl rfl (by decide) h
    · replace h := h.2 c
      refine i_iconst 5 rfl (by decide) ?_
      refine i_goto 15 6 rfl (by decide) ?_
      exact i_zreturn 8 rfl rfl (by decide) h
theorem u_X10_isNoRow_0 {l : Launch} {E : xE} (a1 a2 : Int) {M : xM} {Q : Option xV → xM → Prop} (h : x_Ev l E (1, 0, 0) m_X10_isNoFollower 0 [(20, 5), (0, a1)] [] M (fun r zM1 => ∃ zr2, r = some (0, zr2) ∧ (¬ zr2 = 0 → Q (some (0, 1)) zM1) ∧ (zr2 = 0 → (a2 < 0 → Q (some (0, 1)) zM1) ∧ (¬ a2 < 0 → ((0 : Int) ≤ a1 ∧ (a1 : Int) < 3) ∧ (a2 < (zM1 (8 + 1 + 4 * a1) 3) → Q (some (0, 0)) zM1) ∧ (¬ a2 < (zM1 (8 + 1 + 4 * a1) 3) → Q (some (0, 1)) zM1))))) : x_Ev l E (2, 0, 0) m_X10_isNoRow 0 [(20, 5), (0, a1), (0, a2)] [] M Q := by
  refine i_aload_n 0 rfl rfl (by decide) ?_
  refine i_iload_n 1 rfl rfl ?_
  refine i_callV (c := 10) (y1 := m_X10_isNoFollower) (z1 := (1, 0, 0)) (z2 := (2, 0, 0)) [(0, a1)] 2 rfl ml_488 ok_X10_isNoFollower vk_X10_isNoFollower ⟨by decide, rfl⟩ rfl ⟨rfl, Nat.le_of_ble_eq_true rfl⟩ (Nat.le_of_ble_eq_true rfl) ⟨by decide, rfl, rfl, rfl⟩ ?_
  refine h.mono (fun r zM1 h => ?_)
  obtain ⟨zr2, rfl, h⟩ := h
  simp only [Option.toList_some, Option.toList_none, List.cons_append, List.nil_append]
  refine i_if_ne 28 3 rfl (by decide) (fun c => ?_) (fun c => ?_)
  · replace h := h.1 c
    refine i_iconst 14 rfl (by decide) ?_
    refine i_goto 33 15 rfl (by decide) ?_
    exact i_zreturn 17 rfl rfl (by decide) h
  · replace h := h.2 c
    refine i_iload_n 4 rfl rfl ?_
    refine i_if_lt 28 5 rfl (by decide) (fun c => ?_) (fun c => ?_)
    · replace h := h.1 c
      refine i_iconst 14 rfl (by decide) ?_
      refine i_goto 33 15 rfl (by decide) ?_
      exact i_zreturn 17 rfl rfl (by decide) h
    · replace h := h.2 c
      refine i_iload_n 6 rfl rfl ?_
      refine i_aload_n 7 rfl rfl (by decide) ?_
      refine i_getP (c := 10) (k := 0) (t := 19) (b := 6) 8 rfl fl_346 (by decide) rfl (by decide) rfl ?_
      refine i_getP (c := 9) (k := 6) (t := 100) (b := 8) 9 rfl fl_121 (by decide) rfl (by decide) rfl ?_
      refine i_iload_n 10 rfl rfl ?_
      refine i_aald (τ := 0) (t := 11) (len := 3) (b := (8 + 1 + 4 * a1)) 11 rfl (by decide) rfl h.1.1 h.1.2 ?_
      replace h := h.2
      refine i_getI (c := 1) (k := 3) 12 rfl fl_74 (by decide) (by decide) ?_
      refine i_icmp_lt 32 13 rfl (by decide) (fun c => ?_) (fun c => ?_)
      · replace h := h.1 c
        refine i_iconst 16 rfl (by decide) ?_
        exact i_zreturn 17 rfl rfl (by decide) h
      · replace h := h.2 c
        refine i_iconst 14 rfl (by decide) ?_
        refine i_goto 33 15 rfl (by decide) ?_
        exact i_zreturn 17 rfl rfl (by decide) h
theorem u_X10_isNoPart_0 {l : Launch} {E : xE} (a1 : Int) {M : xM} {Q : Option xV → xM → Prop} (h : (a1 < 0 → Q (some (0, 1)) M) ∧ (¬ a1 < 0 → (a1 ≤ 1 → Q (some (0, 0)) M) ∧ (¬ a1 ≤ 1 → Q (some (0, 1)) M))) : x_Ev l E (1, 0, 0) m_X10_isNoPart 0 [(20, 5), (0, a1)] [] M Q := by
  refine i_iload_n 0 rfl rfl ?_
  refine i_if_lt 9 1 rfl (by decide) (fun c => ?_) (fun c => ?_)
  · replace h := h.1 c
    refine i_iconst 5 rfl (by decide) ?_
    refine i_goto 14 6 rfl (by decide) ?_
    exact i_zreturn 8 rfl rfl (by decide) h
  · replace h := h.2 c
    refine i_iload_n 2 rfl rfl ?_
    refine i_iconst 3 rfl (by decide) ?_
    refine i_icmp_le 13 4 rfl (by decide) (fun c => ?_) (fun c => ?_)
    · replace h := h.1 c
      refine i_iconst 7 rfl (by decide) ?_
      exact i_zreturn 8 rfl rfl (by decide) h
    · replace h := h.2 c
      refine i_iconst 5 rfl (by decide) ?_
      refine i_goto 14 6 rfl (by decide) ?_
      exact i_zreturn 8 rfl rfl (by decide) h
theorem u_X10_tellLong_0 {l : Launch} {E : xE} (a1 : Int) {M : xM} {Q : Option xV → xM → Prop} (h : ((0 : Int) ≤ a1 ∧ (a1 : Int) < 8) ∧ (0 ≤ a1 ∧ a1 < 8) ∧ ∀ zM1 : xM, zM1 = x_wr M 102 a1 (x_w ((M 102 a1) + 1)) → Q (some (1, (x_W ((-1000000000000000001) - a1)))) zM1) : x_Ev l E (1, 0, 0) m_X10_tellLong 0 [(20, 5), (0, a1)] [] M Q := by
  refine i_aload_n 0 rfl rfl (by decide) ?_
  refine i_getP (c := 10) (k := 14) (t := 119) (b := 102) 1 rfl fl_360 (by decide) rfl (by decide) rfl ?_
  refine i_iload_n 2 rfl rfl ?_
  refine i_dup2 3 rfl ⟨Nat.ne_of_beq_eq_false rfl, Nat.ne_of_beq_eq_false rfl⟩ ?_
  refine i_iald (τ := 19) 4 rfl ⟨rfl, rfl, rfl, by decide⟩ h.1.1 h.1.2 ?_
  replace h := h.2
  refine i_iconst 5 rfl (by decide) ?_
  refine i_iadd 6 rfl ?_
  have hb := h.1
  replace h := h.2 _ rfl
  refine i_iast (τ := 19) 7 rfl ⟨rfl, rfl, rfl, by decide⟩ hb.1 hb.2 ?_
  refine i_ldc2 (v := (-1000000000000000001)) 8 rfl cw_611 (by decide) ?_
  refine i_iload_n 9 rfl rfl ?_
  refine i_i2l 10 rfl ?_
  refine i_lsub 11 rfl ?_
  exact i_lreturn 12 rfl rfl h
theorem u_X10_isNoGood_0 {l : Launch} {E : xE} (a1 a2 : Int) {M : xM} {Q : Option xV → xM → Prop} (h : x_Ev l E (1, 0, 0) m_X10_isNoFollower 0 [(20, 5), (0, a1)] [] M (fun r zM1 => ∃ zr2, r = some (0, zr2) ∧ (¬ zr2 = 0 → Q (some (0, 1)) zM1) ∧ (zr2 = 0 → (a2 < 0 → Q (some (0, 1)) zM1) ∧ (¬ a2 < 0 → ((0 : Int) ≤ a1 ∧ (a1 : Int) < 3) ∧ (a2 < (zM1 (8 + 1 + 4 * a1) 2) → Q (some (0, 0)) zM1) ∧ (¬ a2 < (zM1 (8 + 1 + 4 * a1) 2) → Q (some (0, 1)) zM1))))) : x_Ev l E (2, 0, 0) m_X10_isNoGood 0 [(20, 5), (0, a1), (0, a2)] [] M Q := by
  refine i_aload_n 0 rfl rfl (by decide) ?_
  refine i_iload_n 1 rfl rfl ?_
  refine i_callV (c := 10) (y1 := m_X10_isNoFollower) (z1 := (1, 0, 0)) (z2 := (2, 0, 0)) [(0, a1)] 2 rfl ml_488 ok_X10_isNoFollower vk_X10_isNoFollower ⟨by decide, rfl⟩ rfl ⟨rfl, Nat.le_of_ble_eq_true rfl⟩ (Nat.le_of_ble_eq_true rfl) ⟨by decide, rfl, rfl, rfl⟩ ?_
  refine h.mono (fun r zM1 h => ?_)
  obtain ⟨zr2, rfl, h⟩ := h
  simp only [Option.toList_some, Option.toList_none, List.cons_append, List.nil_append]
  refine i_if_ne 28 3 rfl (by decide) (fun c => ?_) (fun c => ?_)
  · replace h := h.1 c
    refine i_iconst 14 rfl (by decide) ?_
    refine i_goto 33 15 rfl (by decide) ?_
    exact i_zreturn 17 rfl rfl (by decide) h
  · replace h := h.2 c
    refine i_iload_n 4 rfl rfl ?_
    refine i_if_lt 28 5 rfl (by decide) (fun c => ?_) (fun c => ?_)
    · replace h := h.1 c
      refine i_iconst 14 rfl (by decide) ?_
      refine i_goto 33 15 rfl (by decide) ?_
      exact i_zreturn 17 rfl rfl (by decide) h
    · replace h := h.2 c
      refine i_iload_n 6 rfl rfl ?_
      refine i_aload_n 7 rfl rfl (by decide) ?_
      refine i_getP (c := 10) (k := 0) (t := 19) (b := 6) 8 rfl fl_346 (by decide) rfl (by decide) rfl ?_
      refine i_getP (c := 9) (k := 6) (t := 100) (b := 8) 9 rfl fl_121 (by decide) rfl (by decide) rfl ?_
      refine i_iload_n 10 rfl rfl ?_
      refine i_aald (τ := 0) (t := 11) (len := 3) (b := (8 + 1 + 4 * a1)) 11 rfl (by decide) rfl h.1.1 h.1.2 ?_
      replace h := h.2
      refine i_getI (c := 1) (k := 2) 12 rfl fl_69 (by decide) (by decide) ?_
      refine i_icmp_lt 32 13 rfl (by decide) (fun c => ?_) (fun c => ?_)
      · replace h := h.1 c
        refine i_iconst 16 rfl (by decide) ?_
        exact i_zreturn 17 rfl rfl (by decide) h
      · replace h := h.2 c
        refine i_iconst 14 rfl (by decide) ?_
        refine i_goto 33 15 rfl (by decide) ?_
        exact i_zreturn 17 rfl rfl (by decide) h
theorem u_X10_isNoPlan_0 {l : Launch} {E : xE} (a1 a2 : Int) {M : xM} {Q : Option xV → xM → Prop} (h : x_Ev l E (1, 0, 0) m_X10_isNoFollower 0 [(20, 5), (0, a1)] [] M (fun r zM1 => ∃ zr2, r = some (0, zr2) ∧ (¬ zr2 = 0 → Q (some (0, 1)) zM1) ∧ (zr2 = 0 → (a2 < 0 → Q (some (0, 1)) zM1) ∧ (¬ a2 < 0 → ((0 : Int) ≤ a1 ∧ (a1 : Int) < 3) ∧ (a2 < (zM1 (41 + 8 + 9 * a1) 2) → Q (some (0, 0)) zM1) ∧ (¬ a2 < (zM1 (41 + 8 + 9 * a1) 2) → Q (some (0, 1)) zM1))))) : x_Ev l E (2, 0, 0) m_X10_isNoPlan 0 [(20, 5), (0, a1), (0, a2)] [] M Q := by
  refine i_aload_n 0 rfl rfl (by decide) ?_
  refine i_iload_n 1 rfl rfl ?_
  refine i_callV (c := 10) (y1 := m_X10_isNoFollower) (z1 := (1, 0, 0)) (z2 := (2, 0, 0)) [(0, a1)] 2 rfl ml_488 ok_X10_isNoFollower vk_X10_isNoFollower ⟨by decide, rfl⟩ rfl ⟨rfl, Nat.le_of_ble_eq_true rfl⟩ (Nat.le_of_ble_eq_true rfl) ⟨by decide, rfl, rfl, rfl⟩ ?_
  refine h.mono (fun r zM1 h => ?_)
  obtain ⟨zr2, rfl, h⟩ := h
  simp only [Option.toList_some, Option.toList_none, List.cons_append, List.nil_append]
  refine i_if_ne 28 3 rfl (by decide) (fun c => ?_) (fun c => ?_)
  · replace h := h.1 c
    refine i_iconst 14 rfl (by decide) ?_
    refine i_goto 33 15 rfl (by decide) ?_
    exact i_zreturn 17 rfl rfl (by decide) h
  · replace h := h.2 c
    refine i_iload_n 4 rfl rfl ?_
    refine i_if_lt 28 5 rfl (by decide) (fun c => ?_) (fun c => ?_)
    · replace h := h.1 c
      refine i_iconst 14 rfl (by decide) ?_
      refine i_goto 33 15 rfl (by decide) ?_
      exact i_zreturn 17 rfl rfl (by decide) h
    · replace h := h.2 c
      refine i_iload_n 6 rfl rfl ?_
      refine i_aload_n 7 rfl rfl (by decide) ?_
      refine i_getP (c := 10) (k := 3) (t := 13) (b := 40) 8 rfl fl_349 (by decide) rfl (by decide) rfl ?_
      refine i_getP (c := 3) (k := 1) (t := 106) (b := 41) 9 rfl fl_255 (by decide) rfl (by decide) rfl ?_
      refine i_iload_n 10 rfl rfl ?_
      refine i_aald (τ := 6) (t := 14) (len := 3) (b := (41 + 8 + 9 * a1)) 11 rfl (by decide) rfl h.1.1 h.1.2 ?_
      replace h := h.2
      refine i_getI (c := 4) (k := 2) 12 rfl fl_206 (by decide) (by decide) ?_
      refine i_icmp_lt 32 13 rfl (by decide) (fun c => ?_) (fun c => ?_)
      · replace h := h.1 c
        refine i_iconst 16 rfl (by decide) ?_
        exact i_zreturn 17 rfl rfl (by decide) h
      · replace h := h.2 c
        refine i_iconst 14 rfl (by decide) ?_
        refine i_goto 33 15 rfl (by decide) ?_
        exact i_zreturn 17 rfl rfl (by decide) h
theorem u_X10_findPrices_0 {l : Launch} {E : xE} (a1 : Int) {M : xM} {Q : Option xV → xM → Prop} (h : ((0 : Int) ≤ a1 ∧ (a1 : Int) < 3) ∧ x_Ev l E (4, 0, 0) m_X5_findAll 0 [(15, 76), (11, (8 + 1 + 4 * a1)), (12, 7), (5, 0), (5, 0), (5, 0)] [] M (fun r zM1 => r = none ∧ Q none zM1)) : x_Ev l E (5, 0, 0) m_X10_findPrices 0 [(20, 5), (0, a1)] [] M Q := by
  refine i_aload_n 0 rfl rfl (by decide) ?_
  refine i_getP (c := 10) (k := 4) (t := 15) (b := 76) 1 rfl fl_350 (by decide) rfl (by decide) rfl ?_
  refine i_aload_n 2 rfl rfl (by decide) ?_
  refine i_getP (c := 10) (k := 0) (t := 19) (b := 6) 3 rfl fl_346 (by decide) rfl (by decide) rfl ?_
  refine i_getP (c := 9) (k := 6) (t := 100) (b := 8) 4 rfl fl_121 (by decide) rfl (by decide) rfl ?_
  refine i_iload_n 5 rfl rfl ?_
  refine i_aald (τ := 0) (t := 11) (len := 3) (b := (8 + 1 + 4 * a1)) 6 rfl (by decide) rfl h.1.1 h.1.2 ?_
  replace h := h.2
  refine i_aload_n 7 rfl rfl (by decide) ?_
  refine i_getP (c := 10) (k := 0) (t := 19) (b := 6) 8 rfl fl_346 (by decide) rfl (by decide) rfl ?_
  refine i_getP (c := 9) (k := 5) (t := 12) (b := 7) 9 rfl fl_118 (by decide) rfl (by decide) rfl ?_
  refine i_callV (c := 5) (y1 := m_X5_findAll) (z1 := (4, 0, 0)) (z2 := (5, 0, 0)) [(11, (8 + 1 + 4 * a1)), (12, 7)] 10 rfl ml_649 ok_X5_findAll vk_X5_findAll ⟨by decide, rfl⟩ rfl ⟨rfl, Nat.le_of_ble_eq_true rfl⟩ (Nat.le_of_ble_eq_true rfl) ⟨by decide, rfl, rfl, rfl⟩ ?_
  refine h.mono (fun r zM1 h => ?_)
  obtain ⟨rfl, h⟩ := h
  simp only [Option.toList_some, Option.toList_none, List.cons_append, List.nil_append]
  exact i_return 11 rfl rfl h
theorem u_X10_liveNodes_0 {l : Launch} {E : xE} (a1 a2 : Int) {M : xM} {Q : Option xV → xM → Prop} (h : x_Ev l E (3, 0, 0) m_X10_liveNodes 5 [(20, 5), (14, a1), (0, a2), (0, 0), (0, 0)] [] M Q) : x_Ev l E (3, 0, 0) m_X10_liveNodes 0 [(20, 5), (14, a1), (0, a2), (5, 0), (5, 0)] [] M Q := by
  refine i_iconst 0 rfl (by decide) ?_
  refine i_istore_n 1 rfl (by decide) rfl ?_
  refine i_iconst 2 rfl (by decide) ?_
  refine i_istore 3 rfl (by decide) rfl ?_
  exact h
theorem u_X10_liveNodes_5 {l : Launch} {E : xE} (l1 l2 l3 l4 : Int) {M : xM} {Q : Option xV → xM → Prop} (h : ((x_ishl 1 l2) ≤ l4 → Q (some (0, l3)) M) ∧ (¬ (x_ishl 1 l2) ≤ l4 → x_Ev l E (2, 0, 0) m_X10_isLive 0 [(20, 5), (14, l1), (0, l2), (0, l4), (5, 0)] [] M (fun r zM1 => ∃ zr2, r = some (0, zr2) ∧ (zr2 = 0 → ∀ zv3 : Int, zv3 = x_w (l4 + 1) → x_Ev l E (3, 0, 0) m_X10_liveNodes 5 [(20, 5), (14, l1), (0, l2), (0, l3), (0, zv3)] [] zM1 Q) ∧ (¬ zr2 = 0 → ∀ zv4 : Int, zv4 = x_w (l3 + 1) → ∀ zv5 : Int, zv5 = x_w (l4 + 1) → x_Ev l E (3, 0, 0) m_X10_liveNodes 5 [(20, 5), (14, l1), (0, l2), (0, zv4), (0, zv5)] [] zM1 Q)))) : x_Ev l E (3, 0, 0) m_X10_liveNodes 5 [(20, 5), (14, l1), (0, l2), (0, l3), (0, l4)] [] M Q := by
  refine i_iload 4 rfl rfl ?_
  refine i_iconst 5 rfl (by decide) ?_
  refine i_iload_n 6 rfl rfl ?_
  refine i_ishl 7 rfl ?_
  refine i_icmp_ge 33 8 rfl (by decide) (fun c => ?_) (fun c => ?_)
  · replace h := h.1 c
    refine i_iload_n 18 rfl rfl ?_
    exact i_ireturn 19 rfl rfl h
  · replace h := h.2 c
    refine i_aload_n 9 rfl rfl (by decide) ?_
    refine i_aload_n 10 rfl rfl (by decide) ?_
    refine i_iload_n 11 rfl rfl ?_
    refine i_iload 12 rfl rfl ?_
    refine i_callV (c := 10) (y1 := m_X10_isLive) (z1 := (2, 0, 0)) (z2 := (3, 0, 0)) [(14, l1), (0, l2), (0, l4)] 13 rfl ml_687 ok_X10_isLive vk_X10_isLive ⟨by decide, rfl⟩ rfl ⟨rfl, Nat.le_of_ble_eq_true rfl⟩ (Nat.le_of_ble_eq_true rfl) ⟨by decide, rfl, rfl, rfl⟩ ?_
    refine h.mono (fun r zM1 h => ?_)
    obtain ⟨zr2, rfl, h⟩ := h
    simp only [Option.toList_some, Option.toList_none, List.cons_append, List.nil_append]
    refine i_if_eq 27 14 rfl (by decide) (fun c => ?_) (fun c => ?_)
    · replace h := h.1 c
      replace h := h _ rfl
      refine i_iinc 16 rfl rfl (by decide) rfl ?_
      refine i_goto 5 17 rfl (by decide) ?_
      exact h
    · replace h := h.2 c
      replace h := h _ rfl
      refine i_iinc 15 rfl rfl (by decide) rfl ?_
      replace h := h _ rfl
      refine i_iinc 16 rfl rfl (by decide) rfl ?_
      refine i_goto 5 17 rfl (by decide) ?_
      exact h
theorem u_X10_isLive_0 {l : Launch} {E : xE} (a1 a2 a3 : Int) {M : xM} {Q : Option xV → xM → Prop} (h : ∀ zv1 : Int, zv1 = (x_iand (x_w ((x_ishl 1 a2) - 1)) (x_ixor a3 (-1))) → x_Ev l E (1, 0, 0) m_X10_isWithinOneOf 0 [(110, (a1 + 3)), (0, (M a1 2)), (0, a3), (5, 0)] [] M (fun r zM2 => ∃ zr3, r = some (0, zr3) ∧ (zr3 = 0 → Q (some (0, 0)) zM2) ∧ (¬ zr3 = 0 → x_Ev l E (1, 0, 0) m_X10_isWithinOneOf 0 [(113, 79), (0, (zM2 76 1)), (0, zv1), (5, 0)] [] zM2 (fun r zM4 => ∃ zr5, r = some (0, zr5) ∧ (zr5 = 0 → Q (some (0, 0)) zM4) ∧ (¬ zr5 = 0 → Q (some (0, 1)) zM4))))) : x_Ev l E (2, 0, 0) m_X10_isLive 0 [(20, 5), (14, a1), (0, a2), (0, a3), (5, 0)] [] M Q := by
  refine i_iconst 0 rfl (by decide) ?_
  refine i_iload_n 1 rfl rfl ?_
  refine i_ishl 2 rfl ?_
  refine i_iconst 3 rfl (by decide) ?_
  refine i_isub 4 rfl ?_
  refine i_iload_n 5 rfl rfl ?_
  refine i_iconst 6 rfl (by decide) ?_
  refine i_ixor 7 rfl ?_
  refine i_iand 8 rfl ?_
  replace h := h _ rfl
  refine i_istore 9 rfl (by decide) rfl ?_
  refine i_aload_n 10 rfl rfl (by decide) ?_
  refine i_getP (c := 4) (k := 5) (t := 110) (b := (a1 + 3)) 11 rfl fl_213 (by decide) rfl (by decide) rfl ?_
  refine i_aload_n 12 rfl rfl (by decide) ?_
  refine i_getI (c := 4) (k := 2) 13 rfl fl_206 (by decide) (by decide) ?_
  refine i_iload_n 14 rfl rfl ?_
  refine i_callS (y1 := m_X10_isWithinOneOf) (z1 := (1, 0, 0)) (z2 := (2, 0, 0)) [(110, (a1 + 3)), (0, (M a1 2)), (0, a3)] 15 rfl ml_691 ok_X10_isWithinOneOf vk_X10_isWithinOneOf rfl ⟨rfl, Nat.le_of_ble_eq_true rfl⟩ (Nat.le_of_ble_eq_true rfl) ⟨by decide, rfl, rfl, rfl⟩ ?_
  refine h.mono (fun r zM2 h => ?_)
  obtain ⟨zr3, rfl, h⟩ := h
  simp only [Option.toList_some, Option.toList_none, List.cons_append, List.nil_append]
  refine i_if_eq 52 16 rfl (by decide) (fun c => ?_) (fun c => ?_)
  · replace h := h.1 c
    refine i_iconst 28 rfl (by decide) ?_
    exact i_zreturn 29 rfl rfl (by decide) h
  · replace h := h.2 c
    refine i_aload_n 17 rfl rfl (by decide) ?_
    refine i_getP (c := 10) (k := 4) (t := 15) (b := 76) 18 rfl fl_350 (by decide) rfl (by decide) rfl ?_
    refine i_getP (c := 5) (k := 7) (t := 113) (b := 79) 19 rfl fl_299 (by decide) rfl (by decide) rfl ?_
    refine i_aload_n 20 rfl rfl (by decide) ?_
    refine i_getP (c := 10) (k := 4) (t := 15) (b := 76) 21 rfl fl_350 (by decide) rfl (by decide) rfl ?_
    refine i_getI (c := 5) (k := 1) 22 rfl fl_291 (by decide) (by decide) ?_
    refine i_iload 23 rfl rfl ?_
    refine i_callS (y1 := m_X10_isWithinOneOf) (z1 := (1, 0, 0)) (z2 := (2, 0, 0)) [(113, 79), (0, (zM2 76 1)), (0, ((x_iand (x_w ((x_ishl 1 a2) - 1)) (x_ixor a3 (-1)))))] 24 rfl ml_691 ok_X10_isWithinOneOf vk_X10_isWithinOneOf rfl ⟨rfl, Nat.le_of_ble_eq_true rfl⟩ (Nat.le_of_ble_eq_true rfl) ⟨by decide, rfl, rfl, rfl⟩ ?_
    refine h.mono (fun r zM4 h => ?_)
    obtain ⟨zr5, rfl, h⟩ := h
    simp only [Option.toList_some, Option.toList_none, List.cons_append, List.nil_append]
    refine i_if_eq 52 25 rfl (by decide) (fun c => ?_) (fun c => ?_)
    · replace h := h.1 c
      refine i_iconst 28 rfl (by decide) ?_
      exact i_zreturn 29 rfl rfl (by decide) h
    · replace h := h.2 c
      refine i_iconst 26 rfl (by decide) ?_
      refine i_goto 53 27 rfl (by decide) ?_
      exact i_zreturn 29 rfl rfl (by decide) h
theorem u_X10_isNoSheet_0 {l : Launch} {E : xE} (a1 : Int) {M : xM} {Q : Option xV → xM → Prop} (h : (a1 < 0 → Q (some (0, 1)) M) ∧ (¬ a1 < 0 → (a1 < 4 → Q (some (0, 0)) M) ∧ (¬ a1 < 4 → Q (some (0, 1)) M))) : x_Ev l E (1, 0, 0) m_X10_isNoSheet 0 [(20, 5), (0, a1)] [] M Q := by
  refine i_iload_n 0 rfl rfl ?_
  refine i_if_lt 9 1 rfl (by decide) (fun c => ?_) (fun c => ?_)
  · replace h := h.1 c
    refine i_iconst 5 rfl (by decide) ?_
    refine i_goto 14 6 rfl (by decide) ?_
    exact i_zreturn 8 rfl rfl (by decide) h
  · replace h := h.2 c
    refine i_iload_n 2 rfl rfl ?_
    refine i_iconst 3 rfl (by decide) ?_
    refine i_icmp_lt 13 4 rfl (by decide) (fun c => ?_) (fun c => ?_)
    · replace h := h.1 c
      refine i_iconst 7 rfl (by decide) ?_
      exact i_zreturn 8 rfl rfl (by decide) h
    · replace h := h.2 c
      refine i_iconst 5 rfl (by decide) ?_
      refine i_goto 14 6 rfl (by decide) ?_
      exact i_zreturn 8 rfl rfl (by decide) h
theorem u_X10_tooLittleFor_0 {l : Launch} {E : xE} (a1 a2 : Int) {M : xM} {Q : Option xV → xM → Prop} (h : x_Ev l E (2, 0, 0) m_X1_feels 0 [(11, a2), (1, (M 7 0)), (5, 0), (1, (M 7 1)), (5, 0)] [] M (fun r zM1 => ∃ zr2, r = some (1, zr2) ∧ x_Ev l E (3, 0, 0) m_X10_tooLittleFor 28 [(20, 5), (9, a1), (11, a2), (1, zr2), (5, 0), (0, 0), (5, 0), (5, 0), (5, 0)] [] zM1 Q)) : x_Ev l E (3, 0, 0) m_X10_tooLittleFor 0 [(20, 5), (9, a1), (11, a2), (5, 0), (5, 0), (5, 0), (5, 0), (5, 0), (5, 0)] [] M Q := by
  refine i_aload_n 0 rfl rfl (by decide) ?_
  refine i_aload_n 1 rfl rfl (by decide) ?_
  refine i_getP (c := 10) (k := 0) (t := 19) (b := 6) 2 rfl fl_346 (by decide) rfl (by decide) rfl ?_
  refine i_getP (c := 9) (k := 5) (t := 12) (b := 7) 3 rfl fl_118 (by decide) rfl (by decide) rfl ?_
  refine i_getL (c := 2) (k := 0) 4 rfl fl_41 (by decide) rfl ?_
  refine i_aload_n 5 rfl rfl (by decide) ?_
  refine i_getP (c := 10) (k := 0) (t := 19) (b := 6) 6 rfl fl_346 (by decide) rfl (by decide) rfl ?_
  refine i_getP (c := 9) (k := 5) (t := 12) (b := 7) 7 rfl fl_118 (by decide) rfl (by decide) rfl ?_
  refine i_getL (c := 2) (k := 1) 8 rfl fl_47 (by decide) rfl ?_
  refine i_callV (c := 1) (y1 := m_X1_feels) (z1 := (2, 0, 0)) (z2 := (3, 0, 0)) [(1, (M 7 0)), (1, (M 7 1))] 9 rfl ml_729 ok_X1_feels vk_X1_feels ⟨by decide, rfl⟩ rfl ⟨rfl, Nat.le_of_ble_eq_true rfl⟩ (Nat.le_of_ble_eq_true rfl) ⟨by decide, rfl, rfl, rfl⟩ ?_
  refine h.mono (fun r zM1 h => ?_)
  obtain ⟨zr2, rfl, h⟩ := h
  simp only [Option.toList_some, Option.toList_none, List.cons_append, List.nil_append]
  refine i_lstore_n 10 rfl (by decide) rfl ?_
  refine i_iconst 11 rfl (by decide) ?_
  refine i_istore 12 rfl (by decide) rfl ?_
  exact h
theorem u_X10_tooLittleFor_28 {l : Launch} {E : xE} (l1 l2 l3 l5 : Int) {M : xM} {Q : Option xV → xM → Prop} (h : ((M l2 2) ≤ l5 → Q (some (0, (-1))) M) ∧ (¬ (M l2 2) ≤ l5 → x_Ev l E (3, 0, 0) m_X10_tooLittleFor 43 [(20, 5), (9, l1), (11, l2), (1, l3), (5, 0), (0, l5), (1, 0), (5, 0), (0, 0)] [] M Q)) : x_Ev l E (3, 0, 0) m_X10_tooLittleFor 28 [(20, 5), (9, l1), (11, l2), (1, l3), (5, 0), (0, l5), (5, 0), (5, 0), (5, 0)] [] M Q := by
  refine i_iload 13 rfl rfl ?_
  refine i_aload_n 14 rfl rfl (by decide) ?_
  refine i_getI (c := 1) (k := 2) 15 rfl fl_69 (by decide) (by decide) ?_
  refine i_icmp_ge 136 16 rfl (by decide) (fun c => ?_) (fun c => ?_)
  · replace h := h.1 c
    refine i_iconst 71 rfl (by decide) ?_
    exact i_ireturn 72 rfl rfl h
  · replace h := h.2 c
    refine i_lconst (w := 0) 17 rfl (by decide) ?_
    refine i_lstore 18 rfl (by decide) rfl ?_
    refine i_iconst 19 rfl (by decide) ?_
    refine i_istore 20 rfl (by decide) rfl ?_
    exact h
theorem u_X10_tooLittleFor_43 {l : Launch} {E : xE} (l1 l2 l3 l5 l6 l8 : Int) {M : xM} {Q : Option xV → xM → Prop} (h : ((M l2 3) ≤ l8 → x_Ev l E (1, 0, 0) m_X1_leftAbove 0 [(11, l2), (0, l5), (1, l3), (5, 0), (1, (M 7 1)), (5, 0)] [] M (fun r zM1 => ∃ zr2, r = some (1, zr2) ∧ (0 ≤ l1) ∧ ((0 : Int) ≤ 0 ∧ (0 : Int) < zM1 ((l1 + 1) - 1) 1) ∧ ((x_W (zr2 * (zM1 (l1 + 1) 0))) ≤ (x_W (l6 * (M 7 1))) → ∀ zv3 : Int, zv3 = x_w (l5 + 1) → x_Ev l E (3, 0, 0) m_X10_tooLittleFor 28 [(20, 5), (9, l1), (11, l2), (1, l3), (5, 0), (0, zv3), (5, 0), (5, 0), (5, 0)] [] zM1 Q) ∧ (¬ (x_W (zr2 * (zM1 (l1 + 1) 0))) ≤ (x_W (l6 * (M 7 1))) → Q (some (0, l5)) zM1))) ∧ (¬ (M l2 3) ≤ l8 → (0 ≤ l1) ∧ ((0 : Int) ≤ (x_w (l8 + 1)) ∧ ((x_w (l8 + 1)) : Int) < M ((l1 + 1) - 1) 1) ∧ ((0 : Int) ≤ (x_w ((x_w (l8 * 3)) + l5)) ∧ ((x_w ((x_w (l8 * 3)) + l5)) : Int) < 12) ∧ ∀ zv4 : Int, zv4 = (x_W (l6 + (x_W ((M (l1 + 1) (x_w (l8 + 1))) * (M (l2 + 2) (x_w ((x_w (l8 * 3)) + l5))))))) → ∀ zv5 : Int, zv5 = x_w (l8 + 1) → x_Ev l E (3, 0, 0) m_X10_tooLittleFor 43 [(20, 5), (9, l1), (11, l2), (1, l3), (5, 0), (0, l5), (1, zv4), (5, 0), (0, zv5)] [] M Q)) : x_Ev l E (3, 0, 0) m_X10_tooLittleFor 43 [(20, 5), (9, l1), (11, l2), (1, l3), (5, 0), (0, l5), (1, l6), (5, 0), (0, l8)] [] M Q := by
  refine i_iload 21 rfl rfl ?_
  refine i_aload_n 22 rfl rfl (by decide) ?_
  refine i_getI (c := 1) (k := 3) 23 rfl fl_74 (by decide) (by decide) ?_
  refine i_icmp_ge 86 24 rfl (by decide) (fun c => ?_) (fun c => ?_)
  · replace h := h.1 c
    refine i_lload 46 rfl rfl ?_
    refine i_aload_n 47 rfl rfl (by decide) ?_
    refine i_getP (c := 10) (k := 0) (t := 19) (b := 6) 48 rfl fl_346 (by decide) rfl (by decide) rfl ?_
    refine i_getP (c := 9) (k := 5) (t := 12) (b := 7) 49 rfl fl_118 (by decide) rfl (by decide) rfl ?_
    refine i_getL (c := 2) (k := 1) 50 rfl fl_47 (by decide) rfl ?_
    refine i_lmul 51 rfl ?_
    refine i_aload_n 52 rfl rfl (by decide) ?_
    refine i_iload 53 rfl rfl ?_
    refine i_lload_n 54 rfl rfl ?_
    refine i_aload_n 55 rfl rfl (by decide) ?_
    refine i_getP (c := 10) (k := 0) (t := 19) (b := 6) 56 rfl fl_346 (by decide) rfl (by decide) rfl ?_
    refine i_getP (c := 9) (k := 5) (t := 12) (b := 7) 57 rfl fl_118 (by decide) rfl (by decide) rfl ?_
    refine i_getL (c := 2) (k := 1) 58 rfl fl_47 (by decide) rfl ?_
    refine i_callV (c := 1) (y1 := m_X1_leftAbove) (z1 := (1, 0, 0)) (z2 := (3, 0, 0)) [(0, l5), (1, l3), (1, (M 7 1))] 59 rfl ml_730 ok_X1_leftAbove vk_X1_leftAbove ⟨by decide, rfl⟩ rfl ⟨rfl, Nat.le_of_ble_eq_true rfl⟩ (Nat.le_of_ble_eq_true rfl) ⟨by decide, rfl, rfl, rfl⟩ ?_
    refine h.mono (fun r zM1 h => ?_)
    obtain ⟨zr2, rfl, h⟩ := h
    simp only [Option.toList_some, Option.toList_none, List.cons_append, List.nil_append]
    refine i_aload_n 60 rfl rfl (by decide) ?_
    refine i_rowP 61 rfl fl_955 h.1 ?_
    replace h := h.2
    refine i_iconst 62 rfl (by decide) ?_
    refine i_laldR 63 rfl h.1.1 h.1.2 ?_
    replace h := h.2
    refine i_lmul 64 rfl ?_
    refine i_lcmp_ge 130 65 rfl rfl (by decide) (fun c => ?_) (fun c => ?_)
    · replace h := h.1 c
      replace h := h _ rfl
      refine i_iinc 69 rfl rfl (by decide) rfl ?_
      refine i_goto 28 70 rfl (by decide) ?_
      refine i_weak ?_ h
      exact (And.intro (Or.inr rfl) (And.intro (Or.inr rfl) (And.intro (Or.inr rfl) (And.intro (Or.inr rfl) (And.intro (Or.inr rfl) (And.intro (Or.inr rfl) (And.intro (Or.inl rfl) (And.intro (Or.inr rfl) (And.intro (Or.inl rfl) trivial)))))))))
    · replace h := h.2 c
      refine i_iload 67 rfl rfl ?_
      exact i_ireturn 68 rfl rfl h
  · replace h := h.2 c
    refine i_lload 25 rfl rfl ?_
    refine i_aload_n 26 rfl rfl (by decide) ?_
    refine i_rowP 27 rfl fl_955 h.1 ?_
    replace h := h.2
    refine i_iload 28 rfl rfl ?_
    refine i_iconst 29 rfl (by decide) ?_
    refine i_iadd 30 rfl ?_
    refine i_laldR 31 rfl h.1.1 h.1.2 ?_
    replace h := h.2
    refine i_aload_n 32 rfl rfl (by decide) ?_
    refine i_getP (c := 1) (k := 5) (t := 102) (b := (l2 + 2)) 33 rfl fl_81 (by decide) rfl (by decide) rfl ?_
    refine i_iload 34 rfl rfl ?_
    refine i_iconst 35 rfl (by decide) ?_
    refine i_imul 36 rfl ?_
    refine i_iload 37 rfl rfl ?_
    refine i_iadd 38 rfl ?_
    refine i_iald (τ := 2) 39 rfl ⟨rfl, rfl, rfl, by decide⟩ h.1.1 h.1.2 ?_
    replace h := h.2
    refine i_i2l 40 rfl ?_
    refine i_lmul 41 rfl ?_
    refine i_ladd 42 rfl ?_
    replace h := h _ rfl
    refine i_lstore 43 rfl (by decide) rfl ?_
    replace h := h _ rfl
    refine i_iinc 44 rfl rfl (by decide) rfl ?_
    refine i_goto 43 45 rfl (by decide) ?_
    exact h
theorem u_X10_isAboveNet_0 {l : Launch} {E : xE} (a1 a2 : Int) {M : xM} {Q : Option xV → xM → Prop} (h : ((0 : Int) ≤ a2 ∧ (a2 : Int) < 3) ∧ x_Ev l E (5, 0, 0) m_X10_isAboveNet 16 [(20, 5), (9, a1), (0, a2), (11, (8 + 1 + 4 * a2)), (1, 0), (5, 0), (0, 0), (5, 0), (5, 0), (5, 0)] [] M Q) : x_Ev l E (5, 0, 0) m_X10_isAboveNet 0 [(20, 5), (9, a1), (0, a2), (5, 0), (5, 0), (5, 0), (5, 0), (5, 0), (5, 0), (5, 0)] [] M Q := by
  refine i_aload_n 0 rfl rfl (by decide) ?_
  refine i_getP (c := 10) (k := 0) (t := 19) (b := 6) 1 rfl fl_346 (by decide) rfl (by decide) rfl ?_
  refine i_getP (c := 9) (k := 6) (t := 100) (b := 8) 2 rfl fl_121 (by decide) rfl (by decide) rfl ?_
  refine i_iload_n 3 rfl rfl ?_
  refine i_aald (τ := 0) (t := 11) (len := 3) (b := (8 + 1 + 4 * a2)) 4 rfl (by decide) rfl h.1.1 h.1.2 ?_
  replace h := h.2
  refine i_astore_n 5 rfl (by decide) (by decide) rfl ?_
  refine i_lconst (w := 0) 6 rfl (by decide) ?_
  refine i_lstore 7 rfl (by decide) rfl ?_
  refine i_iconst 8 rfl (by decide) ?_
  refine i_istore 9 rfl (by decide) rfl ?_
  exact h
theorem u_X10_isAboveNet_16 {l : Launch} {E : xE} (l1 l2 l3 l4 l6 : Int) {M : xM} {Q : Option xV → xM → Prop} (h : ((M l3 3) ≤ l6 → x_Ev l E (4, 0, 0) m_X3_answerOf 0 [(13, 40), (0, l2)] [] M (fun r zM1 => ∃ zr2, r = some (0, zr2) ∧ (0 ≤ zr2 → ((0 : Int) ≤ l2 ∧ (l2 : Int) < 3) ∧ ((0 : Int) ≤ zr2 ∧ (zr2 : Int) < 10) ∧ ∀ zv3 : Int, zv3 = (x_W ((zM1 ((41 + 8 + 9 * l2) + 2) zr2) * (zM1 7 1))) → (0 ≤ l1) ∧ ((0 : Int) ≤ 0 ∧ (0 : Int) < zM1 ((l1 + 1) - 1) 1) ∧ ((0 : Int) ≤ zr2 ∧ (zr2 : Int) < 10) ∧ x_Ev l E (2, 0, 0) m_X2_order 0 [(1, l4), (5, 0), (1, (zM1 (l1 + 1) 0)), (5, 0), (1, (zM1 ((41 + 8 + 9 * l2) + 7) zr2)), (5, 0), (1, zv3), (5, 0), (5, 0), (5, 0), (5, 0), (5, 0), (5, 0), (5, 0), (5, 0), (5, 0), (5, 0), (5, 0), (5, 0), (5, 0), (5, 0), (5, 0), (5, 0), (5, 0), (5, 0), (5, 0)] [] zM1 (fun r zM4 => ∃ zr5, r = some (0, zr5) ∧ (zr5 ≤ 0 → Q (some (0, 0)) zM4) ∧ (¬ zr5 ≤ 0 → Q (some (0, 1)) zM4))) ∧ (¬ 0 ≤ zr2 → Q (some (0, 0)) zM1))) ∧ (¬ (M l3 3) ≤ l6 → (0 ≤ l1) ∧ ((0 : Int) ≤ (x_w (l6 + 1)) ∧ ((x_w (l6 + 1)) : Int) < M ((l1 + 1) - 1) 1) ∧ ((0 : Int) ≤ l6 ∧ (l6 : Int) < 4) ∧ ∀ zv6 : Int, zv6 = (x_W (l4 + (x_W ((M (l1 + 1) (x_w (l6 + 1))) * (M (l3 + 3) l6))))) → ∀ zv7 : Int, zv7 = x_w (l6 + 1) → x_Ev l E (5, 0, 0) m_X10_isAboveNet 16 [(20, 5), (9, l1), (0, l2), (11, l3), (1, zv6), (5, 0), (0, zv7), (5, 0), (5, 0), (5, 0)] [] M Q)) : x_Ev l E (5, 0, 0) m_X10_isAboveNet 16 [(20, 5), (9, l1), (0, l2), (11, l3), (1, l4), (5, 0), (0, l6), (5, 0), (5, 0), (5, 0)] [] M Q := by
  refine i_iload 10 rfl rfl ?_
  refine i_aload_n 11 rfl rfl (by decide) ?_
  refine i_getI (c := 1) (k := 3) 12 rfl fl_74 (by decide) (by decide) ?_
  refine i_icmp_ge 54 13 rfl (by decide) (fun c => ?_) (fun c => ?_)
  · replace h := h.1 c
    refine i_aload_n 31 rfl rfl (by decide) ?_
    refine i_getP (c := 10) (k := 3) (t := 13) (b := 40) 32 rfl fl_349 (by decide) rfl (by decide) rfl ?_
    refine i_iload_n 33 rfl rfl ?_
    refine i_callV (c := 3) (y1 := m_X3_answerOf) (z1 := (4, 0, 0)) (z2 := (5, 0, 0)) [(0, l2)] 34 rfl ml_497 ok_X3_answerOf vk_X3_answerOf ⟨by decide, rfl⟩ rfl ⟨rfl, Nat.le_of_ble_eq_true rfl⟩ (Nat.le_of_ble_eq_true rfl) ⟨by decide, rfl, rfl, rfl⟩ ?_
    refine h.mono (fun r zM1 h => ?_)
    obtain ⟨zr2, rfl, h⟩ := h
    simp only [Option.toList_some, Option.toList_none, List.cons_append, List.nil_append]
    refine i_istore 35 rfl (by decide) rfl ?_
    refine i_iload 36 rfl rfl ?_
    refine i_if_ge 71 37 rfl (by decide) (fun c => ?_) (fun c => ?_)
    · replace h := h.1 c
      refine i_aload_n 40 rfl rfl (by decide) ?_
      refine i_getP (c := 10) (k := 3) (t := 13) (b := 40) 41 rfl fl_349 (by decide) rfl (by decide) rfl ?_
      refine i_getP (c := 3) (k := 1) (t := 106) (b := 41) 42 rfl fl_255 (by decide) rfl (by decide) rfl ?_
      refine i_iload_n 43 rfl rfl ?_
      refine i_aald (τ := 6) (t := 14) (len := 3) (b := (41 + 8 + 9 * l2)) 44 rfl (by decide) rfl h.1.1 h.1.2 ?_
      replace h := h.2
      refine i_astore 45 rfl (by decide) (by decide) rfl ?_
      refine i_aload 46 rfl rfl (by decide) ?_
      refine i_getP (c := 4) (k := 4) (t := 109) (b := ((41 + 8 + 9 * l2) + 2)) 47 rfl fl_211 (by decide) rfl (by decide) rfl ?_
      refine i_iload 48 rfl rfl ?_
      refine i_lald (τ := 9) 49 rfl ⟨rfl, rfl, rfl, by decide⟩ h.1.1 h.1.2 ?_
      replace h := h.2
      refine i_aload_n 50 rfl rfl (by decide) ?_
      refine i_getP (c := 10) (k := 0) (t := 19) (b := 6) 51 rfl fl_346 (by decide) rfl (by decide) rfl ?_
      refine i_getP (c := 9) (k := 5) (t := 12) (b := 7) 52 rfl fl_118 (by decide) rfl (by decide) rfl ?_
      refine i_getL (c := 2) (k := 1) 53 rfl fl_47 (by decide) rfl ?_
      refine i_lmul 54 rfl ?_
      replace h := h _ rfl
      refine i_lstore 55 rfl (by decide) rfl ?_
      refine i_lload 56 rfl rfl ?_
      refine i_aload_n 57 rfl rfl (by decide) ?_
      refine i_rowP 58 rfl fl_955 h.1 ?_
      replace h := h.2
      refine i_iconst 59 rfl (by decide) ?_
      refine i_laldR 60 rfl h.1.1 h.1.2 ?_
      replace h := h.2
      refine i_aload 61 rfl rfl (by decide) ?_
      refine i_getP (c := 4) (k := 9) (t := 109) (b := ((41 + 8 + 9 * l2) + 7)) 62 rfl fl_219 (by decide) rfl (by decide) rfl ?_
      refine i_iload 63 rfl rfl ?_
      refine i_lald (τ := 9) 64 rfl ⟨rfl, rfl, rfl, by decide⟩ h.1.1 h.1.2 ?_
      replace h := h.2
      refine i_lload 65 rfl rfl ?_
      refine i_callS (y1 := m_X2_order) (z1 := (2, 0, 0)) (z2 := (5, 0, 0)) [(1, l4), (1, (zM1 (l1 + 1) 0)), (1, (zM1 ((41 + 8 + 9 * l2) + 7) zr2)), (1, ((x_W ((zM1 ((41 + 8 + 9 * l2) + 2) zr2) * (zM1 7 1)))))] 66 rfl ml_735 ok_X2_order vk_X2_order rfl ⟨rfl, Nat.le_of_ble_eq_true rfl⟩ (Nat.le_of_ble_eq_true rfl) ⟨by decide, rfl, rfl, rfl⟩ ?_
      refine h.mono (fun r zM4 h => ?_)
      obtain ⟨zr5, rfl, h⟩ := h
      simp only [Option.toList_some, Option.toList_none, List.cons_append, List.nil_append]
      refine i_if_le 131 67 rfl (by decide) (fun c => ?_) (fun c => ?_)
      · replace h := h.1 c
        refine i_iconst 70 rfl (by decide) ?_
        exact i_zreturn 71 rfl rfl (by decide) h
      · replace h := h.2 c
        refine i_iconst 68 rfl (by decide) ?_
        refine i_goto 132 69 rfl (by decide) ?_
        exact i_zreturn 71 rfl rfl (by decide) h
    · replace h := h.2 c
      refine i_iconst 38 rfl (by decide) ?_
      exact i_zreturn 39 rfl rfl (by decide) h
  · replace h := h.2 c
    refine i_lload 14 rfl rfl ?_
    refine i_aload_n 15 rfl rfl (by decide) ?_
    refine i_rowP 16 rfl fl_955 h.1 ?_
    replace h := h.2
    refine i_iload 17 rfl rfl ?_
    refine i_iconst 18 rfl (by decide) ?_
    refine i_iadd 19 rfl ?_
    refine i_laldR 20 rfl h.1.1 h.1.2 ?_
    replace h := h.2
    refine i_aload_n 21 rfl rfl (by decide) ?_
    refine i_getP (c := 1) (k := 6) (t := 103) (b := (l3 + 3)) 22 rfl fl_86 (by decide) rfl (by decide) rfl ?_
    refine i_iload 23 rfl rfl ?_
    refine i_iald (τ := 3) 24 rfl ⟨rfl, rfl, rfl, by decide⟩ h.1.1 h.1.2 ?_
    replace h := h.2
    refine i_i2l 25 rfl ?_
    refine i_lmul 26 rfl ?_
    refine i_ladd 27 rfl ?_
    replace h := h _ rfl
    refine i_lstore 28 rfl (by decide) rfl ?_
    replace h := h _ rfl
    refine i_iinc 29 rfl rfl (by decide) rfl ?_
    refine i_goto 16 30 rfl (by decide) ?_
    exact h
theorem u_X10_isGreater_0 {l : Launch} {E : xE} {M : xM} {Q : Option xV → xM → Prop} (h : x_Ev l E (3, 0, 0) m_X2_orderTo 0 [(12, 46), (12, 87)] [] M (fun r zM1 => ∃ zr2, r = some (0, zr2) ∧ (zr2 ≤ 0 → Q (some (0, 0)) zM1) ∧ (¬ zr2 ≤ 0 → Q (some (0, 1)) zM1))) : x_Ev l E (4, 0, 0) m_X10_isGreater 0 [(20, 5)] [] M Q := by
  refine i_aload_n 0 rfl rfl (by decide) ?_
  refine i_getP (c := 10) (k := 3) (t := 13) (b := 40) 1 rfl fl_349 (by decide) rfl (by decide) rfl ?_
  refine i_getP (c := 3) (k := 3) (t := 12) (b := 46) 2 rfl fl_259 (by decide) rfl (by decide) rfl ?_
  refine i_aload_n 3 rfl rfl (by decide) ?_
  refine i_getP (c := 10) (k := 8) (t := 12) (b := 87) 4 rfl fl_354 (by decide) rfl (by decide) rfl ?_
  refine i_callV (c := 2) (y1 := m_X2_orderTo) (z1 := (3, 0, 0)) (z2 := (4, 0, 0)) [(12, 87)] 5 rfl ml_841 ok_X2_orderTo vk_X2_orderTo ⟨by decide, rfl⟩ rfl ⟨rfl, Nat.le_of_ble_eq_true rfl⟩ (Nat.le_of_ble_eq_true rfl) ⟨by decide, rfl, rfl, rfl⟩ ?_
  refine h.mono (fun r zM1 h => ?_)
  obtain ⟨zr2, rfl, h⟩ := h
  simp only [Option.toList_some, Option.toList_none, List.cons_append, List.nil_append]
  refine i_if_le 21 6 rfl (by decide) (fun c => ?_) (fun c => ?_)
  · replace h := h.1 c
    refine i_iconst 9 rfl (by decide) ?_
    exact i_zreturn 10 rfl rfl (by decide) h
  · replace h := h.2 c
    refine i_iconst 7 rfl (by decide) ?_
    refine i_goto 22 8 rfl (by decide) ?_
    exact i_zreturn 10 rfl rfl (by decide) h
theorem u_X10_isProductOver_0 {l : Launch} {E : xE} (a0 a1 : Int) {M : xM} {Q : Option xV → xM → Prop} (h : (a0 = 0 → Q (some (0, 0)) M) ∧ (¬ a0 = 0 → (¬ a1 = 0 → (¬ a0 = (-9223372036854775808) → (a1 ≠ 0) ∧ ((x_W ((x_W (a0 * a1)).tdiv a1)) = a0 → Q (some (0, 0)) M) ∧ (¬ (x_W ((x_W (a0 * a1)).tdiv a1)) = a0 → Q (some (0, 1)) M)) ∧ (a0 = (-9223372036854775808) → (¬ a1 = (-1) → (a1 ≠ 0) ∧ ((x_W ((x_W (a0 * a1)).tdiv a1)) = a0 → Q (some (0, 0)) M) ∧ (¬ (x_W ((x_W (a0 * a1)).tdiv a1)) = a0 → Q (some (0, 1)) M)) ∧ (a1 = (-1) → Q (some (0, 1)) M))) ∧ (a1 = 0 → Q (some (0, 0)) M))) : x_Ev l E (1, 0, 0) m_X10_isProductOver 0 [(1, a0), (5, 0), (1, a1), (5, 0)] [] M Q := by
  refine i_lload_n 0 rfl rfl ?_
  refine i_lconst (w := 0) 1 rfl (by decide) ?_
  refine i_lcmp_eq 12 2 rfl rfl (by decide) (fun c => ?_) (fun c => ?_)
  · replace h := h.1 c
    refine i_iconst 8 rfl (by decide) ?_
    exact i_zreturn 9 rfl rfl (by decide) h
  · replace h := h.2 c
    refine i_lload_n 4 rfl rfl ?_
    refine i_lconst (w := 0) 5 rfl (by decide) ?_
    refine i_lcmp_ne 14 6 rfl rfl (by decide) (fun c => ?_) (fun c => ?_)
    · replace h := h.1 c
      refine i_lload_n 10 rfl rfl ?_
      refine i_ldc2 (v := (-9223372036854775808)) 11 rfl cw_895 (by decide) ?_
      refine i_lcmp_ne 32 12 rfl rfl (by decide) (fun c => ?_) (fun c => ?_)
      · replace h := h.1 c
        refine i_lload_n 20 rfl rfl ?_
        refine i_lload_n 21 rfl rfl ?_
        refine i_lmul 22 rfl ?_
        refine i_lload_n 23 rfl rfl ?_
        refine i_ldiv 24 rfl h.1 ?_
        replace h := h.2
        refine i_lload_n 25 rfl rfl ?_
        refine i_lcmp_eq 46 26 rfl rfl (by decide) (fun c => ?_) (fun c => ?_)
        · replace h := h.1 c
          refine i_iconst 30 rfl (by decide) ?_
          exact i_zreturn 31 rfl rfl (by decide) h
        · replace h := h.2 c
          refine i_iconst 28 rfl (by decide) ?_
          refine i_goto 47 29 rfl (by decide) ?_
          exact i_zreturn 31 rfl rfl (by decide) h
      · replace h := h.2 c
        refine i_lload_n 14 rfl rfl ?_
        refine i_ldc2 (v := (-1)) 15 rfl cw_896 (by decide) ?_
        refine i_lcmp_ne 32 16 rfl rfl (by decide) (fun c => ?_) (fun c => ?_)
        · replace h := h.1 c
          refine i_lload_n 20 rfl rfl ?_
          refine i_lload_n 21 rfl rfl ?_
          refine i_lmul 22 rfl ?_
          refine i_lload_n 23 rfl rfl ?_
          refine i_ldiv 24 rfl h.1 ?_
          replace h := h.2
          refine i_lload_n 25 rfl rfl ?_
          refine i_lcmp_eq 46 26 rfl rfl (by decide) (fun c => ?_) (fun c => ?_)
          · replace h := h.1 c
            refine i_iconst 30 rfl (by decide) ?_
            exact i_zreturn 31 rfl rfl (by decide) h
          · replace h := h.2 c
            refine i_iconst 28 rfl (by decide) ?_
            refine i_goto 47 29 rfl (by decide) ?_
            exact i_zreturn 31 rfl rfl (by decide) h
        · replace h := h.2 c
          refine i_iconst 18 rfl (by decide) ?_
          exact i_zreturn 19 rfl rfl (by decide) h
    · replace h := h.2 c
      refine i_iconst 8 rfl (by decide) ?_
      exact i_zreturn 9 rfl rfl (by decide) h
theorem u_X10_isSumOver_0 {l : Launch} {E : xE} (a0 a1 : Int) {M : xM} {Q : Option xV → xM → Prop} (h : ∀ zv1 : Int, zv1 = (x_W (a0 + a1)) → (0 ≤ (x_land (x_lxor a0 zv1) (x_lxor a1 zv1)) → Q (some (0, 0)) M) ∧ (¬ 0 ≤ (x_land (x_lxor a0 zv1) (x_lxor a1 zv1)) → Q (some (0, 1)) M)) : x_Ev l E (1, 0, 0) m_X10_isSumOver 0 [(1, a0), (5, 0), (1, a1), (5, 0), (5, 0), (5, 0)] [] M Q := by
  refine i_lload_n 0 rfl rfl ?_
  refine i_lload_n 1 rfl rfl ?_
  refine i_ladd 2 rfl ?_
  replace h := h _ rfl
  refine i_lstore 3 rfl (by decide) rfl ?_
  refine i_lload_n 4 rfl rfl ?_
  refine i_lload 5 rfl rfl ?_
  refine i_lxor 6 rfl ?_
  refine i_lload_n 7 rfl rfl ?_
  refine i_lload 8 rfl rfl ?_
  refine i_lxor 9 rfl ?_
  refine i_land 10 rfl ?_
  refine i_lconst (w := 0) 11 rfl (by decide) ?_
  refine i_lcmp_ge 23 12 rfl rfl (by decide) (fun c => ?_) (fun c => ?_)
  · replace h := h.1 c
    refine i_iconst 16 rfl (by decide) ?_
    exact i_zreturn 17 rfl rfl (by decide) h
  · replace h := h.2 c
    refine i_iconst 14 rfl (by decide) ?_
    refine i_goto 24 15 rfl (by decide) ?_
    exact i_zreturn 17 rfl rfl (by decide) h
theorem u_X10_answersAs_0 {l : Launch} {E : xE} (a1 a2 : Int) {M : xM} {Q : Option xV → xM → Prop} (h : x_Ev l E (4, 0, 0) m_X10_answersAs 2 [(20, 5), (14, a1), (9, a2), (0, 0)] [] M Q) : x_Ev l E (4, 0, 0) m_X10_answersAs 0 [(20, 5), (14, a1), (9, a2), (5, 0)] [] M Q := by
  refine i_iconst 0 rfl (by decide) ?_
  refine i_istore_n 1 rfl (by decide) rfl ?_
  exact h
theorem u_X10_answersAs_2 {l : Launch} {E : xE} (l1 l2 l3 : Int) {M : xM} {Q : Option xV → xM → Prop} (h : (0 ≤ l2) ∧ (0 ≤ M ((l2 + 1) - 1) 1 ∧ M ((l2 + 1) - 1) 1 < 2147483648) ∧ ((M ((l2 + 1) - 1) 1) ≤ l3 → Q (some (0, 1)) M) ∧ (¬ (M ((l2 + 1) - 1) 1) ≤ l3 → (0 ≤ l2) ∧ ((0 : Int) ≤ l3 ∧ (l3 : Int) < M ((l2 + 1) - 1) 1) ∧ ((M (l2 + 1) l3) = (-999) → ∀ zv1 : Int, zv1 = x_w (l3 + 1) → x_Ev l E (4, 0, 0) m_X10_answersAs 2 [(20, 5), (14, l1), (9, l2), (0, zv1)] [] M Q) ∧ (¬ (M (l2 + 1) l3) = (-999) → x_Ev l E (3, 0, 0) m_X4_stand 0 [(14, l1), (1, l3), (5, 0), (1, 1), (5, 0), (5, 0), (5, 0), (5, 0), (5, 0), (5, 0)] [] M (fun r zM2 => r = none ∧ x_Ev l E (3, 0, 0) m_X4_choose 0 [(14, l1), (0, 0), (5, 0), (5, 0)] [] zM2 (fun r zM3 => ∃ zr4, r = some (0, zr4) ∧ x_Ev l E (1, 0, 0) m_X4_cutGain 0 [(14, l1), (0, zr4)] [] zM3 (fun r zM5 => ∃ zr6, r = some (1, zr6) ∧ (0 ≤ l2) ∧ ((0 : Int) ≤ l3 ∧ (l3 : Int) < zM5 ((l2 + 1) - 1) 1) ∧ (zr6 = (zM5 (l2 + 1) l3) → ∀ zv7 : Int, zv7 = x_w (l3 + 1) → x_Ev l E (4, 0, 0) m_X10_answersAs 2 [(20, 5), (14, l1), (9, l2), (0, zv7)] [] zM5 Q) ∧ (¬ zr6 = (zM5 (l2 + 1) l3) → Q (some (0, 0)) zM5))))))) : x_Ev l E (4, 0, 0) m_X10_answersAs 2 [(20, 5), (14, l1), (9, l2), (0, l3)] [] M Q := by
  refine i_iload_n 2 rfl rfl ?_
  refine i_aload_n 3 rfl rfl (by decide) ?_
  refine i_rowP 4 rfl fl_955 h.1 ?_
  replace h := h.2
  refine i_alenR 5 rfl h.1 ?_
  replace h := h.2
  refine i_icmp_ge 58 6 rfl (by decide) (fun c => ?_) (fun c => ?_)
  · replace h := h.1 c
    refine i_iconst 34 rfl (by decide) ?_
    exact i_zreturn 35 rfl rfl (by decide) h
  · replace h := h.2 c
    refine i_aload_n 7 rfl rfl (by decide) ?_
    refine i_rowP 8 rfl fl_955 h.1 ?_
    replace h := h.2
    refine i_iload_n 9 rfl rfl ?_
    refine i_laldR 10 rfl h.1.1 h.1.2 ?_
    replace h := h.2
    refine i_ldc2 (v := (-999)) 11 rfl cw_909 (by decide) ?_
    refine i_lcmp_eq 52 12 rfl rfl (by decide) (fun c => ?_) (fun c => ?_)
    · replace h := h.1 c
      replace h := h _ rfl
      refine i_iinc 32 rfl rfl (by decide) rfl ?_
      refine i_goto 2 33 rfl (by decide) ?_
      exact h
    · replace h := h.2 c
      refine i_aload_n 14 rfl rfl (by decide) ?_
      refine i_iload_n 15 rfl rfl ?_
      refine i_i2l 16 rfl ?_
      refine i_lconst (w := 1) 17 rfl (by decide) ?_
      refine i_callV (c := 4) (y1 := m_X4_stand) (z1 := (3, 0, 0)) (z2 := (4, 0, 0)) [(1, l3), (1, 1)] 18 rfl ml_910 ok_X4_stand vk_X4_stand ⟨by decide, rfl⟩ rfl ⟨rfl, Nat.le_of_ble_eq_true rfl⟩ (Nat.le_of_ble_eq_true rfl) ⟨by decide, rfl, rfl, rfl⟩ ?_
      refine h.mono (fun r zM2 h => ?_)
      obtain ⟨rfl, h⟩ := h
      simp only [Option.toList_some, Option.toList_none, List.cons_append, List.nil_append]
      refine i_aload_n 19 rfl rfl (by decide) ?_
      refine i_aload_n 20 rfl rfl (by decide) ?_
      refine i_iconst 21 rfl (by decide) ?_
      refine i_callV (c := 4) (y1 := m_X4_choose) (z1 := (3, 0, 0)) (z2 := (4, 0, 0)) [(0, 0)] 22 rfl ml_911 ok_X4_choose vk_X4_choose ⟨by decide, rfl⟩ rfl ⟨rfl, Nat.le_of_ble_eq_true rfl⟩ (Nat.le_of_ble_eq_true rfl) ⟨by decide, rfl, rfl, rfl⟩ ?_
      refine h.mono (fun r zM3 h => ?_)
      obtain ⟨zr4, rfl, h⟩ := h
      simp only [Option.toList_some, Option.toList_none, List.cons_append, List.nil_append]
      refine i_callV (c := 4) (y1 := m_X4_cutGain) (z1 := (1, 0, 0)) (z2 := (4, 0, 0)) [(0, zr4)] 23 rfl ml_912 ok_X4_cutGain vk_X4_cutGain ⟨by decide, rfl⟩ rfl ⟨rfl, Nat.le_of_ble_eq_true rfl⟩ (Nat.le_of_ble_eq_true rfl) ⟨by decide, rfl, rfl, rfl⟩ ?_
      refine h.mono (fun r zM5 h => ?_)
      obtain ⟨zr6, rfl, h⟩ := h
      simp only [Option.toList_some, Option.toList_none, List.cons_append, List.nil_append]
      refine i_aload_n 24 rfl rfl (by decide) ?_
      refine i_rowP 25 rfl fl_955 h.1 ?_
      replace h := h.2
      refine i_iload_n 26 rfl rfl ?_
      refine i_laldR 27 rfl h.1.1 h.1.2 ?_
      replace h := h.2
      refine i_lcmp_eq 52 28 rfl rfl (by decide) (fun c => ?_) (fun c => ?_)
      · replace h := h.1 c
        replace h := h _ rfl
        refine i_iinc 32 rfl rfl (by decide) rfl ?_
        refine i_goto 2 33 rfl (by decide) ?_
        exact h
      · replace h := h.2 c
        refine i_iconst 30 rfl (by decide) ?_
        exact i_zreturn 31 rfl rfl (by decide) h
theorem u_X10_isNoPieceNumber_0 {l : Launch} {E : xE} (a1 a2 : Int) {M : xM} {Q : Option xV → xM → Prop} (h : (a1 < 0 → Q (some (0, 1)) M) ∧ (¬ a1 < 0 → ((M 5 12) ≤ a1 → Q (some (0, 1)) M) ∧ (¬ (M 5 12) ≤ a1 → (a2 < 0 → Q (some (0, 1)) M) ∧ (¬ a2 < 0 → (a2 < 6 → Q (some (0, 0)) M) ∧ (¬ a2 < 6 → Q (some (0, 1)) M))))) : x_Ev l E (1, 0, 0) m_X10_isNoPieceNumber 0 [(20, 5), (0, a1), (0, a2)] [] M Q := by
  refine i_iload_n 0 rfl rfl ?_
  refine i_if_lt 22 1 rfl (by decide) (fun c => ?_) (fun c => ?_)
  · replace h := h.1 c
    refine i_iconst 11 rfl (by decide) ?_
    refine i_goto 27 12 rfl (by decide) ?_
    exact i_zreturn 14 rfl rfl (by decide) h
  · replace h := h.2 c
    refine i_iload_n 2 rfl rfl ?_
    refine i_aload_n 3 rfl rfl (by decide) ?_
    refine i_getI (c := 10) (k := 12) 4 rfl fl_358 (by decide) (by decide) ?_
    refine i_icmp_ge 22 5 rfl (by decide) (fun c => ?_) (fun c => ?_)
    · replace h := h.1 c
      refine i_iconst 11 rfl (by decide) ?_
      refine i_goto 27 12 rfl (by decide) ?_
      exact i_zreturn 14 rfl rfl (by decide) h
    · replace h := h.2 c
      refine i_iload_n 6 rfl rfl ?_
      refine i_if_lt 22 7 rfl (by decide) (fun c => ?_) (fun c => ?_)
      · replace h := h.1 c
        refine i_iconst 11 rfl (by decide) ?_
        refine i_goto 27 12 rfl (by decide) ?_
        exact i_zreturn 14 rfl rfl (by decide) h
      · replace h := h.2 c
        refine i_iload_n 8 rfl rfl ?_
        refine i_bipush 9 rfl (by decide) ?_
        refine i_icmp_lt 26 10 rfl (by decide) (fun c => ?_) (fun c => ?_)
        · replace h := h.1 c
          refine i_iconst 13 rfl (by decide) ?_
          exact i_zreturn 14 rfl rfl (by decide) h
        · replace h := h.2 c
          refine i_iconst 11 rfl (by decide) ?_
          refine i_goto 27 12 rfl (by decide) ?_
          exact i_zreturn 14 rfl rfl (by decide) h
theorem u_X10_isNoSpot_0 {l : Launch} {E : xE} (a1 : Int) {M : xM} {Q : Option xV → xM → Prop} (h : (a1 < 0 → Q (some (0, 1)) M) ∧ (¬ a1 < 0 → (a1 < 10 → Q (some (0, 0)) M) ∧ (¬ a1 < 10 → Q (some (0, 1)) M))) : x_Ev l E (1, 0, 0) m_X10_isNoSpot 0 [(20, 5), (0, a1)] [] M Q := by
  refine i_iload_n 0 rfl rfl ?_
  refine i_if_lt 10 1 rfl (by decide) (fun c => ?_) (fun c => ?_)
  · replace h := h.1 c
    refine i_iconst 5 rfl (by decide) ?_
    refine i_goto 15 6 rfl (by decide) ?_
    exact i_zreturn 8 rfl rfl (by decide) h
  · replace h := h.2 c
    refine i_iload_n 2 rfl rfl ?_
    refine i_bipush 3 rfl (by decide) ?_
    refine i_icmp_lt 14 4 rfl (by decide) (fun c => ?_) (fun c => ?_)
    · replace h := h.1 c
      refine i_iconst 7 rfl (by decide) ?_
      exact i_zreturn 8 rfl rfl (by decide) h
    · replace h := h.2 c
      refine i_iconst 5 rfl (by decide) ?_
      refine i_goto 15 6 rfl (by decide) ?_
      exact i_zreturn 8 rfl rfl (by decide) h
theorem u_X10_fullSpots_0 {l : Launch} {E : xE} {M : xM} {Q : Option xV → xM → Prop} (h : x_Ev l E (2, 0, 0) m_X10_fullSpots 4 [(20, 5), (0, 0), (0, 0)] [] M Q) : x_Ev l E (2, 0, 0) m_X10_fullSpots 0 [(20, 5), (5, 0), (5, 0)] [] M Q := by
  refine i_iconst 0 rfl (by decide) ?_
  refine i_istore_n 1 rfl (by decide) rfl ?_
  refine i_iconst 2 rfl (by decide) ?_
  refine i_istore_n 3 rfl (by decide) rfl ?_
  exact h
theorem u_X10_fullSpots_4 {l : Launch} {E : xE} (l1 l2 : Int) {M : xM} {Q : Option xV → xM → Prop} (h : (10 ≤ l2 → Q (some (0, l1)) M) ∧ (¬ 10 ≤ l2 → ((0 : Int) ≤ l2 ∧ (l2 : Int) < 10) ∧ x_Ev l E (1, 0, 0) m_X7_holdsNow 0 [(17, (89 + 1 + 1 * l2)), (19, 6)] [] M (fun r zM1 => ∃ zr2, r = some (0, zr2) ∧ (zr2 = 0 → ∀ zv3 : Int, zv3 = x_w (l2 + 1) → x_Ev l E (2, 0, 0) m_X10_fullSpots 4 [(20, 5), (0, l1), (0, zv3)] [] zM1 Q) ∧ (¬ zr2 = 0 → ∀ zv4 : Int, zv4 = x_w (l1 + 1) → ∀ zv5 : Int, zv5 = x_w (l2 + 1) → x_Ev l E (2, 0, 0) m_X10_fullSpots 4 [(20, 5), (0, zv4), (0, zv5)] [] zM1 Q)))) : x_Ev l E (2, 0, 0) m_X10_fullSpots 4 [(20, 5), (0, l1), (0, l2)] [] M Q := by
  refine i_iload_n 4 rfl rfl ?_
  refine i_bipush 5 rfl (by decide) ?_
  refine i_icmp_ge 35 6 rfl (by decide) (fun c => ?_) (fun c => ?_)
  · replace h := h.1 c
    refine i_iload_n 18 rfl rfl ?_
    exact i_ireturn 19 rfl rfl h
  · replace h := h.2 c
    refine i_aload_n 7 rfl rfl (by decide) ?_
    refine i_getP (c := 10) (k := 10) (t := 116) (b := 89) 8 rfl fl_356 (by decide) rfl (by decide) rfl ?_
    refine i_iload_n 9 rfl rfl ?_
    refine i_aald (τ := 16) (t := 17) (len := 10) (b := (89 + 1 + 1 * l2)) 10 rfl (by decide) rfl h.1.1 h.1.2 ?_
    replace h := h.2
    refine i_aload_n 11 rfl rfl (by decide) ?_
    refine i_getP (c := 10) (k := 0) (t := 19) (b := 6) 12 rfl fl_346 (by decide) rfl (by decide) rfl ?_
    refine i_callV (c := 7) (y1 := m_X7_holdsNow) (z1 := (1, 0, 0)) (z2 := (2, 0, 0)) [(19, 6)] 13 rfl ml_999 ok_X7_holdsNow vk_X7_holdsNow ⟨by decide, rfl⟩ rfl ⟨rfl, Nat.le_of_ble_eq_true rfl⟩ (Nat.le_of_ble_eq_true rfl) ⟨by decide, rfl, rfl, rfl⟩ ?_
    refine h.mono (fun r zM1 h => ?_)
    obtain ⟨zr2, rfl, h⟩ := h
    simp only [Option.toList_some, Option.toList_none, List.cons_append, List.nil_append]
    refine i_if_eq 29 14 rfl (by decide) (fun c => ?_) (fun c => ?_)
    · replace h := h.1 c
      replace h := h _ rfl
      refine i_iinc 16 rfl rfl (by decide) rfl ?_
      refine i_goto 4 17 rfl (by decide) ?_
      exact h
    · replace h := h.2 c
      replace h := h _ rfl
      refine i_iinc 15 rfl rfl (by decide) rfl ?_
      replace h := h _ rfl
      refine i_iinc 16 rfl rfl (by decide) rfl ?_
      refine i_goto 4 17 rfl (by decide) ?_
      exact h
theorem u_X10_isOneOf_0 {l : Launch} {E : xE} (a0 a1 a2 : Int) {M : xM} {Q : Option xV → xM → Prop} (h : x_Ev l E (1, 0, 0) m_X10_isOneOf 2 [(110, a0), (0, a1), (0, a2), (0, 0)] [] M Q) : x_Ev l E (1, 0, 0) m_X10_isOneOf 0 [(110, a0), (0, a1), (0, a2), (5, 0)] [] M Q := by
  refine i_iconst 0 rfl (by decide) ?_
  refine i_istore_n 1 rfl (by decide) rfl ?_
  exact h
theorem u_X10_isOneOf_2 {l : Launch} {E : xE} (l0 l1 l2 l3 : Int) {M : xM} {Q : Option xV → xM → Prop} (h : (l1 ≤ l3 → Q (some (0, 0)) M) ∧ (¬ l1 ≤ l3 → (10 ≤ l3 → Q (some (0, 0)) M) ∧ (¬ 10 ≤ l3 → ((0 : Int) ≤ l3 ∧ (l3 : Int) < 10) ∧ (¬ (M l0 l3) = l2 → ∀ zv1 : Int, zv1 = x_w (l3 + 1) → x_Ev l E (1, 0, 0) m_X10_isOneOf 2 [(110, l0), (0, l1), (0, l2), (0, zv1)] [] M Q) ∧ ((M l0 l3) = l2 → Q (some (0, 1)) M)))) : x_Ev l E (1, 0, 0) m_X10_isOneOf 2 [(110, l0), (0, l1), (0, l2), (0, l3)] [] M Q := by
  refine i_iload_n 2 rfl rfl ?_
  refine i_iload_n 3 rfl rfl ?_
  refine i_icmp_ge 28 4 rfl (by decide) (fun c => ?_) (fun c => ?_)
  · replace h := h.1 c
    refine i_iconst 18 rfl (by decide) ?_
    exact i_zreturn 19 rfl rfl (by decide) h
  · replace h := h.2 c
    refine i_iload_n 5 rfl rfl ?_
    refine i_aload_n 6 rfl rfl (by decide) ?_
    refine i_alen (τ := 10) (len := 10) 7 rfl (by decide) (by decide) ?_
    refine i_icmp_ge 28 8 rfl (by decide) (fun c => ?_) (fun c => ?_)
    · replace h := h.1 c
      refine i_iconst 18 rfl (by decide) ?_
      exact i_zreturn 19 rfl rfl (by decide) h
    · replace h := h.2 c
      refine i_aload_n 9 rfl rfl (by decide) ?_
      refine i_iload_n 10 rfl rfl ?_
      refine i_iald (τ := 10) 11 rfl ⟨rfl, rfl, rfl, by decide⟩ h.1.1 h.1.2 ?_
      replace h := h.2
      refine i_iload_n 12 rfl rfl ?_
      refine i_icmp_ne 22 13 rfl (by decide) (fun c => ?_) (fun c => ?_)
      · replace h := h.1 c
        replace h := h _ rfl
        refine i_iinc 16 rfl rfl (by decide) rfl ?_
        refine i_goto 2 17 rfl (by decide) ?_
        exact h
      · replace h := h.2 c
        refine i_iconst 14 rfl (by decide) ?_
        exact i_zreturn 15 rfl rfl (by decide) h
theorem u_X10_isWithinOneOf_0 {l : Launch} {E : xE} (a0 a1 a2 : Int) {M : xM} {Q : Option xV → xM → Prop} (h : x_Ev l E (1, 0, 0) m_X10_isWithinOneOf 2 [(110, a0), (0, a1), (0, a2), (0, 0)] [] M Q) : x_Ev l E (1, 0, 0) m_X10_isWithinOneOf 0 [(110, a0), (0, a1), (0, a2), (5, 0)] [] M Q := by
  refine i_iconst 0 rfl (by decide) ?_
  refine i_istore_n 1 rfl (by decide) rfl ?_
  exact h
theorem u_X10_isWithinOneOf_2 {l : Launch} {E : xE} (l0 l1 l2 l3 : Int) {M : xM} {Q : Option xV → xM → Prop} (h : (l1 ≤ l3 → Q (some (0, 0)) M) ∧ (¬ l1 ≤ l3 → (10 ≤ l3 → Q (some (0, 0)) M) ∧ (¬ 10 ≤ l3 → ((0 : Int) ≤ l3 ∧ (l3 : Int) < 10) ∧ (¬ (x_iand l2 (x_ixor (M l0 l3) (-1))) = 0 → ∀ zv1 : Int, zv1 = x_w (l3 + 1) → x_Ev l E (1, 0, 0) m_X10_isWithinOneOf 2 [(110, l0), (0, l1), (0, l2), (0, zv1)] [] M Q) ∧ ((x_iand l2 (x_ixor (M l0 l3) (-1))) = 0 → Q (some (0, 1)) M)))) : x_Ev l E (1, 0, 0) m_X10_isWithinOneOf 2 [(110, l0), (0, l1), (0, l2), (0, l3)] [] M Q := by
  refine i_iload_n 2 rfl rfl ?_
  refine i_iload_n 3 rfl rfl ?_
  refine i_icmp_ge 31 4 rfl (by decide) (fun c => ?_) (fun c => ?_)
  · replace h := h.1 c
    refine i_iconst 21 rfl (by decide) ?_
    exact i_zreturn 22 rfl rfl (by decide) h
  · replace h := h.2 c
    refine i_iload_n 5 rfl rfl ?_
    refine i_aload_n 6 rfl rfl (by decide) ?_
    refine i_alen (τ := 10) (len := 10) 7 rfl (by decide) (by decide) ?_
    refine i_icmp_ge 31 8 rfl (by decide) (fun c => ?_) (fun c => ?_)
    · replace h := h.1 c
      refine i_iconst 21 rfl (by decide) ?_
      exact i_zreturn 22 rfl rfl (by decide) h
    · replace h := h.2 c
      refine i_iload_n 9 rfl rfl ?_
      refine i_aload_n 10 rfl rfl (by decide) ?_
      refine i_iload_n 11 rfl rfl ?_
      refine i_iald (τ := 10) 12 rfl ⟨rfl, rfl, rfl, by decide⟩ h.1.1 h.1.2 ?_
      replace h := h.2
      refine i_iconst 13 rfl (by decide) ?_
      refine i_ixor 14 rfl ?_
      refine i_iand 15 rfl ?_
      refine i_if_ne 25 16 rfl (by decide) (fun c => ?_) (fun c => ?_)
      · replace h := h.1 c
        replace h := h _ rfl
        refine i_iinc 19 rfl rfl (by decide) rfl ?_
        refine i_goto 2 20 rfl (by decide) ?_
        exact h
      · replace h := h.2 c
        refine i_iconst 17 rfl (by decide) ?_
        exact i_zreturn 18 rfl rfl (by decide) h
theorem u_X10_isWithinOneOf_0_v2 {l : Launch} {E : xE} (a0 a1 a2 : Int) {M : xM} {Q : Option xV → xM → Prop} (h : x_Ev l E (1, 0, 0) m_X10_isWithinOneOf 2 [(113, a0), (0, a1), (0, a2), (0, 0)] [] M Q) : x_Ev l E (1, 0, 0) m_X10_isWithinOneOf 0 [(113, a0), (0, a1), (0, a2), (5, 0)] [] M Q := by
  refine i_iconst 0 rfl (by decide) ?_
  refine i_istore_n 1 rfl (by decide) rfl ?_
  exact h
theorem u_X10_isWithinOneOf_2_v2 {l : Launch} {E : xE} (l0 l1 l2 l3 : Int) {M : xM} {Q : Option xV → xM → Prop} (h : (l1 ≤ l3 → Q (some (0, 0)) M) ∧ (¬ l1 ≤ l3 → (35 ≤ l3 → Q (some (0, 0)) M) ∧ (¬ 35 ≤ l3 → ((0 : Int) ≤ l3 ∧ (l3 : Int) < 35) ∧ (¬ (x_iand l2 (x_ixor (M l0 l3) (-1))) = 0 → ∀ zv1 : Int, zv1 = x_w (l3 + 1) → x_Ev l E (1, 0, 0) m_X10_isWithinOneOf 2 [(113, l0), (0, l1), (0, l2), (0, zv1)] [] M Q) ∧ ((x_iand l2 (x_ixor (M l0 l3) (-1))) = 0 → Q (some (0, 1)) M)))) : x_Ev l E (1, 0, 0) m_X10_isWithinOneOf 2 [(113, l0), (0, l1), (0, l2), (0, l3)] [] M Q := by
  refine i_iload_n 2 rfl rfl ?_
  refine i_iload_n 3 rfl rfl ?_
  refine i_icmp_ge 31 4 rfl (by decide) (fun c => ?_) (fun c => ?_)
  · replace h := h.1 c
    refine i_iconst 21 rfl (by decide) ?_
    exact i_zreturn 22 rfl rfl (by decide) h
  · replace h := h.2 c
    refine i_iload_n 5 rfl rfl ?_
    refine i_aload_n 6 rfl rfl (by decide) ?_
    refine i_alen (τ := 13) (len := 35) 7 rfl (by decide) (by decide) ?_
    refine i_icmp_ge 31 8 rfl (by decide) (fun c => ?_) (fun c => ?_)
    · replace h := h.1 c
      refine i_iconst 21 rfl (by decide) ?_
      exact i_zreturn 22 rfl rfl (by decide) h
    · replace h := h.2 c
      refine i_iload_n 9 rfl rfl ?_
      refine i_aload_n 10 rfl rfl (by decide) ?_
      refine i_iload_n 11 rfl rfl ?_
      refine i_iald (τ := 13) 12 rfl ⟨rfl, rfl, rfl, by decide⟩ h.1.1 h.1.2 ?_
      replace h := h.2
      refine i_iconst 13 rfl (by decide) ?_
      refine i_ixor 14 rfl ?_
      refine i_iand 15 rfl ?_
      refine i_if_ne 25 16 rfl (by decide) (fun c => ?_) (fun c => ?_)
      · replace h := h.1 c
        replace h := h _ rfl
        refine i_iinc 19 rfl rfl (by decide) rfl ?_
        refine i_goto 2 20 rfl (by decide) ?_
        exact h
      · replace h := h.2 c
        refine i_iconst 17 rfl (by decide) ?_
        exact i_zreturn 18 rfl rfl (by decide) h
theorem u_X10_isOneOf_0_v2 {l : Launch} {E : xE} (a0 a1 a2 : Int) {M : xM} {Q : Option xV → xM → Prop} (h : x_Ev l E (1, 0, 0) m_X10_isOneOf 2 [(113, a0), (0, a1), (0, a2), (0, 0)] [] M Q) : x_Ev l E (1, 0, 0) m_X10_isOneOf 0 [(113, a0), (0, a1), (0, a2), (5, 0)] [] M Q := by
  refine i_iconst 0 rfl (by decide) ?_
  refine i_istore_n 1 rfl (by decide) rfl ?_
  exact h
theorem u_X10_isOneOf_2_v2 {l : Launch} {E : xE} (l0 l1 l2 l3 : Int) {M : xM} {Q : Option xV → xM → Prop} (h : (l1 ≤ l3 → Q (some (0, 0)) M) ∧ (¬ l1 ≤ l3 → (35 ≤ l3 → Q (some (0, 0)) M) ∧ (¬ 35 ≤ l3 → ((0 : Int) ≤ l3 ∧ (l3 : Int) < 35) ∧ (¬ (M l0 l3) = l2 → ∀ zv1 : Int, zv1 = x_w (l3 + 1) → x_Ev l E (1, 0, 0) m_X10_isOneOf 2 [(113, l0), (0, l1), (0, l2), (0, zv1)] [] M Q) ∧ ((M l0 l3) = l2 → Q (some (0, 1)) M)))) : x_Ev l E (1, 0, 0) m_X10_isOneOf 2 [(113, l0), (0, l1), (0, l2), (0, l3)] [] M Q := by
  refine i_iload_n 2 rfl rfl ?_
  refine i_iload_n 3 rfl rfl ?_
  refine i_icmp_ge 28 4 rfl (by decide) (fun c => ?_) (fun c => ?_)
  · replace h := h.1 c
    refine i_iconst 18 rfl (by decide) ?_
    exact i_zreturn 19 rfl rfl (by decide) h
  · replace h := h.2 c
    refine i_iload_n 5 rfl rfl ?_
    refine i_aload_n 6 rfl rfl (by decide) ?_
    refine i_alen (τ := 13) (len := 35) 7 rfl (by decide) (by decide) ?_
    refine i_icmp_ge 28 8 rfl (by decide) (fun c => ?_) (fun c => ?_)
    · replace h := h.1 c
      refine i_iconst 18 rfl (by decide) ?_
      exact i_zreturn 19 rfl rfl (by decide) h
    · replace h := h.2 c
      refine i_aload_n 9 rfl rfl (by decide) ?_
      refine i_iload_n 10 rfl rfl ?_
      refine i_iald (τ := 13) 11 rfl ⟨rfl, rfl, rfl, by decide⟩ h.1.1 h.1.2 ?_
      replace h := h.2
      refine i_iload_n 12 rfl rfl ?_
      refine i_icmp_ne 22 13 rfl (by decide) (fun c => ?_) (fun c => ?_)
      · replace h := h.1 c
        replace h := h _ rfl
        refine i_iinc 16 rfl rfl (by decide) rfl ?_
        refine i_goto 2 17 rfl (by decide) ?_
        exact h
      · replace h := h.2 c
        refine i_iconst 14 rfl (by decide) ?_
        exact i_zreturn 15 rfl rfl (by decide) h
