/-! Printed by wip/whole/tools/gen_vc.py: what is enough at each cut point -/
theorem u_J6_bitCount_0f7a4_0 {l : Launch} {E : xE} (a0 : Int) {M : xM} {Q : Option xV → xM → Prop} (h : ∀ zv1 : Int, zv1 = (x_w (a0 - (x_iand (x_iushr a0 1) 1431655765))) → ∀ zv2 : Int, zv2 = (x_w ((x_iand zv1 858993459) + (x_iand (x_iushr zv1 2) 858993459))) → ∀ zv3 : Int, zv3 = (x_iand (x_w (zv2 + (x_iushr zv2 4))) 252645135) → ∀ zv4 : Int, zv4 = (x_w (zv3 + (x_iushr zv3 8))) → ∀ zv5 : Int, zv5 = (x_w (zv4 + (x_iushr zv4 16))) → Q (some (0, (x_iand zv5 63))) M) : x_Ev l E (1, 0, 0) m_J6_bitCount_0f7a4 0 [(0, a0)] [] M Q := by
  refine i_iload_n 0 rfl rfl ?_
  refine i_iload_n 1 rfl rfl ?_
  refine i_iconst 2 rfl (by decide) ?_
  refine i_iushr 3 rfl ?_
  refine i_ldcw (v := 1431655765) 4 rfl cw_430 (by decide) ?_
  refine i_iand 5 rfl ?_
  refine i_isub 6 rfl ?_
  replace h := h _ rfl
  refine i_istore_n 7 rfl (by decide) rfl ?_
  refine i_iload_n 8 rfl rfl ?_
  refine i_ldcw (v := 858993459) 9 rfl cw_431 (by decide) ?_
  refine i_iand 10 rfl ?_
  refine i_iload_n 11 rfl rfl ?_
  refine i_iconst 12 rfl (by decide) ?_
  refine i_iushr 13 rfl ?_
  refine i_ldcw (v := 858993459) 14 rfl cw_431 (by decide) ?_
  refine i_iand 15 rfl ?_
  refine i_iadd 16 rfl ?_
  replace h := h _ rfl
  refine i_istore_n 17 rfl (by decide) rfl ?_
  refine i_iload_n 18 rfl rfl ?_
  refine i_iload_n 19 rfl rfl ?_
  refine i_iconst 20 rfl (by decide) ?_
  refine i_iushr 21 rfl ?_
  refine i_iadd 22 rfl ?_
  refine i_ldcw (v := 252645135) 23 rfl cw_432 (by decide) ?_
  refine i_iand 24 rfl ?_
  replace h := h _ rfl
  refine i_istore_n 25 rfl (by decide) rfl ?_
  refine i_iload_n 26 rfl rfl ?_
  refine i_iload_n 27 rfl rfl ?_
  refine i_bipush 28 rfl (by decide) ?_
  refine i_iushr 29 rfl ?_
  refine i_iadd 30 rfl ?_
  replace h := h _ rfl
  refine i_istore_n 31 rfl (by decide) rfl ?_
  refine i_iload_n 32 rfl rfl ?_
  refine i_iload_n 33 rfl rfl ?_
  refine i_bipush 34 rfl (by decide) ?_
  refine i_iushr 35 rfl ?_
  refine i_iadd 36 rfl ?_
  replace h := h _ rfl
  refine i_istore_n 37 rfl (by decide) rfl ?_
  refine i_iload_n 38 rfl rfl ?_
  refine i_bipush 39 rfl (by decide) ?_
  refine i_iand 40 rfl ?_
  exact i_ireturn 41 rfl rfl h
theorem u_J9_min_7cf53_0 {l : Launch} {E : xE} (a0 a1 : Int) {M : xM} {Q : Option xV → xM → Prop} (h : (a1 < a0 → Q (some (0, a1)) M) ∧ (¬ a1 < a0 → Q (some (0, a0)) M)) : x_Ev l E (1, 0, 0) m_J9_min_7cf53 0 [(0, a0), (0, a1)] [] M Q := by
  refine i_iload_n 0 rfl rfl ?_
  refine i_iload_n 1 rfl rfl ?_
  refine i_icmp_gt 9 2 rfl (by decide) (fun c => ?_) (fun c => ?_)
  · replace h := h.1 c
    refine i_iload_n 5 rfl rfl ?_
    exact i_ireturn 6 rfl rfl h
  · replace h := h.2 c
    refine i_iload_n 3 rfl rfl ?_
    refine i_goto 10 4 rfl (by decide) ?_
    exact i_ireturn 6 rfl rfl h
theorem u_J6_numberOfTrailingZeros_0f7a4_0 {l : Launch} {E : xE} (a0 : Int) {M : xM} {Q : Option xV → xM → Prop} (h : ∀ zv1 : Int, zv1 = (x_iand (x_ixor a0 (-1)) (x_w (a0 - 1))) → (0 < zv1 → (zv1 ≤ 65536 → (zv1 ≤ 256 → (zv1 ≤ 16 → (zv1 ≤ 4 → Q (some (0, (x_w (1 + (x_iushr zv1 1))))) M) ∧ (¬ zv1 ≤ 4 → ∀ zv2 : Int, zv2 = x_w (1 + 2) → ∀ zv3 : Int, zv3 = (x_iushr zv1 2) → Q (some (0, (x_w (zv2 + (x_iushr zv3 1))))) M)) ∧ (¬ zv1 ≤ 16 → ∀ zv4 : Int, zv4 = x_w (1 + 4) → ∀ zv5 : Int, zv5 = (x_iushr zv1 4) → (zv5 ≤ 4 → Q (some (0, (x_w (zv4 + (x_iushr zv5 1))))) M) ∧ (¬ zv5 ≤ 4 → ∀ zv6 : Int, zv6 = x_w (zv4 + 2) → ∀ zv7 : Int, zv7 = (x_iushr zv5 2) → Q (some (0, (x_w (zv6 + (x_iushr zv7 1))))) M))) ∧ (¬ zv1 ≤ 256 → ∀ zv8 : Int, zv8 = x_w (1 + 8) → ∀ zv9 : Int, zv9 = (x_iushr zv1 8) → (zv9 ≤ 16 → (zv9 ≤ 4 → Q (some (0, (x_w (zv8 + (x_iushr zv9 1))))) M) ∧ (¬ zv9 ≤ 4 → ∀ zv10 : Int, zv10 = x_w (zv8 + 2) → ∀ zv11 : Int, zv11 = (x_iushr zv9 2) → Q (some (0, (x_w (zv10 + (x_iushr zv11 1))))) M)) ∧ (¬ zv9 ≤ 16 → ∀ zv12 : Int, zv12 = x_w (zv8 + 4) → ∀ zv13 : Int, zv13 = (x_iushr zv9 4) → (zv13 ≤ 4 → Q (some (0, (x_w (zv12 + (x_iushr zv13 1))))) M) ∧ (¬ zv13 ≤ 4 → ∀ zv14 : Int, zv14 = x_w (zv12 + 2) → ∀ zv15 : Int, zv15 = (x_iushr zv13 2) → Q (some (0, (x_w (zv14 + (x_iushr zv15 1))))) M)))) ∧ (¬ zv1 ≤ 65536 → ∀ zv16 : Int, zv16 = x_w (1 + 16) → ∀ zv17 : Int, zv17 = (x_iushr zv1 16) → (zv17 ≤ 256 → (zv17 ≤ 16 → (zv17 ≤ 4 → Q (some (0, (x_w (zv16 + (x_iushr zv17 1))))) M) ∧ (¬ zv17 ≤ 4 → ∀ zv18 : Int, zv18 = x_w (zv16 + 2) → ∀ zv19 : Int, zv19 = (x_iushr zv17 2) → Q (some (0, (x_w (zv18 + (x_iushr zv19 1))))) M)) ∧ (¬ zv17 ≤ 16 → ∀ zv20 : Int, zv20 = x_w (zv16 + 4) → ∀ zv21 : Int, zv21 = (x_iushr zv17 4) → (zv21 ≤ 4 → Q (some (0, (x_w (zv20 + (x_iushr zv21 1))))) M) ∧ (¬ zv21 ≤ 4 → ∀ zv22 : Int, zv22 = x_w (zv20 + 2) → ∀ zv23 : Int, zv23 = (x_iushr zv21 2) → Q (some (0, (x_w (zv22 + (x_iushr zv23 1))))) M))) ∧ (¬ zv17 ≤ 256 → ∀ zv24 : Int, zv24 = x_w (zv16 + 8) → ∀ zv25 : Int, zv25 = (x_iushr zv17 8) → (zv25 ≤ 16 → (zv25 ≤ 4 → Q (some (0, (x_w (zv24 + (x_iushr zv25 1))))) M) ∧ (¬ zv25 ≤ 4 → ∀ zv26 : Int, zv26 = x_w (zv24 + 2) → ∀ zv27 : Int, zv27 = (x_iushr zv25 2) → Q (some (0, (x_w (zv26 + (x_iushr zv27 1))))) M)) ∧ (¬ zv25 ≤ 16 → ∀ zv28 : Int, zv28 = x_w (zv24 + 4) → ∀ zv29 : Int, zv29 = (x_iushr zv25 4) → (zv29 ≤ 4 → Q (some (0, (x_w (zv28 + (x_iushr zv29 1))))) M) ∧ (¬ zv29 ≤ 4 → ∀ zv30 : Int, zv30 = x_w (zv28 + 2) → ∀ zv31 : Int, zv31 = (x_iushr zv29 2) → Q (some (0, (x_w (zv30 + (x_iushr zv31 1))))) M))))) ∧ (¬ 0 < zv1 → Q (some (0, (x_iand zv1 32))) M)) : x_Ev l E (1, 0, 0) m_J6_numberOfTrailingZeros_0f7a4 0 [(0, a0), (5, 0)] [] M Q := by
  refine i_iload_n 0 rfl rfl ?_
  refine i_iconst 1 rfl (by decide) ?_
  refine i_ixor 2 rfl ?_
  refine i_iload_n 3 rfl rfl ?_
  refine i_iconst 4 rfl (by decide) ?_
  refine i_isub 5 rfl ?_
  refine i_iand 6 rfl ?_
  replace h := h _ rfl
  refine i_istore_n 7 rfl (by decide) rfl ?_
  refine i_iload_n 8 rfl rfl ?_
  refine i_if_gt 17 9 rfl (by decide) (fun c => ?_) (fun c => ?_)
  · replace h := h.1 c
    refine i_iconst 14 rfl (by decide) ?_
    refine i_istore_n 15 rfl (by decide) rfl ?_
    refine i_iload_n 16 rfl rfl ?_
    refine i_ldcw (v := 65536) 17 rfl cw_1327 (by decide) ?_
    refine i_icmp_le 34 18 rfl (by decide) (fun c => ?_) (fun c => ?_)
    · replace h := h.1 c
      refine i_iload_n 24 rfl rfl ?_
      refine i_sipush 25 rfl (by decide) ?_
      refine i_icmp_le 49 26 rfl (by decide) (fun c => ?_) (fun c => ?_)
      · replace h := h.1 c
        refine i_iload_n 32 rfl rfl ?_
        refine i_bipush 33 rfl (by decide) ?_
        refine i_icmp_le 62 34 rfl (by decide) (fun c => ?_) (fun c => ?_)
        · replace h := h.1 c
          refine i_iload_n 40 rfl rfl ?_
          refine i_iconst 41 rfl (by decide) ?_
          refine i_icmp_le 74 42 rfl (by decide) (fun c => ?_) (fun c => ?_)
          · replace h := h.1 c
            refine i_iload_n 48 rfl rfl ?_
            refine i_iload_n 49 rfl rfl ?_
            refine i_iconst 50 rfl (by decide) ?_
            refine i_iushr 51 rfl ?_
            refine i_iadd 52 rfl ?_
            exact i_ireturn 53 rfl rfl h
          · replace h := h.2 c
            replace h := h _ rfl
            refine i_iinc 43 rfl rfl (by decide) rfl ?_
            refine i_iload_n 44 rfl rfl ?_
            refine i_iconst 45 rfl (by decide) ?_
            refine i_iushr 46 rfl ?_
            replace h := h _ rfl
            refine i_istore_n 47 rfl (by decide) rfl ?_
            refine i_iload_n 48 rfl rfl ?_
            refine i_iload_n 49 rfl rfl ?_
            refine i_iconst 50 rfl (by decide) ?_
            refine i_iushr 51 rfl ?_
            refine i_iadd 52 rfl ?_
            exact i_ireturn 53 rfl rfl h
        · replace h := h.2 c
          replace h := h _ rfl
          refine i_iinc 35 rfl rfl (by decide) rfl ?_
          refine i_iload_n 36 rfl rfl ?_
          refine i_iconst 37 rfl (by decide) ?_
          refine i_iushr 38 rfl ?_
          replace h := h _ rfl
          refine i_istore_n 39 rfl (by decide) rfl ?_
          refine i_iload_n 40 rfl rfl ?_
          refine i_iconst 41 rfl (by decide) ?_
          refine i_icmp_le 74 42 rfl (by decide) (fun c => ?_) (fun c => ?_)
          · replace h := h.1 c
            refine i_iload_n 48 rfl rfl ?_
            refine i_iload_n 49 rfl rfl ?_
            refine i_iconst 50 rfl (by decide) ?_
            refine i_iushr 51 rfl ?_
            refine i_iadd 52 rfl ?_
            exact i_ireturn 53 rfl rfl h
          · replace h := h.2 c
            replace h := h _ rfl
            refine i_iinc 43 rfl rfl (by decide) rfl ?_
            refine i_iload_n 44 rfl rfl ?_
            refine i_iconst 45 rfl (by decide) ?_
            refine i_iushr 46 rfl ?_
            replace h := h _ rfl
            refine i_istore_n 47 rfl (by decide) rfl ?_
            refine i_iload_n 48 rfl rfl ?_
            refine i_iload_n 49 rfl rfl ?_
            refine i_iconst 50 rfl (by decide) ?_
            refine i_iushr 51 rfl ?_
            refine i_iadd 52 rfl ?_
            exact i_ireturn 53 rfl rfl h
      · replace h := h.2 c
        replace h := h _ rfl
        refine i_iinc 27 rfl rfl (by decide) rfl ?_
        refine i_iload_n 28 rfl rfl ?_
        refine i_bipush 29 rfl (by decide) ?_
        refine i_iushr 30 rfl ?_
        replace h := h _ rfl
        refine i_istore_n 31 rfl (by decide) rfl ?_
        refine i_iload_n 32 rfl rfl ?_
        refine i_bipush 33 rfl (by decide) ?_
        refine i_icmp_le 62 34 rfl (by decide) (fun c => ?_) (fun c => ?_)
        · replace h := h.1 c
          refine i_iload_n 40 rfl rfl ?_
          refine i_iconst 41 rfl (by decide) ?_
          refine i_icmp_le 74 42 rfl (by decide) (fun c => ?_) (fun c => ?_)
          · replace h := h.1 c
            refine i_iload_n 48 rfl rfl ?_
            refine i_iload_n 49 rfl rfl ?_
            refine i_iconst 50 rfl (by decide) ?_
            refine i_iushr 51 rfl ?_
            refine i_iadd 52 rfl ?_
            exact i_ireturn 53 rfl rfl h
          · replace h := h.2 c
            replace h := h _ rfl
            refine i_iinc 43 rfl rfl (by decide) rfl ?_
            refine i_iload_n 44 rfl rfl ?_
            refine i_iconst 45 rfl (by decide) ?_
            refine i_iushr 46 rfl ?_
            replace h := h _ rfl
            refine i_istore_n 47 rfl (by decide) rfl ?_
            refine i_iload_n 48 rfl rfl ?_
            refine i_iload_n 49 rfl rfl ?_
            refine i_iconst 50 rfl (by decide) ?_
            refine i_iushr 51 rfl ?_
            refine i_iadd 52 rfl ?_
            exact i_ireturn 53 rfl rfl h
        · replace h := h.2 c
          replace h := h _ rfl
          refine i_iinc 35 rfl rfl (by decide) rfl ?_
          refine i_iload_n 36 rfl rfl ?_
          refine i_iconst 37 rfl (by decide) ?_
          refine i_iushr 38 rfl ?_
          replace h := h _ rfl
          refine i_istore_n 39 rfl (by decide) rfl ?_
          refine i_iload_n 40 rfl rfl ?_
          refine i_iconst 41 rfl (by decide) ?_
          refine i_icmp_le 74 42 rfl (by decide) (fun c => ?_) (fun c => ?_)
          · replace h := h.1 c
            refine i_iload_n 48 rfl rfl ?_
            refine i_iload_n 49 rfl rfl ?_
            refine i_iconst 50 rfl (by decide) ?_
            refine i_iushr 51 rfl ?_
            refine i_iadd 52 rfl ?_
            exact i_ireturn 53 rfl rfl h
          · replace h := h.2 c
            replace h := h _ rfl
            refine i_iinc 43 rfl rfl (by decide) rfl ?_
            refine i_iload_n 44 rfl rfl ?_
            refine i_iconst 45 rfl (by decide) ?_
            refine i_iushr 46 rfl ?_
            replace h := h _ rfl
            refine i_istore_n 47 rfl (by decide) rfl ?_
            refine i_iload_n 48 rfl rfl ?_
            refine i_iload_n 49 rfl rfl ?_
            refine i_iconst 50 rfl (by decide) ?_
            refine i_iushr 51 rfl ?_
            refine i_iadd 52 rfl ?_
            exact i_ireturn 53 rfl rfl h
    · replace h := h.2 c
      replace h := h _ rfl
      refine i_iinc 19 rfl rfl (by decide) rfl ?_
      refine i_iload_n 20 rfl rfl ?_
      refine i_bipush 21 rfl (by decide) ?_
      refine i_iushr 22 rfl ?_
      replace h := h _ rfl
      refine i_istore_n 23 rfl (by decide) rfl ?_
      refine i_iload_n 24 rfl rfl ?_
      refine i_sipush 25 rfl (by decide) ?_
      refine i_icmp_le 49 26 rfl (by decide) (fun c => ?_) (fun c => ?_)
      · replace h := h.1 c
        refine i_iload_n 32 rfl rfl ?_
        refine i_bipush 33 rfl (by decide) ?_
        refine i_icmp_le 62 34 rfl (by decide) (fun c => ?_) (fun c => ?_)
        · replace h := h.1 c
          refine i_iload_n 40 rfl rfl ?_
          refine i_iconst 41 rfl (by decide) ?_
          refine i_icmp_le 74 42 rfl (by decide) (fun c => ?_) (fun c => ?_)
          · replace h := h.1 c
            refine i_iload_n 48 rfl rfl ?_
            refine i_iload_n 49 rfl rfl ?_
            refine i_iconst 50 rfl (by decide) ?_
            refine i_iushr 51 rfl ?_
            refine i_iadd 52 rfl ?_
            exact i_ireturn 53 rfl rfl h
          · replace h := h.2 c
            replace h := h _ rfl
            refine i_iinc 43 rfl rfl (by decide) rfl ?_
            refine i_iload_n 44 rfl rfl ?_
            refine i_iconst 45 rfl (by decide) ?_
            refine i_iushr 46 rfl ?_
            replace h := h _ rfl
            refine i_istore_n 47 rfl (by decide) rfl ?_
            refine i_iload_n 48 rfl rfl ?_
            refine i_iload_n 49 rfl rfl ?_
            refine i_iconst 50 rfl (by decide) ?_
            refine i_iushr 51 rfl ?_
            refine i_iadd 52 rfl ?_
            exact i_ireturn 53 rfl rfl h
        · replace h := h.2 c
          replace h := h _ rfl
          refine i_iinc 35 rfl rfl (by decide) rfl ?_
          refine i_iload_n 36 rfl rfl ?_
          refine i_iconst 37 rfl (by decide) ?_
          refine i_iushr 38 rfl ?_
          replace h := h _ rfl
          refine i_istore_n 39 rfl (by decide) rfl ?_
          refine i_iload_n 40 rfl rfl ?_
          refine i_iconst 41 rfl (by decide) ?_
          refine i_icmp_le 74 42 rfl (by decide) (fun c => ?_) (fun c => ?_)
          · replace h := h.1 c
            refine i_iload_n 48 rfl rfl ?_
            refine i_iload_n 49 rfl rfl ?_
            refine i_iconst 50 rfl (by decide) ?_
            refine i_iushr 51 rfl ?_
            refine i_iadd 52 rfl ?_
            exact i_ireturn 53 rfl rfl h
          · replace h := h.2 c
            replace h := h _ rfl
            refine i_iinc 43 rfl rfl (by decide) rfl ?_
            refine i_iload_n 44 rfl rfl ?_
            refine i_iconst 45 rfl (by decide) ?_
            refine i_iushr 46 rfl ?_
            replace h := h _ rfl
            refine i_istore_n 47 rfl (by decide) rfl ?_
            refine i_iload_n 48 rfl rfl ?_
            refine i_iload_n 49 rfl rfl ?_
            refine i_iconst 50 rfl (by decide) ?_
            refine i_iushr 51 rfl ?_
            refine i_iadd 52 rfl ?_
            exact i_ireturn 53 rfl rfl h
      · replace h := h.2 c
        replace h := h _ rfl
        refine i_iinc 27 rfl rfl (by decide) rfl ?_
        refine i_iload_n 28 rfl rfl ?_
        refine i_bipush 29 rfl (by decide) ?_
        refine i_iushr 30 rfl ?_
        replace h := h _ rfl
        refine i_istore_n 31 rfl (by decide) rfl ?_
        refine i_iload_n 32 rfl rfl ?_
        refine i_bipush 33 rfl (by decide) ?_
        refine i_icmp_le 62 34 rfl (by decide) (fun c => ?_) (fun c => ?_)
        · replace h := h.1 c
          refine i_iload_n 40 rfl rfl ?_
          refine i_iconst 41 rfl (by decide) ?_
          refine i_icmp_le 74 42 rfl (by decide) (fun c => ?_) (fun c => ?_)
          · replace h := h.1 c
            refine i_iload_n 48 rfl rfl ?_
            refine i_iload_n 49 rfl rfl ?_
            refine i_iconst 50 rfl (by decide) ?_
            refine i_iushr 51 rfl ?_
            refine i_iadd 52 rfl ?_
            exact i_ireturn 53 rfl rfl h
          · replace h := h.2 c
            replace h := h _ rfl
            refine i_iinc 43 rfl rfl (by decide) rfl ?_
            refine i_iload_n 44 rfl rfl ?_
            refine i_iconst 45 rfl (by decide) ?_
            refine i_iushr 46 rfl ?_
            replace h := h _ rfl
            refine i_istore_n 47 rfl (by decide) rfl ?_
            refine i_iload_n 48 rfl rfl ?_
            refine i_iload_n 49 rfl rfl ?_
            refine i_iconst 50 rfl (by decide) ?_
            refine i_iushr 51 rfl ?_
            refine i_iadd 52 rfl ?_
            exact i_ireturn 53 rfl rfl h
        · replace h := h.2 c
          replace h := h _ rfl
          refine i_iinc 35 rfl rfl (by decide) rfl ?_
          refine i_iload_n 36 rfl rfl ?_
          refine i_iconst 37 rfl (by decide) ?_
          refine i_iushr 38 rfl ?_
          replace h := h _ rfl
          refine i_istore_n 39 rfl (by decide) rfl ?_
          refine i_iload_n 40 rfl rfl ?_
          refine i_iconst 41 rfl (by decide) ?_
          refine i_icmp_le 74 42 rfl (by decide) (fun c => ?_) (fun c => ?_)
          · replace h := h.1 c
            refine i_iload_n 48 rfl rfl ?_
            refine i_iload_n 49 rfl rfl ?_
            refine i_iconst 50 rfl (by decide) ?_
            refine i_iushr 51 rfl ?_
            refine i_iadd 52 rfl ?_
            exact i_ireturn 53 rfl rfl h
          · replace h := h.2 c
            replace h := h _ rfl
            refine i_iinc 43 rfl rfl (by decide) rfl ?_
            refine i_iload_n 44 rfl rfl ?_
            refine i_iconst 45 rfl (by decide) ?_
            refine i_iushr 46 rfl ?_
            replace h := h _ rfl
            refine i_istore_n 47 rfl (by decide) rfl ?_
            refine i_iload_n 48 rfl rfl ?_
            refine i_iload_n 49 rfl rfl ?_
            refine i_iconst 50 rfl (by decide) ?_
            refine i_iushr 51 rfl ?_
            refine i_iadd 52 rfl ?_
            exact i_ireturn 53 rfl rfl h
  · replace h := h.2 c
    refine i_iload_n 10 rfl rfl ?_
    refine i_bipush 11 rfl (by decide) ?_
    refine i_iand 12 rfl ?_
    exact i_ireturn 13 rfl rfl h
theorem u_J9_floorDiv_f86c9_0 {l : Launch} {E : xE} (a0 a1 : Int) {M : xM} {Q : Option xV → xM → Prop} (h : (a1 ≠ 0) ∧ ∀ zv1 : Int, zv1 = (x_W (a0.tdiv a1)) → (0 ≤ (x_lxor a0 a1) → Q (some (1, zv1)) M) ∧ (¬ 0 ≤ (x_lxor a0 a1) → ((x_W (zv1 * a1)) = a0 → Q (some (1, zv1)) M) ∧ (¬ (x_W (zv1 * a1)) = a0 → Q (some (1, (x_W (zv1 - 1)))) M))) : x_Ev l E (1, 0, 0) m_J9_floorDiv_f86c9 0 [(1, a0), (5, 0), (1, a1), (5, 0), (5, 0), (5, 0)] [] M Q := by
  refine i_lload_n 0 rfl rfl ?_
  refine i_lload_n 1 rfl rfl ?_
  refine i_ldiv 2 rfl h.1 ?_
  replace h := h.2
  replace h := h _ rfl
  refine i_lstore 3 rfl (by decide) rfl ?_
  refine i_lload_n 4 rfl rfl ?_
  refine i_lload_n 5 rfl rfl ?_
  refine i_lxor 6 rfl ?_
  refine i_lconst (w := 0) 7 rfl (by decide) ?_
  refine i_lcmp_ge 27 8 rfl rfl (by decide) (fun c => ?_) (fun c => ?_)
  · replace h := h.1 c
    refine i_lload 20 rfl rfl ?_
    exact i_lreturn 21 rfl rfl h
  · replace h := h.2 c
    refine i_lload 10 rfl rfl ?_
    refine i_lload_n 11 rfl rfl ?_
    refine i_lmul 12 rfl ?_
    refine i_lload_n 13 rfl rfl ?_
    refine i_lcmp_eq 27 14 rfl rfl (by decide) (fun c => ?_) (fun c => ?_)
    · replace h := h.1 c
      refine i_lload 20 rfl rfl ?_
      exact i_lreturn 21 rfl rfl h
    · replace h := h.2 c
      refine i_lload 16 rfl rfl ?_
      refine i_lconst (w := 1) 17 rfl (by decide) ?_
      refine i_lsub 18 rfl ?_
      exact i_lreturn 19 rfl rfl h
theorem u_J13_compare_74951_0 {l : Launch} {E : xE} (a0 a1 : Int) {M : xM} {Q : Option xV → xM → Prop} (h : (a1 ≤ a0 → (¬ a0 = a1 → Q (some (0, 1)) M) ∧ (a0 = a1 → Q (some (0, 0)) M)) ∧ (¬ a1 ≤ a0 → Q (some (0, (-1))) M)) : x_Ev l E (1, 0, 0) m_J13_compare_74951 0 [(1, a0), (5, 0), (1, a1), (5, 0)] [] M Q := by
  refine i_lload_n 0 rfl rfl ?_
  refine i_lload_n 1 rfl rfl ?_
  refine i_lcmp_ge 10 2 rfl rfl (by decide) (fun c => ?_) (fun c => ?_)
  · replace h := h.1 c
    refine i_lload_n 6 rfl rfl ?_
    refine i_lload_n 7 rfl rfl ?_
    refine i_lcmp_ne 20 8 rfl rfl (by decide) (fun c => ?_) (fun c => ?_)
    · replace h := h.1 c
      refine i_iconst 12 rfl (by decide) ?_
      exact i_ireturn 13 rfl rfl h
    · replace h := h.2 c
      refine i_iconst 10 rfl (by decide) ?_
      refine i_goto 21 11 rfl (by decide) ?_
      exact i_ireturn 13 rfl rfl h
  · replace h := h.2 c
    refine i_iconst 4 rfl (by decide) ?_
    refine i_goto 21 5 rfl (by decide) ?_
    exact i_ireturn 13 rfl rfl h
theorem u_J6_numberOfLeadingZeros_0f7a4_0 {l : Launch} {E : xE} (a0 : Int) {M : xM} {Q : Option xV → xM → Prop} (h : (0 < a0 → (a0 < 65536 → (a0 < 256 → (a0 < 16 → (a0 < 4 → Q (some (0, (x_w (31 - (x_iushr a0 1))))) M) ∧ (¬ a0 < 4 → ∀ zv1 : Int, zv1 = x_w (31 + (-2)) → ∀ zv2 : Int, zv2 = (x_iushr a0 2) → Q (some (0, (x_w (zv1 - (x_iushr zv2 1))))) M)) ∧ (¬ a0 < 16 → ∀ zv3 : Int, zv3 = x_w (31 + (-4)) → ∀ zv4 : Int, zv4 = (x_iushr a0 4) → (zv4 < 4 → Q (some (0, (x_w (zv3 - (x_iushr zv4 1))))) M) ∧ (¬ zv4 < 4 → ∀ zv5 : Int, zv5 = x_w (zv3 + (-2)) → ∀ zv6 : Int, zv6 = (x_iushr zv4 2) → Q (some (0, (x_w (zv5 - (x_iushr zv6 1))))) M))) ∧ (¬ a0 < 256 → ∀ zv7 : Int, zv7 = x_w (31 + (-8)) → ∀ zv8 : Int, zv8 = (x_iushr a0 8) → (zv8 < 16 → (zv8 < 4 → Q (some (0, (x_w (zv7 - (x_iushr zv8 1))))) M) ∧ (¬ zv8 < 4 → ∀ zv9 : Int, zv9 = x_w (zv7 + (-2)) → ∀ zv10 : Int, zv10 = (x_iushr zv8 2) → Q (some (0, (x_w (zv9 - (x_iushr zv10 1))))) M)) ∧ (¬ zv8 < 16 → ∀ zv11 : Int, zv11 = x_w (zv7 + (-4)) → ∀ zv12 : Int, zv12 = (x_iushr zv8 4) → (zv12 < 4 → Q (some (0, (x_w (zv11 - (x_iushr zv12 1))))) M) ∧ (¬ zv12 < 4 → ∀ zv13 : Int, zv13 = x_w (zv11 + (-2)) → ∀ zv14 : Int, zv14 = (x_iushr zv12 2) → Q (some (0, (x_w (zv13 - (x_iushr zv14 1))))) M)))) ∧ (¬ a0 < 65536 → ∀ zv15 : Int, zv15 = x_w (31 + (-16)) → ∀ zv16 : Int, zv16 = (x_iushr a0 16) → (zv16 < 256 → (zv16 < 16 → (zv16 < 4 → Q (some (0, (x_w (zv15 - (x_iushr zv16 1))))) M) ∧ (¬ zv16 < 4 → ∀ zv17 : Int, zv17 = x_w (zv15 + (-2)) → ∀ zv18 : Int, zv18 = (x_iushr zv16 2) → Q (some (0, (x_w (zv17 - (x_iushr zv18 1))))) M)) ∧ (¬ zv16 < 16 → ∀ zv19 : Int, zv19 = x_w (zv15 + (-4)) → ∀ zv20 : Int, zv20 = (x_iushr zv16 4) → (zv20 < 4 → Q (some (0, (x_w (zv19 - (x_iushr zv20 1))))) M) ∧ (¬ zv20 < 4 → ∀ zv21 : Int, zv21 = x_w (zv19 + (-2)) → ∀ zv22 : Int, zv22 = (x_iushr zv20 2) → Q (some (0, (x_w (zv21 - (x_iushr zv22 1))))) M))) ∧ (¬ zv16 < 256 → ∀ zv23 : Int, zv23 = x_w (zv15 + (-8)) → ∀ zv24 : Int, zv24 = (x_iushr zv16 8) → (zv24 < 16 → (zv24 < 4 → Q (some (0, (x_w (zv23 - (x_iushr zv24 1))))) M) ∧ (¬ zv24 < 4 → ∀ zv25 : Int, zv25 = x_w (zv23 + (-2)) → ∀ zv26 : Int, zv26 = (x_iushr zv24 2) → Q (some (0, (x_w (zv25 - (x_iushr zv26 1))))) M)) ∧ (¬ zv24 < 16 → ∀ zv27 : Int, zv27 = x_w (zv23 + (-4)) → ∀ zv28 : Int, zv28 = (x_iushr zv24 4) → (zv28 < 4 → Q (some (0, (x_w (zv27 - (x_iushr zv28 1))))) M) ∧ (¬ zv28 < 4 → ∀ zv29 : Int, zv29 = x_w (zv27 + (-2)) → ∀ zv30 : Int, zv30 = (x_iushr zv28 2) → Q (some (0, (x_w (zv29 - (x_iushr zv30 1))))) M))))) ∧ (¬ 0 < a0 → (¬ a0 = 0 → Q (some (0, 0)) M) ∧ (a0 = 0 → Q (some (0, 32)) M))) : x_Ev l E (1, 0, 0) m_J6_numberOfLeadingZeros_0f7a4 0 [(0, a0), (5, 0)] [] M Q := by
  refine i_iload_n 0 rfl rfl ?_
  refine i_if_gt 15 1 rfl (by decide) (fun c => ?_) (fun c => ?_)
  · replace h := h.1 c
    refine i_bipush 8 rfl (by decide) ?_
    refine i_istore_n 9 rfl (by decide) rfl ?_
    refine i_iload_n 10 rfl rfl ?_
    refine i_ldcw (v := 65536) 11 rfl cw_1327 (by decide) ?_
    refine i_icmp_lt 33 12 rfl (by decide) (fun c => ?_) (fun c => ?_)
    · replace h := h.1 c
      refine i_iload_n 18 rfl rfl ?_
      refine i_sipush 19 rfl (by decide) ?_
      refine i_icmp_lt 48 20 rfl (by decide) (fun c => ?_) (fun c => ?_)
      · replace h := h.1 c
        refine i_iload_n 26 rfl rfl ?_
        refine i_bipush 27 rfl (by decide) ?_
        refine i_icmp_lt 61 28 rfl (by decide) (fun c => ?_) (fun c => ?_)
        · replace h := h.1 c
          refine i_iload_n 34 rfl rfl ?_
          refine i_iconst 35 rfl (by decide) ?_
          refine i_icmp_lt 73 36 rfl (by decide) (fun c => ?_) (fun c => ?_)
          · replace h := h.1 c
            refine i_iload_n 42 rfl rfl ?_
            refine i_iload_n 43 rfl rfl ?_
            refine i_iconst 44 rfl (by decide) ?_
            refine i_iushr 45 rfl ?_
            refine i_isub 46 rfl ?_
            exact i_ireturn 47 rfl rfl h
          · replace h := h.2 c
            replace h := h _ rfl
            refine i_iinc 37 rfl rfl (by decide) rfl ?_
            refine i_iload_n 38 rfl rfl ?_
            refine i_iconst 39 rfl (by decide) ?_
            refine i_iushr 40 rfl ?_
            replace h := h _ rfl
            refine i_istore_n 41 rfl (by decide) rfl ?_
            refine i_iload_n 42 rfl rfl ?_
            refine i_iload_n 43 rfl rfl ?_
            refine i_iconst 44 rfl (by decide) ?_
            refine i_iushr 45 rfl ?_
            refine i_isub 46 rfl ?_
            exact i_ireturn 47 rfl rfl h
        · replace h := h.2 c
          replace h := h _ rfl
          refine i_iinc 29 rfl rfl (by decide) rfl ?_
          refine i_iload_n 30 rfl rfl ?_
          refine i_iconst 31 rfl (by decide) ?_
          refine i_iushr 32 rfl ?_
          replace h := h _ rfl
          refine i_istore_n 33 rfl (by decide) rfl ?_
          refine i_iload_n 34 rfl rfl ?_
          refine i_iconst 35 rfl (by decide) ?_
          refine i_icmp_lt 73 36 rfl (by decide) (fun c => ?_) (fun c => ?_)
          · replace h := h.1 c
            refine i_iload_n 42 rfl rfl ?_
            refine i_iload_n 43 rfl rfl ?_
            refine i_iconst 44 rfl (by decide) ?_
            refine i_iushr 45 rfl ?_
            refine i_isub 46 rfl ?_
            exact i_ireturn 47 rfl rfl h
          · replace h := h.2 c
            replace h := h _ rfl
            refine i_iinc 37 rfl rfl (by decide) rfl ?_
            refine i_iload_n 38 rfl rfl ?_
            refine i_iconst 39 rfl (by decide) ?_
            refine i_iushr 40 rfl ?_
            replace h := h _ rfl
            refine i_istore_n 41 rfl (by decide) rfl ?_
            refine i_iload_n 42 rfl rfl ?_
            refine i_iload_n 43 rfl rfl ?_
            refine i_iconst 44 rfl (by decide) ?_
            refine i_iushr 45 rfl ?_
            refine i_isub 46 rfl ?_
            exact i_ireturn 47 rfl rfl h
      · replace h := h.2 c
        replace h := h _ rfl
        refine i_iinc 21 rfl rfl (by decide) rfl ?_
        refine i_iload_n 22 rfl rfl ?_
        refine i_bipush 23 rfl (by decide) ?_
        refine i_iushr 24 rfl ?_
        replace h := h _ rfl
        refine i_istore_n 25 rfl (by decide) rfl ?_
        refine i_iload_n 26 rfl rfl ?_
        refine i_bipush 27 rfl (by decide) ?_
        refine i_icmp_lt 61 28 rfl (by decide) (fun c => ?_) (fun c => ?_)
        · replace h := h.1 c
          refine i_iload_n 34 rfl rfl ?_
          refine i_iconst 35 rfl (by decide) ?_
          refine i_icmp_lt 73 36 rfl (by decide) (fun c => ?_) (fun c => ?_)
          · replace h := h.1 c
            refine i_iload_n 42 rfl rfl ?_
            refine i_iload_n 43 rfl rfl ?_
            refine i_iconst 44 rfl (by decide) ?_
            refine i_iushr 45 rfl ?_
            refine i_isub 46 rfl ?_
            exact i_ireturn 47 rfl rfl h
          · replace h := h.2 c
            replace h := h _ rfl
            refine i_iinc 37 rfl rfl (by decide) rfl ?_
            refine i_iload_n 38 rfl rfl ?_
            refine i_iconst 39 rfl (by decide) ?_
            refine i_iushr 40 rfl ?_
            replace h := h _ rfl
            refine i_istore_n 41 rfl (by decide) rfl ?_
            refine i_iload_n 42 rfl rfl ?_
            refine i_iload_n 43 rfl rfl ?_
            refine i_iconst 44 rfl (by decide) ?_
            refine i_iushr 45 rfl ?_
            refine i_isub 46 rfl ?_
            exact i_ireturn 47 rfl rfl h
        · replace h := h.2 c
          replace h := h _ rfl
          refine i_iinc 29 rfl rfl (by decide) rfl ?_
          refine i_iload_n 30 rfl rfl ?_
          refine i_iconst 31 rfl (by decide) ?_
          refine i_iushr 32 rfl ?_
          replace h := h _ rfl
          refine i_istore_n 33 rfl (by decide) rfl ?_
          refine i_iload_n 34 rfl rfl ?_
          refine i_iconst 35 rfl (by decide) ?_
          refine i_icmp_lt 73 36 rfl (by decide) (fun c => ?_) (fun c => ?_)
          · replace h := h.1 c
            refine i_iload_n 42 rfl rfl ?_
            refine i_iload_n 43 rfl rfl ?_
            refine i_iconst 44 rfl (by decide) ?_
            refine i_iushr 45 rfl ?_
            refine i_isub 46 rfl ?_
            exact i_ireturn 47 rfl rfl h
          · replace h := h.2 c
            replace h := h _ rfl
            refine i_iinc 37 rfl rfl (by decide) rfl ?_
            refine i_iload_n 38 rfl rfl ?_
            refine i_iconst 39 rfl (by decide) ?_
            refine i_iushr 40 rfl ?_
            replace h := h _ rfl
            refine i_istore_n 41 rfl (by decide) rfl ?_
            refine i_iload_n 42 rfl rfl ?_
            refine i_iload_n 43 rfl rfl ?_
            refine i_iconst 44 rfl (by decide) ?_
            refine i_iushr 45 rfl ?_
            refine i_isub 46 rfl ?_
            exact i_ireturn 47 rfl rfl h
    · replace h := h.2 c
      replace h := h _ rfl
      refine i_iinc 13 rfl rfl (by decide) rfl ?_
      refine i_iload_n 14 rfl rfl ?_
      refine i_bipush 15 rfl (by decide) ?_
      refine i_iushr 16 rfl ?_
      replace h := h _ rfl
      refine i_istore_n 17 rfl (by decide) rfl ?_
      refine i_iload_n 18 rfl rfl ?_
      refine i_sipush 19 rfl (by decide) ?_
      refine i_icmp_lt 48 20 rfl (by decide) (fun c => ?_) (fun c => ?_)
      · replace h := h.1 c
        refine i_iload_n 26 rfl rfl ?_
        refine i_bipush 27 rfl (by decide) ?_
        refine i_icmp_lt 61 28 rfl (by decide) (fun c => ?_) (fun c => ?_)
        · replace h := h.1 c
          refine i_iload_n 34 rfl rfl ?_
          refine i_iconst 35 rfl (by decide) ?_
          refine i_icmp_lt 73 36 rfl (by decide) (fun c => ?_) (fun c => ?_)
          · replace h := h.1 c
            refine i_iload_n 42 rfl rfl ?_
            refine i_iload_n 43 rfl rfl ?_
            refine i_iconst 44 rfl (by decide) ?_
            refine i_iushr 45 rfl ?_
            refine i_isub 46 rfl ?_
            exact i_ireturn 47 rfl rfl h
          · replace h := h.2 c
            replace h := h _ rfl
            refine i_iinc 37 rfl rfl (by decide) rfl ?_
            refine i_iload_n 38 rfl rfl ?_
            refine i_iconst 39 rfl (by decide) ?_
            refine i_iushr 40 rfl ?_
            replace h := h _ rfl
            refine i_istore_n 41 rfl (by decide) rfl ?_
            refine i_iload_n 42 rfl rfl ?_
            refine i_iload_n 43 rfl rfl ?_
            refine i_iconst 44 rfl (by decide) ?_
            refine i_iushr 45 rfl ?_
            refine i_isub 46 rfl ?_
            exact i_ireturn 47 rfl rfl h
        · replace h := h.2 c
          replace h := h _ rfl
          refine i_iinc 29 rfl rfl (by decide) rfl ?_
          refine i_iload_n 30 rfl rfl ?_
          refine i_iconst 31 rfl (by decide) ?_
          refine i_iushr 32 rfl ?_
          replace h := h _ rfl
          refine i_istore_n 33 rfl (by decide) rfl ?_
          refine i_iload_n 34 rfl rfl ?_
          refine i_iconst 35 rfl (by decide) ?_
          refine i_icmp_lt 73 36 rfl (by decide) (fun c => ?_) (fun c => ?_)
          · replace h := h.1 c
            refine i_iload_n 42 rfl rfl ?_
            refine i_iload_n 43 rfl rfl ?_
            refine i_iconst 44 rfl (by decide) ?_
            refine i_iushr 45 rfl ?_
            refine i_isub 46 rfl ?_
            exact i_ireturn 47 rfl rfl h
          · replace h := h.2 c
            replace h := h _ rfl
            refine i_iinc 37 rfl rfl (by decide) rfl ?_
            refine i_iload_n 38 rfl rfl ?_
            refine i_iconst 39 rfl (by decide) ?_
            refine i_iushr 40 rfl ?_
            replace h := h _ rfl
            refine i_istore_n 41 rfl (by decide) rfl ?_
            refine i_iload_n 42 rfl rfl ?_
            refine i_iload_n 43 rfl rfl ?_
            refine i_iconst 44 rfl (by decide) ?_
            refine i_iushr 45 rfl ?_
            refine i_isub 46 rfl ?_
            exact i_ireturn 47 rfl rfl h
      · replace h := h.2 c
        replace h := h _ rfl
        refine i_iinc 21 rfl rfl (by decide) rfl ?_
        refine i_iload_n 22 rfl rfl ?_
        refine i_bipush 23 rfl (by decide) ?_
        refine i_iushr 24 rfl ?_
        replace h := h _ rfl
        refine i_istore_n 25 rfl (by decide) rfl ?_
        refine i_iload_n 26 rfl rfl ?_
        refine i_bipush 27 rfl (by decide) ?_
        refine i_icmp_lt 61 28 rfl (by decide) (fun c => ?_) (fun c => ?_)
        · replace h := h.1 c
          refine i_iload_n 34 rfl rfl ?_
          refine i_iconst 35 rfl (by decide) ?_
          refine i_icmp_lt 73 36 rfl (by decide) (fun c => ?_) (fun c => ?_)
          · replace h := h.1 c
            refine i_iload_n 42 rfl rfl ?_
            refine i_iload_n 43 rfl rfl ?_
            refine i_iconst 44 rfl (by decide) ?_
            refine i_iushr 45 rfl ?_
            refine i_isub 46 rfl ?_
            exact i_ireturn 47 rfl rfl h
          · replace h := h.2 c
            replace h := h _ rfl
            refine i_iinc 37 rfl rfl (by decide) rfl ?_
            refine i_iload_n 38 rfl rfl ?_
            refine i_iconst 39 rfl (by decide) ?_
            refine i_iushr 40 rfl ?_
            replace h := h _ rfl
            refine i_istore_n 41 rfl (by decide) rfl ?_
            refine i_iload_n 42 rfl rfl ?_
            refine i_iload_n 43 rfl rfl ?_
            refine i_iconst 44 rfl (by decide) ?_
            refine i_iushr 45 rfl ?_
            refine i_isub 46 rfl ?_
            exact i_ireturn 47 rfl rfl h
        · replace h := h.2 c
          replace h := h _ rfl
          refine i_iinc 29 rfl rfl (by decide) rfl ?_
          refine i_iload_n 30 rfl rfl ?_
          refine i_iconst 31 rfl (by decide) ?_
          refine i_iushr 32 rfl ?_
          replace h := h _ rfl
          refine i_istore_n 33 rfl (by decide) rfl ?_
          refine i_iload_n 34 rfl rfl ?_
          refine i_iconst 35 rfl (by decide) ?_
          refine i_icmp_lt 73 36 rfl (by decide) (fun c => ?_) (fun c => ?_)
          · replace h := h.1 c
            refine i_iload_n 42 rfl rfl ?_
            refine i_iload_n 43 rfl rfl ?_
            refine i_iconst 44 rfl (by decide) ?_
            refine i_iushr 45 rfl ?_
            refine i_isub 46 rfl ?_
            exact i_ireturn 47 rfl rfl h
          · replace h := h.2 c
            replace h := h _ rfl
            refine i_iinc 37 rfl rfl (by decide) rfl ?_
            refine i_iload_n 38 rfl rfl ?_
            refine i_iconst 39 rfl (by decide) ?_
            refine i_iushr 40 rfl ?_
            replace h := h _ rfl
            refine i_istore_n 41 rfl (by decide) rfl ?_
            refine i_iload_n 42 rfl rfl ?_
            refine i_iload_n 43 rfl rfl ?_
            refine i_iconst 44 rfl (by decide) ?_
            refine i_iushr 45 rfl ?_
            refine i_isub 46 rfl ?_
            exact i_ireturn 47 rfl rfl h
  · replace h := h.2 c
    refine i_iload_n 2 rfl rfl ?_
    refine i_if_ne 13 3 rfl (by decide) (fun c => ?_) (fun c => ?_)
    · replace h := h.1 c
      refine i_iconst 6 rfl (by decide) ?_
      exact i_ireturn 7 rfl rfl h
    · replace h := h.2 c
      refine i_bipush 4 rfl (by decide) ?_
      refine i_goto 14 5 rfl (by decide) ?_
      exact i_ireturn 7 rfl rfl h
