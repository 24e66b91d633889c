/-! Printed by wip/whole/tools/gen_vc.py: what is enough at each cut point -/
theorem u_J6_bitCount_0f7a4_0 {l : Launch} {E : xE} (a0 : Int) {M : xM} {Q : Option xV → xM → Prop} (h : ∀ v1 : Int, v1 = (x_w (a0 - (x_iand (x_iushr a0 1) 1431655765))) → ∀ v2 : Int, v2 = (x_w ((x_iand v1 858993459) + (x_iand (x_iushr v1 2) 858993459))) → ∀ v3 : Int, v3 = (x_iand (x_w (v2 + (x_iushr v2 4))) 252645135) → ∀ v4 : Int, v4 = (x_w (v3 + (x_iushr v3 8))) → ∀ v5 : Int, v5 = (x_w (v4 + (x_iushr v4 16))) → Q (some (0, (x_iand v5 63))) M) : x_Ev l E (1, 0, 0) m_J6_bitCount_0f7a4 0 [(0, a0)] [] M Q := by
  refine i_iload_n 0 rfl rfl ?_
  refine i_iload_n 1 rfl rfl ?_
  refine i_iconst 2 rfl (by decide) ?_
  refine i_iushr 3 rfl ?_
  refine i_ldcw (v := 1431655765) 4 rfl cw_430 (by decide) ?_
  refine i_iand 5 rfl ?_
  refine i_isub 6 rfl ?_
  replace h := h _ rfl
  refine i_istore_n 7 rfl (by decide) rfl ?_
  refine i_iload_n 8 rfl rfl ?_
  refine i_ldcw (v := 858993459) 9 rfl cw_431 (by decide) ?_
  refine i_iand 10 rfl ?_
  refine i_iload_n 11 rfl rfl ?_
  refine i_iconst 12 rfl (by decide) ?_
  refine i_iushr 13 rfl ?_
  refine i_ldcw (v := 858993459) 14 rfl cw_431 (by decide) ?_
  refine i_iand 15 rfl ?_
  refine i_iadd 16 rfl ?_
  replace h := h _ rfl
  refine i_istore_n 17 rfl (by decide) rfl ?_
  refine i_iload_n 18 rfl rfl ?_
  refine i_iload_n 19 rfl rfl ?_
  refine i_iconst 20 rfl (by decide) ?_
  refine i_iushr 21 rfl ?_
  refine i_iadd 22 rfl ?_
  refine i_ldcw (v := 252645135) 23 rfl cw_432 (by decide) ?_
  refine i_iand 24 rfl ?_
  replace h := h _ rfl
  refine i_istore_n 25 rfl (by decide) rfl ?_
  refine i_iload_n 26 rfl rfl ?_
  refine i_iload_n 27 rfl rfl ?_
  refine i_bipush 28 rfl (by decide) ?_
  refine i_iushr 29 rfl ?_
  refine i_iadd 30 rfl ?_
  replace h := h _ rfl
  refine i_istore_n 31 rfl (by decide) rfl ?_
  refine i_iload_n 32 rfl rfl ?_
  refine i_iload_n 33 rfl rfl ?_
  refine i_bipush 34 rfl (by decide) ?_
  refine i_iushr 35 rfl ?_
  refine i_iadd 36 rfl ?_
  replace h := h _ rfl
  refine i_istore_n 37 rfl (by decide) rfl ?_
  refine i_iload_n 38 rfl rfl ?_
  refine i_bipush 39 rfl (by decide) ?_
  refine i_iand 40 rfl ?_
  exact i_ireturn 41 rfl rfl h
theorem u_J9_min_7cf53_0 {l : Launch} {E : xE} (a0 a1 : Int) {M : xM} {Q : Option xV → xM → Prop} (h : (a1 < a0 → Q (some (0, a1)) M) ∧ (¬ a1 < a0 → Q (some (0, a0)) M)) : x_Ev l E (1, 0, 0) m_J9_min_7cf53 0 [(0, a0), (0, a1)] [] M Q := by
  refine i_iload_n 0 rfl rfl ?_
  refine i_iload_n 1 rfl rfl ?_
  refine i_icmp_gt 9 2 rfl (by decide) (fun c => ?_) (fun c => ?_)
  · replace h := h.1 c
    refine i_iload_n 5 rfl rfl ?_
    exact i_ireturn 6 rfl rfl h
  · replace h := h.2 c
    refine i_iload_n 3 rfl rfl ?_
    refine i_goto 10 4 rfl (by decide) ?_
    exact i_ireturn 6 rfl rfl h
theorem u_J6_numberOfTrailingZeros_0f7a4_0 {l : Launch} {E : xE} (a0 : Int) {M : xM} {Q : Option xV → xM → Prop} (h : ∀ v1 : Int, v1 = (x_iand (x_ixor a0 (-1)) (x_w (a0 - 1))) → (0 < v1 → (v1 ≤ 65536 → (v1 ≤ 256 → (v1 ≤ 16 → (v1 ≤ 4 → Q (some (0, (x_w (1 + (x_iushr v1 1))))) M) ∧ (¬ v1 ≤ 4 → ∀ v2 : Int, v2 = x_w (1 + 2) → ∀ v3 : Int, v3 = (x_iushr v1 2) → Q (some (0, (x_w (v2 + (x_iushr v3 1))))) M)) ∧ (¬ v1 ≤ 16 → ∀ v4 : Int, v4 = x_w (1 + 4) → ∀ v5 : Int, v5 = (x_iushr v1 4) → (v5 ≤ 4 → Q (some (0, (x_w (v4 + (x_iushr v5 1))))) M) ∧ (¬ v5 ≤ 4 → ∀ v6 : Int, v6 = x_w (v4 + 2) → ∀ v7 : Int, v7 = (x_iushr v5 2) → Q (some (0, (x_w (v6 + (x_iushr v7 1))))) M))) ∧ (¬ v1 ≤ 256 → ∀ v8 : Int, v8 = x_w (1 + 8) → ∀ v9 : Int, v9 = (x_iushr v1 8) → (v9 ≤ 16 → (v9 ≤ 4 → Q (some (0, (x_w (v8 + (x_iushr v9 1))))) M) ∧ (¬ v9 ≤ 4 → ∀ v10 : Int, v10 = x_w (v8 + 2) → ∀ v11 : Int, v11 = (x_iushr v9 2) → Q (some (0, (x_w (v10 + (x_iushr v11 1))))) M)) ∧ (¬ v9 ≤ 16 → ∀ v12 : Int, v12 = x_w (v8 + 4) → ∀ v13 : Int, v13 = (x_iushr v9 4) → (v13 ≤ 4 → Q (some (0, (x_w (v12 + (x_iushr v13 1))))) M) ∧ (¬ v13 ≤ 4 → ∀ v14 : Int, v14 = x_w (v12 + 2) → ∀ v15 : Int, v15 = (x_iushr v13 2) → Q (some (0, (x_w (v14 + (x_iushr v15 1))))) M)))) ∧ (¬ v1 ≤ 65536 → ∀ v16 : Int, v16 = x_w (1 + 16) → ∀ v17 : Int, v17 = (x_iushr v1 16) → (v17 ≤ 256 → (v17 ≤ 16 → (v17 ≤ 4 → Q (some (0, (x_w (v16 + (x_iushr v17 1))))) M) ∧ (¬ v17 ≤ 4 → ∀ v18 : Int, v18 = x_w (v16 + 2) → ∀ v19 : Int, v19 = (x_iushr v17 2) → Q (some (0, (x_w (v18 + (x_iushr v19 1))))) M)) ∧ (¬ v17 ≤ 16 → ∀ v20 : Int, v20 = x_w (v16 + 4) → ∀ v21 : Int, v21 = (x_iushr v17 4) → (v21 ≤ 4 → Q (some (0, (x_w (v20 + (x_iushr v21 1))))) M) ∧ (¬ v21 ≤ 4 → ∀ v22 : Int, v22 = x_w (v20 + 2) → ∀ v23 : Int, v23 = (x_iushr v21 2) → Q (some (0, (x_w (v22 + (x_iushr v23 1))))) M))) ∧ (¬ v17 ≤ 256 → ∀ v24 : Int, v24 = x_w (v16 + 8) → ∀ v25 : Int, v25 = (x_iushr v17 8) → (v25 ≤ 16 → (v25 ≤ 4 → Q (some (0, (x_w (v24 + (x_iushr v25 1))))) M) ∧ (¬ v25 ≤ 4 → ∀ v26 : Int, v26 = x_w (v24 + 2) → ∀ v27 : Int, v27 = (x_iushr v25 2) → Q (some (0, (x_w (v26 + (x_iushr v27 1))))) M)) ∧ (¬ v25 ≤ 16 → ∀ v28 : Int, v28 = x_w (v24 + 4) → ∀ v29 : Int, v29 = (x_iushr v25 4) → (v29 ≤ 4 → Q (some (0, (x_w (v28 + (x_iushr v29 1))))) M) ∧ (¬ v29 ≤ 4 → ∀ v30 : Int, v30 = x_w (v28 + 2) → ∀ v31 : Int, v31 = (x_iushr v29 2) → Q (some (0, (x_w (v30 + (x_iushr v31 1))))) M))))) ∧ (¬ 0 < v1 → Q (some (0, (x_iand v1 32))) M)) : x_Ev l E (1, 0, 0) m_J6_numberOfTrailingZeros_0f7a4 0 [(0, a0), (5, 0)] [] M Q := by
  refine i_iload_n 0 rfl rfl ?_
  refine i_iconst 1 rfl (by decide) ?_
  refine i_ixor 2 rfl ?_
  refine i_iload_n 3 rfl rfl ?_
  refine i_iconst 4 rfl (by decide) ?_
  refine i_isub 5 rfl ?_
  refine i_iand 6 rfl ?_
  replace h := h _ rfl
  refine i_istore_n 7 rfl (by decide) rfl ?_
  refine i_iload_n 8 rfl rfl ?_
  refine i_if_gt 17 9 rfl (by decide) (fun c => ?_) (fun c => ?_)
  · replace h := h.1 c
    refine i_iconst 14 rfl (by decide) ?_
    refine i_istore_n 15 rfl (by decide) rfl ?_
    refine i_iload_n 16 rfl rfl ?_
    refine i_ldcw (v := 65536) 17 rfl cw_1327 (by decide) ?_
    refine i_icmp_le 34 18 rfl (by decide) (fun c => ?_) (fun c => ?_)
    · replace h := h.1 c
      refine i_iload_n 24 rfl rfl ?_
      refine i_sipush 25 rfl (by decide) ?_
      refine i_icmp_le 49 26 rfl (by decide) (fun c => ?_) (fun c => ?_)
      · replace h := h.1 c
        refine i_iload_n 32 rfl rfl ?_
        refine i_bipush 33 rfl (by decide) ?_
        refine i_icmp_le 62 34 rfl (by decide) (fun c => ?_) (fun c => ?_)
        · replace h := h.1 c
          refine i_iload_n 40 rfl rfl ?_
          refine i_iconst 41 rfl (by decide) ?_
          refine i_icmp_le 74 42 rfl (by decide) (fun c => ?_) (fun c => ?_)
          · replace h := h.1 c
            refine i_iload_n 48 rfl rfl ?_
            refine i_iload_n 49 rfl rfl ?_
            refine i_iconst 50 rfl (by decide) ?_
            refine i_iushr 51 rfl ?_
            refine i_iadd 52 rfl ?_
            exact i_ireturn 53 rfl rfl h
          · replace h := h.2 c
            replace h := h _ rfl
            refine i_iinc 43 rfl rfl (by decide) rfl ?_
            refine i_iload_n 44 rfl rfl ?_
            refine i_iconst 45 rfl (by decide) ?_
            refine i_iushr 46 rfl ?_
            replace h := h _ rfl
            refine i_istore_n 47 rfl (by decide) rfl ?_
            refine i_iload_n 48 rfl rfl ?_
            refine i_iload_n 49 rfl rfl ?_
            refine i_iconst 50 rfl (by decide) ?_
            refine i_iushr 51 rfl ?_
            refine i_iadd 52 rfl ?_
            exact i_ireturn 53 rfl rfl h
        · replace h := h.2 c
          replace h := h _ rfl
          refine i_iinc 35 rfl rfl (by decide) rfl ?_
          refine i_iload_n 36 rfl rfl ?_
          refine i_iconst 37 rfl (by decide) ?_
          refine i_iushr 38 rfl ?_
          replace h := h _ rfl
          refine i_istore_n 39 rfl (by decide) rfl ?_
          refine i_iload_n 40 rfl rfl ?_
          refine i_iconst 41 rfl (by decide) ?_
          refine i_icmp_le 74 42 rfl (by decide) (fun c => ?_) (fun c => ?_)
          · replace h := h.1 c
            refine i_iload_n 48 rfl rfl ?_
            refine i_iload_n 49 rfl rfl ?_
            refine i_iconst 50 rfl (by decide) ?_
            refine i_iushr 51 rfl ?_
            refine i_iadd 52 rfl ?_
            exact i_ireturn 53 rfl rfl h
          · replace h := h.2 c
            replace h := h _ rfl
            refine i_iinc 43 rfl rfl (by decide) rfl ?_
            refine i_iload_n 44 rfl rfl ?_
            refine i_iconst 45 rfl (by decide) ?_
            refine i_iushr 46 rfl ?_
            replace h := h _ rfl
            refine i_istore_n 47 rfl (by decide) rfl ?_
            refine i_iload_n 48 rfl rfl ?_
            refine i_iload_n 49 rfl rfl ?_
            refine i_iconst 50 rfl (by decide) ?_
            refine i_iushr 51 rfl ?_
            refine i_iadd 52 rfl ?_
            exact i_ireturn 53 rfl rfl h
      · replace h := h.2 c
        replace h := h _ rfl
        refine i_iinc 27 rfl rfl (by decide) rfl ?_
        refine i_iload_n 28 rfl rfl ?_
        refine i_bipush 29 rfl (by decide) ?_
        refine i_iushr 30 rfl ?_
        replace h := h _ rfl
        refine i_istore_n 31 rfl (by decide) rfl ?_
        refine i_iload_n 32 rfl rfl ?_
        refine i_bipush 33 rfl (by decide) ?_
        refine i_icmp_le 62 34 rfl (by decide) (fun c => ?_) (fun c => ?_)
        · replace h := h.1 c
          refine i_iload_n 40 rfl rfl ?_
          refine i_iconst 41 rfl (by decide) ?_
          refine i_icmp_le 74 42 rfl (by decide) (fun c => ?_) (fun c => ?_)
          · replace h := h.1 c
            refine i_iload_n 48 rfl rfl ?_
            refine i_iload_n 49 rfl rfl ?_
            refine i_iconst 50 rfl (by decide) ?_
            refine i_iushr 51 rfl ?_
            refine i_iadd 52 rfl ?_
            exact i_ireturn 53 rfl rfl h
          · replace h := h.2 c
            replace h := h _ rfl
            refine i_iinc 43 rfl rfl (by decide) rfl ?_
            refine i_iload_n 44 rfl rfl ?_
            refine i_iconst 45 rfl (by decide) ?_
            refine i_iushr 46 rfl ?_
            replace h := h _ rfl
            refine i_istore_n 47 rfl (by decide) rfl ?_
            refine i_iload_n 48 rfl rfl ?_
            refine i_iload_n 49 rfl rfl ?_
            refine i_iconst 50 rfl (by decide) ?_
            refine i_iushr 51 rfl ?_
            refine i_iadd 52 rfl ?_
            exact i_ireturn 53 rfl rfl h
        · replace h := h.2 c
          replace h := h _ rfl
          refine i_iinc 35 rfl rfl (by decide) rfl ?_
          refine i_iload_n 36 rfl rfl ?_
          refine i_iconst 37 rfl (by decide) ?_
          refine i_iushr 38 rfl ?_
          replace h := h _ rfl
          refine i_istore_n 39 rfl (by decide) rfl ?_
          refine i_iload_n 40 rfl rfl ?_
          refine i_iconst 41 rfl (by decide) ?_
          refine i_icmp_le 74 42 rfl (by decide) (fun c => ?_) (fun c => ?_)
          · replace h := h.1 c
            refine i_iload_n 48 rfl rfl ?_
            refine i_iload_n 49 rfl rfl ?_
            refine i_iconst 50 rfl (by decide) ?_
            refine i_iushr 51 rfl ?_
            refine i_iadd 52 rfl ?_
            exact i_ireturn 53 rfl rfl h
          · replace h := h.2 c
            replace h := h _ rfl
            refine i_iinc 43 rfl rfl (by decide) rfl ?_
            refine i_iload_n 44 rfl rfl ?_
            refine i_iconst 45 rfl (by decide) ?_
            refine i_iushr 46 rfl ?_
            replace h := h _ rfl
            refine i_istore_n 47 rfl (by decide) rfl ?_
            refine i_iload_n 48 rfl rfl ?_
            refine i_iload_n 49 rfl rfl ?_
            refine i_iconst 50 rfl (by decide) ?_
            refine i_iushr 51 rfl ?_
            refine i_iadd 52 rfl ?_
            exact i_ireturn 53 rfl rfl h
    · replace h := h.2 c
      replace h := h _ rfl
      refine i_iinc 19 rfl rfl (by decide) rfl ?_
      refine i_iload_n 20 rfl rfl ?_
      refine i_bipush 21 rfl (by decide) ?_
      refine i_iushr 22 rfl ?_
      replace h := h _ rfl
      refine i_istore_n 23 rfl (by decide) rfl ?_
      refine i_iload_n 24 rfl rfl ?_
      refine i_sipush 25 rfl (by decide) ?_
      refine i_icmp_le 49 26 rfl (by decide) (fun c => ?_) (fun c => ?_)
      · replace h := h.1 c
        refine i_iload_n 32 rfl rfl ?_
        refine i_bipush 33 rfl (by decide) ?_
        refine i_icmp_le 62 34 rfl (by decide) (fun c => ?_) (fun c => ?_)
        · replace h := h.1 c
          refine i_iload_n 40 rfl rfl ?_
          refine i_iconst 41 rfl (by decide) ?_
          refine i_icmp_le 74 42 rfl (by decide) (fun c => ?_) (fun c => ?_)
          · replace h := h.1 c
            refine i_iload_n 48 rfl rfl ?_
            refine i_iload_n 49 rfl rfl ?_
            refine i_iconst 50 rfl (by decide) ?_
            refine i_iushr 51 rfl ?_
            refine i_iadd 52 rfl ?_
            exact i_ireturn 53 rfl rfl h
          · replace h := h.2 c
            replace h := h _ rfl
            refine i_iinc 43 rfl rfl (by decide) rfl ?_
            refine i_iload_n 44 rfl rfl ?_
            refine i_iconst 45 rfl (by decide) ?_
            refine i_iushr 46 rfl ?_
            replace h := h _ rfl
            refine i_istore_n 47 rfl (by decide) rfl ?_
            refine i_iload_n 48 rfl rfl ?_
            refine i_iload_n 49 rfl rfl ?_
            refine i_iconst 50 rfl (by decide) ?_
            refine i_iushr 51 rfl ?_
            refine i_iadd 52 rfl ?_
            exact i_ireturn 53 rfl rfl h
        · replace h := h.2 c
          replace h := h _ rfl
          refine i_iinc 35 rfl rfl (by decide) rfl ?_
          refine i_iload_n 36 rfl rfl ?_
          refine i_iconst 37 rfl (by decide) ?_
          refine i_iushr 38 rfl ?_
          replace h := h _ rfl
          refine i_istore_n 39 rfl (by decide) rfl ?_
          refine i_iload_n 40 rfl rfl ?_
          refine i_iconst 41 rfl (by decide) ?_
          refine i_icmp_le 74 42 rfl (by decide) (fun c => ?_) (fun c => ?_)
          · replace h := h.1 c
            refine i_iload_n 48 rfl rfl ?_
            refine i_iload_n 49 rfl rfl ?_
            refine i_iconst 50 rfl (by decide) ?_
            refine i_iushr 51 rfl ?_
            refine i_iadd 52 rfl ?_
            exact i_ireturn 53 rfl rfl h
          · replace h := h.2 c
            replace h := h _ rfl
            refine i_iinc 43 rfl rfl (by decide) rfl ?_
            refine i_iload_n 44 rfl rfl ?_
            refine i_iconst 45 rfl (by decide) ?_
            refine i_iushr 46 rfl ?_
            replace h := h _ rfl
            refine i_istore_n 47 rfl (by decide) rfl ?_
            refine i_iload_n 48 rfl rfl ?_
            refine i_iload_n 49 rfl rfl ?_
            refine i_iconst 50 rfl (by decide) ?_
            refine i_iushr 51 rfl ?_
            refine i_iadd 52 rfl ?_
            exact i_ireturn 53 rfl rfl h
      · replace h := h.2 c
        replace h := h _ rfl
        refine i_iinc 27 rfl rfl (by decide) rfl ?_
        refine i_iload_n 28 rfl rfl ?_
        refine i_bipush 29 rfl (by decide) ?_
        refine i_iushr 30 rfl ?_
        replace h := h _ rfl
        refine i_istore_n 31 rfl (by decide) rfl ?_
        refine i_iload_n 32 rfl rfl ?_
        refine i_bipush 33 rfl (by decide) ?_
        refine i_icmp_le 62 34 rfl (by decide) (fun c => ?_) (fun c => ?_)
        · replace h := h.1 c
          refine i_iload_n 40 rfl rfl ?_
          refine i_iconst 41 rfl (by decide) ?_
          refine i_icmp_le 74 42 rfl (by decide) (fun c => ?_) (fun c => ?_)
          · replace h := h.1 c
            refine i_iload_n 48 rfl rfl ?_
            refine i_iload_n 49 rfl rfl ?_
            refine i_iconst 50 rfl (by decide) ?_
            refine i_iushr 51 rfl ?_
            refine i_iadd 52 rfl ?_
            exact i_ireturn 53 rfl rfl h
          · replace h := h.2 c
            replace h := h _ rfl
            refine i_iinc 43 rfl rfl (by decide) rfl ?_
            refine i_iload_n 44 rfl rfl ?_
            refine i_iconst 45 rfl (by decide) ?_
            refine i_iushr 46 rfl ?_
            replace h := h _ rfl
            refine i_istore_n 47 rfl (by decide) rfl ?_
            refine i_iload_n 48 rfl rfl ?_
            refine i_iload_n 49 rfl rfl ?_
            refine i_iconst 50 rfl (by decide) ?_
            refine i_iushr 51 rfl ?_
            refine i_iadd 52 rfl ?_
            exact i_ireturn 53 rfl rfl h
        · replace h := h.2 c
          replace h := h _ rfl
          refine i_iinc 35 rfl rfl (by decide) rfl ?_
          refine i_iload_n 36 rfl rfl ?_
          refine i_iconst 37 rfl (by decide) ?_
          refine i_iushr 38 rfl ?_
          replace h := h _ rfl
          refine i_istore_n 39 rfl (by decide) rfl ?_
          refine i_iload_n 40 rfl rfl ?_
          refine i_iconst 41 rfl (by decide) ?_
          refine i_icmp_le 74 42 rfl (by decide) (fun c => ?_) (fun c => ?_)
          · replace h := h.1 c
            refine i_iload_n 48 rfl rfl ?_
            refine i_iload_n 49 rfl rfl ?_
            refine i_iconst 50 rfl (by decide) ?_
            refine i_iushr 51 rfl ?_
            refine i_iadd 52 rfl ?_
            exact i_ireturn 53 rfl rfl h
          · replace h := h.2 c
            replace h := h _ rfl
            refine i_iinc 43 rfl rfl (by decide) rfl ?_
            refine i_iload_n 44 rfl rfl ?_
            refine i_iconst 45 rfl (by decide) ?_
            refine i_iushr 46 rfl ?_
            replace h := h _ rfl
            refine i_istore_n 47 rfl (by decide) rfl ?_
            refine i_iload_n 48 rfl rfl ?_
            refine i_iload_n 49 rfl rfl ?_
            refine i_iconst 50 rfl (by decide) ?_
            refine i_iushr 51 rfl ?_
            refine i_iadd 52 rfl ?_
            exact i_ireturn 53 rfl rfl h
  · replace h := h.2 c
    refine i_iload_n 10 rfl rfl ?_
    refine i_bipush 11 rfl (by decide) ?_
    refine i_iand 12 rfl ?_
    exact i_ireturn 13 rfl rfl h
theorem u_J9_floorDiv_f86c9_0 {l : Launch} {E : xE} (a0 a1 : Int) {M : xM} {Q : Option xV → xM → Prop} (h : (a1 ≠ 0) ∧ ∀ v1 : Int, v1 = (x_W (a0.tdiv a1)) → (0 ≤ (x_lxor a0 a1) → Q (some (1, v1)) M) ∧ (¬ 0 ≤ (x_lxor a0 a1) → ((x_W (v1 * a1)) = a0 → Q (some (1, v1)) M) ∧ (¬ (x_W (v1 * a1)) = a0 → Q (some (1, (x_W (v1 - 1)))) M))) : x_Ev l E (1, 0, 0) m_J9_floorDiv_f86c9 0 [(1, a0), (5, 0), (1, a1), (5, 0), (5, 0), (5, 0)] [] M Q := by
  refine i_lload_n 0 rfl rfl ?_
  refine i_lload_n 1 rfl rfl ?_
  refine i_ldiv 2 rfl h.1 ?_
  replace h := h.2
  replace h := h _ rfl
  refine i_lstore 3 rfl (by decide) rfl ?_
  refine i_lload_n 4 rfl rfl ?_
  refine i_lload_n 5 rfl rfl ?_
  refine i_lxor 6 rfl ?_
  refine i_lconst (w := 0) 7 rfl (by decide) ?_
  refine i_lcmp_ge 27 8 rfl rfl (by decide) (fun c => ?_) (fun c => ?_)
  · replace h := h.1 c
    refine i_lload 20 rfl rfl ?_
    exact i_lreturn 21 rfl rfl h
  · replace h := h.2 c
    refine i_lload 10 rfl rfl ?_
    refine i_lload_n 11 rfl rfl ?_
    refine i_lmul 12 rfl ?_
    refine i_lload_n 13 rfl rfl ?_
    refine i_lcmp_eq 27 14 rfl rfl (by decide) (fun c => ?_) (fun c => ?_)
    · replace h := h.1 c
      refine i_lload 20 rfl rfl ?_
      exact i_lreturn 21 rfl rfl h
    · replace h := h.2 c
      refine i_lload 16 rfl rfl ?_
      refine i_lconst (w := 1) 17 rfl (by decide) ?_
      refine i_lsub 18 rfl ?_
      exact i_lreturn 19 rfl rfl h
theorem u_J13_compare_74951_0 {l : Launch} {E : xE} (a0 a1 : Int) {M : xM} {Q : Option xV → xM → Prop} (h : (a1 ≤ a0 → (¬ a0 = a1 → Q (some (0, 1)) M) ∧ (a0 = a1 → Q (some (0, 0)) M)) ∧ (¬ a1 ≤ a0 → Q (some (0, (-1))) M)) : x_Ev l E (1, 0, 0) m_J13_compare_74951 0 [(1, a0), (5, 0), (1, a1), (5, 0)] [] M Q := by
  refine i_lload_n 0 rfl rfl ?_
  refine i_lload_n 1 rfl rfl ?_
  refine i_lcmp_ge 10 2 rfl rfl (by decide) (fun c => ?_) (fun c => ?_)
  · replace h := h.1 c
    refine i_lload_n 6 rfl rfl ?_
    refine i_lload_n 7 rfl rfl ?_
    refine i_lcmp_ne 20 8 rfl rfl (by decide) (fun c => ?_) (fun c => ?_)
    · replace h := h.1 c
      refine i_iconst 12 rfl (by decide) ?_
      exact i_ireturn 13 rfl rfl h
    · replace h := h.2 c
      refine i_iconst 10 rfl (by decide) ?_
      refine i_goto 21 11 rfl (by decide) ?_
      exact i_ireturn 13 rfl rfl h
  · replace h := h.2 c
    refine i_iconst 4 rfl (by decide) ?_
    refine i_goto 21 5 rfl (by decide) ?_
    exact i_ireturn 13 rfl rfl h
theorem u_J6_numberOfLeadingZeros_0f7a4_0 {l : Launch} {E : xE} (a0 : Int) {M : xM} {Q : Option xV → xM → Prop} (h : (0 < a0 → (a0 < 65536 → (a0 < 256 → (a0 < 16 → (a0 < 4 → Q (some (0, (x_w (31 - (x_iushr a0 1))))) M) ∧ (¬ a0 < 4 → ∀ v1 : Int, v1 = x_w (31 + (-2)) → ∀ v2 : Int, v2 = (x_iushr a0 2) → Q (some (0, (x_w (v1 - (x_iushr v2 1))))) M)) ∧ (¬ a0 < 16 → ∀ v3 : Int, v3 = x_w (31 + (-4)) → ∀ v4 : Int, v4 = (x_iushr a0 4) → (v4 < 4 → Q (some (0, (x_w (v3 - (x_iushr v4 1))))) M) ∧ (¬ v4 < 4 → ∀ v5 : Int, v5 = x_w (v3 + (-2)) → ∀ v6 : Int, v6 = (x_iushr v4 2) → Q (some (0, (x_w (v5 - (x_iushr v6 1))))) M))) ∧ (¬ a0 < 256 → ∀ v7 : Int, v7 = x_w (31 + (-8)) → ∀ v8 : Int, v8 = (x_iushr a0 8) → (v8 < 16 → (v8 < 4 → Q (some (0, (x_w (v7 - (x_iushr v8 1))))) M) ∧ (¬ v8 < 4 → ∀ v9 : Int, v9 = x_w (v7 + (-2)) → ∀ v10 : Int, v10 = (x_iushr v8 2) → Q (some (0, (x_w (v9 - (x_iushr v10 1))))) M)) ∧ (¬ v8 < 16 → ∀ v11 : Int, v11 = x_w (v7 + (-4)) → ∀ v12 : Int, v12 = (x_iushr v8 4) → (v12 < 4 → Q (some (0, (x_w (v11 - (x_iushr v12 1))))) M) ∧ (¬ v12 < 4 → ∀ v13 : Int, v13 = x_w (v11 + (-2)) → ∀ v14 : Int, v14 = (x_iushr v12 2) → Q (some (0, (x_w (v13 - (x_iushr v14 1))))) M)))) ∧ (¬ a0 < 65536 → ∀ v15 : Int, v15 = x_w (31 + (-16)) → ∀ v16 : Int, v16 = (x_iushr a0 16) → (v16 < 256 → (v16 < 16 → (v16 < 4 → Q (some (0, (x_w (v15 - (x_iushr v16 1))))) M) ∧ (¬ v16 < 4 → ∀ v17 : Int, v17 = x_w (v15 + (-2)) → ∀ v18 : Int, v18 = (x_iushr v16 2) → Q (some (0, (x_w (v17 - (x_iushr v18 1))))) M)) ∧ (¬ v16 < 16 → ∀ v19 : Int, v19 = x_w (v15 + (-4)) → ∀ v20 : Int, v20 = (x_iushr v16 4) → (v20 < 4 → Q (some (0, (x_w (v19 - (x_iushr v20 1))))) M) ∧ (¬ v20 < 4 → ∀ v21 : Int, v21 = x_w (v19 + (-2)) → ∀ v22 : Int, v22 = (x_iushr v20 2) → Q (some (0, (x_w (v21 - (x_iushr v22 1))))) M))) ∧ (¬ v16 < 256 → ∀ v23 : Int, v23 = x_w (v15 + (-8)) → ∀ v24 : Int, v24 = (x_iushr v16 8) → (v24 < 16 → (v24 < 4 → Q (some (0, (x_w (v23 - (x_iushr v24 1))))) M) ∧ (¬ v24 < 4 → ∀ v25 : Int, v25 = x_w (v23 + (-2)) → ∀ v26 : Int, v26 = (x_iushr v24 2) → Q (some (0, (x_w (v25 - (x_iushr v26 1))))) M)) ∧ (¬ v24 < 16 → ∀ v27 : Int, v27 = x_w (v23 + (-4)) → ∀ v28 : Int, v28 = (x_iushr v24 4) → (v28 < 4 → Q (some (0, (x_w (v27 - (x_iushr v28 1))))) M) ∧ (¬ v28 < 4 → ∀ v29 : Int, v29 = x_w (v27 + (-2)) → ∀ v30 : Int, v30 = (x_iushr v28 2) → Q (some (0, (x_w (v29 - (x_iushr v30 1))))) M))))) ∧ (¬ 0 < a0 → (¬ a0 = 0 → Q (some (0, 0)) M) ∧ (a0 = 0 → Q (some (0, 32)) M))) : x_Ev l E (1, 0, 0) m_J6_numberOfLeadingZeros_0f7a4 0 [(0, a0), (5, 0)] [] M Q := by
  refine i_iload_n 0 rfl rfl ?_
  refine i_if_gt 15 1 rfl (by decide) (fun c => ?_) (fun c => ?_)
  · replace h := h.1 c
    refine i_bipush 8 rfl (by decide) ?_
    refine i_istore_n 9 rfl (by decide) rfl ?_
    refine i_iload_n 10 rfl rfl ?_
    refine i_ldcw (v := 65536) 11 rfl cw_1327 (by decide) ?_
    refine i_icmp_lt 33 12 rfl (by decide) (fun c => ?_) (fun c => ?_)
    · replace h := h.1 c
      refine i_iload_n 18 rfl rfl ?_
      refine i_sipush 19 rfl (by decide) ?_
      refine i_icmp_lt 48 20 rfl (by decide) (fun c => ?_) (fun c => ?_)
      · replace h := h.1 c
        refine i_iload_n 26 rfl rfl ?_
        refine i_bipush 27 rfl (by decide) ?_
        refine i_icmp_lt 61 28 rfl (by decide) (fun c => ?_) (fun c => ?_)
        · replace h := h.1 c
          refine i_iload_n 34 rfl rfl ?_
          refine i_iconst 35 rfl (by decide) ?_
          refine i_icmp_lt 73 36 rfl (by decide) (fun c => ?_) (fun c => ?_)
          · replace h := h.1 c
            refine i_iload_n 42 rfl rfl ?_
            refine i_iload_n 43 rfl rfl ?_
            refine i_iconst 44 rfl (by decide) ?_
            refine i_iushr 45 rfl ?_
            refine i_isub 46 rfl ?_
            exact i_ireturn 47 rfl rfl h
          · replace h := h.2 c
            replace h := h _ rfl
            refine i_iinc 37 rfl rfl (by decide) rfl ?_
            refine i_iload_n 38 rfl rfl ?_
            refine i_iconst 39 rfl (by decide) ?_
            refine i_iushr 40 rfl ?_
            replace h := h _ rfl
            refine i_istore_n 41 rfl (by decide) rfl ?_
            refine i_iload_n 42 rfl rfl ?_
            refine i_iload_n 43 rfl rfl ?_
            refine i_iconst 44 rfl (by decide) ?_
            refine i_iushr 45 rfl ?_
            refine i_isub 46 rfl ?_
            exact i_ireturn 47 rfl rfl h
        · replace h := h.2 c
          replace h := h _ rfl
          refine i_iinc 29 rfl rfl (by decide) rfl ?_
          refine i_iload_n 30 rfl rfl ?_
          refine i_iconst 31 rfl (by decide) ?_
          refine i_iushr 32 rfl ?_
          replace h := h _ rfl
          refine i_istore_n 33 rfl (by decide) rfl ?_
          refine i_iload_n 34 rfl rfl ?_
          refine i_iconst 35 rfl (by decide) ?_
          refine i_icmp_lt 73 36 rfl (by decide) (fun c => ?_) (fun c => ?_)
          · replace h := h.1 c
            refine i_iload_n 42 rfl rfl ?_
            refine i_iload_n 43 rfl rfl ?_
            refine i_iconst 44 rfl (by decide) ?_
            refine i_iushr 45 rfl ?_
            refine i_isub 46 rfl ?_
            exact i_ireturn 47 rfl rfl h
          · replace h := h.2 c
            replace h := h _ rfl
            refine i_iinc 37 rfl rfl (by decide) rfl ?_
            refine i_iload_n 38 rfl rfl ?_
            refine i_iconst 39 rfl (by decide) ?_
            refine i_iushr 40 rfl ?_
            replace h := h _ rfl
            refine i_istore_n 41 rfl (by decide) rfl ?_
            refine i_iload_n 42 rfl rfl ?_
            refine i_iload_n 43 rfl rfl ?_
            refine i_iconst 44 rfl (by decide) ?_
            refine i_iushr 45 rfl ?_
            refine i_isub 46 rfl ?_
            exact i_ireturn 47 rfl rfl h
      · replace h := h.2 c
        replace h := h _ rfl
        refine i_iinc 21 rfl rfl (by decide) rfl ?_
        refine i_iload_n 22 rfl rfl ?_
        refine i_bipush 23 rfl (by decide) ?_
        refine i_iushr 24 rfl ?_
        replace h := h _ rfl
        refine i_istore_n 25 rfl (by decide) rfl ?_
        refine i_iload_n 26 rfl rfl ?_
        refine i_bipush 27 rfl (by decide) ?_
        refine i_icmp_lt 61 28 rfl (by decide) (fun c => ?_) (fun c => ?_)
        · replace h := h.1 c
          refine i_iload_n 34 rfl rfl ?_
          refine i_iconst 35 rfl (by decide) ?_
          refine i_icmp_lt 73 36 rfl (by decide) (fun c => ?_) (fun c => ?_)
          · replace h := h.1 c
            refine i_iload_n 42 rfl rfl ?_
            refine i_iload_n 43 rfl rfl ?_
            refine i_iconst 44 rfl (by decide) ?_
            refine i_iushr 45 rfl ?_
            refine i_isub 46 rfl ?_
            exact i_ireturn 47 rfl rfl h
          · replace h := h.2 c
            replace h := h _ rfl
            refine i_iinc 37 rfl rfl (by decide) rfl ?_
            refine i_iload_n 38 rfl rfl ?_
            refine i_iconst 39 rfl (by decide) ?_
            refine i_iushr 40 rfl ?_
            replace h := h _ rfl
            refine i_istore_n 41 rfl (by decide) rfl ?_
            refine i_iload_n 42 rfl rfl ?_
            refine i_iload_n 43 rfl rfl ?_
            refine i_iconst 44 rfl (by decide) ?_
            refine i_iushr 45 rfl ?_
            refine i_isub 46 rfl ?_
            exact i_ireturn 47 rfl rfl h
        · replace h := h.2 c
          replace h := h _ rfl
          refine i_iinc 29 rfl rfl (by decide) rfl ?_
          refine i_iload_n 30 rfl rfl ?_
          refine i_iconst 31 rfl (by decide) ?_
          refine i_iushr 32 rfl ?_
          replace h := h _ rfl
          refine i_istore_n 33 rfl (by decide) rfl ?_
          refine i_iload_n 34 rfl rfl ?_
          refine i_iconst 35 rfl (by decide) ?_
          refine i_icmp_lt 73 36 rfl (by decide) (fun c => ?_) (fun c => ?_)
          · replace h := h.1 c
            refine i_iload_n 42 rfl rfl ?_
            refine i_iload_n 43 rfl rfl ?_
            refine i_iconst 44 rfl (by decide) ?_
            refine i_iushr 45 rfl ?_
            refine i_isub 46 rfl ?_
            exact i_ireturn 47 rfl rfl h
          · replace h := h.2 c
            replace h := h _ rfl
            refine i_iinc 37 rfl rfl (by decide) rfl ?_
            refine i_iload_n 38 rfl rfl ?_
            refine i_iconst 39 rfl (by decide) ?_
            refine i_iushr 40 rfl ?_
            replace h := h _ rfl
            refine i_istore_n 41 rfl (by decide) rfl ?_
            refine i_iload_n 42 rfl rfl ?_
            refine i_iload_n 43 rfl rfl ?_
            refine i_iconst 44 rfl (by decide) ?_
            refine i_iushr 45 rfl ?_
            refine i_isub 46 rfl ?_
            exact i_ireturn 47 rfl rfl h
    · replace h := h.2 c
      replace h := h _ rfl
      refine i_iinc 13 rfl rfl (by decide) rfl ?_
      refine i_iload_n 14 rfl rfl ?_
      refine i_bipush 15 rfl (by decide) ?_
      refine i_iushr 16 rfl ?_
      replace h := h _ rfl
      refine i_istore_n 17 rfl (by decide) rfl ?_
      refine i_iload_n 18 rfl rfl ?_
      refine i_sipush 19 rfl (by decide) ?_
      refine i_icmp_lt 48 20 rfl (by decide) (fun c => ?_) (fun c => ?_)
      · replace h := h.1 c
        refine i_iload_n 26 rfl rfl ?_
        refine i_bipush 27 rfl (by decide) ?_
        refine i_icmp_lt 61 28 rfl (by decide) (fun c => ?_) (fun c => ?_)
        · replace h := h.1 c
          refine i_iload_n 34 rfl rfl ?_
          refine i_iconst 35 rfl (by decide) ?_
          refine i_icmp_lt 73 36 rfl (by decide) (fun c => ?_) (fun c => ?_)
          · replace h := h.1 c
            refine i_iload_n 42 rfl rfl ?_
            refine i_iload_n 43 rfl rfl ?_
            refine i_iconst 44 rfl (by decide) ?_
            refine i_iushr 45 rfl ?_
            refine i_isub 46 rfl ?_
            exact i_ireturn 47 rfl rfl h
          · replace h := h.2 c
            replace h := h _ rfl
            refine i_iinc 37 rfl rfl (by decide) rfl ?_
            refine i_iload_n 38 rfl rfl ?_
            refine i_iconst 39 rfl (by decide) ?_
            refine i_iushr 40 rfl ?_
            replace h := h _ rfl
            refine i_istore_n 41 rfl (by decide) rfl ?_
            refine i_iload_n 42 rfl rfl ?_
            refine i_iload_n 43 rfl rfl ?_
            refine i_iconst 44 rfl (by decide) ?_
            refine i_iushr 45 rfl ?_
            refine i_isub 46 rfl ?_
            exact i_ireturn 47 rfl rfl h
        · replace h := h.2 c
          replace h := h _ rfl
          refine i_iinc 29 rfl rfl (by decide) rfl ?_
          refine i_iload_n 30 rfl rfl ?_
          refine i_iconst 31 rfl (by decide) ?_
          refine i_iushr 32 rfl ?_
          replace h := h _ rfl
          refine i_istore_n 33 rfl (by decide) rfl ?_
          refine i_iload_n 34 rfl rfl ?_
          refine i_iconst 35 rfl (by decide) ?_
          refine i_icmp_lt 73 36 rfl (by decide) (fun c => ?_) (fun c => ?_)
          · replace h := h.1 c
            refine i_iload_n 42 rfl rfl ?_
            refine i_iload_n 43 rfl rfl ?_
            refine i_iconst 44 rfl (by decide) ?_
            refine i_iushr 45 rfl ?_
            refine i_isub 46 rfl ?_
            exact i_ireturn 47 rfl rfl h
          · replace h := h.2 c
            replace h := h _ rfl
            refine i_iinc 37 rfl rfl (by decide) rfl ?_
            refine i_iload_n 38 rfl rfl ?_
            refine i_iconst 39 rfl (by decide) ?_
            refine i_iushr 40 rfl ?_
            replace h := h _ rfl
            refine i_istore_n 41 rfl (by decide) rfl ?_
            refine i_iload_n 42 rfl rfl ?_
            refine i_iload_n 43 rfl rfl ?_
            refine i_iconst 44 rfl (by decide) ?_
            refine i_iushr 45 rfl ?_
            refine i_isub 46 rfl ?_
            exact i_ireturn 47 rfl rfl h
      · replace h := h.2 c
        replace h := h _ rfl
        refine i_iinc 21 rfl rfl (by decide) rfl ?_
        refine i_iload_n 22 rfl rfl ?_
        refine i_bipush 23 rfl (by decide) ?_
        refine i_iushr 24 rfl ?_
        replace h := h _ rfl
        refine i_istore_n 25 rfl (by decide) rfl ?_
        refine i_iload_n 26 rfl rfl ?_
        refine i_bipush 27 rfl (by decide) ?_
        refine i_icmp_lt 61 28 rfl (by decide) (fun c => ?_) (fun c => ?_)
        · replace h := h.1 c
          refine i_iload_n 34 rfl rfl ?_
          refine i_iconst 35 rfl (by decide) ?_
          refine i_icmp_lt 73 36 rfl (by decide) (fun c => ?_) (fun c => ?_)
          · replace h := h.1 c
            refine i_iload_n 42 rfl rfl ?_
            refine i_iload_n 43 rfl rfl ?_
            refine i_iconst 44 rfl (by decide) ?_
            refine i_iushr 45 rfl ?_
            refine i_isub 46 rfl ?_
            exact i_ireturn 47 rfl rfl h
          · replace h := h.2 c
            replace h := h _ rfl
            refine i_iinc 37 rfl rfl (by decide) rfl ?_
            refine i_iload_n 38 rfl rfl ?_
            refine i_iconst 39 rfl (by decide) ?_
            refine i_iushr 40 rfl ?_
            replace h := h _ rfl
            refine i_istore_n 41 rfl (by decide) rfl ?_
            refine i_iload_n 42 rfl rfl ?_
            refine i_iload_n 43 rfl rfl ?_
            refine i_iconst 44 rfl (by decide) ?_
            refine i_iushr 45 rfl ?_
            refine i_isub 46 rfl ?_
            exact i_ireturn 47 rfl rfl h
        · replace h := h.2 c
          replace h := h _ rfl
          refine i_iinc 29 rfl rfl (by decide) rfl ?_
          refine i_iload_n 30 rfl rfl ?_
          refine i_iconst 31 rfl (by decide) ?_
          refine i_iushr 32 rfl ?_
          replace h := h _ rfl
          refine i_istore_n 33 rfl (by decide) rfl ?_
          refine i_iload_n 34 rfl rfl ?_
          refine i_iconst 35 rfl (by decide) ?_
          refine i_icmp_lt 73 36 rfl (by decide) (fun c => ?_) (fun c => ?_)
          · replace h := h.1 c
            refine i_iload_n 42 rfl rfl ?_
            refine i_iload_n 43 rfl rfl ?_
            refine i_iconst 44 rfl (by decide) ?_
            refine i_iushr 45 rfl ?_
            refine i_isub 46 rfl ?_
            exact i_ireturn 47 rfl rfl h
          · replace h := h.2 c
            replace h := h _ rfl
            refine i_iinc 37 rfl rfl (by decide) rfl ?_
            refine i_iload_n 38 rfl rfl ?_
            refine i_iconst 39 rfl (by decide) ?_
            refine i_iushr 40 rfl ?_
            replace h := h _ rfl
            refine i_istore_n 41 rfl (by decide) rfl ?_
            refine i_iload_n 42 rfl rfl ?_
            refine i_iload_n 43 rfl rfl ?_
            refine i_iconst 44 rfl (by decide) ?_
            refine i_iushr 45 rfl ?_
            refine i_isub 46 rfl ?_
            exact i_ireturn 47 rfl rfl h
  · replace h := h.2 c
    refine i_iload_n 2 rfl rfl ?_
    refine i_if_ne 13 3 rfl (by decide) (fun c => ?_) (fun c => ?_)
    · replace h := h.1 c
      refine i_iconst 6 rfl (by decide) ?_
      exact i_ireturn 7 rfl rfl h
    · replace h := h.2 c
      refine i_bipush 4 rfl (by decide) ?_
      refine i_goto 14 5 rfl (by decide) ?_
      exact i_ireturn 7 rfl rfl h
