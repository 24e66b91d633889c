/-! sheet: class -/
section P25
variable {l : Launch} {E : xE} {Q : Option xV → xM → Prop} {A M : xM}
theorem k_shX (hA : p_WF A) (hC : p_CI A M) {s : Int} (hs : 0 ≤ s ∧ s < 4) : p_CI (p_shA A s (-1) 0) (x_wr M 88 s (-1)) ∧ p_cfr M (x_wr M 88 s (-1)) := by
  have fr : ∀ a k, ¬ (a = 88 ∧ k = s) → x_wr M 88 s (-1) a k = M a k := fun a k q => x_wr_ne _ _ q
  have tp : x_tp (x_wr M 88 s (-1)) = x_tp M := x_tp_eq (fr _ _ (by omega))
  have tg : ∀ b, x_tag (x_wr M 88 s (-1)) b = x_tag M b := fun b => x_tag_eq (fun k => fr _ _ (by omega)) b
  have q7 := hC.2.2.2.2.2.2.1
  have q8 := hC.2.2.2.2.2.2.2
  have v4 : p_shA A s (-1) 0 544 s = -1 := by unfold p_shA; rw [if_pos ⟨rfl, rfl⟩]
  refine ⟨p_CI_s hA hC (fun a k q => p_shA_ne (by omega) (by omega) (by omega)) (fun a k q1 q2 => fr a k (by omega)) ⟨fun s' s1 s2 => ?_, fun s' t' s1 s2 t1 t2 ne o1 o2 => ?_⟩ (fun i i1 i2 => ?_), fun a k q1 q2 => fr a k (by omega)⟩
  · by_cases e : s' = s
    · rw [e, v4, x_wr_eq]; exact Or.inl ⟨by omega, rfl⟩
    · rw [p_shA_ne (by omega) (by omega) (by omega), p_shA_ne (by omega) (by omega) (by omega), fr _ _ (by omega)]
      rcases q7.1 s' s1 s2 with w | ⟨w1, w2, w3⟩
      · exact Or.inl w
      · have hr := w2
        obtain ⟨r1, r2, -⟩ := w2
        refine Or.inr ⟨w1, p_r16_fr hr (by rw [tp]; exact Nat.le_refl _) (fun b _ => tg b) (fr _ _ (by omega)) (fr _ _ (by omega)), fun i i1 i2 => ?_⟩
        rw [fr _ _ (by omega), p_shA_ne (by omega) (by omega) (by omega)]; exact w3 i i1 i2
  · have n1 : s' ≠ s := fun e => by rw [e, v4] at o1; omega
    have n2 : t' ≠ s := fun e => by rw [e, v4] at o2; omega
    rw [p_shA_ne (by omega) (by omega) (by omega)] at o1 o2
    rw [fr _ _ (by omega), fr _ _ (by omega)]
    exact q7.2 s' t' s1 s2 t1 t2 ne o1 o2
  · obtain ⟨w1, w2, w3, w4⟩ := q8 i i1 i2
    rw [fr _ 0 (by omega), fr _ 1 (by omega), fr _ 2 (by omega), p_shA_ne (by omega) (by omega) (by omega), p_shA_ne (by omega) (by omega) (by omega), p_shA_ne (by omega) (by omega) (by omega)]
    refine ⟨w1, w2, w3, fun w => ?_⟩
    have hr := w4 w
    have hr' := hr
    obtain ⟨r1, r2, -⟩ := hr'
    exact p_r16_fr hr (by rw [tp]; exact Nat.le_refl _) (fun b _ => tg b) (fr _ _ (by omega)) (fr _ _ (by omega))
theorem k_shN (hT : 593 ≤ x_tp M) (hA : p_WF A) (hC : p_CI A M) {s t n : Int} (hs : 0 ≤ s ∧ s < 4) (ht : 0 ≤ t) (hn : 0 ≤ n ∧ n ≤ 40) : p_CI (p_shA A s t n) (x_wr (x_row M t n) 88 s (M (-1) 0)) ∧ p_cfr M (x_wr (x_row M t n) 88 s (M (-1) 0)) := by
  have hp : M (-1) 0 = (x_tp M : Int) := by unfold x_tp at hT ⊢; omega
  rw [hp]
  have fr : ∀ a k : Int, 0 ≤ a → a ≠ (x_tp M : Int) → a ≠ (x_tp M : Int) + 1 → ¬ (a = 88 ∧ k = s) → x_wr (x_row M t n) 88 s (x_tp M) a k = M a k := fun a k q1 q2 q3 q4 => by rw [x_wr_ne _ _ q4]; exact x_row_at hT a k q1 q2 q3
  have tp : x_tp (x_wr (x_row M t n) 88 s (x_tp M)) = x_tp M + 2 := by rw [x_tp_wr _ _ _ (by omega)]; exact x_row_tp hT
  have tg : ∀ b, b < x_tp M → x_tag (x_wr (x_row M t n) 88 s (x_tp M)) b = x_tag M b := fun b hb => by rw [x_tag_wr _ _ _ (by omega)]; exact x_row_tag hT b hb
  have q7 := hC.2.2.2.2.2.2.1
  have q8 := hC.2.2.2.2.2.2.2
  have v4 : p_shA A s t n 544 s = t := by unfold p_shA; rw [if_pos ⟨rfl, rfl⟩]
  have v5 : p_shA A s t n 545 s = n := by unfold p_shA; rw [if_neg (by omega), if_pos ⟨rfl, rfl⟩]
  have v7 : ∀ i, 0 ≤ i → i < 40 → p_shA A s t n (547 + s) i = 0 := fun i i1 i2 => by unfold p_shA; rw [if_neg (by omega), if_neg (by omega), if_pos ⟨rfl, i1, i2⟩]
  have r0 : x_wr (x_row M t n) 88 s (x_tp M) 88 s = x_tp M := x_wr_eq ..
  refine ⟨p_CI_s hA hC (fun a k q => p_shA_ne (by omega) (by omega) (by omega)) (fun a k q1 q2 => fr a k (by omega) (by omega) (by omega) (by omega)) ⟨fun s' s1 s2 => ?_, fun s' t' s1 s2 t1 t2 ne o1 o2 => ?_⟩ (fun i i1 i2 => ?_), fun a k q1 q2 => fr a k (by omega) (by omega) (by omega) (by omega)⟩
  · by_cases e : s' = s
    · rw [e, v4, v5, r0]
      refine Or.inr ⟨ht, ⟨by omega, by rw [tp]; omega, ?_, ?_, ?_, ?_⟩, fun i i1 i2 => ?_⟩
      · rw [x_tag_wr _ _ _ (by omega), show ((x_tp M : Int)).toNat = x_tp M by omega]; exact x_row_t16 hT
      · rw [x_tag_wr _ _ _ (by omega), show ((x_tp M : Int)).toNat = x_tp M by omega]; exact x_row_t190 hT
      · rw [x_wr_ne _ _ (by omega), x_row_r hT]; rfl
      · rw [x_wr_ne _ _ (by omega), x_row_r hT]; rfl
      · rw [x_wr_ne _ _ (by omega), x_row_n hT, v7 i i1 (by omega)]
    · rw [p_shA_ne (by omega) (by omega) (by omega), p_shA_ne (by omega) (by omega) (by omega), fr _ _ (by omega) (by omega) (by omega) (by omega)]
      rcases q7.1 s' s1 s2 with w | ⟨w1, w2, w3⟩
      · exact Or.inl w
      · have hr := w2
        obtain ⟨r1, r2, -⟩ := w2
        refine Or.inr ⟨w1, p_r16_fr hr (by rw [tp]; omega) tg (fr _ _ (by omega) (by omega) (by omega) (by omega)) (fr _ _ (by omega) (by omega) (by omega) (by omega)), fun i i1 i2 => ?_⟩
        rw [fr _ _ (by omega) (by omega) (by omega) (by omega), p_shA_ne (by omega) (by omega) (by omega)]; exact w3 i i1 i2
  · have old : ∀ x, x ≠ s → 0 ≤ x → x < 4 → 0 ≤ p_shA A s t n 544 x → x_wr (x_row M t n) 88 s (x_tp M) 88 x < x_tp M := by
      intro x nx x1 x2 ox
      rw [p_shA_ne (by omega) (by omega) (by omega)] at ox
      rw [fr _ _ (by omega) (by omega) (by omega) (by omega)]
      rcases q7.1 x x1 x2 with w | ⟨w1, w2, w3⟩
      · omega
      · have := w2.2.1
        have := w2.1
        omega
    by_cases e1 : s' = s
    · have := old t' (by omega) t1 t2 o2
      rw [e1, r0]; omega
    · by_cases e2 : t' = s
      · have := old s' e1 s1 s2 o1
        rw [e2, r0]; omega
      · rw [p_shA_ne (by omega) (by omega) (by omega)] at o1 o2
        rw [fr _ _ (by omega) (by omega) (by omega) (by omega), fr _ _ (by omega) (by omega) (by omega) (by omega)]
        exact q7.2 s' t' s1 s2 t1 t2 ne o1 o2
  · obtain ⟨w1, w2, w3, w4⟩ := q8 i i1 i2
    rw [fr _ 0 (by omega) (by omega) (by omega) (by omega), fr _ 1 (by omega) (by omega) (by omega) (by omega), fr _ 2 (by omega) (by omega) (by omega) (by omega), p_shA_ne (by omega) (by omega) (by omega), p_shA_ne (by omega) (by omega) (by omega), p_shA_ne (by omega) (by omega) (by omega)]
    refine ⟨w1, w2, w3, fun w => ?_⟩
    have hr := w4 w
    have hr' := hr
    obtain ⟨r1, r2, -⟩ := hr'
    exact p_r16_fr hr (by rw [tp]; omega) tg (fr _ _ (by omega) (by omega) (by omega) (by omega)) (fr _ _ (by omega) (by omega) (by omega) (by omega))
theorem k_sheet (hA : p_WF A) (hC : p_CI A M) {s t n : Int} (h : ∀ M1, p_CI (o_sheet A s t n).2 M1 → p_cfr M M1 → Q (some (0, (o_sheet A s t n).1)) M1) : x_Ev l E (3, 2, 42) m_X10_sheet 0 [(20, 5), (0, s), (0, t), (0, n)] [] M Q := by
  refine x_Ev.tp0 (fun hT => ?_)
  unfold o_sheet at h
  have bad : ¬ ((0 ≤ s ∧ s < 4) ∧ -1 ≤ t ∧ t ≤ 2) → x_Ev l E (3, 2, 42) m_X10_sheet 18 [(20, 5), (0, s), (0, t), (0, n)] [] M Q := fun c => by
    rw [p_if_f c] at h
    refine i_aload_n 10 rfl rfl (by decide) ?_
    refine i_iconst 11 rfl (by decide) ?_
    refine i_callV (c := 10) (y1 := m_X10_tell) (z1 := (1, 0, 0)) (z2 := (3, 2, 42)) [(0, 0)] 12 rfl ml_400 ok_X10_tell vk_X10_tell ⟨by decide, rfl⟩ rfl ⟨rfl, Nat.le_of_ble_eq_true rfl⟩ (Nat.le_of_ble_eq_true rfl) ⟨by decide, rfl, rfl, rfl⟩ ?_
    exact k_tl hA hC (by omega) (fun M1 a b => i_ireturn 13 rfl rfl (h M1 a b))
  refine i_aload_n 0 rfl rfl (by decide) ?_
  refine i_iload_n 1 rfl rfl ?_
  refine i_callV (c := 10) (y1 := m_X10_isNoSheet) (z1 := (1, 0, 0)) (z2 := (3, 2, 42)) [(0, s)] 2 rfl ml_715 ok_X10_isNoSheet vk_X10_isNoSheet ⟨by decide, rfl⟩ rfl ⟨rfl, Nat.le_of_ble_eq_true rfl⟩ (Nat.le_of_ble_eq_true rfl) ⟨by decide, rfl, rfl, rfl⟩ ?_
  refine k_NS (fun c => ?_) (fun c => ?_)
  · simp only [Option.toList_some, Option.toList_none, List.cons_append, List.nil_append]
    exact i_if_ne 18 3 rfl (by decide) (fun _ => bad (fun q => c q.1)) (fun z => by omega)
  · simp only [Option.toList_some, Option.toList_none, List.cons_append, List.nil_append]
    refine i_if_ne 18 3 rfl (by decide) (fun z => by omega) (fun _ => ?_)
    refine i_iload_n 4 rfl rfl ?_
    refine i_iconst 5 rfl (by decide) ?_
    refine i_icmp_lt 18 6 rfl (by decide) (fun z => bad (by omega)) (fun z => ?_)
    refine i_iload_n 7 rfl rfl ?_
    refine i_iconst 8 rfl (by decide) ?_
    refine i_icmp_le 24 9 rfl (by decide) (fun z2 => ?_) (fun z2 => bad (by omega))
    rw [p_if_t ⟨c, by omega, z2⟩] at h
    refine i_iload_n 14 rfl rfl ?_
    refine i_iconst 15 rfl (by decide) ?_
    refine i_icmp_ne 38 16 rfl (by decide) (fun z3 => ?_) (fun z3 => ?_)
    · rw [p_if_f z3] at h
      refine i_iload_n 24 rfl rfl ?_
      refine i_if_ge 49 25 rfl (by decide) (fun z4 => ?_) (fun z4 => ?_)
      · rw [p_if_f (by omega)] at h
        refine i_iload_n 30 rfl rfl ?_
        refine i_bipush 31 rfl (by decide) ?_
        refine i_icmp_le 61 32 rfl (by decide) (fun z5 => ?_) (fun z5 => ?_)
        · rw [p_if_f (by omega)] at h
          obtain ⟨g1, g2⟩ := k_shN (s := s) (t := t) (n := n) hT hA hC c (by omega) ⟨z4, z5⟩
          refine i_aload_n 37 rfl rfl (by decide) ?_
          refine i_getP (c := 10) (k := 9) (t := 115) (b := 88) 38 rfl fl_355 (by decide) rfl (by decide) rfl ?_
          refine i_iload_n 39 rfl rfl ?_
          refine i_newRow (z2 := (3, 0, 0)) 40 rfl rfl rfl rfl rfl rfl rfl rfl ⟨z4, z5⟩ (Nat.le_of_ble_eq_true rfl) ⟨by decide, rfl, rfl, rfl⟩ ?_
          refine i_aastR 45 rfl (Or.inl rfl) c.1 c.2 ?_
          refine i_iload_n 46 rfl rfl ?_
          exact i_ireturn 47 rfl rfl (h _ g1 g2)
        · rw [p_if_t (by omega)] at h
          refine i_aload_n 33 rfl rfl (by decide) ?_
          refine i_iconst 34 rfl (by decide) ?_
          refine i_callV (c := 10) (y1 := m_X10_tell) (z1 := (1, 0, 0)) (z2 := (3, 2, 42)) [(0, 0)] 35 rfl ml_400 ok_X10_tell vk_X10_tell ⟨by decide, rfl⟩ rfl ⟨rfl, Nat.le_of_ble_eq_true rfl⟩ (Nat.le_of_ble_eq_true rfl) ⟨by decide, rfl, rfl, rfl⟩ ?_
          exact k_tl hA hC (by omega) (fun M1 a b => i_ireturn 36 rfl rfl (h M1 a b))
      · rw [p_if_t (by omega)] at h
        refine i_aload_n 26 rfl rfl (by decide) ?_
        refine i_bipush 27 rfl (by decide) ?_
        refine i_callV (c := 10) (y1 := m_X10_tell) (z1 := (1, 0, 0)) (z2 := (3, 2, 42)) [(0, 6)] 28 rfl ml_400 ok_X10_tell vk_X10_tell ⟨by decide, rfl⟩ rfl ⟨rfl, Nat.le_of_ble_eq_true rfl⟩ (Nat.le_of_ble_eq_true rfl) ⟨by decide, rfl, rfl, rfl⟩ ?_
        exact k_tl hA hC (by omega) (fun M1 a b => i_ireturn 29 rfl rfl (h M1 a b))
    · rw [p_if_t z3] at h
      obtain ⟨g1, g2⟩ := k_shX (s := s) hA hC c
      refine i_aload_n 17 rfl rfl (by decide) ?_
      refine i_getP (c := 10) (k := 9) (t := 115) (b := 88) 18 rfl fl_355 (by decide) rfl (by decide) rfl ?_
      refine i_iload_n 19 rfl rfl ?_
      refine i_null 20 rfl ?_
      refine i_aastR 21 rfl (Or.inr rfl) c.1 c.2 ?_
      refine i_iconst 22 rfl (by decide) ?_
      exact i_ireturn 23 rfl rfl (h _ g1 g2)
end P25
