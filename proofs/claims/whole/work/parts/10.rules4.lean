section XA
variable {l : Launch} {E : xE} {z : Nat × Nat × Nat} {y : xMT} {pc : Nat} {ls st : List xV} {M : xM} {Q : Option xV → xM → Prop}
theorem x_fnA (M : xM) {t : Nat} (ht : ¬ t < 100) (a k : Nat) : x_fn M t a k = x_sl (x_AT (t - 100)).1 (a + (x_AT (t - 100)).2.2.1 + (x_AT (t - 100)).2.2.2.1 * k) (M a k) := by
  unfold x_fn x_knd
  rw [if_neg ht, if_neg ht]
theorem x_arrI {H : Heap} {τ : Nat} {a i len : Int} (hN : x_NR E H M) (hτ : τ < 80 ∨ τ = 91 ∨ τ = 92) (hl : (x_AT τ).2.1 = len) (oi : x_okV M (0, i)) (oa : x_okV M (100 + τ, a)) (h0 : 0 ≤ i) (h1 : i < len) :
    0 ≤ a ∧ 5 ≤ a.toNat ∧ x_CLa E (x_AT τ).2.2.2.2.2 a.toNat len.toNat (x_fn M (100 + τ) a.toNat) H ∧ x_rg (x_AT τ).1 (M a i) ∧ ¬ Int32.ofInt i < 0 ∧ (Int32.ofInt i).toNatClampNeg = i.toNat ∧ i.toNat < len.toNat ∧ x_fn M (100 + τ) a.toNat i.toNat = x_sl (x_AT τ).1 (a + (x_AT τ).2.2.1 + (x_AT τ).2.2.2.1 * i) (M a i) := by
  have oa := x_okR (by omega) oa
  have e1 : 100 + τ - 100 = τ := by omega
  obtain ⟨q5, hO, hrg⟩ := hN.arr (t := 100 + τ) (by omega) (by omega) oa
  have hln : x_ln M (100 + τ) a = len := by unfold x_ln; rw [if_neg (by omega), e1, hl]
  unfold x_gt at hO
  rw [hln, e1] at hO
  rw [hln, e1] at hrg
  have hx := x_idx h0 oi.2
  have ea : ((a.toNat : Nat) : Int) = a := Int.toNat_of_nonneg oa.1
  have ei : ((i.toNat : Nat) : Int) = i := Int.toNat_of_nonneg h0
  have h3 := hrg i.toNat (by omega)
  have h4 := x_fnA M (t := 100 + τ) (by omega) a.toNat i.toNat
  rw [ei] at h3
  rw [ea, ei, e1] at h4
  exact ⟨oa.1, q5, hO, h3, hx.1, hx.2, by omega, h4⟩
theorem x_arrR {H : Heap} {a i : Int} (hN : x_NR E H M) (oi : x_okV M (0, i)) (oa : x_okV M (190, a)) (h0 : 0 ≤ i) (h1 : i < M (a - 1) 1) :
    0 ≤ a ∧ 5 ≤ a.toNat ∧ x_CLa E 1 a.toNat (M (a - 1) 1).toNat (x_fn M 190 a.toNat) H ∧ x_rg 1 (M a i) ∧ ¬ Int32.ofInt i < 0 ∧ (Int32.ofInt i).toNatClampNeg = i.toNat ∧ i.toNat < (M (a - 1) 1).toNat ∧ x_fn M 190 a.toNat i.toNat = .long (Int64.ofInt (M a i)) := by
  have oa := x_okR (by omega) oa
  obtain ⟨q5, hO, hrg⟩ := hN.arr (t := 190) (by omega) (by omega) oa
  have hln : x_ln M 190 a = M (a - 1) 1 := rfl
  rw [hln] at hO hrg
  have hx := x_idx h0 oi.2
  have ea : ((a.toNat : Nat) : Int) = a := Int.toNat_of_nonneg oa.1
  have ei : ((i.toNat : Nat) : Int) = i := Int.toNat_of_nonneg h0
  have h3 := hrg i.toNat (by omega)
  have h4 := x_fnA M (t := 190) (by omega) a.toNat i.toNat
  rw [ei] at h3
  rw [ea, ei] at h4
  exact ⟨oa.1, q5, hO, h3, hx.1, hx.2, by omega, h4⟩
theorem i_iald {τ : Nat} {i a len : Int} (n : Nat) (hd : y.2.2.2.2[n]? = some (pc, .iaload, 1)) (hA : (x_AT τ).1 = 0 ∧ (x_AT τ).2.1 = len ∧ (x_AT τ).2.2.2.2.2 = 0 ∧ (τ < 80 ∨ τ = 91 ∨ τ = 92)) (h0 : 0 ≤ i) (h1 : i < len) (kk : x_Ev l E z y (pc + 1) ls ((0, M a i) :: st) M Q) : x_Ev l E z y pc ls ((0, i) :: (100 + τ, a) :: st) M Q := by
  refine kk.step (fun p e R s m args below meth c H locs cells slots lr Q' hM hC hN hL hol hos => ?_)
  obtain ⟨oi, oa, os⟩ := x_ok2 hos
  obtain ⟨w1, w2, w3, w4, w5, w6, w7, w8⟩ := x_arrI hN hA.2.2.2 hA.2.1 oi oa h0 h1
  rw [hA.2.2.1] at w3
  rw [hA.1] at w4 w8
  refine ⟨x_okc w4 os, fun kk => ?_⟩
  simp only [List.map, x_cw0, x_cwr (show 10 ≤ 100 + τ by omega) w1]
  refine x_iald hC.1 hC.2.1 hC.2.2.2.2.2.2.2.2 w3 w5 (by rw [w6]; exact w7) (x_dec hM hd) (x_Ev.W ?_ kk)
  rw [w6, w8]; rfl
theorem i_iast {τ : Nat} {i a b len : Int} (n : Nat) (hd : y.2.2.2.2[n]? = some (pc, .iastore, 1)) (hA : (x_AT τ).1 = 0 ∧ (x_AT τ).2.1 = len ∧ (x_AT τ).2.2.2.2.2 = 0 ∧ (τ < 80 ∨ τ = 91 ∨ τ = 92)) (h0 : 0 ≤ i) (h1 : i < len) (kk : x_Ev l E z y (pc + 1) ls st (x_wr M a i b) Q) : x_Ev l E z y pc ls ((0, b) :: (0, i) :: (100 + τ, a) :: st) M Q := by
  intro p e R s m args below meth c H locs cells slots lr hM hC hf hl hc hs hN hlo hL hol hos
  obtain ⟨ob, oi, oa, os⟩ := x_ok3 hos
  obtain ⟨w1, w2, w3, w4, w5, w6, w7, w8⟩ := x_arrI hN hA.2.2.2 hA.2.1 oi oa h0 h1
  rw [hA.2.2.1] at w3
  have oa' := x_okR (by omega) oa
  have ht : ¬ 100 + τ < 100 := by omega
  have e1 : 100 + τ - 100 = τ := by omega
  have ea : ((a.toNat : Nat) : Int) = a := Int.toNat_of_nonneg w1
  have ei : ((i.toNat : Nat) : Int) = i := Int.toNat_of_nonneg h0
  have hln : x_len M (100 + τ) a.toNat = len.toNat := by unfold x_len x_ln; rw [if_neg ht, if_neg (by have := hA.2.2.2; omega), e1, hA.2.1]
  have hknd : x_knd (100 + τ) i.toNat = 0 := by unfold x_knd; rw [if_neg ht, e1, hA.1]
  simp only [List.map, x_cw0, x_cw1, x_cwr (show 10 ≤ 100 + τ by omega) w1]
  refine x_iast hC.1 hC.2.1 hC.2.2.2.2.2.2.2.2 w3 w5 (by rw [w6]; exact w7) (x_dec hM hd) fun H1 lo hb1 hO1 hz ho1 => ?_
  have hN1 : x_NR E H1 (x_wr M a i b) := by
    have := hN.set (a := a.toNat) (k := i.toNat) (v := b) (H1 := H1) w2 oa'.2.1 (by rw [oa'.2.2, hln]; exact w7) (by rw [oa'.2.2, hknd]; decide) (by rw [oa'.2.2, hknd]; intro h; cases h) (by rw [oa'.2.2, hknd]; exact ob) hz ho1 (by
      rw [oa'.2.2, if_neg ht, hln]
      unfold x_gt
      rw [e1, hA.2.2.1]
      have : x_fn (x_wr M a.toNat i.toNat b) (100 + τ) a.toNat = updV (x_fn M (100 + τ) a.toNat) (Int32.ofInt i).toNatClampNeg (.int (Int32.ofInt b)) := by
        funext j
        unfold updV
        rw [w6]
        have hj := x_fnA (x_wr M a.toNat i.toNat b) ht a.toNat j
        rw [e1, hA.1] at hj
        by_cases ej : j = i.toNat
        · subst ej; rw [if_pos rfl, hj, x_wr_eq]; rfl
        · rw [if_neg ej, hj, x_wr_ne M b (by omega)]
          have hj2 := x_fnA M ht a.toNat j
          rw [e1, hA.1] at hj2
          rw [hj2]
      rw [this]; exact hO1)
    rw [ea, ei] at this
    exact this
  have hok := fun v => (x_okV_wr (M := M) (a := a) i b w1 v)
  exact x_Wwr (x_ext.wr M i b w1) (kk p e R s m args below meth c H1 _ cells slots lr hM hC hf hl hc hs hN1 (fun q hq => by
    rcases List.mem_append.mp hq with h | h
    · exact hlo q h
    · rw [List.mem_singleton.mp h, hb1, x_adr_own w2]; omega) hL (fun v hv => (hok v).mpr (hol v hv)) (fun v hv => (hok v).mpr (os v hv)))
theorem i_lald {τ : Nat} {i a len : Int} (n : Nat) (hd : y.2.2.2.2[n]? = some (pc, .laload, 1)) (hA : (x_AT τ).1 = 1 ∧ (x_AT τ).2.1 = len ∧ (x_AT τ).2.2.2.2.2 = 1 ∧ (τ < 80 ∨ τ = 91 ∨ τ = 92)) (h0 : 0 ≤ i) (h1 : i < len) (kk : x_Ev l E z y (pc + 1) ls ((1, M a i) :: st) M Q) : x_Ev l E z y pc ls ((0, i) :: (100 + τ, a) :: st) M Q := by
  refine kk.step (fun p e R s m args below meth c H locs cells slots lr Q' hM hC hN hL hol hos => ?_)
  obtain ⟨oi, oa, os⟩ := x_ok2 hos
  obtain ⟨w1, w2, w3, w4, w5, w6, w7, w8⟩ := x_arrI hN hA.2.2.2 hA.2.1 oi oa h0 h1
  rw [hA.2.2.1] at w3
  rw [hA.1] at w4 w8
  refine ⟨x_okc w4 os, fun kk => ?_⟩
  simp only [List.map, x_cw0, x_cwr (show 10 ≤ 100 + τ by omega) w1]
  refine x_lald hC.1 hC.2.1 hC.2.2.2.2.2.2.2.2 w3 w5 (by rw [w6]; exact w7) (x_dec hM hd) (x_Ev.W ?_ kk)
  rw [w6, w8]; rfl
theorem i_last {τ : Nat} {i a b len : Int} (n : Nat) (hd : y.2.2.2.2[n]? = some (pc, .lastore, 1)) (hA : (x_AT τ).1 = 1 ∧ (x_AT τ).2.1 = len ∧ (x_AT τ).2.2.2.2.2 = 1 ∧ (τ < 80 ∨ τ = 91 ∨ τ = 92)) (h0 : 0 ≤ i) (h1 : i < len) (kk : x_Ev l E z y (pc + 1) ls st (x_wr M a i b) Q) : x_Ev l E z y pc ls ((1, b) :: (0, i) :: (100 + τ, a) :: st) M Q := by
  intro p e R s m args below meth c H locs cells slots lr hM hC hf hl hc hs hN hlo hL hol hos
  obtain ⟨ob, oi, oa, os⟩ := x_ok3 hos
  obtain ⟨w1, w2, w3, w4, w5, w6, w7, w8⟩ := x_arrI hN hA.2.2.2 hA.2.1 oi oa h0 h1
  rw [hA.2.2.1] at w3
  have oa' := x_okR (by omega) oa
  have ht : ¬ 100 + τ < 100 := by omega
  have e1 : 100 + τ - 100 = τ := by omega
  have ea : ((a.toNat : Nat) : Int) = a := Int.toNat_of_nonneg w1
  have ei : ((i.toNat : Nat) : Int) = i := Int.toNat_of_nonneg h0
  have hln : x_len M (100 + τ) a.toNat = len.toNat := by unfold x_len x_ln; rw [if_neg ht, if_neg (by have := hA.2.2.2; omega), e1, hA.2.1]
  have hknd : x_knd (100 + τ) i.toNat = 1 := by unfold x_knd; rw [if_neg ht, e1, hA.1]
  simp only [List.map, x_cw0, x_cw1, x_cwr (show 10 ≤ 100 + τ by omega) w1]
  refine x_last hC.1 hC.2.1 hC.2.2.2.2.2.2.2.2 w3 w5 (by rw [w6]; exact w7) (x_dec hM hd) fun H1 lo hb1 hO1 hz ho1 => ?_
  have hN1 : x_NR E H1 (x_wr M a i b) := by
    have := hN.set (a := a.toNat) (k := i.toNat) (v := b) (H1 := H1) w2 oa'.2.1 (by rw [oa'.2.2, hln]; exact w7) (by rw [oa'.2.2, hknd]; decide) (by rw [oa'.2.2, hknd]; intro h; cases h) (by rw [oa'.2.2, hknd]; exact ob) hz ho1 (by
      rw [oa'.2.2, if_neg ht, hln]
      unfold x_gt
      rw [e1, hA.2.2.1]
      have : x_fn (x_wr M a.toNat i.toNat b) (100 + τ) a.toNat = updV (x_fn M (100 + τ) a.toNat) (Int32.ofInt i).toNatClampNeg (.long (Int64.ofInt b)) := by
        funext j
        unfold updV
        rw [w6]
        have hj := x_fnA (x_wr M a.toNat i.toNat b) ht a.toNat j
        rw [e1, hA.1] at hj
        by_cases ej : j = i.toNat
        · subst ej; rw [if_pos rfl, hj, x_wr_eq]; rfl
        · rw [if_neg ej, hj, x_wr_ne M b (by omega)]
          have hj2 := x_fnA M ht a.toNat j
          rw [e1, hA.1] at hj2
          rw [hj2]
      rw [this]; exact hO1)
    rw [ea, ei] at this
    exact this
  have hok := fun v => (x_okV_wr (M := M) (a := a) i b w1 v)
  exact x_Wwr (x_ext.wr M i b w1) (kk p e R s m args below meth c H1 _ cells slots lr hM hC hf hl hc hs hN1 (fun q hq => by
    rcases List.mem_append.mp hq with h | h
    · exact hlo q h
    · rw [List.mem_singleton.mp h, hb1, x_adr_own w2]; omega) hL (fun v hv => (hok v).mpr (hol v hv)) (fun v hv => (hok v).mpr (os v hv)))
theorem i_laldR {i a : Int} (n : Nat) (hd : y.2.2.2.2[n]? = some (pc, .laload, 1)) (h0 : 0 ≤ i) (h1 : i < M (a - 1) 1) (kk : x_Ev l E z y (pc + 1) ls ((1, M a i) :: st) M Q) : x_Ev l E z y pc ls ((0, i) :: (190, a) :: st) M Q := by
  refine kk.step (fun p e R s m args below meth c H locs cells slots lr Q' hM hC hN hL hol hos => ?_)
  obtain ⟨oi, oa, os⟩ := x_ok2 hos
  obtain ⟨w1, w2, w3, w4, w5, w6, w7, w8⟩ := x_arrR hN oi oa h0 h1
  refine ⟨x_okc w4 os, fun kk => ?_⟩
  simp only [List.map, x_cw0, x_cwr (show 10 ≤ 190 by omega) w1]
  refine x_lald hC.1 hC.2.1 hC.2.2.2.2.2.2.2.2 w3 w5 (by rw [w6]; exact w7) (x_dec hM hd) (x_Ev.W ?_ kk)
  rw [w6, w8]; rfl
theorem i_lastR {i a b : Int} (n : Nat) (hd : y.2.2.2.2[n]? = some (pc, .lastore, 1)) (h0 : 0 ≤ i) (h1 : i < M (a - 1) 1) (kk : x_Ev l E z y (pc + 1) ls st (x_wr M a i b) Q) : x_Ev l E z y pc ls ((1, b) :: (0, i) :: (190, a) :: st) M Q := by
  intro p e R s m args below meth c H locs cells slots lr hM hC hf hl hc hs hN hlo hL hol hos
  obtain ⟨ob, oi, oa, os⟩ := x_ok3 hos
  obtain ⟨w1, w2, w3, w4, w5, w6, w7, w8⟩ := x_arrR hN oi oa h0 h1
  have oa' := x_okR (by omega) oa
  have ea : ((a.toNat : Nat) : Int) = a := Int.toNat_of_nonneg w1
  have ei : ((i.toNat : Nat) : Int) = i := Int.toNat_of_nonneg h0
  have hln : x_len M 190 a.toNat = (M (a - 1) 1).toNat := by unfold x_len x_ln; rw [if_neg (by omega), if_pos rfl, ea]
  simp only [List.map, x_cw0, x_cw1, x_cwr (show 10 ≤ 190 by omega) w1]
  refine x_last hC.1 hC.2.1 hC.2.2.2.2.2.2.2.2 w3 w5 (by rw [w6]; exact w7) (x_dec hM hd) fun H1 lo hb1 hO1 hz ho1 => ?_
  have hN1 : x_NR E H1 (x_wr M a i b) := by
    have := hN.set (a := a.toNat) (k := i.toNat) (v := b) (H1 := H1) w2 oa'.2.1 (by rw [oa'.2.2, hln]; exact w7) (by rw [oa'.2.2]; exact (show (1 : Nat) ≠ 2 by decide)) (by rw [oa'.2.2]; intro h; cases h) (by rw [oa'.2.2]; exact ob) hz ho1 (by
      rw [oa'.2.2, if_neg (by omega), hln]
      have : x_fn (x_wr M a.toNat i.toNat b) 190 a.toNat = updV (x_fn M 190 a.toNat) (Int32.ofInt i).toNatClampNeg (.long (Int64.ofInt b)) := by
        funext j
        unfold updV
        rw [w6]
        have hj := x_fnA (x_wr M a.toNat i.toNat b) (show ¬ 190 < 100 by omega) a.toNat j
        by_cases ej : j = i.toNat
        · subst ej; rw [if_pos rfl, hj, x_wr_eq]; rfl
        · rw [if_neg ej, hj, x_wr_ne M b (by omega)]
          have hj2 := x_fnA M (show ¬ 190 < 100 by omega) a.toNat j
          rw [hj2]
      rw [this]; exact hO1)
    rw [ea, ei] at this
    exact this
  have hok := fun v => (x_okV_wr (M := M) (a := a) i b w1 v)
  exact x_Wwr (x_ext.wr M i b w1) (kk p e R s m args below meth c H1 _ cells slots lr hM hC hf hl hc hs hN1 (fun q hq => by
    rcases List.mem_append.mp hq with h | h
    · exact hlo q h
    · rw [List.mem_singleton.mp h, hb1, x_adr_own w2]; omega) hL (fun v hv => (hok v).mpr (hol v hv)) (fun v hv => (hok v).mpr (os v hv)))
theorem x_st_arr {H : Heap} {τ : Nat} {a : Int} (hN : x_NR E H M) (ht : (x_AT τ).1 = 2 ∨ (x_AT τ).1 = 3) (hτ : τ < 80) (oa : x_okV M (100 + τ, a)) : a.toNat < 593 ∧ x_SHT a.toNat = 100 + τ ∧ 5 ≤ a.toNat := by
  have oa := x_okR (by omega) oa
  have h5 := (hN.arr (t := 100 + τ) (by omega) (by omega) oa).1
  rcases Nat.lt_or_ge a.toNat 593 with q | q
  · have := oa.2.2; rw [x_tag_lt q] at this; exact ⟨q, this, h5⟩
  · have := oa.2.2
    rcases hN.2.2.2.2.1 a.toNat q oa.2.1 with w | w | w | w <;> omega
theorem i_aald {τ t : Nat} {i a b len : Int} (n : Nat) (hd : y.2.2.2.2[n]? = some (pc, .aaload, 1)) (hA : (x_AT τ).1 = 2 ∧ (x_AT τ).2.1 = len ∧ ((x_AT τ).2.2.2.2.1 = t ∧ 10 ≤ t) ∧ τ < 80 ∧ (2 ≤ (x_AT τ).2.2.2.2.2 ∧ (x_AT τ).2.2.2.2.2 ≤ 9)) (hb : a + (x_AT τ).2.2.1 + (x_AT τ).2.2.2.1 * i = b) (h0 : 0 ≤ i) (h1 : i < len) (kk : x_Ev l E z y (pc + 1) ls ((t, b) :: st) M Q) : x_Ev l E z y pc ls ((0, i) :: (100 + τ, a) :: st) M Q := by
  refine kk.step (fun p e R s m args below meth c H locs cells slots lr Q' hM hC hN hL hol hos => ?_)
  obtain ⟨oi, oa, os⟩ := x_ok2 hos
  obtain ⟨w1, w2, w3, w4, w5, w6, w7, w8⟩ := x_arrI hN (Or.inl hA.2.2.2.1) hA.2.1 oi oa h0 h1
  obtain ⟨v1, v2, v3⟩ := x_st_arr hN (Or.inl hA.1) hA.2.2.2.1 oa
  have e1 : 100 + τ - 100 = τ := by omega
  have ea : ((a.toNat : Nat) : Int) = a := Int.toNat_of_nonneg w1
  have ei : ((i.toNat : Nat) : Int) = i := Int.toNat_of_nonneg h0
  obtain ⟨u1, u2, u3⟩ := (x_clo2 a.toNat v1 v3 (by omega)).2.2 (by rw [v2, e1]; exact hA.1) i.toNat (by rw [v2, e1, hA.2.1]; exact w7)
  have eb : x_el a.toNat i.toNat = b := by unfold x_el; rw [v2, e1, ea, ei]; exact hb
  rw [eb] at u1 u2 u3
  rw [v2, e1, hA.2.2.1.1] at u3
  rw [hA.1, hb] at w8
  have htp := hN.1
  refine ⟨x_okc (x_okR' hA.2.2.1.2 ⟨u1, by omega, by rw [x_tag_lt u2]; exact u3⟩) os, fun kk => ?_⟩
  simp only [List.map, x_cw0, x_cwr (show 10 ≤ 100 + τ by omega) w1]
  refine x_aald hC.1 hC.2.1 hC.2.2.2.2.2.2.2.2 hA.2.2.2.2 w3 w5 (by rw [w6]; exact w7) (x_dec hM hd) (x_Ev.W ?_ kk)
  rw [w6, w8]
  simp only [List.map, x_cwr hA.2.2.1.2 u1]
  rfl
theorem i_aaldR {i a : Int} (n : Nat) (hd : y.2.2.2.2[n]? = some (pc, .aaload, 1)) (h0 : 0 ≤ i) (h1 : i < 4) (kk : x_Ev l E z y (pc + 1) ls ((9, M a i) :: st) M Q) : x_Ev l E z y pc ls ((0, i) :: (115, a) :: st) M Q := by
  refine kk.step (fun p e R s m args below meth c H locs cells slots lr Q' hM hC hN hL hol hos => ?_)
  obtain ⟨oi, oa, os⟩ := x_ok2 hos
  obtain ⟨w1, w2, w3, w4, w5, w6, w7, w8⟩ := x_arrI (τ := 15) hN (Or.inl (by omega)) rfl oi oa h0 h1
  obtain ⟨v1, v2, v3⟩ := x_st_arr (τ := 15) hN (Or.inr rfl) (by omega) oa
  have key : ∀ b, b < 593 → 5 ≤ b → x_SHT b = 115 → b = 88 := by decide +kernel
  have ea : a = 88 := by have := key a.toNat v1 v3 v2; omega
  have ei : ((i.toNat : Nat) : Int) = i := Int.toNat_of_nonneg h0
  have hr := hN.2.2.2.2.2.1 i.toNat (by omega)
  rw [ei, ← ea] at hr
  refine ⟨x_okc (a := (9, M a i)) hr os, fun kk => ?_⟩
  simp only [List.map, x_cw0, x_cwr (show 10 ≤ 115 by omega) w1]
  refine x_aald hC.1 hC.2.1 hC.2.2.2.2.2.2.2.2 (by decide) w3 w5 (by rw [w6]; exact w7) (x_dec hM hd) (x_Ev.W ?_ kk)
  rw [w6, w8]
  rfl
theorem i_alen {τ : Nat} {a len : Int} (n : Nat) (hd : y.2.2.2.2[n]? = some (pc, .arraylength, 1)) (hA : (x_AT τ).2.1 = len ∧ (x_AT τ).2.2.2.2.2 < 10 ∧ (τ < 80 ∨ τ = 91 ∨ τ = 92)) (hl : 0 ≤ len ∧ len < 2147483648) (kk : x_Ev l E z y (pc + 1) ls ((0, len) :: st) M Q) : x_Ev l E z y pc ls ((100 + τ, a) :: st) M Q := by
  refine kk.step (fun p e R s m args below meth c H locs cells slots lr Q' hM hC hN hL hol hos => ?_)
  obtain ⟨oa, os⟩ := x_ok1 hos
  have oa := x_okR (by omega) oa
  have e1 : 100 + τ - 100 = τ := by omega
  obtain ⟨q5, hO, hrg⟩ := hN.arr (t := 100 + τ) (by omega) (by have := hA.2.2; omega) oa
  have hln : x_ln M (100 + τ) a = len := by unfold x_ln; rw [if_neg (by have := hA.2.2; omega), e1, hA.1]
  unfold x_gt at hO
  rw [hln, e1] at hO
  refine ⟨x_okc (a := (0, len)) ⟨by omega, hl.2⟩ os, fun kk => ?_⟩
  simp only [List.map, x_cw0, x_cwr (show 10 ≤ 100 + τ by omega) oa.1]
  have hv : Int32.ofNat len.toNat = Int32.ofInt len := by
    rw [← Int32.ofInt_eq_ofNat, Int.toNat_of_nonneg hl.1]
  have key : ∀ g : Nat, g < 10 → ∃ ty : FieldType, (x_TY E)[g]? = some (E.2.2.2.2 g, ty) := fun g hg => match g, hg with
    | 0, _ => ⟨_, rfl⟩ | 1, _ => ⟨_, rfl⟩ | 2, _ => ⟨_, rfl⟩ | 3, _ => ⟨_, rfl⟩ | 4, _ => ⟨_, rfl⟩ | 5, _ => ⟨_, rfl⟩ | 6, _ => ⟨_, rfl⟩ | 7, _ => ⟨_, rfl⟩ | 8, _ => ⟨_, rfl⟩ | 9, _ => ⟨_, rfl⟩
  obtain ⟨ty, hty⟩ := key _ hA.2.1
  exact x_alen hC.1 hC.2.1 hC.2.2.2.2.2.2.2.2 hty hO hv (x_dec hM hd) kk
theorem i_alenR {a : Int} (n : Nat) (hd : y.2.2.2.2[n]? = some (pc, .arraylength, 1)) (hl : 0 ≤ M (a - 1) 1 ∧ M (a - 1) 1 < 2147483648) (kk : x_Ev l E z y (pc + 1) ls ((0, M (a - 1) 1) :: st) M Q) : x_Ev l E z y pc ls ((190, a) :: st) M Q := by
  refine kk.step (fun p e R s m args below meth c H locs cells slots lr Q' hM hC hN hL hol hos => ?_)
  obtain ⟨oa, os⟩ := x_ok1 hos
  have oa := x_okR (by omega) oa
  obtain ⟨q5, hO, hrg⟩ := hN.arr (t := 190) (by omega) (by omega) oa
  have hln : x_ln M 190 a = M (a - 1) 1 := rfl
  rw [hln] at hO
  refine ⟨x_okc (a := (0, M (a - 1) 1)) ⟨by omega, hl.2⟩ os, fun kk => ?_⟩
  simp only [List.map, x_cw0, x_cwr (show 10 ≤ 190 by omega) oa.1]
  have hv : Int32.ofNat (M (a - 1) 1).toNat = Int32.ofInt (M (a - 1) 1) := by
    rw [← Int32.ofInt_eq_ofNat, Int.toNat_of_nonneg hl.1]
  exact x_alen (t := 1) hC.1 hC.2.1 hC.2.2.2.2.2.2.2.2 rfl hO hv (x_dec hM hd) kk
/-! the law's script, the class's static arrays -/
theorem x_spc {H : Heap} {t : Nat} {a : Int} (hN : x_NR E H M) (ht : 180 ≤ t ∧ t < 185) (oa : x_okV M (t, a)) : 0 ≤ a ∧ a.toNat = t - 180 := by
  have oa := x_okR (by omega) oa
  refine ⟨oa.1, ?_⟩
  rcases Nat.lt_or_ge a.toNat 593 with q | q
  · have h := oa.2.2
    rw [x_tag_lt q] at h
    rcases Nat.lt_or_ge a.toNat 5 with w | w
    · rw [x_clo3 _ w] at h; omega
    · by_cases h1 : x_SHT a.toNat < 100
      · omega
      · have := (x_clo2 a.toNat q w h1).1; omega
  · rcases hN.2.2.2.2.1 a.toNat q oa.2.1 with w | w | w | w <;> (have := oa.2.2; omega)
theorem x_sald {t : Nat} {i a v : Int} (n : Nat) (hd : y.2.2.2.2[n]? = some (pc, .iaload, 1)) (ht : 180 ≤ t ∧ t < 185) (h0 : 0 ≤ i) (h1 : i.toNat < x_sn E (t - 180)) (hv : v = (x_sv E (t - 180) i.toNat).toInt) (kk : x_Ev l E z y (pc + 1) ls ((0, v) :: st) M Q) : x_Ev l E z y pc ls ((0, i) :: (t, a) :: st) M Q := by
  refine kk.step (fun p e R s m args below meth c H locs cells slots lr Q' hM hC hN hL hol hos => ?_)
  obtain ⟨oi, oa, os⟩ := x_ok2 hos
  obtain ⟨w1, w2⟩ := x_spc hN ht oa
  obtain ⟨q0, cell, q1, q2, q3, q4, q5, q6⟩ := hN.2.2.1.2 (t - 180) (by omega)
  have hx := x_idx h0 oi.2
  have hvr : x_rg 0 v := by rw [hv]; exact x_rgI (x_sv E (t - 180) i.toNat)
  refine ⟨x_okc (a := (0, v)) hvr os, fun kk => ?_⟩
  simp only [List.map, x_cw0, x_cwr (show 10 ≤ t by omega) w1]
  have ead : x_adr E a.toNat = E.2.1 (t - 180) := by unfold x_adr; rw [if_pos (by omega), w2]
  rw [ead]
  have harr : (x_TY E)[10 + (t - 180)]? = some (E.2.2.2.2 (10 + (t - 180)), .int) := by
    rcases (show t - 180 = 0 ∨ t - 180 = 1 ∨ t - 180 = 2 ∨ t - 180 = 3 ∨ t - 180 = 4 by omega) with w | w | w | w | w <;> (rw [w]; rfl)
  refine W.iald (v := .int (x_sv E (t - 180) i.toNat)) hC.1 hC.2.1 q1 (x_isA (hC.2.2.2.2.2.2.2.2.2.1 _ _ harr).1 q2 q3) q4 (by rw [hx.2, q5]; exact fun q => q.elim hx.1 (fun q => by omega)) (by rw [hx.2]; exact q6 _ h1) rfl rfl (x_dec hM hd) (x_Ev.W ?_ kk)
  simp only [List.map, x_cw0]
  rw [hv, x_ofI]
theorem i_scr {i a : Int} (n : Nat) (hd : y.2.2.2.2[n]? = some (pc, .iaload, 1)) (h0 : 0 ≤ i) (h1 : i < x_L E) (kk : x_Ev l E z y (pc + 1) ls ((0, (x_xs E i.toNat).toInt) :: st) M Q) : x_Ev l E z y pc ls ((0, i) :: (180, a) :: st) M Q :=
  x_sald n hd (by omega) h0 (by
    rw [show 180 - 180 = 0 from rfl]
    unfold x_sn
    rw [if_pos rfl]
    omega) (by
    rw [show 180 - 180 = 0 from rfl]
    unfold x_sv
    rw [if_pos rfl]) kk
theorem i_sta {t : Nat} {i a : Int} (n : Nat) (hd : y.2.2.2.2[n]? = some (pc, .iaload, 1)) (ht : 181 ≤ t ∧ t < 185) (h0 : 0 ≤ i) (h1 : i < (x_SC t).length) (hr : ∀ v ∈ x_SC t, -2147483648 ≤ v ∧ v < 2147483648) (kk : x_Ev l E z y (pc + 1) ls ((0, (x_SC t).getD i.toNat 0) :: st) M Q) : x_Ev l E z y pc ls ((0, i) :: (t, a) :: st) M Q := by
  have e : 180 + (t - 180) = t := by omega
  refine x_sald n hd (by omega) h0 ?_ ?_ kk
  · unfold x_sn; rw [if_neg (by omega), e]; omega
  · unfold x_sv
    rw [if_neg (by omega), e, x_inI]
    have hlt : i.toNat < (x_SC t).length := by omega
    rw [List.getD_eq_getElem?_getD, List.getElem?_eq_getElem hlt]
    exact hr _ (List.getElem_mem hlt)
theorem i_slen {a : Int} (n : Nat) (hd : y.2.2.2.2[n]? = some (pc, .arraylength, 1)) (kk : x_Ev l E z y (pc + 1) ls ((0, (x_L E : Int)) :: st) M Q) : x_Ev l E z y pc ls ((180, a) :: st) M Q := by
  refine kk.step (fun p e R s m args below meth c H locs cells slots lr Q' hM hC hN hL hol hos => ?_)
  obtain ⟨oa, os⟩ := x_ok1 hos
  obtain ⟨w1, w2⟩ := x_spc hN (t := 180) (by omega) oa
  obtain ⟨q0, cell, q1, q2, q3, q4, q5, q6⟩ := hN.2.2.1.2 0 (by omega)
  have hL3 := hN.2.2.1.1.1
  refine ⟨x_okc (a := (0, (x_L E : Int))) ⟨by omega, by omega⟩ os, fun kk => ?_⟩
  simp only [List.map, x_cw0, x_cwr (show 10 ≤ 180 by omega) w1]
  have ead : x_adr E a.toNat = E.2.1 0 := by unfold x_adr; rw [if_pos (by omega), w2]
  rw [ead]
  refine W.alen (n := Int32.ofInt (x_L E)) hC.1 hC.2.1 q1 (x_isA (hC.2.2.2.2.2.2.2.2.2.1 10 _ rfl).1 q2 q3) ?_ rfl rfl (x_dec hM hd) kk
  rw [q5]
  have e0 : x_sn E 0 = x_L E := if_pos rfl
  rw [e0]
  have e1 : Int32.ofNat (x_L E) = Int32.ofInt (x_L E) := by rw [← Int32.ofInt_eq_ofNat]
  exact e1
theorem x_statZ {H : Heap} {s : State} (hN : x_NR E H M) (hK : x_CK E s) {i : Nat} (h1 : 1 ≤ i) (h2 : i < 5) : ∃ (cf : ClassId) (kf : Class) (fi : Nat) (f : Field) (a : Nat) (cell : Cell), s.fieldFound? "LeaderTerms" (x_sname i) "[I" = some (cf, kf, fi, f) ∧ f.isStatic = true ∧ kf.init = .initialized ∧ kf.statics = some a ∧ H[a]? = some cell ∧ cell.vm ≠ .unknown ∧ cell.slots[f.slot]? = some (x_cw E (180 + i, i)) ∧ x_okV M (180 + i, i) := by
  obtain ⟨cf, kf, fi, f, q1, q2, q3, q4, q5⟩ := hK.2.2.1 i h1 h2
  obtain ⟨u0, cell, u1, u2, u3⟩ := hN.2.2.1.1.2 i h1 h2
  have htp := hN.1
  refine ⟨cf, kf, fi, f, _, cell, q1, q2, q3, q4, u1, (fun e => by rw [e] at u2; cases u2), ?_, x_okR' (by omega) ⟨by omega, by omega, ?_⟩⟩
  · rw [q5, u3, x_cwr (by omega) (by omega)]
    unfold x_adr
    rw [if_pos (by omega)]
    rfl
  · rw [x_tag_lt (by omega)]; exact x_clo3 _ (by omega)
theorem i_gets {idx i : Nat} (n : Nat) (hd : y.2.2.2.2[n]? = some (pc, .getstatic idx, 3)) (hi : 1 ≤ i ∧ i < 5) (hfl : Cond.fieldLink y.1.cls idx "LeaderTerms" (x_sname i) "[I" ∈ x_tb) (kk : x_Ev l E z y (pc + 3) ls ((180 + i, (i : Int)) :: st) M Q) : x_Ev l E z y pc ls st M Q := by
  refine kk.step (fun p e R s m args below meth c H locs cells slots lr Q' hM hC hN hL hol hos => ?_)
  obtain ⟨cf, kf, fi, f, a, cell, q1, q2, q3, q4, q5, q6, q7, q8⟩ := x_statZ hN hC.2.2.2.2.2.2.2.2 hi.1 hi.2
  exact ⟨x_okc q8 hos, fun kk => W.gets hC.1 hC.2.1 hC.2.2.2.2.2.2.1 (hC.2.2.2.2.2.2.2.1 _ hfl) q1 q2 q3 q4 q5 q6 q7 rfl (x_dec hM hd) kk⟩
theorem i_getsN {idx i : Nat} {host : String} (n : Nat) (hd : y.2.2.2.2[n]? = some (pc, .getstatic idx, 3)) (hi : 1 ≤ i ∧ i < 5) (hfl : Cond.fieldLinkNest y.1.cls idx "LeaderTerms" (x_sname i) "[I" host ∈ lw_tbl) (kk : x_Ev l E z y (pc + 3) ls ((180 + i, (i : Int)) :: st) M Q) : x_Ev l E z y pc ls st M Q := by
  refine kk.step (fun p e R s m args below meth c H locs cells slots lr Q' hM hC hN hL hol hos => ?_)
  obtain ⟨cf, kf, fi, f, a, cell, q1, q2, q3, q4, q5, q6, q7, q8⟩ := x_statZ hN hC.2.2.2.2.2.2.2.2 hi.1 hi.2
  exact ⟨x_okc q8 hos, fun kk => va_WgetsN hC.1 hC.2.1 hC.2.2.2.2.2.2.1 (va_Nw.use rfl (hC.2.2.2.2.2.2.2.2.2.2.2 _ hfl rfl)) q1 q2 q3 q4 q5 q6 q7 rfl (x_dec hM hd) kk⟩
end XA
