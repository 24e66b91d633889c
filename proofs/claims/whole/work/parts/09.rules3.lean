section XF
variable {l : Launch} {E : xE} {z : Nat × Nat × Nat} {y : xMT} {pc : Nat} {ls st : List xV} {M : xM} {Q : Option xV → xM → Prop}
theorem x_okR {M : xM} {t : Nat} {a : Int} (ht : 10 ≤ t) (h : x_okV M (t, a)) : 0 ≤ a ∧ a.toNat < x_tp M ∧ x_tag M a.toNat = t := by
  have key : ∀ t : Nat, x_okV M (t + 10, a) → 0 ≤ a ∧ a.toNat < x_tp M ∧ x_tag M a.toNat = t + 10 := fun t h => h
  obtain ⟨t', rfl⟩ : ∃ t', t = t' + 10 := ⟨t - 10, by omega⟩
  exact key t' h
theorem x_okR' {M : xM} {t : Nat} {a : Int} (ht : 10 ≤ t) (h : 0 ≤ a ∧ a.toNat < x_tp M ∧ x_tag M a.toNat = t) : x_okV M (t, a) := by
  have key : ∀ t : Nat, (0 ≤ a ∧ a.toNat < x_tp M ∧ x_tag M a.toNat = t + 10) → x_okV M (t + 10, a) := fun t h => h
  obtain ⟨t', rfl⟩ : ∃ t', t = t' + 10 := ⟨t - 10, by omega⟩
  exact key t' h
theorem x_cwr {E : xE} {t : Nat} {a : Int} (ht : 10 ≤ t) (h : 0 ≤ a) : x_cw E (t, a) = .ref (x_adr E a.toNat) := by
  obtain ⟨t', rfl⟩ : ∃ t', t = t' + 2 := ⟨t - 2, by omega⟩
  exact x_cwR E t' a (by omega)
/-- a row: its tag 9 may be null; it isn't below 0 where it is used -/
theorem x_row9 {M : xM} {a : Int} (h : x_okV M (9, a)) (h0 : 0 ≤ a) : 0 ≤ a ∧ a.toNat < x_tp M ∧ x_tag M a.toNat = 10 + 6 := by
  have h' : x_rowok M a := h
  rcases h' with q | ⟨q1, q2, q3⟩
  · omega
  · exact ⟨h0, q2, q3⟩
theorem x_fnO (M : xM) {c : Nat} (hc : c < 12) (a k : Nat) : x_fn M (10 + c) a k = x_sl (x_FK c k) (x_PF c k a) (M a k) := by
  unfold x_fn x_knd
  rw [if_pos (show 10 + c < 100 by omega), if_pos (show 10 + c < 100 by omega), show 10 + c - 10 = c by omega]
theorem x_get0 {c k idx : Nat} {a : Int} {v : xV} (n : Nat) (hd : y.2.2.2.2[n]? = some (pc, .getfield idx, 3)) (hfl : x_FL y.1.cls idx c k) (hk : k < x_N c) (hv : ∀ H, x_NR E H M → (0 ≤ a ∧ a.toNat < x_tp M ∧ x_tag M a.toNat = 10 + c) → x_cv E (x_sl (x_FK c k) (x_PF c k a) (M a k)) = x_cw E v ∧ x_okV M v) (hc : c < 12) {t : Nat} (ht : 2 ≤ t) (ho : x_okV M (t, a) → 0 ≤ a ∧ a.toNat < x_tp M ∧ x_tag M a.toNat = 10 + c)
    (kk : x_Ev l E z y (pc + 3) ls (v :: st) M Q) : x_Ev l E z y pc ls ((t, a) :: st) M Q := by
  refine kk.step (fun p e R s m args below meth c' H locs cells slots lr Q' hM hC hN hL hol hos => ?_)
  obtain ⟨oa, os⟩ := x_ok1 hos
  have oa := ho oa
  obtain ⟨q5, hO, hrg⟩ := hN.obj hc oa
  have e : ((a.toNat : Nat) : Int) = a := Int.toNat_of_nonneg oa.1
  have e1 := x_fnO M hc a.toNat k
  rw [e] at e1
  have hv := hv H hN oa
  refine ⟨x_okc hv.2 os, fun kk => ?_⟩
  obtain ⟨t', rfl⟩ : ∃ t', t = t' + 2 := ⟨t - 2, by omega⟩
  simp only [List.map, x_cwR E t' a (by omega)]
  refine x_getf hC.1 hC.2.1 hC.2.2.2.2.2.2.2.1 hC.2.2.2.2.2.2.1 hC.2.2.2.2.2.2.2.2 hc hk hfl hO (x_dec hM hd) (x_Ev.W ?_ kk)
  rw [e1, hv.1]; rfl
theorem i_getI {c k idx : Nat} {a : Int} (n : Nat) (hd : y.2.2.2.2[n]? = some (pc, .getfield idx, 3)) (hfl : x_FL y.1.cls idx c k) (hc : c < 12 ∧ k < x_N c) (hk : x_FK c k = 0 ∨ x_FK c k = 4) (kk : x_Ev l E z y (pc + 3) ls ((0, M a k) :: st) M Q) : x_Ev l E z y pc ls ((10 + c, a) :: st) M Q := by
  refine x_get0 (c := c) n hd hfl (hc.2) (fun H hN ho => ?_) hc.1 (by omega) (fun h => x_okR (by omega) h) kk
  have hrg := (hN.obj hc.1 ho).2.2 k hc.2
  rcases hk with q | q
  · rw [q] at hrg ⊢; exact ⟨rfl, hrg⟩
  · rw [q] at hrg ⊢
    refine ⟨rfl, ?_⟩
    rcases hrg with w | w <;> (rw [w]; exact ⟨by omega, by omega⟩)
theorem i_getL {c k idx : Nat} {a : Int} (n : Nat) (hd : y.2.2.2.2[n]? = some (pc, .getfield idx, 3)) (hfl : x_FL y.1.cls idx c k) (hc : c < 12 ∧ k < x_N c) (hk : x_FK c k = 1) (kk : x_Ev l E z y (pc + 3) ls ((1, M a k) :: st) M Q) : x_Ev l E z y pc ls ((10 + c, a) :: st) M Q := by
  refine x_get0 (c := c) n hd hfl (hc.2) (fun H hN ho => ?_) hc.1 (by omega) (fun h => x_okR (by omega) h) kk
  have hrg := (hN.obj hc.1 ho).2.2 k hc.2
  rw [hk] at hrg ⊢; exact ⟨rfl, hrg⟩
theorem x_ptr {H : Heap} {c k : Nat} {a : Int} (hN : x_NR E H M) (hc : c < 12 ∧ k < x_N c) (hk : x_FK c k = 2) (ho : 0 ≤ a ∧ a.toNat < x_tp M ∧ x_tag M a.toNat = 10 + c) : 0 ≤ x_PF c k a ∧ (x_PF c k a).toNat < x_tp M ∧ x_tag M (x_PF c k a).toNat = x_PT c k := by
  have e : ((a.toNat : Nat) : Int) = a := Int.toNat_of_nonneg ho.1
  have h5 := (hN.obj hc.1 ho).1
  rcases Nat.lt_or_ge a.toNat 593 with q | q
  · have ht := ho.2.2
    rw [x_tag_lt q] at ht
    obtain ⟨w1, w2⟩ := x_clo1 a.toNat q h5 (by omega)
    have w3 := w2 k (by rw [ht, show 10 + c - 10 = c by omega]; exact hc.2) (by rw [ht, show 10 + c - 10 = c by omega]; exact hk)
    rw [ht, show 10 + c - 10 = c by omega, e] at w3
    exact ⟨w3.1, by have := hN.1; omega, by rw [x_tag_lt w3.2.1]; exact w3.2.2⟩
  · rcases hN.2.2.2.2.1 a.toNat q ho.2.1 with w | w | w | w
    · have ec : c = 6 := by have := ho.2.2; omega
      subst ec
      have ek : k = 1 := by
        have h2 : k < 2 := hc.2
        rcases (show k = 0 ∨ k = 1 by omega) with rfl | rfl
        · exact absurd hk (by decide)
        · rfl
      subst ek
      show 0 ≤ a + 1 ∧ (a + 1).toNat < x_tp M ∧ x_tag M (a + 1).toNat = 190
      have e2 : (a + 1).toNat = a.toNat + 1 := by omega
      rw [e2]
      exact ⟨by omega, w.2.1, w.2.2⟩
    · have := ho.2.2; have := hc.1; omega
    · have := ho.2.2; have := hc.1; omega
    · have := ho.2.2; have := hc.1; omega
theorem i_getP {c k idx t : Nat} {a b : Int} (n : Nat) (hd : y.2.2.2.2[n]? = some (pc, .getfield idx, 3)) (hfl : x_FL y.1.cls idx c k) (hc : c < 12 ∧ k < x_N c) (hk : x_FK c k = 2) (ht : x_PT c k = t ∧ 10 ≤ t) (hb : x_PF c k a = b) (kk : x_Ev l E z y (pc + 3) ls ((t, b) :: st) M Q) : x_Ev l E z y pc ls ((10 + c, a) :: st) M Q := by
  refine x_get0 (c := c) n hd hfl (hc.2) (fun H hN ho => ?_) hc.1 (by omega) (fun h => x_okR (by omega) h) kk
  have h := x_ptr hN hc hk ho
  rw [hb, ht.1] at h
  rw [hk, x_cwr ht.2 h.1, hb]
  exact ⟨rfl, x_okR' ht.2 h⟩
theorem i_getR {c k idx : Nat} {a : Int} (n : Nat) (hd : y.2.2.2.2[n]? = some (pc, .getfield idx, 3)) (hfl : x_FL y.1.cls idx c k) (hc : c = 7 ∧ k = 2) (kk : x_Ev l E z y (pc + 3) ls ((9, M a k) :: st) M Q) : x_Ev l E z y pc ls ((10 + c, a) :: st) M Q := by
  obtain ⟨rfl, rfl⟩ := hc
  refine x_get0 (c := 7) n hd hfl (by decide) (fun H hN ho => ⟨?_, ?_⟩) (by decide) (by omega) (fun h => x_okR (by omega) h) kk
  · show x_cv E (if M a 2 < 0 then .null else .ref (M a 2).toNat) = x_cw E (9, M a 2)
    rfl
  · show x_rowok M (M a 2)
    have h5 := (hN.obj (by decide : (7 : Nat) < 12) ho).1
    rcases Nat.lt_or_ge a.toNat 593 with q | q
    · have ht := ho.2.2
      rw [x_tag_lt q] at ht
      have key : ∀ b, b < 593 → 5 ≤ b → x_SHT b = 17 → 90 ≤ b ∧ b < 100 := by decide +kernel
      have w := key a.toNat q h5 ht
      have := hN.2.2.2.2.2.2 (a.toNat - 90) (by omega)
      rw [show (90 : Int) + ((a.toNat - 90 : Nat) : Int) = a by omega] at this
      exact this
    · rcases hN.2.2.2.2.1 a.toNat q ho.2.1 with w | w | w | w <;> (have := ho.2.2; omega)
theorem i_rowI {idx : Nat} {a : Int} (n : Nat) (hd : y.2.2.2.2[n]? = some (pc, .getfield idx, 3)) (hfl : x_FL y.1.cls idx 6 0) (h0 : 0 ≤ a) (kk : x_Ev l E z y (pc + 3) ls ((0, M a 0) :: st) M Q) : x_Ev l E z y pc ls ((9, a) :: st) M Q := by
  refine x_get0 (c := 6) n hd hfl (by decide) (fun H hN ho => ?_) (by decide) (by omega) (fun h => x_row9 h h0) kk
  have hrg := (hN.obj (by decide : (6 : Nat) < 12) ho).2.2 0 (by decide)
  exact ⟨rfl, hrg⟩
theorem i_rowP {idx : Nat} {a : Int} (n : Nat) (hd : y.2.2.2.2[n]? = some (pc, .getfield idx, 3)) (hfl : x_FL y.1.cls idx 6 1) (h0 : 0 ≤ a) (kk : x_Ev l E z y (pc + 3) ls ((190, a + 1) :: st) M Q) : x_Ev l E z y pc ls ((9, a) :: st) M Q := by
  refine x_get0 (c := 6) n hd hfl (by decide) (fun H hN ho => ?_) (by decide) (by omega) (fun h => x_row9 h h0) kk
  have h := x_ptr hN (c := 6) (k := 1) ⟨by decide, by decide⟩ rfl ho
  exact ⟨(x_cwr (by decide) h.1).symm, x_okR' (by decide) h⟩
/-! stores into fields -/
theorem x_put0 {c k idx t : Nat} {a b : Int} {w : Value} (n : Nat) (hd : y.2.2.2.2[n]? = some (pc, .putfield idx, 3)) (hfl : x_FL y.1.cls idx c k) (hc : c < 12 ∧ k < x_N c) (hfin : (x_T c k).2.2.2 = false) (hk : x_FK c k ≠ 2) (hs : x_okV M (t, b) → x_sl (x_FK c k) 0 b = w ∧ x_cw E (t, b) = x_cv E w ∧ (x_FK c k = 3 → x_rowok M b) ∧ x_rg (x_FK c k) b ∧ narrow (x_ty c k) (x_cv E w) = x_cv E w ∧ fits (x_ty c k) (x_cv E w) = true)
    (kk : x_Ev l E z y (pc + 3) ls st (x_wr M a k b) Q) : x_Ev l E z y pc ls ((t, b) :: (10 + c, a) :: st) M Q := by
  intro p e R s m args below meth c' H locs cells slots lr hM hC hf hl hcc hss hN hlo hL hol hos
  obtain ⟨ob, oa, os⟩ := x_ok2 hos
  have oa := x_okR (by omega) oa
  obtain ⟨s1, s2, s3, s4, s5, s6⟩ := hs ob
  obtain ⟨q5, hO, hrg⟩ := hN.obj hc.1 oa
  have ea : ((a.toNat : Nat) : Int) = a := Int.toNat_of_nonneg oa.1
  have ec : 10 + c - 10 = c := by omega
  have hl100 : 10 + c < 100 := by omega
  simp only [List.map, s2, x_cwr (show 10 ≤ 10 + c by omega) oa.1]
  refine x_putf hC.1 hC.2.1 hC.2.2.2.2.2.2.2.1 hC.2.2.2.2.2.2.1 hC.2.2.2.2.2.2.2.2 hc.1 hc.2 hfl hfin hO s5 s6 (x_dec hM hd) fun H1 lo hb1 hO1 hz ho1 => ?_
  have hknd : x_knd (10 + c) k = x_FK c k := by unfold x_knd; rw [if_pos hl100, ec]
  have hN1 : x_NR E H1 (x_wr M a k b) := by
    have := hN.set (a := a.toNat) (k := k) (v := b) (H1 := H1) q5 oa.2.1 (by rw [oa.2.2]; unfold x_len; rw [if_pos hl100, ec]; exact hc.2) (by rw [oa.2.2, hknd]; exact hk) (by rw [oa.2.2, hknd]; exact s3) (by rw [oa.2.2, hknd]; exact s4) hz ho1 (by
      rw [oa.2.2, if_pos hl100, ec]
      refine t_OB.to hO1 fun j hj => ?_
      congr 1
      unfold updV
      rw [x_fnO _ hc.1, x_fnO _ hc.1]
      by_cases ej : j = k
      · subst ej
        rw [if_pos rfl, x_wr_eq, ← s1]
        unfold x_sl
        split <;> first | rfl | exact absurd ‹_› hk
      · rw [if_neg ej, x_wr_ne M b (by omega)])
    rw [ea] at this
    exact this
  have hok := fun v => (x_okV_wr (M := M) (a := a) k b oa.1 v)
  exact x_Wwr (x_ext.wr M k b oa.1) (kk p e R s m args below meth c' H1 _ cells slots lr hM hC hf hl hcc hss hN1 (fun q hq => by
    rcases List.mem_append.mp hq with h | h
    · exact hlo q h
    · rw [List.mem_singleton.mp h, hb1, x_adr_own q5]; omega) hL (fun v hv => (hok v).mpr (hol v hv)) (fun v hv => (hok v).mpr (os v hv)))
theorem i_putI {c k idx : Nat} {a b : Int} (n : Nat) (hd : y.2.2.2.2[n]? = some (pc, .putfield idx, 3)) (hfl : x_FL y.1.cls idx c k) (hc : c < 12 ∧ k < x_N c) (hk : x_FK c k = 0 ∧ (x_T c k).2.2.2 = false ∧ x_ty c k = .int) (kk : x_Ev l E z y (pc + 3) ls st (x_wr M a k b) Q) : x_Ev l E z y pc ls ((0, b) :: (10 + c, a) :: st) M Q :=
  x_put0 (w := .int (Int32.ofInt b)) n hd hfl hc hk.2.1 (by rw [hk.1]; decide) (fun ho => ⟨by rw [hk.1]; rfl, rfl, fun h => (by rw [hk.1] at h; cases h), by rw [hk.1]; exact ho, by rw [hk.2.2]; rfl, by rw [hk.2.2]; rfl⟩) kk
theorem i_putZ {c k idx : Nat} {a b : Int} (n : Nat) (hd : y.2.2.2.2[n]? = some (pc, .putfield idx, 3)) (hfl : x_FL y.1.cls idx c k) (hc : c < 12 ∧ k < x_N c) (hk : x_FK c k = 4 ∧ (x_T c k).2.2.2 = false ∧ x_ty c k = .boolean) (hb : b = 0 ∨ b = 1) (kk : x_Ev l E z y (pc + 3) ls st (x_wr M a k b) Q) : x_Ev l E z y pc ls ((0, b) :: (10 + c, a) :: st) M Q :=
  x_put0 (w := .int (Int32.ofInt b)) n hd hfl hc hk.2.1 (by rw [hk.1]; decide) (fun ho => ⟨by rw [hk.1]; rfl, rfl, fun h => (by rw [hk.1] at h; cases h), by rw [hk.1]; exact hb, by rw [hk.2.2]; exact x_nz hb, by rw [hk.2.2]; rcases hb with rfl | rfl <;> rfl⟩) kk
theorem i_putL {c k idx : Nat} {a b : Int} (n : Nat) (hd : y.2.2.2.2[n]? = some (pc, .putfield idx, 3)) (hfl : x_FL y.1.cls idx c k) (hc : c < 12 ∧ k < x_N c) (hk : x_FK c k = 1 ∧ (x_T c k).2.2.2 = false ∧ x_ty c k = .long) (kk : x_Ev l E z y (pc + 3) ls st (x_wr M a k b) Q) : x_Ev l E z y pc ls ((1, b) :: (10 + c, a) :: st) M Q :=
  x_put0 (w := .long (Int64.ofInt b)) n hd hfl hc hk.2.1 (by rw [hk.1]; decide) (fun ho => ⟨by rw [hk.1]; rfl, rfl, fun h => (by rw [hk.1] at h; cases h), by rw [hk.1]; exact ho, by rw [hk.2.2]; rfl, by rw [hk.2.2]; rfl⟩) kk
theorem x_sl3 (E : xE) (b : Int) (t : Nat) : x_cw E (t + 2, b) = x_cv E (x_sl 3 0 b) := rfl
theorem x_sl3d (b : Int) : x_sl 3 0 b = .null ∨ ∃ r, x_sl 3 0 b = .ref r := by
  by_cases q : b < 0
  · exact Or.inl (if_pos q)
  · exact Or.inr ⟨b.toNat, if_neg q⟩
theorem i_putR {idx t : Nat} {a b : Int} (n : Nat) (hd : y.2.2.2.2[n]? = some (pc, .putfield idx, 3)) (hfl : x_FL y.1.cls idx 7 2) (ht : t = 9 ∨ t = 2) (kk : x_Ev l E z y (pc + 3) ls st (x_wr M a 2 b) Q) : x_Ev l E z y pc ls ((t, b) :: (17, a) :: st) M Q :=
  x_put0 (c := 7) (k := 2) (w := x_sl 3 0 b) n hd hfl ⟨by decide, by decide⟩ rfl (by decide) (fun ho => ⟨rfl, by rcases ht with rfl | rfl <;> rfl, fun _ => by
    rcases ht with rfl | rfl
    · exact ho
    · exact Or.inl ho, trivial, by
    rcases x_sl3d b with q | ⟨r, q⟩ <;> (rw [q]; rfl), by
    rcases x_sl3d b with q | ⟨r, q⟩ <;> (rw [q]; rfl)⟩) kk
end XF
