/-! stores into the array of rows -/
section XR2
variable {l : Launch} {E : xE} {z : Nat × Nat × Nat} {y : xMT} {pc : Nat} {ls st : List xV} {M : xM} {Q : Option xV → xM → Prop} {sort n : Int}
theorem i_aastR {t : Nat} {i a b : Int} (k0 : Nat) (hd : y.2.2.2.2[k0]? = some (pc, .aastore, 1)) (ht : t = 9 ∨ t = 2) (h0 : 0 ≤ i) (h1 : i < 4) (kk : x_Ev l E z y (pc + 1) ls st (x_wr M a i b) Q) : x_Ev l E z y pc ls ((t, b) :: (0, i) :: (115, a) :: st) M Q := by
  intro p e R s m args below meth c H locs cells slots lr hM hC hf hl hc hs hN hlo hL hol hos
  obtain ⟨ob, oi, oa, os⟩ := x_ok3 hos
  have orow : x_rowok M b := by
    rcases ht with rfl | rfl
    · exact ob
    · exact Or.inl ob
  obtain ⟨w1, w2, w3, w4, w5, w6, w7, w8⟩ := x_arrI (τ := 15) (len := 4) hN (Or.inl (by omega)) rfl oi oa h0 h1
  have w3' : H[x_adr E a.toNat]? = some (arrV (E.2.2.2.2 4) 4 (fun j => x_cv E (x_fn M 115 a.toNat j))) := w3
  have oa' := x_okR (by omega) oa
  have ea : ((a.toNat : Nat) : Int) = a := Int.toNat_of_nonneg w1
  have ei : ((i.toNat : Nat) : Int) = i := Int.toNat_of_nonneg h0
  have hK := hC.2.2.2.2.2.2.2.2
  have ev : x_cw E (t, b) = x_cv E (x_sl 3 0 b) := by
    rcases ht with rfl | rfl
    · rfl
    · rfl
  have fin : ∀ (H1 : Heap), H1[x_adr E a.toNat]? = some ((arrV (E.2.2.2.2 4) 4 (fun j => x_cv E (x_fn M 115 a.toNat j))).setSlot (Int32.ofInt i).toNatClampNeg (x_cv E (x_sl 3 0 b))) → H1.size = H.size → (∀ q, q ≠ x_adr E a.toNat → H1[q]? = H[q]?) → W p l e R s m args below meth c H1 (locs ++ [⟨x_adr E a.toNat, (Int32.ofInt i).toNatClampNeg⟩]) cells slots (MQ below (x_QQ E M Q) args s (cells + z.2.1) (slots + z.2.2) (fun q => E.1 ≤ q)) (F0 m (pc + 1) lr (st.map (x_cw E))) := by
    intro H1 e1 z1 o1
    have hN1 : x_NR E H1 (x_wr M a i b) := by
      have := hN.set (a := a.toNat) (k := i.toNat) (v := b) (H1 := H1) w2 oa'.2.1 (by rw [oa'.2.2]; show i.toNat < 4; omega) (by rw [oa'.2.2]; show (3 : Nat) ≠ 2; decide) (fun _ => orow) (by rw [oa'.2.2]; trivial) z1 o1 (by
        rw [oa'.2.2, if_neg (by omega)]
        show H1[x_adr E a.toNat]? = some (arrV (E.2.2.2.2 4) 4 (fun j => x_cv E (x_fn (x_wr M a.toNat i.toNat b) 115 a.toNat j)))
        rw [e1, arrV_store]
        congr 2
        funext j
        unfold updV
        rw [w6]
        have hj := x_fnA (x_wr M a.toNat i.toNat b) (t := 115) (by omega) a.toNat j
        by_cases ej : j = i.toNat
        · rw [if_pos ej, hj, ej, x_wr_eq]; rfl
        · rw [if_neg ej, hj, x_wr_ne M b (by omega)]
          show x_cv E (x_fn M 115 a.toNat j) = _
          rw [x_fnA M (t := 115) (by omega) a.toNat j])
      rw [ea, ei] at this
      exact this
    have hok := fun v => (x_okV_wr (M := M) (a := a) i b w1 v)
    exact x_Wwr (x_ext.wr M i b w1) (kk p e R s m args below meth c H1 _ cells slots lr hM hC hf hl hc hs hN1 (fun q hq => by
      rcases List.mem_append.mp hq with h | h
      · exact hlo q h
      · rw [List.mem_singleton.mp h]
        show E.1 ≤ x_adr E a.toNat
        rw [x_adr_own w2]; omega) hL (fun v hv => (hok v).mpr (hol v hv)) (fun v hv => (hok v).mpr (os v hv)))
  simp only [List.map, x_cw0, ev, x_cwr (show 10 ≤ 115 by omega) w1]
  by_cases hb : b < 0
  · have en : x_cv E (x_sl 3 0 b) = .null := by
      show x_cv E (if b < 0 then .null else .ref b.toNat) = _
      rw [if_pos hb]; rfl
    rw [en] at fin ⊢
    exact va_WaastN (C := "LeaderTerms$Row") hC.1 hC.2.1 w3' ((hK.2.1 4 _ rfl).1 4 _) (fun h => by cases h) (by rw [arrV_size, w6]; intro q; rcases q with q | q; exact w5 q; omega) rfl rfl (x_dec hM hd) fun H1 e1 z1 o1 => fin H1 e1 z1 o1
  · have en : x_cv E (x_sl 3 0 b) = .ref (x_adr E b.toNat) := by
      show x_cv E (if b < 0 then .null else .ref b.toNat) = _
      rw [if_neg hb]; rfl
    rw [en] at fin ⊢
    have o9 : 0 ≤ b ∧ b.toNat < x_tp M ∧ x_tag M b.toNat = 10 + 6 := x_row9 (M := M) orow (by omega)
    obtain ⟨-, ⟨cellV, g1, g2, g3, -⟩, -⟩ := hN.obj (c := 6) (by decide) o9
    have hcls := (hK.1.1 6 _ (x_KL_at 6 (by decide))).2
    obtain ⟨kA, comp, k1, k2, k3, -⟩ := (hK.2.1 4 _ rfl).2 (by omega)
    have hcomp : comp = E.2.2.1 6 := Option.some.inj (k3.symm.trans hcls.1)
    subst hcomp
    have hcls' := hcls
    obtain ⟨-, kC, hkC, -⟩ := hcls'
    exact W.aast hC.1 hC.2.1 w3' (fun q h => by cases h) (fun h => by cases h) k1 k2 rfl hkC ⟨w5, by rw [arrV_size, w6]; omega⟩ g1 (fun q h => by rw [g3] at h; cases h) (by rw [g2]; exact hkC) (by rw [g2]; exact va_assign hcls) rfl rfl (x_dec hM hd) fun H1 e1 z1 o1 => fin H1 e1 z1 o1
end XR2
