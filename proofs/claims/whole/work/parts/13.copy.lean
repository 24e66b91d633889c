/-! System.arraycopy -/
def x_cpy (M : xM) (src sp dst dp n : Int) : xM := fun a k => if a = dst ∧ dp ≤ k ∧ k < dp + n then M src (sp + (k - dp)) else M a k
section XCP
variable {l : Launch} {E : xE} {z : Nat × Nat × Nat} {y : xMT} {pc : Nat} {ls st : List xV} {M : xM} {Q : Option xV → xM → Prop}
theorem x_NR.blk {H H1 : Heap} {M1 : xM} (h : x_NR E H M) {a : Nat} (ha : 5 ≤ a) (hat : a < x_tp M) (ht : ¬ x_tag M a < 100) (hek : (x_AT (x_tag M a - 100)).1 = 0 ∨ (x_AT (x_tag M a - 100)).1 = 1) (hM1 : ∀ (b k : Int), b ≠ a → M1 b k = M b k) (hrg : ∀ k : Nat, k < x_len M (x_tag M a) a → x_rg (x_AT (x_tag M a - 100)).1 (M1 a k))
    (hz : H1.size = H.size) (ho : ∀ q, q ≠ x_adr E a → H1[q]? = H[q]?) (hc : x_CLa E (x_gt (x_tag M a)) a (x_len M (x_tag M a) a) (x_fn M1 (x_tag M a) a) H1) : x_NR E H1 M1 := by
  obtain ⟨h1, h2, h3, h4, h5, h6⟩ := h
  have etp : x_tp M1 = x_tp M := by unfold x_tp; rw [hM1 _ _ (by omega)]
  have etg : ∀ b, x_tag M1 b = x_tag M b := fun b => by unfold x_tag; rw [hM1 _ _ (by omega)]
  have erow : ∀ x, x_rowok M1 x ↔ x_rowok M x := fun x => by unfold x_rowok; rw [etp, etg]
  have eln : ∀ b : Nat, 5 ≤ b → b < x_tp M → x_len M1 (x_tag M b) b = x_len M (x_tag M b) b := by
    intro b hb5 hb
    unfold x_len x_ln
    split
    · rfl
    · split
      · rename_i q1 q2
        by_cases e : ((b : Int) - 1 = a)
        · exfalso
          have hb9 : 593 ≤ b := by
            rcases Nat.lt_or_ge b 593 with z | z
            · have := (x_clo2 b z hb5 (by rw [x_tag_lt z] at q1; exact q1)).1
              rw [x_tag_lt z] at q2; omega
            · exact z
          rcases h5 b hb9 hb with z | z | z | z
          · omega
          · have e1 : a = b - 1 := by omega
            rw [e1, z.2.2] at ht
            omega
          · omega
          · omega
        · rw [hM1 _ _ e]
      · rfl
  refine ⟨by rw [etp]; exact h1, by rw [etp, hz]; exact h2, ?_, fun b hb5 hb => ?_, fun b hb9 hb => ?_, ?_⟩
  · refine x_SP.kept h3 fun q hq => ho q ?_
    rw [x_adr_own ha]; omega
  · rw [etp] at hb
    by_cases e : b = a
    · subst e
      unfold x_cell
      rw [etg, eln b hb5 hb, if_neg ht]
      refine ⟨hc, fun j hj => ?_⟩
      have := hrg j hj
      unfold x_knd
      rw [if_neg ht]
      exact this
    · exact (h4 b hb5 hb).kept (ho _ fun q => e (x_adr_inj hb5 ha q)) (etg b) (eln b hb5 hb) fun j => hM1 _ _ (by omega)
  · rw [etp] at hb
    rw [etp, etg, etg, etg]
    exact h5 b hb9 hb
  · refine ⟨fun i hi => ?_, fun i hi => ?_⟩
    · rw [erow, hM1 _ _ ?_]
      · exact h6.1 i hi
      · intro e
        have e1 : a = 88 := by omega
        rw [e1, x_tag_lt (by omega), x_clo4.1] at hek
        exact absurd hek (by decide)
    · rw [erow, hM1 _ _ ?_]
      · exact h6.2 i hi
      · intro e
        have e1 : a = 90 + i := by omega
        rw [e1, x_tag_lt (by omega), x_clo4.2 (90 + i) (by omega) (by omega) (by omega)] at ht
        omega
theorem x_copyW {p : Program} {e : Env} {R : Room} {s : State} {m : MethodId} {args : Array Value} {below : List Frame} {meth : Method} {c : Code} {H : Heap} {locs : List Loc} {cells slots : Nat} {Q : State → Prop} {cc : ByteArray} {pc : Nat} {lr : Array Slot} {rest : List Value}
    (hexec : p.tables.exec = Jvm.exec) (hb : c.code = cc) (hml : c.maxLocals = lr.size) {own : String} {index : Nat} (hown : s.vm.findClass own = some m.cls) (hlink : (Cond.methodLink own index arraycopyName).before args s = true) (hnat : (Cond.native arraycopyName).before args s = true) (hstat : (Cond.static arraycopyName).before args s = true) (hini : (Cond.initialized "java/lang/System").before args s = true)
    {t0 t1 a0 a n0 n1 : Nat} {f g : Nat → Value} {ty : FieldType} (ha0 : x_CLa E t0 a0 n0 f H) (ha1 : x_CLa E t1 a n1 g H) (ht0 : ArrOfT s (E.2.2.2.2 t0) ty) (ht1 : ArrOfT s (E.2.2.2.2 t1) ty) (hprim : refKind ty = false)
    {sp dp n : Int32} (h1 : ¬ sp < 0) (h2 : ¬ dp < 0) (h3 : ¬ n < 0) (h4 : sp.toNatClampNeg + n.toNatClampNeg ≤ n0) (h5 : dp.toNatClampNeg + n.toNatClampNeg ≤ n1) (hfit : ∀ i, i < n.toNatClampNeg → fits ty (x_cv E (f (sp.toNatClampNeg + i))) = true ∧ ((∃ q, x_cv E (f (sp.toNatClampNeg + i)) = .int q) ∨ ∃ q, x_cv E (f (sp.toNatClampNeg + i)) = .long q))
    (hframes : 1 ≤ R.frames) (hlocals : (rest.map fun v => v.category).sum + (nativeFrameWords "java/lang/System" "arraycopy" 5 + 11) ≤ R.locals) (hdg : decode cc pc = .ok (.invokestatic index, 3))
    (kk : ∀ (H1 : Heap) (L : List Loc), (∀ q ∈ L, q.base = x_adr E a) → x_CLa E t1 a n1 (va_cpy f g sp.toNatClampNeg dp.toNatClampNeg n.toNatClampNeg) H1 → H1.size = H.size → (∀ q, q ≠ x_adr E a → H1[q]? = H[q]?) → W p l e R s m args below meth c H1 (locs ++ L) cells slots Q (F0 m (pc + 3) lr rest)) : W p l e R s m args below meth c H locs cells slots Q (F0 m pc lr (.int n :: .int dp :: .ref (x_adr E a) :: .int sp :: .ref (x_adr E a0) :: rest)) := by
  have nn : ∀ z : Int32, ¬ z < 0 → z.toInt = (z.toNatClampNeg : Int) := by
    intro z hz
    have hz0 : (0 : Int) ≤ z.toInt := by
      have := Int32.not_lt.mp hz
      simpa using Int32.le_iff_toInt_le.mp this
    show z.toInt = ((z.toInt.toNat : Nat) : Int)
    omega
  intro T hT X
  have hc0 : H[x_adr E a0]? = some (arrV (E.2.2.2.2 t0) n0 (fun j => x_cv E (f j))) := ha0
  have hc1 : H[x_adr E a]? = some (arrV (E.2.2.2.2 t1) n1 (fun j => x_cv E (g j))) := ha1
  obtain ⟨-, k0, hk0, cm0, hkk0⟩ := ht0 n0 (fun j => x_cv E (f j))
  obtain ⟨-, k1, hk1, cm1, hkk1⟩ := ht1 n1 (fun j => x_cv E (g j))
  obtain ⟨vm', X', step⟩ := X.arraycopy hexec hown hlink hnat hstat hini (src := x_adr E a0) (dst := x_adr E a) (cs := arrV (E.2.2.2.2 t0) n0 (fun j => x_cv E (f j))) (cd := arrV (E.2.2.2.2 t1) n1 (fun j => x_cv E (g j))) (srcPos := sp) (destPos := dp) (n := n) (by rw [hT]; exact hc0) (by rw [hT]; exact hc1)
    (fun _ h => by cases h) (fun _ h => by cases h) (fun h => by cases h) (fun h => by cases h) hk0 hk1 hkk0 hkk1 (by simp [hprim]) h1 h2 h3
    (by rw [nn sp h1, nn n h3, arrV_size]; omega)
    (by rw [nn dp h2, nn n h3, arrV_size]; omega)
    (fun vm₁ _ i hi => by
      have e : (arrV (E.2.2.2.2 t0) n0 (fun j => x_cv E (f j))).slots.getD (sp.toNatClampNeg + i) .null = x_cv E (f (sp.toNatClampNeg + i)) := by
        rw [Array.getD_eq_getD_getElem?, arrV_read _ _ (by omega)]
        rfl
      refine ⟨?_, ?_⟩
      · rw [e]
        exact (hfit i hi).1
      · rw [e]
        rcases (hfit i hi).2 with ⟨q, hq⟩ | ⟨q, hq⟩
        · rw [hq]; exact trivial
        · rw [hq]; exact trivial)
    (g := F0 m pc lr (.int n :: .int dp :: .ref (x_adr E a) :: .int sp :: .ref (x_adr E a0) :: rest)) rfl (by rw [hml]) (rest := rest) rfl (by rw [hb]; exact hdg) hframes (by show 2 * 0 + _ + _ ≤ _; omega)
  have e1 : copied (arrV (E.2.2.2.2 t0) n0 (fun j => x_cv E (f j))) (arrV (E.2.2.2.2 t1) n1 (fun j => x_cv E (g j))) sp dp n = arrV (E.2.2.2.2 t1) n1 (fun j => x_cv E (va_cpy f g sp.toNatClampNeg dp.toNatClampNeg n.toNatClampNeg j)) := va_copied (fun z => x_cv E z) (E.2.2.2.2 t0) (E.2.2.2.2 t1) f g h4
  rw [e1] at X' step
  have hl : x_adr E a < H.size := (Array.getElem?_eq_some_iff.mp hc1).1
  have hheap : ((T.setVm vm').setCell (x_adr E a) (arrV (E.2.2.2.2 t1) n1 (fun j => x_cv E (va_cpy f g sp.toNatClampNeg dp.toNatClampNeg n.toNatClampNeg j)))).heap = H.setIfInBounds (x_adr E a) (arrV (E.2.2.2.2 t1) n1 (fun j => x_cv E (va_cpy f g sp.toNatClampNeg dp.toNatClampNeg n.toNatClampNeg j))) := by rw [← hT]; rfl
  obtain ⟨t, b1, b2⟩ := kk _ _ (fun q hq => by
      obtain ⟨z, -, hz⟩ := List.mem_map.mp hq
      rw [← hz]) (show (H.setIfInBounds (x_adr E a) _)[x_adr E a]? = some _ by simp [Array.getElem?_setIfInBounds, hl]) (by simp) (fun q hq => by simp [Array.getElem?_setIfInBounds, Ne.symm hq]) _ hheap X'
  exact ⟨t, step t b1, b2⟩
theorem x_idx0 {i : Int} (h : 0 ≤ i) (h2 : x_rg 0 i) : ¬ Int32.ofInt i < 0 ∧ (Int32.ofInt i).toNatClampNeg = i.toNat := x_idx h h2.2
theorem i_copy {idx t0 t1 : Nat} {a0 a1 sp dp k : Int} (n : Nat) (hd : y.2.2.2.2[n]? = some (pc, .invokestatic idx, 3)) (hml : Cond.methodLink y.1.cls idx arraycopyName ∈ x_tb) (hw : Cond.native arraycopyName ∈ x_tb ∧ Cond.static arraycopyName ∈ x_tb ∧ Cond.initialized "java/lang/System" ∈ x_tb)
    (hA : (100 ≤ t0 ∧ ¬ (180 ≤ t0 ∧ t0 < 185)) ∧ (100 ≤ t1 ∧ ¬ (180 ≤ t1 ∧ t1 < 185)) ∧ (((x_AT (t0 - 100)).1 = 0 ∧ (x_AT (t1 - 100)).1 = 0 ∧ x_gt t0 = 0 ∧ x_gt t1 = 0) ∨ ((x_AT (t0 - 100)).1 = 1 ∧ (x_AT (t1 - 100)).1 = 1 ∧ x_gt t0 = 1 ∧ x_gt t1 = 1)))
    (h1 : 0 ≤ sp) (h2 : 0 ≤ dp) (h3 : 0 ≤ k) (h4 : sp + k ≤ x_ln M t0 a0) (h5 : dp + k ≤ x_ln M t1 a1) (h8 : (st.map (fun v => if v.1 = 1 then 2 else 1)).sum ≤ 8) (hz : 1 ≤ z.1)
    (kk : x_Ev l E z y (pc + 3) ls st (x_cpy M a0 sp a1 dp k) Q) : x_Ev l E z y pc ls ((0, k) :: (0, dp) :: (t1, a1) :: (0, sp) :: (t0, a0) :: st) M Q := by
  intro p e R s m args below meth c H locs cells slots lr hM hC hf hl hcc hss hN hlo hL hol hos
  obtain ⟨ok, odp, oa1, os1⟩ := x_ok3 hos
  obtain ⟨osp, oa0, os⟩ := x_ok2 os1
  have oa1 := x_okR (by omega) oa1
  have oa0 := x_okR (by omega) oa0
  have hK := hC.2.2.2.2.2.2.2.2
  have hts := hC.2.2.2.2.2.2.2.1
  obtain ⟨u1, u2, u3⟩ := hN.arr (t := t0) (by omega) hA.1.2 oa0
  obtain ⟨v1, v2, v3⟩ := hN.arr (t := t1) (by omega) hA.2.1.2 oa1
  have ea0 : ((a0.toNat : Nat) : Int) = a0 := Int.toNat_of_nonneg oa0.1
  have ea1 : ((a1.toNat : Nat) : Int) = a1 := Int.toNat_of_nonneg oa1.1
  have wsp := x_idx0 h1 osp
  have wdp := x_idx0 h2 odp
  have wk := x_idx0 h3 ok
  have hlt0 : ¬ t0 < 100 := by omega
  have hlt1 : ¬ t1 < 100 := by omega
  -- the element kinds
  have key : ∃ (ty : FieldType) (ek : Nat), (x_AT (t0 - 100)).1 = ek ∧ (x_AT (t1 - 100)).1 = ek ∧ (ek = 0 ∨ ek = 1) ∧ ArrOfT s (E.2.2.2.2 (x_gt t0)) ty ∧ ArrOfT s (E.2.2.2.2 (x_gt t1)) ty ∧ refKind ty = false ∧ ∀ (b x : Int), fits ty (x_cv E (x_sl ek b x)) = true ∧ ((∃ q, x_cv E (x_sl ek b x) = .int q) ∨ ∃ q, x_cv E (x_sl ek b x) = .long q) := by
    rcases hA.2.2 with ⟨q1, q2, q3, q4⟩ | ⟨q1, q2, q3, q4⟩
    · exact ⟨.int, 0, q1, q2, Or.inl rfl, by rw [q3]; exact (hK.2.1 0 _ rfl).1, by rw [q4]; exact (hK.2.1 0 _ rfl).1, rfl, fun b x => ⟨rfl, Or.inl ⟨_, rfl⟩⟩⟩
    · exact ⟨.long, 1, q1, q2, Or.inr rfl, by rw [q3]; exact (hK.2.1 1 _ rfl).1, by rw [q4]; exact (hK.2.1 1 _ rfl).1, rfl, fun b x => ⟨rfl, Or.inr ⟨_, rfl⟩⟩⟩
  obtain ⟨ty, ek, k1, k2, k3, k4, k5, k6, k7⟩ := key
  simp only [List.map, x_cw0, x_cwr (show 10 ≤ t1 by omega) oa1.1, x_cwr (show 10 ≤ t0 by omega) oa0.1]
  have hR : 60 * z.1 ≤ R.locals := hl
  refine x_copyW hC.1 hC.2.1 (by rw [hC.2.2.1, hL.1]) hC.2.2.2.2.2.2.1 (hts _ hml) (hts _ hw.1) (hts _ hw.2.1) (hts _ hw.2.2) u2 v2 k4 k5 k6 wsp.1 wdp.1 wk.1 (by rw [wsp.2, wk.2]; omega) (by rw [wdp.2, wk.2]; omega) (fun i hi => by rw [x_fnA M hlt0, k1]; exact k7 _ _) (by omega) ?_ (x_dec hM hd) fun H1 L hL1 hO1 hz1 ho1 => ?_
  · have := x_room8 (E := E) (m := m) (pc := pc) (lr := lr) (rs := []) h8
    have e2 : nativeFrameWords "java/lang/System" "arraycopy" 5 ≤ 30 := by decide +kernel
    have e3 : 2 * (F0 m pc lr []).monitorRoom = 0 := rfl
    omega
  · have hln : x_len M t1 a1.toNat = (x_ln M t1 a1).toNat := by unfold x_len; rw [if_neg hlt1, ea1]
    have hM1 : ∀ (b k' : Int), b ≠ a1 → x_cpy M a0 sp a1 dp k b k' = M b k' := fun b k' hb => by unfold x_cpy; rw [if_neg (fun q => hb q.1)]
    have hN1 : x_NR E H1 (x_cpy M a0 sp a1 dp k) := by
      refine x_NR.blk (a := a1.toNat) hN v1 oa1.2.1 (by rw [oa1.2.2]; exact hlt1) (by rw [oa1.2.2, k2]; exact k3) (fun b k' hb => hM1 b k' (by rw [ea1] at hb; exact hb)) (fun j hj => ?_) hz1 ho1 ?_
      · rw [oa1.2.2, hln] at hj
        rw [oa1.2.2, ea1, k2]
        unfold x_cpy
        split
        · rename_i q
          have := u3 (sp + (j - dp)).toNat (by omega)
          rw [k1, Int.toNat_of_nonneg (by omega)] at this
          exact this
        · have := v3 j hj
          rw [k2] at this
          exact this
      · rw [oa1.2.2, hln]
        have e4 : x_fn (x_cpy M a0 sp a1 dp k) t1 a1.toNat = va_cpy (x_fn M t0 a0.toNat) (x_fn M t1 a1.toNat) (Int32.ofInt sp).toNatClampNeg (Int32.ofInt dp).toNatClampNeg (Int32.ofInt k).toNatClampNeg := by
          funext j
          unfold va_cpy
          rw [wsp.2, wdp.2, wk.2, x_fnA _ hlt1, k2, ea1]
          by_cases q : dp.toNat ≤ j ∧ j < dp.toNat + k.toNat
          · rw [if_pos q, x_fnA _ hlt0, k1]
            have : x_cpy M a0 sp a1 dp k a1 j = M a0 ((sp.toNat + (j - dp.toNat) : Nat) : Int) := by
              unfold x_cpy
              rw [if_pos (by omega)]
              congr 1
              omega
            rw [this, ea0]
            rcases k3 with rfl | rfl <;> rfl
          · rw [if_neg q, x_fnA _ hlt1, k2, ea1]
            have : x_cpy M a0 sp a1 dp k a1 j = M a1 j := by
              unfold x_cpy
              rw [if_neg (by omega)]
            rw [this]
        rw [e4]
        exact hO1
    have hx : x_ext M (x_cpy M a0 sp a1 dp k) := by
      refine ⟨?_, fun b _ => ?_⟩
      · unfold x_tp; rw [hM1 _ _ (by omega)]; exact Nat.le_refl _
      · unfold x_tag; rw [hM1 _ _ (by omega)]
    exact x_Wwr hx (kk p e R s m args below meth c H1 _ cells slots lr hM hC hf hl hcc hss hN1 (fun q hq => by
      rcases List.mem_append.mp hq with h | h
      · exact hlo q h
      · rw [hL1 q h, x_adr_own v1]; omega) hL (fun v hv => hx.ok (hol v hv)) (fun v hv => hx.ok (os v hv)))
end XCP
