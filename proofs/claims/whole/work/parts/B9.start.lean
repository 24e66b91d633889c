/-! What holds at the law's entry, in the words of the memory -/
theorem st_enc (x : Int32) : Int32.ofNat (x.toInt % 4294967296).toNat = x := by
  rw [← Int32.ofInt_eq_ofNat]
  apply Int32.toInt_inj.mp
  rw [x_toI]
  obtain ⟨h1, h2⟩ := x_rgI x
  unfold x_w
  omega
theorem st_arr {s : State} {cA : ClassId} {k : Class} {comp : ClassId} {ty : FieldType} (hk : s.vm.classes[cA]? = some k) (hkind : k.kind = .array comp ty) : ArrOfT s cA ty := fun n z => ⟨(fun k h => (by cases h)), k, hk, comp, hkind⟩
theorem st_arc {s : State} {cell : Cell} {ty : FieldType} (h : s.isArrayOf cell ty) : ArrOfT s cell.cls ty := by
  obtain ⟨-, k, hk, comp, hkind⟩ := h
  exact st_arr hk hkind
theorem st_len {args : Array Value} {s : State} {tm : Term} {t : Nat} {cell : Cell} {v : Value} (ht : tm.eval args s none [] s = some (.ref t)) (hat : s.arrayAt? t = some cell) (h : (Term.length tm).eval args s none [] s = some v) : cell.slots.size < 2147483648 := by
  rcases Nat.lt_or_ge cell.slots.size 2147483648 with q | q
  · exact q
  · exfalso
    have hn : ¬ cell.slots.size < 2147483648 := by omega
    simp [Term.eval, ht, hat, hn] at h
theorem st_one {args : Array Value} {s : State} {nm : String} {N : Nat} {f : Nat → Int32} (hN : N < 2147483648) (hl : (Cond.laysStatic "LeaderTerms" nm "[I").before args s = true) (hini : (Cond.initialized "LeaderTerms").before args s = true) (harr : (Cond.arrayOf (.static "LeaderTerms" nm "[I") .int).before args s = true) (hlen : (Cond.eq (.length (.static "LeaderTerms" nm "[I")) (.int (Int32.ofNat N))).before args s = true) (hel : ∀ j : Nat, j < N → (Cond.eq (.elem (.static "LeaderTerms" nm "[I") (.int (Int32.ofNat j))) (.int (f j))).before args s = true) :
    ∃ (t a sl : Nat) (cell : Cell), (∃ (cf : ClassId) (kf : Class) (fi : Nat) (fd : Field), s.fieldFound? "LeaderTerms" nm "[I" = some (cf, kf, fi, fd) ∧ fd.isStatic = true ∧ kf.init = .initialized ∧ kf.statics = some a ∧ fd.slot = sl) ∧ (a < s.heap.size ∧ ∃ sc : Cell, s.heap[a]? = some sc ∧ sc.vm.isStatics = true ∧ sc.slots[sl]? = some (.ref t)) ∧ t < s.heap.size ∧ s.heap[t]? = some cell ∧ s.isArrayOf cell .int ∧ cell.vm ≠ .unknown ∧ cell.slots.size = N ∧ ∀ j : Nat, j < N → cell.slots[j]? = some (.int (f j)) := by
  have hlen2 := va_eqt hlen
  obtain ⟨t, ht, cell, h1, h2, h3, h4, h5, h6, -⟩ := va_Tof (A := fun _ => False) (N := N) (f := fun j => .int (f j)) hN harr hlen2 (fun j hj => va_eqt (hel j hj)) (fun _ _ q => q)
  obtain ⟨t2, cell2, ht2, hat, hv⟩ := Term.length_spec hlen2
  have et : t2 = t := Value.ref.inj (Option.some.inj (ht2.symm.trans ht))
  rw [et] at hat
  have hc2 := (State.arrayAt?_spec hat).1
  have ec : cell2 = cell := Option.some.inj (hc2.symm.trans h1)
  rw [ec] at hat
  have hsz : cell.slots.size < 2147483648 := st_len ht hat hlen2
  have hN2 : cell.slots.size = N := by
    have e1 := congrArg Int32.toNatClampNeg (show Int32.ofNat cell.slots.size = Int32.ofNat N from h5)
    rw [Int32.toNatClampNeg_ofNat_of_lt hsz, Int32.toNatClampNeg_ofNat_of_lt hN] at e1
    exact e1
  obtain ⟨cf, kf, fi, fd, a, sc, z1, z2, z3, z4, z5, z6, z7, -⟩ := va_Zof (A := fun _ => False) hl hini ht (fun _ _ q => q)
  exact ⟨t, a, fd.slot, cell, ⟨cf, kf, fi, fd, z1, z2, z3, z4, rfl⟩, ⟨(Array.getElem?_eq_some_iff.mp z5).1, sc, z5, z6, z7⟩, (Array.getElem?_eq_some_iff.mp h1).1, h1, h2, h3, hN2, h6⟩
theorem st_kn {args : Array Value} {s : State} (hts : ∀ w ∈ lw_tbl, w.before args s = true) : ∃ (dC : Nat → ClassId) (dI : Nat → Nat → Nat), ∀ c, c < 12 → u_Kn s (x_C c) (x_T c) (x_N c) (dC c) (dI c) := by
  have hT : ∀ w ∈ x_tb, w.before args s = true := fun w hw => hts w (List.mem_filter.mp hw).1
  have hi : ∀ c, c < 12 → (Cond.instantiable (x_C c) (x_N c)).before args s = true := by
    intro c hc
    match c, hc with
    | 0, _ => exact hT _ gw_285
    | 1, _ => exact hT _ gw_170
    | 2, _ => exact hT _ gw_147
    | 3, _ => exact hT _ gw_277
    | 4, _ => exact hT _ gw_313
    | 5, _ => exact hT _ gw_399
    | 6, _ => exact hT _ rw_rn
    | 7, _ => exact hT _ gw_443
    | 8, _ => exact hT _ gw_253
    | 9, _ => exact hT _ gw_141
    | 10, _ => exact hT _ gw_133
    | 11, _ => exact hT _ gw_1151
    | c + 12, h => exact absurd h (by omega)
  have h : ∀ c, ∃ q : ClassId × (Nat → Nat), c < 12 → u_Kn s (x_C c) (x_T c) (x_N c) q.1 q.2 := by
    intro c
    by_cases hc : c < 12
    · obtain ⟨cC, iS, hk⟩ := u_known (n := x_N c) hts (x_inl c hc) (hi c hc)
      exact ⟨(cC, iS), fun _ => hk⟩
    · exact ⟨(0, fun _ => 0), fun q => absurd q hc⟩
  exact ⟨fun c => (Classical.choose (h c)).1, fun c => (Classical.choose (h c)).2, fun c hc => Classical.choose_spec (h c) hc⟩
set_option maxRecDepth 100000 in
theorem sw_k : Cond.laysStatic "LeaderTerms" "KIND_ABOVE" "[I" ∈ lw_tbl := List.mem_of_getElem? (i := 1123) rfl
set_option maxRecDepth 100000 in
theorem sw_f : Cond.laysStatic "LeaderTerms" "FIRST_TRAIT" "[I" ∈ lw_tbl := List.mem_of_getElem? (i := 529) rfl
set_option maxRecDepth 100000 in
theorem sw_l : Cond.laysStatic "LeaderTerms" "LEAST_TRAIT" "[I" ∈ lw_tbl := List.mem_of_getElem? (i := 660) rfl
set_option maxRecDepth 100000 in
theorem sw_g : Cond.laysStatic "LeaderTerms" "GREATEST_TRAIT" "[I" ∈ lw_tbl := List.mem_of_getElem? (i := 662) rfl
def st_f (a : Nat) (j : Nat) : Int32 := Int32.ofInt ((x_SC (180 + a)).getD j 0)
theorem sm_k : (Cond.arrayOf (.static "LeaderTerms" "KIND_ABOVE" "[I") .int ∈ flatC (Jvm.Cond.and given_1 narrow_1) ∧ Cond.eq (.length (.static "LeaderTerms" "KIND_ABOVE" "[I")) (.int (Int32.ofNat 7)) ∈ flatC (Jvm.Cond.and given_1 narrow_1)) ∧ ∀ j : Nat, j < 7 → Cond.eq (.elem (.static "LeaderTerms" "KIND_ABOVE" "[I") (.int (Int32.ofNat j))) (.int (st_f 1 j)) ∈ flatC (Jvm.Cond.and given_1 narrow_1) := by decide +kernel
theorem sm_l : (Cond.arrayOf (.static "LeaderTerms" "LEAST_TRAIT" "[I") .int ∈ flatC (Jvm.Cond.and given_1 narrow_1) ∧ Cond.eq (.length (.static "LeaderTerms" "LEAST_TRAIT" "[I")) (.int (Int32.ofNat 3)) ∈ flatC (Jvm.Cond.and given_1 narrow_1)) ∧ ∀ j : Nat, j < 3 → Cond.eq (.elem (.static "LeaderTerms" "LEAST_TRAIT" "[I") (.int (Int32.ofNat j))) (.int (st_f 2 j)) ∈ flatC (Jvm.Cond.and given_1 narrow_1) := by decide +kernel
theorem sm_g : (Cond.arrayOf (.static "LeaderTerms" "GREATEST_TRAIT" "[I") .int ∈ flatC (Jvm.Cond.and given_1 narrow_1) ∧ Cond.eq (.length (.static "LeaderTerms" "GREATEST_TRAIT" "[I")) (.int (Int32.ofNat 3)) ∈ flatC (Jvm.Cond.and given_1 narrow_1)) ∧ ∀ j : Nat, j < 3 → Cond.eq (.elem (.static "LeaderTerms" "GREATEST_TRAIT" "[I") (.int (Int32.ofNat j))) (.int (st_f 3 j)) ∈ flatC (Jvm.Cond.and given_1 narrow_1) := by decide +kernel
theorem sm_f : (Cond.arrayOf (.static "LeaderTerms" "FIRST_TRAIT" "[I") .int ∈ flatC (Jvm.Cond.and given_1 narrow_1) ∧ Cond.eq (.length (.static "LeaderTerms" "FIRST_TRAIT" "[I")) (.int (Int32.ofNat 3)) ∈ flatC (Jvm.Cond.and given_1 narrow_1)) ∧ ∀ j : Nat, j < 3 → Cond.eq (.elem (.static "LeaderTerms" "FIRST_TRAIT" "[I") (.int (Int32.ofNat j))) (.int (st_f 4 j)) ∈ flatC (Jvm.Cond.and given_1 narrow_1) := by decide +kernel
/-- what holds at the law's entry gives the world E, and its tables -/
theorem st_E {s : State} {b L : Nat} {xs : Nat → Int32} (hL : L ≤ 3072) (hts : ∀ w ∈ lw_tbl, w.before #[Value.ref b] s = true) (hX : va_X b L xs s s.heap) (hbl : b < s.heap.size) (hgv : (Jvm.Cond.and given_1 narrow_1).before #[Value.ref b] s = true) : ∃ E : xE, E.1 = s.heap.size ∧ E.2.1 0 = b ∧ x_L E = L ∧ x_SP E s.heap ∧ x_CK E s ∧ x_AO s := by
  have hT : ∀ w ∈ x_tb, w.before #[Value.ref b] s = true := fun w hw => hts w (List.mem_filter.mp hw).1
  have hs := flat_of_before _ hgv
  have hini := hT _ gw_116
  obtain ⟨dC, dI, hKn⟩ := st_kn hts
  obtain ⟨t1, a1, f1, c1, ⟨p1, p2, p3, p4, pA⟩, pB, pC, pD, pE, pF, pG, pH⟩ := st_one (N := 7) (f := st_f 1) (by omega) (hts _ sw_k) hini (hs _ sm_k.1.1) (hs _ sm_k.1.2) (fun j hj => hs _ (sm_k.2 j hj))
  obtain ⟨t2, a2, f2, c2, ⟨q1, q2, q3, q4, qA⟩, qB, qC, qD, qE, qF, qG, qH⟩ := st_one (N := 3) (f := st_f 2) (by omega) (hts _ sw_l) hini (hs _ sm_l.1.1) (hs _ sm_l.1.2) (fun j hj => hs _ (sm_l.2 j hj))
  obtain ⟨t3, a3, f3, c3, ⟨r1, r2, r3, r4, rA⟩, rB, rC, rD, rE, rF, rG, rH⟩ := st_one (N := 3) (f := st_f 3) (by omega) (hts _ sw_g) hini (hs _ sm_g.1.1) (hs _ sm_g.1.2) (fun j hj => hs _ (sm_g.2 j hj))
  obtain ⟨t4, a4, f4, c4, ⟨u1, u2, u3, u4, uA⟩, uB, uC, uD, uE, uF, uG, uH⟩ := st_one (N := 3) (f := st_f 4) (by omega) (hts _ sw_f) hini (hs _ sm_f.1.1) (hs _ sm_f.1.2) (fun j hj => hs _ (sm_f.2 j hj))
  obtain ⟨scr, x1, x2, x3, x4, x5⟩ := hX
  obtain ⟨k0, kc0, kx0, m1, m2, m3⟩ := Cond.arrayClass_spec (hT _ acw_192)
  obtain ⟨k1, kc1, kx1, n1, n2, n3⟩ := Cond.arrayClass_spec (hT _ acw_191)
  obtain ⟨o2, k2, kc2, b21, -, b23, b24, b25⟩ := Cond.arrayOver_spec (hts _ gw_169)
  obtain ⟨o3, k3, kc3, b31, -, b33, b34, b35⟩ := Cond.arrayOver_spec (hts _ gw_283)
  obtain ⟨o4, k4, kc4, b41, -, b43, b44, b45⟩ := Cond.arrayOver_spec (hts _ gw_440)
  obtain ⟨o5, k5, kc5, b51, -, b53, b54, b55⟩ := Cond.arrayOver_spec (hts _ gw_442)
  obtain ⟨o6, k6, kc6, b61, -, b63, b64, b65⟩ := arrayOverA_spec (hts _ gw_1158)
  obtain ⟨o7, k7, kc7, b71, -, b73, b74, b75⟩ := arrayOverA_spec (hts _ gw_1157)
  obtain ⟨o8, k8, kc8, b81, -, b83, b84, b85⟩ := arrayOverA_spec (hts _ gw_1161)
  obtain ⟨o9, k9, kc9, b91, -, b93, b94, b95⟩ := arrayOverA_spec (hts _ gw_1163)
  refine ⟨(s.heap.size, fun i => [b, t1, t2, t3, t4, L, 0, 0, 0, 0, 0, a1, a2, a3, a4, 0, 0, 0, 0, 0, 0, f1, f2, f3, f4].getD i 0, dC, fun c k => if c = 100 then ((xs k).toInt % 4294967296).toNat else dI c k, fun i => [k0, k1, k2, k3, k4, k5, k6, k7, k8, k9, scr.cls, c1.cls, c2.cls, c3.cls, c4.cls].getD i 0), rfl, rfl, rfl, ⟨⟨hL, fun i i1 i2 => ?_⟩, fun a ha => ?_⟩, ⟨⟨fun c q hq => ?_, fun k q hq => by simp at hq⟩, fun k q hq => ?_, fun i i1 i2 => ?_, fun w hw hn => ?_⟩, fun w hw hn => ?_⟩
  · match i, i1, i2 with
    | 1, _, _ => exact pB
    | 2, _, _ => exact qB
    | 3, _, _ => exact rB
    | 4, _, _ => exact uB
    | i + 5, _, h => exact absurd h (by omega)
  · match a, ha with
    | 0, _ =>
      refine ⟨hbl, scr, x1, rfl, x2.1, x3, x4, fun j hj => ?_⟩
      have e1 : x_sv (s.heap.size, fun i => [b, t1, t2, t3, t4, L, 0, 0, 0, 0, 0, a1, a2, a3, a4, 0, 0, 0, 0, 0, 0, f1, f2, f3, f4].getD i 0, dC, fun c k => if c = 100 then ((xs k).toInt % 4294967296).toNat else dI c k, fun i => [k0, k1, k2, k3, k4, k5, k6, k7, k8, k9, scr.cls, c1.cls, c2.cls, c3.cls, c4.cls].getD i 0) 0 j = xs j := by
        show Int32.ofNat (if 100 = 100 then ((xs j).toInt % 4294967296).toNat else dI 100 j) = xs j
        rw [if_pos rfl, st_enc]
      rw [e1]
      exact x5 j hj
    | 1, _ => exact ⟨pC, c1, pD, rfl, pE.1, pF, pG, pH⟩
    | 2, _ => exact ⟨qC, c2, qD, rfl, qE.1, qF, qG, qH⟩
    | 3, _ => exact ⟨rC, c3, rD, rfl, rE.1, rF, rG, rH⟩
    | 4, _ => exact ⟨uC, c4, uD, rfl, uE.1, uF, uG, uH⟩
    | a + 5, h => exact absurd h (by omega)
  · have hc : c < 12 := by
      rcases Nat.lt_or_ge c 12 with z | z
      · exact z
      · have hlen : x_KL.length = 12 := rfl
        rw [List.getElem?_eq_none (by omega)] at hq
        cases hq
    have eq : q = (x_C c, x_T c, x_N c) := Option.some.inj (hq.symm.trans (x_KL_at c hc))
    rw [eq]
    have ei : (fun k => if c = 100 then ((xs k).toInt % 4294967296).toNat else dI c k) = dI c := funext fun k => if_neg (by omega)
    show u_Kn s (x_C c) (x_T c) (x_N c) (dC c) (fun k => if c = 100 then ((xs k).toInt % 4294967296).toNat else dI c k)
    rw [ei]
    exact hKn c hc
  · match k, hq with
    | 0, hq => cases hq; exact ⟨st_arr m2 m3, fun _ => m1⟩
    | 1, hq => cases hq; exact ⟨st_arr n2 n3, fun _ => n1⟩
    | 2, hq => cases hq; exact ⟨st_arr b23 b24, fun _ => ⟨kc2, o2, b23, b24, b21, b25⟩⟩
    | 3, hq => cases hq; exact ⟨st_arr b33 b34, fun _ => ⟨kc3, o3, b33, b34, b31, b35⟩⟩
    | 4, hq => cases hq; exact ⟨st_arr b43 b44, fun _ => ⟨kc4, o4, b43, b44, b41, b45⟩⟩
    | 5, hq => cases hq; exact ⟨st_arr b53 b54, fun _ => ⟨kc5, o5, b53, b54, b51, b55⟩⟩
    | 6, hq => cases hq; exact ⟨st_arr b63 b64, fun _ => b65⟩
    | 7, hq => cases hq; exact ⟨st_arr b73 b74, fun _ => b75⟩
    | 8, hq => cases hq; exact ⟨st_arr b83 b84, fun _ => b85⟩
    | 9, hq => cases hq; exact ⟨st_arr b93 b94, fun _ => b95⟩
    | 10, hq => cases hq; exact ⟨st_arc x2, fun h => absurd h (by omega)⟩
    | 11, hq => cases hq; exact ⟨st_arc pE, fun h => absurd h (by omega)⟩
    | 12, hq => cases hq; exact ⟨st_arc qE, fun h => absurd h (by omega)⟩
    | 13, hq => cases hq; exact ⟨st_arc rE, fun h => absurd h (by omega)⟩
    | 14, hq => cases hq; exact ⟨st_arc uE, fun h => absurd h (by omega)⟩
    | k + 15, hq => simp [x_TY] at hq
  · match i, i1, i2 with
    | 1, _, _ => exact ⟨p1, p2, p3, p4, pA⟩
    | 2, _, _ => exact ⟨q1, q2, q3, q4, qA⟩
    | 3, _, _ => exact ⟨r1, r2, r3, r4, rA⟩
    | 4, _, _ => exact ⟨u1, u2, u3, u4, uA⟩
    | i + 5, _, h => exact absurd h (by omega)
  · have hz := hts w hw
    unfold x_isN at hn
    split at hn
    · exact va_Nw.of rfl hz
    · exact va_Nw.of rfl hz
    · cases hn
  · have hz := hts w hw
    unfold x_isO at hn
    split at hn
    · exact va_AO.of hz
    · exact over_moved (Vm.Alike.refl _) hz
    · cases hn
