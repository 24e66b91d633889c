/-! Arrays of arrays -/
theorem m_arrV (cI : ClassId) (N : Nat) (f f' : Nat → Value) (h : ∀ j, j < N → f j = f' j) : arrV cI N f = arrV cI N f' := by
  have e : (fun j : Fin N => f j.val) = fun j : Fin N => f' j.val := funext fun j => h j.val j.isLt
  unfold arrV
  rw [e]
def g_m2 (n t t1 N1 N2 : Nat) (i : Nat) : gC := if i = 0 then (100 + t, N1, fun j => (2, ((n + 1 + j : Nat) : Int))) else g_ar t1 N2
def g_m3 (n t t1 t2 N1 N2 N3 cn : Nat) (i : Nat) : gC := if i = 0 then (100 + t, N1, fun j => (2, ((n + 1 + j * cn : Nat) : Int))) else if (i - 1) % cn = 0 then (100 + t1, N2, fun j => (2, ((n + i + 1 + j : Nat) : Int))) else g_ar t2 N3
section XJM
variable {l : Launch} {E : xE} {z z1 z2 : Nat × Nat × Nat} {y y1 : xMT} {pc : Nat} {ls ls' st : List xV} {n : Nat} {g : Nat → gC} {QQ : Array Value → State → Outcome → State → Prop}
theorem m_dv {t1 : Nat} {ty : FieldType} (h : (t1 = 0 ∧ ty = .int) ∨ (t1 = 1 ∧ ty = .long)) (N : Nat) (j : Nat) : defaultValue ty = x_cv E (x_vv ((g_ar t1 N).2.2 j)) := by
  rcases h with ⟨rfl, rfl⟩ | ⟨rfl, rfl⟩ <;> rfl
theorem m_cb {t1 : Nat} {ty : FieldType} (h : (t1 = 0 ∧ ty = .int) ∨ (t1 = 1 ∧ ty = .long)) : componentBytes ty ≤ 8 ∧ fits ty (defaultValue ty) = true := by
  rcases h with ⟨rfl, rfl⟩ | ⟨rfl, rfl⟩
  · exact ⟨Nat.le_of_ble_eq_true rfl, rfl⟩
  · exact ⟨Nat.le_of_ble_eq_true rfl, rfl⟩
/-- what the tables say of the innermost arrays -/
theorem m_in {s : State} {t1 : Nat} {ty : FieldType} (hK : x_CK E s) (h : (t1 = 0 ∧ ty = .int) ∨ (t1 = 1 ∧ ty = .long)) : s.vm.findClass (FieldType.array ty).toString = some (E.2.2.2.2 t1) ∧ ∃ (k : Class) (cc : ClassId), s.vm.classes[E.2.2.2.2 t1]? = some k ∧ k.kind = .array cc ty := by
  rcases h with ⟨rfl, rfl⟩ | ⟨rfl, rfl⟩
  · obtain ⟨-, k, hk, cc, q⟩ := (hK.2.1 0 _ rfl).1 0 (fun _ => .null)
    exact ⟨(hK.2.1 0 _ rfl).2 (by omega), k, cc, hk, q⟩
  · obtain ⟨-, k, hk, cc, q⟩ := (hK.2.1 1 _ rfl).1 0 (fun _ => .null)
    exact ⟨(hK.2.1 1 _ rfl).2 (by omega), k, cc, hk, q⟩
/-- of arrays of arrays -/
theorem m_out {s : State} {args : Array Value} {t t1 : Nat} {ty : FieldType} (hK : x_CK E s) (hw : (Cond.arrayOver (.array ty)).before args s = true) (ht : t < 10) (htt : ∀ E : xE, (x_TY E)[t]? = some (E.2.2.2.2 t, .array ty)) (h1 : s.vm.findClass (FieldType.array ty).toString = some (E.2.2.2.2 t1)) : s.vm.findClass ("[" ++ (FieldType.array ty).toString) = some (E.2.2.2.2 t) ∧ ∃ k : Class, s.vm.classes[E.2.2.2.2 t]? = some k ∧ k.kind = .array (E.2.2.2.2 t1) (.array ty) := by
  have hr : s.vm.findClass ("[" ++ (FieldType.array ty).toString) = some (E.2.2.2.2 t) := (hK.2.1 t _ (htt E)).2 ht
  obtain ⟨comp, cA, k, f1, -, f3, f4, f5⟩ := arrayOverA_spec hw
  have e1 : comp = E.2.2.2.2 t1 := Option.some.inj (f1.symm.trans h1)
  have e2 : cA = E.2.2.2.2 t := Option.some.inj (f5.symm.trans hr)
  rw [e1] at f4
  rw [e2] at f3
  exact ⟨hr, k, f3, f4⟩
theorem j_mul2 {idx t t1 N1 N2 cn : Nat} {nm : String} {ty : FieldType} (k0 : Nat) (hd : y.2.2.2.2[k0]? = some (pc, .multianewarray idx 2, 4)) (hw1 : Cond.classLink y.1.cls idx nm ∈ x_tb) (hnm : "[" ++ (FieldType.array ty).toString = nm) (hw2 : Cond.arrayOver (.array ty) ∈ lw_tbl) (ht : t < 10) (htt : ∀ E : xE, (x_TY E)[t]? = some (E.2.2.2.2 t, .array ty)) (hty : (t1 = 0 ∧ ty = .int) ∨ (t1 = 1 ∧ ty = .long)) (hN0 : N1 ≤ 1000 ∧ N2 ≤ 1000) (hcn : cn = 1 + N1) (hz : z2.1 = z.1 ∧ z2.2.1 + cn = z.2.1 ∧ z2.2.2 + (N1 + N1 * N2) = z.2.2)
    (k : g_Ev l E z2 y (pc + 4) ls ((2, (n : Int)) :: st) (n + cn) (g_ups g n cn (g_m2 n t t1 N1 N2)) QQ) : g_Ev l E z y pc ls ((0, (N2 : Int)) :: (0, (N1 : Int)) :: st) n g QQ := by
  intro p e R s m args below meth c H locs cells slots lr hM hC hA hf hl hcc hs hN hlo hL
  have hts := hC.2.2.2.2.2.2.2.1
  have hK := hC.2.2.2.2.2.2.2.2
  have hx1 := x_idx (i := (N1 : Int)) (by omega) (by omega)
  have hx2 := x_idx (i := (N2 : Int)) (by omega) (by omega)
  rw [Int.toNat_natCast] at hx1 hx2
  obtain ⟨i1, kI, cI, i2, i3⟩ := m_in (t1 := t1) hK hty
  obtain ⟨o1, kO, o2, o3⟩ := m_out (args := args) (t1 := t1) hK (hA.useA hw2) ht htt i1
  rw [hnm] at o1
  have hB := m_base (p := p) (l := l) (e := e) (R := R) (s := s) (m := m) (args := args) (below := below) (meth := meth) (c := c) (E.2.2.2.2 t1) N2 (defaultValue ty)
  have hF := m_next (cA := E.2.2.2.2 t) (N := N1) hB (Nat.le_refl 1)
  have hcb := m_cb hty
  have hcn2 : cn = 1 + N1 * 1 := by omega
  simp only [List.map, x_cw0]
  refine W_multi2 hC.1 hC.2.1 hC.2.2.2.2.2.2.1 (hts _ hw1) o1 hF (fun vm₁ hal l1 l2 => ?_) (x_dec hM hd) (by omega) (by omega) fun H1 hz1 ho1 hc1 => ?_
  · obtain ⟨kI1, j1, j2⟩ := hal.2.2 _ _ i2
    obtain ⟨kO1, j3, j4⟩ := hal.2.2 _ _ o2
    have w1 := m_wp1 (e := e) (n := Int32.ofInt (N2 : Int)) j1 (by rw [j2]; exact i3) hx2.1 (by rw [hx2.2]; omega) (by rw [hx2.2]; have := Nat.mul_le_mul hN0.2 hcb.1; omega) hcb.2
    rw [hx2.2] at w1
    exact m_wpS hB w1 (fun x hx => by rw [List.mem_singleton.mp hx]; exact hx2.1) j3 (by rw [j4]; exact o3) rfl hx1.1 hx1.2 (by omega) (by show ¬ N1 * 4 > _; omega)
  · have hsz := hN.2.1
    have h5 := hN.1
    have hcell : ∀ i, i < cn → g_is E H1 (n + i) (g_m2 n t t1 N1 N2 i) := by
      intro i hi
      have hci := hc1 i (by omega)
      unfold m_cell at hci
      unfold g_m2
      by_cases h0 : i = 0
      · rw [if_pos h0] at hci ⊢
        refine g_isA (t := t) rfl ?_
        unfold x_CLa
        rw [x_adr_own (by omega), show E.1 + (n + i - 5) = H.size + i by omega, hci]
        refine congrArg some (m_arrV _ _ _ _ (fun j hj => ?_))
        rw [if_pos hj]
        show _ = x_cw E (2, ((n + 1 + j : Nat) : Int))
        rw [g_cwA, x_adr_own (by omega)]
        exact congrArg Value.ref (show (H.size + 1 + j * 1 : Nat) = E.1 + (n + 1 + j - 5) by omega)
      · rw [if_neg h0] at hci ⊢
        refine g_isA (t := t1) rfl ?_
        unfold x_CLa
        rw [x_adr_own (by omega), show E.1 + (n + i - 5) = H.size + i by omega, hci]
        exact congrArg some (m_arrV _ _ _ _ (fun j hj => m_dv hty N2 j))
    have hN1 : g_H E H1 (n + cn) (g_ups g n cn (g_m2 n t t1 N1 N2)) := hN.adds (by rw [hz1, hcn2]) ho1 hcell
    have h := k p e R s m args below meth c H1 locs (cells + cn) (slots + (N1 + N1 * N2)) lr hM hC hA (by omega) (by omega) (by omega) (by omega) hN1 hlo hL
    rw [show cells + cn + z2.2.1 = cells + z.2.1 by omega, show slots + (N1 + N1 * N2) + z2.2.2 = slots + z.2.2 by omega] at h
    simp only [List.map, g_cwA, hN.top] at h
    rw [← hcn2]
    exact h
theorem j_mul3 {idx t t1 t2 N1 N2 N3 cn1 cn : Nat} {nm : String} {ty : FieldType} (k0 : Nat) (hd : y.2.2.2.2[k0]? = some (pc, .multianewarray idx 3, 4)) (hw1 : Cond.classLink y.1.cls idx nm ∈ x_tb) (hnm : "[" ++ (FieldType.array (.array ty)).toString = nm) (hw2 : Cond.arrayOver (.array (.array ty)) ∈ lw_tbl) (hw3 : Cond.arrayOver (.array ty) ∈ lw_tbl) (ht : t < 10 ∧ t1 < 10) (htt : ∀ E : xE, (x_TY E)[t]? = some (E.2.2.2.2 t, .array (.array ty))) (htt1 : ∀ E : xE, (x_TY E)[t1]? = some (E.2.2.2.2 t1, .array ty)) (hty : (t2 = 0 ∧ ty = .int) ∨ (t2 = 1 ∧ ty = .long)) (hN0 : N1 ≤ 1000 ∧ N2 ≤ 1000 ∧ N3 ≤ 1000) (hcn : cn1 = 1 + N2 ∧ cn = 1 + N1 * cn1) (hz : z2.1 = z.1 ∧ z2.2.1 + cn = z.2.1 ∧ z2.2.2 + (N1 + N1 * (N2 + N2 * N3)) = z.2.2)
    (k : g_Ev l E z2 y (pc + 4) ls ((2, (n : Int)) :: st) (n + cn) (g_ups g n cn (g_m3 n t t1 t2 N1 N2 N3 cn1)) QQ) : g_Ev l E z y pc ls ((0, (N3 : Int)) :: (0, (N2 : Int)) :: (0, (N1 : Int)) :: st) n g QQ := by
  intro p e R s m args below meth c H locs cells slots lr hM hC hA hf hl hcc hs hN hlo hL
  have hts := hC.2.2.2.2.2.2.2.1
  have hK := hC.2.2.2.2.2.2.2.2
  have hx1 := x_idx (i := (N1 : Int)) (by omega) (by omega)
  have hx2 := x_idx (i := (N2 : Int)) (by omega) (by omega)
  have hx3 := x_idx (i := (N3 : Int)) (by omega) (by omega)
  rw [Int.toNat_natCast] at hx1 hx2 hx3
  obtain ⟨i1, kI, cI, i2, i3⟩ := m_in (t1 := t2) hK hty
  obtain ⟨o1, kO, o2, o3⟩ := m_out (t := t1) (t1 := t2) hK (hA.useA (A := args) hw3) ht.2 htt1 i1
  obtain ⟨q1, kP, q2, q3⟩ := m_out (t := t) (t1 := t1) hK (hA.useA (A := args) hw2) ht.1 htt o1
  rw [hnm] at q1
  obtain ⟨hcn1, hcn2⟩ := hcn
  have hcn3 : 1 + N2 * 1 = cn1 := by omega
  have hB := m_base (p := p) (l := l) (e := e) (R := R) (s := s) (m := m) (args := args) (below := below) (meth := meth) (c := c) (E.2.2.2.2 t2) N3 (defaultValue ty)
  have hF1 := m_next (cA := E.2.2.2.2 t1) (N := N2) hB (Nat.le_refl 1)
  rw [hcn3] at hF1
  have hF := m_next (cA := E.2.2.2.2 t) (N := N1) hF1 (by omega)
  rw [← hcn2] at hF
  have hcb := m_cb hty
  simp only [List.map, x_cw0]
  refine W_multi3 hC.1 hC.2.1 hC.2.2.2.2.2.2.1 (hts _ hw1) q1 hF (fun vm₁ hal l1 l2 => ?_) (x_dec hM hd) (by omega) (by omega) fun H1 hz1 ho1 hc1 => ?_
  · obtain ⟨kI1, j1, j2⟩ := hal.2.2 _ _ i2
    obtain ⟨kO1, j3, j4⟩ := hal.2.2 _ _ o2
    obtain ⟨kP1, j5, j6⟩ := hal.2.2 _ _ q2
    have w1 := m_wp1 (e := e) (n := Int32.ofInt (N3 : Int)) j1 (by rw [j2]; exact i3) hx3.1 (by rw [hx3.2]; omega) (by rw [hx3.2]; have := Nat.mul_le_mul hN0.2.2 hcb.1; omega) hcb.2
    rw [hx3.2] at w1
    have w2 := m_wpS hB w1 (fun x hx => by rw [List.mem_singleton.mp hx]; exact hx3.1) j3 (by rw [j4]; exact o3) rfl hx2.1 hx2.2 (by omega) (by show ¬ N2 * 4 > _; omega)
    rw [hcn3] at w2
    have w3 := m_wpS hF1 w2 (fun x hx => by
      rcases List.mem_cons.mp hx with h | h
      · rw [h]; exact hx2.1
      · rw [List.mem_singleton.mp h]; exact hx3.1) j5 (by rw [j6]; exact q3) rfl hx1.1 hx1.2 (by omega) (by show ¬ N1 * 4 > _; omega)
    rw [← hcn2] at w3
    exact w3
  · have hsz := hN.2.1
    have h5 := hN.1
    have hcell : ∀ i, i < cn → g_is E H1 (n + i) (g_m3 n t t1 t2 N1 N2 N3 cn1 i) := by
      intro i hi
      have hci := hc1 i hi
      unfold m_cell at hci
      unfold g_m3
      by_cases h0 : i = 0
      · rw [if_pos h0] at hci ⊢
        refine g_isA (t := t) rfl ?_
        unfold x_CLa
        rw [x_adr_own (by omega), show E.1 + (n + i - 5) = H.size + i by omega, hci]
        refine congrArg some (m_arrV _ _ _ _ (fun j hj => ?_))
        rw [if_pos hj]
        show _ = x_cw E (2, ((n + 1 + j * cn1 : Nat) : Int))
        rw [g_cwA, x_adr_own (by omega)]
        exact congrArg Value.ref (show (H.size + 1 + j * cn1 : Nat) = E.1 + (n + 1 + j * cn1 - 5) by omega)
      · rw [if_neg h0] at hci ⊢
        by_cases h1 : (i - 1) % cn1 = 0
        · rw [if_pos h1] at hci ⊢
          refine g_isA (t := t1) rfl ?_
          unfold x_CLa
          rw [x_adr_own (by omega), show E.1 + (n + i - 5) = H.size + i by omega, hci]
          refine congrArg some (m_arrV _ _ _ _ (fun j hj => ?_))
          rw [if_pos hj]
          show _ = x_cw E (2, ((n + i + 1 + j : Nat) : Int))
          rw [g_cwA, x_adr_own (by omega)]
          have ed : cn1 * ((i - 1) / cn1) + (i - 1) % cn1 = i - 1 := Nat.div_add_mod (i - 1) cn1
          have ed2 : (i - 1) / cn1 * cn1 = cn1 * ((i - 1) / cn1) := Nat.mul_comm _ _
          exact congrArg Value.ref (show (H.size + 1 + (i - 1) / cn1 * cn1 + 1 + j * 1 : Nat) = E.1 + (n + i + 1 + j - 5) by omega)
        · rw [if_neg h1] at hci ⊢
          refine g_isA (t := t2) rfl ?_
          unfold x_CLa
          rw [x_adr_own (by omega), show E.1 + (n + i - 5) = H.size + i by omega, hci]
          exact congrArg some (m_arrV _ _ _ _ (fun j hj => m_dv hty N3 j))
    have hN1 : g_H E H1 (n + cn) (g_ups g n cn (g_m3 n t t1 t2 N1 N2 N3 cn1)) := hN.adds hz1 ho1 hcell
    have h := k p e R s m args below meth c H1 locs (cells + cn) (slots + (N1 + N1 * (N2 + N2 * N3))) lr hM hC hA (by omega) (by omega) (by omega) (by omega) hN1 hlo hL
    rw [show cells + cn + z2.2.1 = cells + z.2.1 by omega, show slots + (N1 + N1 * (N2 + N2 * N3)) + z2.2.2 = slots + z.2.2 by omega] at h
    simp only [List.map, g_cwA, hN.top] at h
    exact h
end XJM
