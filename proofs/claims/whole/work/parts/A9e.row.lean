/-! new Row -/
section XR3
variable {l : Launch} {E : xE} {z : Nat × Nat × Nat} {y : xMT} {pc : Nat} {ls st : List xV} {M : xM} {Q : Option xV → xM → Prop} {sort n : Int}
theorem i_newRow {z2 : Nat × Nat × Nat} (k0 : Nat) (hd0 : y.2.2.2.2[k0]? = some (pc, .new 61, 3)) (hd1 : y.2.2.2.2[k0 + 1]? = some (pc + 3, .dup, 1)) (hd2 : y.2.2.2.2[k0 + 2]? = some (pc + 4, .iload_n 2, 1)) (hd3 : y.2.2.2.2[k0 + 3]? = some (pc + 5, .iload_n 3, 1)) (hd4 : y.2.2.2.2[k0 + 4]? = some (pc + 6, .invokespecial 358, 3)) (hy : y.1.cls = "LeaderTerms") (hl2 : ls[2]? = some (0, sort)) (hl3 : ls[3]? = some (0, n)) (hn : 0 ≤ n ∧ n ≤ 40) (h8 : (((9, 0) :: st).map (fun v : xV => if v.1 = 1 then 2 else 1)).sum ≤ 8) (hz : 3 ≤ z.1 ∧ z2.1 = z.1 ∧ z2.2.1 + 2 = z.2.1 ∧ z2.2.2 + 42 = z.2.2)
    (kk : x_Ev l E z2 y (pc + 9) ls ((9, M (-1) 0) :: st) (x_row M sort n) Q) : x_Ev l E z y pc ls st M Q := by
  intro p e R s m args below meth c H locs cells slots lr hM hC hf hl hcc hss hN hlo hL hol hos
  have hK := hC.2.2.2.2.2.2.2.2
  have hts := hC.2.2.2.2.2.2.2.1
  have hown := hC.2.2.2.2.2.2.1
  rw [hy] at hown
  have htp := hN.1
  have hsz := hN.2.1
  have hs : x_rg 0 sort := x_okl hol hl2
  obtain ⟨hSl, hfc, kC0, hkC0, hkind⟩ := hK.1.1 6 _ (x_KL_at 6 (by decide))
  refine W.newcK hC.1 hC.2.1 hown (hts _ rw_rc) (hts _ rw_rn) (hts _ rw_ri) rfl (x_dec hM hd0) (by omega) (by omega) hfc rfl fun H1 kC hkC e1 z1 o1 => ?_
  refine W.eq (g2 := F0 m (pc + 3) lr (.ref H.size :: st.map (x_cw E))) rfl ?_
  refine lv_dup hC.1 hC.2.1 (x_dec hM hd1) rfl ?_
  refine lv_iload_n hC.1 hC.2.1 (x_dec hM hd2) rfl (hL.at hl2 (Nat.ne_of_beq_eq_false rfl)) ?_
  refine lv_iload_n hC.1 hC.2.1 (x_dec hM hd3) rfl (hL.at hl3 (Nat.ne_of_beq_eq_false rfl)) ?_
  have hO := u_born (x_ty 6) hts (x_in 6 (by decide)) (hK.1.1 6 _ (x_KL_at 6 (by decide))) hkC e1 (x_tyok 6 (by decide))
  have hMet := c_Row (l := l) (E := E) (h0 := H.size) (sort := sort) (n := n) (H0 := H1) hn (by omega) hO
  have hG : GoodIn x_tb (x_ws m_X6_init) := x_ws_good ok_X6_init (by decide)
  have e2 : (((9 : Nat), (0 : Int)) :: st).map (x_cw E) = x_cw E (9, 0) :: st.map (x_cw E) := rfl
  have hroom : 2 * (F0 m (pc + 3 + 1 + 1 + 1) lr (.int (Int32.ofInt n) :: .int (Int32.ofInt sort) :: .ref H.size :: .ref H.size :: st.map (x_cw E))).monitorRoom + ((.ref H.size :: st.map (x_cw E)).map fun v => v.category).sum ≤ 8 := by
    have := x_room8 (E := E) (m := m) (pc := pc) (lr := lr) (rs := []) h8
    rw [e2] at this
    exact this
  have hrun := va_runI (rest := .ref H.size :: st.map (x_cw E)) (b := H.size) (As := [.int (Int32.ofInt sort), .int (Int32.ofInt n)]) (R := R) (cells := cells + 1) (slots := slots + 2) (H := H1) (locs := locs) (below := below) (e := e) (meth := meth) (g := F0 m (pc + 3 + 1 + 1 + 1) lr (.int (Int32.ofInt n) :: .int (Int32.ofInt sort) :: .ref H.size :: .ref H.size :: st.map (x_cw E))) ⟨hC.1, hC.2.1, hC.2.2.1, hown, hts⟩ hMet
    (cwI 2 hts hG rfl rfl rfl (hts _ rw_ri) (hts _ rw_rm) (hts _ rw_rx) rfl (by decide +kernel) ⟨by show 2 + 1 ≤ R.frames; omega, by show 8 + (3 + 11) + 60 * 2 ≤ R.locals; omega⟩)
    ⟨fun a U g mk h => ⟨h.1, h.2.1, x_CK.same (u := U) (U := U.calling g mk a) rfl h.2.2⟩, fun U hU hW => ⟨rfl, hU, hK.moved hW⟩⟩ rfl rfl hL.1 rfl hroom (x_dec hM hd4) ⟨by omega, by omega⟩
  intro T hT X
  obtain ⟨v, st₀, t, T', L, h0, X', hL', f1, f2, ⟨q1, q2, q3, q4, q5, q6⟩, go⟩ := hrun T hT X
  have hv : v = none := by cases q1; rfl
  subst hv
  have hN1 : x_NR E T'.heap (x_row M sort n) := by
    rw [f1]
    rw [z1] at q2 q4 q5 q3
    refine hN.row hs hn (by omega) (fun q hq => ?_) q4 q5
    rw [q3 q (by omega) (by omega)]
    exact o1 q hq
  have hx2 := x_row_ext (M := M) (sort := sort) (n := n) htp
  have hnew : x_okV (x_row M sort n) (9, M (-1) 0) := by
    show x_rowok _ _
    unfold x_tp at htp
    refine Or.inr ⟨by omega, ?_, ?_⟩
    · show x_tp M < _
      rw [x_row_tp hN.1]; omega
    · exact x_row_t16 hN.1
  have h := kk p e R s m args below meth c T'.heap (locs ++ L) (cells + 1 + 1) (slots + 2 + 40) lr hM hC (by omega) (by rw [hz.2.1]; exact hl) (by omega) (by omega) hN1 (fun q hq => by
    rcases List.mem_append.mp hq with h | h
    · exact hlo q h
    · exact hL' q h) hL (fun v hv => hx2.ok (hol v hv)) (x_okc hnew (fun v hv => hx2.ok (hos v hv)))
  rw [show cells + 1 + 1 + z2.2.1 = cells + z.2.1 by omega, show slots + 2 + 40 + z2.2.2 = slots + z.2.2 by omega] at h
  obtain ⟨t2, a1, b1⟩ := x_Wwr hx2 h T' rfl X'
  refine ⟨t2, go t2 ?_, b1⟩
  have e3 : x_cw E (9, M (-1) 0) = .ref H.size := by
    have hp : 593 ≤ (M (-1) 0).toNat := htp
    rw [x_cwR E 7 _ (by omega)]
    show Value.ref (x_adr E (x_tp M)) = _
    rw [x_adr_own (by omega), hsz]
  simp only [List.map, e3] at a1
  exact a1
end XR3
