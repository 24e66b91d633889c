section XK2
variable {l : Launch} {E : xE} {z z1 z2 : Nat × Nat × Nat} {y y1 : xMT} {pc : Nat} {ls st : List xV} {M : xM} {Q : Option xV → xM → Prop}
theorem i_callV {idx c : Nat} {a : Int} {ls0 : List xV} (As : List xV) {st0 : List xV} (n : Nat) (hd : y.2.2.2.2[n]? = some (pc, .invokevirtual idx, 3)) (hml : Cond.methodLink y.1.cls idx y1.1 ∈ x_tb) (hM1 : x_Mok y1) (hV : x_Vok y1 As.length) (hc : c < 12 ∧ x_C c = y1.1.cls) (hst : st0 = As.reverse ++ (10 + c, a) :: st) (he : x_ent ((10 + c, a) :: As) y1.2.2.1 = ls0 ∧ (x_lay ((10 + c, a) :: As)).length ≤ y1.2.2.1) (h8 : (st.map (fun v => if v.1 = 1 then 2 else 1)).sum ≤ 8) (hz : z1.1 + 1 ≤ z.1 ∧ z2.1 = z.1 ∧ z1.2.1 + z2.2.1 = z.2.1 ∧ z1.2.2 + z2.2.2 = z.2.2)
    (k : x_Ev l E z1 y1 0 ls0 [] M (fun r M1 => x_Ev l E z2 y (pc + 3) ls (r.toList ++ st) M1 Q)) : x_Ev l E z y pc ls st0 M Q :=
  x_callV0 n hd hml hM1 hV hc ⟨by omega, fun h => x_okR (by omega) h⟩ hst he h8 hz k
theorem i_callR {idx : Nat} {a : Int} {ls0 : List xV} (As : List xV) {st0 : List xV} (n : Nat) (hd : y.2.2.2.2[n]? = some (pc, .invokevirtual idx, 3)) (hml : Cond.methodLink y.1.cls idx y1.1 ∈ x_tb) (hM1 : x_Mok y1) (hV : x_Vok y1 As.length) (hc : x_C 6 = y1.1.cls) (h0 : 0 ≤ a) (hst : st0 = As.reverse ++ (9, a) :: st) (he : x_ent ((9, a) :: As) y1.2.2.1 = ls0 ∧ (x_lay ((9, a) :: As)).length ≤ y1.2.2.1) (h8 : (st.map (fun v => if v.1 = 1 then 2 else 1)).sum ≤ 8) (hz : z1.1 + 1 ≤ z.1 ∧ z2.1 = z.1 ∧ z1.2.1 + z2.2.1 = z.2.1 ∧ z1.2.2 + z2.2.2 = z.2.2)
    (k : x_Ev l E z1 y1 0 ls0 [] M (fun r M1 => x_Ev l E z2 y (pc + 3) ls (r.toList ++ st) M1 Q)) : x_Ev l E z y pc ls st0 M Q :=
  x_callV0 (c := 6) n hd hml hM1 hV ⟨by omega, hc⟩ ⟨by omega, fun h => x_row9 h h0⟩ hst he h8 hz k
theorem i_callS {idx : Nat} {ls0 : List xV} (As : List xV) {st0 : List xV} (n : Nat) (hd : y.2.2.2.2[n]? = some (pc, .invokestatic idx, 3)) (hml : Cond.methodLink y.1.cls idx y1.1 ∈ x_tb) (hM1 : x_Mok y1) (hV : x_Sok y1 As.length) (hst : st0 = As.reverse ++ st) (he : x_ent As y1.2.2.1 = ls0 ∧ (x_lay As).length ≤ y1.2.2.1) (h8 : (st.map (fun v => if v.1 = 1 then 2 else 1)).sum ≤ 8) (hz : z1.1 + 1 ≤ z.1 ∧ z2.1 = z.1 ∧ z1.2.1 + z2.2.1 = z.2.1 ∧ z1.2.2 + z2.2.2 = z.2.2)
    (k : x_Ev l E z1 y1 0 ls0 [] M (fun r M1 => x_Ev l E z2 y (pc + 3) ls (r.toList ++ st) M1 Q)) : x_Ev l E z y pc ls st0 M Q := by
  intro p e R s m args below meth c' H locs cells slots lr hM hC hf hl hcc hss hN hlo hL hol hos
  subst hst
  have hos' : ∀ v ∈ st, x_okV M v := fun v hv => hos v (List.mem_append_right _ hv)
  have hoA : ∀ v ∈ As, x_okV M v := fun v hv => hos v (List.mem_append_left _ (List.mem_reverse.mpr hv))
  rw [← he.1] at k
  have hMet := x_Met hM1 he.2 hoA k
  have hK := hC.2.2.2.2.2.2.2.2
  have hts := hC.2.2.2.2.2.2.2.1
  have hrun := va_runS (rest := st.map (x_cw E)) (As := As.map (x_cw E)) (R := R) (cells := cells) (slots := slots) (H := H) (locs := locs) (below := below) (e := e) (meth := meth) (g := F0 m pc lr (((As.map (x_cw E)).reverse ++ st.map (x_cw E)))) ⟨hC.1, hC.2.1, hC.2.2.1, hC.2.2.2.2.2.2.1, hts⟩ hMet
    ⟨callB_of (ret := y1.2.2.2.1) As.length hts (x_ws_good hM1 hV.2.2.2) rfl rfl rfl (hts _ hV.2.1) (hts _ hml) ⟨hM1.2.2.2.2.1, hM1.2.2.2.2.2, hV.2.2.1⟩ ⟨by show z1.1 + 1 ≤ R.frames; omega, by show 8 + (y1.2.2.1 + 11) + 60 * z1.1 ≤ R.locals; have := hM1.2.2.2.1; omega⟩, hts _ hV.1⟩
    ⟨x_PC.blind E _ M, fun U hU hW => ⟨rfl, by rw [hU]; exact hN, hK.moved hW⟩⟩ rfl (by simp) hL.1 rfl (x_room8 h8) (x_dec hM hd) ⟨by omega, by omega⟩
  have := x_back (z := z) (z1 := z1) hrun hM hC hz.2 hf hl hcc hss hlo hL hol hos'
  rw [x_mrev]
  exact this
theorem i_callSN {idx : Nat} {host : String} {ls0 : List xV} (As : List xV) {st0 : List xV} (n : Nat) (hd : y.2.2.2.2[n]? = some (pc, .invokestatic idx, 3)) (hml : Cond.methodLinkNest y.1.cls idx y1.1 host ∈ lw_tbl) (hM1 : x_Mok y1) (hV : x_Sok y1 As.length) (hst : st0 = As.reverse ++ st) (he : x_ent As y1.2.2.1 = ls0 ∧ (x_lay As).length ≤ y1.2.2.1) (h8 : (st.map (fun v => if v.1 = 1 then 2 else 1)).sum ≤ 8) (hz : z1.1 + 1 ≤ z.1 ∧ z2.1 = z.1 ∧ z1.2.1 + z2.2.1 = z.2.1 ∧ z1.2.2 + z2.2.2 = z.2.2)
    (k : x_Ev l E z1 y1 0 ls0 [] M (fun r M1 => x_Ev l E z2 y (pc + 3) ls (r.toList ++ st) M1 Q)) : x_Ev l E z y pc ls st0 M Q := by
  intro p e R s m args below meth c' H locs cells slots lr hM hC hf hl hcc hss hN hlo hL hol hos
  subst hst
  have hos' : ∀ v ∈ st, x_okV M v := fun v hv => hos v (List.mem_append_right _ hv)
  have hoA : ∀ v ∈ As, x_okV M v := fun v hv => hos v (List.mem_append_left _ (List.mem_reverse.mpr hv))
  rw [← he.1] at k
  have hMet := x_Met hM1 he.2 hoA k
  have hK := hC.2.2.2.2.2.2.2.2
  have hts := hC.2.2.2.2.2.2.2.1
  have hrun := va_runSN (rest := st.map (x_cw E)) (As := As.map (x_cw E)) (R := R) (cells := cells) (slots := slots) (H := H) (locs := locs) (below := below) (e := e) (meth := meth) (g := F0 m pc lr (((As.map (x_cw E)).reverse ++ st.map (x_cw E)))) ⟨hC.1, hC.2.1, hC.2.2.1, hC.2.2.2.2.2.2.1, hts⟩ hMet
    ⟨va_cnB (ret := y1.2.2.2.1) As.length hts (x_ws_good hM1 hV.2.2.2) rfl rfl rfl (hK.2.2.2 _ hml rfl) (hts _ hV.2.1) ⟨hM1.2.2.2.2.1, hM1.2.2.2.2.2, hV.2.2.1⟩ ⟨by show z1.1 + 1 ≤ R.frames; omega, by show 8 + (y1.2.2.1 + 11) + 60 * z1.1 ≤ R.locals; have := hM1.2.2.2.1; omega⟩, hts _ hV.1, trivial⟩
    ⟨x_PC.blind E _ M, fun U hU hW => ⟨rfl, by rw [hU]; exact hN, hK.moved hW⟩⟩ rfl (by simp) hL.1 rfl (x_room8 h8) (x_dec hM hd) ⟨by omega, by omega⟩
  have := x_back (z := z) (z1 := z1) hrun hM hC hz.2 hf hl hcc hss hlo hL hol hos'
  rw [x_mrev]
  exact this
end XK2
