/-! Calls: a callee's judgement is its contract -/
def x_lay : List xV → List xV
  | [] => []
  | v :: r => if v.1 = 1 then v :: (5, 0) :: x_lay r else v :: x_lay r
def x_ent (As : List xV) (n : Nat) : List xV := x_lay As ++ List.replicate (n - (x_lay As).length) (5, 0)
theorem x_lay_at (E : xE) : ∀ (As : List xV) (i j : Nat) (v : xV), (x_lay As)[j]? = some v → v.1 ≠ 5 → (i + j, x_cw E v) ∈ lv_args i (As.map (x_cw E))
  | [], i, j, v, h, _ => by simp [x_lay] at h
  | a :: r, i, j, v, h, h5 => by
    unfold x_lay at h
    simp only [List.map, lv_args, x_cat]
    by_cases ha : a.1 = 1
    · rw [if_pos ha] at h
      rw [if_pos ha, if_pos rfl]
      match j, h with
      | 0, h => cases h; exact List.mem_cons_self
      | 1, h => cases h; exact absurd rfl h5
      | j + 2, h =>
        refine List.mem_cons_of_mem _ ?_
        have := x_lay_at E r (i + 2) j v (by simpa using h) h5
        rw [show i + (j + 2) = i + 2 + j by omega]; exact this
    · rw [if_neg ha] at h
      rw [if_neg ha, if_neg (by decide)]
      match j, h with
      | 0, h => cases h; exact List.mem_cons_self
      | j + 1, h =>
        refine List.mem_cons_of_mem _ ?_
        have := x_lay_at E r (i + 1) j v (by simpa using h) h5
        rw [show i + (j + 1) = i + 1 + j by omega]; exact this
theorem x_lay_len (E : xE) : ∀ As : List xV, (lg_sl (As.map (x_cw E))).length = (x_lay As).length
  | [] => rfl
  | a :: r => by
    have ih := x_lay_len E r
    unfold lg_sl at ih ⊢
    simp only [List.map, List.flatMap_cons, List.length_append, ih, x_cat]
    rw [x_lay]
    by_cases ha : a.1 = 1
    · simp [ha]; omega
    · simp [ha]; omega
theorem x_lay_mem : ∀ (As : List xV) (v : xV), v ∈ x_lay As → v ∈ As ∨ v = (5, 0)
  | [], v, h => by simp [x_lay] at h
  | a :: r, v, h => by
    unfold x_lay at h
    split at h
    · rcases List.mem_cons.mp h with h | h
      · exact Or.inl (by rw [h]; exact List.mem_cons_self)
      · rcases List.mem_cons.mp h with h | h
        · exact Or.inr h
        · rcases x_lay_mem r v h with q | q
          · exact Or.inl (List.mem_cons_of_mem _ q)
          · exact Or.inr q
    · rcases List.mem_cons.mp h with h | h
      · exact Or.inl (by rw [h]; exact List.mem_cons_self)
      · rcases x_lay_mem r v h with q | q
        · exact Or.inl (List.mem_cons_of_mem _ q)
        · exact Or.inr q
theorem x_ent_mem {As : List xV} {n : Nat} {v : xV} (h : v ∈ x_ent As n) : v ∈ As ∨ v = (5, 0) := by
  rcases List.mem_append.mp h with h | h
  · exact x_lay_mem As v h
  · exact Or.inr (List.eq_of_mem_replicate h)
theorem x_ent_LR (E : xE) (As : List xV) (n : Nat) (hn : (x_lay As).length ≤ n) : x_LR E (x_ent As n) ((lg_sl (As.map (x_cw E)) ++ List.replicate (n - (lg_sl (As.map (x_cw E))).length) Slot.unset).toArray) n := by
  refine x_LR.of (lv_entry (As.map (x_cw E)) (by rw [x_lay_len]; exact hn)) fun j v h1 h2 => ?_
  have hlt : j < (x_lay As).length := by
    rcases Nat.lt_or_ge j (x_lay As).length with q | q
    · exact q
    · unfold x_ent at h1
      rw [List.getElem?_append_right q] at h1
      have := List.eq_of_mem_replicate (List.mem_of_getElem? h1)
      rw [this] at h2
      exact absurd rfl h2
  have := x_lay_at E As 0 j v (by unfold x_ent at h1; rw [List.getElem?_append_left hlt] at h1; exact h1) h2
  rw [Nat.zero_add] at this
  exact this
theorem x_good : GoodIn x_tb x_tb := fun w hw => ⟨hw, good_of_word (List.mem_filter.mp hw).2⟩
def x_PC (E : xE) (As : List xV) (M : xM) : Array Value → State → Prop := fun v U => v = (As.map (x_cw E)).toArray ∧ x_NR E U.heap M ∧ x_CK E U
theorem x_PC.blind (E : xE) (As : List xV) (M : xM) : FrameBlind (x_PC E As M) := fun a U g mk h => ⟨h.1, h.2.1, x_CK.same (u := U) (U := U.calling g mk a) rfl h.2.2⟩
def x_rm (z : Nat × Nat × Nat) : Room := { frames := z.1, cells := z.2.1, slots := z.2.2, locals := 60 * z.1 }
def x_ws (y : xMT) : List Cond := Cond.code y.1 y.2.1 y.2.2.1 y.2.2.2.1 :: x_tb
theorem x_ws_good {y : xMT} (hM : x_Mok y) (hn : y.1.cls ≠ "LeaderTermsLaw") : GoodIn x_tb (x_ws y) := fun w hw => by
  rcases List.mem_cons.mp hw with h | h
  · rw [h]; exact x_good _ (hM.2.1.resolve_left hn)
  · exact x_good w h
theorem x_ofW {l : Launch} {y : MethodName} {ws ws' : List Cond} {rm : Room} {Pc : Array Value → State → Prop} {Qc : Array Value → State → Outcome → State → Prop} {mc ms : Nat} {free : Addr → Prop} {cc : ByteArray} {maxL : Nat} {ret : Option FieldType}
    (hy : plainFor y = true) (hw : ws = Cond.code y cc maxL ret :: ws')
    (body : ∀ p e s m args below meth c s₁, BodyLoose p l y (headSpec ws rm) cc maxL ret e s m args below meth c s₁ → c.maxLocals = maxL → Pc args s →
      W p l e (headSpec ws rm).room s m args below meth c s.heap [] 0 0 (MQ below Qc args s mc ms free) (entryFrame m args maxL)) : Met l y ws rm Pc Qc mc ms free := by
  refine MetFree.of_bodySF (code := cc) (maxLocals := maxL) (ret := ret) hy ?_ ?_
  · intro args s m h hn
    obtain ⟨meth, c, h1, h2, h3, h4, h5, h6, -, -⟩ := Cond.code_spec hn (atoms_spec (ws := ws) h _ (by rw [hw]; exact List.mem_cons_self))
    exact ⟨meth, c, h1, h2, h3, h4, h5, h6⟩
  · intro p e s m args below meth c s₁ B hml hP _
    have hh0 : s₁.heap = s.heap := by rw [B.state]; rfl
    obtain ⟨t, a1, o, b1, b2, b3⟩ := body p e s m args below meth c s₁ B hml hP s₁ hh0 (Stand.of_body B)
    exact ⟨t, o, a1, b1, b2, ⟨b3.1, b3.2⟩⟩
theorem x_Met {l : Launch} {E : xE} {z : Nat × Nat × Nat} {y : xMT} {As : List xV} {M : xM} {Q : Option xV → xM → Prop} (hM : x_Mok y) (hn : (x_lay As).length ≤ y.2.2.1) (ha : ∀ v ∈ As, x_okV M v) (k : x_Ev l E z y 0 (x_ent As y.2.2.1) [] M Q) :
    Met l y.1 (x_ws y) (x_rm z) (x_PC E As M) (x_QQ E M Q ) z.2.1 z.2.2 (fun q => E.1 ≤ q) := by
  refine x_ofW (cc := y.2.1) (maxL := y.2.2.1) (ret := y.2.2.2.1) hM.1 rfl ?_
  intro p e s m args below meth c s₁ B hml hv
  obtain ⟨rfl, hN, hK⟩ := hv
  have hts := atoms_spec (ws := x_ws y) B.pre
  have hC : x_Cx E y p s m ((As.map (x_cw E)).toArray) meth c := ⟨B.exec, B.bytes, hml, B.returns, B.notSynchronized, (name_of_methodNamed B.named B.method).1, findClass_of_methodNamed B.named, fun w hw => hts w (List.mem_cons_of_mem _ hw), hK⟩
  rw [lg_entry_eq]
  have h := k p e (headSpec (x_ws y) (x_rm z)).room s m _ below meth c s.heap [] 0 0 _ hM hC (Nat.le_refl z.1) (Nat.le_refl (60 * z.1)) (Nat.le_of_eq (Nat.zero_add _)) (Nat.le_of_eq (Nat.zero_add _)) hN (fun q hq => by simp at hq) (x_ent_LR E As y.2.2.1 hn) (fun v hv => (x_ent_mem hv).elim (ha v) (fun e => by rw [e]; trivial)) (fun v hv => by simp at hv)
  rw [Nat.zero_add, Nat.zero_add] at h
  exact h
/-- the words of a method that is called -/
def x_Vok (y : xMT) (n : Nat) : Prop := Cond.instanceMethod y.1 ∈ x_tb ∧ Cond.selects y.1.cls y.1 y.1 ∈ x_tb ∧ Cond.initialized y.1.cls ∈ x_tb ∧ (parseMethodDescriptor y.1.desc).map (fun d => d.parameters.length) = some n
def x_Sok (y : xMT) (n : Nat) : Prop := Cond.static y.1 ∈ x_tb ∧ Cond.initialized y.1.cls ∈ x_tb ∧ (parseMethodDescriptor y.1.desc).map (fun d => d.parameters.length) = some n ∧ y.1.cls ≠ "LeaderTermsLaw"
theorem x_C_law : ∀ c, c < 12 → x_C c ≠ "LeaderTermsLaw" := by decide +kernel
section XK
variable {l : Launch} {E : xE} {z z1 z2 : Nat × Nat × Nat} {y y1 : xMT} {pc : Nat} {ls st : List xV} {M : xM} {Q : Option xV → xM → Prop}
theorem x_mrev (E : xE) (As : List xV) (r : List xV) : (As.reverse ++ r).map (x_cw E) = (As.map (x_cw E)).reverse ++ r.map (x_cw E) := by simp
theorem x_room8 {m : MethodId} {pc : Nat} {lr : Array Slot} {rs : List Value} {st : List xV} (h : (st.map (fun v => if v.1 = 1 then 2 else 1)).sum ≤ 8) : 2 * (F0 m pc lr rs).monitorRoom + ((st.map (x_cw E)).map fun v => v.category).sum ≤ 8 := by
  refine lv_room ?_
  rw [List.map_map]
  have e : (fun v : Value => v.category) ∘ x_cw E = fun v : xV => if v.1 = 1 then 2 else 1 := by funext v; exact x_cat E v
  rw [e]
  exact h
/-- behind a call -/
theorem x_back {p : Program} {e : Env} {R : Room} {s : State} {m : MethodId} {args : Array Value} {below : List Frame} {meth : Method} {c : Code} {H : Heap} {locs : List Loc} {cells slots : Nat} {lr : Array Slot} {st0 : List Value} {As : Array Value}
    (hr : va_Run p l e R s m args below meth c H locs cells slots z1.2.1 z1.2.2 (F0 m pc lr st0) (st.map (x_cw E)) (x_QQ E M (fun r M1 => x_Ev l E z2 y (pc + 3) ls (r.toList ++ st) M1 Q) As) (fun q => E.1 ≤ q))
    (hM : x_Mok y) (hC : x_Cx E y p s m args meth c) (hz : z2.1 = z.1 ∧ z1.2.1 + z2.2.1 = z.2.1 ∧ z1.2.2 + z2.2.2 = z.2.2) (hf : z.1 ≤ R.frames) (hl : 60 * z.1 ≤ R.locals) (hc : cells + z.2.1 ≤ R.cells) (hs : slots + z.2.2 ≤ R.slots) (hlo : ∀ q ∈ locs, E.1 ≤ q.base) (hL : x_LR E ls lr y.2.2.1) (hol : ∀ v ∈ ls, x_okV M v) (hos : ∀ v ∈ st, x_okV M v) :
    W p l e R s m args below meth c H locs cells slots (MQ below (x_QQ E M Q) args s (cells + z.2.1) (slots + z.2.2) (fun q => E.1 ≤ q)) (F0 m pc lr st0) := by
  intro T hT X
  obtain ⟨v, st₀, t, T', L, h0, X', hL', e1, e2, ⟨r, M1, q1, q2, q3, q4, q5, q6⟩, go⟩ := hr T hT X
  have hv : v = r.map (x_cw E) := by cases q1; rfl
  subst hv
  have h := q6 p e R s m args below meth c T'.heap (locs ++ L) (cells + z1.2.1) (slots + z1.2.2) lr hM hC (by omega) (by rw [hz.1]; exact hl) (by omega) (by omega) (by rw [e1]; exact q2) (fun q hq => by
    rcases List.mem_append.mp hq with h | h
    · exact hlo q h
    · exact hL' q h) hL (fun v hv => q5.ok (hol v hv)) (fun v hv => by
    rcases List.mem_append.mp hv with h | h
    · exact q4 v (by simpa using h)
    · exact q5.ok (hos v h))
  rw [show cells + z1.2.1 + z2.2.1 = cells + z.2.1 by omega, show slots + z1.2.2 + z2.2.2 = slots + z.2.2 by omega] at h
  obtain ⟨t2, a1, b1⟩ := x_Wwr q5 h T' rfl X'
  refine ⟨t2, go t2 ?_, b1⟩
  have e3 : (r.toList ++ st).map (x_cw E) = (r.map (x_cw E)).toList ++ st.map (x_cw E) := by cases r <;> simp
  rw [e3] at a1
  exact a1
theorem x_recv {s : State} {H : Heap} {c : Nat} {a : Int} (hc : c < 12) (hN : x_NR E H M) (hK : x_CK E s) (oa : 0 ≤ a ∧ a.toNat < x_tp M ∧ x_tag M a.toNat = 10 + c) : ∃ cellB : Cell, H[x_adr E a.toNat]? = some cellB ∧ cellB.vm.isStatics = false ∧ s.vm.findClass (x_C c) = some cellB.cls := by
  obtain ⟨-, ⟨cell, q1, q2, q3, -⟩, -⟩ := hN.obj hc oa
  obtain ⟨-, hfc, -⟩ := hK.1.1 c _ (x_KL_at c hc)
  exact ⟨cell, q1, by rw [q3]; rfl, by rw [q2]; exact hfc⟩
theorem x_callV0 {idx c t : Nat} {a : Int} {As st0 : List xV} {ls0 : List xV} (n : Nat) (hd : y.2.2.2.2[n]? = some (pc, .invokevirtual idx, 3)) (hml : Cond.methodLink y.1.cls idx y1.1 ∈ x_tb) (hM1 : x_Mok y1) (hV : x_Vok y1 As.length) (hc : c < 12 ∧ x_C c = y1.1.cls) (ht : 2 ≤ t ∧ (x_okV M (t, a) → 0 ≤ a ∧ a.toNat < x_tp M ∧ x_tag M a.toNat = 10 + c)) (hst : st0 = As.reverse ++ (t, a) :: st) (he : x_ent ((t, a) :: As) y1.2.2.1 = ls0 ∧ (x_lay ((t, a) :: As)).length ≤ y1.2.2.1) (h8 : (st.map (fun v => if v.1 = 1 then 2 else 1)).sum ≤ 8) (hz : z1.1 + 1 ≤ z.1 ∧ z2.1 = z.1 ∧ z1.2.1 + z2.2.1 = z.2.1 ∧ z1.2.2 + z2.2.2 = z.2.2)
    (k : x_Ev l E z1 y1 0 ls0 [] M (fun r M1 => x_Ev l E z2 y (pc + 3) ls (r.toList ++ st) M1 Q)) : x_Ev l E z y pc ls st0 M Q := by
  intro p e R s m args below meth c' H locs cells slots lr hM hC hf hl hcc hss hN hlo hL hol hos
  subst hst
  have hoa := hos (t, a) (List.mem_append_right _ List.mem_cons_self)
  have oa := ht.2 hoa
  have hos' : ∀ v ∈ st, x_okV M v := fun v hv => hos v (List.mem_append_right _ (List.mem_cons_of_mem _ hv))
  have hoA : ∀ v ∈ (t, a) :: As, x_okV M v := x_okc hoa fun v hv => hos v (List.mem_append_left _ (List.mem_reverse.mpr hv))
  rw [← he.1] at k
  have hMet := x_Met hM1 he.2 hoA k
  obtain ⟨t', rfl⟩ : ∃ t', t = t' + 2 := ⟨t - 2, by omega⟩
  have er : x_cw E (t' + 2, a) = .ref (x_adr E a.toNat) := x_cwR E t' a (by omega)
  have hK := hC.2.2.2.2.2.2.2.2
  have hG : GoodIn x_tb (wsV y.1.cls idx y1.1.cls y1.1 (x_ws y1)) := fun w hw => by
    unfold wsV at hw
    rcases List.mem_append.mp hw with h | h
    · simp only [List.mem_cons, List.not_mem_nil, or_false] at h
      rcases h with rfl | rfl | rfl | rfl
      · exact x_good _ hml
      · exact x_good _ hV.1
      · exact x_good _ hV.2.1
      · exact x_good _ hV.2.2.1
    · exact x_ws_good hM1 (by rw [← hc.2]; exact x_C_law c hc.1) w h
  have hrun := va_runV (rest := st.map (x_cw E)) (b := x_adr E a.toNat) (As := As.map (x_cw E)) (R := R) (cells := cells) (slots := slots) (H := H) (locs := locs) (below := below) (e := e) (meth := meth) (g := F0 m pc lr (((As.map (x_cw E)).reverse ++ .ref (x_adr E a.toNat) :: st.map (x_cw E)))) (C := y1.1.cls) ⟨hC.1, hC.2.1, hC.2.2.1, hC.2.2.2.2.2.2.1, hC.2.2.2.2.2.2.2.1⟩ hMet
    (cwV As.length hC.2.2.2.2.2.2.2.1 hG rfl rfl rfl ⟨rfl, hM1.2.2.2.2.1, hM1.2.2.2.2.2, hV.2.2.2⟩ ⟨by show z1.1 + 1 ≤ R.frames; omega, by show 8 + (y1.2.2.1 + 11) + 60 * z1.1 ≤ R.locals; have := hM1.2.2.2.1; omega⟩)
    ⟨x_PC.blind E _ M, by rw [← hc.2]; exact x_recv hc.1 hN hK oa, fun U hU hW => ⟨by simp only [List.map, er], by rw [hU]; exact hN, hK.moved hW⟩⟩ rfl (by simp) hL.1 rfl (x_room8 h8) (x_dec hM hd) ⟨by omega, by omega⟩
  have := x_back (z := z) (z1 := z1) hrun hM hC hz.2 hf hl hcc hss hlo hL hol hos'
  have e2 : (As.reverse ++ (t' + 2, a) :: st).map (x_cw E) = (As.map (x_cw E)).reverse ++ .ref (x_adr E a.toNat) :: st.map (x_cw E) := by rw [x_mrev]; simp only [List.map, er]
  rw [e2]
  exact this
end XK
