/-! Rules, one an instruction -/
section XR
variable {l : Launch} {E : xE} {z : Nat × Nat × Nat} {y : xMT} {pc : Nat} {ls st : List xV} {M : xM} {Q : Option xV → xM → Prop}
theorem x_dec {y : xMT} (hM : x_Mok y) {n pc len : Nat} {i : Instr} (hd : y.2.2.2.2[n]? = some (pc, i, len)) : decode y.2.1 pc = .ok (i, len) := by
  have h := hM.2.2.1 (pc, i, len) (List.mem_of_getElem? hd)
  exact h
theorem x_Ev.step {pc' : Nat} {st' : List xV} (k : x_Ev l E z y pc' ls st' M Q)
    (h : ∀ (p : Program) (e : Env) (R : Room) (s : State) (m : MethodId) (args : Array Value) (below : List Frame) (meth : Method) (c : Code) (H : Heap) (locs : List Loc) (cells slots : Nat) (lr : Array Slot) (Q' : State → Prop), x_Mok y → x_Cx E y p s m args meth c → x_NR E H M → x_LR E ls lr y.2.2.1 → (∀ v ∈ ls, x_okV M v) → (∀ v ∈ st, x_okV M v) →
      (∀ v ∈ st', x_okV M v) ∧ (W p l e R s m args below meth c H locs cells slots Q' (F0 m pc' lr (st'.map (x_cw E))) → W p l e R s m args below meth c H locs cells slots Q' (F0 m pc lr (st.map (x_cw E))))) : x_Ev l E z y pc ls st M Q := by
  intro p e R s m args below meth c H locs cells slots lr hM hC hf hl hc hs hN hlo hL hol hos
  obtain ⟨h1, h2⟩ := h p e R s m args below meth c H locs cells slots lr _ hM hC hN hL hol hos
  exact h2 (k p e R s m args below meth c H locs cells slots lr hM hC hf hl hc hs hN hlo hL hol h1)
theorem x_Ev.mono {Q' : Option xV → xM → Prop} (k : x_Ev l E z y pc ls st M Q) (h : ∀ r M1, Q r M1 → Q' r M1) : x_Ev l E z y pc ls st M Q' := by
  intro p e R s m args below meth c H locs cells slots lr hM hC hf hl hc hs hN hlo hL hol hos T hT X
  obtain ⟨t, a, o, b1, b2, ⟨r, M1, b3, b4, b5, b6, b0, b7⟩, b8⟩ := k p e R s m args below meth c H locs cells slots lr hM hC hf hl hc hs hN hlo hL hol hos T hT X
  exact ⟨t, a, o, b1, b2, ⟨r, M1, b3, b4, b5, b6, b0, h r M1 b7⟩, b8⟩
theorem x_Wwr {p : Program} {l : Launch} {e : Env} {R : Room} {s : State} {m : MethodId} {args : Array Value} {below : List Frame} {meth : Method} {c : Code} {H : Heap} {locs : List Loc} {cells slots n1 n2 : Nat} {g : JFrame} {M M0 : xM} {free : Addr → Prop} (hx : x_ext M M0) (k : W p l e R s m args below meth c H locs cells slots (MQ below (x_QQ E M0 Q) args s n1 n2 free) g) : W p l e R s m args below meth c H locs cells slots (MQ below (x_QQ E M Q) args s n1 n2 free) g := by
  intro T hT X
  obtain ⟨t, a, o, b1, b2, ⟨r, M1, b3, b4, b5, b6, b0, b7⟩, b8⟩ := k T hT X
  exact ⟨t, a, o, b1, b2, ⟨r, M1, b3, b4, b5, b6, hx.tr b0, b7⟩, b8⟩
theorem x_Ev.W {p : Program} {l : Launch} {e : Env} {R : Room} {s : State} {m : MethodId} {args : Array Value} {below : List Frame} {meth : Method} {c : Code} {H : Heap} {locs : List Loc} {cells slots : Nat} {Q : State → Prop} {lr : Array Slot} {a b : List Value} (h : b = a) (k : W p l e R s m args below meth c H locs cells slots Q (F0 m pc lr a)) : W p l e R s m args below meth c H locs cells slots Q (F0 m pc lr b) := h ▸ k
theorem x_ok1 {P : xV → Prop} {a : xV} (h : ∀ v ∈ a :: st, P v) : P a ∧ ∀ v ∈ st, P v := ⟨h a List.mem_cons_self, fun v hv => h v (List.mem_cons_of_mem _ hv)⟩
theorem x_ok2 {P : xV → Prop} {a b : xV} (h : ∀ v ∈ a :: b :: st, P v) : P a ∧ P b ∧ ∀ v ∈ st, P v := ⟨(x_ok1 h).1, (x_ok1 (x_ok1 h).2).1, (x_ok1 (x_ok1 h).2).2⟩
theorem x_ok3 {P : xV → Prop} {a b d : xV} (h : ∀ v ∈ a :: b :: d :: st, P v) : P a ∧ P b ∧ P d ∧ ∀ v ∈ st, P v := ⟨(x_ok1 h).1, x_ok2 (x_ok1 h).2⟩
theorem x_okc {P : xV → Prop} {a : xV} (h1 : P a) (h : ∀ v ∈ st, P v) : ∀ v ∈ a :: st, P v := List.forall_mem_cons.mpr ⟨h1, h⟩
theorem x_okl {P : xV → Prop} {j : Nat} {v : xV} (h : ∀ v ∈ ls, P v) (hj : ls[j]? = some v) : P v := h v (List.mem_of_getElem? hj)
theorem i_iadd {a b : Int} (n : Nat) (hd : y.2.2.2.2[n]? = some (pc, .iadd, 1)) (k : x_Ev l E z y (pc + 1) ls ((0, x_w (a + b)) :: st) M Q) : x_Ev l E z y pc ls ((0, b) :: (0, a) :: st) M Q := by
  refine k.step (fun p e R s m args below meth c H locs cells slots lr Q' hM hC hN hL hol hos => ?_)
  obtain ⟨ob, oa, os⟩ := x_ok2 hos
  refine ⟨x_okc (x_w_rg _) os, fun kk => lv_iadd hC.1 hC.2.1 (x_dec hM hd) (x_Ev.W ?_ kk)⟩
  simp only [List.map, x_cw0]
  rw [x_addI]
theorem i_ladd {a b : Int} (n : Nat) (hd : y.2.2.2.2[n]? = some (pc, .ladd, 1)) (k : x_Ev l E z y (pc + 1) ls ((1, x_W (a + b)) :: st) M Q) : x_Ev l E z y pc ls ((1, b) :: (1, a) :: st) M Q := by
  refine k.step (fun p e R s m args below meth c H locs cells slots lr Q' hM hC hN hL hol hos => ?_)
  obtain ⟨ob, oa, os⟩ := x_ok2 hos
  refine ⟨x_okc (x_W_rg _) os, fun kk => lv_ladd hC.1 hC.2.1 (x_dec hM hd) (x_Ev.W ?_ kk)⟩
  simp only [List.map, x_cw1]
  rw [x_addL]
theorem i_isub {a b : Int} (n : Nat) (hd : y.2.2.2.2[n]? = some (pc, .isub, 1)) (k : x_Ev l E z y (pc + 1) ls ((0, x_w (a - b)) :: st) M Q) : x_Ev l E z y pc ls ((0, b) :: (0, a) :: st) M Q := by
  refine k.step (fun p e R s m args below meth c H locs cells slots lr Q' hM hC hN hL hol hos => ?_)
  obtain ⟨ob, oa, os⟩ := x_ok2 hos
  refine ⟨x_okc (x_w_rg _) os, fun kk => lv_isub hC.1 hC.2.1 (x_dec hM hd) (x_Ev.W ?_ kk)⟩
  simp only [List.map, x_cw0]
  rw [x_subI]
theorem i_lsub {a b : Int} (n : Nat) (hd : y.2.2.2.2[n]? = some (pc, .lsub, 1)) (k : x_Ev l E z y (pc + 1) ls ((1, x_W (a - b)) :: st) M Q) : x_Ev l E z y pc ls ((1, b) :: (1, a) :: st) M Q := by
  refine k.step (fun p e R s m args below meth c H locs cells slots lr Q' hM hC hN hL hol hos => ?_)
  obtain ⟨ob, oa, os⟩ := x_ok2 hos
  refine ⟨x_okc (x_W_rg _) os, fun kk => lv_lsub hC.1 hC.2.1 (x_dec hM hd) (x_Ev.W ?_ kk)⟩
  simp only [List.map, x_cw1]
  rw [x_subL]
theorem i_imul {a b : Int} (n : Nat) (hd : y.2.2.2.2[n]? = some (pc, .imul, 1)) (k : x_Ev l E z y (pc + 1) ls ((0, x_w (a * b)) :: st) M Q) : x_Ev l E z y pc ls ((0, b) :: (0, a) :: st) M Q := by
  refine k.step (fun p e R s m args below meth c H locs cells slots lr Q' hM hC hN hL hol hos => ?_)
  obtain ⟨ob, oa, os⟩ := x_ok2 hos
  refine ⟨x_okc (x_w_rg _) os, fun kk => lv_imul hC.1 hC.2.1 (x_dec hM hd) (x_Ev.W ?_ kk)⟩
  simp only [List.map, x_cw0]
  rw [x_mulI]
theorem i_lmul {a b : Int} (n : Nat) (hd : y.2.2.2.2[n]? = some (pc, .lmul, 1)) (k : x_Ev l E z y (pc + 1) ls ((1, x_W (a * b)) :: st) M Q) : x_Ev l E z y pc ls ((1, b) :: (1, a) :: st) M Q := by
  refine k.step (fun p e R s m args below meth c H locs cells slots lr Q' hM hC hN hL hol hos => ?_)
  obtain ⟨ob, oa, os⟩ := x_ok2 hos
  refine ⟨x_okc (x_W_rg _) os, fun kk => lv_lmul hC.1 hC.2.1 (x_dec hM hd) (x_Ev.W ?_ kk)⟩
  simp only [List.map, x_cw1]
  rw [x_mulL]
def x_iand (a b : Int) : Int := (Int32.ofInt a &&& Int32.ofInt b).toInt
def x_land (a b : Int) : Int := (Int64.ofInt a &&& Int64.ofInt b).toInt
theorem i_iand {a b : Int} (n : Nat) (hd : y.2.2.2.2[n]? = some (pc, .iand, 1)) (k : x_Ev l E z y (pc + 1) ls ((0, x_iand a b) :: st) M Q) : x_Ev l E z y pc ls ((0, b) :: (0, a) :: st) M Q := by
  refine k.step (fun p e R s m args below meth c H locs cells slots lr Q' hM hC hN hL hol hos => ?_)
  obtain ⟨ob, oa, os⟩ := x_ok2 hos
  refine ⟨x_okc (x_rgI _) os, fun kk => lv_iand hC.1 hC.2.1 (x_dec hM hd) (x_Ev.W ?_ kk)⟩
  simp only [List.map, x_cw0]
  rw [x_iand, x_ofI]
theorem i_land {a b : Int} (n : Nat) (hd : y.2.2.2.2[n]? = some (pc, .land, 1)) (k : x_Ev l E z y (pc + 1) ls ((1, x_land a b) :: st) M Q) : x_Ev l E z y pc ls ((1, b) :: (1, a) :: st) M Q := by
  refine k.step (fun p e R s m args below meth c H locs cells slots lr Q' hM hC hN hL hol hos => ?_)
  obtain ⟨ob, oa, os⟩ := x_ok2 hos
  refine ⟨x_okc (x_rgL _) os, fun kk => lv_land hC.1 hC.2.1 (x_dec hM hd) (x_Ev.W ?_ kk)⟩
  simp only [List.map, x_cw1]
  rw [x_land, x_ofL]
def x_ior (a b : Int) : Int := (Int32.ofInt a ||| Int32.ofInt b).toInt
def x_lor (a b : Int) : Int := (Int64.ofInt a ||| Int64.ofInt b).toInt
theorem i_ior {a b : Int} (n : Nat) (hd : y.2.2.2.2[n]? = some (pc, .ior, 1)) (k : x_Ev l E z y (pc + 1) ls ((0, x_ior a b) :: st) M Q) : x_Ev l E z y pc ls ((0, b) :: (0, a) :: st) M Q := by
  refine k.step (fun p e R s m args below meth c H locs cells slots lr Q' hM hC hN hL hol hos => ?_)
  obtain ⟨ob, oa, os⟩ := x_ok2 hos
  refine ⟨x_okc (x_rgI _) os, fun kk => lv_ior hC.1 hC.2.1 (x_dec hM hd) (x_Ev.W ?_ kk)⟩
  simp only [List.map, x_cw0]
  rw [x_ior, x_ofI]
theorem i_lor {a b : Int} (n : Nat) (hd : y.2.2.2.2[n]? = some (pc, .lor, 1)) (k : x_Ev l E z y (pc + 1) ls ((1, x_lor a b) :: st) M Q) : x_Ev l E z y pc ls ((1, b) :: (1, a) :: st) M Q := by
  refine k.step (fun p e R s m args below meth c H locs cells slots lr Q' hM hC hN hL hol hos => ?_)
  obtain ⟨ob, oa, os⟩ := x_ok2 hos
  refine ⟨x_okc (x_rgL _) os, fun kk => lv_lor hC.1 hC.2.1 (x_dec hM hd) (x_Ev.W ?_ kk)⟩
  simp only [List.map, x_cw1]
  rw [x_lor, x_ofL]
def x_ixor (a b : Int) : Int := (Int32.ofInt a ^^^ Int32.ofInt b).toInt
def x_lxor (a b : Int) : Int := (Int64.ofInt a ^^^ Int64.ofInt b).toInt
theorem i_ixor {a b : Int} (n : Nat) (hd : y.2.2.2.2[n]? = some (pc, .ixor, 1)) (k : x_Ev l E z y (pc + 1) ls ((0, x_ixor a b) :: st) M Q) : x_Ev l E z y pc ls ((0, b) :: (0, a) :: st) M Q := by
  refine k.step (fun p e R s m args below meth c H locs cells slots lr Q' hM hC hN hL hol hos => ?_)
  obtain ⟨ob, oa, os⟩ := x_ok2 hos
  refine ⟨x_okc (x_rgI _) os, fun kk => lv_ixor hC.1 hC.2.1 (x_dec hM hd) (x_Ev.W ?_ kk)⟩
  simp only [List.map, x_cw0]
  rw [x_ixor, x_ofI]
theorem i_lxor {a b : Int} (n : Nat) (hd : y.2.2.2.2[n]? = some (pc, .lxor, 1)) (k : x_Ev l E z y (pc + 1) ls ((1, x_lxor a b) :: st) M Q) : x_Ev l E z y pc ls ((1, b) :: (1, a) :: st) M Q := by
  refine k.step (fun p e R s m args below meth c H locs cells slots lr Q' hM hC hN hL hol hos => ?_)
  obtain ⟨ob, oa, os⟩ := x_ok2 hos
  refine ⟨x_okc (x_rgL _) os, fun kk => lv_lxor hC.1 hC.2.1 (x_dec hM hd) (x_Ev.W ?_ kk)⟩
  simp only [List.map, x_cw1]
  rw [x_lxor, x_ofL]
def x_ishl (a b : Int) : Int := (Int32.ofInt a <<< (Int32.ofInt b &&& 31)).toInt
theorem i_ishl {a b : Int} (n : Nat) (hd : y.2.2.2.2[n]? = some (pc, .ishl, 1)) (k : x_Ev l E z y (pc + 1) ls ((0, x_ishl a b) :: st) M Q) : x_Ev l E z y pc ls ((0, b) :: (0, a) :: st) M Q := by
  refine k.step (fun p e R s m args below meth c H locs cells slots lr Q' hM hC hN hL hol hos => ?_)
  obtain ⟨ob, oa, os⟩ := x_ok2 hos
  refine ⟨x_okc (x_rgI _) os, fun kk => lv_ishl hC.1 hC.2.1 (x_dec hM hd) (x_Ev.W ?_ kk)⟩
  simp only [List.map, x_cw0]
  rw [x_ishl, x_ofI]
def x_ishr (a b : Int) : Int := (Int32.ofInt a >>> (Int32.ofInt b &&& 31)).toInt
theorem i_ishr {a b : Int} (n : Nat) (hd : y.2.2.2.2[n]? = some (pc, .ishr, 1)) (k : x_Ev l E z y (pc + 1) ls ((0, x_ishr a b) :: st) M Q) : x_Ev l E z y pc ls ((0, b) :: (0, a) :: st) M Q := by
  refine k.step (fun p e R s m args below meth c H locs cells slots lr Q' hM hC hN hL hol hos => ?_)
  obtain ⟨ob, oa, os⟩ := x_ok2 hos
  refine ⟨x_okc (x_rgI _) os, fun kk => lv_ishr hC.1 hC.2.1 (x_dec hM hd) (x_Ev.W ?_ kk)⟩
  simp only [List.map, x_cw0]
  rw [x_ishr, x_ofI]
def x_iushr (a b : Int) : Int := ((Int32.ofInt a).toUInt32 >>> ((Int32.ofInt b).toUInt32 &&& Int32.toUInt32 31)).toInt32.toInt
theorem i_iushr {a b : Int} (n : Nat) (hd : y.2.2.2.2[n]? = some (pc, .iushr, 1)) (k : x_Ev l E z y (pc + 1) ls ((0, x_iushr a b) :: st) M Q) : x_Ev l E z y pc ls ((0, b) :: (0, a) :: st) M Q := by
  refine k.step (fun p e R s m args below meth c H locs cells slots lr Q' hM hC hN hL hol hos => ?_)
  obtain ⟨ob, oa, os⟩ := x_ok2 hos
  refine ⟨x_okc (x_rgI _) os, fun kk => lv_iushr hC.1 hC.2.1 (x_dec hM hd) rfl (x_Ev.W ?_ kk)⟩
  simp only [List.map, x_cw0]
  rw [x_iushr, x_ofI]
def x_lshl (a b : Int) : Int := (Int64.ofInt a <<< ((Int32.ofInt b).toInt64 &&& 63)).toInt
theorem i_lshl {a b : Int} (n : Nat) (hd : y.2.2.2.2[n]? = some (pc, .lshl, 1)) (k : x_Ev l E z y (pc + 1) ls ((1, x_lshl a b) :: st) M Q) : x_Ev l E z y pc ls ((0, b) :: (1, a) :: st) M Q := by
  refine k.step (fun p e R s m args below meth c H locs cells slots lr Q' hM hC hN hL hol hos => ?_)
  obtain ⟨ob, oa, os⟩ := x_ok2 hos
  refine ⟨x_okc (x_rgL _) os, fun kk => lv_lshl hC.1 hC.2.1 (x_dec hM hd) rfl (x_Ev.W ?_ kk)⟩
  simp only [List.map, x_cw0, x_cw1]
  rw [x_lshl, x_ofL]
theorem i_idiv {a b : Int} (n : Nat) (hd : y.2.2.2.2[n]? = some (pc, .idiv, 1)) (hb : b ≠ 0) (k : x_Ev l E z y (pc + 1) ls ((0, x_w (a.tdiv b)) :: st) M Q) : x_Ev l E z y pc ls ((0, b) :: (0, a) :: st) M Q := by
  refine k.step (fun p e R s m args below meth c H locs cells slots lr Q' hM hC hN hL hol hos => ?_)
  obtain ⟨ob, oa, os⟩ := x_ok2 hos
  refine ⟨x_okc (x_w_rg _) os, fun kk => lv_idiv hC.1 hC.2.1 (x_dec hM hd) (fun q => hb ((x_eqI ob x_rg0).mp q)) (x_Ev.W ?_ kk)⟩
  simp only [List.map, x_cw0]
  rw [x_divI oa ob]
theorem i_irem {a b : Int} (n : Nat) (hd : y.2.2.2.2[n]? = some (pc, .irem, 1)) (hb : b ≠ 0) (k : x_Ev l E z y (pc + 1) ls ((0, a.tmod b) :: st) M Q) : x_Ev l E z y pc ls ((0, b) :: (0, a) :: st) M Q := by
  refine k.step (fun p e R s m args below meth c H locs cells slots lr Q' hM hC hN hL hol hos => ?_)
  obtain ⟨ob, oa, os⟩ := x_ok2 hos
  refine ⟨x_okc (x_tmod_rg0 oa) os, fun kk => lv_irem hC.1 hC.2.1 (x_dec hM hd) (fun q => hb ((x_eqI ob x_rg0).mp q)) (x_Ev.W ?_ kk)⟩
  simp only [List.map, x_cw0]
  rw [x_remI oa ob]
theorem i_ldiv {a b : Int} (n : Nat) (hd : y.2.2.2.2[n]? = some (pc, .ldiv, 1)) (hb : b ≠ 0) (k : x_Ev l E z y (pc + 1) ls ((1, x_W (a.tdiv b)) :: st) M Q) : x_Ev l E z y pc ls ((1, b) :: (1, a) :: st) M Q := by
  refine k.step (fun p e R s m args below meth c H locs cells slots lr Q' hM hC hN hL hol hos => ?_)
  obtain ⟨ob, oa, os⟩ := x_ok2 hos
  refine ⟨x_okc (x_W_rg _) os, fun kk => lv_ldiv hC.1 hC.2.1 (x_dec hM hd) (fun q => hb ((x_eqL ob ⟨by omega, by omega⟩).mp q)) (x_Ev.W ?_ kk)⟩
  simp only [List.map, x_cw1]
  rw [x_divL oa ob]
theorem i_lrem {a b : Int} (n : Nat) (hd : y.2.2.2.2[n]? = some (pc, .lrem, 1)) (hb : b ≠ 0) (k : x_Ev l E z y (pc + 1) ls ((1, a.tmod b) :: st) M Q) : x_Ev l E z y pc ls ((1, b) :: (1, a) :: st) M Q := by
  refine k.step (fun p e R s m args below meth c H locs cells slots lr Q' hM hC hN hL hol hos => ?_)
  obtain ⟨ob, oa, os⟩ := x_ok2 hos
  refine ⟨x_okc (x_tmod_rg1 oa) os, fun kk => lv_lrem hC.1 hC.2.1 (x_dec hM hd) (fun q => hb ((x_eqL ob ⟨by omega, by omega⟩).mp q)) (x_Ev.W ?_ kk)⟩
  simp only [List.map, x_cw1]
  rw [x_remL oa ob]
theorem i_ineg {a : Int} (n : Nat) (hd : y.2.2.2.2[n]? = some (pc, .ineg, 1)) (k : x_Ev l E z y (pc + 1) ls ((0, x_w (- a)) :: st) M Q) : x_Ev l E z y pc ls ((0, a) :: st) M Q := by
  refine k.step (fun p e R s m args below meth c H locs cells slots lr Q' hM hC hN hL hol hos => ?_)
  obtain ⟨oa, os⟩ := x_ok1 hos
  refine ⟨x_okc (x_w_rg _) os, fun kk => lv_ineg hC.1 hC.2.1 (x_dec hM hd) (x_Ev.W ?_ kk)⟩
  simp only [List.map, x_cw0]
  rw [x_negI]
theorem i_lneg {a : Int} (n : Nat) (hd : y.2.2.2.2[n]? = some (pc, .lneg, 1)) (k : x_Ev l E z y (pc + 1) ls ((1, x_W (- a)) :: st) M Q) : x_Ev l E z y pc ls ((1, a) :: st) M Q := by
  refine k.step (fun p e R s m args below meth c H locs cells slots lr Q' hM hC hN hL hol hos => ?_)
  obtain ⟨oa, os⟩ := x_ok1 hos
  refine ⟨x_okc (x_W_rg _) os, fun kk => lv_lneg hC.1 hC.2.1 (x_dec hM hd) (x_Ev.W ?_ kk)⟩
  simp only [List.map, x_cw1]
  rw [x_negL]
theorem i_i2l {a : Int} (n : Nat) (hd : y.2.2.2.2[n]? = some (pc, .i2l, 1)) (k : x_Ev l E z y (pc + 1) ls ((1, a) :: st) M Q) : x_Ev l E z y pc ls ((0, a) :: st) M Q := by
  refine k.step (fun p e R s m args below meth c H locs cells slots lr Q' hM hC hN hL hol hos => ?_)
  obtain ⟨oa, os⟩ := x_ok1 hos
  exact ⟨x_okc (⟨by have := oa.1; omega, by have := oa.2; omega⟩) os, fun kk => lv_i2l hC.1 hC.2.1 (x_dec hM hd) (x_i2l oa) kk⟩
theorem i_l2i {a : Int} (n : Nat) (hd : y.2.2.2.2[n]? = some (pc, .l2i, 1)) (k : x_Ev l E z y (pc + 1) ls ((0, x_w a) :: st) M Q) : x_Ev l E z y pc ls ((1, a) :: st) M Q := by
  refine k.step (fun p e R s m args below meth c H locs cells slots lr Q' hM hC hN hL hol hos => ?_)
  obtain ⟨oa, os⟩ := x_ok1 hos
  exact ⟨x_okc (x_w_rg _) os, fun kk => lv_l2i hC.1 hC.2.1 (x_dec hM hd) (x_l2i oa) kk⟩
def x_i2b (a : Int) : Int := ((Int32.ofInt a).toInt8.toInt32).toInt
theorem i_i2b {a : Int} (n : Nat) (hd : y.2.2.2.2[n]? = some (pc, .i2b, 1)) (k : x_Ev l E z y (pc + 1) ls ((0, x_i2b a) :: st) M Q) : x_Ev l E z y pc ls ((0, a) :: st) M Q := by
  refine k.step (fun p e R s m args below meth c H locs cells slots lr Q' hM hC hN hL hol hos => ?_)
  obtain ⟨oa, os⟩ := x_ok1 hos
  refine ⟨x_okc (x_rgI _) os, fun kk => lv_i2b hC.1 hC.2.1 (x_dec hM hd) rfl (x_Ev.W ?_ kk)⟩
  simp only [List.map, x_cw0]
  rw [x_i2b, x_ofI]
theorem i_iconst {v : Int} (n : Nat) (hd : y.2.2.2.2[n]? = some (pc, .iconst v, 1)) (hr : -2147483648 ≤ v ∧ v < 2147483648) (k : x_Ev l E z y (pc + 1) ls ((0, v) :: st) M Q) : x_Ev l E z y pc ls st M Q :=
  k.step (fun p e R s m args below meth c H locs cells slots lr Q' hM hC hN hL hol hos => ⟨x_okc hr hos, fun kk => lv_iconst hC.1 hC.2.1 (x_dec hM hd) rfl kk⟩)
theorem i_bipush {v : Int} (n : Nat) (hd : y.2.2.2.2[n]? = some (pc, .bipush v, 2)) (hr : (Int8.ofInt v).toInt32 = Int32.ofInt v ∧ (-2147483648 ≤ v ∧ v < 2147483648)) (k : x_Ev l E z y (pc + 2) ls ((0, v) :: st) M Q) : x_Ev l E z y pc ls st M Q :=
  k.step (fun p e R s m args below meth c H locs cells slots lr Q' hM hC hN hL hol hos => ⟨x_okc hr.2 hos, fun kk => lv_bipush hC.1 hC.2.1 (x_dec hM hd) hr.1 kk⟩)
theorem i_sipush {v : Int} (n : Nat) (hd : y.2.2.2.2[n]? = some (pc, .sipush v, 3)) (hr : (Int16.ofInt v).toInt32 = Int32.ofInt v ∧ (-2147483648 ≤ v ∧ v < 2147483648)) (k : x_Ev l E z y (pc + 3) ls ((0, v) :: st) M Q) : x_Ev l E z y pc ls st M Q :=
  k.step (fun p e R s m args below meth c H locs cells slots lr Q' hM hC hN hL hol hos => ⟨x_okc hr.2 hos, fun kk => lv_sipush hC.1 hC.2.1 (x_dec hM hd) hr.1 kk⟩)
theorem i_lconst {v : Fin 2} {w : Int} (n : Nat) (hd : y.2.2.2.2[n]? = some (pc, .lconst v, 1)) (hr : Int64.ofNat (v : Nat) = Int64.ofInt w ∧ (0 ≤ w ∧ w < 2)) (k : x_Ev l E z y (pc + 1) ls ((1, w) :: st) M Q) : x_Ev l E z y pc ls st M Q :=
  k.step (fun p e R s m args below meth c H locs cells slots lr Q' hM hC hN hL hol hos => ⟨x_okc ⟨by have := hr.2; omega, by have := hr.2; omega⟩ hos, fun kk => lv_lconst hC.1 hC.2.1 (x_dec hM hd) hr.1 kk⟩)
theorem i_ldc {i : Nat} {v : Int} {w : Int32} (n : Nat) (hd : y.2.2.2.2[n]? = some (pc, .ldc i, 2)) (hc : Cond.constant y.1.cls i w ∈ x_tb) (hw : w = Int32.ofInt v ∧ (-2147483648 ≤ v ∧ v < 2147483648)) (k : x_Ev l E z y (pc + 2) ls ((0, v) :: st) M Q) : x_Ev l E z y pc ls st M Q :=
  k.step (fun p e R s m args below meth c H locs cells slots lr Q' hM hC hN hL hol hos => ⟨x_okc hw.2 hos, fun kk => lv_ldc hC.1 hC.2.1 hC.2.2.2.2.2.2.1 (hC.2.2.2.2.2.2.2.1 _ hc) (x_dec hM hd) (by rw [hw.1]; exact kk)⟩)
theorem i_ldcw {i : Nat} {v : Int} {w : Int32} (n : Nat) (hd : y.2.2.2.2[n]? = some (pc, .ldc_w i, 3)) (hc : Cond.constant y.1.cls i w ∈ x_tb) (hw : w = Int32.ofInt v ∧ (-2147483648 ≤ v ∧ v < 2147483648)) (k : x_Ev l E z y (pc + 3) ls ((0, v) :: st) M Q) : x_Ev l E z y pc ls st M Q :=
  k.step (fun p e R s m args below meth c H locs cells slots lr Q' hM hC hN hL hol hos => ⟨x_okc hw.2 hos, fun kk => lv_ldcw hC.1 hC.2.1 hC.2.2.2.2.2.2.1 (hC.2.2.2.2.2.2.2.1 _ hc) (x_dec hM hd) (by rw [hw.1]; exact kk)⟩)
theorem i_ldc2 {i : Nat} {v : Int} {w : Int64} (n : Nat) (hd : y.2.2.2.2[n]? = some (pc, .ldc2_w i, 3)) (hc : Cond.constantLong y.1.cls i w ∈ x_tb) (hw : w = Int64.ofInt v ∧ (-9223372036854775808 ≤ v ∧ v < 9223372036854775808)) (k : x_Ev l E z y (pc + 3) ls ((1, v) :: st) M Q) : x_Ev l E z y pc ls st M Q :=
  k.step (fun p e R s m args below meth c H locs cells slots lr Q' hM hC hN hL hol hos => ⟨x_okc hw.2 hos, fun kk => lv_ldc2 hC.1 hC.2.1 hC.2.2.2.2.2.2.1 (hC.2.2.2.2.2.2.2.1 _ hc) (x_dec hM hd) (by rw [hw.1]; exact kk)⟩)
theorem i_null (n : Nat) (hd : y.2.2.2.2[n]? = some (pc, .aconst_null, 1)) (k : x_Ev l E z y (pc + 1) ls ((2, -1) :: st) M Q) : x_Ev l E z y pc ls st M Q :=
  k.step (fun p e R s m args below meth c H locs cells slots lr Q' hM hC hN hL hol hos => ⟨x_okc (a := (2, -1)) rfl hos, fun kk => lv_null hC.1 hC.2.1 (x_dec hM hd) kk⟩)
theorem i_iload_n {i : Fin 4} {a : Int} (n : Nat) (hd : y.2.2.2.2[n]? = some (pc, .iload_n i, 1)) (hv : ls[(i : Nat)]? = some (0, a)) (k : x_Ev l E z y (pc + 1) ls ((0, a) :: st) M Q) : x_Ev l E z y pc ls st M Q :=
  k.step (fun p e R s m args below meth c H locs cells slots lr Q' hM hC hN hL hol hos => ⟨x_okc (x_okl hol hv) hos, fun kk => lv_iload_n hC.1 hC.2.1 (x_dec hM hd) rfl (hL.at hv (Nat.ne_of_beq_eq_false rfl)) kk⟩)
theorem i_iload {i : Nat} {a : Int} (n : Nat) (hd : y.2.2.2.2[n]? = some (pc, .iload i, 2)) (hv : ls[i]? = some (0, a)) (k : x_Ev l E z y (pc + 2) ls ((0, a) :: st) M Q) : x_Ev l E z y pc ls st M Q :=
  k.step (fun p e R s m args below meth c H locs cells slots lr Q' hM hC hN hL hol hos => ⟨x_okc (x_okl hol hv) hos, fun kk => lv_iload hC.1 hC.2.1 (x_dec hM hd) (hL.at hv (Nat.ne_of_beq_eq_false rfl)) kk⟩)
theorem i_lload_n {i : Fin 4} {a : Int} (n : Nat) (hd : y.2.2.2.2[n]? = some (pc, .lload_n i, 1)) (hv : ls[(i : Nat)]? = some (1, a)) (k : x_Ev l E z y (pc + 1) ls ((1, a) :: st) M Q) : x_Ev l E z y pc ls st M Q :=
  k.step (fun p e R s m args below meth c H locs cells slots lr Q' hM hC hN hL hol hos => ⟨x_okc (x_okl hol hv) hos, fun kk => lv_lload_n hC.1 hC.2.1 (x_dec hM hd) rfl (hL.at hv (Nat.ne_of_beq_eq_false rfl)) kk⟩)
theorem i_lload {i : Nat} {a : Int} (n : Nat) (hd : y.2.2.2.2[n]? = some (pc, .lload i, 2)) (hv : ls[i]? = some (1, a)) (k : x_Ev l E z y (pc + 2) ls ((1, a) :: st) M Q) : x_Ev l E z y pc ls st M Q :=
  k.step (fun p e R s m args below meth c H locs cells slots lr Q' hM hC hN hL hol hos => ⟨x_okc (x_okl hol hv) hos, fun kk => lv_lload hC.1 hC.2.1 (x_dec hM hd) (hL.at hv (Nat.ne_of_beq_eq_false rfl)) kk⟩)
theorem x_cwD (E : xE) (t : Nat) (a : Int) (ht : 2 ≤ t) : x_cw E (t, a) = .null ∨ ∃ b, x_cw E (t, a) = .ref b := by
  obtain ⟨t', rfl⟩ : ∃ t', t = t' + 2 := ⟨t - 2, by omega⟩
  by_cases h : a < 0
  · exact Or.inl (x_cwN E t' a h)
  · exact Or.inr ⟨_, x_cwR E t' a h⟩
theorem i_aload_n {i : Fin 4} {t : Nat} {a : Int} (n : Nat) (hd : y.2.2.2.2[n]? = some (pc, .aload_n i, 1)) (hv : ls[(i : Nat)]? = some (t, a)) (ht : 2 ≤ t ∧ t ≠ 5) (k : x_Ev l E z y (pc + 1) ls ((t, a) :: st) M Q) : x_Ev l E z y pc ls st M Q := by
  refine k.step (fun p e R s m args below meth c H locs cells slots lr Q' hM hC hN hL hol hos => ⟨x_okc (x_okl hol hv) hos, fun kk => ?_⟩)
  have h := hL.at hv ht.2
  rcases x_cwD E t a ht.1 with q | ⟨b, q⟩
  · rw [q] at h; simp only [List.map, q] at kk; exact lv_aload_nN hC.1 hC.2.1 (x_dec hM hd) rfl h kk
  · rw [q] at h; simp only [List.map, q] at kk; exact lv_aload_n hC.1 hC.2.1 (x_dec hM hd) rfl h kk
theorem i_aload {i : Nat} {t : Nat} {a : Int} (n : Nat) (hd : y.2.2.2.2[n]? = some (pc, .aload i, 2)) (hv : ls[i]? = some (t, a)) (ht : 2 ≤ t ∧ t ≠ 5) (k : x_Ev l E z y (pc + 2) ls ((t, a) :: st) M Q) : x_Ev l E z y pc ls st M Q := by
  refine k.step (fun p e R s m args below meth c H locs cells slots lr Q' hM hC hN hL hol hos => ⟨x_okc (x_okl hol hv) hos, fun kk => ?_⟩)
  have h := hL.at hv ht.2
  rcases x_cwD E t a ht.1 with q | ⟨b, q⟩
  · rw [q] at h; simp only [List.map, q] at kk; exact lv_aloadN hC.1 hC.2.1 (x_dec hM hd) h kk
  · rw [q] at h; simp only [List.map, q] at kk; exact lv_aload hC.1 hC.2.1 (x_dec hM hd) h kk
theorem i_dup {v : xV} (n : Nat) (hd : y.2.2.2.2[n]? = some (pc, .dup, 1)) (hv : v.1 ≠ 1) (k : x_Ev l E z y (pc + 1) ls (v :: v :: st) M Q) : x_Ev l E z y pc ls (v :: st) M Q :=
  k.step (fun p e R s m args below meth c H locs cells slots lr Q' hM hC hN hL hol hos => ⟨x_okc (x_ok1 hos).1 hos, fun kk => lv_dup hC.1 hC.2.1 (x_dec hM hd) (by rw [x_cat, if_neg hv]) kk⟩)
theorem i_dup2 {v w : xV} (n : Nat) (hd : y.2.2.2.2[n]? = some (pc, .dup2, 1)) (hv : v.1 ≠ 1 ∧ w.1 ≠ 1) (k : x_Ev l E z y (pc + 1) ls (v :: w :: v :: w :: st) M Q) : x_Ev l E z y pc ls (v :: w :: st) M Q :=
  k.step (fun p e R s m args below meth c H locs cells slots lr Q' hM hC hN hL hol hos => ⟨x_okc (x_ok2 hos).1 (x_okc (x_ok2 hos).2.1 hos), fun kk => lv_dup2_11 hC.1 hC.2.1 (x_dec hM hd) (by rw [x_cat, if_neg hv.1]) (by rw [x_cat, if_neg hv.2]) kk⟩)
theorem i_goto {off : Int} (tgt n : Nat) (hd : y.2.2.2.2[n]? = some (pc, .goto off, 3)) (ht : (pc : Int) + off = (tgt : Int)) (k : x_Ev l E z y tgt ls st M Q) : x_Ev l E z y pc ls st M Q :=
  k.step (fun p e R s m args below meth c H locs cells slots lr Q' hM hC hN hL hol hos => ⟨hos, fun kk => lv_goto hC.1 hC.2.1 (x_dec hM hd) ht kk⟩)
end XR
