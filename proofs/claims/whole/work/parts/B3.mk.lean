/-! The constructors' machine: cells as they are made. A cell: its kind (a class's number, or 100 + an array's kind), its length, its slots -/
abbrev gC : Type := Nat × Nat × (Nat → xV)
def g_is (E : xE) (H : Heap) (a : Nat) (q : gC) : Prop := if q.1 < 100 then x_CLo E q.1 a (fun k => x_vv (q.2.2 k)) H else x_CLa E (q.1 - 100) a q.2.1 (fun k => x_vv (q.2.2 k)) H
def g_up (g : Nat → gC) (a : Nat) (q : gC) : Nat → gC := fun b => if b = a then q else g b
def g_ups (g : Nat → gC) (a cn : Nat) (q : Nat → gC) : Nat → gC := fun b => if a ≤ b ∧ b < a + cn then q (b - a) else g b
def g_stc (q : gC) (k : Nat) (v : xV) : gC := (q.1, q.2.1, fun j => if j = k then v else q.2.2 j)
def g_st (g : Nat → gC) (a k : Nat) (v : xV) : Nat → gC := g_up g a (g_stc (g a) k v)
def g_H (E : xE) (H : Heap) (n : Nat) (g : Nat → gC) : Prop := 5 ≤ n ∧ H.size = E.1 + (n - 5) ∧ x_SP E H ∧ ∀ a, 5 ≤ a → a < n → g_is E H a (g a)
def g_df (t : FieldType) : xV := match t with
  | .long => (1, 0)
  | .object _ => (2, -1)
  | .array _ => (2, -1)
  | _ => (0, 0)
def g_ok (t : FieldType) : Bool := match t with
  | .float => false
  | .double => false
  | _ => true
def g_new (c : Nat) : gC := (c, x_N c, fun k => g_df (x_ty c k))
def g_ar (t N : Nat) : gC := (100 + t, N, fun _ => if t = 0 then (0, 0) else if t = 1 then (1, 0) else (2, -1))
theorem g_tU {g : Nat → gC} {a b c : Nat} {q : gC} (h : (g b).1 = c) (hn : b ≠ a) : (g_up g a q b).1 = c := by
  unfold g_up; rw [if_neg hn]; exact h
theorem g_tUs {g : Nat → gC} {a b c cn : Nat} {q : Nat → gC} (h : (g b).1 = c) (hn : b < a) : (g_ups g a cn q b).1 = c := by
  unfold g_ups; rw [if_neg (by omega)]; exact h
theorem g_tS {g : Nat → gC} {a b c k : Nat} {v : xV} (h : (g b).1 = c) : (g_st g a k v b).1 = c := by
  unfold g_st g_up
  split
  · rename_i q; rw [q] at h; exact h
  · exact h
theorem g_tN (g : Nat → gC) (a : Nat) (q : gC) : (g_up g a q a) = q := if_pos rfl
section XG
variable {E : xE} {H H1 : Heap} {n : Nat} {g : Nat → gC}
theorem g_is.kept {a : Nat} {q : gC} (h : g_is E H a q) (h1 : H1[x_adr E a]? = H[x_adr E a]?) : g_is E H1 a q := by
  unfold g_is at h ⊢
  split at h
  · rename_i z; rw [if_pos z]; exact t_OB.kept h h1
  · rename_i z; rw [if_neg z]; unfold x_CLa at h ⊢; rw [h1]; exact h
theorem g_H.set {a : Nat} {q : gC} (h : g_H E H n g) (ha : 5 ≤ a) (hz : H1.size = H.size) (ho : ∀ b, b ≠ x_adr E a → H1[b]? = H[b]?) (hc : g_is E H1 a q) : g_H E H1 n (g_up g a q) := by
  obtain ⟨h1, h2, h3, h4⟩ := h
  refine ⟨h1, by rw [hz]; exact h2, x_SP.kept h3 (fun b hb => ho b (by rw [x_adr_own ha]; omega)), fun b hb5 hb => ?_⟩
  unfold g_up
  by_cases e : b = a
  · rw [if_pos e, e]; exact hc
  · rw [if_neg e]; exact (h4 b hb5 hb).kept (ho _ (fun z => e (x_adr_inj hb5 ha z)))
theorem g_H.add {q : gC} (h : g_H E H n g) (hz : H1.size = H.size + 1) (ho : ∀ b, b < H.size → H1[b]? = H[b]?) (hc : g_is E H1 n q) : g_H E H1 (n + 1) (g_up g n q) := by
  obtain ⟨h1, h2, h3, h4⟩ := h
  refine ⟨by omega, by rw [hz, h2]; omega, x_SP.kept h3 (fun b hb => ho b (by omega)), fun b hb5 hb => ?_⟩
  unfold g_up
  by_cases e : b = n
  · rw [if_pos e, e]; exact hc
  · rw [if_neg e]; exact (h4 b hb5 (by omega)).kept (ho _ (by rw [x_adr_own hb5]; omega))
theorem g_H.adds {cn : Nat} {q : Nat → gC} (h : g_H E H n g) (hz : H1.size = H.size + cn) (ho : ∀ b, b < H.size → H1[b]? = H[b]?) (hc : ∀ t, t < cn → g_is E H1 (n + t) (q t)) : g_H E H1 (n + cn) (g_ups g n cn q) := by
  obtain ⟨h1, h2, h3, h4⟩ := h
  refine ⟨by omega, by rw [hz, h2]; omega, x_SP.kept h3 (fun b hb => ho b (by omega)), fun b hb5 hb => ?_⟩
  unfold g_ups
  by_cases e : n ≤ b ∧ b < n + cn
  · rw [if_pos e]
    have := hc (b - n) (by omega)
    rw [show n + (b - n) = b by omega] at this
    exact this
  · rw [if_neg e]; exact (h4 b hb5 (by omega)).kept (ho _ (by rw [x_adr_own hb5]; omega))
theorem g_H.top (h : g_H E H n g) : x_adr E n = H.size := by
  obtain ⟨h1, h2, -⟩ := h
  rw [x_adr_own h1, h2]
theorem g_cwA (E : xE) (a : Nat) : x_cw E (2, (a : Int)) = .ref (x_adr E a) := by
  rw [x_cwR E 0 (a : Int) (by omega)]
  rw [Int.toNat_natCast]
theorem g_cwN (E : xE) : x_cw E (2, -1) = .null := x_cwN E 0 (-1) (by omega)
theorem g_H.obj {a c : Nat} (h : g_H E H n g) (ha : 5 ≤ a ∧ a < n) (hc : c < 12) (hg : (g a).1 = c) : x_CLo E c a (fun k => x_vv ((g a).2.2 k)) H := by
  have := h.2.2.2 a ha.1 ha.2
  unfold g_is at this
  rw [if_pos (by omega), hg] at this
  exact this
theorem g_H.arr {a t : Nat} (h : g_H E H n g) (ha : 5 ≤ a ∧ a < n) (hg : (g a).1 = 100 + t) : x_CLa E t a (g a).2.1 (fun k => x_vv ((g a).2.2 k)) H := by
  have := h.2.2.2 a ha.1 ha.2
  unfold g_is at this
  rw [if_neg (by omega), hg, show 100 + t - 100 = t by omega] at this
  exact this
theorem g_isO {a c : Nat} {q : gC} (hc : c < 12) (hq : q.1 = c) (h : x_CLo E c a (fun k => x_vv (q.2.2 k)) H) : g_is E H a q := by
  unfold g_is
  rw [if_pos (by omega), hq]
  exact h
theorem g_isA {a t : Nat} {q : gC} (hq : q.1 = 100 + t) (h : x_CLa E t a q.2.1 (fun k => x_vv (q.2.2 k)) H) : g_is E H a q := by
  unfold g_is
  rw [if_neg (by omega), hq, show 100 + t - 100 = t by omega]
  exact h
theorem g_upd (f : Nat → xV) (k : Nat) (v : xV) : updV (fun j => x_vv (f j)) k (x_vv v) = fun j => x_vv (if j = k then v else f j) := by
  funext j
  unfold updV
  split <;> rfl
end XG
/-- the words on arrays of references, which a call doesn't carry -/
def x_isO (w : Cond) : Bool := match w with
  | .arrayOver (.object _) => true
  | .arrayOver (.array _) => true
  | _ => false
def x_AO (U : State) : Prop := ∀ w ∈ lw_tbl, x_isO w = true → w.before #[] U = true
theorem x_AO.alike {u U : State} (hvm : u.vm.Alike U.vm) (h : x_AO u) : x_AO U := fun w hw hn => by
  have hz := h w hw hn
  unfold x_isO at hn
  split at hn
  · exact va_AO.moved hvm hz
  · exact over_moved hvm hz
  · cases hn
theorem x_AO.moved {u U : State} (hW : u.WarmedH U.vm) (h : x_AO u) : x_AO U := h.alike hW.alike
theorem x_AO.same {u U : State} (hv : u.vm = U.vm) (h : x_AO u) : x_AO U := h.alike (by rw [hv]; exact Vm.Alike.refl _)
theorem x_AO.useO {U : State} {A : Array Value} {C : String} (h : x_AO U) (hw : Cond.arrayOver (.object C) ∈ lw_tbl) : (Cond.arrayOver (.object C)).before A U = true := va_AO.use (h _ hw rfl)
theorem x_AO.useA {U : State} {A : Array Value} {t : FieldType} (h : x_AO U) (hw : Cond.arrayOver (.array t) ∈ lw_tbl) : (Cond.arrayOver (.array t)).before A U = true := over_moved (Vm.Alike.refl _) (h _ hw rfl)
def g_QQ (E : xE) (Q : Nat → (Nat → gC) → Prop) : Array Value → State → Outcome → State → Prop := fun _ _ o t => ∃ (n : Nat) (g : Nat → gC), o = .returned none ∧ g_H E t.heap n g ∧ x_CK E t ∧ Q n g
def g_Ev (l : Launch) (E : xE) (z : Nat × Nat × Nat) (y : xMT) (pc : Nat) (ls st : List xV) (n : Nat) (g : Nat → gC) (QQ : Array Value → State → Outcome → State → Prop) : Prop :=
  ∀ (p : Program) (e : Env) (R : Room) (s : State) (m : MethodId) (args : Array Value) (below : List Frame) (meth : Method) (c : Code) (H : Heap) (locs : List Loc) (cells slots : Nat) (lr : Array Slot), x_Mok y → x_Cx E y p s m args meth c → x_AO s → z.1 ≤ R.frames → 60 * z.1 ≤ R.locals → cells + z.2.1 ≤ R.cells → slots + z.2.2 ≤ R.slots → g_H E H n g → (∀ q ∈ locs, E.1 ≤ q.base) → x_LR E ls lr y.2.2.1 → W p l e R s m args below meth c H locs cells slots (MQ below QQ args s (cells + z.2.1) (slots + z.2.2) (fun q => E.1 ≤ q)) (F0 m pc lr (st.map (x_cw E)))
def g_fit (t : FieldType) (v : xV) : Prop := ∀ E : xE, narrow t (x_cw E v) = x_cw E v ∧ fits t (x_cw E v) = true
theorem g_fitR {t : FieldType} (h : t.isReference = true) (a : Nat) : g_fit t (2, (a : Int)) := fun E => by
  rw [g_cwA]
  cases t <;> first | exact ⟨rfl, rfl⟩ | (simp [FieldType.isReference] at h)
theorem g_tys : (List.range 12).all (fun c => (List.range (x_N c)).all (fun k => g_ok (x_ty c k))) = true := by decide +kernel
theorem g_dv (E : xE) {t : FieldType} (h : g_ok t = true) : defaultValue t = x_cv E (x_vv (g_df t)) := by
  cases t <;> first | rfl | (simp [g_ok] at h)
section XJ
variable {l : Launch} {E : xE} {z z1 z2 : Nat × Nat × Nat} {y y1 : xMT} {pc : Nat} {ls ls' st : List xV} {n : Nat} {g : Nat → gC} {QQ : Array Value → State → Outcome → State → Prop}
theorem g_Ev.step {pc' : Nat} {st' : List xV} (k : g_Ev l E z y pc' ls st' n g QQ)
    (h : ∀ (p : Program) (e : Env) (R : Room) (s : State) (m : MethodId) (args : Array Value) (below : List Frame) (meth : Method) (c : Code) (H : Heap) (locs : List Loc) (cells slots : Nat) (lr : Array Slot) (Q' : State → Prop), x_Mok y → x_Cx E y p s m args meth c → g_H E H n g → x_LR E ls lr y.2.2.1 →
      W p l e R s m args below meth c H locs cells slots Q' (F0 m pc' lr (st'.map (x_cw E))) → W p l e R s m args below meth c H locs cells slots Q' (F0 m pc lr (st.map (x_cw E)))) : g_Ev l E z y pc ls st n g QQ := by
  intro p e R s m args below meth c H locs cells slots lr hM hC hA hf hl hc hs hN hlo hL
  exact h p e R s m args below meth c H locs cells slots lr _ hM hC hN hL (k p e R s m args below meth c H locs cells slots lr hM hC hA hf hl hc hs hN hlo hL)
theorem j_aload {i : Fin 4} {a : Int} (k0 : Nat) (hd : y.2.2.2.2[k0]? = some (pc, .aload_n i, 1)) (hv : ls[(i : Nat)]? = some (2, a)) (k : g_Ev l E z y (pc + 1) ls ((2, a) :: st) n g QQ) : g_Ev l E z y pc ls st n g QQ := by
  refine k.step (fun p e R s m args below meth c H locs cells slots lr Q' hM hC hN hL kk => ?_)
  have h := hL.at hv (Nat.ne_of_beq_eq_false rfl)
  rcases x_cwD E 2 a (Nat.le_refl 2) with q | ⟨b, q⟩
  · rw [q] at h; simp only [List.map, q] at kk; exact lv_aload_nN hC.1 hC.2.1 (x_dec hM hd) rfl h kk
  · rw [q] at h; simp only [List.map, q] at kk; exact lv_aload_n hC.1 hC.2.1 (x_dec hM hd) rfl h kk
theorem j_iload {i : Fin 4} {a : Int} (k0 : Nat) (hd : y.2.2.2.2[k0]? = some (pc, .iload_n i, 1)) (hv : ls[(i : Nat)]? = some (0, a)) (k : g_Ev l E z y (pc + 1) ls ((0, a) :: st) n g QQ) : g_Ev l E z y pc ls st n g QQ :=
  k.step (fun p e R s m args below meth c H locs cells slots lr Q' hM hC hN hL kk => lv_iload_n hC.1 hC.2.1 (x_dec hM hd) rfl (hL.at hv (Nat.ne_of_beq_eq_false rfl)) kk)
theorem j_iconst {v : Int} (k0 : Nat) (hd : y.2.2.2.2[k0]? = some (pc, .iconst v, 1)) (k : g_Ev l E z y (pc + 1) ls ((0, v) :: st) n g QQ) : g_Ev l E z y pc ls st n g QQ :=
  k.step (fun p e R s m args below meth c H locs cells slots lr Q' hM hC hN hL kk => lv_iconst hC.1 hC.2.1 (x_dec hM hd) rfl kk)
theorem j_bipush {v : Int} (k0 : Nat) (hd : y.2.2.2.2[k0]? = some (pc, .bipush v, 2)) (hr : (Int8.ofInt v).toInt32 = Int32.ofInt v) (k : g_Ev l E z y (pc + 2) ls ((0, v) :: st) n g QQ) : g_Ev l E z y pc ls st n g QQ :=
  k.step (fun p e R s m args below meth c H locs cells slots lr Q' hM hC hN hL kk => lv_bipush hC.1 hC.2.1 (x_dec hM hd) hr kk)
theorem j_sipush {v : Int} (k0 : Nat) (hd : y.2.2.2.2[k0]? = some (pc, .sipush v, 3)) (hr : (Int16.ofInt v).toInt32 = Int32.ofInt v) (k : g_Ev l E z y (pc + 3) ls ((0, v) :: st) n g QQ) : g_Ev l E z y pc ls st n g QQ :=
  k.step (fun p e R s m args below meth c H locs cells slots lr Q' hM hC hN hL kk => lv_sipush hC.1 hC.2.1 (x_dec hM hd) hr kk)
theorem j_lconst {v : Fin 2} (w : Int) (k0 : Nat) (hd : y.2.2.2.2[k0]? = some (pc, .lconst v, 1)) (hr : Int64.ofNat (v : Nat) = Int64.ofInt w) (k : g_Ev l E z y (pc + 1) ls ((1, w) :: st) n g QQ) : g_Ev l E z y pc ls st n g QQ :=
  k.step (fun p e R s m args below meth c H locs cells slots lr Q' hM hC hN hL kk => lv_lconst hC.1 hC.2.1 (x_dec hM hd) hr kk)
theorem j_dup {v : xV} (k0 : Nat) (hd : y.2.2.2.2[k0]? = some (pc, .dup, 1)) (hv : v.1 ≠ 1) (k : g_Ev l E z y (pc + 1) ls (v :: v :: st) n g QQ) : g_Ev l E z y pc ls (v :: st) n g QQ :=
  k.step (fun p e R s m args below meth c H locs cells slots lr Q' hM hC hN hL kk => lv_dup hC.1 hC.2.1 (x_dec hM hd) (by rw [x_cat, if_neg hv]) kk)
theorem j_goto {off : Int} (tgt k0 : Nat) (hd : y.2.2.2.2[k0]? = some (pc, .goto off, 3)) (ht : (pc : Int) + off = (tgt : Int)) (k : g_Ev l E z y tgt ls st n g QQ) : g_Ev l E z y pc ls st n g QQ :=
  k.step (fun p e R s m args below meth c H locs cells slots lr Q' hM hC hN hL kk => lv_goto hC.1 hC.2.1 (x_dec hM hd) ht kk)
theorem j_istore {i : Fin 4} {a : Int} (k0 : Nat) (hd : y.2.2.2.2[k0]? = some (pc, .istore_n i, 1)) (hi : (i : Nat) < y.2.2.1) (hs' : x_sto1 ls (i : Nat) (0, a) = ls') (k : g_Ev l E z y (pc + 1) ls' st n g QQ) : g_Ev l E z y pc ls ((0, a) :: st) n g QQ := by
  intro p e R s m args below meth c H locs cells slots lr hM hC hA hf hl hc hs hN hlo hL
  subst hs'
  exact lv_istore_n hC.1 hC.2.1 (x_dec hM hd) rfl hL hi rfl fun lr' h' => k p e R s m args below meth c H locs cells slots lr' hM hC hA hf hl hc hs hN hlo (x_LR.of1 (v := (0, a)) rfl h')
theorem j_astore {i : Fin 4} {a : Int} (k0 : Nat) (hd : y.2.2.2.2[k0]? = some (pc, .astore_n i, 1)) (hi : (i : Nat) < y.2.2.1) (hs' : x_sto1 ls (i : Nat) (2, a) = ls') (k : g_Ev l E z y (pc + 1) ls' st n g QQ) : g_Ev l E z y pc ls ((2, a) :: st) n g QQ := by
  intro p e R s m args below meth c H locs cells slots lr hM hC hA hf hl hc hs hN hlo hL
  subst hs'
  rcases x_cwD E 2 a (Nat.le_refl 2) with q | ⟨b, q⟩
  · simp only [List.map, q]
    exact lv_astore_nN hC.1 hC.2.1 (x_dec hM hd) rfl hL hi rfl fun lr' h' => k p e R s m args below meth c H locs cells slots lr' hM hC hA hf hl hc hs hN hlo (x_LR.of1 (v := (2, a)) q.symm h')
  · simp only [List.map, q]
    exact lv_astore_n hC.1 hC.2.1 (x_dec hM hd) rfl hL hi rfl fun lr' h' => k p e R s m args below meth c H locs cells slots lr' hM hC hA hf hl hc hs hN hlo (x_LR.of1 (v := (2, a)) q.symm h')
theorem j_iinc {i : Nat} {d a : Int} (k0 : Nat) (hd : y.2.2.2.2[k0]? = some (pc, .iinc i d, 3)) (hv : ls[i]? = some (0, a)) (hi : i < y.2.2.1) (hs' : x_sto1 ls i (0, x_w (a + d)) = ls') (k : g_Ev l E z y (pc + 3) ls' st n g QQ) : g_Ev l E z y pc ls st n g QQ := by
  intro p e R s m args below meth c H locs cells slots lr hM hC hA hf hl hc hs hN hlo hL
  subst hs'
  obtain ⟨j, hj⟩ := List.getElem?_of_mem ((x_asc_mem E ls 0 (i, .int (Int32.ofInt a))).mpr ⟨i, (0, a), hv, Nat.ne_of_beq_eq_false rfl, by simp [x_cw0]⟩)
  exact lv_iinc hC.1 hC.2.1 (x_dec hM hd) hL hj rfl hi rfl fun lr' h' => k p e R s m args below meth c H locs cells slots lr' hM hC hA hf hl hc hs hN hlo (x_LR.of1 (v := (0, x_w (a + d))) (by rw [x_cw0, ← x_addI]) h')
theorem j_geN {off a b : Int} (tgt k0 : Nat) (hd : y.2.2.2.2[k0]? = some (pc, .if_icmp .ge off, 3)) (ht : (pc : Int) + off = (tgt : Int)) (hr : x_rg 0 a ∧ x_rg 0 b) (hlt : a < b) (k : g_Ev l E z y (pc + 3) ls st n g QQ) : g_Ev l E z y pc ls ((0, b) :: (0, a) :: st) n g QQ := by
  intro p e R s m args below meth c H locs cells slots lr hM hC hA hf hl hc hs hN hlo hL
  simp only [List.map, x_cw0]
  refine lv_icmp_ge hC.1 hC.2.1 (x_dec hM hd) ht (fun q => ?_) (fun q => ?_)
  · exact absurd ((x_leI hr.2 hr.1).mp q) (by omega)
  · exact k p e R s m args below meth c H locs cells slots lr hM hC hA hf hl hc hs hN hlo hL
theorem j_geY {off a b : Int} (tgt k0 : Nat) (hd : y.2.2.2.2[k0]? = some (pc, .if_icmp .ge off, 3)) (ht : (pc : Int) + off = (tgt : Int)) (hr : x_rg 0 a ∧ x_rg 0 b) (hge : b ≤ a) (k : g_Ev l E z y tgt ls st n g QQ) : g_Ev l E z y pc ls ((0, b) :: (0, a) :: st) n g QQ := by
  intro p e R s m args below meth c H locs cells slots lr hM hC hA hf hl hc hs hN hlo hL
  simp only [List.map, x_cw0]
  refine lv_icmp_ge hC.1 hC.2.1 (x_dec hM hd) ht (fun q => ?_) (fun q => ?_)
  · exact k p e R s m args below meth c H locs cells slots lr hM hC hA hf hl hc hs hN hlo hL
  · exfalso
    exact q ((x_leI hr.2 hr.1).mpr hge)
theorem j_ret {Q : Nat → (Nat → gC) → Prop} (k0 : Nat) (hd : y.2.2.2.2[k0]? = some (pc, .return_, 1)) (hr : y.2.2.2.1 = none) (k : Q n g) : g_Ev l E z y pc ls [] n g (g_QQ E Q) := by
  intro p e R s m args below meth c H locs cells slots lr hM hC hA hf hl hc hs hN hlo hL
  have hlocks := hC.2.2.2.2.1
  refine W.widen (k := cells + z.2.1) (n := slots + z.2.2) (by omega) (by omega) ?_
  exact W.vret hC.1 hC.2.1 (by rw [hC.2.2.2.1]; exact hr) (fun t ht hw => ⟨n, g, rfl, by rw [ht]; exact hN, hC.2.2.2.2.2.2.2.2.moved hw, k⟩) hlo (x_dec hM hd) hlocks
theorem j_obj {idx a : Nat} (k0 : Nat) (hd : y.2.2.2.2[k0]? = some (pc, .invokespecial idx, 3)) (hw : Cond.methodLink y.1.cls idx Lib.objectInit ∈ x_tb) (hz : 1 ≤ z.1) (k : g_Ev l E z y (pc + 3) ls [] n g QQ) : g_Ev l E z y pc ls [(2, (a : Int))] n g QQ := by
  intro p e R s m args below meth c H locs cells slots lr hM hC hA hf hl hc hs hN hlo hL
  have hts := hC.2.2.2.2.2.2.2.1
  simp only [List.map, g_cwA]
  have h8 := x_room8 (E := E) (m := m) (pc := pc) (lr := lr) (rs := [Value.ref (x_adr E a)]) (st := []) (by decide)
  refine W.objInit hC.1 hC.2.1 hC.2.2.2.2.2.2.1 (hts _ hw) (hts _ rw_oii) (hts _ rw_oic) rfl (by rw [hC.2.2.1]; exact hL.1) rfl (x_dec hM hd) (by omega) (Nat.le_trans (Nat.add_le_add_right h8 12) (by omega)) ?_
  exact W.eq (g2 := F0 m (pc + 3) lr []) rfl (k p e R s m args below meth c H locs cells slots lr hM hC hA hf hl hc hs hN hlo hL)
theorem j_new {idx c : Nat} (k0 : Nat) (hd : y.2.2.2.2[k0]? = some (pc, .new idx, 3)) (hc : c < 12) (hw1 : Cond.classLink y.1.cls idx (x_C c) ∈ x_tb) (hw2 : Cond.instantiable (x_C c) (x_N c) ∈ x_tb) (hw3 : Cond.initialized (x_C c) ∈ x_tb) (hz : z2.1 = z.1 ∧ z2.2.1 + 1 = z.2.1 ∧ z2.2.2 + x_N c = z.2.2)
    (k : g_Ev l E z2 y (pc + 3) ls ((2, (n : Int)) :: st) (n + 1) (g_up g n (g_new c)) QQ) : g_Ev l E z y pc ls st n g QQ := by
  intro p e R s m args below meth c' H locs cells slots lr hM hC hA hf hl hcc hs hN hlo hL
  have hts := hC.2.2.2.2.2.2.2.1
  have hK := hC.2.2.2.2.2.2.2.2
  obtain ⟨hSl, hfc, kC0, hkC0, hkind⟩ := hK.1.1 c _ (x_KL_at c hc)
  refine W.newcK hC.1 hC.2.1 hC.2.2.2.2.2.2.1 (hts _ hw1) (hts _ hw2) (hts _ hw3) rfl (x_dec hM hd) (by omega) (by omega) hfc rfl fun H1 kC hkC e1 z1 o1 => ?_
  have hO := u_born (x_ty c) hts (x_in c hc) (hK.1.1 c _ (x_KL_at c hc)) hkC e1 (x_tyok c hc)
  have hcell : g_is E H1 n (g_new c) := by
    refine g_isO hc rfl ?_
    unfold x_CLo
    rw [hN.top]
    refine t_OB.to hO (fun j hj => ?_)
    have h1 := List.all_eq_true.mp g_tys c (List.mem_range.mpr hc)
    exact g_dv E (List.all_eq_true.mp h1 j (List.mem_range.mpr hj))
  have h := k p e R s m args below meth c' H1 locs (cells + 1) (slots + x_N c) lr hM hC hA (by omega) (by omega) (by omega) (by omega) (hN.add z1 o1 hcell) hlo hL
  rw [show cells + 1 + z2.2.1 = cells + z.2.1 by omega, show slots + x_N c + z2.2.2 = slots + z.2.2 by omega] at h
  simp only [List.map, g_cwA, hN.top] at h
  exact h
theorem j_newa {at_ : ArrayType} {t N : Nat} (k0 : Nat) (hd : y.2.2.2.2[k0]? = some (pc, .newarray at_, 2)) (ht : (t = 0 ∧ at_ = .int) ∨ (t = 1 ∧ at_ = .long)) (hN0 : N ≤ 1000) (hz : z2.1 = z.1 ∧ z2.2.1 + 1 = z.2.1 ∧ z2.2.2 + N = z.2.2)
    (k : g_Ev l E z2 y (pc + 2) ls ((2, (n : Int)) :: st) (n + 1) (g_up g n (g_ar t N)) QQ) : g_Ev l E z y pc ls ((0, (N : Int)) :: st) n g QQ := by
  intro p e R s m args below meth c H locs cells slots lr hM hC hA hf hl hcc hs hN hlo hL
  have hts := hC.2.2.2.2.2.2.2.1
  have hK := hC.2.2.2.2.2.2.2.2
  have hx := x_idx (i := (N : Int)) (by omega) (by omega)
  rw [Int.toNat_natCast] at hx
  simp only [List.map, x_cw0]
  have fin : ∀ (H1 : Heap), H1[H.size]? = some (arrV (E.2.2.2.2 t) N (fun _ => x_cv E (x_vv ((g_ar t N).2.2 0)))) → H1.size = H.size + 1 → (∀ q, q < H.size → H1[q]? = H[q]?) → W p l e R s m args below meth c H1 locs (cells + 1) (slots + N) (MQ below QQ args s (cells + z.2.1) (slots + z.2.2) (fun q => E.1 ≤ q)) (F0 m (pc + 2) lr (.ref H.size :: st.map (x_cw E))) := by
    intro H1 e1 z1 o1
    have hcell : g_is E H1 n (g_ar t N) := by
      refine g_isA (t := t) rfl ?_
      unfold x_CLa
      rw [hN.top]
      exact e1
    have h := k p e R s m args below meth c H1 locs (cells + 1) (slots + N) lr hM hC hA (by omega) (by omega) (by omega) (by omega) (hN.add z1 o1 hcell) hlo hL
    rw [show cells + 1 + z2.2.1 = cells + z.2.1 by omega, show slots + N + z2.2.2 = slots + z.2.2 by omega] at h
    simp only [List.map, g_cwA, hN.top] at h
    exact h
  rcases ht with ⟨et, ea⟩ | ⟨et, ea⟩
  · subst et; subst ea
    refine va_newaK (atype := .int) hC.1 hC.2.1 (hts _ acw_192) rfl (x_dec hM hd) rfl hx.1 hx.2 (by show N * 4 ≤ _; omega) (by omega) (by omega) rfl fun H1 cA e1 z1 o1 hA2 hNm => ?_
    have eA : cA = E.2.2.2.2 0 := Option.some.inj (hNm.symm.trans ((hK.2.1 0 _ rfl).2 (by omega)))
    rw [eA] at e1
    exact fin H1 e1 z1 o1
  · subst et; subst ea
    refine va_newaK (atype := .long) hC.1 hC.2.1 (hts _ acw_191) rfl (x_dec hM hd) rfl hx.1 hx.2 (by show N * 8 ≤ _; omega) (by omega) (by omega) rfl fun H1 cA e1 z1 o1 hA2 hNm => ?_
    have eA : cA = E.2.2.2.2 1 := Option.some.inj (hNm.symm.trans ((hK.2.1 1 _ rfl).2 (by omega)))
    rw [eA] at e1
    exact fin H1 e1 z1 o1
theorem j_anewa {idx t N : Nat} {C : String} (k0 : Nat) (hd : y.2.2.2.2[k0]? = some (pc, .anewarray idx, 3)) (hw1 : Cond.classLink y.1.cls idx C ∈ x_tb) (hw2 : Cond.arrayOver (.object C) ∈ lw_tbl) (ht : 2 ≤ t ∧ t < 10) (hty : ∀ E : xE, (x_TY E)[t]? = some (E.2.2.2.2 t, .object C)) (hN0 : N ≤ 1000) (hz : z2.1 = z.1 ∧ z2.2.1 + 1 = z.2.1 ∧ z2.2.2 + N = z.2.2)
    (k : g_Ev l E z2 y (pc + 3) ls ((2, (n : Int)) :: st) (n + 1) (g_up g n (g_ar t N)) QQ) : g_Ev l E z y pc ls ((0, (N : Int)) :: st) n g QQ := by
  intro p e R s m args below meth c H locs cells slots lr hM hC hA hf hl hcc hs hN hlo hL
  have hts := hC.2.2.2.2.2.2.2.1
  have hK := hC.2.2.2.2.2.2.2.2
  have hx := x_idx (i := (N : Int)) (by omega) (by omega)
  rw [Int.toNat_natCast] at hx
  simp only [List.map, x_cw0]
  refine W.anew hC.1 hC.2.1 hC.2.2.2.2.2.2.1 (hts _ hw1) (hA.useO hw2) rfl (x_dec hM hd) rfl hx.1 (by rw [hx.2]; omega) (by omega) (by rw [hx.2]; omega) fun cA kA comp f1 f2 f3 f4 => ?_
  rw [hx.2, arrV_new]
  obtain ⟨kA2, comp2, r1, r2, r3, r4⟩ := (hK.2.1 t _ (hty E)).2 ht.2
  have eA : cA = E.2.2.2.2 t := Option.some.inj (f1.symm.trans r4)
  rw [eA]
  have hcell : g_is E (H.push (arrV (E.2.2.2.2 t) N (fun _ => .null))) n (g_ar t N) := by
    refine g_isA (t := t) rfl ?_
    unfold x_CLa
    rw [hN.top, Array.getElem?_push_size]
    congr 2
    funext j
    show Value.null = x_cv E (x_vv (if t = 0 then (0, 0) else if t = 1 then (1, 0) else (2, -1)))
    rw [if_neg (by omega), if_neg (by omega)]
    rfl
  have h := k p e R s m args below meth c _ locs (cells + 1) (slots + N) lr hM hC hA (by omega) (by omega) (by omega) (by omega) (hN.add (by rw [Array.size_push]) (fun q hq => by rw [Array.getElem?_push_lt hq, Array.getElem?_eq_getElem hq]) hcell) hlo hL
  rw [show cells + 1 + z2.2.1 = cells + z.2.1 by omega, show slots + N + z2.2.2 = slots + z.2.2 by omega] at h
  simp only [List.map, g_cwA, hN.top] at h
  exact h
theorem j_putf {idx c kf a : Nat} {v : xV} (k0 : Nat) (hd : y.2.2.2.2[k0]? = some (pc, .putfield idx, 3)) (hc : c < 12 ∧ kf < x_N c) (hfl : x_FL y.1.cls idx c kf) (hfin : (x_T c kf).2.2.2 = false ∨ ((x_T c kf).2.2.2 = true ∧ y.1.name = "<init>" ∧ (x_T c kf).1 = y.1.cls)) (ha : 5 ≤ a ∧ a < n) (hg : (g a).1 = c) (hv : g_fit (x_ty c kf) v)
    (k : g_Ev l E z y (pc + 3) ls st n (g_st g a kf v) QQ) : g_Ev l E z y pc ls (v :: (2, (a : Int)) :: st) n g QQ := by
  intro p e R s m args below meth c' H locs cells slots lr hM hC hA hf hl hcc hs hN hlo hL
  have hts := hC.2.2.2.2.2.2.2.1
  have hK := hC.2.2.2.2.2.2.2.2
  have hO := hN.obj ha hc.1 hg
  simp only [List.map, g_cwA]
  have fin : ∀ (H1 : Heap) (lo : Loc), lo.base = x_adr E a → x_CLo E c a (updV (fun j => x_vv ((g a).2.2 j)) kf (x_vv v)) H1 → H1.size = H.size → (∀ q, q ≠ x_adr E a → H1[q]? = H[q]?) → W p l e R s m args below meth c' H1 (locs ++ [lo]) cells slots (MQ below QQ args s (cells + z.2.1) (slots + z.2.2) (fun q => E.1 ≤ q)) (F0 m (pc + 3) lr (st.map (x_cw E))) := by
    intro H1 lo hb1 hO1 hz1 ho1
    rw [g_upd] at hO1
    refine k p e R s m args below meth c' H1 (locs ++ [lo]) cells slots lr hM hC hA hf hl hcc hs (hN.set ha.1 hz1 ho1 (g_isO hc.1 hg hO1)) (fun q hq => ?_) hL
    rcases List.mem_append.mp hq with h | h
    · exact hlo q h
    · rw [List.mem_singleton.mp h, hb1, x_adr_own ha.1]; omega
  rcases hfin with q | ⟨q1, q2, q3⟩
  · exact x_putf hC.1 hC.2.1 hts hC.2.2.2.2.2.2.1 hK hc.1 hc.2 hfl q hO (hv E).1 (hv E).2 (x_dec hM hd) fin
  · exact x_putF hC.1 hC.2.1 hts hC.2.2.2.2.2.2.1 hK hc.1 hc.2 hfl q1 (hC.2.2.2.2.2.1.trans q2) q3 hO (hv E).1 (hv E).2 (x_dec hM hd) fin
theorem j_getf {idx c kf a : Nat} {v : xV} (k0 : Nat) (hd : y.2.2.2.2[k0]? = some (pc, .getfield idx, 3)) (hc : c < 12 ∧ kf < x_N c) (hfl : x_FL y.1.cls idx c kf) (ha : 5 ≤ a ∧ a < n) (hg : (g a).1 = c) (hv : (g a).2.2 kf = v)
    (k : g_Ev l E z y (pc + 3) ls (v :: st) n g QQ) : g_Ev l E z y pc ls ((2, (a : Int)) :: st) n g QQ := by
  intro p e R s m args below meth c' H locs cells slots lr hM hC hA hf hl hcc hs hN hlo hL
  have hts := hC.2.2.2.2.2.2.2.1
  have hK := hC.2.2.2.2.2.2.2.2
  have hO := hN.obj ha hc.1 hg
  simp only [List.map, g_cwA]
  refine x_getf hC.1 hC.2.1 hts hC.2.2.2.2.2.2.1 hK hc.1 hc.2 hfl hO (x_dec hM hd) ?_
  have h := k p e R s m args below meth c' H locs cells slots lr hM hC hA hf hl hcc hs hN hlo hL
  rw [← hv] at h
  exact h
theorem j_aald {t a i : Nat} {v : xV} (k0 : Nat) (hd : y.2.2.2.2[k0]? = some (pc, .aaload, 1)) (ht : 2 ≤ t ∧ t ≤ 9) (ha : 5 ≤ a ∧ a < n) (hg : (g a).1 = 100 + t) (hi : i < (g a).2.1 ∧ i < 1000) (hv : (g a).2.2 i = v)
    (k : g_Ev l E z y (pc + 1) ls (v :: st) n g QQ) : g_Ev l E z y pc ls ((0, (i : Int)) :: (2, (a : Int)) :: st) n g QQ := by
  intro p e R s m args below meth c' H locs cells slots lr hM hC hA hf hl hcc hs hN hlo hL
  have hK := hC.2.2.2.2.2.2.2.2
  have hO := hN.arr ha hg
  have hx := x_idx (i := (i : Int)) (by omega) (by omega)
  rw [Int.toNat_natCast] at hx
  simp only [List.map, g_cwA, x_cw0]
  refine x_aald hC.1 hC.2.1 hK ht hO hx.1 (by rw [hx.2]; exact hi.1) (x_dec hM hd) ?_
  have h := k p e R s m args below meth c' H locs cells slots lr hM hC hA hf hl hcc hs hN hlo hL
  rw [← hv] at h
  rw [hx.2]
  exact h
theorem j_iast {a i : Nat} {x : Int} (k0 : Nat) (hd : y.2.2.2.2[k0]? = some (pc, .iastore, 1)) (ha : 5 ≤ a ∧ a < n) (hg : (g a).1 = 100 + 0) (hi : i < (g a).2.1 ∧ i < 1000)
    (k : g_Ev l E z y (pc + 1) ls st n (g_st g a i (0, x)) QQ) : g_Ev l E z y pc ls ((0, x) :: (0, (i : Int)) :: (2, (a : Int)) :: st) n g QQ := by
  intro p e R s m args below meth c' H locs cells slots lr hM hC hA hf hl hcc hs hN hlo hL
  have hK := hC.2.2.2.2.2.2.2.2
  have hO := hN.arr ha hg
  have hx := x_idx (i := (i : Int)) (by omega) (by omega)
  rw [Int.toNat_natCast] at hx
  simp only [List.map, g_cwA, x_cw0]
  refine x_iast hC.1 hC.2.1 hK hO hx.1 (by rw [hx.2]; exact hi.1) (x_dec hM hd) fun H1 lo hb1 hO1 hz1 ho1 => ?_
  rw [hx.2] at hO1
  have hO2 : x_CLa E 0 a (g a).2.1 (fun j => x_vv (if j = i then (0, x) else (g a).2.2 j)) H1 := by
    rw [← g_upd]; exact hO1
  refine k p e R s m args below meth c' H1 (locs ++ [lo]) cells slots lr hM hC hA hf hl hcc hs (hN.set ha.1 hz1 ho1 (g_isA hg hO2)) (fun q hq => ?_) hL
  rcases List.mem_append.mp hq with h | h
  · exact hlo q h
  · rw [List.mem_singleton.mp h, hb1, x_adr_own ha.1]; omega
theorem j_aast {t c a b i : Nat} (k0 : Nat) (hd : y.2.2.2.2[k0]? = some (pc, .aastore, 1)) (ht : 2 ≤ t ∧ t < 10) (hc : c < 12) (hty : ∀ E : xE, (x_TY E)[t]? = some (E.2.2.2.2 t, .object (x_C c))) (ha : 5 ≤ a ∧ a < n) (hg : (g a).1 = 100 + t) (hi : i < (g a).2.1 ∧ i < 1000) (hb : 5 ≤ b ∧ b < n) (hgb : (g b).1 = c)
    (k : g_Ev l E z y (pc + 1) ls st n (g_st g a i (2, (b : Int))) QQ) : g_Ev l E z y pc ls ((2, (b : Int)) :: (0, (i : Int)) :: (2, (a : Int)) :: st) n g QQ := by
  intro p e R s m args below meth c' H locs cells slots lr hM hC hA hf hl hcc hs hN hlo hL
  have hK := hC.2.2.2.2.2.2.2.2
  have hO := hN.arr ha hg
  have hx := x_idx (i := (i : Int)) (by omega) (by omega)
  rw [Int.toNat_natCast] at hx
  obtain ⟨cellV, g1, g2, g3, -⟩ := hN.obj hb hc hgb
  have hcls := (hK.1.1 c _ (x_KL_at c hc)).2
  obtain ⟨kA, comp, k1, k2, k3, -⟩ := (hK.2.1 t _ (hty E)).2 ht.2
  have hcomp : comp = E.2.2.1 c := Option.some.inj (k3.symm.trans hcls.1)
  rw [hcomp] at k2
  have hcls' := hcls
  obtain ⟨-, kC, hkC, -⟩ := hcls'
  simp only [List.map, g_cwA, x_cw0]
  refine W.aast hC.1 hC.2.1 hO (fun q h => by cases h) (fun h => by cases h) k1 k2 rfl hkC ⟨hx.1, by rw [arrV_size, hx.2]; exact hi.1⟩ g1 (fun q h => by rw [g3] at h; cases h) (by rw [g2]; exact hkC) (by rw [g2]; exact va_assign hcls) rfl rfl (x_dec hM hd) fun H1 e1 hz1 ho1 => ?_
  rw [hx.2, arrV_store] at e1
  have hO2 : x_CLa E t a (g a).2.1 (fun j => x_vv (if j = i then (2, (b : Int)) else (g a).2.2 j)) H1 := by
    unfold x_CLa
    rw [e1]
    congr 2
    funext j
    show (if j = i then Value.ref (x_adr E b) else x_cv E (x_vv ((g a).2.2 j))) = x_cv E (x_vv (if j = i then (2, (b : Int)) else (g a).2.2 j))
    by_cases ej : j = i
    · rw [if_pos ej, if_pos ej]; exact (g_cwA E b).symm
    · rw [if_neg ej, if_neg ej]
  refine k p e R s m args below meth c' H1 _ cells slots lr hM hC hA hf hl hcc hs (hN.set ha.1 hz1 ho1 (g_isA hg hO2)) (fun q hq => ?_) hL
  rcases List.mem_append.mp hq with h | h
  · exact hlo q h
  · rw [List.mem_singleton.mp h]
    show E.1 ≤ x_adr E a
    rw [x_adr_own ha.1]; omega
def g_PC (E : xE) (As : List xV) (n : Nat) (g : Nat → gC) : Array Value → State → Prop := fun v U => v = (As.map (x_cw E)).toArray ∧ g_H E U.heap n g ∧ x_CK E U ∧ x_AO U
theorem g_PC.blind (E : xE) (As : List xV) (n : Nat) (g : Nat → gC) : FrameBlind (g_PC E As n g) := fun a U gg mk h => ⟨h.1, h.2.1, x_CK.same (u := U) (U := U.calling gg mk a) rfl h.2.2.1, x_AO.same (u := U) (U := U.calling gg mk a) rfl h.2.2.2⟩
theorem g_Met {As : List xV} (hM : x_Mok y) (hn : (x_lay As).length ≤ y.2.2.1) (k : g_Ev l E z y 0 (x_ent As y.2.2.1) [] n g QQ) :
    Met l y.1 (x_ws y) (x_rm z) (g_PC E As n g) QQ z.2.1 z.2.2 (fun q => E.1 ≤ q) := by
  refine x_ofW (cc := y.2.1) (maxL := y.2.2.1) (ret := y.2.2.2.1) hM.1 rfl ?_
  intro p e s m args below meth c s₁ B hml hv
  obtain ⟨rfl, hN, hK, hA⟩ := hv
  have hts := atoms_spec (ws := x_ws y) B.pre
  have hC : x_Cx E y p s m ((As.map (x_cw E)).toArray) meth c := ⟨B.exec, B.bytes, hml, B.returns, B.notSynchronized, (name_of_methodNamed B.named B.method).1, findClass_of_methodNamed B.named, fun w hw => hts w (List.mem_cons_of_mem _ hw), hK⟩
  rw [lg_entry_eq]
  have h := k p e (headSpec (x_ws y) (x_rm z)).room s m _ below meth c s.heap [] 0 0 _ hM hC hA (Nat.le_refl z.1) (Nat.le_refl (60 * z.1)) (Nat.le_of_eq (Nat.zero_add _)) (Nat.le_of_eq (Nat.zero_add _)) hN (fun q hq => by simp at hq) (x_ent_LR E As y.2.2.1 hn)
  rw [Nat.zero_add, Nat.zero_add] at h
  exact h
/-- behind a constructor's call -/
theorem g_back {p : Program} {e : Env} {R : Room} {s : State} {m : MethodId} {args : Array Value} {below : List Frame} {meth : Method} {c : Code} {H : Heap} {locs : List Loc} {cells slots : Nat} {lr : Array Slot} {st0 : List Value} {As : Array Value}
    (hr : va_Run p l e R s m args below meth c H locs cells slots z1.2.1 z1.2.2 (F0 m pc lr st0) (st.map (x_cw E)) (g_QQ E (fun n1 g1 => g_Ev l E z2 y (pc + 3) ls st n1 g1 QQ) As) (fun q => E.1 ≤ q))
    (hM : x_Mok y) (hC : x_Cx E y p s m args meth c) (hA : x_AO s) (hz : z2.1 = z.1 ∧ z1.2.1 + z2.2.1 = z.2.1 ∧ z1.2.2 + z2.2.2 = z.2.2) (hf : z.1 ≤ R.frames) (hl : 60 * z.1 ≤ R.locals) (hc : cells + z.2.1 ≤ R.cells) (hs : slots + z.2.2 ≤ R.slots) (hlo : ∀ q ∈ locs, E.1 ≤ q.base) (hL : x_LR E ls lr y.2.2.1) :
    W p l e R s m args below meth c H locs cells slots (MQ below QQ args s (cells + z.2.1) (slots + z.2.2) (fun q => E.1 ≤ q)) (F0 m pc lr st0) := by
  intro T hT X
  obtain ⟨v, st₀, t, T', L, h0, X', hL', e1, e2, ⟨n1, g1, q1, q2, q3, q6⟩, go⟩ := hr T hT X
  have hv : v = none := by cases q1; rfl
  subst hv
  have h := q6 p e R s m args below meth c T'.heap (locs ++ L) (cells + z1.2.1) (slots + z1.2.2) lr hM hC hA (by omega) (by rw [hz.1]; exact hl) (by omega) (by omega) (by rw [e1]; exact q2) (fun q hq => by
    rcases List.mem_append.mp hq with h | h
    · exact hlo q h
    · exact hL' q h) hL
  rw [show cells + z1.2.1 + z2.2.1 = cells + z.2.1 by omega, show slots + z1.2.2 + z2.2.2 = slots + z.2.2 by omega] at h
  obtain ⟨t2, a1, b1⟩ := h T' rfl X'
  exact ⟨t2, go t2 a1, b1⟩
/-- the words of a constructor -/
def g_Cok (y : xMT) (k : Nat) : Prop := Cond.instanceMethod y.1 ∈ x_tb ∧ Cond.initialized y.1.cls ∈ x_tb ∧ (parseMethodDescriptor y.1.desc).map (fun d => d.parameters.length) = some k ∧ y.1.name = "<init>" ∧ y.2.2.2.1 = none ∧ y.1.cls ≠ "LeaderTermsLaw"
theorem j_call {idx a : Nat} {ls0 st0 : List xV} (As : List xV) (k0 : Nat) (hd : y.2.2.2.2[k0]? = some (pc, .invokespecial idx, 3)) (hml : Cond.methodLink y.1.cls idx y1.1 ∈ x_tb ∨ ∃ host, Cond.methodLinkNest y.1.cls idx y1.1 host ∈ lw_tbl) (hM1 : x_Mok y1) (hV : g_Cok y1 As.length) (hst : st0 = As.reverse ++ (2, (a : Int)) :: st) (he : x_ent ((2, (a : Int)) :: As) y1.2.2.1 = ls0 ∧ (x_lay ((2, (a : Int)) :: As)).length ≤ y1.2.2.1) (h8 : (st.map (fun v => if v.1 = 1 then 2 else 1)).sum ≤ 8) (hz : z1.1 + 1 ≤ z.1 ∧ z2.1 = z.1 ∧ z1.2.1 + z2.2.1 = z.2.1 ∧ z1.2.2 + z2.2.2 = z.2.2)
    (k : g_Ev l E z1 y1 0 ls0 [] n g (g_QQ E (fun n1 g1 => g_Ev l E z2 y (pc + 3) ls st n1 g1 QQ))) : g_Ev l E z y pc ls st0 n g QQ := by
  intro p e R s m args below meth c' H locs cells slots lr hM hC hA hf hl hcc hss hN hlo hL
  subst hst
  rw [← he.1] at k
  have hMet := g_Met hM1 he.2 k
  have hts := hC.2.2.2.2.2.2.2.1
  have hK := hC.2.2.2.2.2.2.2.2
  obtain ⟨v1, v2, v3, v4, v5, v6⟩ := hV
  have hG : GoodIn x_tb (x_ws y1) := x_ws_good hM1 v6
  have hws : x_ws y1 = Cond.code y1.1 y1.2.1 y1.2.2.1 none :: x_tb := by unfold x_ws; rw [v5]
  have hp : PreS s H (g_PC E ((2, (a : Int)) :: As) n g) (.ref (x_adr E a) :: As.map (x_cw E)) := ⟨g_PC.blind E _ n g, fun U hU hW => ⟨by simp only [List.map, g_cwA], by rw [hU]; exact hN, hK.moved hW, hA.moved hW⟩⟩
  have hR : (x_rm z1).frames + 1 ≤ R.frames ∧ 8 + (y1.2.2.1 + 11) + (x_rm z1).locals ≤ R.locals := ⟨by show z1.1 + 1 ≤ R.frames; omega, by show 8 + (y1.2.2.1 + 11) + 60 * z1.1 ≤ R.locals; have := hM1.2.2.2.1; omega⟩
  have hdd : y1.1.cls ≠ "java/lang/invoke/MethodHandle" ∧ y1.1.cls ≠ "java/lang/invoke/VarHandle" ∧ (parseMethodDescriptor y1.1.desc).map (fun d => d.parameters.length) = some As.length := ⟨hM1.2.2.2.2.1, hM1.2.2.2.2.2, v3⟩
  have e2 : (As.reverse ++ (2, (a : Int)) :: st).map (x_cw E) = (As.map (x_cw E)).reverse ++ .ref (x_adr E a) :: st.map (x_cw E) := by rw [x_mrev]; simp only [List.map, g_cwA]
  have hrun : va_Run p l e R s m args below meth c' H locs cells slots z1.2.1 z1.2.2 (F0 m pc lr ((As.map (x_cw E)).reverse ++ .ref (x_adr E a) :: st.map (x_cw E))) (st.map (x_cw E)) (g_QQ E (fun n1 g1 => g_Ev l E z2 y (pc + 3) ls st n1 g1 QQ) (Value.ref (x_adr E a) :: As.map (x_cw E)).toArray) (fun q => E.1 ≤ q) := by
    rcases hml with hm | ⟨host, hm⟩
    · exact va_runI (rest := st.map (x_cw E)) (b := x_adr E a) (As := As.map (x_cw E)) ⟨hC.1, hC.2.1, hC.2.2.1, hC.2.2.2.2.2.2.1, hts⟩ hMet (cwI As.length hts hG hws rfl rfl (hts _ v2) (hts _ hm) (hts _ v1) v4 hdd hR) hp rfl (by simp) hL.1 rfl (x_room8 h8) (x_dec hM hd) ⟨by omega, by omega⟩
    · exact va_runIN (rest := st.map (x_cw E)) (b := x_adr E a) (As := As.map (x_cw E)) ⟨hC.1, hC.2.1, hC.2.2.1, hC.2.2.2.2.2.2.1, hts⟩ hMet ⟨va_cnB (ret := none) As.length hts hG hws rfl rfl (hK.2.2.2 _ hm rfl) (hts _ v2) hdd hR, v4, hts _ v1⟩ hp rfl (by simp) hL.1 rfl (x_room8 h8) (x_dec hM hd) ⟨by omega, by omega⟩
  rw [e2]
  exact g_back (z := z) (z1 := z1) hrun hM hC hA hz.2 hf hl hcc hss hlo hL
end XJ
