/-! Cells of the heap and how they are read and written -/
/-- the words that stay as the tables warm; the nest's words apart -/
def x_tb : List Cond := lw_tbl.filter goodWord
theorem x_tm {w : Cond} (i : Nat) (h : lw_tbl[i]? = some w) (hg : goodWord w = true) : w ∈ x_tb := List.mem_filter.mpr ⟨List.mem_of_getElem? h, hg⟩
def x_isN (w : Cond) : Bool := match w with
  | .methodLinkNest .. => true
  | .fieldLinkNest .. => true
  | _ => false
def x_NW (U : State) : Prop := ∀ w ∈ lw_tbl, x_isN w = true → va_Nw w U
theorem x_NW.moved {u U : State} (hW : u.WarmedH U.vm) (h : x_NW u) : x_NW U := fun w hw hn => by
  have hz := h w hw hn
  unfold x_isN at hn
  split at hn
  · exact hz.warmM hW
  · exact hz.warmF hW
  · cases hn
theorem x_NW.same {u U : State} (hv : u.vm = U.vm) (h : x_NW u) : x_NW U := fun w hw hn => by
  have hz := h w hw hn
  unfold x_isN at hn
  split at hn
  · exact va_Nw.same rfl hv hz
  · exact va_Nw.same rfl hv hz
  · cases hn
def x_TY (E : xE) : List (ClassId × FieldType) := [(E.2.2.2.2 0, .int), (E.2.2.2.2 1, .long), (E.2.2.2.2 2, .object "LeaderTerms$Follower"), (E.2.2.2.2 3, .object "LeaderTerms$Plans"), (E.2.2.2.2 4, .object "LeaderTerms$Row"), (E.2.2.2.2 5, .object "LeaderTerms$Spot"), (E.2.2.2.2 6, .array .int), (E.2.2.2.2 7, .array (.array .int)), (E.2.2.2.2 8, .array .long), (E.2.2.2.2 9, .array (.array .long)), (E.2.2.2.2 10, .int), (E.2.2.2.2 11, .int), (E.2.2.2.2 12, .int), (E.2.2.2.2 13, .int), (E.2.2.2.2 14, .int)]
def x_sname (i : Nat) : String := match i with
  | 1 => "KIND_ABOVE"
  | 2 => "LEAST_TRAIT"
  | 3 => "GREATEST_TRAIT"
  | _ => "FIRST_TRAIT"
/-- the static arrays: where the class keeps them (by E: 10 + i the cell, 20 + i the slot) -/
def x_ST (E : xE) (U : State) : Prop := ∀ i, 1 ≤ i → i < 5 → ∃ (cf : ClassId) (kf : Class) (fi : Nat) (f : Field), U.fieldFound? "LeaderTerms" (x_sname i) "[I" = some (cf, kf, fi, f) ∧ f.isStatic = true ∧ kf.init = .initialized ∧ kf.statics = some (E.2.1 (10 + i)) ∧ f.slot = E.2.1 (20 + i)
def x_CK (E : xE) (s : State) : Prop := va_K (E.2.2.1, E.2.2.2.1) x_KL [] s ∧ (∀ (k : Nat) (q : ClassId × FieldType), (x_TY E)[k]? = some q → ArrOfT s q.1 q.2 ∧ (k < 10 → va_RA s q.1 q.2)) ∧ x_ST E s ∧ x_NW s
theorem x_CK.alike {E : xE} {u U : State} (hvm : u.vm.Alike U.vm) (hw : x_NW U) (h : x_CK E u) : x_CK E U := by
  refine ⟨h.1.moved hvm, fun k q hk => ⟨arrOfT_moved hvm (h.2.1 k q hk).1, fun h10 => ((h.2.1 k q hk).2 h10).moved hvm⟩, fun i h1 h2 => ?_, hw⟩
  obtain ⟨cf, kf, fi, f, q1, q2, q3, q4, q5⟩ := h.2.2.1 i h1 h2
  obtain ⟨k', hi', he⟩ := State.fieldFound?_setVm hvm q1
  exact ⟨cf, k', fi, f, hi', q2, by rw [he]; exact q3, by rw [he]; exact q4, q5⟩
theorem x_CK.moved {E : xE} {u U : State} (hW : u.WarmedH U.vm) (h : x_CK E u) : x_CK E U := h.alike hW.alike (h.2.2.2.moved hW)
theorem x_CK.same {E : xE} {u U : State} (hv : u.vm = U.vm) (h : x_CK E u) : x_CK E U := h.alike (by rw [hv]; exact Vm.Alike.refl _) (h.2.2.2.same hv)
theorem x_KL_at : ∀ c, c < 12 → x_KL[c]? = some (x_C c, x_T c, x_N c)
  | 0, _ => rfl
  | 1, _ => rfl
  | 2, _ => rfl
  | 3, _ => rfl
  | 4, _ => rfl
  | 5, _ => rfl
  | 6, _ => rfl
  | 7, _ => rfl
  | 8, _ => rfl
  | 9, _ => rfl
  | 10, _ => rfl
  | 11, _ => rfl
  | c + 12, h => absurd h (by omega)
theorem x_inl : ∀ c, c < 12 → ∀ w ∈ u_ws (x_C c) (x_T c) (x_N c), w ∈ lw_tbl
  | 0, _ => x_in0
  | 1, _ => x_in1
  | 2, _ => x_in2
  | 3, _ => x_in3
  | 4, _ => x_in4
  | 5, _ => x_in5
  | 6, _ => x_in6
  | 7, _ => x_in7
  | 8, _ => x_in8
  | 9, _ => x_in9
  | 10, _ => x_in10
  | 11, _ => x_in11
  | c + 12, h => absurd h (by omega)
theorem x_in : ∀ c, c < 12 → ∀ w ∈ u_ws (x_C c) (x_T c) (x_N c), w ∈ x_tb := by
  intro c hc w hw
  refine List.mem_filter.mpr ⟨x_inl c hc w hw, ?_⟩
  obtain ⟨k, -, rfl⟩ := List.mem_map.mp hw
  unfold u_lay
  split <;> rfl
def x_ty (c : Nat) : Nat → FieldType := match c with
  | 0 => x_ty0
  | 1 => x_ty1
  | 2 => x_ty2
  | 3 => x_ty3
  | 4 => x_ty4
  | 5 => x_ty5
  | 6 => x_ty6
  | 7 => x_ty7
  | 8 => x_ty8
  | 9 => x_ty9
  | 10 => x_ty10
  | _ => x_ty11
theorem x_tyok : ∀ c, c < 12 → ∀ k, k < x_N c → parseFieldDescriptor (x_T c k).2.2.1 = some (x_ty c k)
  | 0, _ => x_tyok0
  | 1, _ => x_tyok1
  | 2, _ => x_tyok2
  | 3, _ => x_tyok3
  | 4, _ => x_tyok4
  | 5, _ => x_tyok5
  | 6, _ => x_tyok6
  | 7, _ => x_tyok7
  | 8, _ => x_tyok8
  | 9, _ => x_tyok9
  | 10, _ => x_tyok10
  | 11, _ => x_tyok11
  | c + 12, h => absurd h (by omega)
theorem x_nm : ∀ c, c < 12 → ∀ a, a < x_N c → ∀ b, b < x_N c → a ≠ b → (x_T c a).2.1 ≠ (x_T c b).2.1
  | 0, _ => x_nm0
  | 1, _ => x_nm1
  | 2, _ => x_nm2
  | 3, _ => x_nm3
  | 4, _ => x_nm4
  | 5, _ => x_nm5
  | 6, _ => x_nm6
  | 7, _ => x_nm7
  | 8, _ => x_nm8
  | 9, _ => x_nm9
  | 10, _ => x_nm10
  | 11, _ => x_nm11
  | c + 12, h => absurd h (by omega)
def x_CLo (E : xE) (c a : Nat) (f : Nat → Value) (H : Heap) : Prop := t_OB (x_adr E a) (E.2.2.1 c) (x_N c) (E.2.2.2.1 c) H (fun k => x_cv E (f k))
def x_CLa (E : xE) (t a n : Nat) (f : Nat → Value) (H : Heap) : Prop := H[x_adr E a]? = some (arrV (E.2.2.2.2 t) n (fun j => x_cv E (f j)))
section XC
variable {p : Program} {l : Launch} {e : Env} {R : Room} {s : State} {m : MethodId} {args : Array Value} {below : List Frame} {meth : Method} {c : Code} {H : Heap} {locs : List Loc} {cells slots : Nat} {Q : State → Prop}
variable {cc : ByteArray} {pc : Nat} {ls : Array Slot} {rest : List Value} {E : xE}
def x_FL (own : String) (idx cl k : Nat) : Prop := Cond.fieldLink own idx (x_T cl k).1 (x_T cl k).2.1 (x_T cl k).2.2.1 ∈ x_tb
theorem x_slots (hK : x_CK E s) (hts : ∀ w ∈ x_tb, w.before args s = true) {cl : Nat} (hc : cl < 12) : ∀ a b, a < x_N cl → b < x_N cl → a ≠ b → E.2.2.2.1 cl a ≠ E.2.2.2.1 cl b := by
  intro x y hx hy hne
  obtain ⟨hS, -⟩ := hK.1.1 cl _ (x_KL_at cl hc)
  obtain ⟨_, _, _, fa, hia, ea⟩ := hS x hx
  obtain ⟨_, _, _, fb, hib, eb⟩ := hS y hy
  show (E.2.2.2.1) cl x ≠ (E.2.2.2.1) cl y
  have ea' : fa.slot = E.2.2.2.1 cl x := ea
  have eb' : fb.slot = E.2.2.2.1 cl y := eb
  rw [← ea', ← eb']
  refine u_apart (u_lays hts (x_in cl hc) hx) (u_lays hts (x_in cl hc) hy) hia hib ?_
  rw [(State.fieldFound?_type hia (x_tyok cl hc x hx)).1, (State.fieldFound?_type hib (x_tyok cl hc y hy)).1]
  exact x_nm cl hc x hx y hy hne
theorem x_getf (hexec : p.tables.exec = Jvm.exec) (hb : c.code = cc) {own : String} (hts : ∀ w ∈ x_tb, w.before args s = true) (hown : s.vm.findClass own = some m.cls) (hK : x_CK E s) {idx cl k a : Nat} (hc : cl < 12) (hk : k < x_N cl) (hfl : x_FL own idx cl k) {f : Nat → Value} (hO : x_CLo E cl a f H)
    (hdg : decode cc pc = .ok (.getfield idx, 3)) (kk : W p l e R s m args below meth c H locs cells slots Q (F0 m (pc + 3) ls (x_cv E (f k) :: rest))) : W p l e R s m args below meth c H locs cells slots Q (F0 m pc ls (.ref (x_adr E a) :: rest)) := by
  obtain ⟨cell, q1, q2, q3, q4⟩ := hO
  obtain ⟨hS, hfc, kC, hkC, hkind⟩ := hK.1.1 cl _ (x_KL_at cl hc)
  obtain ⟨cf, kf, fi, fd, hi, hsl⟩ := hS k hk
  have hst := (u_facts hfc hkC (u_lays hts (x_in cl hc) hk) hi).1
  have hsl' : fd.slot = E.2.2.2.1 cl k := hsl
  exact W.getf hexec hb hown (hts _ hfl) hi hst q1 (by rw [q3]; intro h; cases h) (by rw [hsl']; exact q4 k hk) rfl rfl hdg kk
theorem x_putf (hexec : p.tables.exec = Jvm.exec) (hb : c.code = cc) {own : String} (hts : ∀ w ∈ x_tb, w.before args s = true) (hown : s.vm.findClass own = some m.cls) (hK : x_CK E s) {idx cl k a : Nat} (hc : cl < 12) (hk : k < x_N cl) (hfl : x_FL own idx cl k) (hfin : (x_T cl k).2.2.2 = false) {f : Nat → Value} (hO : x_CLo E cl a f H) {v : Value} (hn : narrow (x_ty cl k) (x_cv E v) = x_cv E v) (hfit : fits (x_ty cl k) (x_cv E v) = true)
    (hdg : decode cc pc = .ok (.putfield idx, 3)) (kk : ∀ (H1 : Heap) (lo : Loc), lo.base = x_adr E a → x_CLo E cl a (updV f k v) H1 → H1.size = H.size → (∀ q, q ≠ x_adr E a → H1[q]? = H[q]?) → W p l e R s m args below meth c H1 (locs ++ [lo]) cells slots Q (F0 m (pc + 3) ls rest)) : W p l e R s m args below meth c H locs cells slots Q (F0 m pc ls (x_cv E v :: .ref (x_adr E a) :: rest)) := by
  have hap := x_slots hK hts hc
  obtain ⟨cell, q1, q2, q3, q4⟩ := hO
  obtain ⟨hS, hfc, kC, hkC, hkind⟩ := hK.1.1 cl _ (x_KL_at cl hc)
  obtain ⟨cf, kf, fi, fd, hi, hsl⟩ := hS k hk
  have hlay := hts _ (x_in cl hc _ (u_in_lay hk))
  unfold u_lay at hlay
  rw [if_neg (by rw [hfin]; decide)] at hlay
  have hst := (u_facts hfc hkC (u_lays hts (x_in cl hc) hk) hi).1
  have h6 := u_store hfc hkC hkind hlay hi (x_tyok cl hc k hk) hn hfit
  have hsl' : fd.slot = E.2.2.2.1 cl k := hsl
  refine W.putK hexec hb (f := fd) ⟨hown, hts _ hfl, ⟨_, _, _, hi⟩, hst⟩ (by rw [q2]; exact h6) q1 q3 (by rw [hsl']; exact k2_hasslot (q4 k hk)) rfl rfl hdg fun H' e1 e2 e3 => ?_
  refine kk H' ⟨x_adr E a, fd.slot⟩ rfl ?_ e2 e3
  rw [hsl'] at e1
  refine t_OB.to (V := updV (fun j => x_cv E (f j)) k (x_cv E v)) ⟨_, e1, q2, q3, t_set q4 hap hk (x_cv E v)⟩ (fun j _ => ?_)
  unfold updV
  split <;> rfl
theorem x_putF (hexec : p.tables.exec = Jvm.exec) (hb : c.code = cc) {own : String} (hts : ∀ w ∈ x_tb, w.before args s = true) (hown : s.vm.findClass own = some m.cls) (hK : x_CK E s) {idx cl k a : Nat} (hc : cl < 12) (hk : k < x_N cl) (hfl : x_FL own idx cl k) (hfin : (x_T cl k).2.2.2 = true) (hin2 : meth.name = "<init>") (hdecl : (x_T cl k).1 = own) {f : Nat → Value} (hO : x_CLo E cl a f H) {v : Value} (hn : narrow (x_ty cl k) (x_cv E v) = x_cv E v) (hfit : fits (x_ty cl k) (x_cv E v) = true)
    (hdg : decode cc pc = .ok (.putfield idx, 3)) (kk : ∀ (H1 : Heap) (lo : Loc), lo.base = x_adr E a → x_CLo E cl a (updV f k v) H1 → H1.size = H.size → (∀ q, q ≠ x_adr E a → H1[q]? = H[q]?) → W p l e R s m args below meth c H1 (locs ++ [lo]) cells slots Q (F0 m (pc + 3) ls rest)) : W p l e R s m args below meth c H locs cells slots Q (F0 m pc ls (x_cv E v :: .ref (x_adr E a) :: rest)) := by
  have hap := x_slots hK hts hc
  obtain ⟨cell, q1, q2, q3, q4⟩ := hO
  obtain ⟨hS, hfc, kC, hkC, hkind⟩ := hK.1.1 cl _ (x_KL_at cl hc)
  obtain ⟨cf, kf, fi, fd, hi, hsl⟩ := hS k hk
  have hlay := hts _ (x_in cl hc _ (u_in_lay hk))
  unfold u_lay at hlay
  rw [if_pos hfin] at hlay
  have hst := (u_facts hfc hkC (u_lays hts (x_in cl hc) hk) hi).1
  have hcf : m.cls = cf := by
    obtain ⟨_, _, c', _, _, _, -, -, hf', -, -, -, hown2, -⟩ := Cond.laysFinal_spec hlay
    have e1 : c' = cf := by have := hi.symm.trans hf'; simp at this; exact this.1.symm
    rw [hdecl] at hown2
    rw [← e1]; exact Option.some.inj (hown.symm.trans hown2)
  have h6 := u_fits hfc hkC hkind (Or.inr hlay) hi (x_tyok cl hc k hk) hn hfit
  have hsl' : fd.slot = E.2.2.2.1 cl k := hsl
  refine W.putFinK hexec hb hown (hts _ hfl) hi hst hcf hin2 (by rw [q2]; exact h6) q1 q3 (by rw [hsl']; exact k2_hasslot (q4 k hk)) rfl rfl hdg fun H' e1 e2 e3 => ?_
  refine kk H' ⟨x_adr E a, fd.slot⟩ rfl ?_ e2 e3
  rw [hsl'] at e1
  refine t_OB.to (V := updV (fun j => x_cv E (f j)) k (x_cv E v)) ⟨_, e1, q2, q3, t_set q4 hap hk (x_cv E v)⟩ (fun j _ => ?_)
  unfold updV
  split <;> rfl
theorem x_updV (f : Nat → Value) (k : Nat) (v : Value) : updV (fun j => x_cv E (f j)) k (x_cv E v) = fun j => x_cv E (updV f k v j) := by
  funext j
  unfold updV
  split <;> rfl
theorem x_isA {s : State} {cA : ClassId} {ty : FieldType} (h : ArrOfT s cA ty) {cell : Cell} (hc : cell.cls = cA) (hv : ∀ k, cell.vm ≠ .statics k) : s.isArrayOf cell ty := by
  obtain ⟨-, k, hk, q⟩ := h 0 (fun _ => .null)
  exact ⟨hv, k, by rw [hc]; exact hk, q⟩
theorem x_iald (hexec : p.tables.exec = Jvm.exec) (hb : c.code = cc) (hK : x_CK E s) {a n : Nat} {f : Nat → Value} (hO : x_CLa E 0 a n f H) {i : Int32} (hi : ¬ i < 0) (hn : i.toNatClampNeg < n) (hdg : decode cc pc = .ok (.iaload, 1))
    (kk : W p l e R s m args below meth c H locs cells slots Q (F0 m (pc + 1) ls (x_cv E (f i.toNatClampNeg) :: rest))) : W p l e R s m args below meth c H locs cells slots Q (F0 m pc ls (.int i :: .ref (x_adr E a) :: rest)) :=
  W.iald hexec hb hO ((hK.2.1 0 _ rfl).1 n _) (fun q => by cases q) (by rw [arrV_size]; exact fun q => q.elim hi (fun q => by omega)) (by rw [arrV_read _ _ hn]) rfl rfl hdg kk
theorem x_lald (hexec : p.tables.exec = Jvm.exec) (hb : c.code = cc) (hK : x_CK E s) {a n : Nat} {f : Nat → Value} (hO : x_CLa E 1 a n f H) {i : Int32} (hi : ¬ i < 0) (hn : i.toNatClampNeg < n) (hdg : decode cc pc = .ok (.laload, 1))
    (kk : W p l e R s m args below meth c H locs cells slots Q (F0 m (pc + 1) ls (x_cv E (f i.toNatClampNeg) :: rest))) : W p l e R s m args below meth c H locs cells slots Q (F0 m pc ls (.int i :: .ref (x_adr E a) :: rest)) :=
  W.lald hexec hb hO ((hK.2.1 1 _ rfl).1 n _) (fun q => by cases q) (by rw [arrV_size]; exact fun q => q.elim hi (fun q => by omega)) (by rw [arrV_read _ _ hn]) rfl rfl hdg kk
theorem x_aald (hexec : p.tables.exec = Jvm.exec) (hb : c.code = cc) (hK : x_CK E s) {t a n : Nat} (ht : 2 ≤ t ∧ t ≤ 9) {f : Nat → Value} (hO : x_CLa E t a n f H) {i : Int32} (hi : ¬ i < 0) (hn : i.toNatClampNeg < n) (hdg : decode cc pc = .ok (.aaload, 1))
    (kk : W p l e R s m args below meth c H locs cells slots Q (F0 m (pc + 1) ls (x_cv E (f i.toNatClampNeg) :: rest))) : W p l e R s m args below meth c H locs cells slots Q (F0 m pc ls (.int i :: .ref (x_adr E a) :: rest)) := by
  have key : ∀ ty : FieldType, (x_TY E)[t]? = some (E.2.2.2.2 t, ty) → ty.isReference = true → W p l e R s m args below meth c H locs cells slots Q (F0 m pc ls (.int i :: .ref (x_adr E a) :: rest)) := fun ty h1 h2 =>
    W.aald hexec hb hO ((hK.2.1 t _ h1).1 n _) h2 (fun q => by cases q) (by rw [arrV_size]; exact fun q => q.elim hi (fun q => by omega)) (by rw [arrV_read _ _ hn]) rfl rfl hdg kk
  obtain ⟨h2, h9⟩ := ht
  match t, h2, h9, key with
  | 2, _, _, key => exact key _ rfl rfl
  | 3, _, _, key => exact key _ rfl rfl
  | 4, _, _, key => exact key _ rfl rfl
  | 5, _, _, key => exact key _ rfl rfl
  | 6, _, _, key => exact key _ rfl rfl
  | 7, _, _, key => exact key _ rfl rfl
  | 8, _, _, key => exact key _ rfl rfl
  | 9, _, _, key => exact key _ rfl rfl
theorem x_alen (hexec : p.tables.exec = Jvm.exec) (hb : c.code = cc) (hK : x_CK E s) {t a n : Nat} {ty : FieldType} (ht : (x_TY E)[t]? = some (E.2.2.2.2 t, ty)) {f : Nat → Value} (hO : x_CLa E t a n f H) {v : Int32} (hv : Int32.ofNat n = v) (hdg : decode cc pc = .ok (.arraylength, 1))
    (kk : W p l e R s m args below meth c H locs cells slots Q (F0 m (pc + 1) ls (.int v :: rest))) : W p l e R s m args below meth c H locs cells slots Q (F0 m pc ls (.ref (x_adr E a) :: rest)) :=
  W.alen hexec hb hO ((hK.2.1 t _ ht).1 n _) (by rw [arrV_size]; exact hv) rfl rfl hdg kk
theorem x_iast (hexec : p.tables.exec = Jvm.exec) (hb : c.code = cc) (hK : x_CK E s) {a n : Nat} {f : Nat → Value} (hO : x_CLa E 0 a n f H) {i x : Int32} (hi : ¬ i < 0) (hn : i.toNatClampNeg < n) (hdg : decode cc pc = .ok (.iastore, 1))
    (kk : ∀ (H1 : Heap) (lo : Loc), lo.base = x_adr E a → x_CLa E 0 a n (updV f i.toNatClampNeg (.int x)) H1 → H1.size = H.size → (∀ q, q ≠ x_adr E a → H1[q]? = H[q]?) → W p l e R s m args below meth c H1 (locs ++ [lo]) cells slots Q (F0 m (pc + 1) ls rest)) : W p l e R s m args below meth c H locs cells slots Q (F0 m pc ls (.int x :: .int i :: .ref (x_adr E a) :: rest)) := by
  refine W.iast hexec hb hO ((hK.2.1 0 _ rfl).1 n _) (fun q => by cases q) (by rw [arrV_size]; exact fun q => q.elim hi (fun q => by omega)) rfl rfl hdg fun H1 e1 z oq => kk H1 _ rfl ?_ z oq
  unfold x_CLa
  rw [e1, arrV_store]
  exact congrArg some (congrArg (arrV _ n) (x_updV (E := E) f _ (.int x)))
theorem x_last (hexec : p.tables.exec = Jvm.exec) (hb : c.code = cc) (hK : x_CK E s) {a n : Nat} {f : Nat → Value} (hO : x_CLa E 1 a n f H) {i : Int32} {x : Int64} (hi : ¬ i < 0) (hn : i.toNatClampNeg < n) (hdg : decode cc pc = .ok (.lastore, 1))
    (kk : ∀ (H1 : Heap) (lo : Loc), lo.base = x_adr E a → x_CLa E 1 a n (updV f i.toNatClampNeg (.long x)) H1 → H1.size = H.size → (∀ q, q ≠ x_adr E a → H1[q]? = H[q]?) → W p l e R s m args below meth c H1 (locs ++ [lo]) cells slots Q (F0 m (pc + 1) ls rest)) : W p l e R s m args below meth c H locs cells slots Q (F0 m pc ls (.long x :: .int i :: .ref (x_adr E a) :: rest)) := by
  refine W.last hexec hb hO ((hK.2.1 1 _ rfl).1 n _) (fun q => by cases q) (by rw [arrV_size]; exact fun q => q.elim hi (fun q => by omega)) rfl rfl hdg fun H1 e1 z oq => kk H1 _ rfl ?_ z oq
  unfold x_CLa
  rw [e1, arrV_store]
  exact congrArg some (congrArg (arrV _ n) (x_updV (E := E) f _ (.long x)))
end XC
