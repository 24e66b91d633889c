/-! multianewarray: what the machine makes, dimension by dimension -/
section XMA
variable {p : Program} {l : Launch} {e : Env} {R : Room} {s : State} {m : MethodId} {args : Array Value} {below : List Frame} {meth : Method} {c : Code} {H : Heap} {locs : List Loc} {cells slots : Nat} {Q : State → Prop}
/-- what a making does to a state: so many cells and slots, these cells, nothing else -/
def m_OK (p : Program) (l : Launch) (e : Env) (R : Room) (s : State) (m : MethodId) (args : Array Value) (below : List Frame) (meth : Method) (c : Code) (F : State → State) (cn sl : Nat) (cell : Nat → Nat → Cell) : Prop :=
  (∀ T : State, (F T).heap.size = T.heap.size + cn) ∧ (∀ T : State, (F T).slotsUsed = T.slotsUsed + sl) ∧ (∀ T : State, (F T).vm = T.vm) ∧ (∀ (T : State) (q : Nat), q < T.heap.size → (F T).heap[q]? = T.heap[q]?) ∧ (∀ (T : State) (t : Nat), t < cn → (F T).heap[T.heap.size + t]? = some (cell T.heap.size t)) ∧ (∀ (T : State) (f : JFrame), F (T.setTop f) = (F T).setTop f) ∧ ∀ (T : State) (locs : List Loc) (cells slots : Nat), Stand p l e R s m args below meth c T locs cells slots → Stand p l e R s m args below meth c (F T) locs (cells + cn) (slots + sl)
def m_bs (cA : ClassId) (n : Nat) (v : Value) : State → State := fun T => T.pushCell (arrV cA n (fun _ => v))
theorem m_base (cA : ClassId) (n : Nat) (v : Value) : m_OK p l e R s m args below meth c (m_bs cA n v) 1 n (fun _ _ => arrV cA n (fun _ => v)) := by
  refine ⟨fun T => by simp [m_bs], fun T => by simp [m_bs, arrV_size], fun T => rfl, fun T q hq => State.heap_pushCell_of_lt _ _ hq, fun T t ht => ?_, fun T f => rfl, fun T locs cells slots X => ?_⟩
  · have e0 : t = 0 := by omega
    rw [e0]; exact State.heap_pushCell_size _ _
  · have h := X.pushed (arrV cA n (fun _ => v))
    rw [arrV_size] at h
    exact h
def m_oc (cA : ClassId) (N cn h0 i : Nat) : Cell := arrV cA N (fun j => if j < i then .ref (h0 + 1 + j * cn) else .null)
theorem m_oc_set (cA : ClassId) (N cn h0 i : Nat) : (m_oc cA N cn h0 i).setSlot i (.ref (h0 + 1 + i * cn)) = m_oc cA N cn h0 (i + 1) := by
  unfold m_oc
  rw [arrV_store]
  congr 1
  funext j
  unfold updV
  by_cases h : j = i
  · rw [if_pos h, if_pos (by omega), h]
  · rw [if_neg h]
    show (if j < i then Value.ref (h0 + 1 + j * cn) else .null) = _
    by_cases h2 : j < i
    · rw [if_pos h2, if_pos (by omega)]
    · rw [if_neg h2, if_neg (by omega)]
def m_fill (F : State → State) (cA : ClassId) (N cn : Nat) (T : State) : Nat → State
  | 0 => T.pushCell (m_oc cA N cn T.heap.size 0)
  | i + 1 => (F (m_fill F cA N cn T i)).setCell T.heap.size (m_oc cA N cn T.heap.size (i + 1))
def m_cell (cA : ClassId) (N cn : Nat) (cell : Nat → Nat → Cell) (h0 t : Nat) : Cell := if t = 0 then m_oc cA N cn h0 N else cell (h0 + 1 + (t - 1) / cn * cn) ((t - 1) % cn)
section XMB
variable {F : State → State} {cn sl : Nat} {cell : Nat → Nat → Cell} {cA : ClassId} {N : Nat}
theorem m_facts (hF : m_OK p l e R s m args below meth c F cn sl cell) (T : State) : ∀ i : Nat, (m_fill F cA N cn T i).heap.size = T.heap.size + 1 + i * cn ∧ (m_fill F cA N cn T i).slotsUsed = T.slotsUsed + N + i * sl ∧ (m_fill F cA N cn T i).vm = T.vm ∧ (∀ q : Nat, q < T.heap.size → (m_fill F cA N cn T i).heap[q]? = T.heap[q]?) ∧ (m_fill F cA N cn T i).heap[T.heap.size]? = some (m_oc cA N cn T.heap.size i) ∧ ∀ j : Nat, j < i → ∀ t : Nat, t < cn → (m_fill F cA N cn T i).heap[T.heap.size + 1 + j * cn + t]? = some (cell (T.heap.size + 1 + j * cn) t)
  | 0 => by
    have e0 : (m_oc cA N cn T.heap.size 0).slots.size = N := arrV_size _ _ _
    refine ⟨by simp [m_fill], by simp [m_fill, e0], rfl, fun q hq => State.heap_pushCell_of_lt _ _ hq, State.heap_pushCell_size _ _, fun j hj => by omega⟩
  | i + 1 => by
    obtain ⟨a1, a2, a3, a4, a5, a6⟩ := m_facts hF T i
    obtain ⟨b1, b2, b3, b4, b5, -, -⟩ := hF
    have hlt : T.heap.size < (m_fill F cA N cn T i).heap.size := by rw [a1]; omega
    have hcell : (F (m_fill F cA N cn T i)).heap[T.heap.size]? = some (m_oc cA N cn T.heap.size i) := by rw [b4 _ _ hlt]; exact a5
    have hoth : ∀ q : Nat, q ≠ T.heap.size → (m_fill F cA N cn T (i + 1)).heap[q]? = (F (m_fill F cA N cn T i)).heap[q]? := fun q hq => State.heap_setCell_other (Ne.symm hq)
    have e1 : (i + 1) * cn = i * cn + cn := Nat.succ_mul i cn
    have e2 : (i + 1) * sl = i * sl + sl := Nat.succ_mul i sl
    refine ⟨?_, ?_, ?_, fun q hq => ?_, State.heap_setCell_self hcell, fun j hj t ht => ?_⟩
    · have h : (m_fill F cA N cn T (i + 1)).heap.size = (F (m_fill F cA N cn T i)).heap.size := by simp [m_fill, State.setCell]
      rw [h, b1, a1]; omega
    · have h : (m_fill F cA N cn T (i + 1)).slotsUsed = (F (m_fill F cA N cn T i)).slotsUsed := rfl
      rw [h, b2, a2]; omega
    · have h : (m_fill F cA N cn T (i + 1)).vm = (F (m_fill F cA N cn T i)).vm := rfl
      rw [h, b3, a3]
    · rw [hoth q (by omega), b4 _ q (by omega)]; exact a4 q hq
    · rw [hoth _ (by omega)]
      rcases Nat.lt_or_ge j i with q | q
      · have hm : j * cn + cn ≤ i * cn := by rw [← Nat.succ_mul]; exact Nat.mul_le_mul_right cn q
        rw [b4 _ _ (by rw [a1]; omega)]
        exact a6 j q t ht
      · have ej : j = i := by omega
        rw [ej, ← a1]
        exact b5 _ t ht
theorem m_fillTop (hF : m_OK p l e R s m args below meth c F cn sl cell) (T : State) (f : JFrame) : ∀ i : Nat, m_fill F cA N cn (T.setTop f) i = (m_fill F cA N cn T i).setTop f
  | 0 => rfl
  | i + 1 => by
    have ih := m_fillTop hF T f i
    show (F (m_fill F cA N cn (T.setTop f) i)).setCell T.heap.size (m_oc cA N cn T.heap.size (i + 1)) = ((F (m_fill F cA N cn T i)).setCell T.heap.size (m_oc cA N cn T.heap.size (i + 1))).setTop f
    rw [ih, hF.2.2.2.2.2.1]
    rfl
theorem m_fillStand (hF : m_OK p l e R s m args below meth c F cn sl cell) (T : State) (X : Stand p l e R s m args below meth c T locs cells slots) : ∀ i : Nat, Stand p l e R s m args below meth c (m_fill F cA N cn T i) locs (cells + (1 + i * cn)) (slots + (N + i * sl))
  | 0 => by
    have e0 : (m_oc cA N cn T.heap.size 0).slots.size = N := arrV_size _ _ _
    have h := X.pushed (m_oc cA N cn T.heap.size 0)
    rw [e0] at h
    rw [Nat.zero_mul, Nat.zero_mul]
    exact h
  | i + 1 => by
    have X1 := hF.2.2.2.2.2.2 _ _ _ _ (m_fillStand hF T X i)
    obtain ⟨a1, -, -, -, a5, -⟩ := m_facts (cA := cA) (N := N) hF T i
    have hlt : T.heap.size < (m_fill F cA N cn T i).heap.size := by rw [a1]; omega
    have hcell : (F (m_fill F cA N cn T i)).heap[T.heap.size]? = some (m_oc cA N cn T.heap.size i) := by rw [hF.2.2.2.1 _ _ hlt]; exact a5
    have X2 := X1.stored hcell i (.ref (T.heap.size + 1 + i * cn))
    rw [m_oc_set] at X2
    have X3 := Stand.forget X2 (fun q hq => by
      rw [List.mem_singleton.mp hq]
      exact X.same.2.1)
    have e1 : (i + 1) * cn = i * cn + cn := Nat.succ_mul i cn
    have e2 : (i + 1) * sl = i * sl + sl := Nat.succ_mul i sl
    rw [e1, e2, show cells + (1 + (i * cn + cn)) = cells + (1 + i * cn) + cn by omega, show slots + (N + (i * sl + sl)) = slots + (N + i * sl) + sl by omega]
    exact X3
theorem m_next (hF : m_OK p l e R s m args below meth c F cn sl cell) (h1 : 1 ≤ cn) : m_OK p l e R s m args below meth c (fun T => m_fill F cA N cn T N) (1 + N * cn) (N + N * sl) (m_cell cA N cn cell) := by
  refine ⟨fun T => ?_, fun T => ?_, fun T => ?_, fun T => ?_, fun T t ht => ?_, fun T f => m_fillTop hF T f N, fun T locs cells slots X => m_fillStand hF T X N⟩
  · have := (m_facts (cA := cA) (N := N) hF T N).1
    rw [this]; omega
  · have := (m_facts (cA := cA) (N := N) hF T N).2.1
    rw [this]; omega
  · exact (m_facts (cA := cA) (N := N) hF T N).2.2.1
  · exact (m_facts (cA := cA) (N := N) hF T N).2.2.2.1
  · unfold m_cell
    by_cases h0 : t = 0
    · rw [if_pos h0, h0]
      exact (m_facts (cA := cA) (N := N) hF T N).2.2.2.2.1
    · rw [if_neg h0]
      have hj : (t - 1) / cn < N := by
        rw [Nat.div_lt_iff_lt_mul (by omega)]; omega
      have hr : (t - 1) % cn < cn := Nat.mod_lt _ (by omega)
      have h := (m_facts (cA := cA) (N := N) hF T N).2.2.2.2.2 _ hj _ hr
      have ed : cn * ((t - 1) / cn) + (t - 1) % cn = t - 1 := Nat.div_add_mod (t - 1) cn
      have ed2 : (t - 1) / cn * cn = cn * ((t - 1) / cn) := Nat.mul_comm _ _
      have e1 : T.heap.size + 1 + (t - 1) / cn * cn + (t - 1) % cn = T.heap.size + t := by omega
      rw [e1] at h
      exact h
theorem m_rf {t : FieldType} (h : t.isReference = true) : (∀ a : Addr, fits t (.ref a) = true) ∧ fits t .null = true := by
  cases t <;> first | exact ⟨fun _ => rfl, rfl⟩ | (simp [FieldType.isReference] at h)
/-- 'make' with the tables vm: it gives the first new cell, and the state that F makes -/
def m_wp (e : Env) (vm : Vm) (mk : Sem Addr) (F : State → State) (cn sl : Nat) : Prop := ∀ (T : State) (E : CtlPost) (d : Bool) (acts : List Action) (Q : Addr → Pre), T.vm = vm → T.heap.size + cn ≤ e.platform.maxCells → T.slotsUsed + sl ≤ e.platform.maxSlots → (∀ d' acts', Q T.heap.size d' acts' (F T)) → wp mk Q E e d acts T
theorem m_wp1 {vm : Vm} {k : Class} {comp : ClassId} {t0 : FieldType} {n : Int32} (hk : vm.classes[cA]? = some k) (hkind : k.kind = .array comp t0) (hn : ¬ n < 0) (hl : ¬ n.toNatClampNeg > e.platform.arrayLengthLimit) (hh : ¬ n.toNatClampNeg * componentBytes t0 > e.platform.maxHeapBytes) (hdf : fits t0 (defaultValue t0) = true) : m_wp e vm (multianewarray.make cA [n]) (m_bs cA n.toNatClampNeg (defaultValue t0)) 1 n.toNatClampNeg := by
  intro T E d acts Q hvm h1 h2 hq
  have hk' : T.vm.classes[cA]? = some k := by rw [hvm]; exact hk
  rw [multianewarray.make]
  simp only [wp_bind', W.ite, hn, if_false, wp_pure', W.theClass, hk', hkind, Option.some.injEq, exists_eq_left']
  refine W.newArray_of hk' hkind hl hh (by omega) h2 hdf (fun acts' => ?_)
  have hc : ({ cls := cA, slots := Array.replicate n.toNatClampNeg (defaultValue t0) } : Cell) = arrV cA n.toNatClampNeg (fun _ => defaultValue t0) := arrV_new _ _ _
  rw [hc]
  exact hq _ _
theorem m_wpS {vm : Vm} {k : Class} {comp : ClassId} {t0 : FieldType} {n r : Int32} {rs : List Int32} (hF : m_OK p l e R s m args below meth c F cn sl cell) (hin : m_wp e vm (multianewarray.make comp (r :: rs)) F cn sl) (hneg : ∀ x ∈ r :: rs, ¬ x < 0) (hk : vm.classes[cA]? = some k) (hkind : k.kind = .array comp t0) (href : t0.isReference = true) (hn : ¬ n < 0) (hN : n.toNatClampNeg = N) (hl : ¬ N > e.platform.arrayLengthLimit) (hh : ¬ N * componentBytes t0 > e.platform.maxHeapBytes) : m_wp e vm (multianewarray.make cA (n :: r :: rs)) (fun T => m_fill F cA N cn T N) (1 + N * cn) (N + N * sl) := by
  intro T E d acts Q hvm h1 h2 hq
  have hk' : T.vm.classes[cA]? = some k := by rw [hvm]; exact hk
  have hfind : ((r :: rs).find? (fun x => decide (x < 0))) = none := List.find?_eq_none.mpr (fun x hx => by simpa using hneg x hx)
  rw [multianewarray.make]
  simp only [wp_bind', W.ite, hn, if_false, wp_pure', W.theClass, hk', hkind, Option.some.injEq, exists_eq_left']
  rw [hN]
  refine W.newArray_of hk' hkind hl hh (by omega) (by omega) (m_rf href).2 (fun acts' => ?_)
  have hc : ({ cls := cA, slots := Array.replicate N .null } : Cell) = m_oc cA N cn T.heap.size 0 := (arrV_new _ _ _).trans (by unfold m_oc; congr 1)
  rw [hc]
  simp only [hfind]
  rw [ite_self, wp_bind', Std.Legacy.Range.forIn_eq_forIn_range']
  have hsz : ([:N] : Std.Legacy.Range).size = N := by simp [Std.Legacy.Range.size]
  rw [hsz]
  show wp (forIn (List.range' 0 N 1) PUnit.unit _) _ E e d acts' _
  refine wp_forIn_inv (fun rest T' => ∃ i, i ≤ N ∧ rest = List.range' i (N - i) ∧ T' = m_fill F cA N cn T i) _ _ ⟨0, Nat.zero_le _, rfl, rfl⟩ ?_ ?_
  · rintro x rest T' d' acts2 Q' ⟨i, hi, hll, rfl⟩ hnext
    have hlt : i < N := by
      rcases Nat.lt_or_ge i N with q | q
      · exact q
      · rw [show N - i = 0 by omega] at hll; simp at hll
    obtain ⟨ex, hrest⟩ : x = i ∧ rest = List.range' (i + 1) (N - (i + 1)) := by
      rw [show N - i = (N - (i + 1)) + 1 by omega, List.range'_succ] at hll
      exact ⟨(List.cons.inj hll).1, (List.cons.inj hll).2⟩
    rw [ex]
    obtain ⟨a1, a2, a3, a4, a5, -⟩ := m_facts (cA := cA) (N := N) hF T i
    have hm1 : i * cn + cn ≤ N * cn := by rw [← Nat.succ_mul]; exact Nat.mul_le_mul_right cn hlt
    have hm2 : i * sl + sl ≤ N * sl := by rw [← Nat.succ_mul]; exact Nat.mul_le_mul_right sl hlt
    have hlt0 : T.heap.size < (m_fill F cA N cn T i).heap.size := by rw [a1]; omega
    have hcell : (F (m_fill F cA N cn T i)).heap[T.heap.size]? = some (m_oc cA N cn T.heap.size i) := by rw [hF.2.2.2.1 _ _ hlt0]; exact a5
    have hvm2 : (F (m_fill F cA N cn T i)).vm = T.vm := by rw [hF.2.2.1, a3]
    simp only [wp_bind']
    refine hin _ _ _ _ _ (by rw [a3]; exact hvm) (by rw [a1]; omega) (by rw [a2]; omega) (fun d3 acts3 => ?_)
    simp only [wp_bind', W.writeLoc, wp_pure']
    have hunk : (m_oc cA N cn T.heap.size i).vm ≠ .unknown := by
      show VmData.none ≠ VmData.unknown
      intro hq2
      cases hq2
    refine ⟨m_oc cA N cn T.heap.size i, hcell, hunk, ?_, ?_, hnext _ _ _ ⟨i + 1, hlt, hrest, ?_⟩⟩
    · show i < (arrV cA N _).slots.size
      rw [arrV_size]; exact hlt
    · show State.fitsSlot (F (m_fill F cA N cn T i)) cA .none i (.ref (m_fill F cA N cn T i).heap.size) = true
      simp [State.fitsSlot, State.slotType?, hvm2, hk', hkind, (m_rf href).1]
    · rw [a1, m_oc_set]; rfl
  · rintro T' d' acts2 ⟨i, hi, hll, rfl⟩
    have hiN : i = N := by
      rcases Nat.lt_or_ge i N with q | q
      · rw [show N - i = (N - (i + 1)) + 1 by omega, List.range'_succ] at hll; cases hll
      · omega
    rw [hiN]
    simp only [wp_pure']
    exact hq _ _
end XMB
/-- the instruction, two dimensions -/
theorem W_multi2 {cc : ByteArray} (hexec : p.tables.exec = Jvm.exec) (hb : c.code = cc) {own name : String} {index : Nat} (hown : s.vm.findClass own = some m.cls) (hclink : (Cond.classLink own index name).before args s = true) {cA : ClassId} (hfA : s.vm.findClass name = some cA) {n1 n2 : Int32} {F : State → State} {cn sl : Nat} {cell : Nat → Nat → Cell} (hF : m_OK p l e R s m args below meth c F cn sl cell)
    (hwp : ∀ vm₁ : Vm, s.vm.Alike vm₁ → 100000 ≤ e.platform.arrayLengthLimit → 100000 ≤ e.platform.maxHeapBytes → m_wp e vm₁ (multianewarray.make cA [n1, n2]) F cn sl) {pc : Nat} {ls : Array Slot} (hdg : decode cc pc = .ok (.multianewarray index 2, 4)) {rest : List Value} (hcells : cells + cn ≤ R.cells) (hslots : slots + sl ≤ R.slots)
    (kk : ∀ H1 : Heap, H1.size = H.size + cn → (∀ q, q < H.size → H1[q]? = H[q]?) → (∀ t, t < cn → H1[H.size + t]? = some (cell H.size t)) → W p l e R s m args below meth c H1 locs (cells + cn) (slots + sl) Q (F0 m (pc + 4) ls (.ref H.size :: rest))) : W p l e R s m args below meth c H locs cells slots Q (F0 m pc ls (.int n2 :: .int n1 :: rest)) := by
  intro T hT X
  subst hT; subst hb
  have hpl : e.platform.magicAccessors = ({} : Platform).magicAccessors := by rw [X.admits.platform]
  obtain ⟨c0, hfc0, hcl⟩ := Cond.classLink_spec hown hclink e.platform hpl
  cases hfA.symm.trans hfc0
  obtain ⟨hg₁, hwarm₁, hready₁⟩ := State.classEntry (e := e) X.warmed hcl
  generalize T.vm.noted m.cls index (.cls cA) = vm₁ at hg₁ hwarm₁ hready₁
  have X₁ := X.noted hwarm₁
  obtain ⟨hr1, hr2⟩ := X.roomAbove hcells hslots
  have X₂ := hF.2.2.2.2.2.2 _ _ _ _ X₁
  obtain ⟨t, a1, b1⟩ := kk (F (T.setVm vm₁)).heap (hF.1 _) (hF.2.2.2.1 (T.setVm vm₁)) (hF.2.2.2.2.1 (T.setVm vm₁)) (F (T.setVm vm₁)) rfl X₂
  refine ⟨t, ?_, b1⟩
  have hlim1 : 100000 ≤ e.platform.arrayLengthLimit := by rw [Launch.admits_arrayLengthLimit X.admits]; exact Nat.le_of_ble_eq_true rfl
  have hlim2 : 100000 ≤ e.platform.maxHeapBytes := by rw [Launch.admits_maxHeapBytes X.admits]; exact Nat.le_of_ble_eq_true rfl
  jvm_step X.here [hexec, hdg]
  simp only [multianewarray.sem, wp_bind', W.resolveClassAt_links (State.method?_setTop (F0 m pc ls (.int n2 :: .int n1 :: rest)) X.here.top) hg₁]
  rw [W.popN, if_neg (by decide)]
  refine ⟨F0 m pc ls (.int n2 :: .int n1 :: rest), State.topJava?_setTop' (s := T.setVm vm₁) (F0 m pc ls (.int n2 :: .int n1 :: rest)) X.here.top, [.int n1, .int n2], rest, rfl, rfl, ?_⟩
  simp only [List.mapM_cons, List.mapM_nil, wp_bind', wp_pure']
  refine hwp vm₁ hwarm₁.alike hlim1 hlim2 _ _ _ _ _ rfl (by show T.heap.size + cn ≤ _; omega) (by show T.slotsUsed + sl ≤ _; omega) (fun d' acts' => ?_)
  have eS : ((T.setTop (F0 m pc ls (.int n2 :: .int n1 :: rest))).setVm vm₁).setTop { (F0 m pc ls (.int n2 :: .int n1 :: rest)) with stack := rest } = (T.setVm vm₁).setTop (F0 m pc ls rest) := by
    show ((T.setVm vm₁).setTop (F0 m pc ls (.int n2 :: .int n1 :: rest))).setTop _ = _
    rw [State.setTop_setTop]
  rw [eS, hF.2.2.2.2.2.1]
  simp only [wp_bind', W.mark, W.pushRef, State.topJava?_setTop' _ X₂.here.top, Option.some.injEq, exists_eq_left', State.setTop_setTop, State.heap_setTop]
  intro acts
  simp [jvm, X₂.here.top]
  exact a1
/-- the instruction, three dimensions -/
theorem W_multi3 {cc : ByteArray} (hexec : p.tables.exec = Jvm.exec) (hb : c.code = cc) {own name : String} {index : Nat} (hown : s.vm.findClass own = some m.cls) (hclink : (Cond.classLink own index name).before args s = true) {cA : ClassId} (hfA : s.vm.findClass name = some cA) {n1 n2 n3 : Int32} {F : State → State} {cn sl : Nat} {cell : Nat → Nat → Cell} (hF : m_OK p l e R s m args below meth c F cn sl cell)
    (hwp : ∀ vm₁ : Vm, s.vm.Alike vm₁ → 100000 ≤ e.platform.arrayLengthLimit → 100000 ≤ e.platform.maxHeapBytes → m_wp e vm₁ (multianewarray.make cA [n1, n2, n3]) F cn sl) {pc : Nat} {ls : Array Slot} (hdg : decode cc pc = .ok (.multianewarray index 3, 4)) {rest : List Value} (hcells : cells + cn ≤ R.cells) (hslots : slots + sl ≤ R.slots)
    (kk : ∀ H1 : Heap, H1.size = H.size + cn → (∀ q, q < H.size → H1[q]? = H[q]?) → (∀ t, t < cn → H1[H.size + t]? = some (cell H.size t)) → W p l e R s m args below meth c H1 locs (cells + cn) (slots + sl) Q (F0 m (pc + 4) ls (.ref H.size :: rest))) : W p l e R s m args below meth c H locs cells slots Q (F0 m pc ls (.int n3 :: .int n2 :: .int n1 :: rest)) := by
  intro T hT X
  subst hT; subst hb
  have hpl : e.platform.magicAccessors = ({} : Platform).magicAccessors := by rw [X.admits.platform]
  obtain ⟨c0, hfc0, hcl⟩ := Cond.classLink_spec hown hclink e.platform hpl
  cases hfA.symm.trans hfc0
  obtain ⟨hg₁, hwarm₁, hready₁⟩ := State.classEntry (e := e) X.warmed hcl
  generalize T.vm.noted m.cls index (.cls cA) = vm₁ at hg₁ hwarm₁ hready₁
  have X₁ := X.noted hwarm₁
  obtain ⟨hr1, hr2⟩ := X.roomAbove hcells hslots
  have X₂ := hF.2.2.2.2.2.2 _ _ _ _ X₁
  obtain ⟨t, a1, b1⟩ := kk (F (T.setVm vm₁)).heap (hF.1 _) (hF.2.2.2.1 (T.setVm vm₁)) (hF.2.2.2.2.1 (T.setVm vm₁)) (F (T.setVm vm₁)) rfl X₂
  refine ⟨t, ?_, b1⟩
  have hlim1 : 100000 ≤ e.platform.arrayLengthLimit := by rw [Launch.admits_arrayLengthLimit X.admits]; exact Nat.le_of_ble_eq_true rfl
  have hlim2 : 100000 ≤ e.platform.maxHeapBytes := by rw [Launch.admits_maxHeapBytes X.admits]; exact Nat.le_of_ble_eq_true rfl
  jvm_step X.here [hexec, hdg]
  simp only [multianewarray.sem, wp_bind', W.resolveClassAt_links (State.method?_setTop (F0 m pc ls (.int n3 :: .int n2 :: .int n1 :: rest)) X.here.top) hg₁]
  rw [W.popN, if_neg (by decide)]
  refine ⟨F0 m pc ls (.int n3 :: .int n2 :: .int n1 :: rest), State.topJava?_setTop' (s := T.setVm vm₁) (F0 m pc ls (.int n3 :: .int n2 :: .int n1 :: rest)) X.here.top, [.int n1, .int n2, .int n3], rest, rfl, rfl, ?_⟩
  simp only [List.mapM_cons, List.mapM_nil, wp_bind', wp_pure']
  refine hwp vm₁ hwarm₁.alike hlim1 hlim2 _ _ _ _ _ rfl (by show T.heap.size + cn ≤ _; omega) (by show T.slotsUsed + sl ≤ _; omega) (fun d' acts' => ?_)
  have eS : ((T.setTop (F0 m pc ls (.int n3 :: .int n2 :: .int n1 :: rest))).setVm vm₁).setTop { (F0 m pc ls (.int n3 :: .int n2 :: .int n1 :: rest)) with stack := rest } = (T.setVm vm₁).setTop (F0 m pc ls rest) := by
    show ((T.setVm vm₁).setTop (F0 m pc ls (.int n3 :: .int n2 :: .int n1 :: rest))).setTop _ = _
    rw [State.setTop_setTop]
  rw [eS, hF.2.2.2.2.2.1]
  simp only [wp_bind', W.mark, W.pushRef, State.topJava?_setTop' _ X₂.here.top, Option.some.injEq, exists_eq_left', State.setTop_setTop, State.heap_setTop]
  intro acts
  simp [jvm, X₂.here.top]
  exact a1
end XMA
