/-! new Row: a final field; words -/
section XR0
variable {p : Program} {l : Launch} {e : Env} {R : Room} {s : State} {m : MethodId} {args : Array Value} {below : List Frame} {meth : Method} {c : Code} {H : Heap} {locs : List Loc} {cells slots : Nat} {Q : State → Prop}
variable {cc : ByteArray} {pc : Nat} {ls : Array Slot} {rest : List Value} {E : xE}
/-- a final field, in the constructor -/
theorem x_putfF (hexec : p.tables.exec = Jvm.exec) (hb : c.code = cc) {own : String} (hts : ∀ w ∈ x_tb, w.before args s = true) (hown : s.vm.findClass own = some m.cls) (hK : x_CK E s) {idx cl k a : Nat} (hc : cl < 12) (hk : k < x_N cl) (hfl : x_FL own idx cl k) (hfin : (x_T cl k).2.2.2 = true) (hin2 : meth.name = "<init>") (hdecl : (x_T cl k).1 = own) {V : Nat → Value} (hO : t_OB a (E.2.2.1 cl) (x_N cl) (E.2.2.2.1 cl) H V) {v : Value} (hn : narrow (x_ty cl k) v = v) (hfit : fits (x_ty cl k) v = true)
    (hdg : decode cc pc = .ok (.putfield idx, 3)) (kk : ∀ (H1 : Heap) (lo : Loc), lo.base = a → t_OB a (E.2.2.1 cl) (x_N cl) (E.2.2.2.1 cl) H1 (updV V k v) → H1.size = H.size → (∀ q, q ≠ a → H1[q]? = H[q]?) → W p l e R s m args below meth c H1 (locs ++ [lo]) cells slots Q (F0 m (pc + 3) ls rest)) : W p l e R s m args below meth c H locs cells slots Q (F0 m pc ls (v :: .ref a :: rest)) := by
  have hap := x_slots hK hts hc
  obtain ⟨cell, q1, q2, q3, q4⟩ := hO
  obtain ⟨hS, hfc, kC, hkC, hkind⟩ := hK.1.1 cl _ (x_KL_at cl hc)
  obtain ⟨cf, kf, fi, fd, hi, hsl⟩ := hS k hk
  have hlay := hts _ (x_in cl hc _ (u_in_lay hk))
  unfold u_lay at hlay
  rw [if_pos hfin] at hlay
  have hst := (u_facts hfc hkC (u_lays hts (x_in cl hc) hk) hi).1
  have hcf : m.cls = cf := by
    obtain ⟨_, _, c', _, _, _, -, -, hf', -, -, -, hown2, -⟩ := Cond.laysFinal_spec hlay
    have e1 : c' = cf := by have := hi.symm.trans hf'; simp at this; exact this.1.symm
    rw [hdecl] at hown2
    rw [← e1]; exact Option.some.inj (hown.symm.trans hown2)
  have h6 := u_fits hfc hkC hkind (Or.inr hlay) hi (x_tyok cl hc k hk) hn hfit
  have hsl' : fd.slot = E.2.2.2.1 cl k := hsl
  refine W.putFinK hexec hb hown (hts _ hfl) hi hst hcf hin2 (by rw [q2]; exact h6) q1 q3 (by rw [hsl']; exact k2_hasslot (q4 k hk)) rfl rfl hdg fun H' e1 e2 e3 => ?_
  refine kk H' ⟨a, fd.slot⟩ rfl ?_ e2 e3
  rw [hsl'] at e1
  exact ⟨_, e1, q2, q3, t_set q4 hap hk v⟩
end XR0
set_option maxRecDepth 100000 in
theorem rw_oi : Cond.methodLink "LeaderTerms$Row" 1 Lib.objectInit ∈ x_tb := x_tm 1063 rfl rfl
set_option maxRecDepth 100000 in
theorem rw_oii : Cond.instanceMethod Lib.objectInit ∈ x_tb := x_tm 138 rfl rfl
set_option maxRecDepth 100000 in
theorem rw_oic : Cond.code Lib.objectInit ⟨#[0xb1]⟩ 1 none ∈ x_tb := x_tm 139 rfl rfl
set_option maxRecDepth 100000 in
theorem rw_mx : Cond.methodLink "LeaderTerms$Row" 13 Lib.Math.max.name ∈ x_tb := x_tm 1064 rfl rfl
set_option maxRecDepth 100000 in
theorem rw_mxs : Cond.static Lib.Math.max.name ∈ x_tb := x_tm 1065 rfl rfl
set_option maxRecDepth 100000 in
theorem rw_mxc : Cond.code Lib.Math.max.name Lib.Math.max.code 2 (some .int) ∈ x_tb := x_tm 1066 rfl rfl
set_option maxRecDepth 100000 in
theorem rw_mi : Cond.initialized "java/lang/Math" ∈ x_tb := x_tm 130 rfl rfl
set_option maxRecDepth 100000 in
theorem rw_ri : Cond.initialized "LeaderTerms$Row" ∈ x_tb := x_tm 131 rfl rfl
set_option maxRecDepth 100000 in
theorem rw_rc : Cond.classLink "LeaderTerms" 61 "LeaderTerms$Row" ∈ x_tb := x_tm 439 rfl rfl
set_option maxRecDepth 100000 in
theorem rw_rn : Cond.instantiable "LeaderTerms$Row" 2 ∈ x_tb := x_tm 1059 rfl rfl
set_option maxRecDepth 100000 in
theorem rw_rm : Cond.methodLink "LeaderTerms" 358 m_X6_init.1 ∈ x_tb := x_tm 1060 rfl rfl
set_option maxRecDepth 100000 in
theorem rw_rx : Cond.instanceMethod m_X6_init.1 ∈ x_tb := x_tm 1061 rfl rfl
def x_PR (E : xE) (h0 : Nat) (sort n : Int) (H0 : Heap) : Array Value → State → Prop := fun v U => v = [Value.ref h0, .int (Int32.ofInt sort), .int (Int32.ofInt n)].toArray ∧ U.heap = H0 ∧ x_CK E U
def x_QR (E : xE) (h0 : Nat) (sort n : Int) (H0 : Heap) : Array Value → State → Outcome → State → Prop := fun _ _ o t => o = .returned none ∧ t.heap.size = H0.size + 1 ∧ (∀ q, q < H0.size → q ≠ h0 → t.heap[q]? = H0[q]?) ∧ t_OB h0 (E.2.2.1 6) 2 (E.2.2.2.1 6) t.heap (fun k => if k = 0 then .int (Int32.ofInt sort) else .ref H0.size) ∧ t.heap[H0.size]? = some (arrV (E.2.2.2.2 1) n.toNat (fun _ => .long 0)) ∧ x_CK E t
