/-! new Row: two cells at once; stores into the array of rows -/
section XR0
variable {p : Program} {l : Launch} {e : Env} {R : Room} {s : State} {m : MethodId} {args : Array Value} {below : List Frame} {meth : Method} {c : Code} {H : Heap} {locs : List Loc} {cells slots : Nat} {Q : State → Prop}
variable {cc : ByteArray} {pc : Nat} {ls : Array Slot} {rest : List Value} {E : xE}
/-- a final field, in the constructor -/
theorem x_putfF (hexec : p.tables.exec = Jvm.exec) (hb : c.code = cc) {own : String} (hts : ∀ w ∈ x_tb, w.before args s = true) (hown : s.vm.findClass own = some m.cls) (hK : x_CK E s) {idx cl k a : Nat} (hc : cl < 12) (hk : k < x_N cl) (hfl : x_FL own idx cl k) (hfin : (x_T cl k).2.2.2 = true) (hin2 : meth.name = "<init>") (hdecl : (x_T cl k).1 = own) {V : Nat → Value} (hO : t_OB a (E.2.2.1 cl) (x_N cl) (E.2.2.2.1 cl) H V) {v : Value} (hn : narrow (x_ty cl k) v = v) (hfit : fits (x_ty cl k) v = true)
    (hdg : decode cc pc = .ok (.putfield idx, 3)) (kk : ∀ (H1 : Heap) (lo : Loc), lo.base = a → t_OB a (E.2.2.1 cl) (x_N cl) (E.2.2.2.1 cl) H1 (updV V k v) → H1.size = H.size → (∀ q, q ≠ a → H1[q]? = H[q]?) → W p l e R s m args below meth c H1 (locs ++ [lo]) cells slots Q (F0 m (pc + 3) ls rest)) : W p l e R s m args below meth c H locs cells slots Q (F0 m pc ls (v :: .ref a :: rest)) := by
  have hap := x_slots hK hts hc
  obtain ⟨cell, q1, q2, q3, q4⟩ := hO
  obtain ⟨hS, hfc, kC, hkC, hkind⟩ := hK.1.1 cl _ (x_KL_at cl hc)
  obtain ⟨cf, kf, fi, fd, hi, hsl⟩ := hS k hk
  have hlay := hts _ (x_in cl hc _ (u_in_lay hk))
  unfold u_lay at hlay
  rw [if_pos hfin] at hlay
  have hst := (u_facts hfc hkC (u_lays hts (x_in cl hc) hk) hi).1
  have hcf : m.cls = cf := by
    obtain ⟨_, _, c', _, _, _, -, -, hf', -, -, -, hown2, -⟩ := Cond.laysFinal_spec hlay
    have e1 : c' = cf := by have := hi.symm.trans hf'; simp at this; exact this.1.symm
    rw [hdecl] at hown2
    rw [← e1]; exact Option.some.inj (hown.symm.trans hown2)
  have h6 := u_fits hfc hkC hkind (Or.inr hlay) hi (x_tyok cl hc k hk) hn hfit
  have hsl' : fd.slot = E.2.2.2.1 cl k := hsl
  refine W.putFinK hexec hb hown (hts _ hfl) hi hst hcf hin2 (by rw [q2]; exact h6) q1 q3 (by rw [hsl']; exact k2_hasslot (q4 k hk)) rfl rfl hdg fun H' e1 e2 e3 => ?_
  refine kk H' ⟨a, fd.slot⟩ rfl ?_ e2 e3
  rw [hsl'] at e1
  exact ⟨_, e1, q2, q3, t_set q4 hap hk v⟩
end XR0
set_option maxRecDepth 100000 in
theorem rw_oi : Cond.methodLink "LeaderTerms$Row" 1 Lib.objectInit ∈ x_tb := x_tm 1063 rfl rfl
set_option maxRecDepth 100000 in
theorem rw_oii : Cond.instanceMethod Lib.objectInit ∈ x_tb := x_tm 138 rfl rfl
set_option maxRecDepth 100000 in
theorem rw_oic : Cond.code Lib.objectInit ⟨#[0xb1]⟩ 1 none ∈ x_tb := x_tm 139 rfl rfl
set_option maxRecDepth 100000 in
theorem rw_mx : Cond.methodLink "LeaderTerms$Row" 13 Lib.Math.max.name ∈ x_tb := x_tm 1064 rfl rfl
set_option maxRecDepth 100000 in
theorem rw_mxs : Cond.static Lib.Math.max.name ∈ x_tb := x_tm 1065 rfl rfl
set_option maxRecDepth 100000 in
theorem rw_mxc : Cond.code Lib.Math.max.name Lib.Math.max.code 2 (some .int) ∈ x_tb := x_tm 1066 rfl rfl
set_option maxRecDepth 100000 in
theorem rw_mi : Cond.initialized "java/lang/Math" ∈ x_tb := x_tm 130 rfl rfl
set_option maxRecDepth 100000 in
theorem rw_ri : Cond.initialized "LeaderTerms$Row" ∈ x_tb := x_tm 131 rfl rfl
set_option maxRecDepth 100000 in
theorem rw_rc : Cond.classLink "LeaderTerms" 61 "LeaderTerms$Row" ∈ x_tb := x_tm 439 rfl rfl
set_option maxRecDepth 100000 in
theorem rw_rn : Cond.instantiable "LeaderTerms$Row" 2 ∈ x_tb := x_tm 1059 rfl rfl
set_option maxRecDepth 100000 in
theorem rw_rm : Cond.methodLink "LeaderTerms" 360 m_X6_init.1 ∈ x_tb := x_tm 1060 rfl rfl
set_option maxRecDepth 100000 in
theorem rw_rx : Cond.instanceMethod m_X6_init.1 ∈ x_tb := x_tm 1061 rfl rfl
def x_PR (E : xE) (h0 : Nat) (sort n : Int) (H0 : Heap) : Array Value → State → Prop := fun v U => v = [Value.ref h0, .int (Int32.ofInt sort), .int (Int32.ofInt n)].toArray ∧ U.heap = H0 ∧ x_CK E U
def x_QR (E : xE) (h0 : Nat) (sort n : Int) (H0 : Heap) : Array Value → State → Outcome → State → Prop := fun _ _ o t => o = .returned none ∧ t.heap.size = H0.size + 1 ∧ (∀ q, q < H0.size → q ≠ h0 → t.heap[q]? = H0[q]?) ∧ t_OB h0 (E.2.2.1 6) 2 (E.2.2.2.1 6) t.heap (fun k => if k = 0 then .int (Int32.ofInt sort) else .ref H0.size) ∧ t.heap[H0.size]? = some (arrV (E.2.2.2.2 1) n.toNat (fun _ => .long 0)) ∧ x_CK E t
theorem c_Row {l : Launch} {E : xE} {h0 : Nat} {sort n : Int} {H0 : Heap} (hn : 0 ≤ n ∧ n ≤ 40) (hE : E.1 ≤ h0) {V : Nat → Value} (hO : t_OB h0 (E.2.2.1 6) 2 (E.2.2.2.1 6) H0 V) : Met l m_X6_init.1 (x_ws m_X6_init) (x_rm (2, 1, 40)) (x_PR E h0 sort n H0) (x_QR E h0 sort n H0) 1 40 (fun q => E.1 ≤ q) := by
  refine x_ofW (cc := m_X6_init.2.1) (maxL := m_X6_init.2.2.1) (ret := m_X6_init.2.2.2.1) ok_X6_init.1 rfl ?_
  intro p e s m args below meth c s₁ B hml hv
  obtain ⟨rfl, hH, hK⟩ := hv
  rw [← hH] at hO ⊢
  have hx := B.exec
  have hb := B.bytes
  have hr := B.returns
  have hts := atoms_spec (ws := x_ws m_X6_init) B.pre
  have hT : ∀ w ∈ x_tb, w.before ([Value.ref h0, .int (Int32.ofInt sort), .int (Int32.ofInt n)].toArray) s = true := fun w hw => hts w (List.mem_cons_of_mem _ hw)
  have hown : s.vm.findClass "LeaderTerms$Row" = some m.cls := findClass_of_methodNamed B.named
  have hlocks := B.notSynchronized
  have hin : meth.name = "<init>" := (name_of_methodNamed B.named B.method).1
  have hlt : h0 < s.heap.size := by
    obtain ⟨cell, q, -⟩ := hO
    exact (Array.getElem?_eq_some_iff.mp q).1
  have hl := lv_entry ([.ref h0, .int (Int32.ofInt sort), .int (Int32.ofInt n)]) (n := 3) (Nat.le_of_ble_eq_true rfl)
  rw [lg_entry_eq]
  generalize (lg_sl ([Value.ref h0, .int (Int32.ofInt sort), .int (Int32.ofInt n)]) ++ List.replicate (3 - (lg_sl ([Value.ref h0, .int (Int32.ofInt sort), .int (Int32.ofInt n)])).length) Slot.unset).toArray = ls at hl ⊢
  have hl : lv_has ls 3 [(0, .ref h0), (1, .int (Int32.ofInt sort)), (2, .int (Int32.ofInt n))] := hl
  have hx0 := x_idx hn.1 (show n < 2147483648 by omega)
  refine lv_aload_n hx hb (x_dec ok_X6_init (n := 0) rfl) rfl (lv_at hl 0 rfl) ?_
  refine W.objInit hx hb hown (hT _ rw_oi) (hT _ rw_oii) (hT _ rw_oic) rfl (by rw [hml]; exact hl.1) rfl (x_dec ok_X6_init (n := 1) rfl) (Nat.le_of_ble_eq_true rfl) (Nat.le_of_ble_eq_true rfl) ?_
  refine W.eq (g2 := F0 m 4 ls []) rfl ?_
  refine lv_aload_n hx hb (x_dec ok_X6_init (n := 2) rfl) rfl (lv_at hl 0 rfl) ?_
  refine lv_iload_n hx hb (x_dec ok_X6_init (n := 3) rfl) rfl (lv_at hl 1 rfl) ?_
  refine x_putfF hx hb hT hown hK (cl := 6) (k := 0) (by decide) (by decide) fl_952 rfl hin rfl hO rfl rfl (x_dec ok_X6_init (n := 4) rfl) fun H1 lo1 hb1 hO1 hz1 ho1 => ?_
  refine lv_aload_n hx hb (x_dec ok_X6_init (n := 5) rfl) rfl (lv_at hl 0 rfl) ?_
  refine lv_iload_n hx hb (x_dec ok_X6_init (n := 6) rfl) rfl (lv_at hl 2 rfl) ?_
  refine lv_iconst hx hb (v := 0) (x_dec ok_X6_init (n := 7) rfl) rfl ?_
  refine va_mmax hx hb (by rw [hml]; exact hl.1.symm) hown (hT _ rw_mx) (hT _ rw_mxs) (hT _ rw_mi) (hT _ rw_mxc) (Nat.le_of_ble_eq_true rfl) (Nat.le_of_ble_eq_true rfl) (Nat.zero_le _) (Nat.zero_le _) (x_dec ok_X6_init (n := 8) rfl) ?_
  rw [if_neg hx0.1]
  refine va_newaK (atype := .long) hx hb (hT _ acw_191) rfl (x_dec ok_X6_init (n := 9) rfl) rfl hx0.1 hx0.2 (by show n.toNat * 8 ≤ _; omega) (Nat.le_of_ble_eq_true rfl) (by show 0 + n.toNat ≤ 40; omega) rfl fun H2 cA e1 z1 o1 hA hN => ?_
  have hr1 := (hK.2.1 1 _ rfl).2 (by omega)
  have eA : cA = E.2.2.2.2 1 := Option.some.inj (hN.symm.trans hr1)
  refine W.eq (g2 := F0 m 17 ls [.ref H1.size, .ref h0]) rfl ?_
  refine x_putfF hx hb hT hown hK (cl := 6) (k := 1) (by decide) (by decide) fl_954 rfl hin rfl (hO1.kept (o1 h0 (by omega))) rfl rfl (x_dec ok_X6_init (n := 10) rfl) fun H3 lo2 hb2 hO3 hz3 ho3 => ?_
  refine W.widen (k := 1) (n := 40) (Nat.le_of_ble_eq_true rfl) (by show 0 + n.toNat ≤ 40; omega) ?_
  refine W.vret hx hb hr (fun t ht hw => ⟨rfl, ?_, fun q q1 q2 => ?_, ?_, ?_, hK.moved hw⟩) (fun q hq => ?_) (x_dec ok_X6_init (n := 11) rfl) hlocks
  · rw [ht, hz3, z1, hz1]
  · rw [ht, ho3 q q2, o1 q (by omega), ho1 q q2]
  · rw [ht]
    refine t_OB.to hO3 (fun k hk => ?_)
    have hk2 : k < 2 := hk
    rcases (show k = 0 ∨ k = 1 by omega) with rfl | rfl
    · rfl
    · show Value.ref H1.size = .ref s.heap.size
      rw [hz1]
  · rw [ht, ← hz1, ho3 _ (by omega), e1, eA]; rfl
  · simp only [List.append_assoc, List.mem_append, List.mem_cons, List.not_mem_nil, or_false, false_or, List.nil_append] at hq
    rcases hq with rfl | rfl
    · rw [hb1]; exact hE
    · rw [hb2]; exact hE
/-- the memory with a new row -/
def x_row (M : xM) (sort n : Int) : xM := fun a k => if a = -1 ∧ k = 0 then M (-1) 0 + 2 else if a = -2 ∧ k = M (-1) 0 then 16 else if a = -2 ∧ k = M (-1) 0 + 1 then 190 else if a = M (-1) 0 then (if k = 0 then sort else if k = 1 then n else 0) else if a = M (-1) 0 + 1 then 0 else M a k
section XR1
variable {l : Launch} {E : xE} {z : Nat × Nat × Nat} {y : xMT} {pc : Nat} {ls st : List xV} {M : xM} {Q : Option xV → xM → Prop} {sort n : Int}
theorem x_row_tp (h : 593 ≤ x_tp M) : x_tp (x_row M sort n) = x_tp M + 2 := by
  unfold x_tp x_row at *
  rw [if_pos ⟨rfl, rfl⟩]
  omega
theorem x_row_tag (h : 593 ≤ x_tp M) (b : Nat) (hb : b < x_tp M) : x_tag (x_row M sort n) b = x_tag M b := by
  unfold x_tp at *
  unfold x_tag x_row
  split
  · rfl
  · rw [if_neg (by omega), if_neg (by omega), if_neg (by omega), if_neg (by omega), if_neg (by omega)]
theorem x_row_t16 (h : 593 ≤ x_tp M) : x_tag (x_row M sort n) (x_tp M) = 16 := by
  unfold x_tp at *
  unfold x_tag x_row
  rw [if_neg (by omega), if_neg (by omega), if_pos (by omega)]
  rfl
theorem x_row_t190 (h : 593 ≤ x_tp M) : x_tag (x_row M sort n) (x_tp M + 1) = 190 := by
  unfold x_tp at *
  unfold x_tag x_row
  rw [if_neg (by omega), if_neg (by omega), if_neg (by omega), if_pos (by omega)]
  rfl
theorem x_row_at (h : 593 ≤ x_tp M) (a k : Int) (ha : 0 ≤ a) (hb : a ≠ x_tp M) (hb1 : a ≠ x_tp M + 1) : x_row M sort n a k = M a k := by
  unfold x_tp at *
  unfold x_row
  rw [if_neg (by omega), if_neg (by omega), if_neg (by omega), if_neg (by omega), if_neg (by omega)]
theorem x_row_r (h : 593 ≤ x_tp M) (k : Int) : x_row M sort n (x_tp M) k = if k = 0 then sort else if k = 1 then n else 0 := by
  unfold x_tp at *
  unfold x_row
  rw [if_neg (by omega), if_neg (by omega), if_neg (by omega), if_pos (by omega)]
theorem x_row_n (h : 593 ≤ x_tp M) (k : Int) : x_row M sort n (x_tp M + 1) k = 0 := by
  unfold x_tp at *
  unfold x_row
  rw [if_neg (by omega), if_neg (by omega), if_neg (by omega), if_neg (by omega), if_pos (by omega)]
theorem x_row_ext (h : 593 ≤ x_tp M) : x_ext M (x_row M sort n) := ⟨by rw [x_row_tp h]; omega, fun a ha => x_row_tag h a ha⟩
theorem x_NR.row {H H1 : Heap} (h : x_NR E H M) (hs : x_rg 0 sort) (hn : 0 ≤ n ∧ n ≤ 40) (hz : H1.size = H.size + 2) (ho : ∀ q, q < H.size → H1[q]? = H[q]?) (c1 : t_OB H.size (E.2.2.1 6) 2 (E.2.2.2.1 6) H1 (fun k => if k = 0 then .int (Int32.ofInt sort) else .ref (H.size + 1))) (c2 : H1[H.size + 1]? = some (arrV (E.2.2.2.2 1) n.toNat (fun _ => .long 0))) : x_NR E H1 (x_row M sort n) := by
  obtain ⟨h1, h2, h3, h4, h5, h6⟩ := h
  have etp := x_row_tp (sort := sort) (n := n) h1
  have etg := fun b hb => x_row_tag (sort := sort) (n := n) h1 b hb
  have hrow : ∀ x, x_rowok M x → x_rowok (x_row M sort n) x := fun x hx => by
    rcases hx with q | ⟨q1, q2, q3⟩
    · exact Or.inl q
    · exact Or.inr ⟨q1, by omega, by rw [etg _ q2]; exact q3⟩
  have e16 : x_tag (x_row M sort n) (x_tp M) = 16 := x_row_t16 h1
  have e190 : x_tag (x_row M sort n) (x_tp M + 1) = 190 := x_row_t190 h1
  refine ⟨by omega, by rw [hz, h2, etp]; omega, x_SP.kept h3 fun q hq => ho q (by omega), fun b hb5 hb => ?_, fun b hb9 hb => ?_, fun i hi => ?_, fun i hi => ?_⟩
  · rcases Nat.lt_or_ge b (x_tp M) with q | q
    · refine (h4 b hb5 q).kept (ho _ (by rw [x_adr_own hb5]; omega)) (etg b q) ?_ fun k => x_row_at h1 b k (by omega) (by omega) (by omega)
      unfold x_len x_ln
      split
      · rfl
      · split
        · rename_i q1 q2
          have hb9 : 593 ≤ b := by
            rcases Nat.lt_or_ge b 593 with z | z
            · have := (x_clo2 b z hb5 (by rw [x_tag_lt z] at q1; exact q1)).1
              rw [x_tag_lt z] at q2; omega
            · exact z
          rw [x_row_at h1 _ _ (by omega) (by omega) (by omega)]
        · rfl
    · rcases (show b = x_tp M ∨ b = x_tp M + 1 by omega) with eb | eb
      · subst eb
        unfold x_cell
        rw [e16, if_pos (by omega)]
        refine ⟨?_, fun k hk => ?_⟩
        · unfold x_CLo
          rw [x_adr_own hb5, ← h2]
          refine t_OB.to c1 (fun k hk => ?_)
          have hk2 : k < 2 := hk
          have ff := x_fnO (x_row M sort n) (c := 6) (by decide) (x_tp M) k
          rw [show 16 = 10 + 6 from rfl, ff]
          rcases (show k = 0 ∨ k = 1 by omega) with rfl | rfl
          · rw [x_row_r h1]; rfl
          · show Value.ref (H.size + 1) = .ref (x_adr E (((x_tp M : Nat) : Int) + 1).toNat)
            rw [show (((x_tp M : Nat) : Int) + 1).toNat = x_tp M + 1 by omega, x_adr_own (by omega)]
            congr 1
            omega
        · have hk2 : k < 2 := hk
          rcases (show k = 0 ∨ k = 1 by omega) with rfl | rfl
          · rw [x_row_r h1]; exact hs
          · trivial
      · subst eb
        unfold x_cell
        rw [e190, if_neg (by omega)]
        have el : x_len (x_row M sort n) 190 (x_tp M + 1) = n.toNat := by
          show (x_row M sort n ((x_tp M + 1 : Nat) - 1 : Int) 1).toNat = n.toNat
          rw [show (((x_tp M + 1 : Nat) : Int) - 1) = x_tp M by omega, x_row_r h1]; rfl
        rw [el]
        refine ⟨?_, fun k hk => ?_⟩
        · unfold x_CLa
          rw [x_adr_own hb5, show E.1 + (x_tp M + 1 - 5) = H.size + 1 by omega, c2]
          show some (arrV (E.2.2.2.2 1) n.toNat (fun _ => .long 0)) = some (arrV (E.2.2.2.2 1) n.toNat (fun j => x_cv E (x_fn (x_row M sort n) 190 (x_tp M + 1) j)))
          congr 2
          funext j
          rw [x_fnA _ (t := 190) (by omega)]
          show Value.long 0 = x_cv E (.long (Int64.ofInt (x_row M sort n ((x_tp M + 1 : Nat) : Int) j)))
          rw [show (((x_tp M + 1 : Nat) : Int)) = x_tp M + 1 by omega, x_row_n h1]; rfl
        · rw [show (((x_tp M + 1 : Nat) : Int)) = x_tp M + 1 by omega, x_row_n h1]
          show -9223372036854775808 ≤ (0 : Int) ∧ (0 : Int) < 9223372036854775808
          omega
  · rcases Nat.lt_or_ge b (x_tp M) with q | q
    · rcases h5 b hb9 q with w | w | w | w
      · exact Or.inl ⟨by rw [etg b q]; exact w.1, by omega, by rw [etg _ w.2.1]; exact w.2.2⟩
      · exact Or.inr (Or.inl ⟨by rw [etg b q]; exact w.1, w.2.1, by rw [etg _ (by omega)]; exact w.2.2⟩)
      · exact Or.inr (Or.inr (Or.inl (by rw [etg b q]; exact w)))
      · exact Or.inr (Or.inr (Or.inr (by rw [etg b q]; exact w)))
    · rcases (show b = x_tp M ∨ b = x_tp M + 1 by omega) with eb | eb
      · subst eb
        exact Or.inl ⟨e16, by omega, e190⟩
      · subst eb
        exact Or.inr (Or.inl ⟨e190, by omega, by rw [show x_tp M + 1 - 1 = x_tp M by omega]; exact e16⟩)
  · rw [x_row_at h1 _ _ (by omega) (by omega) (by omega)]; exact hrow _ (h6.1 i hi)
  · rw [x_row_at h1 _ _ (by omega) (by omega) (by omega)]; exact hrow _ (h6.2 i hi)
theorem i_newRow {z2 : Nat × Nat × Nat} (k0 : Nat) (hd0 : y.2.2.2.2[k0]? = some (pc, .new 61, 3)) (hd1 : y.2.2.2.2[k0 + 1]? = some (pc + 3, .dup, 1)) (hd2 : y.2.2.2.2[k0 + 2]? = some (pc + 4, .iload_n 2, 1)) (hd3 : y.2.2.2.2[k0 + 3]? = some (pc + 5, .iload_n 3, 1)) (hd4 : y.2.2.2.2[k0 + 4]? = some (pc + 6, .invokespecial 360, 3)) (hy : y.1.cls = "LeaderTerms") (hl2 : ls[2]? = some (0, sort)) (hl3 : ls[3]? = some (0, n)) (hn : 0 ≤ n ∧ n ≤ 40) (h8 : (((9, 0) :: st).map (fun v : xV => if v.1 = 1 then 2 else 1)).sum ≤ 8) (hz : 3 ≤ z.1 ∧ z2.1 = z.1 ∧ z2.2.1 + 2 = z.2.1 ∧ z2.2.2 + 42 = z.2.2)
    (kk : x_Ev l E z2 y (pc + 9) ls ((9, M (-1) 0) :: st) (x_row M sort n) Q) : x_Ev l E z y pc ls st M Q := by
  intro p e R s m args below meth c H locs cells slots lr hM hC hf hl hcc hss hN hlo hL hol hos
  have hK := hC.2.2.2.2.2.2.2.2
  have hts := hC.2.2.2.2.2.2.2.1
  have hown := hC.2.2.2.2.2.2.1
  rw [hy] at hown
  have htp := hN.1
  have hsz := hN.2.1
  have hs : x_rg 0 sort := x_okl hol hl2
  obtain ⟨hSl, hfc, kC0, hkC0, hkind⟩ := hK.1.1 6 _ (x_KL_at 6 (by decide))
  refine W.newcK hC.1 hC.2.1 hown (hts _ rw_rc) (hts _ rw_rn) (hts _ rw_ri) rfl (x_dec hM hd0) (by omega) (by omega) hfc rfl fun H1 kC hkC e1 z1 o1 => ?_
  refine W.eq (g2 := F0 m (pc + 3) lr (.ref H.size :: st.map (x_cw E))) rfl ?_
  refine lv_dup hC.1 hC.2.1 (x_dec hM hd1) rfl ?_
  refine lv_iload_n hC.1 hC.2.1 (x_dec hM hd2) rfl (hL.at hl2 (Nat.ne_of_beq_eq_false rfl)) ?_
  refine lv_iload_n hC.1 hC.2.1 (x_dec hM hd3) rfl (hL.at hl3 (Nat.ne_of_beq_eq_false rfl)) ?_
  have hO := u_born (x_ty 6) hts (x_in 6 (by decide)) (hK.1.1 6 _ (x_KL_at 6 (by decide))) hkC e1 (x_tyok 6 (by decide))
  have hMet := c_Row (l := l) (E := E) (h0 := H.size) (sort := sort) (n := n) (H0 := H1) hn (by omega) hO
  have hG : GoodIn x_tb (x_ws m_X6_init) := x_ws_good ok_X6_init (by decide)
  have e2 : (((9 : Nat), (0 : Int)) :: st).map (x_cw E) = x_cw E (9, 0) :: st.map (x_cw E) := rfl
  have hroom : 2 * (F0 m (pc + 3 + 1 + 1 + 1) lr (.int (Int32.ofInt n) :: .int (Int32.ofInt sort) :: .ref H.size :: .ref H.size :: st.map (x_cw E))).monitorRoom + ((.ref H.size :: st.map (x_cw E)).map fun v => v.category).sum ≤ 8 := by
    have := x_room8 (E := E) (m := m) (pc := pc) (lr := lr) (rs := []) h8
    rw [e2] at this
    exact this
  have hrun := va_runI (rest := .ref H.size :: st.map (x_cw E)) (b := H.size) (As := [.int (Int32.ofInt sort), .int (Int32.ofInt n)]) (R := R) (cells := cells + 1) (slots := slots + 2) (H := H1) (locs := locs) (below := below) (e := e) (meth := meth) (g := F0 m (pc + 3 + 1 + 1 + 1) lr (.int (Int32.ofInt n) :: .int (Int32.ofInt sort) :: .ref H.size :: .ref H.size :: st.map (x_cw E))) ⟨hC.1, hC.2.1, hC.2.2.1, hown, hts⟩ hMet
    (cwI 2 hts hG rfl rfl rfl (hts _ rw_ri) (hts _ rw_rm) (hts _ rw_rx) rfl (by decide +kernel) ⟨by show 2 + 1 ≤ R.frames; omega, by show 8 + (3 + 11) + 60 * 2 ≤ R.locals; omega⟩)
    ⟨fun a U g mk h => ⟨h.1, h.2.1, x_CK.same (u := U) (U := U.calling g mk a) rfl h.2.2⟩, fun U hU hW => ⟨rfl, hU, hK.moved hW⟩⟩ rfl rfl hL.1 rfl hroom (x_dec hM hd4) ⟨by omega, by omega⟩
  intro T hT X
  obtain ⟨v, st₀, t, T', L, h0, X', hL', f1, f2, ⟨q1, q2, q3, q4, q5, q6⟩, go⟩ := hrun T hT X
  have hv : v = none := by cases q1; rfl
  subst hv
  have hN1 : x_NR E T'.heap (x_row M sort n) := by
    rw [f1]
    rw [z1] at q2 q4 q5 q3
    refine hN.row hs hn (by omega) (fun q hq => ?_) q4 q5
    rw [q3 q (by omega) (by omega)]
    exact o1 q hq
  have hx2 := x_row_ext (M := M) (sort := sort) (n := n) htp
  have hnew : x_okV (x_row M sort n) (9, M (-1) 0) := by
    show x_rowok _ _
    unfold x_tp at htp
    refine Or.inr ⟨by omega, ?_, ?_⟩
    · show x_tp M < _
      rw [x_row_tp hN.1]; omega
    · exact x_row_t16 hN.1
  have h := kk p e R s m args below meth c T'.heap (locs ++ L) (cells + 1 + 1) (slots + 2 + 40) lr hM hC (by omega) (by rw [hz.2.1]; exact hl) (by omega) (by omega) hN1 (fun q hq => by
    rcases List.mem_append.mp hq with h | h
    · exact hlo q h
    · exact hL' q h) hL (fun v hv => hx2.ok (hol v hv)) (x_okc hnew (fun v hv => hx2.ok (hos v hv)))
  rw [show cells + 1 + 1 + z2.2.1 = cells + z.2.1 by omega, show slots + 2 + 40 + z2.2.2 = slots + z.2.2 by omega] at h
  obtain ⟨t2, a1, b1⟩ := x_Wwr hx2 h T' rfl X'
  refine ⟨t2, go t2 ?_, b1⟩
  have e3 : x_cw E (9, M (-1) 0) = .ref H.size := by
    have hp : 593 ≤ (M (-1) 0).toNat := htp
    rw [x_cwR E 7 _ (by omega)]
    show Value.ref (x_adr E (x_tp M)) = _
    rw [x_adr_own (by omega), hsz]
  simp only [List.map, e3] at a1
  exact a1
theorem i_aastR {t : Nat} {i a b : Int} (k0 : Nat) (hd : y.2.2.2.2[k0]? = some (pc, .aastore, 1)) (ht : t = 9 ∨ t = 2) (h0 : 0 ≤ i) (h1 : i < 4) (kk : x_Ev l E z y (pc + 1) ls st (x_wr M a i b) Q) : x_Ev l E z y pc ls ((t, b) :: (0, i) :: (115, a) :: st) M Q := by
  intro p e R s m args below meth c H locs cells slots lr hM hC hf hl hc hs hN hlo hL hol hos
  obtain ⟨ob, oi, oa, os⟩ := x_ok3 hos
  have orow : x_rowok M b := by
    rcases ht with rfl | rfl
    · exact ob
    · exact Or.inl ob
  obtain ⟨w1, w2, w3, w4, w5, w6, w7, w8⟩ := x_arrI (τ := 15) (len := 4) hN (Or.inl (by omega)) rfl oi oa h0 h1
  have w3' : H[x_adr E a.toNat]? = some (arrV (E.2.2.2.2 4) 4 (fun j => x_cv E (x_fn M 115 a.toNat j))) := w3
  have oa' := x_okR (by omega) oa
  have ea : ((a.toNat : Nat) : Int) = a := Int.toNat_of_nonneg w1
  have ei : ((i.toNat : Nat) : Int) = i := Int.toNat_of_nonneg h0
  have hK := hC.2.2.2.2.2.2.2.2
  have ev : x_cw E (t, b) = x_cv E (x_sl 3 0 b) := by
    rcases ht with rfl | rfl
    · rfl
    · rfl
  have fin : ∀ (H1 : Heap), H1[x_adr E a.toNat]? = some ((arrV (E.2.2.2.2 4) 4 (fun j => x_cv E (x_fn M 115 a.toNat j))).setSlot (Int32.ofInt i).toNatClampNeg (x_cv E (x_sl 3 0 b))) → H1.size = H.size → (∀ q, q ≠ x_adr E a.toNat → H1[q]? = H[q]?) → W p l e R s m args below meth c H1 (locs ++ [⟨x_adr E a.toNat, (Int32.ofInt i).toNatClampNeg⟩]) cells slots (MQ below (x_QQ E M Q) args s (cells + z.2.1) (slots + z.2.2) (fun q => E.1 ≤ q)) (F0 m (pc + 1) lr (st.map (x_cw E))) := by
    intro H1 e1 z1 o1
    have hN1 : x_NR E H1 (x_wr M a i b) := by
      have := hN.set (a := a.toNat) (k := i.toNat) (v := b) (H1 := H1) w2 oa'.2.1 (by rw [oa'.2.2]; show i.toNat < 4; omega) (by rw [oa'.2.2]; show (3 : Nat) ≠ 2; decide) (fun _ => orow) (by rw [oa'.2.2]; trivial) z1 o1 (by
        rw [oa'.2.2, if_neg (by omega)]
        show H1[x_adr E a.toNat]? = some (arrV (E.2.2.2.2 4) 4 (fun j => x_cv E (x_fn (x_wr M a.toNat i.toNat b) 115 a.toNat j)))
        rw [e1, arrV_store]
        congr 2
        funext j
        unfold updV
        rw [w6]
        have hj := x_fnA (x_wr M a.toNat i.toNat b) (t := 115) (by omega) a.toNat j
        by_cases ej : j = i.toNat
        · rw [if_pos ej, hj, ej, x_wr_eq]; rfl
        · rw [if_neg ej, hj, x_wr_ne M b (by omega), x_fnA M (t := 115) (by omega) a.toNat j])
      rw [ea, ei] at this
      exact this
    have hok := fun v => (x_okV_wr (M := M) (a := a) i b w1 v)
    exact x_Wwr (x_ext.wr M i b w1) (kk p e R s m args below meth c H1 _ cells slots lr hM hC hf hl hc hs hN1 (fun q hq => by
      rcases List.mem_append.mp hq with h | h
      · exact hlo q h
      · rw [List.mem_singleton.mp h]
        show E.1 ≤ x_adr E a.toNat
        rw [x_adr_own w2]; omega) hL (fun v hv => (hok v).mpr (hol v hv)) (fun v hv => (hok v).mpr (os v hv)))
  simp only [List.map, x_cw0, ev, x_cwr (show 10 ≤ 115 by omega) w1]
  by_cases hb : b < 0
  · have en : x_cv E (x_sl 3 0 b) = .null := by
      show x_cv E (if b < 0 then .null else .ref b.toNat) = _
      rw [if_pos hb]; rfl
    rw [en] at fin ⊢
    exact va_WaastN (C := "LeaderTerms$Row") hC.1 hC.2.1 w3' ((hK.2.1 4 _ rfl).1 4 _) (fun h => by cases h) (by rw [arrV_size, w6]; intro q; rcases q with q | q; exact w5 q; omega) rfl rfl (x_dec hM hd) fun H1 e1 z1 o1 => fin H1 e1 z1 o1
  · have en : x_cv E (x_sl 3 0 b) = .ref (x_adr E b.toNat) := by
      show x_cv E (if b < 0 then .null else .ref b.toNat) = _
      rw [if_neg hb]; rfl
    rw [en] at fin ⊢
    have o9 : 0 ≤ b ∧ b.toNat < x_tp M ∧ x_tag M b.toNat = 10 + 6 := x_row9 (M := M) orow (by omega)
    obtain ⟨-, ⟨cellV, g1, g2, g3, -⟩, -⟩ := hN.obj (c := 6) (by decide) o9
    have hcls := (hK.1.1 6 _ (x_KL_at 6 (by decide))).2
    obtain ⟨kA, comp, k1, k2, k3, -⟩ := (hK.2.1 4 _ rfl).2 (by omega)
    have hcomp : comp = E.2.2.1 6 := Option.some.inj (k3.symm.trans hcls.1)
    subst hcomp
    have hcls' := hcls
    obtain ⟨-, kC, hkC, -⟩ := hcls'
    exact W.aast hC.1 hC.2.1 w3' (fun q h => by cases h) (fun h => by cases h) k1 k2 rfl hkC ⟨w5, by rw [arrV_size, w6]; omega⟩ g1 (fun q h => by rw [g3] at h; cases h) (by rw [g2]; exact hkC) (by rw [g2]; exact va_assign hcls) rfl rfl (x_dec hM hd) fun H1 e1 z1 o1 => fin H1 e1 z1 o1
end XR1
