/-! new Row: its constructor -/
theorem c_Row {l : Launch} {E : xE} {h0 : Nat} {sort n : Int} {H0 : Heap} (hn : 0 ≤ n ∧ n ≤ 40) (hE : E.1 ≤ h0) {V : Nat → Value} (hO : t_OB h0 (E.2.2.1 6) 2 (E.2.2.2.1 6) H0 V) : Met l m_X6_init.1 (x_ws m_X6_init) (x_rm (2, 1, 40)) (x_PR E h0 sort n H0) (x_QR E h0 sort n H0) 1 40 (fun q => E.1 ≤ q) := by
  refine x_ofW (cc := m_X6_init.2.1) (maxL := 3) (ret := none) ok_X6_init.1 rfl ?_
  intro p e s m args below meth c s₁ B hml hv
  obtain ⟨rfl, hH, hK⟩ := hv
  have hRo : (headSpec (x_ws m_X6_init) (x_rm (2, 1, 40))).room = x_rm (2, 1, 40) := rfl
  rw [hRo]
  rw [← hH] at hO ⊢
  have hx := B.exec
  have hb := B.bytes
  have hr := B.returns
  have hts := atoms_spec (ws := x_ws m_X6_init) B.pre
  have hT : ∀ w ∈ x_tb, w.before ([Value.ref h0, .int (Int32.ofInt sort), .int (Int32.ofInt n)].toArray) s = true := fun w hw => hts w (List.mem_cons_of_mem _ hw)
  have hown : s.vm.findClass "LeaderTerms$Row" = some m.cls := findClass_of_methodNamed B.named
  have hlocks := B.notSynchronized
  have hin : meth.name = "<init>" := (name_of_methodNamed B.named B.method).1
  have hlt : h0 < s.heap.size := by
    obtain ⟨cell, q, -⟩ := hO
    exact (Array.getElem?_eq_some_iff.mp q).1
  have hl := lv_entry ([.ref h0, .int (Int32.ofInt sort), .int (Int32.ofInt n)]) (n := 3) (Nat.le_of_ble_eq_true rfl)
  rw [lg_entry_eq]
  generalize (lg_sl ([Value.ref h0, .int (Int32.ofInt sort), .int (Int32.ofInt n)]) ++ List.replicate (3 - (lg_sl ([Value.ref h0, .int (Int32.ofInt sort), .int (Int32.ofInt n)])).length) Slot.unset).toArray = ls at hl ⊢
  have hl : lv_has ls 3 [(0, .ref h0), (1, .int (Int32.ofInt sort)), (2, .int (Int32.ofInt n))] := hl
  have hx0 := x_idx hn.1 (show n < 2147483648 by omega)
  refine lv_aload_n hx hb (x_dec ok_X6_init (n := 0) rfl) rfl (lv_at hl 0 rfl) ?_
  refine W.objInit hx hb hown (hT _ rw_oi) (hT _ rw_oii) (hT _ rw_oic) rfl (by rw [hml]; exact hl.1) rfl (x_dec ok_X6_init (n := 1) rfl) (Nat.le_of_ble_eq_true rfl) (Nat.le_of_ble_eq_true rfl) ?_
  refine W.eq (g2 := F0 m 4 ls []) rfl ?_
  refine lv_aload_n hx hb (x_dec ok_X6_init (n := 2) rfl) rfl (lv_at hl 0 rfl) ?_
  refine lv_iload_n hx hb (x_dec ok_X6_init (n := 3) rfl) rfl (lv_at hl 1 rfl) ?_
  refine x_putfF hx hb hT hown hK (cl := 6) (k := 0) (by decide) (by decide) fl_952 rfl hin rfl hO rfl rfl (x_dec ok_X6_init (n := 4) rfl) fun H1 lo1 hb1 hO1 hz1 ho1 => ?_
  refine lv_aload_n hx hb (x_dec ok_X6_init (n := 5) rfl) rfl (lv_at hl 0 rfl) ?_
  refine lv_iload_n hx hb (x_dec ok_X6_init (n := 6) rfl) rfl (lv_at hl 2 rfl) ?_
  refine lv_iconst hx hb (v := 0) (x_dec ok_X6_init (n := 7) rfl) rfl ?_
  refine va_mmax hx hb (by rw [hml]; exact hl.1.symm) hown (hT _ rw_mx) (hT _ rw_mxs) (hT _ rw_mi) (hT _ rw_mxc) (Nat.le_of_ble_eq_true rfl) (Nat.le_of_ble_eq_true rfl) (Nat.zero_le _) (Nat.zero_le _) (x_dec ok_X6_init (n := 8) rfl) ?_
  rw [if_neg hx0.1]
  refine va_newaK (atype := .long) hx hb (hT _ acw_191) rfl (x_dec ok_X6_init (n := 9) rfl) rfl hx0.1 hx0.2 (by show n.toNat * 8 ≤ _; omega) (Nat.le_of_ble_eq_true rfl) (by show 0 + n.toNat ≤ 40; omega) rfl fun H2 cA e1 z1 o1 hA hN => ?_
  have hr1 := (hK.2.1 1 _ rfl).2 (by omega)
  have eA : cA = E.2.2.2.2 1 := Option.some.inj (hN.symm.trans hr1)
  refine W.eq (g2 := F0 m 17 ls [.ref H1.size, .ref h0]) rfl ?_
  refine x_putfF hx hb hT hown hK (cl := 6) (k := 1) (by decide) (by decide) fl_954 rfl hin rfl (hO1.kept (o1 h0 (by omega))) rfl rfl (x_dec ok_X6_init (n := 10) rfl) fun H3 lo2 hb2 hO3 hz3 ho3 => ?_
  refine W.widen (k := 1) (n := 40) (Nat.le_of_ble_eq_true rfl) (by show 0 + n.toNat ≤ 40; omega) ?_
  have F1 : H3.size = s.heap.size + 1 := by rw [hz3, z1, hz1]
  have F2 : ∀ x : Nat, x < s.heap.size → x ≠ h0 → H3[x]? = s.heap[x]? := by
    intro x x1 x2
    rw [ho3 x x2, o1 x (by omega), ho1 x x2]
  have F3 : t_OB h0 (E.2.2.1 6) 2 (E.2.2.2.1 6) H3 (fun k => if k = 0 then .int (Int32.ofInt sort) else .ref s.heap.size) := by
    refine t_OB.to hO3 ?_
    intro x hx2
    have hx3 : x < 2 := hx2
    have hx4 : x = 0 ∨ x = 1 := by omega
    rcases hx4 with hx4 | hx4
    · rw [hx4]; rfl
    · rw [hx4]
      show Value.ref H1.size = .ref s.heap.size
      rw [hz1]
  have F4 : H3[s.heap.size]? = some (arrV (E.2.2.2.2 1) n.toNat (fun _ => .long 0)) := by
    rw [← hz1, ho3 _ (by omega), e1, eA]; rfl
  have F5 : ∀ x ∈ ([] ++ [lo1]) ++ [lo2], E.1 ≤ x.base := by
    intro x hx2
    rcases List.mem_append.mp hx2 with hx3 | hx3
    · rw [List.nil_append] at hx3
      rw [List.mem_singleton.mp hx3, hb1]; exact hE
    · rw [List.mem_singleton.mp hx3, hb2]; exact hE
  exact W.vret hx hb hr (fun x hx2 hx3 => ⟨rfl, by rw [hx2]; exact F1, by rw [hx2]; exact F2, by rw [hx2]; exact F3, by rw [hx2]; exact F4, hK.moved hx3⟩) F5 (x_dec ok_X6_init (n := 11) rfl) hlocks
