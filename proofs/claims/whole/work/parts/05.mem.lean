/-! The memory: what the heap holds of it -/
def x_tp (M : xM) : Nat := (M (-1) 0).toNat
def x_tag (M : xM) (a : Nat) : Nat := if a < 593 then x_SHT a else (M (-2) a).toNat
def x_ln (M : xM) (t : Nat) (x : Int) : Int := if t = 190 then M (x - 1) 1 else (x_AT (t - 100)).2.1
def x_sl (fk : Nat) (pf x : Int) : Value := match fk with
  | 0 => .int (Int32.ofInt x)
  | 1 => .long (Int64.ofInt x)
  | 2 => .ref pf.toNat
  | 4 => .int (Int32.ofInt x)
  | _ => if x < 0 then .null else .ref x.toNat
def x_rg (fk : Nat) (x : Int) : Prop := match fk with
  | 0 => -2147483648 ≤ x ∧ x < 2147483648
  | 1 => -9223372036854775808 ≤ x ∧ x < 9223372036854775808
  | 4 => x = 0 ∨ x = 1
  | _ => True
def x_knd (t k : Nat) : Nat := if t < 100 then x_FK (t - 10) k else (x_AT (t - 100)).1
def x_len (M : xM) (t a : Nat) : Nat := if t < 100 then x_N (t - 10) else (x_ln M t a).toNat
def x_fn (M : xM) (t a k : Nat) : Value := x_sl (x_knd t k) (if t < 100 then x_PF (t - 10) k a else a + (x_AT (t - 100)).2.2.1 + (x_AT (t - 100)).2.2.2.1 * k) (M a k)
def x_gt (t : Nat) : Nat := (x_AT (t - 100)).2.2.2.2.2
def x_cell (E : xE) (H : Heap) (M : xM) (a : Nat) : Prop := (if x_tag M a < 100 then x_CLo E (x_tag M a - 10) a (x_fn M (x_tag M a) a) H else x_CLa E (x_gt (x_tag M a)) a (x_len M (x_tag M a) a) (x_fn M (x_tag M a) a) H) ∧ ∀ k, k < x_len M (x_tag M a) a → x_rg (x_knd (x_tag M a) k) (M a k)
def x_rowok (M : xM) (x : Int) : Prop := x = -1 ∨ (593 ≤ x ∧ x.toNat < x_tp M ∧ x_tag M x.toNat = 16)
def x_okV (M : xM) (v : xV) : Prop := match v.1 with
  | 0 => x_rg 0 v.2
  | 1 => x_rg 1 v.2
  | 2 => v.2 = -1
  | 5 => True
  | 9 => x_rowok M v.2
  | t => 0 ≤ v.2 ∧ v.2.toNat < x_tp M ∧ x_tag M v.2.toNat = t
def x_L (E : xE) : Nat := E.2.1 5
def x_xs (E : xE) (i : Nat) : Int32 := Int32.ofNat (E.2.2.2.1 100 i)
def x_sv (E : xE) (a i : Nat) : Int32 := if a = 0 then x_xs E i else Int32.ofInt ((x_SC (180 + a)).getD i 0)
def x_sn (E : xE) (a : Nat) : Nat := if a = 0 then x_L E else (x_SC (180 + a)).length
def x_SP (E : xE) (H : Heap) : Prop := (x_L E ≤ 3072 ∧ ∀ i, 1 ≤ i → i < 5 → E.2.1 (10 + i) < E.1 ∧ ∃ cell : Cell, H[E.2.1 (10 + i)]? = some cell ∧ cell.vm.isStatics = true ∧ cell.slots[E.2.1 (20 + i)]? = some (.ref (E.2.1 i))) ∧ ∀ a, a < 5 → E.2.1 a < E.1 ∧ ∃ cell : Cell, H[E.2.1 a]? = some cell ∧ cell.cls = E.2.2.2.2 (10 + a) ∧ (∀ k, cell.vm ≠ .statics k) ∧ cell.vm ≠ .unknown ∧ cell.slots.size = x_sn E a ∧ ∀ j, j < x_sn E a → cell.slots[j]? = some (.int (x_sv E a j))
def x_dyn (M : xM) : Prop := ∀ a, 593 ≤ a → a < x_tp M → (x_tag M a = 16 ∧ a + 1 < x_tp M ∧ x_tag M (a + 1) = 190) ∨ (x_tag M a = 190 ∧ 593 ≤ a - 1 ∧ x_tag M (a - 1) = 16) ∨ x_tag M a = 191 ∨ x_tag M a = 192
def x_rows (M : xM) : Prop := (∀ i : Nat, i < 4 → x_rowok M (M 88 i)) ∧ ∀ i : Nat, i < 10 → x_rowok M (M (90 + i) 2)
def x_NR (E : xE) (H : Heap) (M : xM) : Prop := 593 ≤ x_tp M ∧ H.size = E.1 + (x_tp M - 5) ∧ x_SP E H ∧ (∀ a, 5 ≤ a → a < x_tp M → x_cell E H M a) ∧ x_dyn M ∧ x_rows M
def x_wr (M : xM) (a k v : Int) : xM := fun a' k' => if a' = a ∧ k' = k then v else M a' k'
theorem x_wr_eq (M : xM) (a k v : Int) : x_wr M a k v a k = v := by simp [x_wr]
theorem x_wr_ne (M : xM) {a k a' k' : Int} (v : Int) (h : ¬ (a' = a ∧ k' = k)) : x_wr M a k v a' k' = M a' k' := by simp [x_wr, h]
def x_ck1 (a k : Nat) : Bool := !(decide (x_FK (x_SHT a - 10) k = 2)) || (decide (0 ≤ x_PF (x_SHT a - 10) k a) && (decide ((x_PF (x_SHT a - 10) k a).toNat < 593) && decide (x_SHT (x_PF (x_SHT a - 10) k a).toNat = x_PT (x_SHT a - 10) k)))
def x_ck2 (a : Nat) : Bool := !(decide (5 ≤ a)) || (!(decide (x_SHT a < 100)) || (decide (x_SHT a ≠ 16 ∧ 10 ≤ x_SHT a ∧ x_SHT a < 22) && (List.range (x_N (x_SHT a - 10))).all (x_ck1 a)))
theorem x_ck2_ok : (List.range 593).all x_ck2 = true := by decide +kernel
theorem x_clo1 : ∀ a, a < 593 → 5 ≤ a → x_SHT a < 100 → (x_SHT a ≠ 16 ∧ 10 ≤ x_SHT a ∧ x_SHT a < 22) ∧ ∀ k, k < x_N (x_SHT a - 10) → x_FK (x_SHT a - 10) k = 2 → 0 ≤ x_PF (x_SHT a - 10) k a ∧ (x_PF (x_SHT a - 10) k a).toNat < 593 ∧ x_SHT (x_PF (x_SHT a - 10) k a).toNat = x_PT (x_SHT a - 10) k := by
  intro a h1 h2 h3
  have h := List.all_eq_true.mp x_ck2_ok a (List.mem_range.mpr h1)
  simp only [x_ck2, h2, h3, decide_true, Bool.not_true, Bool.false_or, Bool.and_eq_true, decide_eq_true_eq] at h
  refine ⟨h.1, fun k hk hf => ?_⟩
  have h' := List.all_eq_true.mp h.2 k (List.mem_range.mpr hk)
  simp only [x_ck1, hf, decide_true, Bool.not_true, Bool.false_or, Bool.and_eq_true, decide_eq_true_eq] at h'
  exact h'
def x_el (a k : Nat) : Int := (a : Int) + (x_AT (x_SHT a - 100)).2.2.1 + (x_AT (x_SHT a - 100)).2.2.2.1 * k
def x_ck3 (a k : Nat) : Bool := decide (0 ≤ x_el a k) && (decide ((x_el a k).toNat < 593) && decide (x_SHT (x_el a k).toNat = (x_AT (x_SHT a - 100)).2.2.2.2.1))
def x_ck4 (a : Nat) : Bool := !(decide (5 ≤ a)) || (decide (x_SHT a < 100) || (decide (x_SHT a < 180) && (decide (0 ≤ (x_AT (x_SHT a - 100)).2.1) && (!(decide ((x_AT (x_SHT a - 100)).1 = 2)) || (List.range ((x_AT (x_SHT a - 100)).2.1.toNat)).all (x_ck3 a)))))
theorem x_ck4_ok : (List.range 593).all x_ck4 = true := by decide +kernel
theorem x_clo2 : ∀ a, a < 593 → 5 ≤ a → ¬ x_SHT a < 100 → x_SHT a < 180 ∧ 0 ≤ (x_AT (x_SHT a - 100)).2.1 ∧ ((x_AT (x_SHT a - 100)).1 = 2 → ∀ k, k < (x_AT (x_SHT a - 100)).2.1.toNat → 0 ≤ x_el a k ∧ (x_el a k).toNat < 593 ∧ x_SHT (x_el a k).toNat = (x_AT (x_SHT a - 100)).2.2.2.2.1) := by
  intro a h1 h2 h3
  have h := List.all_eq_true.mp x_ck4_ok a (List.mem_range.mpr h1)
  simp only [x_ck4, h2, h3, decide_true, decide_false, Bool.not_true, Bool.false_or, Bool.and_eq_true, decide_eq_true_eq] at h
  refine ⟨h.1, h.2.1, fun hf k hk => ?_⟩
  have h2 := h.2.2
  simp only [hf, decide_true, Bool.not_true, Bool.false_or] at h2
  have h' := List.all_eq_true.mp h2 k (List.mem_range.mpr hk)
  simp only [x_ck3, Bool.and_eq_true, decide_eq_true_eq] at h'
  exact h'
theorem x_clo3 : ∀ a, a < 5 → x_SHT a = 180 + a := by decide +kernel
theorem x_clo4 : x_SHT 88 = 115 ∧ ∀ a, a < 593 → 90 ≤ a → a < 100 → x_SHT a = 17 := by decide +kernel
theorem x_tag_lt {M : xM} {a : Nat} (h : a < 593) : x_tag M a = x_SHT a := if_pos h
/-- data of the memory (places below 0 apart) do not touch what kind a cell is -/
theorem x_tag_wr (M : xM) {a : Int} (k v : Int) (ha : 0 ≤ a) (b : Nat) : x_tag (x_wr M a k v) b = x_tag M b := by
  unfold x_tag
  rw [x_wr_ne]
  omega
theorem x_tp_wr (M : xM) {a : Int} (k v : Int) (ha : 0 ≤ a) : x_tp (x_wr M a k v) = x_tp M := by
  unfold x_tp
  rw [x_wr_ne]
  omega
theorem x_rowok_wr {M : xM} {a : Int} (k v : Int) (ha : 0 ≤ a) {x : Int} : x_rowok (x_wr M a k v) x ↔ x_rowok M x := by
  unfold x_rowok
  rw [x_tp_wr M k v ha, x_tag_wr M k v ha]
theorem x_okV_wr {M : xM} {a : Int} (k v : Int) (ha : 0 ≤ a) (w : xV) : x_okV (x_wr M a k v) w ↔ x_okV M w := by
  unfold x_okV
  split <;> first | rfl | exact x_rowok_wr k v ha | (rw [x_tp_wr M k v ha, x_tag_wr M k v ha])
/-- an object's cell, an array's, by a value that leads there -/
theorem x_NR.obj {E : xE} {H : Heap} {M : xM} (h : x_NR E H M) {c : Nat} (hc : c < 12) {x : Int} (hv : 0 ≤ x ∧ x.toNat < x_tp M ∧ x_tag M x.toNat = 10 + c) : 5 ≤ x.toNat ∧ x_CLo E c x.toNat (x_fn M (10 + c) x.toNat) H ∧ ∀ k, k < x_N c → x_rg (x_FK c k) (M x k) := by
  obtain ⟨-, -, -, h4, -, -⟩ := h
  obtain ⟨h1, h2, h3⟩ := hv
  have e : ((x.toNat : Nat) : Int) = x := Int.toNat_of_nonneg h1
  have h5 : 5 ≤ x.toNat := by
    rcases Nat.lt_or_ge x.toNat 5 with q | q
    · rw [x_tag_lt (by omega), x_clo3 _ q] at h3; omega
    · exact q
  obtain ⟨q1, q2⟩ := h4 _ h5 h2
  rw [h3, if_pos (show 10 + c < 100 by omega)] at q1
  rw [h3] at q2
  have e2 : 10 + c - 10 = c := by omega
  rw [e2] at q1
  refine ⟨h5, q1, fun k hk => ?_⟩
  have hl : 10 + c < 100 := by omega
  have := q2 k (by simp only [x_len, if_pos hl, e2]; exact hk)
  simp only [x_knd, if_pos hl, e2, e] at this
  exact this
theorem x_NR.arr {E : xE} {H : Heap} {M : xM} (h : x_NR E H M) {t : Nat} (ht : ¬ t < 100) (ht2 : ¬ (180 ≤ t ∧ t < 185)) {x : Int} (hv : 0 ≤ x ∧ x.toNat < x_tp M ∧ x_tag M x.toNat = t) : 5 ≤ x.toNat ∧ x_CLa E (x_gt t) x.toNat (x_ln M t x).toNat (x_fn M t x.toNat) H ∧ ∀ k : Nat, k < (x_ln M t x).toNat → x_rg (x_AT (t - 100)).1 (M x k) := by
  obtain ⟨-, -, -, h4, -, -⟩ := h
  obtain ⟨h1, h2, h3⟩ := hv
  have e : ((x.toNat : Nat) : Int) = x := Int.toNat_of_nonneg h1
  have h5 : 5 ≤ x.toNat := by
    rcases Nat.lt_or_ge x.toNat 5 with q | q
    · rw [x_tag_lt (by omega), x_clo3 _ q] at h3; omega
    · exact q
  obtain ⟨q1, q2⟩ := h4 _ h5 h2
  rw [h3, if_neg ht] at q1
  rw [h3] at q2
  simp only [x_len, if_neg ht, e] at q1 q2
  refine ⟨h5, q1, fun k hk => ?_⟩
  have := q2 k hk
  simp only [x_knd, if_neg ht] at this
  exact this
theorem x_adr_own {E : xE} {a : Nat} (h : 5 ≤ a) : x_adr E a = E.1 + (a - 5) := if_neg (by omega)
theorem x_adr_inj {E : xE} {a b : Nat} (ha : 5 ≤ a) (hb : 5 ≤ b) (h : x_adr E a = x_adr E b) : a = b := by
  rw [x_adr_own ha, x_adr_own hb] at h
  omega
theorem x_SP.kept {E : xE} {H H1 : Heap} (h : x_SP E H) (h1 : ∀ q, q < E.1 → H1[q]? = H[q]?) : x_SP E H1 := by
  refine ⟨⟨h.1.1, fun i hi hi2 => ?_⟩, fun a ha => ?_⟩
  · obtain ⟨q0, cell, q1, q2⟩ := h.1.2 i hi hi2
    exact ⟨q0, cell, by rw [h1 _ q0]; exact q1, q2⟩
  · obtain ⟨q0, cell, q1, q2⟩ := h.2 a ha
    exact ⟨q0, cell, by rw [h1 _ q0]; exact q1, q2⟩
theorem x_cell.kept {E : xE} {H H1 : Heap} {M M1 : xM} {a : Nat} (h : x_cell E H M a) (h1 : H1[x_adr E a]? = H[x_adr E a]?) (ht : x_tag M1 a = x_tag M a) (hl : x_len M1 (x_tag M a) a = x_len M (x_tag M a) a) (hm : ∀ k : Nat, M1 a k = M a k) : x_cell E H1 M1 a := by
  unfold x_cell at h ⊢
  rw [ht, hl]
  have e : x_fn M1 (x_tag M a) a = x_fn M (x_tag M a) a := by funext k; unfold x_fn; rw [hm]
  rw [e]
  refine ⟨?_, fun k hk => by rw [hm]; exact h.2 k hk⟩
  have h0 := h.1
  split at h0
  · rename_i q; rw [if_pos q]; exact t_OB.kept h0 h1
  · rename_i q; rw [if_neg q]; unfold x_CLa at h0 ⊢; rw [h1]; exact h0
/-- one place of one cell has changed -/
theorem x_NR.set {E : xE} {H H1 : Heap} {M : xM} (h : x_NR E H M) {a k : Nat} {v : Int} (ha : 5 ≤ a) (hat : a < x_tp M) (hk : k < x_len M (x_tag M a) a) (hknd : x_knd (x_tag M a) k ≠ 2) (hrow : x_knd (x_tag M a) k = 3 → x_rowok M v) (hrg : x_rg (x_knd (x_tag M a) k) v)
    (hz : H1.size = H.size) (ho : ∀ q, q ≠ x_adr E a → H1[q]? = H[q]?) (hc : if x_tag M a < 100 then x_CLo E (x_tag M a - 10) a (x_fn (x_wr M a k v) (x_tag M a) a) H1 else x_CLa E (x_gt (x_tag M a)) a (x_len M (x_tag M a) a) (x_fn (x_wr M a k v) (x_tag M a) a) H1) : x_NR E H1 (x_wr M a k v) := by
  obtain ⟨h1, h2, h3, h4, h5, h6⟩ := h
  have ha0 : (0 : Int) ≤ a := by omega
  have etp := x_tp_wr M (a := a) k v ha0
  have etg := fun b => x_tag_wr M (a := a) k v ha0 b
  have eln : ∀ b : Nat, 5 ≤ b → b < x_tp M → x_len (x_wr M a k v) (x_tag M b) b = x_len M (x_tag M b) b := by
    intro b hb5 hb
    unfold x_len x_ln
    split
    · rfl
    · split
      · rename_i q1 q2
        by_cases e : ((b : Int) - 1 = a ∧ (1 : Int) = k)
        · exfalso
          have hb9 : 593 ≤ b := by
            rcases Nat.lt_or_ge b 593 with z | z
            · have := (x_clo2 b z hb5 (by rw [x_tag_lt z] at q1; exact q1)).1
              rw [x_tag_lt z] at q2; omega
            · exact z
          rcases h5 b hb9 hb with z | z | z | z
          · omega
          · have e1 : a = b - 1 := by omega
            have e2 : k = 1 := by omega
            rw [e1, e2, z.2.2] at hknd
            exact hknd rfl
          · omega
          · omega
        · rw [x_wr_ne M v (by omega)]
      · rfl
  refine ⟨by rw [etp]; exact h1, by rw [etp, hz]; exact h2, ?_, fun b hb5 hb => ?_, fun b hb9 hb => ?_, ?_⟩
  · refine x_SP.kept h3 fun q hq => ho q ?_
    rw [x_adr_own ha]; omega
  · rw [etp] at hb
    by_cases e : b = a
    · subst e
      unfold x_cell
      rw [etg, eln b hb5 hb]
      refine ⟨hc, fun j hj => ?_⟩
      by_cases ej : j = k
      · subst ej; rw [x_wr_eq]; exact hrg
      · rw [x_wr_ne M v (by omega)]; exact (h4 b hb5 hb).2 j hj
    · refine (h4 b hb5 hb).kept (ho _ fun q => e (x_adr_inj hb5 ha q)) (etg b) (eln b hb5 hb) fun j => x_wr_ne M v (by omega)
  · rw [etp] at hb
    rw [etp, etg, etg, etg]
    exact h5 b hb9 hb
  · refine ⟨fun i hi => ?_, fun i hi => ?_⟩
    · rw [x_rowok_wr _ _ ha0]
      by_cases e : ((88 : Int) = a ∧ (i : Int) = k)
      · rw [show (i : Int) = k from e.2, show (88 : Int) = a from e.1, x_wr_eq]
        refine hrow ?_
        have e1 : a = 88 := by omega
        rw [e1, x_tag_lt (by omega), x_clo4.1]; rfl
      · rw [x_wr_ne M v e]; exact h6.1 i hi
    · rw [x_rowok_wr _ _ ha0]
      by_cases e : ((90 : Int) + i = a ∧ (2 : Int) = k)
      · rw [show (2 : Int) = k from e.2, show (90 : Int) + i = a from e.1, x_wr_eq]
        refine hrow ?_
        have e1 : a = 90 + i := by omega
        have e2 : k = 2 := by omega
        rw [e1, e2, x_tag_lt (by omega), x_clo4.2 (90 + i) (by omega) (by omega) (by omega)]; rfl
      · rw [x_wr_ne M v e]; exact h6.2 i hi
