/-! The judgement: from a point of a method, with locals, stack and memory, it returns as Q says -/
abbrev xMT : Type := MethodName × ByteArray × Nat × Option FieldType × List (Nat × Instr × Nat)
def x_Mok (y : xMT) : Prop := plainFor y.1 = true ∧ (y.1.cls = "LeaderTermsLaw" ∨ Cond.code y.1 y.2.1 y.2.2.1 y.2.2.2.1 ∈ x_tb) ∧ (∀ q ∈ y.2.2.2.2, decode y.2.1 q.1 = .ok q.2) ∧ y.2.2.1 ≤ 40 ∧ y.1.cls ≠ "java/lang/invoke/MethodHandle" ∧ y.1.cls ≠ "java/lang/invoke/VarHandle"
def x_Cx (E : xE) (y : xMT) (p : Program) (s : State) (m : MethodId) (args : Array Value) (meth : Method) (c : Code) : Prop :=
  p.tables.exec = Jvm.exec ∧ c.code = y.2.1 ∧ c.maxLocals = y.2.2.1 ∧ meth.sig.returnType = y.2.2.2.1 ∧ meth.locks = false ∧ meth.name = y.1.name ∧ s.vm.findClass y.1.cls = some m.cls ∧ (∀ w ∈ x_tb, w.before args s = true) ∧ x_CK E s
/-- no cell goes, none becomes another kind -/
def x_ext (M M1 : xM) : Prop := x_tp M ≤ x_tp M1 ∧ ∀ a, a < x_tp M → x_tag M1 a = x_tag M a
theorem x_ext.rf (M : xM) : x_ext M M := ⟨Nat.le_refl _, fun _ _ => rfl⟩
theorem x_ext.tr {M M1 M2 : xM} (h : x_ext M M1) (h2 : x_ext M1 M2) : x_ext M M2 := ⟨Nat.le_trans h.1 h2.1, fun a ha => (h2.2 a (Nat.lt_of_lt_of_le ha h.1)).trans (h.2 a ha)⟩
theorem x_ext.wr (M : xM) {a : Int} (k v : Int) (ha : 0 ≤ a) : x_ext M (x_wr M a k v) := ⟨by rw [x_tp_wr M k v ha]; exact Nat.le_refl _, fun b _ => x_tag_wr M k v ha b⟩
theorem x_ext.ok {M M1 : xM} (h : x_ext M M1) {v : xV} (hv : x_okV M v) : x_okV M1 v := by
  unfold x_okV at hv ⊢
  split at hv
  · exact hv
  · exact hv
  · exact hv
  · trivial
  · rcases hv with q | ⟨q1, q2, q3⟩
    · exact Or.inl q
    · exact Or.inr ⟨q1, Nat.lt_of_lt_of_le q2 h.1, by rw [h.2 _ q2]; exact q3⟩
  · exact ⟨hv.1, Nat.lt_of_lt_of_le hv.2.1 h.1, by rw [h.2 _ hv.2.1]; exact hv.2.2⟩
def x_QQ (E : xE) (M : xM) (Q : Option xV → xM → Prop) : Array Value → State → Outcome → State → Prop := fun _ _ o t => ∃ (r : Option xV) (M1 : xM), o = .returned (r.map (x_cw E)) ∧ x_NR E t.heap M1 ∧ x_CK E t ∧ (∀ v ∈ r, x_okV M1 v) ∧ x_ext M M1 ∧ Q r M1
def x_Ev (l : Launch) (E : xE) (z : Nat × Nat × Nat) (y : xMT) (pc : Nat) (ls st : List xV) (M : xM) (Q : Option xV → xM → Prop) : Prop :=
  ∀ (p : Program) (e : Env) (R : Room) (s : State) (m : MethodId) (args : Array Value) (below : List Frame) (meth : Method) (c : Code) (H : Heap) (locs : List Loc) (cells slots : Nat) (lr : Array Slot), x_Mok y → x_Cx E y p s m args meth c → z.1 ≤ R.frames → 60 * z.1 ≤ R.locals → cells + z.2.1 ≤ R.cells → slots + z.2.2 ≤ R.slots → x_NR E H M → (∀ q ∈ locs, E.1 ≤ q.base) → x_LR E ls lr y.2.2.1 → (∀ v ∈ ls, x_okV M v) → (∀ v ∈ st, x_okV M v) → W p l e R s m args below meth c H locs cells slots (MQ below (x_QQ E M Q) args s (cells + z.2.1) (slots + z.2.2) (fun q => E.1 ≤ q)) (F0 m pc lr (st.map (x_cw E)))
/-! numbers: an int's, a long's wrap-around -/
def x_w (x : Int) : Int := (x + 2147483648) % 4294967296 - 2147483648
def x_W (x : Int) : Int := (x + 9223372036854775808) % 18446744073709551616 - 9223372036854775808
theorem x_w_id {x : Int} (h : -2147483648 ≤ x) (h2 : x < 2147483648) : x_w x = x := by unfold x_w; omega
theorem x_W_id {x : Int} (h : -9223372036854775808 ≤ x) (h2 : x < 9223372036854775808) : x_W x = x := by unfold x_W; omega
theorem x_w_rg (x : Int) : x_rg 0 (x_w x) := by
  show -2147483648 ≤ x_w x ∧ x_w x < 2147483648
  unfold x_w; omega
theorem x_W_rg (x : Int) : x_rg 1 (x_W x) := by
  show -9223372036854775808 ≤ x_W x ∧ x_W x < 9223372036854775808
  unfold x_W; omega
theorem x_w_bmod (x : Int) : x.bmod 4294967296 = x_w x := by
  unfold x_w Int.bmod; dsimp only; split <;> omega
theorem x_W_bmod (x : Int) : x.bmod 18446744073709551616 = x_W x := by
  unfold x_W Int.bmod; dsimp only; split <;> omega
theorem x_toI (x : Int) : (Int32.ofInt x).toInt = x_w x := by rw [← x_w_bmod]; exact Int32.toInt_ofInt
theorem x_toL (x : Int) : (Int64.ofInt x).toInt = x_W x := by rw [← x_W_bmod]; exact Int64.toInt_ofInt
theorem x_inI {x : Int} (h : x_rg 0 x) : (Int32.ofInt x).toInt = x := by rw [x_toI]; exact x_w_id h.1 h.2
theorem x_inL {x : Int} (h : x_rg 1 x) : (Int64.ofInt x).toInt = x := by rw [x_toL]; exact x_W_id h.1 h.2
theorem x_rgI (x : Int32) : x_rg 0 x.toInt := ⟨Int32.le_toInt x, Int32.toInt_lt x⟩
theorem x_rgL (x : Int64) : x_rg 1 x.toInt := ⟨Int64.le_toInt x, Int64.toInt_lt x⟩
theorem x_ofI (x : Int32) : Int32.ofInt x.toInt = x := Int32.ofInt_toInt x
theorem x_ofL (x : Int64) : Int64.ofInt x.toInt = x := Int64.ofInt_toInt x
theorem x_wI (x : Int) : Int32.ofInt (x_w x) = Int32.ofInt x := by rw [← x_toI, x_ofI]
theorem x_WL (x : Int) : Int64.ofInt (x_W x) = Int64.ofInt x := by rw [← x_toL, x_ofL]
theorem x_addI (a b : Int) : Int32.ofInt a + Int32.ofInt b = Int32.ofInt (x_w (a + b)) := by rw [x_wI, Int32.ofInt_add]
theorem x_subI (a b : Int) : Int32.ofInt a - Int32.ofInt b = Int32.ofInt (x_w (a - b)) := by rw [x_wI, Int32.ofInt_sub]
theorem x_mulI (a b : Int) : Int32.ofInt a * Int32.ofInt b = Int32.ofInt (x_w (a * b)) := by rw [x_wI, Int32.ofInt_mul]
theorem x_negI (a : Int) : - Int32.ofInt a = Int32.ofInt (x_w (- a)) := by rw [x_wI, Int32.ofInt_neg]
theorem x_addL (a b : Int) : Int64.ofInt a + Int64.ofInt b = Int64.ofInt (x_W (a + b)) := by rw [x_WL, Int64.ofInt_add]
theorem x_subL (a b : Int) : Int64.ofInt a - Int64.ofInt b = Int64.ofInt (x_W (a - b)) := by rw [x_WL, Int64.ofInt_sub]
theorem x_mulL (a b : Int) : Int64.ofInt a * Int64.ofInt b = Int64.ofInt (x_W (a * b)) := by rw [x_WL, Int64.ofInt_mul]
theorem x_negL (a : Int) : - Int64.ofInt a = Int64.ofInt (x_W (- a)) := by rw [x_WL, Int64.ofInt_neg]
theorem x_divI {a b : Int} (ha : x_rg 0 a) (hb : x_rg 0 b) : Int32.ofInt a / Int32.ofInt b = Int32.ofInt (x_w (a.tdiv b)) := by
  apply Int32.toInt_inj.mp
  rw [Int32.toInt_div, x_inI ha, x_inI hb, x_inI (x_w_rg _)]
  exact x_w_bmod _
theorem x_divL {a b : Int} (ha : x_rg 1 a) (hb : x_rg 1 b) : Int64.ofInt a / Int64.ofInt b = Int64.ofInt (x_W (a.tdiv b)) := by
  apply Int64.toInt_inj.mp
  rw [Int64.toInt_div, x_inL ha, x_inL hb, x_inL (x_W_rg _)]
  exact x_W_bmod _
theorem x_remI {a b : Int} (ha : x_rg 0 a) (hb : x_rg 0 b) : Int32.ofInt a - Int32.ofInt a / Int32.ofInt b * Int32.ofInt b = Int32.ofInt (a.tmod b) := by
  rw [x_divI ha hb, x_wI, ← Int32.ofInt_mul, ← Int32.ofInt_sub]
  congr 1
  have := Int.tmod_add_mul_tdiv a b
  rw [Int.mul_comm] at this
  omega
theorem x_remL {a b : Int} (ha : x_rg 1 a) (hb : x_rg 1 b) : Int64.ofInt a - Int64.ofInt a / Int64.ofInt b * Int64.ofInt b = Int64.ofInt (a.tmod b) := by
  rw [x_divL ha hb, x_WL, ← Int64.ofInt_mul, ← Int64.ofInt_sub]
  congr 1
  have := Int.tmod_add_mul_tdiv a b
  rw [Int.mul_comm] at this
  omega
theorem x_tmod_rg0 {a b : Int} (ha : x_rg 0 a) : x_rg 0 (a.tmod b) := by
  have h := Int.tmod_add_mul_tdiv a b
  have h1 : (a.tmod b).natAbs ≤ a.natAbs := by rw [Int.natAbs_tmod]; exact Nat.mod_le _ _
  obtain ⟨q1, q2⟩ := ha
  by_cases h0 : 0 ≤ a
  · have h2 := Int.tmod_nonneg b h0
    constructor <;> omega
  · have h2 : a.tmod b ≤ 0 := by
      have := Int.tmod_nonneg b (a := -a) (by omega)
      rw [Int.neg_tmod] at this; omega
    constructor <;> omega
theorem x_tmod_rg1 {a b : Int} (ha : x_rg 1 a) : x_rg 1 (a.tmod b) := by
  have h := Int.tmod_add_mul_tdiv a b
  have h1 : (a.tmod b).natAbs ≤ a.natAbs := by rw [Int.natAbs_tmod]; exact Nat.mod_le _ _
  obtain ⟨q1, q2⟩ := ha
  by_cases h0 : 0 ≤ a
  · have h2 := Int.tmod_nonneg b h0
    constructor <;> omega
  · have h2 : a.tmod b ≤ 0 := by
      have := Int.tmod_nonneg b (a := -a) (by omega)
      rw [Int.neg_tmod] at this; omega
    constructor <;> omega
theorem x_ltI {a b : Int} (ha : x_rg 0 a) (hb : x_rg 0 b) : Int32.ofInt a < Int32.ofInt b ↔ a < b := by rw [Int32.lt_iff_toInt_lt, x_inI ha, x_inI hb]
theorem x_leI {a b : Int} (ha : x_rg 0 a) (hb : x_rg 0 b) : Int32.ofInt a ≤ Int32.ofInt b ↔ a ≤ b := by rw [Int32.le_iff_toInt_le, x_inI ha, x_inI hb]
theorem x_eqI {a b : Int} (ha : x_rg 0 a) (hb : x_rg 0 b) : Int32.ofInt a = Int32.ofInt b ↔ a = b := by rw [← Int32.toInt_inj, x_inI ha, x_inI hb]
theorem x_ltL {a b : Int} (ha : x_rg 1 a) (hb : x_rg 1 b) : Int64.ofInt a < Int64.ofInt b ↔ a < b := by rw [Int64.lt_iff_toInt_lt, x_inL ha, x_inL hb]
theorem x_eqL {a b : Int} (ha : x_rg 1 a) (hb : x_rg 1 b) : Int64.ofInt a = Int64.ofInt b ↔ a = b := by rw [← Int64.toInt_inj, x_inL ha, x_inL hb]
theorem x_rg0 : x_rg 0 0 := ⟨by omega, by omega⟩
theorem x_zI : (0 : Int32) = Int32.ofInt 0 := rfl
theorem x_zL : (0 : Int64) = Int64.ofInt 0 := rfl
theorem x_idx {i : Int} (h : 0 ≤ i) (h2 : i < 2147483648) : ¬ Int32.ofInt i < 0 ∧ (Int32.ofInt i).toNatClampNeg = i.toNat := by
  have hr : x_rg 0 i := ⟨by omega, h2⟩
  refine ⟨fun q => ?_, ?_⟩
  · have q' : Int32.ofInt i < Int32.ofInt 0 := q
    rw [x_ltI hr x_rg0] at q'; omega
  · show (Int32.ofInt i).toInt.toNat = i.toNat
    rw [x_inI hr]
theorem x_i2l {a : Int} (ha : x_rg 0 a) : (Int32.ofInt a).toInt64 = Int64.ofInt a := by
  apply Int64.toInt_inj.mp
  rw [Int32.toInt_toInt64, x_inI ha, x_inL]
  obtain ⟨q1, q2⟩ := ha
  constructor <;> omega
theorem x_l2i {a : Int} (ha : x_rg 1 a) : (Int64.ofInt a).toInt32 = Int32.ofInt (x_w a) := by
  apply Int32.toInt_inj.mp
  rw [Int64.toInt_toInt32, x_inL ha, x_inI (x_w_rg _)]
  exact x_w_bmod _
