/-! The pure machine: values with a tag (0 int, 1 long, 2 and above references, 5 nothing), locals by their slots -/
abbrev xV : Type := Nat × Int
abbrev xE : Type := Nat × (Nat → Nat) × (Nat → ClassId) × (Nat → Nat → Nat) × (Nat → ClassId)
abbrev xM : Type := Int → Int → Int
def x_adr (E : xE) (a : Nat) : Nat := if a < 5 then E.2.1 a else E.1 + (a - 5)
def x_cv (E : xE) (v : Value) : Value := match v with
  | .ref a => .ref (x_adr E a)
  | w => w
def x_vv (v : xV) : Value := match v.1 with
  | 0 => .int (Int32.ofInt v.2)
  | 1 => .long (Int64.ofInt v.2)
  | _ => if v.2 < 0 then .null else .ref v.2.toNat
def x_cw (E : xE) (v : xV) : Value := x_cv E (x_vv v)
theorem x_cw0 (E : xE) (x : Int) : x_cw E (0, x) = .int (Int32.ofInt x) := rfl
theorem x_cw1 (E : xE) (x : Int) : x_cw E (1, x) = .long (Int64.ofInt x) := rfl
theorem x_cwN (E : xE) (t : Nat) (x : Int) (h : x < 0) : x_cw E (t + 2, x) = .null := by
  show x_cv E (if x < 0 then .null else .ref x.toNat) = _
  rw [if_pos h]; rfl
theorem x_cwR (E : xE) (t : Nat) (x : Int) (h : ¬ x < 0) : x_cw E (t + 2, x) = .ref (x_adr E x.toNat) := by
  show x_cv E (if x < 0 then .null else .ref x.toNat) = _
  rw [if_neg h]; rfl
theorem x_cat (E : xE) (v : xV) : (x_cw E v).category = if v.1 = 1 then 2 else 1 := by
  obtain ⟨t, x⟩ := v
  match t with
  | 0 => rfl
  | 1 => rfl
  | t + 2 =>
    by_cases h : x < 0
    · rw [x_cwN E t x h]; simp [Value.category]
    · rw [x_cwR E t x h]; simp [Value.category]
/-- the locals by their slots -/
def x_asc (E : xE) : Nat → List xV → List (Nat × Value)
  | _, [] => []
  | i, v :: r => if v.1 = 5 then x_asc E (i + 1) r else (i, x_cw E v) :: x_asc E (i + 1) r
theorem x_asc_mem (E : xE) : ∀ (ls : List xV) (i : Nat) (q : Nat × Value), q ∈ x_asc E i ls ↔ ∃ (j : Nat) (v : xV), ls[j]? = some v ∧ v.1 ≠ 5 ∧ q = (i + j, x_cw E v)
  | [], i, q => by simp [x_asc]
  | v :: r, i, q => by
    have ih := x_asc_mem E r (i + 1) q
    constructor
    · intro h
      unfold x_asc at h
      split at h
      · obtain ⟨j, w, h1, h2, h3⟩ := ih.mp h
        exact ⟨j + 1, w, h1, h2, by rw [h3]; congr 1; omega⟩
      · rename_i hv
        rcases List.mem_cons.mp h with h | h
        · exact ⟨0, v, rfl, hv, h⟩
        · obtain ⟨j, w, h1, h2, h3⟩ := ih.mp h
          exact ⟨j + 1, w, h1, h2, by rw [h3]; congr 1; omega⟩
    · rintro ⟨j, w, h1, h2, h3⟩
      unfold x_asc
      match j with
      | 0 =>
        have e : v = w := Option.some.inj h1
        subst e
        rw [if_neg h2]
        exact List.mem_cons.mpr (Or.inl h3)
      | j + 1 =>
        have h := ih.mpr ⟨j, w, h1, h2, by rw [h3]; congr 1; omega⟩
        split
        · exact h
        · exact List.mem_cons_of_mem _ h
def x_LR (E : xE) (ls : List xV) (lr : Array Slot) (n : Nat) : Prop := lv_has lr n (x_asc E 0 ls)
theorem x_LR.of {E : xE} {ls : List xV} {lr : Array Slot} {n : Nat} {L : List (Nat × Value)} (h : lv_has lr n L) (hs : ∀ (j : Nat) (v : xV), ls[j]? = some v → v.1 ≠ 5 → (j, x_cw E v) ∈ L) : x_LR E ls lr n := by
  refine ⟨h.1, h.2.1, fun q hq => ?_⟩
  obtain ⟨j, v, h1, h2, h3⟩ := (x_asc_mem E ls 0 q).mp hq
  rw [h3, Nat.zero_add]
  exact h.2.2 _ (hs j v h1 h2)
theorem x_LR.at {E : xE} {ls : List xV} {lr : Array Slot} {n : Nat} (h : x_LR E ls lr n) {j : Nat} {v : xV} (h1 : ls[j]? = some v) (h2 : v.1 ≠ 5) : lr[j]? = some (.val (x_cw E v)) :=
  h.2.2 (j, x_cw E v) ((x_asc_mem E ls 0 _).mpr ⟨j, v, h1, h2, by simp⟩)
/-- a store of a value of one slot, of two -/
def x_sto1 : List xV → Nat → xV → List xV
  | [], _, _ => []
  | _ :: r, 0, v => v :: r
  | h :: r, i + 1, v => (if i = 0 ∧ h.1 = 1 then (5, 0) else h) :: x_sto1 r i v
def x_sto2 : List xV → Nat → xV → List xV
  | [], _, _ => []
  | [_], 0, v => [v]
  | _ :: _ :: r, 0, v => v :: (5, 0) :: r
  | h :: r, i + 1, v => (if i = 0 ∧ h.1 = 1 then (5, 0) else h) :: x_sto2 r i v
theorem x_sto1_at : ∀ (ls : List xV) (i : Nat) (v : xV) (j : Nat) (w : xV), (x_sto1 ls i v)[j]? = some w → w.1 ≠ 5 → (j = i ∧ w = v) ∨ (j ≠ i ∧ ls[j]? = some w ∧ ¬ (j + 1 = i ∧ w.1 = 1))
  | [], i, v, j, w, h, _ => by simp [x_sto1] at h
  | a :: r, 0, v, 0, w, h, _ => by
    left; simp [x_sto1] at h; exact ⟨rfl, h.symm⟩
  | a :: r, 0, v, j + 1, w, h, _ => by
    right; simp [x_sto1] at h; exact ⟨by omega, by simpa using h, by omega⟩
  | a :: r, i + 1, v, 0, w, h, h5 => by
    right
    have e : (if i = 0 ∧ a.1 = 1 then ((5, 0) : xV) else a) = w := by simpa [x_sto1] using h
    split at e
    · rw [← e] at h5; exact absurd rfl h5
    · rename_i hn
      refine ⟨by omega, by simp [e], fun q => hn ⟨by omega, by rw [e]; exact q.2⟩⟩
  | a :: r, i + 1, v, j + 1, w, h, h5 => by
    have h' : (x_sto1 r i v)[j]? = some w := by simpa [x_sto1] using h
    rcases x_sto1_at r i v j w h' h5 with ⟨q1, q2⟩ | ⟨q1, q2, q3⟩
    · left; exact ⟨by omega, q2⟩
    · right; exact ⟨by omega, by simpa using q2, fun q => q3 ⟨by omega, q.2⟩⟩
theorem x_sto2_at : ∀ (ls : List xV) (i : Nat) (v : xV) (j : Nat) (w : xV), (x_sto2 ls i v)[j]? = some w → w.1 ≠ 5 → (j = i ∧ w = v) ∨ (j ≠ i ∧ j ≠ i + 1 ∧ ls[j]? = some w ∧ ¬ (j + 1 = i ∧ w.1 = 1))
  | [], i, v, j, w, h, _ => by simp [x_sto2] at h
  | [a], 0, v, j, w, h, _ => by
    left
    match j with
    | 0 => simp [x_sto2] at h; exact ⟨rfl, h.symm⟩
    | j + 1 => simp [x_sto2] at h
  | a :: b :: r, 0, v, j, w, h, h5 => by
    match j with
    | 0 => left; simp [x_sto2] at h; exact ⟨rfl, h.symm⟩
    | 1 =>
      simp [x_sto2] at h
      rw [← h] at h5; exact absurd rfl h5
    | j + 2 => right; simp [x_sto2] at h; exact ⟨by omega, by omega, by simpa using h, by omega⟩
  | a :: r, i + 1, v, 0, w, h, h5 => by
    right
    have e : (if i = 0 ∧ a.1 = 1 then ((5, 0) : xV) else a) = w := by simpa [x_sto2] using h
    split at e
    · rw [← e] at h5; exact absurd rfl h5
    · rename_i hn
      refine ⟨by omega, by omega, by simp [e], fun q => hn ⟨by omega, by rw [e]; exact q.2⟩⟩
  | a :: r, i + 1, v, j + 1, w, h, h5 => by
    have h' : (x_sto2 r i v)[j]? = some w := by simpa [x_sto2] using h
    rcases x_sto2_at r i v j w h' h5 with ⟨q1, q2⟩ | ⟨q1, q2, q3, q4⟩
    · left; exact ⟨by omega, q2⟩
    · right; exact ⟨by omega, by omega, by simpa using q3, fun q => q4 ⟨by omega, q.2⟩⟩
theorem x_LR.sto1 {E : xE} {ls : List xV} {lr : Array Slot} {n i : Nat} {v : xV} (h : x_LR E ls lr n) (hi : i < n) (hv : v.1 ≠ 1) : ∃ lr', storeLocals lr i (x_cw E v) = some lr' ∧ x_LR E (x_sto1 ls i v) lr' n := by
  obtain ⟨lr', e, h'⟩ := lv_store1 (v := x_cw E v) h hi (by rw [x_cat, if_neg hv])
  refine ⟨lr', e, x_LR.of h' fun j w h1 h2 => ?_⟩
  rcases x_sto1_at ls i v j w h1 h2 with ⟨q1, q2⟩ | ⟨q1, q2, q3⟩
  · subst q1; subst q2; exact List.mem_cons_self
  · refine List.mem_cons_of_mem _ (List.mem_filter.mpr ⟨(x_asc_mem E ls 0 _).mpr ⟨j, w, q2, h2, by simp⟩, ?_⟩)
    simp only [x_cat]
    have : ¬ (j + 1 = i ∧ w.1 = 1) := q3
    by_cases hw : w.1 = 1
    · simp [hw] at this ⊢; exact ⟨q1, this⟩
    · simp [hw]; exact q1
theorem x_LR.sto2 {E : xE} {ls : List xV} {lr : Array Slot} {n i : Nat} {v : xV} (h : x_LR E ls lr n) (hi : i + 1 < n) (hv : v.1 = 1) : ∃ lr', storeLocals lr i (x_cw E v) = some lr' ∧ x_LR E (x_sto2 ls i v) lr' n := by
  obtain ⟨lr', e, h'⟩ := lv_store2 (v := x_cw E v) h hi (by rw [x_cat, if_pos hv])
  refine ⟨lr', e, x_LR.of h' fun j w h1 h2 => ?_⟩
  rcases x_sto2_at ls i v j w h1 h2 with ⟨q1, q2⟩ | ⟨q1, q0, q2, q3⟩
  · subst q1; subst q2; exact List.mem_cons_self
  · refine List.mem_cons_of_mem _ (List.mem_filter.mpr ⟨(x_asc_mem E ls 0 _).mpr ⟨j, w, q2, h2, by simp⟩, ?_⟩)
    simp only [x_cat]
    have : ¬ (j + 1 = i ∧ w.1 = 1) := q3
    by_cases hw : w.1 = 1
    · simp [hw] at this ⊢; exact ⟨q1, q0, this⟩
    · simp [hw]; exact ⟨q1, q0⟩
