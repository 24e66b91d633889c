section XS
variable {l : Launch} {E : xE} {z : Nat × Nat × Nat} {y : xMT} {pc : Nat} {ls ls' st : List xV} {M : xM} {Q : Option xV → xM → Prop}
theorem x_sto1_mem : ∀ (ls : List xV) (i : Nat) (w v : xV), v ∈ x_sto1 ls i w → v = w ∨ v ∈ ls ∨ v = (5, 0)
  | [], _, _, v, h => by simp [x_sto1] at h
  | a :: r, 0, w, v, h => by
    rcases List.mem_cons.mp h with h | h
    · exact Or.inl h
    · exact Or.inr (Or.inl (List.mem_cons_of_mem _ h))
  | a :: r, i + 1, w, v, h => by
    rcases List.mem_cons.mp h with h | h
    · split at h
      · exact Or.inr (Or.inr h)
      · exact Or.inr (Or.inl (by rw [h]; exact List.mem_cons_self))
    · rcases x_sto1_mem r i w v h with q | q | q
      · exact Or.inl q
      · exact Or.inr (Or.inl (List.mem_cons_of_mem _ q))
      · exact Or.inr (Or.inr q)
theorem x_sto2_mem : ∀ (ls : List xV) (i : Nat) (w v : xV), v ∈ x_sto2 ls i w → v = w ∨ v ∈ ls ∨ v = (5, 0)
  | [], _, _, v, h => by simp [x_sto2] at h
  | [a], 0, w, v, h => by simp [x_sto2] at h; exact Or.inl h
  | a :: b :: r, 0, w, v, h => by
    simp only [x_sto2, List.mem_cons] at h
    rcases h with h | h | h
    · exact Or.inl h
    · exact Or.inr (Or.inr h)
    · exact Or.inr (Or.inl (List.mem_cons_of_mem _ (List.mem_cons_of_mem _ h)))
  | a :: r, i + 1, w, v, h => by
    have h' : v ∈ (if i = 0 ∧ a.1 = 1 then (5, 0) else a) :: x_sto2 r i w := by simpa [x_sto2] using h
    rcases List.mem_cons.mp h' with h | h
    · split at h
      · exact Or.inr (Or.inr h)
      · exact Or.inr (Or.inl (by rw [h]; exact List.mem_cons_self))
    · rcases x_sto2_mem r i w v h with q | q | q
      · exact Or.inl q
      · exact Or.inr (Or.inl (List.mem_cons_of_mem _ q))
      · exact Or.inr (Or.inr q)
theorem x_sto1_ok {i : Nat} {w : xV} (h : ∀ v ∈ ls, x_okV M v) (hw : x_okV M w) : ∀ v ∈ x_sto1 ls i w, x_okV M v := fun v hv => by
  rcases x_sto1_mem ls i w v hv with q | q | q
  · rw [q]; exact hw
  · exact h v q
  · rw [q]; exact trivial
theorem x_sto2_ok {i : Nat} {w : xV} (h : ∀ v ∈ ls, x_okV M v) (hw : x_okV M w) : ∀ v ∈ x_sto2 ls i w, x_okV M v := fun v hv => by
  rcases x_sto2_mem ls i w v hv with q | q | q
  · rw [q]; exact hw
  · exact h v q
  · rw [q]; exact trivial
theorem x_LR.of1 {ls : List xV} {lr' : Array Slot} {n i : Nat} {v : xV} {w : Value} (hw : w = x_cw E v) (h' : lv_has lr' n ((i, w) :: (x_asc E 0 ls).filter (fun q => !(q.1 == i) && !(q.1 + 1 == i && q.2.category == 2)))) : x_LR E (x_sto1 ls i v) lr' n := by
  subst hw
  refine x_LR.of h' fun j w h1 h2 => ?_
  rcases x_sto1_at ls i v j w h1 h2 with ⟨q1, q2⟩ | ⟨q1, q2, q3⟩
  · subst q1; subst q2; exact List.mem_cons_self
  · refine List.mem_cons_of_mem _ (List.mem_filter.mpr ⟨(x_asc_mem E ls 0 _).mpr ⟨j, w, q2, h2, by simp⟩, ?_⟩)
    simp only [x_cat]
    have : ¬ (j + 1 = i ∧ w.1 = 1) := q3
    by_cases hw : w.1 = 1
    · simp [hw] at this ⊢; exact ⟨q1, this⟩
    · simp [hw]; exact q1
theorem x_LR.of2 {ls : List xV} {lr' : Array Slot} {n i : Nat} {v : xV} {w : Value} (hw : w = x_cw E v) (h' : lv_has lr' n ((i, w) :: (x_asc E 0 ls).filter (fun q => !(q.1 == i) && (!(q.1 == i + 1) && !(q.1 + 1 == i && q.2.category == 2))))) : x_LR E (x_sto2 ls i v) lr' n := by
  subst hw
  refine x_LR.of h' fun j w h1 h2 => ?_
  rcases x_sto2_at ls i v j w h1 h2 with ⟨q1, q2⟩ | ⟨q1, q0, q2, q3⟩
  · subst q1; subst q2; exact List.mem_cons_self
  · refine List.mem_cons_of_mem _ (List.mem_filter.mpr ⟨(x_asc_mem E ls 0 _).mpr ⟨j, w, q2, h2, by simp⟩, ?_⟩)
    simp only [x_cat]
    have : ¬ (j + 1 = i ∧ w.1 = 1) := q3
    by_cases hw : w.1 = 1
    · simp [hw] at this ⊢; exact ⟨q1, q0, this⟩
    · simp [hw]; exact ⟨q1, q0⟩
theorem i_istore_n {i : Fin 4} {a : Int} (n : Nat) (hd : y.2.2.2.2[n]? = some (pc, .istore_n i, 1)) (hi : (i : Nat) < y.2.2.1) (hs' : x_sto1 ls (i : Nat) (0, a) = ls') (k : x_Ev l E z y (pc + 1) ls' st M Q) : x_Ev l E z y pc ls ((0, a) :: st) M Q := by
  intro p e R s m args below meth c H locs cells slots lr hM hC hf hl hc hs hN hlo hL hol hos
  subst hs'
  exact lv_istore_n hC.1 hC.2.1 (x_dec hM hd) rfl hL hi rfl fun lr' h' => k p e R s m args below meth c H locs cells slots lr' hM hC hf hl hc hs hN hlo (x_LR.of1 (v := (0, a)) rfl h') (x_sto1_ok hol (x_ok1 hos).1) (x_ok1 hos).2
theorem i_istore {i : Nat} {a : Int} (n : Nat) (hd : y.2.2.2.2[n]? = some (pc, .istore i, 2)) (hi : i < y.2.2.1) (hs' : x_sto1 ls i (0, a) = ls') (k : x_Ev l E z y (pc + 2) ls' st M Q) : x_Ev l E z y pc ls ((0, a) :: st) M Q := by
  intro p e R s m args below meth c H locs cells slots lr hM hC hf hl hc hs hN hlo hL hol hos
  subst hs'
  exact lv_istore hC.1 hC.2.1 (x_dec hM hd) hL hi rfl fun lr' h' => k p e R s m args below meth c H locs cells slots lr' hM hC hf hl hc hs hN hlo (x_LR.of1 (v := (0, a)) rfl h') (x_sto1_ok hol (x_ok1 hos).1) (x_ok1 hos).2
theorem i_lstore_n {i : Fin 4} {a : Int} (n : Nat) (hd : y.2.2.2.2[n]? = some (pc, .lstore_n i, 1)) (hi : (i : Nat) + 1 < y.2.2.1) (hs' : x_sto2 ls (i : Nat) (1, a) = ls') (k : x_Ev l E z y (pc + 1) ls' st M Q) : x_Ev l E z y pc ls ((1, a) :: st) M Q := by
  intro p e R s m args below meth c H locs cells slots lr hM hC hf hl hc hs hN hlo hL hol hos
  subst hs'
  exact lv_lstore_n hC.1 hC.2.1 (x_dec hM hd) rfl hL hi rfl fun lr' h' => k p e R s m args below meth c H locs cells slots lr' hM hC hf hl hc hs hN hlo (x_LR.of2 (v := (1, a)) rfl h') (x_sto2_ok hol (x_ok1 hos).1) (x_ok1 hos).2
theorem i_lstore {i : Nat} {a : Int} (n : Nat) (hd : y.2.2.2.2[n]? = some (pc, .lstore i, 2)) (hi : i + 1 < y.2.2.1) (hs' : x_sto2 ls i (1, a) = ls') (k : x_Ev l E z y (pc + 2) ls' st M Q) : x_Ev l E z y pc ls ((1, a) :: st) M Q := by
  intro p e R s m args below meth c H locs cells slots lr hM hC hf hl hc hs hN hlo hL hol hos
  subst hs'
  exact lv_lstore hC.1 hC.2.1 (x_dec hM hd) hL hi rfl fun lr' h' => k p e R s m args below meth c H locs cells slots lr' hM hC hf hl hc hs hN hlo (x_LR.of2 (v := (1, a)) rfl h') (x_sto2_ok hol (x_ok1 hos).1) (x_ok1 hos).2
theorem i_astore_n {i : Fin 4} {t : Nat} {a : Int} (n : Nat) (hd : y.2.2.2.2[n]? = some (pc, .astore_n i, 1)) (ht : 2 ≤ t) (hi : (i : Nat) < y.2.2.1) (hs' : x_sto1 ls (i : Nat) (t, a) = ls') (k : x_Ev l E z y (pc + 1) ls' st M Q) : x_Ev l E z y pc ls ((t, a) :: st) M Q := by
  intro p e R s m args below meth c H locs cells slots lr hM hC hf hl hc hs hN hlo hL hol hos
  subst hs'
  rcases x_cwD E t a ht with q | ⟨b, q⟩
  · simp only [List.map, q]
    exact lv_astore_nN hC.1 hC.2.1 (x_dec hM hd) rfl hL hi rfl fun lr' h' => k p e R s m args below meth c H locs cells slots lr' hM hC hf hl hc hs hN hlo (x_LR.of1 (v := (t, a)) q.symm h') (x_sto1_ok hol (x_ok1 hos).1) (x_ok1 hos).2
  · simp only [List.map, q]
    exact lv_astore_n hC.1 hC.2.1 (x_dec hM hd) rfl hL hi rfl fun lr' h' => k p e R s m args below meth c H locs cells slots lr' hM hC hf hl hc hs hN hlo (x_LR.of1 (v := (t, a)) q.symm h') (x_sto1_ok hol (x_ok1 hos).1) (x_ok1 hos).2
theorem i_astore {i : Nat} {t : Nat} {a : Int} (n : Nat) (hd : y.2.2.2.2[n]? = some (pc, .astore i, 2)) (ht : 2 ≤ t) (hi : i < y.2.2.1) (hs' : x_sto1 ls i (t, a) = ls') (k : x_Ev l E z y (pc + 2) ls' st M Q) : x_Ev l E z y pc ls ((t, a) :: st) M Q := by
  intro p e R s m args below meth c H locs cells slots lr hM hC hf hl hc hs hN hlo hL hol hos
  subst hs'
  rcases x_cwD E t a ht with q | ⟨b, q⟩
  · simp only [List.map, q]
    exact lv_astoreN hC.1 hC.2.1 (x_dec hM hd) hL hi rfl fun lr' h' => k p e R s m args below meth c H locs cells slots lr' hM hC hf hl hc hs hN hlo (x_LR.of1 (v := (t, a)) q.symm h') (x_sto1_ok hol (x_ok1 hos).1) (x_ok1 hos).2
  · simp only [List.map, q]
    exact lv_astore hC.1 hC.2.1 (x_dec hM hd) hL hi rfl fun lr' h' => k p e R s m args below meth c H locs cells slots lr' hM hC hf hl hc hs hN hlo (x_LR.of1 (v := (t, a)) q.symm h') (x_sto1_ok hol (x_ok1 hos).1) (x_ok1 hos).2
theorem i_iinc {i : Nat} {d a : Int} (n : Nat) (hd : y.2.2.2.2[n]? = some (pc, .iinc i d, 3)) (hv : ls[i]? = some (0, a)) (hi : i < y.2.2.1) (hs' : x_sto1 ls i (0, x_w (a + d)) = ls') (k : x_Ev l E z y (pc + 3) ls' st M Q) : x_Ev l E z y pc ls st M Q := by
  intro p e R s m args below meth c H locs cells slots lr hM hC hf hl hc hs hN hlo hL hol hos
  subst hs'
  obtain ⟨j, hj⟩ := List.getElem?_of_mem ((x_asc_mem E ls 0 (i, .int (Int32.ofInt a))).mpr ⟨i, (0, a), hv, Nat.ne_of_beq_eq_false rfl, by simp [x_cw0]⟩)
  exact lv_iinc hC.1 hC.2.1 (x_dec hM hd) hL hj rfl hi rfl fun lr' h' => k p e R s m args below meth c H locs cells slots lr' hM hC hf hl hc hs hN hlo (x_LR.of1 (v := (0, x_w (a + d))) (by rw [x_cw0, ← x_addI]) h') (x_sto1_ok hol (x_w_rg _)) hos
theorem x_leL {a b : Int} (ha : x_rg 1 a) (hb : x_rg 1 b) : Int64.ofInt a ≤ Int64.ofInt b ↔ a ≤ b := by rw [Int64.le_iff_toInt_le, x_inL ha, x_inL hb]
theorem i_if_eq {off a : Int} (tgt n : Nat) (hd : y.2.2.2.2[n]? = some (pc, .ifCond .eq off, 3)) (ht : (pc : Int) + off = (tgt : Int)) (kt : a = 0 → x_Ev l E z y tgt ls st M Q) (kf : ¬ a = 0 → x_Ev l E z y (pc + 3) ls st M Q) : x_Ev l E z y pc ls ((0, a) :: st) M Q := by
  intro p e R s m args below meth c H locs cells slots lr hM hC hf hl hc hs hN hlo hL hol hos
  obtain ⟨oa, os⟩ := x_ok1 hos
  exact lv_if_eq hC.1 hC.2.1 (x_dec hM hd) ht (fun q => kt ((x_eqI oa x_rg0).mp q) p e R s m args below meth c H locs cells slots lr hM hC hf hl hc hs hN hlo hL hol os) (fun q => kf (fun w => q ((x_eqI oa x_rg0).mpr w)) p e R s m args below meth c H locs cells slots lr hM hC hf hl hc hs hN hlo hL hol os)
theorem i_icmp_eq {off a b : Int} (tgt n : Nat) (hd : y.2.2.2.2[n]? = some (pc, .if_icmp .eq off, 3)) (ht : (pc : Int) + off = (tgt : Int)) (kt : a = b → x_Ev l E z y tgt ls st M Q) (kf : ¬ a = b → x_Ev l E z y (pc + 3) ls st M Q) : x_Ev l E z y pc ls ((0, b) :: (0, a) :: st) M Q := by
  intro p e R s m args below meth c H locs cells slots lr hM hC hf hl hc hs hN hlo hL hol hos
  obtain ⟨ob, oa, os⟩ := x_ok2 hos
  exact lv_icmp_eq hC.1 hC.2.1 (x_dec hM hd) ht (fun q => kt ((x_eqI oa ob).mp q) p e R s m args below meth c H locs cells slots lr hM hC hf hl hc hs hN hlo hL hol os) (fun q => kf (fun w => q ((x_eqI oa ob).mpr w)) p e R s m args below meth c H locs cells slots lr hM hC hf hl hc hs hN hlo hL hol os)
theorem i_lcmp_eq {off a b : Int} (tgt n : Nat) (hd0 : y.2.2.2.2[n]? = some (pc, .lcmp, 1)) (hd : y.2.2.2.2[n + 1]? = some (pc + 1, .ifCond .eq off, 3)) (ht : ((pc + 1 : Nat) : Int) + off = (tgt : Int)) (kt : a = b → x_Ev l E z y tgt ls st M Q) (kf : ¬ a = b → x_Ev l E z y (pc + 4) ls st M Q) : x_Ev l E z y pc ls ((1, b) :: (1, a) :: st) M Q := by
  intro p e R s m args below meth c H locs cells slots lr hM hC hf hl hc hs hN hlo hL hol hos
  obtain ⟨ob, oa, os⟩ := x_ok2 hos
  exact W.lcmp hC.1 hC.2.1 (x_dec hM hd0) (lv_if_eq hC.1 hC.2.1 (x_dec hM hd) ht (fun q => kt (((lg_cmp_eq _ _).trans (x_eqL oa ob)).mp q) p e R s m args below meth c H locs cells slots lr hM hC hf hl hc hs hN hlo hL hol os) (fun q => kf (fun w => q (((lg_cmp_eq _ _).trans (x_eqL oa ob)).mpr w)) p e R s m args below meth c H locs cells slots lr hM hC hf hl hc hs hN hlo hL hol os))
theorem i_if_ne {off a : Int} (tgt n : Nat) (hd : y.2.2.2.2[n]? = some (pc, .ifCond .ne off, 3)) (ht : (pc : Int) + off = (tgt : Int)) (kt : ¬ a = 0 → x_Ev l E z y tgt ls st M Q) (kf : a = 0 → x_Ev l E z y (pc + 3) ls st M Q) : x_Ev l E z y pc ls ((0, a) :: st) M Q := by
  intro p e R s m args below meth c H locs cells slots lr hM hC hf hl hc hs hN hlo hL hol hos
  obtain ⟨oa, os⟩ := x_ok1 hos
  exact lv_if_ne hC.1 hC.2.1 (x_dec hM hd) ht (fun q => kt (fun w => q ((x_eqI oa x_rg0).mpr w)) p e R s m args below meth c H locs cells slots lr hM hC hf hl hc hs hN hlo hL hol os) (fun q => kf ((x_eqI oa x_rg0).mp q) p e R s m args below meth c H locs cells slots lr hM hC hf hl hc hs hN hlo hL hol os)
theorem i_icmp_ne {off a b : Int} (tgt n : Nat) (hd : y.2.2.2.2[n]? = some (pc, .if_icmp .ne off, 3)) (ht : (pc : Int) + off = (tgt : Int)) (kt : ¬ a = b → x_Ev l E z y tgt ls st M Q) (kf : a = b → x_Ev l E z y (pc + 3) ls st M Q) : x_Ev l E z y pc ls ((0, b) :: (0, a) :: st) M Q := by
  intro p e R s m args below meth c H locs cells slots lr hM hC hf hl hc hs hN hlo hL hol hos
  obtain ⟨ob, oa, os⟩ := x_ok2 hos
  exact lv_icmp_ne hC.1 hC.2.1 (x_dec hM hd) ht (fun q => kt (fun w => q ((x_eqI oa ob).mpr w)) p e R s m args below meth c H locs cells slots lr hM hC hf hl hc hs hN hlo hL hol os) (fun q => kf ((x_eqI oa ob).mp q) p e R s m args below meth c H locs cells slots lr hM hC hf hl hc hs hN hlo hL hol os)
theorem i_lcmp_ne {off a b : Int} (tgt n : Nat) (hd0 : y.2.2.2.2[n]? = some (pc, .lcmp, 1)) (hd : y.2.2.2.2[n + 1]? = some (pc + 1, .ifCond .ne off, 3)) (ht : ((pc + 1 : Nat) : Int) + off = (tgt : Int)) (kt : ¬ a = b → x_Ev l E z y tgt ls st M Q) (kf : a = b → x_Ev l E z y (pc + 4) ls st M Q) : x_Ev l E z y pc ls ((1, b) :: (1, a) :: st) M Q := by
  intro p e R s m args below meth c H locs cells slots lr hM hC hf hl hc hs hN hlo hL hol hos
  obtain ⟨ob, oa, os⟩ := x_ok2 hos
  exact W.lcmp hC.1 hC.2.1 (x_dec hM hd0) (lv_if_ne hC.1 hC.2.1 (x_dec hM hd) ht (fun q => kt (fun w => q (((lg_cmp_eq _ _).trans (x_eqL oa ob)).mpr w)) p e R s m args below meth c H locs cells slots lr hM hC hf hl hc hs hN hlo hL hol os) (fun q => kf (((lg_cmp_eq _ _).trans (x_eqL oa ob)).mp q) p e R s m args below meth c H locs cells slots lr hM hC hf hl hc hs hN hlo hL hol os))
theorem i_if_lt {off a : Int} (tgt n : Nat) (hd : y.2.2.2.2[n]? = some (pc, .ifCond .lt off, 3)) (ht : (pc : Int) + off = (tgt : Int)) (kt : a < 0 → x_Ev l E z y tgt ls st M Q) (kf : ¬ a < 0 → x_Ev l E z y (pc + 3) ls st M Q) : x_Ev l E z y pc ls ((0, a) :: st) M Q := by
  intro p e R s m args below meth c H locs cells slots lr hM hC hf hl hc hs hN hlo hL hol hos
  obtain ⟨oa, os⟩ := x_ok1 hos
  exact lv_if_lt hC.1 hC.2.1 (x_dec hM hd) ht (fun q => kt ((x_ltI oa x_rg0).mp q) p e R s m args below meth c H locs cells slots lr hM hC hf hl hc hs hN hlo hL hol os) (fun q => kf (fun w => q ((x_ltI oa x_rg0).mpr w)) p e R s m args below meth c H locs cells slots lr hM hC hf hl hc hs hN hlo hL hol os)
theorem i_icmp_lt {off a b : Int} (tgt n : Nat) (hd : y.2.2.2.2[n]? = some (pc, .if_icmp .lt off, 3)) (ht : (pc : Int) + off = (tgt : Int)) (kt : a < b → x_Ev l E z y tgt ls st M Q) (kf : ¬ a < b → x_Ev l E z y (pc + 3) ls st M Q) : x_Ev l E z y pc ls ((0, b) :: (0, a) :: st) M Q := by
  intro p e R s m args below meth c H locs cells slots lr hM hC hf hl hc hs hN hlo hL hol hos
  obtain ⟨ob, oa, os⟩ := x_ok2 hos
  exact lv_icmp_lt hC.1 hC.2.1 (x_dec hM hd) ht (fun q => kt ((x_ltI oa ob).mp q) p e R s m args below meth c H locs cells slots lr hM hC hf hl hc hs hN hlo hL hol os) (fun q => kf (fun w => q ((x_ltI oa ob).mpr w)) p e R s m args below meth c H locs cells slots lr hM hC hf hl hc hs hN hlo hL hol os)
theorem i_lcmp_lt {off a b : Int} (tgt n : Nat) (hd0 : y.2.2.2.2[n]? = some (pc, .lcmp, 1)) (hd : y.2.2.2.2[n + 1]? = some (pc + 1, .ifCond .lt off, 3)) (ht : ((pc + 1 : Nat) : Int) + off = (tgt : Int)) (kt : a < b → x_Ev l E z y tgt ls st M Q) (kf : ¬ a < b → x_Ev l E z y (pc + 4) ls st M Q) : x_Ev l E z y pc ls ((1, b) :: (1, a) :: st) M Q := by
  intro p e R s m args below meth c H locs cells slots lr hM hC hf hl hc hs hN hlo hL hol hos
  obtain ⟨ob, oa, os⟩ := x_ok2 hos
  exact W.lcmp hC.1 hC.2.1 (x_dec hM hd0) (lv_if_lt hC.1 hC.2.1 (x_dec hM hd) ht (fun q => kt (((lg_cmp_lt _ _).trans (x_ltL oa ob)).mp q) p e R s m args below meth c H locs cells slots lr hM hC hf hl hc hs hN hlo hL hol os) (fun q => kf (fun w => q (((lg_cmp_lt _ _).trans (x_ltL oa ob)).mpr w)) p e R s m args below meth c H locs cells slots lr hM hC hf hl hc hs hN hlo hL hol os))
theorem i_if_ge {off a : Int} (tgt n : Nat) (hd : y.2.2.2.2[n]? = some (pc, .ifCond .ge off, 3)) (ht : (pc : Int) + off = (tgt : Int)) (kt : 0 ≤ a → x_Ev l E z y tgt ls st M Q) (kf : ¬ 0 ≤ a → x_Ev l E z y (pc + 3) ls st M Q) : x_Ev l E z y pc ls ((0, a) :: st) M Q := by
  intro p e R s m args below meth c H locs cells slots lr hM hC hf hl hc hs hN hlo hL hol hos
  obtain ⟨oa, os⟩ := x_ok1 hos
  exact lv_if_ge hC.1 hC.2.1 (x_dec hM hd) ht (fun q => kt ((x_leI x_rg0 oa).mp q) p e R s m args below meth c H locs cells slots lr hM hC hf hl hc hs hN hlo hL hol os) (fun q => kf (fun w => q ((x_leI x_rg0 oa).mpr w)) p e R s m args below meth c H locs cells slots lr hM hC hf hl hc hs hN hlo hL hol os)
theorem i_icmp_ge {off a b : Int} (tgt n : Nat) (hd : y.2.2.2.2[n]? = some (pc, .if_icmp .ge off, 3)) (ht : (pc : Int) + off = (tgt : Int)) (kt : b ≤ a → x_Ev l E z y tgt ls st M Q) (kf : ¬ b ≤ a → x_Ev l E z y (pc + 3) ls st M Q) : x_Ev l E z y pc ls ((0, b) :: (0, a) :: st) M Q := by
  intro p e R s m args below meth c H locs cells slots lr hM hC hf hl hc hs hN hlo hL hol hos
  obtain ⟨ob, oa, os⟩ := x_ok2 hos
  exact lv_icmp_ge hC.1 hC.2.1 (x_dec hM hd) ht (fun q => kt ((x_leI ob oa).mp q) p e R s m args below meth c H locs cells slots lr hM hC hf hl hc hs hN hlo hL hol os) (fun q => kf (fun w => q ((x_leI ob oa).mpr w)) p e R s m args below meth c H locs cells slots lr hM hC hf hl hc hs hN hlo hL hol os)
theorem i_lcmp_ge {off a b : Int} (tgt n : Nat) (hd0 : y.2.2.2.2[n]? = some (pc, .lcmp, 1)) (hd : y.2.2.2.2[n + 1]? = some (pc + 1, .ifCond .ge off, 3)) (ht : ((pc + 1 : Nat) : Int) + off = (tgt : Int)) (kt : b ≤ a → x_Ev l E z y tgt ls st M Q) (kf : ¬ b ≤ a → x_Ev l E z y (pc + 4) ls st M Q) : x_Ev l E z y pc ls ((1, b) :: (1, a) :: st) M Q := by
  intro p e R s m args below meth c H locs cells slots lr hM hC hf hl hc hs hN hlo hL hol hos
  obtain ⟨ob, oa, os⟩ := x_ok2 hos
  exact W.lcmp hC.1 hC.2.1 (x_dec hM hd0) (lv_if_ge hC.1 hC.2.1 (x_dec hM hd) ht (fun q => kt (((lg_cmp_ge _ _).trans (x_leL ob oa)).mp q) p e R s m args below meth c H locs cells slots lr hM hC hf hl hc hs hN hlo hL hol os) (fun q => kf (fun w => q (((lg_cmp_ge _ _).trans (x_leL ob oa)).mpr w)) p e R s m args below meth c H locs cells slots lr hM hC hf hl hc hs hN hlo hL hol os))
theorem i_if_gt {off a : Int} (tgt n : Nat) (hd : y.2.2.2.2[n]? = some (pc, .ifCond .gt off, 3)) (ht : (pc : Int) + off = (tgt : Int)) (kt : 0 < a → x_Ev l E z y tgt ls st M Q) (kf : ¬ 0 < a → x_Ev l E z y (pc + 3) ls st M Q) : x_Ev l E z y pc ls ((0, a) :: st) M Q := by
  intro p e R s m args below meth c H locs cells slots lr hM hC hf hl hc hs hN hlo hL hol hos
  obtain ⟨oa, os⟩ := x_ok1 hos
  exact lv_if_gt hC.1 hC.2.1 (x_dec hM hd) ht (fun q => kt ((x_ltI x_rg0 oa).mp q) p e R s m args below meth c H locs cells slots lr hM hC hf hl hc hs hN hlo hL hol os) (fun q => kf (fun w => q ((x_ltI x_rg0 oa).mpr w)) p e R s m args below meth c H locs cells slots lr hM hC hf hl hc hs hN hlo hL hol os)
theorem i_icmp_gt {off a b : Int} (tgt n : Nat) (hd : y.2.2.2.2[n]? = some (pc, .if_icmp .gt off, 3)) (ht : (pc : Int) + off = (tgt : Int)) (kt : b < a → x_Ev l E z y tgt ls st M Q) (kf : ¬ b < a → x_Ev l E z y (pc + 3) ls st M Q) : x_Ev l E z y pc ls ((0, b) :: (0, a) :: st) M Q := by
  intro p e R s m args below meth c H locs cells slots lr hM hC hf hl hc hs hN hlo hL hol hos
  obtain ⟨ob, oa, os⟩ := x_ok2 hos
  exact lv_icmp_gt hC.1 hC.2.1 (x_dec hM hd) ht (fun q => kt ((x_ltI ob oa).mp q) p e R s m args below meth c H locs cells slots lr hM hC hf hl hc hs hN hlo hL hol os) (fun q => kf (fun w => q ((x_ltI ob oa).mpr w)) p e R s m args below meth c H locs cells slots lr hM hC hf hl hc hs hN hlo hL hol os)
theorem i_lcmp_gt {off a b : Int} (tgt n : Nat) (hd0 : y.2.2.2.2[n]? = some (pc, .lcmp, 1)) (hd : y.2.2.2.2[n + 1]? = some (pc + 1, .ifCond .gt off, 3)) (ht : ((pc + 1 : Nat) : Int) + off = (tgt : Int)) (kt : b < a → x_Ev l E z y tgt ls st M Q) (kf : ¬ b < a → x_Ev l E z y (pc + 4) ls st M Q) : x_Ev l E z y pc ls ((1, b) :: (1, a) :: st) M Q := by
  intro p e R s m args below meth c H locs cells slots lr hM hC hf hl hc hs hN hlo hL hol hos
  obtain ⟨ob, oa, os⟩ := x_ok2 hos
  exact W.lcmp hC.1 hC.2.1 (x_dec hM hd0) (lv_if_gt hC.1 hC.2.1 (x_dec hM hd) ht (fun q => kt (((lg_cmp_gt _ _).trans (x_ltL ob oa)).mp q) p e R s m args below meth c H locs cells slots lr hM hC hf hl hc hs hN hlo hL hol os) (fun q => kf (fun w => q (((lg_cmp_gt _ _).trans (x_ltL ob oa)).mpr w)) p e R s m args below meth c H locs cells slots lr hM hC hf hl hc hs hN hlo hL hol os))
theorem i_if_le {off a : Int} (tgt n : Nat) (hd : y.2.2.2.2[n]? = some (pc, .ifCond .le off, 3)) (ht : (pc : Int) + off = (tgt : Int)) (kt : a ≤ 0 → x_Ev l E z y tgt ls st M Q) (kf : ¬ a ≤ 0 → x_Ev l E z y (pc + 3) ls st M Q) : x_Ev l E z y pc ls ((0, a) :: st) M Q := by
  intro p e R s m args below meth c H locs cells slots lr hM hC hf hl hc hs hN hlo hL hol hos
  obtain ⟨oa, os⟩ := x_ok1 hos
  exact lv_if_le hC.1 hC.2.1 (x_dec hM hd) ht (fun q => kt ((x_leI oa x_rg0).mp q) p e R s m args below meth c H locs cells slots lr hM hC hf hl hc hs hN hlo hL hol os) (fun q => kf (fun w => q ((x_leI oa x_rg0).mpr w)) p e R s m args below meth c H locs cells slots lr hM hC hf hl hc hs hN hlo hL hol os)
theorem i_icmp_le {off a b : Int} (tgt n : Nat) (hd : y.2.2.2.2[n]? = some (pc, .if_icmp .le off, 3)) (ht : (pc : Int) + off = (tgt : Int)) (kt : a ≤ b → x_Ev l E z y tgt ls st M Q) (kf : ¬ a ≤ b → x_Ev l E z y (pc + 3) ls st M Q) : x_Ev l E z y pc ls ((0, b) :: (0, a) :: st) M Q := by
  intro p e R s m args below meth c H locs cells slots lr hM hC hf hl hc hs hN hlo hL hol hos
  obtain ⟨ob, oa, os⟩ := x_ok2 hos
  exact lv_icmp_le hC.1 hC.2.1 (x_dec hM hd) ht (fun q => kt ((x_leI oa ob).mp q) p e R s m args below meth c H locs cells slots lr hM hC hf hl hc hs hN hlo hL hol os) (fun q => kf (fun w => q ((x_leI oa ob).mpr w)) p e R s m args below meth c H locs cells slots lr hM hC hf hl hc hs hN hlo hL hol os)
theorem i_lcmp_le {off a b : Int} (tgt n : Nat) (hd0 : y.2.2.2.2[n]? = some (pc, .lcmp, 1)) (hd : y.2.2.2.2[n + 1]? = some (pc + 1, .ifCond .le off, 3)) (ht : ((pc + 1 : Nat) : Int) + off = (tgt : Int)) (kt : a ≤ b → x_Ev l E z y tgt ls st M Q) (kf : ¬ a ≤ b → x_Ev l E z y (pc + 4) ls st M Q) : x_Ev l E z y pc ls ((1, b) :: (1, a) :: st) M Q := by
  intro p e R s m args below meth c H locs cells slots lr hM hC hf hl hc hs hN hlo hL hol hos
  obtain ⟨ob, oa, os⟩ := x_ok2 hos
  exact W.lcmp hC.1 hC.2.1 (x_dec hM hd0) (lv_if_le hC.1 hC.2.1 (x_dec hM hd) ht (fun q => kt (((lg_cmp_le _ _).trans (x_leL oa ob)).mp q) p e R s m args below meth c H locs cells slots lr hM hC hf hl hc hs hN hlo hL hol os) (fun q => kf (fun w => q (((lg_cmp_le _ _).trans (x_leL oa ob)).mpr w)) p e R s m args below meth c H locs cells slots lr hM hC hf hl hc hs hN hlo hL hol os))
theorem i_ifnull {off a : Int} {t : Nat} (tgt n : Nat) (hd : y.2.2.2.2[n]? = some (pc, .ifnull off, 3)) (h2 : 2 ≤ t) (ht : (pc : Int) + off = (tgt : Int)) (kt : a < 0 → x_Ev l E z y tgt ls st M Q) (kf : ¬ a < 0 → x_Ev l E z y (pc + 3) ls st M Q) : x_Ev l E z y pc ls ((t, a) :: st) M Q := by
  intro p e R s m args below meth c H locs cells slots lr hM hC hf hl hc hs hN hlo hL hol hos
  obtain ⟨oa, os⟩ := x_ok1 hos
  obtain ⟨t', rfl⟩ : ∃ t', t = t' + 2 := ⟨t - 2, by omega⟩
  by_cases q : a < 0
  · simp only [List.map, x_cwN E t' a q]
    exact lv_ifnullN hC.1 hC.2.1 (x_dec hM hd) ht (kt q p e R s m args below meth c H locs cells slots lr hM hC hf hl hc hs hN hlo hL hol os)
  · simp only [List.map, x_cwR E t' a q]
    exact lv_ifnull hC.1 hC.2.1 (x_dec hM hd) (kf q p e R s m args below meth c H locs cells slots lr hM hC hf hl hc hs hN hlo hL hol os)
theorem i_ifnonnull {off a : Int} {t : Nat} (tgt n : Nat) (hd : y.2.2.2.2[n]? = some (pc, .ifnonnull off, 3)) (h2 : 2 ≤ t) (ht : (pc : Int) + off = (tgt : Int)) (kt : ¬ a < 0 → x_Ev l E z y tgt ls st M Q) (kf : a < 0 → x_Ev l E z y (pc + 3) ls st M Q) : x_Ev l E z y pc ls ((t, a) :: st) M Q := by
  intro p e R s m args below meth c H locs cells slots lr hM hC hf hl hc hs hN hlo hL hol hos
  obtain ⟨oa, os⟩ := x_ok1 hos
  obtain ⟨t', rfl⟩ : ∃ t', t = t' + 2 := ⟨t - 2, by omega⟩
  by_cases q : a < 0
  · simp only [List.map, x_cwN E t' a q]
    exact lv_ifnonnullN hC.1 hC.2.1 (x_dec hM hd) (kf q p e R s m args below meth c H locs cells slots lr hM hC hf hl hc hs hN hlo hL hol os)
  · simp only [List.map, x_cwR E t' a q]
    exact lv_ifnonnull hC.1 hC.2.1 (x_dec hM hd) ht (kt q p e R s m args below meth c H locs cells slots lr hM hC hf hl hc hs hN hlo hL hol os)
theorem i_switch {dflt lo hi a : Int} {offs : Array Int} {len : Nat} (dt n : Nat) (hd : y.2.2.2.2[n]? = some (pc, .tableswitch dflt lo hi offs, len)) (hdt : (pc : Int) + dflt = (dt : Int)) (kd : (a < lo ∨ hi < a) → x_Ev l E z y dt ls st M Q)
    (kt : ¬ a < lo → ¬ hi < a → ∃ (off : Int) (tgt : Nat), offs[(a - lo).toNat]? = some off ∧ (pc : Int) + off = (tgt : Int) ∧ x_Ev l E z y tgt ls st M Q) : x_Ev l E z y pc ls ((0, a) :: st) M Q := by
  intro p e R s m args below meth c H locs cells slots lr hM hC hf hl hc hs hN hlo hL hol hos
  obtain ⟨oa, os⟩ := x_ok1 hos
  by_cases q : a < lo ∨ hi < a
  · exact lv_tableOut hC.1 hC.2.1 (x_dec hM hd) (by rw [x_inI oa]; exact q) hdt (kd q p e R s m args below meth c H locs cells slots lr hM hC hf hl hc hs hN hlo hL hol os)
  · obtain ⟨off, tgt, h1, h2, h3⟩ := kt (fun w => q (Or.inl w)) (fun w => q (Or.inr w))
    exact lv_tableIn hC.1 hC.2.1 (x_dec hM hd) (by rw [x_inI oa]; exact fun w => q (Or.inl w)) (by rw [x_inI oa]; exact fun w => q (Or.inr w)) (by rw [x_inI oa]; exact h1) h2 (h3 p e R s m args below meth c H locs cells slots lr hM hC hf hl hc hs hN hlo hL hol os)
theorem i_ireturn {a : Int} (n : Nat) (hd : y.2.2.2.2[n]? = some (pc, .ireturn, 1)) (hr : y.2.2.2.1 = some .int) (k : Q (some (0, a)) M) : x_Ev l E z y pc ls [(0, a)] M Q := by
  intro p e R s m args below meth c H locs cells slots lr hM hC hf hl hc hs hN hlo hL hol hos
  have hlocks := hC.2.2.2.2.1
  refine W.widen (k := cells + z.2.1) (n := slots + z.2.2) (by omega) (by omega) ?_
  exact W.iret hC.1 hC.2.1 (by rw [hC.2.2.2.1]; exact hr) (fun t ht hw => ⟨some (0, a), M, rfl, by rw [ht]; exact hN, hC.2.2.2.2.2.2.2.2.moved hw, fun v hv => by cases hv; exact (x_ok1 hos).1, x_ext.rf M, k⟩) hlo (x_dec hM hd) hlocks
theorem x_nz {a : Int} (h : a = 0 ∨ a = 1) : narrow .boolean (.int (Int32.ofInt a)) = .int (Int32.ofInt a) := by
  rcases h with rfl | rfl <;> rfl
theorem i_zreturn {a : Int} (n : Nat) (hd : y.2.2.2.2[n]? = some (pc, .ireturn, 1)) (hr : y.2.2.2.1 = some .boolean) (h01 : a = 0 ∨ a = 1) (k : Q (some (0, a)) M) : x_Ev l E z y pc ls [(0, a)] M Q := by
  intro p e R s m args below meth c H locs cells slots lr hM hC hf hl hc hs hN hlo hL hol hos
  have hlocks := hC.2.2.2.2.1
  refine W.widen (k := cells + z.2.1) (n := slots + z.2.2) (by omega) (by omega) ?_
  exact W.zret hC.1 hC.2.1 (by rw [hC.2.2.2.1]; exact hr) (x_nz h01) (fun t ht hw => ⟨some (0, a), M, rfl, by rw [ht]; exact hN, hC.2.2.2.2.2.2.2.2.moved hw, fun v hv => by cases hv; exact (x_ok1 hos).1, x_ext.rf M, k⟩) hlo (x_dec hM hd) hlocks
theorem i_lreturn {a : Int} (n : Nat) (hd : y.2.2.2.2[n]? = some (pc, .lreturn, 1)) (hr : y.2.2.2.1 = some .long) (k : Q (some (1, a)) M) : x_Ev l E z y pc ls [(1, a)] M Q := by
  intro p e R s m args below meth c H locs cells slots lr hM hC hf hl hc hs hN hlo hL hol hos
  have hlocks := hC.2.2.2.2.1
  refine W.widen (k := cells + z.2.1) (n := slots + z.2.2) (by omega) (by omega) ?_
  exact W.lret hC.1 hC.2.1 (by rw [hC.2.2.2.1]; exact hr) (fun t ht hw => ⟨some (1, a), M, rfl, by rw [ht]; exact hN, hC.2.2.2.2.2.2.2.2.moved hw, fun v hv => by cases hv; exact (x_ok1 hos).1, x_ext.rf M, k⟩) hlo (x_dec hM hd) hlocks
theorem i_return (n : Nat) (hd : y.2.2.2.2[n]? = some (pc, .return_, 1)) (hr : y.2.2.2.1 = none) (k : Q none M) : x_Ev l E z y pc ls [] M Q := by
  intro p e R s m args below meth c H locs cells slots lr hM hC hf hl hc hs hN hlo hL hol hos
  have hlocks := hC.2.2.2.2.1
  refine W.widen (k := cells + z.2.1) (n := slots + z.2.2) (by omega) (by omega) ?_
  exact W.vret hC.1 hC.2.1 (by rw [hC.2.2.2.1]; exact hr) (fun t ht hw => ⟨none, M, rfl, by rw [ht]; exact hN, hC.2.2.2.2.2.2.2.2.moved hw, fun v hv => (by cases hv), x_ext.rf M, k⟩) hlo (x_dec hM hd) hlocks
end XS
