/-! New cells: arrays that a method makes for itself -/
def x_new (M : xM) (t : Int) : xM := fun a k => if a = -1 ∧ k = 0 then M (-1) 0 + 1 else if a = -2 ∧ k = M (-1) 0 then t else if a = M (-1) 0 then 0 else M a k
section XNW
variable {l : Launch} {E : xE} {z : Nat × Nat × Nat} {y : xMT} {pc : Nat} {ls st : List xV} {M : xM} {Q : Option xV → xM → Prop}
theorem x_new_tp (h : 593 ≤ x_tp M) (t : Int) : x_tp (x_new M t) = x_tp M + 1 := by
  unfold x_tp x_new at *
  rw [if_pos ⟨rfl, rfl⟩]
  omega
theorem x_new_tag (h : 593 ≤ x_tp M) (t : Int) (b : Nat) (hb : b < x_tp M) : x_tag (x_new M t) b = x_tag M b := by
  unfold x_tp at *
  unfold x_tag x_new
  split
  · rfl
  · rw [if_neg (by omega), if_neg (by omega), if_neg (by omega)]
theorem x_new_tagN (h : 593 ≤ x_tp M) (t : Nat) : x_tag (x_new M t) (x_tp M) = t := by
  unfold x_tp at *
  unfold x_tag x_new
  rw [if_neg (by omega), if_neg (by omega), if_pos (by omega)]
  omega
theorem x_new_at (h : 593 ≤ x_tp M) (t : Int) (a k : Int) (ha : 0 ≤ a) (hb : a ≠ x_tp M) : x_new M t a k = M a k := by
  unfold x_tp at *
  unfold x_new
  rw [if_neg (by omega), if_neg (by omega), if_neg (by omega)]
theorem x_new_0 (h : 593 ≤ x_tp M) (t k : Int) : x_new M t (x_tp M) k = 0 := by
  unfold x_tp at *
  unfold x_new
  rw [if_neg (by omega), if_neg (by omega), if_pos (by omega)]
theorem x_new_ext (h : 593 ≤ x_tp M) (t : Int) : x_ext M (x_new M t) := ⟨by rw [x_new_tp h]; omega, fun a ha => x_new_tag h t a ha⟩
theorem x_NR.new {H : Heap} (h : x_NR E H M) (t : Nat) (ht : t = 191 ∨ t = 192) {cell : Cell} (hc : cell = arrV (E.2.2.2.2 (x_gt t)) (x_AT (t - 100)).2.1.toNat (fun j => x_cv E (x_sl (x_AT (t - 100)).1 0 0))) : x_NR E (H.push cell) (x_new M t) := by
  obtain ⟨h1, h2, h3, h4, h5, h6⟩ := h
  have etp := x_new_tp h1 (t : Int)
  have etg := fun b hb => x_new_tag h1 (t : Int) b hb
  have hold : ∀ q, q < H.size → (H.push cell)[q]? = H[q]? := fun q hq => by rw [Array.getElem?_push_lt hq, Array.getElem?_eq_getElem hq]
  have hrow : ∀ x, x_rowok M x → x_rowok (x_new M t) x := fun x hx => by
    rcases hx with q | ⟨q1, q2, q3⟩
    · exact Or.inl q
    · exact Or.inr ⟨q1, by omega, by rw [etg _ q2]; exact q3⟩
  refine ⟨by omega, by rw [Array.size_push, h2, etp]; omega, x_SP.kept h3 fun q hq => hold q (by omega), fun b hb5 hb => ?_, fun b hb9 hb => ?_, fun i hi => ?_, fun i hi => ?_⟩
  · rcases Nat.lt_or_ge b (x_tp M) with q | q
    · refine (h4 b hb5 q).kept (hold _ (by rw [x_adr_own hb5]; omega)) (etg b q) ?_ fun k => x_new_at h1 t b k (by omega) (by omega)
      unfold x_len x_ln
      split
      · rfl
      · split
        · rename_i q1 q2
          have hb9 : 593 ≤ b := by
            rcases Nat.lt_or_ge b 593 with z | z
            · have := (x_clo2 b z hb5 (by rw [x_tag_lt z] at q1; exact q1)).1
              rw [x_tag_lt z] at q2; omega
            · exact z
          rw [x_new_at h1 t _ _ (by omega) (by omega)]
        · rfl
    · have eb : b = x_tp M := by omega
      subst eb
      have e1 : x_tag (x_new M t) (x_tp M) = t := x_new_tagN h1 t
      unfold x_cell
      rw [e1, if_neg (by omega)]
      have el : x_len (x_new M t) t (x_tp M) = (x_AT (t - 100)).2.1.toNat := by
        unfold x_len x_ln; rw [if_neg (by omega), if_neg (by omega)]
      have ek : (x_AT (t - 100)).1 = 0 ∨ (x_AT (t - 100)).1 = 1 := by rcases ht with rfl | rfl <;> decide
      rw [el]
      refine ⟨?_, fun k hk => ?_⟩
      · unfold x_CLa
        have e2 : x_adr E (x_tp M) = H.size := by rw [x_adr_own hb5, h2]
        rw [e2, Array.getElem?_push_size, hc]
        congr 2
        funext j
        rw [x_fnA _ (by omega), x_new_0 h1]
        rcases ek with q | q <;> (rw [q]; rfl)
      · rw [x_new_0 h1]
        unfold x_knd
        rw [if_neg (by omega)]
        rcases ek with q | q <;> (rw [q]; exact ⟨by omega, by omega⟩)
  · rcases Nat.lt_or_ge b (x_tp M) with q | q
    · rcases h5 b hb9 q with w | w | w | w
      · exact Or.inl ⟨by rw [etg b q]; exact w.1, by omega, by rw [etg _ w.2.1]; exact w.2.2⟩
      · exact Or.inr (Or.inl ⟨by rw [etg b q]; exact w.1, w.2.1, by rw [etg _ (by omega)]; exact w.2.2⟩)
      · exact Or.inr (Or.inr (Or.inl (by rw [etg b q]; exact w)))
      · exact Or.inr (Or.inr (Or.inr (by rw [etg b q]; exact w)))
    · have eb : b = x_tp M := by omega
      subst eb
      have e1 : x_tag (x_new M t) (x_tp M) = t := x_new_tagN h1 t
      rcases ht with rfl | rfl
      · exact Or.inr (Or.inr (Or.inl e1))
      · exact Or.inr (Or.inr (Or.inr e1))
  · rw [x_new_at h1 t _ _ (by omega) (by omega)]; exact hrow _ (h6.1 i hi)
  · rw [x_new_at h1 t _ _ (by omega) (by omega)]; exact hrow _ (h6.2 i hi)
theorem i_newa {at_ : ArrayType} {t k : Nat} {z2 : Nat × Nat × Nat} (n : Nat) (hd : y.2.2.2.2[n]? = some (pc, .newarray at_, 2)) (ht : (t = 191 ∧ at_ = .long ∧ k = 5) ∨ (t = 192 ∧ at_ = .int ∧ k = 3)) (hw : Cond.arrayClass (newarray.typeOf at_) ∈ x_tb) (hz : z2.1 = z.1 ∧ z2.2.1 + 1 = z.2.1 ∧ z2.2.2 + k = z.2.2)
    (kk : x_Ev l E z2 y (pc + 2) ls ((t, M (-1) 0) :: st) (x_new M t) Q) : x_Ev l E z y pc ls ((0, (k : Int)) :: st) M Q := by
  intro p e R s m args below meth c H locs cells slots lr hM hC hf hl hcc hss hN hlo hL hol hos
  obtain ⟨ok, os⟩ := x_ok1 hos
  have hx := x_idx (i := (k : Int)) (by omega) (by omega)
  have ek : ((k : Int)).toNat = k := by omega
  rw [ek] at hx
  simp only [List.map, x_cw0]
  refine W.newa hC.1 hC.2.1 (hC.2.2.2.2.2.2.2.1 _ hw) rfl (x_dec hM hd) rfl hx.1 ?_ (by omega) (by rw [hx.2]; omega) fun cA kA comp f1 f2 f3 => ?_
  · rw [hx.2]; rcases ht with ⟨-, rfl, rfl⟩ | ⟨-, rfl, rfl⟩ <;> decide
  · have hK := hC.2.2.2.2.2.2.2.2
    have hN1 : x_NR E (H.push { cls := cA, slots := Array.replicate (Int32.ofInt (k : Int)).toNatClampNeg (defaultValue (newarray.typeOf at_)), vm := .none }) (x_new M t) := by
      refine hN.new t (by omega) ?_
      rw [hx.2, arrV_new]
      rcases ht with ⟨rfl, rfl, rfl⟩ | ⟨rfl, rfl, rfl⟩
      · have hr := (hK.2.1 1 _ rfl).2 (by omega)
        have e1 : cA = E.2.2.2.2 1 := Option.some.inj (f1.symm.trans hr)
        rw [e1]; rfl
      · have hr := (hK.2.1 0 _ rfl).2 (by omega)
        have e1 : cA = E.2.2.2.2 0 := Option.some.inj (f1.symm.trans hr)
        rw [e1]; rfl
    have hx2 := x_new_ext hN.1 (t : Int)
    have htp := hN.1
    have e2 : x_cw E (t, M (-1) 0) = .ref H.size := by
      rw [x_cwr (by omega) (by unfold x_tp at htp; omega)]
      show Value.ref (x_adr E (x_tp M)) = _
      rw [x_adr_own (by omega), hN.2.1]
    have h := kk p e R s m args below meth c _ locs (cells + 1) (slots + k) lr hM hC (by omega) (by rw [hz.1]; exact hl) (by omega) (by omega) hN1 hlo hL (fun v hv => hx2.ok (hol v hv)) (x_okc (x_okR' (by omega) ⟨by unfold x_tp at htp; omega, by show x_tp M < _; rw [x_new_tp htp]; omega, x_new_tagN htp t⟩) (fun v hv => hx2.ok (os v hv)))
    simp only [List.map, e2] at h
    rw [show cells + 1 + z2.2.1 = cells + z.2.1 by omega, show slots + k + z2.2.2 = slots + z.2.2 by omega] at h
    rw [hx.2]
    rw [hx.2] at h
    exact x_Wwr hx2 h
end XNW
set_option maxRecDepth 100000 in
theorem acw_191 : Cond.arrayClass (newarray.typeOf .long) ∈ x_tb := x_tm 275 rfl rfl
set_option maxRecDepth 100000 in
theorem acw_192 : Cond.arrayClass (newarray.typeOf .int) ∈ x_tb := x_tm 217 rfl rfl
