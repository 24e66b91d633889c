/-! new Row: the memory -/
/-- the memory with a new row -/
def x_row (M : xM) (sort n : Int) : xM := fun a k => if a = -1 ∧ k = 0 then M (-1) 0 + 2 else if a = -2 ∧ k = M (-1) 0 then 16 else if a = -2 ∧ k = M (-1) 0 + 1 then 190 else if a = M (-1) 0 then (if k = 0 then sort else if k = 1 then n else 0) else if a = M (-1) 0 + 1 then 0 else M a k
section XR1
variable {l : Launch} {E : xE} {z : Nat × Nat × Nat} {y : xMT} {pc : Nat} {ls st : List xV} {M : xM} {Q : Option xV → xM → Prop} {sort n : Int}
theorem x_row_tp (h : 593 ≤ x_tp M) : x_tp (x_row M sort n) = x_tp M + 2 := by
  unfold x_tp x_row at *
  rw [if_pos ⟨rfl, rfl⟩]
  omega
theorem x_row_tag (h : 593 ≤ x_tp M) (b : Nat) (hb : b < x_tp M) : x_tag (x_row M sort n) b = x_tag M b := by
  unfold x_tp at *
  unfold x_tag x_row
  split
  · rfl
  · rw [if_neg (by omega), if_neg (by omega), if_neg (by omega), if_neg (by omega), if_neg (by omega)]
theorem x_row_t16 (h : 593 ≤ x_tp M) : x_tag (x_row M sort n) (x_tp M) = 16 := by
  unfold x_tp at *
  unfold x_tag x_row
  rw [if_neg (by omega), if_neg (by omega), if_pos (by omega)]
  rfl
theorem x_row_t190 (h : 593 ≤ x_tp M) : x_tag (x_row M sort n) (x_tp M + 1) = 190 := by
  unfold x_tp at *
  unfold x_tag x_row
  rw [if_neg (by omega), if_neg (by omega), if_neg (by omega), if_pos (by omega)]
  rfl
theorem x_row_at (h : 593 ≤ x_tp M) (a k : Int) (ha : 0 ≤ a) (hb : a ≠ x_tp M) (hb1 : a ≠ x_tp M + 1) : x_row M sort n a k = M a k := by
  unfold x_tp at *
  unfold x_row
  rw [if_neg (by omega), if_neg (by omega), if_neg (by omega), if_neg (by omega), if_neg (by omega)]
theorem x_row_r (h : 593 ≤ x_tp M) (k : Int) : x_row M sort n (x_tp M) k = if k = 0 then sort else if k = 1 then n else 0 := by
  unfold x_tp at *
  unfold x_row
  rw [if_neg (by omega), if_neg (by omega), if_neg (by omega), if_pos (by omega)]
theorem x_row_n (h : 593 ≤ x_tp M) (k : Int) : x_row M sort n (x_tp M + 1) k = 0 := by
  unfold x_tp at *
  unfold x_row
  rw [if_neg (by omega), if_neg (by omega), if_neg (by omega), if_neg (by omega), if_pos (by omega)]
theorem x_row_ext (h : 593 ≤ x_tp M) : x_ext M (x_row M sort n) := ⟨by rw [x_row_tp h]; omega, fun a ha => x_row_tag h a ha⟩
theorem x_NR.row {H H1 : Heap} (h : x_NR E H M) (hs : x_rg 0 sort) (hn : 0 ≤ n ∧ n ≤ 40) (hz : H1.size = H.size + 2) (ho : ∀ q, q < H.size → H1[q]? = H[q]?) (c1 : t_OB H.size (E.2.2.1 6) 2 (E.2.2.2.1 6) H1 (fun k => if k = 0 then .int (Int32.ofInt sort) else .ref (H.size + 1))) (c2 : H1[H.size + 1]? = some (arrV (E.2.2.2.2 1) n.toNat (fun _ => .long 0))) : x_NR E H1 (x_row M sort n) := by
  obtain ⟨h1, h2, h3, h4, h5, h6⟩ := h
  have etp := x_row_tp (sort := sort) (n := n) h1
  have etg := fun b hb => x_row_tag (sort := sort) (n := n) h1 b hb
  have hrow : ∀ x, x_rowok M x → x_rowok (x_row M sort n) x := fun x hx => by
    rcases hx with q | ⟨q1, q2, q3⟩
    · exact Or.inl q
    · exact Or.inr ⟨q1, by omega, by rw [etg _ q2]; exact q3⟩
  have e16 : x_tag (x_row M sort n) (x_tp M) = 16 := x_row_t16 h1
  have e190 : x_tag (x_row M sort n) (x_tp M + 1) = 190 := x_row_t190 h1
  refine ⟨by omega, by rw [hz, h2, etp]; omega, x_SP.kept h3 fun q hq => ho q (by omega), fun b hb5 hb => ?_, fun b hb9 hb => ?_, fun i hi => ?_, fun i hi => ?_⟩
  · rcases Nat.lt_or_ge b (x_tp M) with q | q
    · refine (h4 b hb5 q).kept (ho _ (by rw [x_adr_own hb5]; omega)) (etg b q) ?_ fun k => x_row_at h1 b k (by omega) (by omega) (by omega)
      unfold x_len x_ln
      split
      · rfl
      · split
        · rename_i q1 q2
          have hb9 : 593 ≤ b := by
            rcases Nat.lt_or_ge b 593 with z | z
            · have := (x_clo2 b z hb5 (by rw [x_tag_lt z] at q1; exact q1)).1
              rw [x_tag_lt z] at q2; omega
            · exact z
          rw [x_row_at h1 _ _ (by omega) (by omega) (by omega)]
        · rfl
    · rcases (show b = x_tp M ∨ b = x_tp M + 1 by omega) with eb | eb
      · subst eb
        unfold x_cell
        rw [e16, if_pos (by omega)]
        refine ⟨?_, fun k hk => ?_⟩
        · unfold x_CLo
          rw [x_adr_own hb5, ← h2]
          refine t_OB.to c1 (fun k hk => ?_)
          have hk2 : k < 2 := hk
          have ff := x_fnO (x_row M sort n) (c := 6) (by decide) (x_tp M) k
          rw [show 16 = 10 + 6 from rfl, ff]
          rcases (show k = 0 ∨ k = 1 by omega) with rfl | rfl
          · rw [x_row_r h1]; rfl
          · show Value.ref (H.size + 1) = .ref (x_adr E (((x_tp M : Nat) : Int) + 1).toNat)
            rw [show (((x_tp M : Nat) : Int) + 1).toNat = x_tp M + 1 by omega, x_adr_own (by omega), show E.1 + (x_tp M + 1 - 5) = H.size + 1 by omega]
        · have hk2 : k < 2 := hk
          rcases (show k = 0 ∨ k = 1 by omega) with rfl | rfl
          · rw [x_row_r h1]; exact hs
          · trivial
      · subst eb
        unfold x_cell
        rw [e190, if_neg (by omega)]
        have el : x_len (x_row M sort n) 190 (x_tp M + 1) = n.toNat := by
          show (x_row M sort n ((x_tp M + 1 : Nat) - 1 : Int) 1).toNat = n.toNat
          rw [show (((x_tp M + 1 : Nat) : Int) - 1) = x_tp M by omega, x_row_r h1]; rfl
        rw [el]
        refine ⟨?_, fun k hk => ?_⟩
        · unfold x_CLa
          rw [x_adr_own hb5, show E.1 + (x_tp M + 1 - 5) = H.size + 1 by omega, c2]
          show some (arrV (E.2.2.2.2 1) n.toNat (fun _ => .long 0)) = some (arrV (E.2.2.2.2 1) n.toNat (fun j => x_cv E (x_fn (x_row M sort n) 190 (x_tp M + 1) j)))
          congr 2
          funext j
          rw [x_fnA _ (t := 190) (by omega)]
          show Value.long 0 = x_cv E (.long (Int64.ofInt (x_row M sort n ((x_tp M + 1 : Nat) : Int) j)))
          rw [show (((x_tp M + 1 : Nat) : Int)) = x_tp M + 1 by omega, x_row_n h1]; rfl
        · rw [show (((x_tp M + 1 : Nat) : Int)) = x_tp M + 1 by omega, x_row_n h1]
          show -9223372036854775808 ≤ (0 : Int) ∧ (0 : Int) < 9223372036854775808
          omega
  · rcases Nat.lt_or_ge b (x_tp M) with q | q
    · rcases h5 b hb9 q with w | w | w | w
      · exact Or.inl ⟨by rw [etg b q]; exact w.1, by omega, by rw [etg _ w.2.1]; exact w.2.2⟩
      · exact Or.inr (Or.inl ⟨by rw [etg b q]; exact w.1, w.2.1, by rw [etg _ (by omega)]; exact w.2.2⟩)
      · exact Or.inr (Or.inr (Or.inl (by rw [etg b q]; exact w)))
      · exact Or.inr (Or.inr (Or.inr (by rw [etg b q]; exact w)))
    · rcases (show b = x_tp M ∨ b = x_tp M + 1 by omega) with eb | eb
      · subst eb
        exact Or.inl ⟨e16, by omega, e190⟩
      · subst eb
        exact Or.inr (Or.inl ⟨e190, by omega, by rw [show x_tp M + 1 - 1 = x_tp M by omega]; exact e16⟩)
  · rw [x_row_at h1 _ _ (by omega) (by omega) (by omega)]; exact hrow _ (h6.1 i hi)
  · rw [x_row_at h1 _ _ (by omega) (by omega) (by omega)]; exact hrow _ (h6.2 i hi)
end XR1
