/-! count, status, round, loose -/
theorem x_ushr_nn (x : Int) : 0 ≤ x_iushr x 8 ∧ x_iushr x 8 < 16777216 := by
  have e : x_iushr x 8 = ((((Int32.ofInt x).toUInt32 >>> (8 : UInt32)).toNat : Nat) : Int) := by
    unfold x_iushr
    rw [show ((Int32.ofInt 8).toUInt32 &&& Int32.toUInt32 31) = (8 : UInt32) from by decide]
    generalize (Int32.ofInt x).toUInt32 = u
    have h : (u >>> (8 : UInt32)).toNat = u.toNat >>> 8 := by
      rw [UInt32.toNat_shiftRight]
      rfl
    have hu : u.toNat < 4294967296 := u.toNat_lt
    have h2 : (u >>> (8 : UInt32)).toNat < 16777216 := by
      rw [h, Nat.shiftRight_eq_div_pow]
      omega
    show (u >>> (8 : UInt32)).toBitVec.toInt = _
    rw [BitVec.toInt_eq_toNat_of_lt]
    · rfl
    · show 2 * (u >>> (8 : UInt32)).toNat < 2 ^ 32
      omega
  rw [e]
  generalize (Int32.ofInt x).toUInt32 = u
  have h : (u >>> (8 : UInt32)).toNat = u.toNat >>> 8 := by
    rw [UInt32.toNat_shiftRight]
    rfl
  have hu : u.toNat < 4294967296 := u.toNat_lt
  rw [h, Nat.shiftRight_eq_div_pow]
  omega
def p_hd (A : xM) (i : Nat) : Prop := 1 < A 552 i ∨ (A 552 i = 1 ∧ A 553 i < A 6 0)
noncomputable def p_ctv (A : xM) (w : Int) : Int := if w = 0 then A 6 0 else if w = 1 then A 6 1 else if w = 2 then A 6 2 else if w = 3 then A 6 3 else if w = 4 then A 5 12 else if w = 5 then p_cnt (p_hd A) 10 else if w = 6 then (p_BT A (-1) (A 6 1)).1 + 1 else A 6 4
noncomputable def o_count (A : xM) (w : Int) : Int × xM := p_if (0 ≤ w ∧ w ≤ 7) (p_if (w = 7 ∧ ¬ A 6 4 = x_w (A 6 4)) (p_err A 7) (p_ctv A w, A)) (p_err A 0)
noncomputable def p_sts (A : xM) : Nat → Int
  | 0 => 0
  | k + 1 => x_w (p_sts A k + A 102 k)
noncomputable def o_status (A : xM) (w : Int) : Int × xM := p_if (-1 ≤ w ∧ w ≤ 7) (if w < 0 then p_sts A 8 else A 102 w, A) (p_err A 0)
section P11
variable {l : Launch} {E : xE} {Q : Option xV → xM → Prop} {A M : xM}
theorem p_ctv0 (A : xM) : p_ctv A 0 = A 6 0 ∧ p_ctv A 1 = A 6 1 ∧ p_ctv A 2 = A 6 2 ∧ p_ctv A 3 = A 6 3 ∧ p_ctv A 4 = A 5 12 ∧ p_ctv A 5 = p_cnt (p_hd A) 10 ∧ p_ctv A 6 = (p_BT A (-1) (A 6 1)).1 + 1 ∧ p_ctv A 7 = A 6 4 := ⟨rfl, rfl, rfl, rfl, rfl, rfl, rfl, rfl⟩
theorem k_hn (hA : p_WF A) (hC : p_CI A M) {i : Nat} (hi : i < 10) (h1 : p_hd A i → Q (some (0, 1)) M) (h0 : ¬ p_hd A i → Q (some (0, 0)) M) : x_Ev l E (1, 0, 0) m_X7_holdsNow 0 [(17, 90 + (i : Int)), (19, 6)] [] M Q := by
  obtain ⟨s1, s2, s3, s4⟩ := hC.2.2.2.2.2.2.2 i (by omega) (by omega)
  obtain ⟨w1, -⟩ := hA.2.2.2.2.2.1 i (by omega) (by omega)
  have e6 := hC.1 6 0 (by omega) (by omega)
  refine u_X7_holdsNow_0 _ ⟨fun c => ⟨fun d => h0 ?_, fun d => h1 ?_⟩, fun c => ⟨fun d => h0 ?_, fun d => h1 ?_⟩⟩
  · unfold p_hd; omega
  · unfold p_hd; omega
  · have := s2 (Or.inl (by omega))
    unfold p_hd; omega
  · have := s2 (Or.inl (by omega))
    unfold p_hd; omega
theorem k_fs (hA : p_WF A) (hC : p_CI A M) (h : Q (some (0, (p_cnt (p_hd A) 10 : Int))) M) : x_Ev l E (2, 0, 0) m_X10_fullSpots 0 [(20, 5), (5, 0), (5, 0)] [] M Q := by
  have main : ∀ (m i : Nat), 10 - i ≤ m → i ≤ 10 → x_Ev l E (2, 0, 0) m_X10_fullSpots 4 [(20, 5), (0, (p_cnt (p_hd A) i : Int)), (0, (i : Int))] [] M Q := by
    intro m
    induction m with
    | zero =>
      intro i hm hi
      have ei : i = 10 := by omega
      refine u_X10_fullSpots_4 _ i ⟨fun _ => by rw [ei]; exact h, fun z => by omega⟩
    | succ m ih =>
      intro i hm hi
      by_cases ei : i = 10
      · exact ih i (by omega) hi
      have cl := p_cnt_le (p_hd A) i
      obtain ⟨e1, e2⟩ := p_cnt_s (P := p_hd A) (s := i)
      refine u_X10_fullSpots_4 _ i ⟨fun z => by omega, fun z => ⟨by omega, ?_⟩⟩
      rw [show 89 + 1 + 1 * (i : Int) = 90 + (i : Int) by omega]
      refine k_hn hA hC (by omega) (fun g => x_n1 (by omega) ?_) (fun g => x_n0 ?_)
      · intro v hv v2 hv2
        rw [x_w_id (by omega) (by omega)] at hv hv2
        have := ih (i + 1) (by omega) (by omega)
        rw [e1 g] at this
        rw [hv, hv2]; exact this
      · intro v2 hv2
        rw [x_w_id (by omega) (by omega)] at hv2
        have := ih (i + 1) (by omega) (by omega)
        rw [e2 g] at this
        rw [hv2]; exact this
  exact u_X10_fullSpots_0 (main 10 0 (by omega) (by omega))
theorem r_hs (hA : p_WF A) (hR : p_RI A M) {i : Nat} (hi : i < 10) (h1 : p_hd A i → Q (some (0, 1)) M) (h0 : ¬ p_hd A i → Q (some (0, 0)) M) : x_Ev l E (1, 0, 0) m_X11_holds 0 [(21, 103), (0, (i : Int))] [] M Q := by
  obtain ⟨s1, s2, s3⟩ := hR.2.2.2.2.2.1 i (by omega) (by omega)
  have e6 := hR.1.1
  refine u_X11_holds_0 _ ⟨by omega, fun c => h1 ?_, fun c => ⟨by omega, fun d => h0 ?_, fun d => ⟨by omega, fun e => h0 ?_, fun e => h1 ?_⟩⟩⟩
  · unfold p_hd; omega
  · unfold p_hd; omega
  · have := s2 (by omega)
    unfold p_hd; omega
  · have := s2 (by omega)
    unfold p_hd; omega
theorem r_hld (hA : p_WF A) (hR : p_RI A M) (h : Q (some (0, (p_cnt (p_hd A) 10 : Int))) M) : x_Ev l E (2, 0, 0) m_X11_held 0 [(21, 103), (5, 0), (5, 0)] [] M Q := by
  have main : ∀ (m i : Nat), 10 - i ≤ m → i ≤ 10 → x_Ev l E (2, 0, 0) m_X11_held 4 [(21, 103), (0, (p_cnt (p_hd A) i : Int)), (0, (i : Int))] [] M Q := by
    intro m
    induction m with
    | zero =>
      intro i hm hi
      have ei : i = 10 := by omega
      refine u_X11_held_4 _ i ⟨fun _ => by rw [ei]; exact h, fun z => by omega⟩
    | succ m ih =>
      intro i hm hi
      by_cases ei : i = 10
      · exact ih i (by omega) hi
      have cl := p_cnt_le (p_hd A) i
      obtain ⟨e1, e2⟩ := p_cnt_s (P := p_hd A) (s := i)
      refine u_X11_held_4 _ i ⟨fun z => by omega, fun z => ?_⟩
      refine r_hs hA hR (by omega) (fun g => x_n1 (by omega) ?_) (fun g => x_n0 ?_)
      · intro v hv v2 hv2
        rw [x_w_id (by omega) (by omega)] at hv hv2
        have := ih (i + 1) (by omega) (by omega)
        rw [e1 g] at this
        rw [hv, hv2]; exact this
      · intro v hv v2 hv2
        rw [x_w_id (by omega) (by omega)] at hv hv2
        have := ih (i + 1) (by omega) (by omega)
        rw [e2 g] at this
        rw [hv, hv2, Int.add_zero]; exact this
  exact u_X11_held_0 (main 10 0 (by omega) (by omega))
theorem k_count (hA : p_WF A) (hC : p_CI A M) {w : Int} (h : ∀ M1, p_CI (o_count A w).2 M1 → p_cfr M M1 → Q (some (0, (o_count A w).1)) M1) : x_Ev l E (6, 0, 0) m_X10_count 0 [(20, 5), (0, w)] [] M Q := by
  unfold o_count at h
  have w1 := (p_W_tm hA).2.1
  obtain ⟨v0, v1, v2, v3, v4, v5, v6, v7⟩ := p_ctv0 A
  have ok : 0 ≤ w ∧ w ≤ 6 → ∀ M1, p_CI A M1 → p_cfr M M1 → Q (some (0, p_ctv A w)) M1 := fun c M1 a b => by
    rw [p_if_t (by omega), p_if_f (by omega)] at h
    exact h M1 a b
  refine u_X10_count_0 w ⟨fun c => ?_, fun c => ?_, fun c => ?_, fun c => ?_, fun c => ?_, fun c => ?_, fun c => ?_, fun c => ?_, fun c => ?_⟩
  · rw [p_if_f (by omega)] at h
    exact k_tl hA hC (by omega) (fun M1 a b => ⟨_, rfl, h M1 a b⟩)
  · have := ok (by omega) M hC (p_cfr_rf M)
    rw [c, v0] at this
    rw [hC.1 6 0 (by omega) (by omega)]; exact this
  · have := ok (by omega) M hC (p_cfr_rf M)
    rw [c, v1] at this
    rw [hC.1 6 1 (by omega) (by omega)]; exact this
  · have := ok (by omega) M hC (p_cfr_rf M)
    rw [c, v2] at this
    rw [hC.1 6 2 (by omega) (by omega)]; exact this
  · have := ok (by omega) M hC (p_cfr_rf M)
    rw [c, v3] at this
    rw [hC.1 6 3 (by omega) (by omega)]; exact this
  · have := ok (by omega) M hC (p_cfr_rf M)
    rw [c, v4] at this
    rw [hC.2.2.1]; exact this
  · have := ok (by omega) M hC (p_cfr_rf M)
    rw [c, v5] at this
    exact k_fs hA hC ⟨_, rfl, this⟩
  · rw [hC.1 6 1 (by omega) (by omega)]
    refine k_gb hA hC w1 (fun M1 c1 c2 _ c3 _ c4 => ⟨rfl, ?_⟩)
    have := ok (by omega) M1 c1 c2
    rw [c, v6] at this
    rw [c3.1, x_w_id (by omega) (by omega)]; exact this
  · rw [p_if_t (by omega)] at h
    rw [hC.1 6 4 (by omega) (by omega)]
    refine ⟨fun d => ?_, fun d => ?_⟩
    · rw [p_if_t ⟨c, d⟩] at h
      exact k_tl hA hC (by omega) (fun M1 a b => ⟨_, rfl, h M1 a b⟩)
    · rw [p_if_f (fun q => q.2 d), c, v7] at h
      rw [← d]
      exact h M hC (p_cfr_rf M)
theorem r_count (hA : p_WF A) (hR : p_RI A M) {w : Int} (h : ∀ M1, p_RI (o_count A w).2 M1 → p_rfr M M1 → Q (some (0, (o_count A w).1)) M1) : x_Ev l E (11, 0, 0) m_X11_count 0 [(21, 103), (0, w)] [] M Q := by
  unfold o_count at h
  obtain ⟨v0, v1, v2, v3, v4, v5, v6, v7⟩ := p_ctv0 A
  have ok : 0 ≤ w ∧ w ≤ 6 → ∀ M1, p_RI A M1 → p_rfr M M1 → Q (some (0, p_ctv A w)) M1 := fun c M1 a b => by
    rw [p_if_t (by omega), p_if_f (by omega)] at h
    exact h M1 a b
  refine u_X11_count_0 w ⟨fun c => ?_, fun c => ?_, fun c => ?_, fun c => ?_, fun c => ?_, fun c => ?_, fun c => ?_, fun c => ?_, fun c => ?_⟩
  · rw [p_if_f (by omega)] at h
    exact r_tl hA hR (by omega) (fun M1 a b => ⟨_, rfl, h M1 a b⟩)
  · have := ok (by omega) M hR (p_rfr_rf M)
    rw [c, v0] at this
    rw [hR.1.1]; exact this
  · have := ok (by omega) M hR (p_rfr_rf M)
    rw [c, v1] at this
    rw [hR.1.2.1]; exact this
  · have := ok (by omega) M hR (p_rfr_rf M)
    rw [c, v2] at this
    rw [hR.1.2.2.2.2.2.1]; exact this
  · have := ok (by omega) M hR (p_rfr_rf M)
    rw [c, v3] at this
    rw [hR.1.2.2.2.2.2.2]; exact this
  · have := ok (by omega) M hR (p_rfr_rf M)
    rw [c, v4] at this
    rw [hR.2.2.2.1.1]; exact this
  · have := ok (by omega) M hR (p_rfr_rf M)
    rw [c, v5] at this
    exact r_hld hA hR ⟨_, rfl, this⟩
  · refine r_gb hA hR (by omega) (fun M1 c1 c2 _ _ c3 _ c4 => ⟨rfl, ?_⟩)
    have := ok (by omega) M1 c1 c2
    rw [c, v6] at this
    rw [c3.1, x_w_id (by omega) (by omega)]; exact this
  · rw [p_if_t (by omega)] at h
    rw [hR.1.2.2.2.2.1]
    refine ⟨fun d => ?_, fun d => ?_⟩
    · rw [p_if_t ⟨c, d⟩] at h
      exact r_tl hA hR (by omega) (fun M1 a b => ⟨_, rfl, h M1 a b⟩)
    · rw [p_if_f (fun q => q.2 d), c, v7] at h
      rw [← d]
      exact h M hR (p_rfr_rf M)
theorem wf_count (hA : p_WF A) (w : Int) : p_WF (o_count A w).2 := by
  unfold o_count
  by_cases c : 0 ≤ w ∧ w ≤ 7
  · rw [p_if_t c]
    by_cases d : w = 7 ∧ ¬ A 6 4 = x_w (A 6 4)
    · rw [p_if_t d]; exact wf_tl hA 7
    · rw [p_if_f d]; exact hA
  · rw [p_if_f c]; exact wf_tl hA 0
theorem k_status (hA : p_WF A) (hC : p_CI A M) {w : Int} (h : ∀ M1, p_CI (o_status A w).2 M1 → p_cfr M M1 → Q (some (0, (o_status A w).1)) M1) : x_Ev l E (2, 0, 0) m_X10_status 0 [(20, 5), (0, w), (5, 0), (5, 0), (5, 0), (5, 0), (5, 0)] [] M Q := by
  unfold o_status at h
  have bad : ¬ (-1 ≤ w ∧ w ≤ 7) → x_Ev l E (1, 0, 0) m_X10_tell 0 [(20, 5), (0, 0)] [] M (fun r M3 => ∃ z, r = some (0, z) ∧ Q (some (0, z)) M3) := fun c => by
    rw [p_if_f c] at h
    exact k_tl hA hC (by omega) (fun M1 a b => ⟨_, rfl, h M1 a b⟩)
  refine u_X10_status_0 w ⟨fun c => bad (by omega), fun c => ⟨fun d => ?_, fun d => bad (by omega)⟩⟩
  rw [p_if_t (by omega)] at h
  refine ⟨fun e => ?_, fun e => ⟨by omega, ?_⟩⟩
  · rw [if_pos e] at h
    have main : ∀ (m i : Nat), 8 - i ≤ m → i ≤ 8 → x_Ev l E (2, 0, 0) m_X10_status 42 [(20, 5), (0, w), (0, p_sts A i), (119, 102), (0, 8), (0, (i : Int)), (5, 0)] [] M Q := by
      intro m
      induction m with
      | zero =>
        intro i hm hi
        have ei : i = 8 := by omega
        refine u_X10_status_42 w _ 102 8 i ⟨fun _ => by rw [ei]; exact h M hC (p_cfr_rf M), fun z => by omega⟩
      | succ m ih =>
        intro i hm hi
        by_cases ei : i = 8
        · exact ih i (by omega) hi
        refine u_X10_status_42 w _ 102 8 i ⟨fun z => by omega, fun z => ⟨by omega, ?_⟩⟩
        intro v hv v2 hv2 v3 hv3
        rw [x_w_id (by omega) (by omega)] at hv3
        rw [hC.2.2.2.2.1] at hv
        rw [hv] at hv2
        rw [hv2, hv3]
        exact ih (i + 1) (by omega) (by omega)
    exact main 8 0 (by omega) (by omega)
  · rw [if_neg e] at h
    rw [hC.2.2.2.2.1]
    exact h M hC (p_cfr_rf M)
theorem r_status (hA : p_WF A) (hR : p_RI A M) {w : Int} (h : ∀ M1, p_RI (o_status A w).2 M1 → p_rfr M M1 → Q (some (0, (o_status A w).1)) M1) : x_Ev l E (2, 0, 0) m_X11_status 0 [(21, 103), (0, w), (5, 0), (5, 0)] [] M Q := by
  refine x_Ev.rga 141 (by omega) (by omega) (by decide) (fun rg => ?_)
  unfold o_status at h
  refine u_X11_status_0 w (r_in (fun c => x_y1 (by omega) ?_) (fun c => x_y0 ?_))
  · rw [p_if_t c] at h
    have e : ∀ i : Nat, i < 8 → M 141 i = A 102 i := fun i hi => hR.2.2.1 i (by omega) (by omega)
    have rA : ∀ i : Nat, i < 8 → x_w (A 102 i) = A 102 i := fun i hi => by
      have q : x_rg 0 (M 141 i) := rg i (by
        have : (x_AT (x_SHT 141 - 100)).2.1.toNat = 8 := by decide
        omega)
      rw [e i hi] at q
      exact x_w_id q.1 q.2
    by_cases d : w < 0
    · rw [if_pos d] at h
      have main : ∀ (m i : Nat), 8 - i ≤ m → i ≤ 8 → x_Ev l E (2, 0, 0) m_X11_status 24 [(21, 103), (0, w), (0, p_sts A i), (0, (i : Int))] [] M Q := by
        intro m
        induction m with
        | zero =>
          intro i hm hi
          have ei : i = 8 := by omega
          refine u_X11_status_24 w _ i ⟨fun _ => by rw [ei]; exact h M hR (p_rfr_rf M), fun z => by omega⟩
        | succ m ih =>
          intro i hm hi
          by_cases ei : i = 8
          · exact ih i (by omega) hi
          refine u_X11_status_24 w _ i ⟨fun z => by omega, fun z => ⟨fun z2 => ⟨by omega, ?_⟩, fun z2 => by omega⟩⟩
          intro v hv v3 hv3
          rw [x_w_id (by omega) (by omega)] at hv3
          rw [e i (by omega)] at hv
          rw [hv, hv3]
          exact ih (i + 1) (by omega) (by omega)
      exact main 8 0 (by omega) (by omega)
    · rw [if_neg d] at h
      obtain ⟨x, hx⟩ : ∃ x : Nat, w = x := ⟨w.toNat, by omega⟩
      have main : ∀ (m i : Nat), 8 - i ≤ m → i ≤ 8 → x_Ev l E (2, 0, 0) m_X11_status 24 [(21, 103), (0, w), (0, if x < i then A 102 x else 0), (0, (i : Int))] [] M Q := by
        intro m
        induction m with
        | zero =>
          intro i hm hi
          have ei : i = 8 := by omega
          refine u_X11_status_24 w _ i ⟨fun _ => ?_, fun z => by omega⟩
          rw [if_pos (by omega), ← hx]
          exact h M hR (p_rfr_rf M)
        | succ m ih =>
          intro i hm hi
          by_cases ei : i = 8
          · exact ih i (by omega) hi
          refine u_X11_status_24 w _ i ⟨fun z => by omega, fun z => ⟨fun z2 => by omega, fun z2 => ⟨fun z3 => ?_, fun z3 => ⟨by omega, ?_⟩⟩⟩⟩
          · intro v hv v3 hv3
            rw [x_w_id (by omega) (by omega)] at hv3
            have := ih (i + 1) (by omega) (by omega)
            by_cases q : x < i
            · rw [if_pos (by omega)] at this
              rw [if_pos q, Int.add_zero, rA x (by omega)] at hv
              rw [hv, hv3]; exact this
            · rw [if_neg (by omega)] at this
              rw [if_neg q] at hv
              rw [hv, hv3]; exact this
          · intro v hv v3 hv3
            rw [x_w_id (by omega) (by omega)] at hv3
            have ex : x = i := by omega
            have := ih (i + 1) (by omega) (by omega)
            rw [if_pos (by omega), ex] at this
            rw [if_neg (by omega), e i (by omega), Int.zero_add, rA i (by omega)] at hv
            rw [hv, hv3]; exact this
      have := main 8 0 (by omega) (by omega)
      rw [if_neg (by omega)] at this
      exact this
  · rw [p_if_f c] at h
    exact r_tl hA hR (by omega) (fun M1 a b => ⟨_, rfl, h M1 a b⟩)
theorem wf_status (hA : p_WF A) (w : Int) : p_WF (o_status A w).2 := by
  unfold o_status
  by_cases c : -1 ≤ w ∧ w ≤ 7
  · rw [p_if_t c]; exact hA
  · rw [p_if_f c]; exact wf_tl hA 0
end P11
