/-! Sides that stand open -/
noncomputable def p_tn (F : xM) (k : Int) : Nat := (p_TT F k 4).toNat
theorem p_tn_ok {F : xM} (hF : p_wf F) {k : Int} (a : 0 ≤ k) (b : k < p_n F) : p_TT F k 4 = (p_tn F k : Int) ∧ p_tn F k < 128 := by
  obtain ⟨s, -, -, h⟩ := (p_T_inv hF _ (Nat.le_refl _)).1 k a b
  have h2 : p_TT F k = p_en F s := h
  have h7 := (p_pr_le hF).2
  unfold p_tn
  rw [h2, p_en_4]
  have := x_set_lt (p_tgt F (p_x (p_C F s) (p_R F s)) (p_b (p_C F s))) (p_pr F)
  unfold p_tS
  omega
def p_in (F : xM) (s : Nat) : Prop := ∃ k : Int, (0 ≤ k ∧ k < p_n F) ∧ s &&& p_tn F k = s
def p_ou (F : xM) (p q : Int) (t : Nat) : Prop := ∃ s, s < 2 ^ p_pr F ∧ p_dok F p q s ∧ t &&& p_tau F p q s = t
def p_liv (F : xM) (p q : Int) (d s : Nat) : Prop := p_in F s ∧ p_ou F p q (2 ^ d - 1 - s)
noncomputable def p_nl (F : xM) (p q : Int) : Nat → Nat
  | 0 => 0
  | d + 1 => p_nl F p q d + p_cnt (p_liv F p q d) (2 ^ d)
theorem p_nl_le (F : xM) (p q : Int) : ∀ d, d ≤ 8 → p_nl F p q d ≤ 128 * d := by
  intro d
  induction d with
  | zero => intro _; exact Nat.le_refl _
  | succ d ih =>
    intro h
    have := ih (by omega)
    have := p_cnt_le (p_liv F p q d) (2 ^ d)
    have h1 : 2 ^ d ≤ 2 ^ 7 := Nat.pow_le_pow_right (by omega) (by omega)
    show p_nl F p q d + _ ≤ _
    omega
theorem p_ou_set {F : xM} {p q : Int} {n : Nat} {S : Nat → Nat} (hS : p_pset F p q (2 ^ p_pr F) n S) (t : Nat) : p_ou F p q t ↔ ∃ k, k < n ∧ t &&& p_tau F p q (S k) = t := by
  refine ⟨fun ⟨s, a, b, c⟩ => ?_, fun ⟨k, a, b⟩ => ⟨S k, (hS.1 k a).1, (hS.1 k a).2, b⟩⟩
  obtain ⟨k, k1, k2⟩ := hS.2.2 s a b
  exact ⟨k, k1, by rw [k2]; exact c⟩
section LV
variable {l : Launch} {E : xE} {Q : Option xV → xM → Prop}
theorem c_areTight {f : Int} (hf : 0 ≤ f ∧ f < 3) {M : xM} {F : xM} (hF : p_wf F) {p q : Int} {n : Nat} (hn : n ≤ 35) {S : Nat → Nat} (hS : p_pset F p q (2 ^ p_pr F) n S) (ht : p_rptab M F p q n S) (hT : p_rtab M f (p_n F) (p_TT F)) {s t : Nat} (hs : s < 128) (ht2 : t < 128) (h1 : p_in F s ∧ p_ou F p q t → Q (some (0, 1)) M) (h0 : ¬ (p_in F s ∧ p_ou F p q t) → Q (some (0, 0)) M) : x_Ev l E (1, 0, 0) m_X11_areTight 0 [(21, 103), (0, f), (0, (s : Int)), (0, (t : Int)), (5, 0), (5, 0), (5, 0)] [] M Q := by
  have n10 := p_n10 p_ten_ok hF
  have h7 := (p_pr_le hF).2
  have two : ∀ (v : Int), ((v = 0 ∧ ¬ p_in F s) ∨ (v = 1 ∧ p_in F s)) → ∀ (m i : Nat) (u : Int), n - i ≤ m → i ≤ n → ((u = 0 ∧ ∀ k, k < i → ¬ t &&& p_tau F p q (S k) = t) ∨ (u = 1 ∧ ∃ k, k < i ∧ t &&& p_tau F p q (S k) = t)) → x_Ev l E (1, 0, 0) m_X11_areTight 54 [(21, 103), (0, f), (0, (s : Int)), (0, (t : Int)), (0, v), (0, u), (0, (i : Int))] [] M Q := by
    intro v hv m
    induction m with
    | zero =>
      intro i u hm hi hu
      have ei : i = n := by omega
      rw [ei] at hu
      refine u_X11_areTight_54 f s t v u i ⟨fun _ => ⟨fun c => h0 (fun w => ?_), fun c => ⟨fun c2 => h0 (fun w => ?_), fun c2 => h1 ⟨?_, ?_⟩⟩⟩, fun w => absurd (by rw [ht.1]; omega) w⟩
      · rcases hv with z | z
        · exact z.2 w.1
        · omega
      · rcases hu with z | z
        · obtain ⟨k, k1, k2⟩ := (p_ou_set hS t).mp w.2
          exact z.2 k k1 k2
        · omega
      · rcases hv with z | z
        · omega
        · exact z.2
      · rcases hu with z | z
        · omega
        · exact (p_ou_set hS t).mpr z.2
    | succ m ih =>
      intro i u hm hi hu
      by_cases e : i = n
      · exact ih i u (by omega) hi hu
      have tl := p_tau_lt F p q (S i)
      refine u_X11_areTight_54 f s t v u i ⟨fun w => by rw [ht.1] at w; omega, fun w => ⟨by omega, ?_⟩⟩
      rw [(ht.2 i (by omega)).2.2, x_sub2 (by omega) (by omega)]
      refine ⟨fun c => ?_, fun c => ?_⟩
      · intro z hz z2 hz2
        rw [x_w_id (by omega) (by omega)] at hz2
        have ez : z = u := by
          rw [hz]
          rcases hu with ⟨w, -⟩ | ⟨w, -⟩ <;> rw [w] <;> decide
        rw [ez, hz2]
        refine ih (i + 1) u (by clear hu; omega) (by clear hu; omega) ?_
        rcases hu with ⟨w, w2⟩ | ⟨w, k, w2, w3⟩
        · refine Or.inl ⟨w, fun k hk => ?_⟩
          by_cases ek : k = i
          · rw [ek]; exact c
          · exact w2 k (by omega)
        · exact Or.inr ⟨w, k, by omega, w3⟩
      · intro z hz z2 hz2
        rw [x_w_id (by omega) (by omega)] at hz2
        have ez : z = 1 := by
          rw [hz]
          rcases hu with ⟨w, -⟩ | ⟨w, -⟩ <;> rw [w] <;> decide
        rw [ez, hz2]
        exact ih (i + 1) 1 (by omega) (by omega) (Or.inr ⟨rfl, i, by omega, c⟩)
  have one : ∀ (m : Nat) (i v : Int), p_n F - i ≤ m → 0 ≤ i → i ≤ p_n F → ((v = 0 ∧ ∀ k : Int, 0 ≤ k → k < i → ¬ s &&& p_tn F k = s) ∨ (v = 1 ∧ p_in F s)) → x_Ev l E (1, 0, 0) m_X11_areTight 6 [(21, 103), (0, f), (0, (s : Int)), (0, (t : Int)), (0, v), (0, i), (5, 0)] [] M Q := by
    intro m
    induction m with
    | zero =>
      intro i v hm hi0 hi hv
      refine u_X11_areTight_6 f s t v i ⟨by omega, fun _ => ?_, fun w => absurd (by rw [hT.1]; omega) w⟩
      refine two v ?_ n 0 0 (by omega) (by omega) (Or.inl ⟨rfl, fun k hk => by omega⟩)
      rcases hv with ⟨w, w2⟩ | w
      · exact Or.inl ⟨w, fun ⟨k, ⟨k1, k2⟩, k3⟩ => w2 k k1 (by omega) k3⟩
      · exact Or.inr w
    | succ m ih =>
      intro i v hm hi0 hi hv
      by_cases e : i = p_n F
      · exact ih i v (by omega) hi0 hi hv
      have tk := p_tn_ok hF hi0 (by omega)
      refine u_X11_areTight_6 f s t v i ⟨by omega, fun w => by rw [hT.1] at w; omega, fun w => ⟨by omega, by omega, ?_⟩⟩
      rw [show 278 + 1 + 1 * f = 279 + f by omega, (hT.2 i hi0 (by omega)).2.2, tk.1, x_sub2 (by omega) tk.2]
      refine ⟨fun c => ?_, fun c => ?_⟩
      · intro z hz z2 hz2
        rw [x_w_id (by omega) (by omega)] at hz2
        have ez : z = v := by
          rw [hz]
          rcases hv with ⟨w, -⟩ | ⟨w, -⟩ <;> rw [w] <;> decide
        rw [ez, hz2]
        refine ih (i + 1) v (by omega) (by omega) (by omega) ?_
        rcases hv with ⟨w, w2⟩ | w
        · refine Or.inl ⟨w, fun k k1 k2 => ?_⟩
          by_cases ek : k = i
          · rw [ek]; exact c
          · exact w2 k k1 (by omega)
        · exact Or.inr w
      · intro z hz z2 hz2
        rw [x_w_id (by omega) (by omega)] at hz2
        have ez : z = 1 := by
          rw [hz]
          rcases hv with ⟨w, -⟩ | ⟨w, -⟩ <;> rw [w] <;> decide
        rw [ez, hz2]
        exact ih (i + 1) 1 (by omega) (by omega) (by omega) (Or.inr ⟨rfl, i, ⟨hi0, by omega⟩, c⟩)
  exact u_X11_areTight_0 f s t (one (p_n F) 0 0 (by omega) (by omega) (by omega) (Or.inl ⟨rfl, fun k k1 k2 => by omega⟩))
theorem c_isOpenSet {f : Int} (hf : 0 ≤ f ∧ f < 3) {M : xM} {F : xM} (hF : p_wf F) (hR : p_RF M f F) {p q : Int} {n : Nat} (hn : n ≤ 35) {S : Nat → Nat} (hS : p_pset F p q (2 ^ p_pr F) n S) (ht : p_rptab M F p q n S) (hT : p_rtab M f (p_n F) (p_TT F)) {s : Nat} (hs : s < 2 ^ p_pr F) (h1 : p_liv F p q (p_pr F) s → Q (some (0, 1)) M) (h0 : ¬ p_liv F p q (p_pr F) s → Q (some (0, 0)) M) : x_Ev l E (2, 0, 0) m_X11_isOpenSet 0 [(21, 103), (0, f), (0, (s : Int))] [] M Q := by
  have h7 := p_pr_le hF
  refine u_X11_isOpenSet_0 f s (c_Rpairs hf hF hR ⟨_, rfl, ?_⟩)
  rw [x_out (by omega) hs]
  exact c_areTight hf hF hn hS ht hT (by omega) (by omega) (fun c => ⟨_, rfl, by omega, h1 c⟩) (fun c => ⟨_, rfl, by omega, h0 c⟩)
theorem c_openMany {f : Int} (hf : 0 ≤ f ∧ f < 3) {M : xM} {F : xM} (hF : p_wf F) (hR : p_RF M f F) {p q : Int} {n : Nat} (hn : n ≤ 35) {S : Nat → Nat} (hS : p_pset F p q (2 ^ p_pr F) n S) (ht : p_rptab M F p q n S) (hT : p_rtab M f (p_n F) (p_TT F)) (h : Q (some (0, (p_cnt (p_liv F p q (p_pr F)) (2 ^ p_pr F) : Int))) M) : x_Ev l E (3, 0, 0) m_X11_openMany 0 [(21, 103), (0, f), (5, 0), (5, 0)] [] M Q := by
  have h7 := p_pr_le hF
  have main : ∀ (m i : Nat), 2 ^ p_pr F - i ≤ m → i ≤ 2 ^ p_pr F → x_Ev l E (3, 0, 0) m_X11_openMany 4 [(21, 103), (0, f), (0, (p_cnt (p_liv F p q (p_pr F)) i : Int)), (0, (i : Int))] [] M Q := by
    intro m
    induction m with
    | zero =>
      intro i hm hi
      have ei : i = 2 ^ p_pr F := by omega
      refine u_X11_openMany_4 f _ i (c_Rpairs hf hF hR ⟨_, rfl, fun _ => by rw [ei]; exact h, fun w => ?_⟩)
      rw [x_shl (by omega)] at w
      omega
    | succ m ih =>
      intro i hm hi
      by_cases e : i = 2 ^ p_pr F
      · exact ih i (by omega) hi
      have := p_cnt_le (p_liv F p q (p_pr F)) i
      refine u_X11_openMany_4 f _ i (c_Rpairs hf hF hR ⟨_, rfl, fun w => ?_, fun w => ?_⟩)
      · rw [x_shl (by omega)] at w
        omega
      refine c_isOpenSet hf hF hR hn hS ht hT (by omega) (fun c => ⟨_, rfl, fun z => absurd z (by omega), fun _ => ?_⟩) (fun c => ⟨_, rfl, fun _ => ?_, fun z => absurd rfl z⟩)
      · intro v hv v2 hv2
        rw [x_w_id (by omega) (by omega)] at hv hv2
        have e1 : p_cnt (p_liv F p q (p_pr F)) (i + 1) = p_cnt (p_liv F p q (p_pr F)) i + 1 := by
          show _ + p_if _ 1 0 = _
          rw [p_if_t c]
        rw [hv, hv2]
        have := ih (i + 1) (by omega) (by omega)
        rw [e1] at this
        exact this
      · intro v hv v2 hv2
        rw [x_w_id (by omega) (by omega)] at hv hv2
        have e1 : p_cnt (p_liv F p q (p_pr F)) (i + 1) = p_cnt (p_liv F p q (p_pr F)) i := by
          show _ + p_if _ 1 0 = _
          rw [p_if_f c]
          rfl
        rw [hv, hv2, Int.add_zero]
        have := ih (i + 1) (by omega) (by omega)
        rw [e1] at this
        exact this
  exact u_X11_openMany_0 f (main _ 0 (Nat.le_refl _) (Nat.zero_le _))
theorem c_liveMany {f : Int} (hf : 0 ≤ f ∧ f < 3) {M : xM} {F : xM} (hF : p_wf F) (hR : p_RF M f F) {p q : Int} {n : Nat} (hn : n ≤ 35) {S : Nat → Nat} (hS : p_pset F p q (2 ^ p_pr F) n S) (ht : p_rptab M F p q n S) (hT : p_rtab M f (p_n F) (p_TT F)) (h : Q (some (0, (p_nl F p q (p_pr F + 1) : Int))) M) : x_Ev l E (2, 0, 0) m_X11_liveMany 0 [(21, 103), (0, f), (5, 0), (5, 0), (5, 0)] [] M Q := by
  have h7 := p_pr_le hF
  have main : ∀ (m d : Nat), p_pr F + 1 - d ≤ m → d ≤ p_pr F + 1 → x_Ev l E (2, 0, 0) m_X11_liveMany 4 [(21, 103), (0, f), (0, (p_nl F p q d : Int)), (0, (d : Int)), (5, 0)] [] M Q := by
    intro m
    induction m with
    | zero =>
      intro d hm hd
      have ed : d = p_pr F + 1 := by omega
      refine u_X11_liveMany_4 f _ d (c_Rpairs hf hF hR ⟨_, rfl, fun _ => by rw [ed]; exact h, fun w => by omega⟩)
    | succ m ih =>
      intro d hm hd
      by_cases e : d = p_pr F + 1
      · exact ih d (by omega) hd
      have nl := p_nl_le F p q d (by omega)
      have p7 : 2 ^ d ≤ 2 ^ 7 := Nat.pow_le_pow_right (by omega) (by omega)
      refine u_X11_liveMany_4 f _ d (c_Rpairs hf hF hR ⟨_, rfl, fun w => by omega, fun w => ?_⟩)
      have inner : ∀ (m' i : Nat), 2 ^ d - i ≤ m' → i ≤ 2 ^ d → x_Ev l E (2, 0, 0) m_X11_liveMany 16 [(21, 103), (0, f), (0, ((p_nl F p q d + p_cnt (p_liv F p q d) i : Nat) : Int)), (0, (d : Int)), (0, (i : Int))] [] M Q := by
        intro m'
        induction m' with
        | zero =>
          intro i hm' hi
          have ei : i = 2 ^ d := by omega
          refine u_X11_liveMany_16 f _ d i ⟨fun _ => ?_, fun w => ?_⟩
          · intro v hv
            rw [x_w_id (by omega) (by omega)] at hv
            rw [hv, ei]
            exact ih (d + 1) (by omega) (by omega)
          · rw [x_shl (by omega)] at w
            omega
        | succ m' im =>
          intro i hm' hi
          by_cases e : i = 2 ^ d
          · exact im i (by omega) hi
          have := p_cnt_le (p_liv F p q d) i
          refine u_X11_liveMany_16 f _ d i ⟨fun w => ?_, fun w => ?_⟩
          · rw [x_shl (by omega)] at w
            omega
          rw [x_out (by omega) (by omega)]
          refine c_areTight hf hF hn hS ht hT (by omega) (by omega) (fun (c : p_liv F p q d i) => ⟨_, rfl, fun z => absurd z (by omega), fun _ => ?_⟩) (fun (c : ¬ p_liv F p q d i) => ⟨_, rfl, fun _ => ?_, fun z => absurd rfl z⟩)
          · intro v hv v2 hv2
            rw [x_w_id (by omega) (by omega)] at hv hv2
            have e1 : p_cnt (p_liv F p q d) (i + 1) = p_cnt (p_liv F p q d) i + 1 := by
              show _ + p_if _ 1 0 = _
              rw [p_if_t c]
            rw [hv, hv2]
            have := im (i + 1) (by omega) (by omega)
            rw [e1] at this
            exact this
          · intro v hv v2 hv2
            rw [x_w_id (by omega) (by omega)] at hv hv2
            have e1 : p_cnt (p_liv F p q d) (i + 1) = p_cnt (p_liv F p q d) i := by
              show _ + p_if _ 1 0 = _
              rw [p_if_f c]
              rfl
            rw [hv, hv2, Int.add_zero]
            have := im (i + 1) (by omega) (by omega)
            rw [e1] at this
            exact this
      exact inner (2 ^ d) 0 (Nat.sub_le _ _) (Nat.zero_le _)
  exact u_X11_liveMany_0 f (main _ 0 (Nat.le_refl _) (Nat.zero_le _))
theorem c_within {a n : Int} {M : xM} (hn : 0 ≤ n ∧ n ≤ 10) {T : Int → Nat} (hT : ∀ k, 0 ≤ k → k < n → M a k = (T k : Int) ∧ T k < 128) {s : Nat} (hs : s < 128) (h1 : (∃ k, (0 ≤ k ∧ k < n) ∧ s &&& T k = s) → Q (some (0, 1)) M) (h0 : ¬ (∃ k, (0 ≤ k ∧ k < n) ∧ s &&& T k = s) → Q (some (0, 0)) M) : x_Ev l E (1, 0, 0) m_X10_isWithinOneOf 0 [(110, a), (0, n), (0, (s : Int)), (5, 0)] [] M Q := by
  have main : ∀ (m : Nat) (i : Int), n - i ≤ m → 0 ≤ i → i ≤ n → (∀ k, 0 ≤ k → k < i → ¬ s &&& T k = s) → x_Ev l E (1, 0, 0) m_X10_isWithinOneOf 2 [(110, a), (0, n), (0, (s : Int)), (0, i)] [] M Q := by
    intro m
    induction m with
    | zero =>
      intro i hm hi0 hi hx
      exact u_X10_isWithinOneOf_2 a n s i ⟨fun _ => h0 (fun ⟨k, ⟨k1, k2⟩, k3⟩ => hx k k1 (by omega) k3), fun w => by omega⟩
    | succ m ih =>
      intro i hm hi0 hi hx
      by_cases e : i = n
      · exact ih i (by omega) hi0 hi hx
      obtain ⟨t1, t2⟩ := hT i hi0 (by omega)
      refine u_X10_isWithinOneOf_2 a n s i ⟨fun w => by omega, fun w => ⟨fun w2 => by omega, fun w2 => ⟨by omega, ?_⟩⟩⟩
      rw [t1, x_sub1 hs t2]
      refine ⟨fun c => ?_, fun c => h1 ⟨i, ⟨hi0, by omega⟩, c⟩⟩
      intro v hv
      rw [x_w_id (by omega) (by omega)] at hv
      rw [hv]
      refine ih (i + 1) (by omega) (by omega) (by omega) (fun k k1 k2 => ?_)
      by_cases ek : k = i
      · rw [ek]; exact c
      · exact hx k k1 (by omega)
  exact u_X10_isWithinOneOf_0 a n s (main n.toNat 0 (by omega) (by omega) (by omega) (fun k k1 k2 => by omega))
theorem c_within2 {a n : Int} {M : xM} (hn : 0 ≤ n ∧ n ≤ 35) {T : Int → Nat} (hT : ∀ k, 0 ≤ k → k < n → M a k = (T k : Int) ∧ T k < 128) {s : Nat} (hs : s < 128) (h1 : (∃ k, (0 ≤ k ∧ k < n) ∧ s &&& T k = s) → Q (some (0, 1)) M) (h0 : ¬ (∃ k, (0 ≤ k ∧ k < n) ∧ s &&& T k = s) → Q (some (0, 0)) M) : x_Ev l E (1, 0, 0) m_X10_isWithinOneOf 0 [(113, a), (0, n), (0, (s : Int)), (5, 0)] [] M Q := by
  have main : ∀ (m : Nat) (i : Int), n - i ≤ m → 0 ≤ i → i ≤ n → (∀ k, 0 ≤ k → k < i → ¬ s &&& T k = s) → x_Ev l E (1, 0, 0) m_X10_isWithinOneOf 2 [(113, a), (0, n), (0, (s : Int)), (0, i)] [] M Q := by
    intro m
    induction m with
    | zero =>
      intro i hm hi0 hi hx
      exact u_X10_isWithinOneOf_2_v2 a n s i ⟨fun _ => h0 (fun ⟨k, ⟨k1, k2⟩, k3⟩ => hx k k1 (by omega) k3), fun w => by omega⟩
    | succ m ih =>
      intro i hm hi0 hi hx
      by_cases e : i = n
      · exact ih i (by omega) hi0 hi hx
      obtain ⟨t1, t2⟩ := hT i hi0 (by omega)
      refine u_X10_isWithinOneOf_2_v2 a n s i ⟨fun w => by omega, fun w => ⟨fun w2 => by omega, fun w2 => ⟨by omega, ?_⟩⟩⟩
      rw [t1, x_sub1 hs t2]
      refine ⟨fun c => ?_, fun c => h1 ⟨i, ⟨hi0, by omega⟩, c⟩⟩
      intro v hv
      rw [x_w_id (by omega) (by omega)] at hv
      rw [hv]
      refine ih (i + 1) (by omega) (by omega) (by omega) (fun k k1 k2 => ?_)
      by_cases ek : k = i
      · rw [ek]; exact c
      · exact hx k k1 (by omega)
  exact u_X10_isWithinOneOf_0_v2 a n s (main n.toNat 0 (by omega) (by omega) (by omega) (fun k k1 k2 => by omega))
theorem c_isLive {P : Int} {M : xM} {F : xM} (hF : p_wf F) {p q : Int} {n : Nat} (hn : n ≤ 35) {S : Nat → Nat} (hS : p_pset F p q (2 ^ p_pr F) n S) (ht : p_ptab M F p q n S) (hT : p_tab M P (p_n F) (p_TT F)) {d s : Nat} (hd : d < 8) (hs : s < 2 ^ d) (h1 : p_liv F p q d s → Q (some (0, 1)) M) (h0 : ¬ p_liv F p q d s → Q (some (0, 0)) M) : x_Ev l E (2, 0, 0) m_X10_isLive 0 [(20, 5), (14, P), (0, (d : Int)), (0, (s : Int)), (5, 0)] [] M Q := by
  have n10 := p_n10 p_ten_ok hF
  have h7 := (p_pr_le hF).2
  have p7 : 2 ^ d ≤ 2 ^ 7 := Nat.pow_le_pow_right (by omega) (by omega)
  refine u_X10_isLive_0 P d s ?_
  intro v hv
  rw [x_out hd hs] at hv
  rw [hT.1]
  refine c_within (T := p_tn F) (by omega) (fun k k1 k2 => ?_) (by omega) (fun c => ⟨_, rfl, fun z => absurd z (by omega), fun _ => ?_⟩) (fun c => ⟨_, rfl, fun _ => h0 (fun w => c w.1), fun z => absurd rfl z⟩)
  · rw [(hT.2 k k1 k2).2.2]
    exact p_tn_ok hF k1 k2
  · rw [ht.1, hv]
    have eo : (∃ k : Int, (0 ≤ k ∧ k < (n : Int)) ∧ (2 ^ d - 1 - s) &&& p_tau F p q (S k.toNat) = 2 ^ d - 1 - s) ↔ p_ou F p q (2 ^ d - 1 - s) := by
      rw [p_ou_set hS]
      exact ⟨fun ⟨k, a, b⟩ => ⟨k.toNat, by omega, b⟩, fun ⟨k, a, b⟩ => ⟨k, by omega, b⟩⟩
    refine c_within2 (T := fun k => p_tau F p q (S k.toNat)) (by omega) (fun k k1 k2 => ?_) (by omega) (fun c2 => ⟨_, rfl, fun z => absurd z (by omega), fun _ => h1 ⟨c, eo.mp c2⟩⟩) (fun c2 => ⟨_, rfl, fun _ => h0 (fun w => c2 (eo.mpr w.2)), fun z => absurd rfl z⟩)
    have := (ht.2 k.toNat (by omega)).2.2.1
    rw [show ((k.toNat : Nat) : Int) = k by omega] at this
    have := p_tau_lt F p q (S k.toNat)
    exact ⟨by assumption, by omega⟩
theorem c_liveNodes {P : Int} {M : xM} {F : xM} (hF : p_wf F) {p q : Int} {n : Nat} (hn : n ≤ 35) {S : Nat → Nat} (hS : p_pset F p q (2 ^ p_pr F) n S) (ht : p_ptab M F p q n S) (hT : p_tab M P (p_n F) (p_TT F)) {d : Nat} (hd : d < 8) (h : Q (some (0, (p_cnt (p_liv F p q d) (2 ^ d) : Int))) M) : x_Ev l E (3, 0, 0) m_X10_liveNodes 0 [(20, 5), (14, P), (0, (d : Int)), (5, 0), (5, 0)] [] M Q := by
  have p7 : 2 ^ d ≤ 2 ^ 7 := Nat.pow_le_pow_right (by omega) (by omega)
  have main : ∀ (m i : Nat), 2 ^ d - i ≤ m → i ≤ 2 ^ d → x_Ev l E (3, 0, 0) m_X10_liveNodes 5 [(20, 5), (14, P), (0, (d : Int)), (0, (p_cnt (p_liv F p q d) i : Int)), (0, (i : Int))] [] M Q := by
    intro m
    induction m with
    | zero =>
      intro i hm hi
      have ei : i = 2 ^ d := by omega
      refine u_X10_liveNodes_5 P d _ i ⟨fun _ => by rw [ei]; exact h, fun w => ?_⟩
      rw [x_shl (by omega)] at w
      omega
    | succ m ih =>
      intro i hm hi
      by_cases e : i = 2 ^ d
      · exact ih i (by omega) hi
      have := p_cnt_le (p_liv F p q d) i
      refine u_X10_liveNodes_5 P d _ i ⟨fun w => ?_, fun w => ?_⟩
      · rw [x_shl (by omega)] at w
        omega
      refine c_isLive hF hn hS ht hT hd (by omega) (fun c => ⟨_, rfl, fun z => absurd z (by omega), fun _ => ?_⟩) (fun c => ⟨_, rfl, fun _ => ?_, fun z => absurd rfl z⟩)
      · intro v hv v2 hv2
        rw [x_w_id (by omega) (by omega)] at hv hv2
        have e1 : p_cnt (p_liv F p q d) (i + 1) = p_cnt (p_liv F p q d) i + 1 := by
          show _ + p_if _ 1 0 = _
          rw [p_if_t c]
        rw [hv, hv2]
        have := ih (i + 1) (by omega) (by omega)
        rw [e1] at this
        exact this
      · intro v2 hv2
        rw [x_w_id (by omega) (by omega)] at hv2
        have e1 : p_cnt (p_liv F p q d) (i + 1) = p_cnt (p_liv F p q d) i := by
          show _ + p_if _ 1 0 = _
          rw [p_if_f c]
          rfl
        rw [hv2]
        have := ih (i + 1) (by omega) (by omega)
        rw [e1] at this
        exact this
  exact u_X10_liveNodes_0 P d (main _ 0 (Nat.le_refl _) (Nat.zero_le _))
end LV
