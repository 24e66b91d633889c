/-! taken -/
def p_und (kd a : Int) : Prop := a = 0 ∨ a = kd ∨ (kd = 3 ∧ a = 1) ∨ (kd = 6 ∧ (a = 3 ∨ a = 1)) ∨ ((kd = 4 ∨ kd = 5) ∧ a = 2)
section P19
variable {l : Launch} {E : xE} {Q : Option xV → xM → Prop} {A M : xM}
theorem c_iok0 {w a d : Int} (hd : 0 ≤ d ∧ d ≤ 5) (h1 : a = 0 → Q (some (0, 1)) M) (h0 : ¬ a = 0 → Q (some (0, 0)) M) : x_Ev l E (1, 0, 0) m_X1_isOfKind 7 [(11, w), (0, a), (0, 0), (0, d)] [] M Q := by
  refine u_X1_isOfKind_7 w a 0 d ⟨fun z => by omega, fun z => ⟨fun z2 => by omega, fun z2 => ⟨fun z3 => ⟨by omega, fun v hv v2 hv2 => ?_⟩, fun z3 => h1 z3.symm⟩⟩⟩
  rw [show (x_SC 181).getD (Int.toNat 0) 0 = -1 from rfl] at hv
  rw [x_w_id (by omega) (by omega)] at hv2
  rw [hv, hv2]
  exact u_X1_isOfKind_7 w a (-1) (d + 1) ⟨fun z => by omega, fun z => ⟨fun z2 => h0 (fun e => z3 e.symm), fun z2 => by omega⟩⟩
theorem c_iok1 {w a d : Int} (hd : 0 ≤ d ∧ d ≤ 4) (h1 : a = 1 ∨ a = 0 → Q (some (0, 1)) M) (h0 : ¬ (a = 1 ∨ a = 0) → Q (some (0, 0)) M) : x_Ev l E (1, 0, 0) m_X1_isOfKind 7 [(11, w), (0, a), (0, 1), (0, d)] [] M Q := by
  refine u_X1_isOfKind_7 w a 1 d ⟨fun z => by omega, fun z => ⟨fun z2 => by omega, fun z2 => ⟨fun z3 => ⟨by omega, fun v hv v2 hv2 => ?_⟩, fun z3 => h1 (Or.inl z3.symm)⟩⟩⟩
  rw [show (x_SC 181).getD (Int.toNat 1) 0 = 0 from rfl] at hv
  rw [x_w_id (by omega) (by omega)] at hv2
  rw [hv, hv2]
  exact c_iok0 (by omega) (fun e => h1 (Or.inr e)) (fun e => h0 (by omega))
theorem c_iok2 {w a d : Int} (hd : 0 ≤ d ∧ d ≤ 4) (h1 : a = 2 ∨ a = 0 → Q (some (0, 1)) M) (h0 : ¬ (a = 2 ∨ a = 0) → Q (some (0, 0)) M) : x_Ev l E (1, 0, 0) m_X1_isOfKind 7 [(11, w), (0, a), (0, 2), (0, d)] [] M Q := by
  refine u_X1_isOfKind_7 w a 2 d ⟨fun z => by omega, fun z => ⟨fun z2 => by omega, fun z2 => ⟨fun z3 => ⟨by omega, fun v hv v2 hv2 => ?_⟩, fun z3 => h1 (Or.inl z3.symm)⟩⟩⟩
  rw [show (x_SC 181).getD (Int.toNat 2) 0 = 0 from rfl] at hv
  rw [x_w_id (by omega) (by omega)] at hv2
  rw [hv, hv2]
  exact c_iok0 (by omega) (fun e => h1 (Or.inr e)) (fun e => h0 (by omega))
theorem c_iok3 {w a d : Int} (hd : 0 ≤ d ∧ d ≤ 3) (h1 : a = 3 ∨ a = 1 ∨ a = 0 → Q (some (0, 1)) M) (h0 : ¬ (a = 3 ∨ a = 1 ∨ a = 0) → Q (some (0, 0)) M) : x_Ev l E (1, 0, 0) m_X1_isOfKind 7 [(11, w), (0, a), (0, 3), (0, d)] [] M Q := by
  refine u_X1_isOfKind_7 w a 3 d ⟨fun z => by omega, fun z => ⟨fun z2 => by omega, fun z2 => ⟨fun z3 => ⟨by omega, fun v hv v2 hv2 => ?_⟩, fun z3 => h1 (Or.inl z3.symm)⟩⟩⟩
  rw [show (x_SC 181).getD (Int.toNat 3) 0 = 1 from rfl] at hv
  rw [x_w_id (by omega) (by omega)] at hv2
  rw [hv, hv2]
  exact c_iok1 (by omega) (fun e => h1 (Or.inr e)) (fun e => h0 (by omega))
theorem c_iok45 {w a d k : Int} (hk : k = 4 ∨ k = 5) (hd : 0 ≤ d ∧ d ≤ 3) (h1 : a = k ∨ a = 2 ∨ a = 0 → Q (some (0, 1)) M) (h0 : ¬ (a = k ∨ a = 2 ∨ a = 0) → Q (some (0, 0)) M) : x_Ev l E (1, 0, 0) m_X1_isOfKind 7 [(11, w), (0, a), (0, k), (0, d)] [] M Q := by
  refine u_X1_isOfKind_7 w a k d ⟨fun z => by omega, fun z => ⟨fun z2 => by omega, fun z2 => ⟨fun z3 => ⟨by omega, fun v hv v2 hv2 => ?_⟩, fun z3 => h1 (Or.inl z3.symm)⟩⟩⟩
  have hv' : v = 2 := by
    rcases hk with e | e
    · rw [hv, e]; rfl
    · rw [hv, e]; rfl
  rw [x_w_id (by omega) (by omega)] at hv2
  rw [hv', hv2]
  exact c_iok2 (by omega) (fun e => h1 (Or.inr e)) (fun e => h0 (by omega))
theorem c_iok6 {w a d : Int} (hd : 0 ≤ d ∧ d ≤ 2) (h1 : a = 6 ∨ a = 3 ∨ a = 1 ∨ a = 0 → Q (some (0, 1)) M) (h0 : ¬ (a = 6 ∨ a = 3 ∨ a = 1 ∨ a = 0) → Q (some (0, 0)) M) : x_Ev l E (1, 0, 0) m_X1_isOfKind 7 [(11, w), (0, a), (0, 6), (0, d)] [] M Q := by
  refine u_X1_isOfKind_7 w a 6 d ⟨fun z => by omega, fun z => ⟨fun z2 => by omega, fun z2 => ⟨fun z3 => ⟨by omega, fun v hv v2 hv2 => ?_⟩, fun z3 => h1 (Or.inl z3.symm)⟩⟩⟩
  rw [show (x_SC 181).getD (Int.toNat 6) 0 = 3 from rfl] at hv
  rw [x_w_id (by omega) (by omega)] at hv2
  rw [hv, hv2]
  exact c_iok3 (by omega) (fun e => h1 (Or.inr e)) (fun e => h0 (by omega))
theorem k_iok {w a : Int} (hk : 0 ≤ M w 0 ∧ M w 0 ≤ 6) (h1 : p_und (M w 0) a → Q (some (0, 1)) M) (h0 : ¬ p_und (M w 0) a → Q (some (0, 0)) M) : x_Ev l E (1, 0, 0) m_X1_isOfKind 0 [(11, w), (0, a), (5, 0), (5, 0)] [] M Q := by
  refine u_X1_isOfKind_0 w a ?_
  intro v hv
  rw [hv]
  unfold p_und at h1 h0
  have cs : M w 0 = 0 ∨ M w 0 = 1 ∨ M w 0 = 2 ∨ M w 0 = 3 ∨ M w 0 = 4 ∨ M w 0 = 5 ∨ M w 0 = 6 := by omega
  rcases cs with e | e | e | e | e | e | e <;> rw [e] at h1 h0 ⊢
  · exact c_iok0 (by omega) (fun q => h1 (by omega)) (fun q => h0 (by omega))
  · exact c_iok1 (by omega) (fun q => h1 (by omega)) (fun q => h0 (by omega))
  · exact c_iok2 (by omega) (fun q => h1 (by omega)) (fun q => h0 (by omega))
  · exact c_iok3 (by omega) (fun q => h1 (by omega)) (fun q => h0 (by omega))
  · exact c_iok45 (by omega) (by omega) (fun q => h1 (by omega)) (fun q => h0 (by omega))
  · exact c_iok45 (by omega) (by omega) (fun q => h1 (by omega)) (fun q => h0 (by omega))
  · exact c_iok6 (by omega) (fun q => h1 (by omega)) (fun q => h0 (by omega))
theorem k_hnp (hA : p_WF A) (hC : p_CI A M) {p : Int} (hp : 0 ≤ p ∧ p < 10) (h1 : p_hd A p.toNat → Q (some (0, 1)) M) (h0 : ¬ p_hd A p.toNat → Q (some (0, 0)) M) : x_Ev l E (1, 0, 0) m_X7_holdsNow 0 [(17, 90 + p), (19, 6)] [] M Q := by
  have e : ((p.toNat : Nat) : Int) = p := by omega
  have := k_hn hA hC (i := p.toNat) (by omega) h1 h0 (l := l) (E := E)
  rw [e] at this
  exact this
theorem r_hsp (hA : p_WF A) (hR : p_RI A M) {p : Int} (hp : 0 ≤ p ∧ p < 10) (h1 : p_hd A p.toNat → Q (some (0, 1)) M) (h0 : ¬ p_hd A p.toNat → Q (some (0, 0)) M) : x_Ev l E (1, 0, 0) m_X11_holds 0 [(21, 103), (0, p)] [] M Q := by
  have e : ((p.toNat : Nat) : Int) = p := by omega
  have := r_hs hA hR (i := p.toNat) (by omega) h1 h0 (l := l) (E := E)
  rw [e] at this
  exact this
theorem r_und {kd a : Int} (h1 : p_und kd a → Q (some (0, 1)) M) (h0 : ¬ p_und kd a → Q (some (0, 0)) M) : x_Ev l E (1, 0, 0) m_X11_isUnder 0 [(21, 103), (0, kd), (0, a)] [] M Q := by
  unfold p_und at h1 h0
  refine u_X11_isUnder_0 kd a ⟨fun c => h1 (by omega), fun c => ⟨fun d => h1 (by omega), fun d => ⟨fun e => ⟨fun e2 => ⟨fun g => ⟨fun g2 => h0 (by omega), fun g2 => h1 (by omega)⟩, fun g => ⟨fun g2 => h0 (by omega), fun g2 => ⟨fun g3 => h0 (by omega), fun g3 => h1 (by omega)⟩⟩⟩, fun e2 => ⟨fun g => h1 (by omega), fun g => ⟨fun g2 => h1 (by omega), fun g2 => h0 (by omega)⟩⟩⟩, fun e => ⟨fun g => h1 (by omega), fun g => h0 (by omega)⟩⟩⟩⟩
def p_tk (A : xM) (p a : Int) : Prop := (a < 7 ∧ A 552 p = 1 ∧ p_und (A (9 + 4 * A 553 p) 0) a) ∨ (a = 7 ∧ A 552 p = 2) ∨ (8 ≤ a ∧ A 552 p = 3 ∧ A 554 p = a - 8)
noncomputable def o_taken (A : xM) (p a : Int) : Int × xM := p_if ((0 ≤ p ∧ p < 10) ∧ 0 ≤ a ∧ a ≤ 10) (p_if (p_hd A p.toNat) (p_if (p_tk A p a) (A 553 p, A) (p_err A 2)) (p_err A 5)) (p_err A 0)
theorem wf_taken (hA : p_WF A) (p a : Int) : p_WF (o_taken A p a).2 := by
  unfold o_taken
  by_cases c : (0 ≤ p ∧ p < 10) ∧ 0 ≤ a ∧ a ≤ 10
  · rw [p_if_t c]
    by_cases d : p_hd A p.toNat
    · rw [p_if_t d]
      by_cases e : p_tk A p a
      · rw [p_if_t e]; exact hA
      · rw [p_if_f e]; exact wf_tl hA 2
    · rw [p_if_f d]; exact wf_tl hA 5
  · rw [p_if_f c]; exact wf_tl hA 0
theorem k_taken (hA : p_WF A) (hC : p_CI A M) {p a : Int} (h : ∀ M1, p_CI (o_taken A p a).2 M1 → p_cfr M M1 → Q (some (0, (o_taken A p a).1)) M1) : x_Ev l E (2, 0, 0) m_X10_taken 0 [(20, 5), (0, p), (0, a), (5, 0), (5, 0)] [] M Q := by
  unfold o_taken at h
  have w0 := hA.1.1
  have bad : ¬ ((0 ≤ p ∧ p < 10) ∧ 0 ≤ a ∧ a ≤ 10) → x_Ev l E (1, 0, 0) m_X10_tell 0 [(20, 5), (0, 0)] [] M (fun r M3 => ∃ z, r = some (0, z) ∧ Q (some (0, z)) M3) := fun c => by
    rw [p_if_f c] at h
    exact k_tl hA hC (by omega) (fun M1 a b => ⟨_, rfl, h M1 a b⟩)
  refine u_X10_taken_0 p a (k_NSp (fun c => x_y1 (by omega) (bad (fun q => c q.1))) (fun c => x_y0 ⟨fun d => bad (by omega), fun d => ⟨fun d2 => ⟨by omega, ?_⟩, fun d2 => bad (by omega)⟩⟩))
  rw [p_if_t ⟨c, by omega⟩] at h
  rw [show 89 + 1 + 1 * p = 90 + p by omega]
  obtain ⟨x, hx⟩ : ∃ x : Nat, p = x := ⟨p.toNat, by omega⟩
  have tn : p.toNat = x := by omega
  obtain ⟨s1, s2, s3, s4⟩ := hC.2.2.2.2.2.2.2 p c.1 c.2
  obtain ⟨v1, v2, v3, v4, v5⟩ := hA.2.2.2.2.2.1 p c.1 c.2
  refine k_hnp hA hC c (fun g => x_y1 (by omega) ?_) (fun g => x_y0 ?_)
  · rw [p_if_t g] at h
    have other : ¬ p_tk A p a → x_Ev l E (1, 0, 0) m_X10_tell 0 [(20, 5), (0, 2)] [] M (fun r M3 => ∃ z, r = some (0, z) ∧ Q (some (0, z)) M3) := fun c => by
      rw [p_if_f c] at h
      exact k_tl hA hC (by omega) (fun M1 a b => ⟨_, rfl, h M1 a b⟩)
    have ok : p_tk A p a → Q (some (0, A 553 p)) M := fun c => by
      rw [p_if_t c] at h
      exact h M hC (p_cfr_rf M)
    have tail : ¬ ((a < 7 ∧ A 552 p = 1 ∧ p_und (A (9 + 4 * A 553 p) 0) a) ∨ (a = 7 ∧ A 552 p = 2)) → ((M (90 + p) 2) < 0 → x_Ev l E (1, 0, 0) m_X10_tell 0 [(20, 5), (0, 2)] [] M (fun r zM9 => ∃ zr10, r = some (0, zr10) ∧ Q (some (0, zr10)) zM9)) ∧ (¬ (M (90 + p) 2) < 0 → (0 ≤ (M (90 + p) 2)) ∧ (¬ (M (M (90 + p) 2) 0) = (x_w (a - 8)) → x_Ev l E (1, 0, 0) m_X10_tell 0 [(20, 5), (0, 2)] [] M (fun r zM11 => ∃ zr12, r = some (0, zr12) ∧ Q (some (0, zr12)) zM11)) ∧ ((M (M (90 + p) 2) 0) = (x_w (a - 8)) → (0 ≤ (M (90 + p) 2)) ∧ (0 ≤ M (((M (90 + p) 2) + 1) - 1) 1 ∧ M (((M (90 + p) 2) + 1) - 1) 1 < 2147483648) ∧ Q (some (0, (M (((M (90 + p) 2) + 1) - 1) 1))) M)) := by
      intro nt
      by_cases e3 : A 552 p = 3
      · obtain ⟨r1, r2, r3, r4, r5, r6⟩ := s4 e3
        have v5' := v5 e3
        rw [x_w_id (by omega) (by omega), r5, show M (90 + p) 2 + 1 - 1 = M (90 + p) 2 by omega, r6]
        refine ⟨fun z => by omega, fun z => ⟨by omega, fun z2 => other (fun t => ?_), fun z2 => ⟨by omega, ?_, ok (Or.inr (Or.inr ⟨by omega, e3, z2⟩))⟩⟩⟩
        · rcases t with t | t | t
          · exact nt (Or.inl t)
          · exact nt (Or.inr t)
          · exact z2 t.2.2
        · exact ⟨v2 (Or.inr e3), v3.2⟩
      · have e1 := s3 e3
        refine ⟨fun z => other (fun t => ?_), fun z => by omega⟩
        rcases t with t | t | t
        · exact nt (Or.inl t)
        · exact nt (Or.inr t)
        · exact e3 t.2.1
    rw [s1]
    refine ⟨fun z => ⟨fun z2 => tail (by omega), fun z2 => ⟨fun z3 => tail (by omega), fun z3 => ?_⟩⟩, fun z => ⟨fun z2 => tail (by omega), fun z2 => ?_⟩⟩
    · rw [s2 (Or.inr z3)]
      exact ok (Or.inr (Or.inl ⟨z2, z3⟩))
    · have e5 := s2 (Or.inl z2)
      have nn := v2 (Or.inl z2)
      have lt : A 553 p < A 6 0 := by
        unfold p_hd at g
        rw [show ((p.toNat : Nat) : Int) = p by omega] at g
        omega
      have kd := p_kd0 hA (f := A 553 p) ⟨nn, lt⟩
      have ek : M (9 + 4 * A 553 p) 0 = A (9 + 4 * A 553 p) 0 := hC.1 _ _ (by omega) (by omega)
      rw [e5, show 8 + 1 + 4 * A 553 p = 9 + 4 * A 553 p by omega]
      refine ⟨by omega, k_iok (by omega) (fun q => x_n1 (by omega) ?_) (fun q => x_n0 (tail (fun t => ?_)))⟩
      · rw [e5]
        rw [ek] at q
        exact ok (Or.inl ⟨by omega, z2, q⟩)
      · rw [ek] at q
        rcases t with t | t
        · exact q t.2.2
        · omega
  · rw [p_if_f g] at h
    exact k_tl hA hC (by omega) (fun M1 a b => ⟨_, rfl, h M1 a b⟩)
theorem r_taken (hA : p_WF A) (hR : p_RI A M) {p a : Int} (h : ∀ M1, p_RI (o_taken A p a).2 M1 → p_rfr M M1 → Q (some (0, (o_taken A p a).1)) M1) : x_Ev l E (2, 0, 0) m_X11_taken 0 [(21, 103), (0, p), (0, a), (5, 0)] [] M Q := by
  unfold o_taken at h
  have w0 := hA.1.1
  have bad : ¬ ((0 ≤ p ∧ p < 10) ∧ 0 ≤ a ∧ a ≤ 10) → x_Ev l E (1, 0, 0) m_X11_finds 0 [(21, 103), (0, 0)] [] M (fun r M3 => ∃ z, r = some (0, z) ∧ Q (some (0, z)) M3) := fun c => by
    rw [p_if_f c] at h
    exact r_tl hA hR (by omega) (fun M1 a b => ⟨_, rfl, h M1 a b⟩)
  refine u_X11_taken_0 p a (r_in (fun c => x_n1 (by omega) (r_in (fun d => x_y1 (by omega) ?_) (fun d => x_y0 (bad (fun q => d q.2))))) (fun c => x_n0 (bad (fun q => c (by omega)))))
  rw [p_if_t ⟨by omega, d⟩] at h
  obtain ⟨x, hx⟩ : ∃ x : Nat, p = x := ⟨p.toNat, by omega⟩
  have tn : p.toNat = x := by omega
  obtain ⟨s1, s2, s3⟩ := hR.2.2.2.2.2.1 p (by omega) (by omega)
  obtain ⟨v1, v2, v3, v4, v5⟩ := hA.2.2.2.2.2.1 p (by omega) (by omega)
  refine r_hsp hA hR (by omega) (fun g => x_y1 (by omega) ?_) (fun g => x_y0 ?_)
  · rw [p_if_t g] at h
    have other : ¬ p_tk A p a → x_Ev l E (1, 0, 0) m_X11_finds 0 [(21, 103), (0, 2)] [] M (fun r M3 => ∃ z, r = some (0, z) ∧ Q (some (0, z)) M3) := fun c => by
      rw [p_if_f c] at h
      exact r_tl hA hR (by omega) (fun M1 a b => ⟨_, rfl, h M1 a b⟩)
    have ok : p_tk A p a → Q (some (0, A 553 p)) M := fun c => by
      rw [p_if_t c] at h
      exact h M hR (p_rfr_rf M)
    rw [s1, x_w_id (by omega) (by omega)]
    refine ⟨fun z => ⟨fun z2 => ⟨by omega, fun z3 => other (by unfold p_tk; omega), fun z3 => ⟨by omega, fun z4 => ?_, fun z4 => ⟨by omega, ?_⟩⟩⟩, fun z2 => ⟨by omega, fun z3 => other (by unfold p_tk; omega), fun z3 => ⟨by omega, ?_⟩⟩⟩, fun z => ⟨by omega, fun z3 => other (by unfold p_tk; omega), fun z3 => ?_⟩⟩
    · rw [s3 z3] at z4
      exact other (by unfold p_tk; omega)
    · rw [s3 z3] at z4
      rw [s2 (by omega)]
      exact ok (Or.inr (Or.inr ⟨by omega, z3, z4⟩))
    · rw [s2 (by omega)]
      exact ok (Or.inr (Or.inl ⟨z2, z3⟩))
    · have nn := v2 (Or.inl z3)
      have lt : A 553 p < A 6 0 := by
        unfold p_hd at g
        rw [show ((p.toNat : Nat) : Int) = p by omega] at g
        omega
      have e5 := s2 (by omega)
      have ek := (p_RI_f hA hR (a := A 553 p) ⟨nn, lt⟩).1.1
      rw [p_Fs0 A nn] at ek
      rw [e5, ek]
      refine ⟨by omega, by omega, r_und (fun q => x_n1 (by omega) ⟨by omega, by rw [e5]; exact ok (Or.inl ⟨by omega, z3, q⟩)⟩) (fun q => x_n0 (other (fun t => ?_)))⟩
      rcases t with t | t | t
      · exact q t.2.2
      · omega
      · omega
  · rw [p_if_f g] at h
    exact r_tl hA hR (by omega) (fun M1 a b => ⟨_, rfl, h M1 a b⟩)
end P19
