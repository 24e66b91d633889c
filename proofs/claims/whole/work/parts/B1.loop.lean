/-! The law's loop -/
theorem x_Ev.wide {l : Launch} {E : xE} {z z' : Nat × Nat × Nat} {y : xMT} {pc : Nat} {ls st : List xV} {M : xM} {Q : Option xV → xM → Prop} (k : x_Ev l E z' y pc ls st M Q) (h1 : z'.1 = z.1) (h2 : z'.2.1 ≤ z.2.1) (h3 : z'.2.2 ≤ z.2.2) : x_Ev l E z y pc ls st M Q := by
  intro p e R s m args below meth c H locs cells slots lr hM hC hf hl hc hs hN hlo hL hol hos
  refine W.widen (k := cells + (z.2.1 - z'.2.1)) (n := slots + (z.2.2 - z'.2.2)) (by omega) (by omega) ?_
  have h := k p e R s m args below meth c H locs (cells + (z.2.1 - z'.2.1)) (slots + (z.2.2 - z'.2.2)) lr hM hC (by rw [h1]; exact hf) (by rw [h1]; exact hl) (by omega) (by omega) hN hlo hL hol hos
  rw [show cells + (z.2.1 - z'.2.1) + z'.2.1 = cells + z.2.1 by omega, show slots + (z.2.2 - z'.2.2) + z'.2.2 = slots + z.2.2 by omega] at h
  exact h
theorem x_Ev.L3 {l : Launch} {E : xE} {z : Nat × Nat × Nat} {y : xMT} {pc : Nat} {ls st : List xV} {M : xM} {Q : Option xV → xM → Prop} (h : x_L E ≤ 3072 → x_Ev l E z y pc ls st M Q) : x_Ev l E z y pc ls st M Q := by
  intro p e R s m args below meth c H locs cells slots lr hM hC hf hl hc hs hN hlo hL hol hos
  exact h hN.2.2.1.1.1 p e R s m args below meth c H locs cells slots lr hM hC hf hl hc hs hN hlo hL hol hos
theorem x_lor_rg (a b : Int) : x_rg 1 (x_lor a b) := x_rgL _
section P26
variable {l : Launch} {E : xE} {Q : Option xV → xM → Prop} {A M : xM} {mc ms : Nat} {l3 : Int}
def p_K (l : Launch) (E : xE) (mc ms : Nat) (l3 : Int) (Q : Option xV → xM → Prop) : Prop := ∀ A M, p_WF A → p_CI A M → p_RI A M → x_Ev l E (13, mc, ms) m_L_law 1994 [(180, 0), (20, 5), (21, 103), (0, l3)] [] M Q
theorem p_RI_cfr {M1 : xM} (hA : p_WF A) (hR : p_RI A M) (cf : p_cfr M M1) : p_RI A M1 := p_RI_fr hA hR (fun a k q1 q2 _ => cf a k q1 q2)
theorem p_bx {k : Int} (hl : 0 ≤ l3 ∧ l3 + 5 < x_L E) (hL : x_L E ≤ 3072) (hk : 0 ≤ k ∧ k ≤ 5) : (0 : Int) ≤ x_w (l3 + k) ∧ x_w (l3 + k) < x_L E := by
  rw [x_w_id (by omega) (by omega)]; omega

theorem l_follower (hA : p_WF A) (hC : p_CI A M) (hR : p_RI A M) (hl : 0 ≤ l3 ∧ l3 + 5 < x_L E) (hL : x_L E ≤ 3072) (K : p_K l E mc ms l3 Q) : x_Ev l E (13, mc + 2, ms + 42) m_L_law 244 [(180, 0), (20, 5), (21, 103), (0, l3)] [] M Q := by
  refine u_L_law_244 mc ms l3 ⟨p_bx hl hL (by omega), p_bx hl hL (by omega), k_follower hA hC (fun M1 c1 cf => ⟨_, rfl, p_bx hl hL (by omega), p_bx hl hL (by omega), r_follower hA (p_RI_cfr hA hR cf) (fun M2 r1 rf => ⟨_, rfl, fun _ => ?_, fun ne => absurd rfl ne⟩)⟩)⟩
  exact (K _ M2 (wf_follower hA _ _) (p_CI_rfr c1 rf) r1).wide rfl (by show mc ≤ mc + 2; omega) (by show ms ≤ ms + 42; omega)

theorem l_become (hA : p_WF A) (hC : p_CI A M) (hR : p_RI A M) (hl : 0 ≤ l3 ∧ l3 + 5 < x_L E) (hL : x_L E ≤ 3072) (K : p_K l E mc ms l3 Q) : x_Ev l E (13, mc + 2, ms + 42) m_L_law 277 [(180, 0), (20, 5), (21, 103), (0, l3)] [] M Q := by
  refine u_L_law_277 mc ms l3 ⟨p_bx hl hL (by omega), p_bx hl hL (by omega), k_become hA hC (fun M1 c1 cf => ⟨_, rfl, p_bx hl hL (by omega), p_bx hl hL (by omega), r_become hA (p_RI_cfr hA hR cf) (fun M2 r1 rf => ⟨_, rfl, fun _ => ?_, fun ne => absurd rfl ne⟩)⟩)⟩
  exact (K _ M2 (wf_become hA _ _) (p_CI_rfr c1 rf) r1).wide rfl (by show mc ≤ mc + 2; omega) (by show ms ≤ ms + 42; omega)

theorem l_of (hA : p_WF A) (hC : p_CI A M) (hR : p_RI A M) (hl : 0 ≤ l3 ∧ l3 + 5 < x_L E) (hL : x_L E ≤ 3072) (K : p_K l E mc ms l3 Q) : x_Ev l E (13, mc + 2, ms + 42) m_L_law 310 [(180, 0), (20, 5), (21, 103), (0, l3)] [] M Q := by
  refine u_L_law_310 mc ms l3 ⟨p_bx hl hL (by omega), p_bx hl hL (by omega), k_of hA hC (fun M1 c1 cf => ⟨_, rfl, p_bx hl hL (by omega), p_bx hl hL (by omega), r_of hA (p_RI_cfr hA hR cf) (fun M2 r1 rf => ⟨_, rfl, fun _ => ?_, fun ne => absurd rfl ne⟩)⟩)⟩
  exact (K _ M2 (wf_of hA _ _) (p_CI_rfr c1 rf) r1).wide rfl (by show mc ≤ mc + 2; omega) (by show ms ≤ ms + 42; omega)

theorem l_good (hA : p_WF A) (hC : p_CI A M) (hR : p_RI A M) (hl : 0 ≤ l3 ∧ l3 + 5 < x_L E) (hL : x_L E ≤ 3072) (K : p_K l E mc ms l3 Q) : x_Ev l E (13, mc + 2, ms + 42) m_L_law 343 [(180, 0), (20, 5), (21, 103), (0, l3)] [] M Q := by
  refine u_L_law_343 mc ms l3 ⟨p_bx hl hL (by omega), p_bx hl hL (by omega), p_bx hl hL (by omega), p_bx hl hL (by omega), k_good hA hC (fun M1 c1 cf => ⟨_, rfl, p_bx hl hL (by omega), p_bx hl hL (by omega), p_bx hl hL (by omega), p_bx hl hL (by omega), r_good hA (p_RI_cfr hA hR cf) (fun M2 r1 rf => ⟨_, rfl, fun _ => ?_, fun ne => absurd rfl ne⟩)⟩)⟩
  exact (K _ M2 (wf_good hA _ _ _ _) (p_CI_rfr c1 rf) r1).wide rfl (by show mc ≤ mc + 2; omega) (by show ms ≤ ms + 42; omega)

theorem l_goodOf (hA : p_WF A) (hC : p_CI A M) (hR : p_RI A M) (hl : 0 ≤ l3 ∧ l3 + 5 < x_L E) (hL : x_L E ≤ 3072) (K : p_K l E mc ms l3 Q) : x_Ev l E (13, mc + 2, ms + 42) m_L_law 396 [(180, 0), (20, 5), (21, 103), (0, l3)] [] M Q := by
  refine u_L_law_396 mc ms l3 ⟨p_bx hl hL (by omega), p_bx hl hL (by omega), p_bx hl hL (by omega), k_goodOf hA hC (fun M1 c1 cf => ⟨_, rfl, p_bx hl hL (by omega), p_bx hl hL (by omega), p_bx hl hL (by omega), r_goodOf hA (p_RI_cfr hA hR cf) (fun M2 r1 rf => ⟨_, rfl, fun _ => ?_, fun ne => absurd rfl ne⟩)⟩)⟩
  exact (K _ M2 (wf_goodOf hA _ _ _) (p_CI_rfr c1 rf) r1).wide rfl (by show mc ≤ mc + 2; omega) (by show ms ≤ ms + 42; omega)

theorem l_budget (hA : p_WF A) (hC : p_CI A M) (hR : p_RI A M) (hl : 0 ≤ l3 ∧ l3 + 5 < x_L E) (hL : x_L E ≤ 3072) (K : p_K l E mc ms l3 Q) : x_Ev l E (13, mc + 2, ms + 42) m_L_law 439 [(180, 0), (20, 5), (21, 103), (0, l3)] [] M Q := by
  refine u_L_law_439 mc ms l3 ⟨p_bx hl hL (by omega), p_bx hl hL (by omega), p_bx hl hL (by omega), k_budget hA hC (fun M1 c1 cf => ⟨_, rfl, p_bx hl hL (by omega), p_bx hl hL (by omega), p_bx hl hL (by omega), r_budget hA (p_RI_cfr hA hR cf) (fun M2 r1 rf => ⟨_, rfl, fun _ => ?_, fun ne => absurd rfl ne⟩)⟩)⟩
  exact (K _ M2 (wf_budget hA _ _ _) (p_CI_rfr c1 rf) r1).wide rfl (by show mc ≤ mc + 2; omega) (by show ms ≤ ms + 42; omega)

theorem l_bind (hA : p_WF A) (hC : p_CI A M) (hR : p_RI A M) (hl : 0 ≤ l3 ∧ l3 + 5 < x_L E) (hL : x_L E ≤ 3072) (K : p_K l E mc ms l3 Q) : x_Ev l E (13, mc + 2, ms + 42) m_L_law 482 [(180, 0), (20, 5), (21, 103), (0, l3)] [] M Q := by
  refine u_L_law_482 mc ms l3 ⟨p_bx hl hL (by omega), p_bx hl hL (by omega), p_bx hl hL (by omega), k_bind hA hC (fun M1 c1 cf => ⟨_, rfl, p_bx hl hL (by omega), p_bx hl hL (by omega), p_bx hl hL (by omega), r_bind hA (p_RI_cfr hA hR cf) (fun M2 r1 rf => ⟨_, rfl, fun _ => ?_, fun ne => absurd rfl ne⟩)⟩)⟩
  exact (K _ M2 (wf_bind hA _ _ _) (p_CI_rfr c1 rf) r1).wide rfl (by show mc ≤ mc + 2; omega) (by show ms ≤ ms + 42; omega)

theorem l_loosen (hA : p_WF A) (hC : p_CI A M) (hR : p_RI A M) (hl : 0 ≤ l3 ∧ l3 + 5 < x_L E) (hL : x_L E ≤ 3072) (K : p_K l E mc ms l3 Q) : x_Ev l E (13, mc + 2, ms + 42) m_L_law 525 [(180, 0), (20, 5), (21, 103), (0, l3)] [] M Q := by
  refine u_L_law_525 mc ms l3 ⟨p_bx hl hL (by omega), p_bx hl hL (by omega), k_loosen hA hC (fun M1 c1 cf => ⟨_, rfl, p_bx hl hL (by omega), p_bx hl hL (by omega), r_loosen hA (p_RI_cfr hA hR cf) (fun M2 r1 rf => ⟨_, rfl, fun _ => ?_, fun ne => absurd rfl ne⟩)⟩)⟩
  exact (K _ M2 (wf_loosen hA _ _) (p_CI_rfr c1 rf) r1).wide rfl (by show mc ≤ mc + 2; omega) (by show ms ≤ ms + 42; omega)

theorem l_rowOf (hA : p_WF A) (hC : p_CI A M) (hR : p_RI A M) (hl : 0 ≤ l3 ∧ l3 + 5 < x_L E) (hL : x_L E ≤ 3072) (K : p_K l E mc ms l3 Q) : x_Ev l E (13, mc + 2, ms + 42) m_L_law 558 [(180, 0), (20, 5), (21, 103), (0, l3)] [] M Q := by
  refine u_L_law_558 mc ms l3 ⟨p_bx hl hL (by omega), p_bx hl hL (by omega), p_bx hl hL (by omega), k_rowOf hA hC (fun M1 c1 cf => ⟨_, rfl, p_bx hl hL (by omega), p_bx hl hL (by omega), p_bx hl hL (by omega), r_rowOf hA (p_RI_cfr hA hR cf) (fun M2 r1 rf => ⟨_, rfl, fun _ => ?_, fun ne => absurd rfl ne⟩)⟩)⟩
  exact (K _ M2 (wf_rowOf hA _ _ _) (p_CI_rfr c1 rf) r1).wide rfl (by show mc ≤ mc + 2; omega) (by show ms ≤ ms + 42; omega)

theorem l_most (hA : p_WF A) (hC : p_CI A M) (hR : p_RI A M) (hl : 0 ≤ l3 ∧ l3 + 5 < x_L E) (hL : x_L E ≤ 3072) (K : p_K l E mc ms l3 Q) : x_Ev l E (13, mc + 2, ms + 42) m_L_law 601 [(180, 0), (20, 5), (21, 103), (0, l3)] [] M Q := by
  refine u_L_law_601 mc ms l3 ⟨p_bx hl hL (by omega), k_most hA hC (fun M1 c1 cf => ⟨_, rfl, p_bx hl hL (by omega), r_most hA (p_RI_cfr hA hR cf) (fun M2 r1 rf => ⟨_, rfl, fun _ => ?_, fun ne => absurd rfl ne⟩)⟩)⟩
  exact (K _ M2 (wf_most hA _) (p_CI_rfr c1 rf) r1).wide rfl (by show mc ≤ mc + 2; omega) (by show ms ≤ ms + 42; omega)

theorem l_term (hA : p_WF A) (hC : p_CI A M) (hR : p_RI A M) (hl : 0 ≤ l3 ∧ l3 + 5 < x_L E) (hL : x_L E ≤ 3072) (K : p_K l E mc ms l3 Q) : x_Ev l E (13, mc + 2, ms + 42) m_L_law 624 [(180, 0), (20, 5), (21, 103), (0, l3)] [] M Q := by
  refine u_L_law_624 mc ms l3 ⟨p_bx hl hL (by omega), p_bx hl hL (by omega), p_bx hl hL (by omega), p_bx hl hL (by omega), k_term hA hC (fun M1 c1 cf => ⟨_, rfl, p_bx hl hL (by omega), p_bx hl hL (by omega), p_bx hl hL (by omega), p_bx hl hL (by omega), r_term hA (p_RI_cfr hA hR cf) (fun M2 r1 rf => ⟨_, rfl, fun _ => ?_, fun ne => absurd rfl ne⟩)⟩)⟩
  exact (K _ M2 (wf_term hA _ _) (p_CI_rfr c1 rf) r1).wide rfl (by show mc ≤ mc + 2; omega) (by show ms ≤ ms + 42; omega)

theorem l_termOf (hA : p_WF A) (hC : p_CI A M) (hR : p_RI A M) (hl : 0 ≤ l3 ∧ l3 + 5 < x_L E) (hL : x_L E ≤ 3072) (K : p_K l E mc ms l3 Q) : x_Ev l E (13, mc + 2, ms + 42) m_L_law 717 [(180, 0), (20, 5), (21, 103), (0, l3)] [] M Q := by
  refine u_L_law_717 mc ms l3 ⟨p_bx hl hL (by omega), k_termOf hA hC (fun M1 c1 cf => ⟨_, rfl, p_bx hl hL (by omega), r_termOf hA (p_RI_cfr hA hR cf) (fun M2 r1 rf => ⟨_, rfl, fun _ => ?_, fun ne => absurd rfl ne⟩)⟩)⟩
  exact (K _ M2 (wf_termOf hA _) (p_CI_rfr c1 rf) r1).wide rfl (by show mc ≤ mc + 2; omega) (by show ms ≤ ms + 42; omega)

theorem l_amount (hA : p_WF A) (hC : p_CI A M) (hR : p_RI A M) (hl : 0 ≤ l3 ∧ l3 + 5 < x_L E) (hL : x_L E ≤ 3072) (K : p_K l E mc ms l3 Q) : x_Ev l E (13, mc + 2, ms + 42) m_L_law 741 [(180, 0), (20, 5), (21, 103), (0, l3)] [] M Q := by
  refine u_L_law_741 mc ms l3 ⟨p_bx hl hL (by omega), p_bx hl hL (by omega), p_bx hl hL (by omega), p_bx hl hL (by omega), k_amount hA hC (fun M1 c1 cf => ⟨_, rfl, p_bx hl hL (by omega), p_bx hl hL (by omega), p_bx hl hL (by omega), p_bx hl hL (by omega), r_amount hA (p_RI_cfr hA hR cf) (fun M2 r1 rf => ⟨_, rfl, fun _ => ?_, fun ne => absurd rfl ne⟩)⟩)⟩
  exact (K _ M2 (wf_amount hA _ _ _ _) (p_CI_rfr c1 rf) r1).wide rfl (by show mc ≤ mc + 2; omega) (by show ms ≤ ms + 42; omega)

theorem l_brings (hA : p_WF A) (hC : p_CI A M) (hR : p_RI A M) (hl : 0 ≤ l3 ∧ l3 + 5 < x_L E) (hL : x_L E ≤ 3072) (K : p_K l E mc ms l3 Q) : x_Ev l E (13, mc + 2, ms + 42) m_L_law 795 [(180, 0), (20, 5), (21, 103), (0, l3)] [] M Q := by
  refine u_L_law_795 mc ms l3 ⟨p_bx hl hL (by omega), p_bx hl hL (by omega), p_bx hl hL (by omega), p_bx hl hL (by omega), k_brings hA hC (fun M1 c1 cf => ⟨_, rfl, p_bx hl hL (by omega), p_bx hl hL (by omega), p_bx hl hL (by omega), p_bx hl hL (by omega), r_brings hA (p_RI_cfr hA hR cf) (fun M2 r1 rf => ⟨_, rfl, fun _ => ?_, fun ne => absurd rfl ne⟩)⟩)⟩
  exact (K _ M2 (wf_brings hA _ _ _ _) (p_CI_rfr c1 rf) r1).wide rfl (by show mc ≤ mc + 2; omega) (by show ms ≤ ms + 42; omega)

theorem l_total (hA : p_WF A) (hC : p_CI A M) (hR : p_RI A M) (hl : 0 ≤ l3 ∧ l3 + 5 < x_L E) (hL : x_L E ≤ 3072) (K : p_K l E mc ms l3 Q) : x_Ev l E (13, mc + 2, ms + 42) m_L_law 849 [(180, 0), (20, 5), (21, 103), (0, l3)] [] M Q := by
  refine u_L_law_849 mc ms l3 ⟨p_bx hl hL (by omega), p_bx hl hL (by omega), k_total hA hC (fun M1 c1 cf => ⟨_, rfl, p_bx hl hL (by omega), p_bx hl hL (by omega), r_total hA (p_RI_cfr hA hR cf) (fun M2 r1 rf => ⟨_, rfl, fun _ => ?_, fun ne => absurd rfl ne⟩)⟩)⟩
  exact (K _ M2 (wf_total hA _ _) (p_CI_rfr c1 rf) r1).wide rfl (by show mc ≤ mc + 2; omega) (by show ms ≤ ms + 42; omega)

theorem l_opens (hA : p_WF A) (hC : p_CI A M) (hR : p_RI A M) (hl : 0 ≤ l3 ∧ l3 + 5 < x_L E) (hL : x_L E ≤ 3072) (K : p_K l E mc ms l3 Q) : x_Ev l E (13, mc + 2, ms + 42) m_L_law 883 [(180, 0), (20, 5), (21, 103), (0, l3)] [] M Q := by
  refine u_L_law_883 mc ms l3 ⟨p_bx hl hL (by omega), p_bx hl hL (by omega), k_opens hA hC (fun M1 c1 cf => ⟨_, rfl, p_bx hl hL (by omega), p_bx hl hL (by omega), r_opens hA (p_RI_cfr hA hR cf) (fun M2 r1 rf => ⟨_, rfl, fun _ => ?_, fun ne => absurd rfl ne⟩)⟩)⟩
  exact (K _ M2 (wf_opens hA _ _) (p_CI_rfr c1 rf) r1).wide rfl (by show mc ≤ mc + 2; omega) (by show ms ≤ ms + 42; omega)

theorem l_openAt (hA : p_WF A) (hC : p_CI A M) (hR : p_RI A M) (hl : 0 ≤ l3 ∧ l3 + 5 < x_L E) (hL : x_L E ≤ 3072) (K : p_K l E mc ms l3 Q) : x_Ev l E (13, mc + 2, ms + 42) m_L_law 916 [(180, 0), (20, 5), (21, 103), (0, l3)] [] M Q := by
  refine u_L_law_916 mc ms l3 ⟨p_bx hl hL (by omega), p_bx hl hL (by omega), k_openAt hA hC (x_rgI _) (fun M1 c1 cf => ⟨_, rfl, p_bx hl hL (by omega), p_bx hl hL (by omega), r_openAt hA (p_RI_cfr hA hR cf) (fun M2 r1 rf => ⟨_, rfl, fun _ => ?_, fun ne => absurd rfl ne⟩)⟩)⟩
  exact (K _ M2 (wf_openAt hA _ _) (p_CI_rfr c1 rf) r1).wide rfl (by show mc ≤ mc + 2; omega) (by show ms ≤ ms + 42; omega)

theorem l_isOpen (hA : p_WF A) (hC : p_CI A M) (hR : p_RI A M) (hl : 0 ≤ l3 ∧ l3 + 5 < x_L E) (hL : x_L E ≤ 3072) (K : p_K l E mc ms l3 Q) : x_Ev l E (13, mc + 2, ms + 42) m_L_law 949 [(180, 0), (20, 5), (21, 103), (0, l3)] [] M Q := by
  refine u_L_law_949 mc ms l3 ⟨p_bx hl hL (by omega), p_bx hl hL (by omega), k_isOpen hA hC (fun M1 c1 cf => ⟨_, rfl, p_bx hl hL (by omega), p_bx hl hL (by omega), r_isOpen hA (p_RI_cfr hA hR cf) (fun M2 r1 rf => ⟨_, rfl, fun _ => ?_, fun ne => absurd rfl ne⟩)⟩)⟩
  exact (K _ M2 (wf_isOpen hA _ _) (p_CI_rfr c1 rf) r1).wide rfl (by show mc ≤ mc + 2; omega) (by show ms ≤ ms + 42; omega)

theorem l_price (hA : p_WF A) (hC : p_CI A M) (hR : p_RI A M) (hl : 0 ≤ l3 ∧ l3 + 5 < x_L E) (hL : x_L E ≤ 3072) (K : p_K l E mc ms l3 Q) : x_Ev l E (13, mc + 2, ms + 42) m_L_law 982 [(180, 0), (20, 5), (21, 103), (0, l3)] [] M Q := by
  refine u_L_law_982 mc ms l3 ⟨p_bx hl hL (by omega), p_bx hl hL (by omega), p_bx hl hL (by omega), k_price hA hC (fun M1 c1 cf => ⟨_, rfl, p_bx hl hL (by omega), p_bx hl hL (by omega), p_bx hl hL (by omega), r_price hA (p_RI_cfr hA hR cf) (fun M2 r1 rf => ⟨_, rfl, fun _ => ?_, fun ne => absurd rfl ne⟩)⟩)⟩
  exact (K _ M2 (wf_price hA _ _ _) (p_CI_rfr c1 rf) r1).wide rfl (by show mc ≤ mc + 2; omega) (by show ms ≤ ms + 42; omega)

theorem l_weigh (hA : p_WF A) (hC : p_CI A M) (hR : p_RI A M) (hl : 0 ≤ l3 ∧ l3 + 5 < x_L E) (hL : x_L E ≤ 3072) (K : p_K l E mc ms l3 Q) : x_Ev l E (13, mc + 2, ms + 42) m_L_law 1026 [(180, 0), (20, 5), (21, 103), (0, l3)] [] M Q := by
  refine u_L_law_1026 mc ms l3 ⟨p_bx hl hL (by omega), p_bx hl hL (by omega), k_weigh hA hC (fun M1 c1 cf => ⟨_, rfl, p_bx hl hL (by omega), p_bx hl hL (by omega), r_weigh hA (p_RI_cfr hA hR cf) (fun M2 r1 rf => ⟨_, rfl, fun _ => ?_, fun ne => absurd rfl ne⟩)⟩)⟩
  exact (K _ M2 (wf_weigh hA _ _) (p_CI_rfr c1 rf) r1).wide rfl (by show mc ≤ mc + 2; omega) (by show ms ≤ ms + 42; omega)

theorem l_breaks (hA : p_WF A) (hC : p_CI A M) (hR : p_RI A M) (hl : 0 ≤ l3 ∧ l3 + 5 < x_L E) (hL : x_L E ≤ 3072) (K : p_K l E mc ms l3 Q) : x_Ev l E (13, mc + 2, ms + 42) m_L_law 1059 [(180, 0), (20, 5), (21, 103), (0, l3)] [] M Q := by
  refine u_L_law_1059 mc ms l3 ⟨p_bx hl hL (by omega), k_breaks hA hC (fun M1 c1 cf => ⟨_, rfl, p_bx hl hL (by omega), r_breaks hA (p_RI_cfr hA hR cf) (fun M2 r1 rf => ⟨_, rfl, fun _ => ?_, fun ne => absurd rfl ne⟩)⟩)⟩
  exact (K _ M2 (wf_breaks hA _) (p_CI_rfr c1 rf) r1).wide rfl (by show mc ≤ mc + 2; omega) (by show ms ≤ ms + 42; omega)

theorem l_breakAt (hA : p_WF A) (hC : p_CI A M) (hR : p_RI A M) (hl : 0 ≤ l3 ∧ l3 + 5 < x_L E) (hL : x_L E ≤ 3072) (K : p_K l E mc ms l3 Q) : x_Ev l E (13, mc + 2, ms + 42) m_L_law 1082 [(180, 0), (20, 5), (21, 103), (0, l3)] [] M Q := by
  refine u_L_law_1082 mc ms l3 ⟨p_bx hl hL (by omega), p_bx hl hL (by omega), p_bx hl hL (by omega), k_breakAt hA hC (fun M1 c1 cf => ⟨_, rfl, p_bx hl hL (by omega), p_bx hl hL (by omega), p_bx hl hL (by omega), r_breakAt hA (p_RI_cfr hA hR cf) (fun M2 r1 rf => ⟨_, rfl, fun _ => ?_, fun ne => absurd rfl ne⟩)⟩)⟩
  exact (K _ M2 (wf_breakAt hA _ _ _) (p_CI_rfr c1 rf) r1).wide rfl (by show mc ≤ mc + 2; omega) (by show ms ≤ ms + 42; omega)

theorem l_piece (hA : p_WF A) (hC : p_CI A M) (hR : p_RI A M) (hl : 0 ≤ l3 ∧ l3 + 5 < x_L E) (hL : x_L E ≤ 3072) (K : p_K l E mc ms l3 Q) : x_Ev l E (13, mc + 2, ms + 42) m_L_law 1126 [(180, 0), (20, 5), (21, 103), (0, l3)] [] M Q := by
  refine u_L_law_1126 mc ms l3 ⟨p_bx hl hL (by omega), p_bx hl hL (by omega), k_piece hA hC (fun M1 c1 cf => ⟨_, rfl, p_bx hl hL (by omega), p_bx hl hL (by omega), r_piece hA (p_RI_cfr hA hR cf) (fun M2 r1 rf => ⟨_, rfl, fun _ => ?_, fun ne => absurd rfl ne⟩)⟩)⟩
  exact (K _ M2 (wf_piece hA _ _) (p_CI_rfr c1 rf) r1).wide rfl (by show mc ≤ mc + 2; omega) (by show ms ≤ ms + 42; omega)

theorem l_best (hA : p_WF A) (hC : p_CI A M) (hR : p_RI A M) (hl : 0 ≤ l3 ∧ l3 + 5 < x_L E) (hL : x_L E ≤ 3072) (K : p_K l E mc ms l3 Q) : x_Ev l E (13, mc + 2, ms + 42) m_L_law 1160 [(180, 0), (20, 5), (21, 103), (0, l3)] [] M Q := by
  refine u_L_law_1160 mc ms l3 ⟨p_bx hl hL (by omega), k_best hA hC (fun M1 c1 cf => ⟨_, rfl, p_bx hl hL (by omega), r_best hA (p_RI_cfr hA hR cf) (fun M2 r1 rf => ⟨_, rfl, fun _ => ?_, fun ne => absurd rfl ne⟩)⟩)⟩
  exact (K _ M2 (wf_best hA _) (p_CI_rfr c1 rf) r1).wide rfl (by show mc ≤ mc + 1; omega) (by show ms ≤ ms + 37; omega)

theorem l_asKind (hA : p_WF A) (hC : p_CI A M) (hR : p_RI A M) (hl : 0 ≤ l3 ∧ l3 + 5 < x_L E) (hL : x_L E ≤ 3072) (K : p_K l E mc ms l3 Q) : x_Ev l E (13, mc + 2, ms + 42) m_L_law 1184 [(180, 0), (20, 5), (21, 103), (0, l3)] [] M Q := by
  refine u_L_law_1184 mc ms l3 ⟨p_bx hl hL (by omega), p_bx hl hL (by omega), k_asKind hA hC (fun M1 c1 cf => ⟨_, rfl, p_bx hl hL (by omega), p_bx hl hL (by omega), r_asKind hA (p_RI_cfr hA hR cf) (fun M2 r1 rf => ⟨_, rfl, fun _ => ?_, fun ne => absurd rfl ne⟩)⟩)⟩
  exact (K _ M2 (wf_asKind hA _ _) (p_CI_rfr c1 rf) r1).wide rfl (by show mc ≤ mc + 0; omega) (by show ms ≤ ms + 34; omega)

theorem l_settle (hA : p_WF A) (hC : p_CI A M) (hR : p_RI A M) (hl : 0 ≤ l3 ∧ l3 + 5 < x_L E) (hL : x_L E ≤ 3072) (K : p_K l E mc ms l3 Q) : x_Ev l E (13, mc + 2, ms + 42) m_L_law 1218 [(180, 0), (20, 5), (21, 103), (0, l3)] [] M Q := by
  refine u_L_law_1218 mc ms l3 (k_settle hA hC (fun M1 w1 c1 cf => ⟨_, rfl, r_settle hA (p_RI_cfr hA hR cf) (fun M2 r1 rf => ⟨_, rfl, fun _ => ?_, fun ne => absurd rfl ne⟩)⟩))
  exact (K _ M2 w1 (p_CI_rfr c1 rf) r1).wide rfl (by show mc ≤ mc + 2; omega) (by show ms ≤ ms + 42; omega)

theorem l_kindFor (hA : p_WF A) (hC : p_CI A M) (hR : p_RI A M) (hl : 0 ≤ l3 ∧ l3 + 5 < x_L E) (hL : x_L E ≤ 3072) (K : p_K l E mc ms l3 Q) : x_Ev l E (13, mc + 2, ms + 42) m_L_law 1231 [(180, 0), (20, 5), (21, 103), (0, l3)] [] M Q := by
  refine u_L_law_1231 mc ms l3 ⟨p_bx hl hL (by omega), k_kindFor hA hC (fun M1 c1 cf => ⟨_, rfl, p_bx hl hL (by omega), r_kindFor hA (p_RI_cfr hA hR cf) (fun M2 r1 rf => ⟨_, rfl, fun _ => ?_, fun ne => absurd rfl ne⟩)⟩)⟩
  exact (K _ M2 (wf_kindFor hA _) (p_CI_rfr c1 rf) r1).wide rfl (by show mc ≤ mc + 2; omega) (by show ms ≤ ms + 42; omega)

theorem l_tollFor (hA : p_WF A) (hC : p_CI A M) (hR : p_RI A M) (hl : 0 ≤ l3 ∧ l3 + 5 < x_L E) (hL : x_L E ≤ 3072) (K : p_K l E mc ms l3 Q) : x_Ev l E (13, mc + 2, ms + 42) m_L_law 1254 [(180, 0), (20, 5), (21, 103), (0, l3)] [] M Q := by
  refine u_L_law_1254 mc ms l3 ⟨p_bx hl hL (by omega), p_bx hl hL (by omega), k_tollFor hA hC (fun M1 c1 cf => ⟨_, rfl, p_bx hl hL (by omega), p_bx hl hL (by omega), r_tollFor hA (p_RI_cfr hA hR cf) (fun M2 r1 rf => ⟨_, rfl, fun _ => ?_, fun ne => absurd rfl ne⟩)⟩)⟩
  exact (K _ M2 (wf_tollFor hA _ _) (p_CI_rfr c1 rf) r1).wide rfl (by show mc ≤ mc + 2; omega) (by show ms ≤ ms + 42; omega)

theorem l_without (hA : p_WF A) (hC : p_CI A M) (hR : p_RI A M) (hl : 0 ≤ l3 ∧ l3 + 5 < x_L E) (hL : x_L E ≤ 3072) (K : p_K l E mc ms l3 Q) : x_Ev l E (13, mc + 2, ms + 42) m_L_law 1287 [(180, 0), (20, 5), (21, 103), (0, l3)] [] M Q := by
  refine u_L_law_1287 mc ms l3 ⟨p_bx hl hL (by omega), k_without hA hC (fun M1 c1 cf => ⟨_, rfl, p_bx hl hL (by omega), r_without hA (p_RI_cfr hA hR cf) (fun M2 r1 rf => ⟨_, rfl, fun _ => ?_, fun ne => absurd rfl ne⟩)⟩)⟩
  exact (K _ M2 (wf_without hA _) (p_CI_rfr c1 rf) r1).wide rfl (by show mc ≤ mc + 2; omega) (by show ms ≤ ms + 42; omega)

theorem l_mostFor (hA : p_WF A) (hC : p_CI A M) (hR : p_RI A M) (hl : 0 ≤ l3 ∧ l3 + 5 < x_L E) (hL : x_L E ≤ 3072) (K : p_K l E mc ms l3 Q) : x_Ev l E (13, mc + 2, ms + 42) m_L_law 1310 [(180, 0), (20, 5), (21, 103), (0, l3)] [] M Q := by
  refine u_L_law_1310 mc ms l3 ⟨p_bx hl hL (by omega), k_mostFor hA hC (fun M1 c1 cf => ⟨_, rfl, p_bx hl hL (by omega), r_mostFor hA (p_RI_cfr hA hR cf) (fun M2 r1 rf => ⟨_, rfl, fun _ => ?_, fun ne => absurd rfl ne⟩)⟩)⟩
  exact (K _ M2 (wf_mostFor hA _) (p_CI_rfr c1 rf) r1).wide rfl (by show mc ≤ mc + 2; omega) (by show ms ≤ ms + 42; omega)

theorem l_round (hA : p_WF A) (hC : p_CI A M) (hR : p_RI A M) (hl : 0 ≤ l3 ∧ l3 + 5 < x_L E) (hL : x_L E ≤ 3072) (K : p_K l E mc ms l3 Q) : x_Ev l E (13, mc + 2, ms + 42) m_L_law 1333 [(180, 0), (20, 5), (21, 103), (0, l3)] [] M Q := by
  refine u_L_law_1333 mc ms l3 (k_round hA hC (fun M1 c1 cf => ⟨_, rfl, r_round hA (p_RI_cfr hA hR cf) (fun M2 r1 rf => ⟨_, rfl, fun _ => ?_, fun ne => absurd rfl ne⟩)⟩))
  exact (K _ M2 (wf_round hA) (p_CI_rfr c1 rf) r1).wide rfl (by show mc ≤ mc + 2; omega) (by show ms ≤ ms + 42; omega)

theorem l_loose (hA : p_WF A) (hC : p_CI A M) (hR : p_RI A M) (hl : 0 ≤ l3 ∧ l3 + 5 < x_L E) (hL : x_L E ≤ 3072) (K : p_K l E mc ms l3 Q) : x_Ev l E (13, mc + 2, ms + 42) m_L_law 1346 [(180, 0), (20, 5), (21, 103), (0, l3)] [] M Q := by
  refine u_L_law_1346 mc ms l3 ⟨p_bx hl hL (by omega), k_loose hA hC (fun M1 c1 cf => ⟨_, rfl, p_bx hl hL (by omega), r_loose hA (p_RI_cfr hA hR cf) (fun M2 r1 rf => ⟨_, rfl, fun _ => ?_, fun ne => absurd rfl ne⟩)⟩)⟩
  exact (K _ M2 (wf_loose hA _) (p_CI_rfr c1 rf) r1).wide rfl (by show mc ≤ mc + 2; omega) (by show ms ≤ ms + 42; omega)

theorem l_book (hA : p_WF A) (hC : p_CI A M) (hR : p_RI A M) (hl : 0 ≤ l3 ∧ l3 + 5 < x_L E) (hL : x_L E ≤ 3072) (K : p_K l E mc ms l3 Q) : x_Ev l E (13, mc + 2, ms + 42) m_L_law 1369 [(180, 0), (20, 5), (21, 103), (0, l3)] [] M Q := by
  refine u_L_law_1369 mc ms l3 ⟨p_bx hl hL (by omega), p_bx hl hL (by omega), p_bx hl hL (by omega), k_book hA hC (fun M1 c1 cf => ⟨_, rfl, p_bx hl hL (by omega), p_bx hl hL (by omega), p_bx hl hL (by omega), r_book hA (p_RI_cfr hA hR cf) (fun M2 r1 rf => ⟨_, rfl, fun _ => ?_, fun ne => absurd rfl ne⟩)⟩)⟩
  exact (K _ M2 (wf_book hA _ _) (p_CI_rfr c1 rf) r1).wide rfl (by show mc ≤ mc + 2; omega) (by show ms ≤ ms + 42; omega)

theorem l_seed (hA : p_WF A) (hC : p_CI A M) (hR : p_RI A M) (hl : 0 ≤ l3 ∧ l3 + 5 < x_L E) (hL : x_L E ≤ 3072) (K : p_K l E mc ms l3 Q) : x_Ev l E (13, mc + 2, ms + 42) m_L_law 1433 [(180, 0), (20, 5), (21, 103), (0, l3)] [] M Q := by
  refine u_L_law_1433 mc ms l3 ⟨p_bx hl hL (by omega), k_seed hA hC (fun M1 c1 cf => ⟨_, rfl, p_bx hl hL (by omega), r_seed hA (p_RI_cfr hA hR cf) (fun M2 r1 rf => ⟨_, rfl, fun _ => ?_, fun ne => absurd rfl ne⟩)⟩)⟩
  exact (K _ M2 (wf_seed hA (x_rgI _)) (p_CI_rfr c1 rf) r1).wide rfl (by show mc ≤ mc + 2; omega) (by show ms ≤ ms + 42; omega)

theorem l_fits (hA : p_WF A) (hC : p_CI A M) (hR : p_RI A M) (hl : 0 ≤ l3 ∧ l3 + 5 < x_L E) (hL : x_L E ≤ 3072) (K : p_K l E mc ms l3 Q) : x_Ev l E (13, mc + 2, ms + 42) m_L_law 1456 [(180, 0), (20, 5), (21, 103), (0, l3)] [] M Q := by
  refine u_L_law_1456 mc ms l3 ⟨p_bx hl hL (by omega), p_bx hl hL (by omega), p_bx hl hL (by omega), k_fits hA hC (fun M1 c1 cf => ⟨_, rfl, p_bx hl hL (by omega), p_bx hl hL (by omega), p_bx hl hL (by omega), r_fits hA (p_RI_cfr hA hR cf) (fun M2 r1 rf => ⟨_, rfl, fun _ => ?_, fun ne => absurd rfl ne⟩)⟩)⟩
  exact (K _ M2 (wf_fits hA _ _ _) (p_CI_rfr c1 rf) r1).wide rfl (by show mc ≤ mc + 2; omega) (by show ms ≤ ms + 42; omega)

theorem l_prove (hA : p_WF A) (hC : p_CI A M) (hR : p_RI A M) (hl : 0 ≤ l3 ∧ l3 + 5 < x_L E) (hL : x_L E ≤ 3072) (K : p_K l E mc ms l3 Q) : x_Ev l E (13, mc + 2, ms + 42) m_L_law 1499 [(180, 0), (20, 5), (21, 103), (0, l3)] [] M Q := by
  refine u_L_law_1499 mc ms l3 (k_prove hA hC (fun M1 w1 c1 cf => ⟨_, rfl, r_prove hA (p_RI_cfr hA hR cf) (fun M2 r1 rf => ⟨_, rfl, fun _ => ?_, fun ne => absurd rfl ne⟩)⟩))
  exact (K _ M2 w1 (p_CI_rfr c1 rf) r1).wide rfl (by show mc ≤ mc + 2; omega) (by show ms ≤ ms + 42; omega)

theorem l_row (hA : p_WF A) (hC : p_CI A M) (hR : p_RI A M) (hl : 0 ≤ l3 ∧ l3 + 5 < x_L E) (hL : x_L E ≤ 3072) (K : p_K l E mc ms l3 Q) : x_Ev l E (13, mc + 2, ms + 42) m_L_law 1512 [(180, 0), (20, 5), (21, 103), (0, l3)] [] M Q := by
  refine u_L_law_1512 mc ms l3 ⟨p_bx hl hL (by omega), p_bx hl hL (by omega), k_row hA hC (fun M1 c1 cf => ⟨_, rfl, p_bx hl hL (by omega), p_bx hl hL (by omega), r_row hA (p_RI_cfr hA hR cf) (fun M2 r1 rf => ⟨_, rfl, fun _ => ?_, fun ne => absurd rfl ne⟩)⟩)⟩
  exact (K _ M2 (wf_row hA _ _) (p_CI_rfr c1 rf) r1).wide rfl (by show mc ≤ mc + 2; omega) (by show ms ≤ ms + 42; omega)

theorem l_alter (hA : p_WF A) (hC : p_CI A M) (hR : p_RI A M) (hl : 0 ≤ l3 ∧ l3 + 5 < x_L E) (hL : x_L E ≤ 3072) (K : p_K l E mc ms l3 Q) : x_Ev l E (13, mc + 2, ms + 42) m_L_law 1546 [(180, 0), (20, 5), (21, 103), (0, l3)] [] M Q := by
  refine u_L_law_1546 mc ms l3 ⟨p_bx hl hL (by omega), p_bx hl hL (by omega), p_bx hl hL (by omega), p_bx hl hL (by omega), k_alter hA hC (fun M1 c1 cf => ⟨_, rfl, p_bx hl hL (by omega), p_bx hl hL (by omega), p_bx hl hL (by omega), p_bx hl hL (by omega), r_alter hA (p_RI_cfr hA hR cf) (fun M2 r1 rf => ⟨_, rfl, fun _ => ?_, fun ne => absurd rfl ne⟩)⟩)⟩
  exact (K _ M2 (wf_alter hA _ _ _) (p_CI_rfr c1 rf) r1).wide rfl (by show mc ≤ mc + 2; omega) (by show ms ≤ ms + 42; omega)

theorem l_judge (hA : p_WF A) (hC : p_CI A M) (hR : p_RI A M) (hl : 0 ≤ l3 ∧ l3 + 5 < x_L E) (hL : x_L E ≤ 3072) (K : p_K l E mc ms l3 Q) : x_Ev l E (13, mc + 2, ms + 42) m_L_law 1620 [(180, 0), (20, 5), (21, 103), (0, l3)] [] M Q := by
  refine u_L_law_1620 mc ms l3 (k_judge hA hC (fun M1 c1 cf => ⟨_, rfl, r_judge hA (p_RI_cfr hA hR cf) (fun M2 r1 rf => ⟨_, rfl, fun _ => ?_, fun ne => absurd rfl ne⟩)⟩))
  exact (K _ M2 (wf_judge hA) (p_CI_rfr c1 rf) r1).wide rfl (by show mc ≤ mc + 2; omega) (by show ms ≤ ms + 42; omega)

theorem l_sheet (hA : p_WF A) (hC : p_CI A M) (hR : p_RI A M) (hl : 0 ≤ l3 ∧ l3 + 5 < x_L E) (hL : x_L E ≤ 3072) (K : p_K l E mc ms l3 Q) : x_Ev l E (13, mc + 2, ms + 42) m_L_law 1633 [(180, 0), (20, 5), (21, 103), (0, l3)] [] M Q := by
  refine u_L_law_1633 mc ms l3 ⟨p_bx hl hL (by omega), p_bx hl hL (by omega), p_bx hl hL (by omega), k_sheet hA hC (fun M1 c1 cf => ⟨_, rfl, p_bx hl hL (by omega), p_bx hl hL (by omega), p_bx hl hL (by omega), r_sheet hA (p_RI_cfr hA hR cf) (fun M2 r1 rf => ⟨_, rfl, fun _ => ?_, fun ne => absurd rfl ne⟩)⟩)⟩
  exact (K _ M2 (wf_sheet hA _ _ _) (p_CI_rfr c1 rf) r1).wide rfl (by show mc ≤ mc + 0; omega) (by show ms ≤ ms + 0; omega)

theorem l_write (hA : p_WF A) (hC : p_CI A M) (hR : p_RI A M) (hl : 0 ≤ l3 ∧ l3 + 5 < x_L E) (hL : x_L E ≤ 3072) (K : p_K l E mc ms l3 Q) : x_Ev l E (13, mc + 2, ms + 42) m_L_law 1676 [(180, 0), (20, 5), (21, 103), (0, l3)] [] M Q := by
  refine u_L_law_1676 mc ms l3 ⟨p_bx hl hL (by omega), p_bx hl hL (by omega), p_bx hl hL (by omega), p_bx hl hL (by omega), k_write hA hC (fun M1 c1 cf => ⟨_, rfl, p_bx hl hL (by omega), p_bx hl hL (by omega), p_bx hl hL (by omega), p_bx hl hL (by omega), r_write hA (p_RI_cfr hA hR cf) (fun M2 r1 rf => ⟨_, rfl, fun _ => ?_, fun ne => absurd rfl ne⟩)⟩)⟩
  exact (K _ M2 (wf_write hA (x_lor_rg _ _)) (p_CI_rfr c1 rf) r1).wide rfl (by show mc ≤ mc + 2; omega) (by show ms ≤ ms + 42; omega)

theorem l_item (hA : p_WF A) (hC : p_CI A M) (hR : p_RI A M) (hl : 0 ≤ l3 ∧ l3 + 5 < x_L E) (hL : x_L E ≤ 3072) (K : p_K l E mc ms l3 Q) : x_Ev l E (13, mc + 2, ms + 42) m_L_law 1749 [(180, 0), (20, 5), (21, 103), (0, l3)] [] M Q := by
  refine u_L_law_1749 mc ms l3 ⟨p_bx hl hL (by omega), p_bx hl hL (by omega), k_item hA hC (fun M1 c1 cf => ⟨_, rfl, p_bx hl hL (by omega), p_bx hl hL (by omega), r_item hA (p_RI_cfr hA hR cf) (fun M2 r1 rf => ⟨_, rfl, fun _ => ?_, fun ne => absurd rfl ne⟩)⟩)⟩
  exact (K _ M2 (wf_item hA _ _) (p_CI_rfr c1 rf) r1).wide rfl (by show mc ≤ mc + 2; omega) (by show ms ≤ ms + 42; omega)

theorem l_copy (hA : p_WF A) (hC : p_CI A M) (hR : p_RI A M) (hl : 0 ≤ l3 ∧ l3 + 5 < x_L E) (hL : x_L E ≤ 3072) (K : p_K l E mc ms l3 Q) : x_Ev l E (13, mc + 2, ms + 42) m_L_law 1783 [(180, 0), (20, 5), (21, 103), (0, l3)] [] M Q := by
  refine u_L_law_1783 mc ms l3 ⟨p_bx hl hL (by omega), p_bx hl hL (by omega), p_bx hl hL (by omega), p_bx hl hL (by omega), p_bx hl hL (by omega), k_copy hA hC (x_rgI _) (x_rgI _) (fun M1 c1 cf => ⟨_, rfl, p_bx hl hL (by omega), p_bx hl hL (by omega), p_bx hl hL (by omega), p_bx hl hL (by omega), p_bx hl hL (by omega), r_copy hA (p_RI_cfr hA hR cf) (x_rgI _) (x_rgI _) (x_rgI _) (fun M2 r1 rf => ⟨_, rfl, fun _ => ?_, fun ne => absurd rfl ne⟩)⟩)⟩
  exact (K _ M2 (wf_copy hA _ _ _ _ _) (p_CI_rfr c1 rf) r1).wide rfl (by show mc ≤ mc + 2; omega) (by show ms ≤ ms + 42; omega)

theorem l_hold (hA : p_WF A) (hC : p_CI A M) (hR : p_RI A M) (hl : 0 ≤ l3 ∧ l3 + 5 < x_L E) (hL : x_L E ≤ 3072) (K : p_K l E mc ms l3 Q) : x_Ev l E (13, mc + 2, ms + 42) m_L_law 1846 [(180, 0), (20, 5), (21, 103), (0, l3)] [] M Q := by
  refine u_L_law_1846 mc ms l3 ⟨p_bx hl hL (by omega), p_bx hl hL (by omega), p_bx hl hL (by omega), k_hold hA hC (fun M1 c1 cf => ⟨_, rfl, p_bx hl hL (by omega), p_bx hl hL (by omega), p_bx hl hL (by omega), r_hold hA (p_RI_cfr hA hR cf) (fun M2 r1 rf => ⟨_, rfl, fun _ => ?_, fun ne => absurd rfl ne⟩)⟩)⟩
  exact (K _ M2 (wf_hold hA) (p_CI_rfr c1 rf) r1).wide rfl (by show mc ≤ mc + 2; omega) (by show ms ≤ ms + 42; omega)

theorem l_taken (hA : p_WF A) (hC : p_CI A M) (hR : p_RI A M) (hl : 0 ≤ l3 ∧ l3 + 5 < x_L E) (hL : x_L E ≤ 3072) (K : p_K l E mc ms l3 Q) : x_Ev l E (13, mc + 2, ms + 42) m_L_law 1889 [(180, 0), (20, 5), (21, 103), (0, l3)] [] M Q := by
  refine u_L_law_1889 mc ms l3 ⟨p_bx hl hL (by omega), p_bx hl hL (by omega), k_taken hA hC (fun M1 c1 cf => ⟨_, rfl, p_bx hl hL (by omega), p_bx hl hL (by omega), r_taken hA (p_RI_cfr hA hR cf) (fun M2 r1 rf => ⟨_, rfl, fun _ => ?_, fun ne => absurd rfl ne⟩)⟩)⟩
  exact (K _ M2 (wf_taken hA _ _) (p_CI_rfr c1 rf) r1).wide rfl (by show mc ≤ mc + 2; omega) (by show ms ≤ ms + 42; omega)

theorem l_image (hA : p_WF A) (hC : p_CI A M) (hR : p_RI A M) (hl : 0 ≤ l3 ∧ l3 + 5 < x_L E) (hL : x_L E ≤ 3072) (K : p_K l E mc ms l3 Q) : x_Ev l E (13, mc + 2, ms + 42) m_L_law 1922 [(180, 0), (20, 5), (21, 103), (0, l3)] [] M Q := by
  refine u_L_law_1922 mc ms l3 (k_image hA hC (fun M1 c1 cf => ⟨_, rfl, r_image hA (p_RI_cfr hA hR cf) (fun M2 r1 rf => ⟨_, rfl, fun _ => ?_, fun ne => absurd rfl ne⟩)⟩))
  exact (K _ M2 (wf_image hA) (p_CI_rfr c1 rf) r1).wide rfl (by show mc ≤ mc + 2; omega) (by show ms ≤ ms + 42; omega)

theorem l_back (hA : p_WF A) (hC : p_CI A M) (hR : p_RI A M) (hl : 0 ≤ l3 ∧ l3 + 5 < x_L E) (hL : x_L E ≤ 3072) (K : p_K l E mc ms l3 Q) : x_Ev l E (13, mc + 2, ms + 42) m_L_law 1935 [(180, 0), (20, 5), (21, 103), (0, l3)] [] M Q := by
  refine u_L_law_1935 mc ms l3 (k_back hA hC (fun M1 c1 cf => ⟨_, rfl, r_back hA (p_RI_cfr hA hR cf) (fun M2 r1 rf => ⟨_, rfl, fun _ => ?_, fun ne => absurd rfl ne⟩)⟩))
  exact (K _ M2 (wf_back hA) (p_CI_rfr c1 rf) r1).wide rfl (by show mc ≤ mc + 2; omega) (by show ms ≤ ms + 42; omega)

theorem l_count (hA : p_WF A) (hC : p_CI A M) (hR : p_RI A M) (hl : 0 ≤ l3 ∧ l3 + 5 < x_L E) (hL : x_L E ≤ 3072) (K : p_K l E mc ms l3 Q) : x_Ev l E (13, mc + 2, ms + 42) m_L_law 1948 [(180, 0), (20, 5), (21, 103), (0, l3)] [] M Q := by
  refine u_L_law_1948 mc ms l3 ⟨p_bx hl hL (by omega), k_count hA hC (fun M1 c1 cf => ⟨_, rfl, p_bx hl hL (by omega), r_count hA (p_RI_cfr hA hR cf) (fun M2 r1 rf => ⟨_, rfl, fun _ => ?_, fun ne => absurd rfl ne⟩)⟩)⟩
  exact (K _ M2 (wf_count hA _) (p_CI_rfr c1 rf) r1).wide rfl (by show mc ≤ mc + 2; omega) (by show ms ≤ ms + 42; omega)

theorem l_status (hA : p_WF A) (hC : p_CI A M) (hR : p_RI A M) (hl : 0 ≤ l3 ∧ l3 + 5 < x_L E) (hL : x_L E ≤ 3072) (K : p_K l E mc ms l3 Q) : x_Ev l E (13, mc + 2, ms + 42) m_L_law 1971 [(180, 0), (20, 5), (21, 103), (0, l3)] [] M Q := by
  refine u_L_law_1971 mc ms l3 ⟨p_bx hl hL (by omega), k_status hA hC (fun M1 c1 cf => ⟨_, rfl, p_bx hl hL (by omega), r_status hA (p_RI_cfr hA hR cf) (fun M2 r1 rf => ⟨_, rfl, fun _ => ?_, fun ne => absurd rfl ne⟩)⟩)⟩
  exact (K _ M2 (wf_status hA _) (p_CI_rfr c1 rf) r1).wide rfl (by show mc ≤ mc + 2; omega) (by show ms ≤ ms + 42; omega)

theorem l_all (hA : p_WF A) (hC : p_CI A M) (hR : p_RI A M) (hl : 0 ≤ l3 ∧ l3 + 5 < x_L E) (hL : x_L E ≤ 3072) (K : p_K l E mc ms l3 Q) : x_Ev l E (13, mc + 2, ms + 42) m_L_law 18 [(180, 0), (20, 5), (21, 103), (0, l3)] [] M Q := by
  have e : x_w ((x_L E : Int) - 6) = (x_L E : Int) - 6 := x_w_id (by omega) (by omega)
  refine u_L_law_18 mc ms l3 ?_
  rw [e]
  refine ⟨fun z => by omega, fun _ => ⟨by omega, fun _ => (K A M hA hC hR).wide rfl (by show mc ≤ mc + 2; omega) (by show ms ≤ ms + 42; omega), fun _ => l_follower hA hC hR hl hL K, fun _ => l_become hA hC hR hl hL K, fun _ => l_of hA hC hR hl hL K, fun _ => l_good hA hC hR hl hL K, fun _ => l_goodOf hA hC hR hl hL K, fun _ => l_budget hA hC hR hl hL K, fun _ => l_bind hA hC hR hl hL K, fun _ => l_loosen hA hC hR hl hL K, fun _ => l_rowOf hA hC hR hl hL K, fun _ => l_most hA hC hR hl hL K, fun _ => l_term hA hC hR hl hL K, fun _ => l_termOf hA hC hR hl hL K, fun _ => l_amount hA hC hR hl hL K, fun _ => l_brings hA hC hR hl hL K, fun _ => l_total hA hC hR hl hL K, fun _ => l_opens hA hC hR hl hL K, fun _ => l_openAt hA hC hR hl hL K, fun _ => l_isOpen hA hC hR hl hL K, fun _ => l_price hA hC hR hl hL K, fun _ => l_weigh hA hC hR hl hL K, fun _ => l_breaks hA hC hR hl hL K, fun _ => l_breakAt hA hC hR hl hL K, fun _ => l_piece hA hC hR hl hL K, fun _ => l_best hA hC hR hl hL K, fun _ => l_asKind hA hC hR hl hL K, fun _ => l_settle hA hC hR hl hL K, fun _ => l_kindFor hA hC hR hl hL K, fun _ => l_tollFor hA hC hR hl hL K, fun _ => l_without hA hC hR hl hL K, fun _ => l_mostFor hA hC hR hl hL K, fun _ => l_round hA hC hR hl hL K, fun _ => l_loose hA hC hR hl hL K, fun _ => l_book hA hC hR hl hL K, fun _ => l_seed hA hC hR hl hL K, fun _ => l_fits hA hC hR hl hL K, fun _ => l_prove hA hC hR hl hL K, fun _ => l_row hA hC hR hl hL K, fun _ => l_alter hA hC hR hl hL K, fun _ => l_judge hA hC hR hl hL K, fun _ => l_sheet hA hC hR hl hL K, fun _ => l_write hA hC hR hl hL K, fun _ => l_item hA hC hR hl hL K, fun _ => l_copy hA hC hR hl hL K, fun _ => l_hold hA hC hR hl hL K, fun _ => l_taken hA hC hR hl hL K, fun _ => l_image hA hC hR hl hL K, fun _ => l_back hA hC hR hl hL K, fun _ => l_count hA hC hR hl hL K, fun _ => l_status hA hC hR hl hL K⟩⟩

/-- from the loop's head: it ends, and answers 1 -/
theorem l_loop (hQ : ∀ M, Q (some (0, 1)) M) (hL : x_L E ≤ 3072) : ∀ (m : Nat) (l3 : Int) (A M : xM), (x_L E : Int) - 6 < l3 + 6 * m → 0 ≤ l3 → l3 ≤ 4000 → p_WF A → p_CI A M → p_RI A M → x_Ev l E (13, 2 * m + 2, 42 * m + 42) m_L_law 18 [(180, 0), (20, 5), (21, 103), (0, l3)] [] M Q := by
  intro m
  induction m with
  | zero =>
    intro l3 A M hm h0 h1 hA hC hR
    have e : x_w ((x_L E : Int) - 6) = (x_L E : Int) - 6 := x_w_id (by omega) (by omega)
    refine u_L_law_18 (2 * 0) (42 * 0) l3 ?_
    rw [e]
    exact ⟨fun _ => hQ M, fun z => by omega⟩
  | succ m ih =>
    intro l3 A M hm h0 h1 hA hC hR
    by_cases c : (x_L E : Int) - 6 < l3
    · have e : x_w ((x_L E : Int) - 6) = (x_L E : Int) - 6 := x_w_id (by omega) (by omega)
      refine u_L_law_18 (2 * (m + 1)) (42 * (m + 1)) l3 ?_
      rw [e]
      exact ⟨fun _ => hQ M, fun z => by omega⟩
    · refine l_all (mc := 2 * (m + 1)) (ms := 42 * (m + 1)) hA hC hR (by omega) hL (fun A' M' a b c' => ?_)
      show x_Ev l E (13, 2 * m + 2, 42 * m + 42) m_L_law 1994 [(180, 0), (20, 5), (21, 103), (0, l3)] [] M' Q
      refine u_L_law_1994 (2 * m) (42 * m) l3 (fun v hv => ?_)
      rw [x_w_id (by omega) (by omega)] at hv
      rw [hv]
      exact ih (l3 + 6) A' M' (by omega) (by omega) (by omega) a b c'
end P26
