/-! asKind, kindFor, tollFor -/
theorem x_wr_wr (A : xM) (a k u v : Int) : x_wr (x_wr A a k u) a k v = x_wr A a k v := by
  funext b j
  by_cases c : b = a ∧ j = k
  · rw [c.1, c.2, x_wr_eq, x_wr_eq]
  · rw [x_wr_ne _ _ c, x_wr_ne _ _ c, x_wr_ne _ _ c]
theorem x_wr_id (A : xM) (a k : Int) : x_wr A a k (A a k) = A := by
  funext b j
  by_cases c : b = a ∧ j = k
  · rw [c.1, c.2, x_wr_eq]
  · rw [x_wr_ne _ _ c]
noncomputable def p_pks (s : Int × Int × Int) (st : Int → Int) (k : Int) : Int × Int × Int := p_if (s.1 < 0 ∨ 0 < p_cmp (st 0 * s.2.2) (s.2.1 * st 1)) (k, st 0, st 1) s
noncomputable def p_pk (b : Nat → Int → Int) : Nat → Int × Int × Int
  | 0 => (-1, 0, 0)
  | k + 1 => p_pks (p_pk b k) (b k) k
def p_ge (s : Int × Int × Int) : Prop := 0 ≤ s.1 → (-133844400000000000 ≤ s.2.1 ∧ s.2.1 ≤ 133844400000000000) ∧ 0 < s.2.2 ∧ s.2.2 ≤ 17006112000000
def p_gb (st : Int → Int) : Prop := (-133844400000000000 ≤ st 0 ∧ st 0 ≤ 133844400000000000) ∧ 0 < st 1 ∧ st 1 ≤ 17006112000000
theorem p_ge_s {s : Int × Int × Int} {st : Int → Int} {k : Int} (h : p_ge s) (hb : p_gb st) : p_ge (p_pks s st k) := by
  unfold p_pks
  by_cases c : s.1 < 0 ∨ 0 < p_cmp (st 0 * s.2.2) (s.2.1 * st 1)
  · rw [p_if_t c]; exact fun _ => hb
  · rw [p_if_f c]; exact h
theorem p_pks_1 {s : Int × Int × Int} {st : Int → Int} {k : Int} (h : -1 ≤ s.1 ∧ s.1 ≤ 100) (hk : 0 ≤ k ∧ k ≤ 100) : -1 ≤ (p_pks s st k).1 ∧ (p_pks s st k).1 ≤ 100 := by
  unfold p_pks
  by_cases c : s.1 < 0 ∨ 0 < p_cmp (st 0 * s.2.2) (s.2.1 * st 1)
  · rw [p_if_t c]; show -1 ≤ k ∧ k ≤ 100; omega
  · rw [p_if_f c]; exact h
section O9
variable {l : Launch} {E : xE} {Q : Option xV → xM → Prop} {A M : xM}
theorem p_Gs (A : xM) (f : Nat) (k : Int) : p_Fs A f 0 k = A (9 + 4 * (f : Int)) k ∧ p_Fs A f 1 k = A (9 + 4 * (f : Int) + 1) k ∧ p_Fs A f 2 k = A (9 + 4 * (f : Int) + 2) k ∧ p_Fs A f 3 k = A (9 + 4 * (f : Int) + 3) k := by
  unfold p_Fs
  rw [x_F0, x_F1, x_F2, x_F3]
  exact ⟨rfl, rfl, rfl, rfl⟩
/-- kinds of any followers -/
theorem p_kk {A' : xM} (hA' : ∀ a k, ¬ (k = 0 ∧ (a = 9 ∨ a = 13 ∨ a = 17)) → A' a k = A a k) {f : Nat} (hf : f < 3) : (∀ k, k ≠ 0 → p_Fs A' f 0 k = p_Fs A f 0 k) ∧ p_Fs A' f 1 = p_Fs A f 1 ∧ p_Fs A' f 2 = p_Fs A f 2 ∧ p_Fs A' f 3 = p_Fs A f 3 := by
  refine ⟨fun k q => ?_, ?_, ?_, ?_⟩
  · rw [(p_Gs A' f k).1, (p_Gs A f k).1, hA' _ _ (by omega)]
  · funext k; rw [(p_Gs A' f k).2.1, (p_Gs A f k).2.1, hA' _ _ (by omega)]
  · funext k; rw [(p_Gs A' f k).2.2.1, (p_Gs A f k).2.2.1, hA' _ _ (by omega)]
  · funext k; rw [(p_Gs A' f k).2.2.2, (p_Gs A f k).2.2.2, hA' _ _ (by omega)]
theorem p_WF_kk {A' : xM} (hA : p_WF A) (hA' : ∀ a k, ¬ (k = 0 ∧ (a = 9 ∨ a = 13 ∨ a = 17)) → A' a k = A a k) (b : ∀ f, 0 ≤ f → f < A 6 0 → 0 ≤ A' (9 + 4 * f) 0 ∧ A' (9 + 4 * f) 0 ≤ 6) : p_WF A' ∧ ∀ f : Nat, (f : Int) < A 6 0 → p_wf (p_Fs A' f) := by
  have w0 := hA.1.1
  have ww : ∀ f : Nat, (f : Int) < A 6 0 → p_wf (p_Fs A' f) := by
    intro f hf
    obtain ⟨k0, k1, k2, k3⟩ := p_kk hA' (f := f) (by omega)
    have w : p_wf (p_Fs A f) := hA.1.2.2.2.2.2.2.2 f hf
    exact p_wf_K w (by rw [(p_Gs A' f 0).1]; exact b f (by omega) hf) (by rw [k0 1 (by omega)]; exact w.2.1) (k0 2 (by omega)) (k0 3 (by omega)) k1 k2 k3
  obtain ⟨⟨w1, w2, w3, w4, w5, w6, w7, w8⟩, kk, g1, g2, g3, g4, g5⟩ := hA
  have e : ∀ a, a ≠ 9 → a ≠ 13 → a ≠ 17 → A' a = A a := fun a h1 h2 h3 => by funext k; exact hA' a k (by omega)
  refine ⟨⟨⟨?_, ?_, ?_, ?_, ?_, ?_, ?_, fun g hg => ?_⟩, ?_, ?_, ?_, fun s s1 s2 => ?_, fun i i1 i2 => ?_, fun f f1 f2 => ?_⟩, ww⟩
  · rw [hA' _ _ (by omega)]; exact w1
  · rw [hA' _ _ (by omega)]; exact w2
  · rw [hA' _ _ (by omega)]; exact w3
  · rw [hA' _ _ (by omega)]; exact w4
  · rw [hA' _ _ (by omega)]; exact w5
  · rw [hA' _ _ (by omega), hA' _ _ (by omega), hA' _ _ (by omega)]; exact w6
  · rw [hA' _ _ (by omega)]; exact w7
  · rw [hA' _ _ (by omega)] at hg
    exact ww g hg
  · unfold p_wfW at *
    rw [e 21 (by omega) (by omega) (by omega), e (21 + 1) (by omega) (by omega) (by omega)]
    refine ⟨kk.1, kk.2.1, kk.2.2.1, kk.2.2.2.1, kk.2.2.2.2.1, kk.2.2.2.2.2.1, kk.2.2.2.2.2.2.1, fun g hg => ?_⟩
    rw [show x_F A' (21 + 3 + 4 * (g : Int)) = x_F A (21 + 3 + 4 * (g : Int)) from x_F_eq (fun a a1 a2 => e a (by omega) (by omega) (by omega))]
    exact kk.2.2.2.2.2.2.2 g hg
  · rw [hA' _ _ (by omega)]; exact g1
  · rw [hA' _ _ (by omega)]; exact g2
  · rw [e 544 (by omega) (by omega) (by omega), e 545 (by omega) (by omega) (by omega), e (547 + s) (by omega) (by omega) (by omega)]; exact g3 s s1 s2
  · rw [e 552 (by omega) (by omega) (by omega), e 553 (by omega) (by omega) (by omega), e 554 (by omega) (by omega) (by omega)]; exact g4 i i1 i2
  · rw [e (9 + 4 * f + 2) (by omega) (by omega) (by omega), e (9 + 4 * f + 3) (by omega) (by omega) (by omega)]; exact g5 f f1 f2
theorem p_CI_kk {A' M1 : xM} (hA : p_WF A) (hC : p_CI A M) (hA' : ∀ a k, ¬ (k = 0 ∧ (a = 9 ∨ a = 13 ∨ a = 17)) → A' a k = A a k) (hM : ∀ a k, ¬ (k = 0 ∧ (a = 9 ∨ a = 13 ∨ a = 17)) → ¬ p_cs a k → M1 a k = M a k) (e : ∀ f, 0 ≤ f → f < 3 → M1 (9 + 4 * f) 0 = A' (9 + 4 * f) 0) (ww : ∀ f : Nat, (f : Int) < A 6 0 → p_wf (p_Fs A' f)) : p_CI A' M1 := by
  have w0 := hA.1.1
  obtain ⟨M2, hm, q1, q2, q3, q4, q5, q6, q7, q8⟩ : ∃ M2 : xM, (∀ a k, ¬ (k = 0 ∧ (a = 9 ∨ a = 13 ∨ a = 17)) → M2 a k = M1 a k) ∧ p_CI A M2 := ⟨fun a k => if k = 0 ∧ (a = 9 ∨ a = 13 ∨ a = 17) then M a k else M1 a k, fun a k q => if_neg q, p_CI_sc hC (fun a k q => by
    by_cases c : k = 0 ∧ (a = 9 ∨ a = 13 ∨ a = 17)
    · rw [if_pos c]
    · rw [if_neg c]; exact hM a k c q)⟩
  have em : ∀ b j, ¬ (j = 0 ∧ (b = 9 ∨ b = 13 ∨ b = 17)) → M1 b j = M2 b j := fun b j w => (hm b j w).symm
  have tp : x_tp M1 = x_tp M2 := x_tp_eq (em _ _ (by omega))
  have tg : ∀ b, x_tag M1 b = x_tag M2 b := fun b => x_tag_eq (fun k => em _ _ (by omega)) b
  have c1 : ∀ b j, 6 ≤ b → b ≤ 35 → M1 b j = A' b j := by
    intro b j c1 c2
    by_cases c : j = 0 ∧ (b = 9 ∨ b = 13 ∨ b = 17)
    · obtain ⟨cj, c | c | c⟩ := c
      · rw [cj, c]; exact e 0 (by omega) (by omega)
      · rw [cj, c]; exact e 1 (by omega) (by omega)
      · rw [cj, c]; exact e 2 (by omega) (by omega)
    · rw [em b j c, hA' b j c]; exact q1 b j c1 c2
  refine ⟨c1, ?_, ?_, fun j => ?_, fun j => ?_, ⟨?_, ?_, fun f hf => ?_⟩, ⟨fun s s1 s2 => ?_, fun s t s1 s2 t1 t2 => ?_⟩, fun i i1 i2 => ?_⟩
  · rw [hA' _ _ (by omega), em _ _ (by omega)]; exact q2
  · rw [hA' _ _ (by omega), em _ _ (by omega)]; exact q3
  · rw [hA' _ _ (by omega), em _ _ (by omega)]; exact q4 j
  · rw [hA' _ _ (by omega), em _ _ (by omega)]; exact q5 j
  · rw [c1 6 0 (by omega) (by omega), hA' _ _ (by omega)]; omega
  · rw [hA' _ _ (by omega)]; omega
  · rw [hA' 6 0 (by omega)] at hf
    obtain ⟨k0, k1, k2, k3⟩ := p_kk hA' (f := f) (by omega)
    obtain ⟨t1, t2, t3, t4⟩ := q6.2.2 f hf
    have et : ∀ i, 0 ≤ i → M1 (49 + 9 * (f : Int) + i) = M2 (49 + 9 * (f : Int) + i) := fun i i1 => by funext k; exact em _ k (by omega)
    refine ⟨ww f (by omega), ?_, ?_, ?_⟩
    · exact x_F_eq (fun a a1 a2 => by funext k; exact c1 a k (by omega) (by omega))
    · rw [p_n_F (k0 2 (by omega)) (k0 3 (by omega)) k2 k3, p_TT_F (k0 2 (by omega)) (k0 3 (by omega)) k2 k3]
      exact p_ctab_fr t3 (em _ _ (by omega)) (et 1 (by omega)) (et 2 (by omega)) (et 3 (by omega))
    · rw [p_n_F (k0 2 (by omega)) (k0 3 (by omega)) k2 k3, p_TT_F (k0 2 (by omega)) (k0 3 (by omega)) k2 k3]
      have := p_sums_fr t4 (et 4 (by omega)) (et 5 (by omega)) (et 6 (by omega))
      intro k k1' k2'
      rw [p_tr_F (k0 2 (by omega)) k1, p_tr_F (k0 2 (by omega)) k1, p_tr_F (k0 2 (by omega)) k1]
      exact this k k1' k2'
  · rw [hA' _ _ (by omega), hA' _ _ (by omega), em _ _ (by omega)]
    rcases q7.1 s s1 s2 with w | ⟨w1, w2, w3⟩
    · exact Or.inl w
    · have hr := w2
      obtain ⟨r1, r2, -⟩ := w2
      refine Or.inr ⟨w1, p_r16_fr hr (by rw [tp]; exact Nat.le_refl _) (fun b _ => tg b) (em _ _ (by omega)) (em _ _ (by omega)), fun i i1 i2 => ?_⟩
      rw [em _ _ (by omega), hA' _ _ (by omega)]; exact w3 i i1 i2
  · rw [em _ _ (by omega), em _ _ (by omega), hA' _ _ (by omega), hA' _ _ (by omega)]; exact q7.2 s t s1 s2 t1 t2
  · obtain ⟨w1, w2, w3, w4⟩ := q8 i i1 i2
    rw [em _ 0 (by omega), em _ 1 (by omega), em _ 2 (by omega), hA' _ _ (by omega), hA' _ _ (by omega), hA' _ _ (by omega)]
    refine ⟨w1, w2, w3, fun w => ?_⟩
    have hr := w4 w
    have hr' := hr
    obtain ⟨r1, r2, -⟩ := hr'
    exact p_r16_fr hr (by rw [tp]; exact Nat.le_refl _) (fun b _ => tg b) (em _ _ (by omega)) (em _ _ (by omega))
theorem p_RI_kk {A' M1 : xM} (hA : p_WF A) (hR : p_RI A M) (hA' : ∀ a k, ¬ (k = 0 ∧ (a = 9 ∨ a = 13 ∨ a = 17)) → A' a k = A a k) (hM : ∀ a k, a ≠ 104 → ¬ p_rsc a k → 0 ≤ a → a < 593 → M1 a k = M a k) (e : ∀ f, 0 ≤ f → f < A 6 0 → M1 104 f = A' (9 + 4 * f) 0) : p_RI A' M1 := by
  have w0 := hA.1.1
  have wp := hA.2.2.2.1
  obtain ⟨M2, hm, ⟨a0, a1, a2, a3, a4, a5, a6⟩, q2, q3, ⟨q4, q5⟩, q6, q7, q8, q9⟩ : ∃ M2 : xM, (∀ a k, a ≠ 104 → M2 a k = M1 a k) ∧ p_RI A M2 := ⟨fun a k => if a = 104 then M a k else M1 a k, fun a k q => if_neg q, p_RI_fr hA hR (fun a k z1 z2 q => by
    by_cases c : a = 104
    · rw [if_pos c]
    · rw [if_neg c]; exact hM a k c q (by omega) z2)⟩
  have em : ∀ b j, b ≠ 104 → M1 b j = M2 b j := fun b j w => (hm b j w).symm
  refine ⟨⟨?_, ?_, ?_, ?_, ?_, ?_, ?_⟩, fun f hf => ?_, fun i i1 i2 => ?_, ⟨?_, fun i d i1 i2 d1 d2 => ?_⟩, fun s s1 s2 => ?_, fun i i1 i2 => ?_, ?_, fun w => ?_⟩
  · rw [hA' _ _ (by omega), em _ _ (by omega)]; exact a0
  · rw [hA' _ _ (by omega), em _ _ (by omega)]; exact a1
  · rw [hA' _ _ (by omega), em _ _ (by omega)]; exact a2
  · rw [hA' _ _ (by omega), em _ _ (by omega)]; exact a3
  · rw [hA' _ _ (by omega), em _ _ (by omega)]; exact a4
  · rw [hA' _ _ (by omega), em _ _ (by omega)]; exact a5
  · rw [hA' _ _ (by omega), em _ _ (by omega)]; exact a6
  · rw [hA' 6 0 (by omega)] at hf
    obtain ⟨k0, k1, k2, k3⟩ := p_kk hA' (f := f) (by omega)
    obtain ⟨r0, r1, r2, r3, r4, r5, r6⟩ := q2 f hf
    have wf : p_wf (p_Fs A f) := hA.1.2.2.2.2.2.2.2 f hf
    have hg := wf.2.2.1
    have hr := wf.2.2.2.1
    refine ⟨?_, ?_, ?_, ?_, ?_, ?_, ?_⟩
    · rw [(p_Gs A' f 0).1]; exact e f (by omega) hf
    · rw [k0 1 (by omega), em _ _ (by omega)]; exact r1
    · rw [k0 2 (by omega), em _ _ (by omega)]; exact r2
    · rw [k0 3 (by omega), em _ _ (by omega)]; exact r3
    · rw [k1]
      intro w g z1 z2 z3 z4
      rw [em _ _ (by omega)]; exact r4 w g z1 z2 z3 z4
    · rw [k0 3 (by omega), k0 2 (by omega), k2]
      intro i j z1 z2 z3 z4
      rw [em _ _ (by omega)]; exact r5 i j z1 z2 z3 z4
    · rw [k0 3 (by omega), k3]
      intro i z1 z2
      rw [em _ _ (by omega)]; exact r6 i z1 z2
  · rw [em _ _ (by omega), hA' _ _ (by omega)]; exact q3 i i1 i2
  · rw [em _ _ (by omega), hA' _ _ (by omega)]; exact q4
  · rw [hA' 5 12 (by omega)] at i2
    rw [em _ _ (by omega), hA' _ _ (by omega)]; exact q5 i d i1 i2 d1 d2
  · obtain ⟨b1, b2, b3⟩ := q6 s s1 s2
    rw [em _ _ (by omega), em _ _ (by omega), hA' _ _ (by omega), hA' _ _ (by omega)]
    refine ⟨b1, b2, fun i i1 i2 => ?_⟩
    rw [em _ _ (by omega), hA' _ _ (by omega)]; exact b3 i i1 i2
  · rw [em _ _ (by omega), em _ _ (by omega), em _ _ (by omega), hA' _ _ (by omega), hA' _ _ (by omega), hA' _ _ (by omega)]
    exact q7 i i1 i2
  · rw [em _ _ (by omega), hA' _ _ (by omega)]; exact q8
  · rw [hA' _ _ (by omega)] at w
    exact p_KI_fr hA (q9 w) (fun c c1 c2 => by funext d; exact hA' c d (by omega)) (fun e f w => em e f (by omega))
def p_tabs (A M : xM) : Prop := ∀ g : Nat, (g : Int) < A 6 0 → p_rtab M g (p_n (p_Fs A g)) (p_TT (p_Fs A g))
theorem p_RW_mk (hA : p_WF A) (hR : p_RI A M) (T : p_tabs A M) : p_RW M (p_Fs A) (A 6 0).toNat := by
  have w0 := hA.1.1
  refine ⟨by rw [hR.1.1]; omega, by omega, fun g hg => ?_⟩
  have wf : p_wf (p_Fs A g) := hA.1.2.2.2.2.2.2.2 g (by omega)
  exact ⟨wf, hR.2.1 g (by omega), T g (by omega), p_one_ok _ wf, p_n10 p_ten_ok wf, p_T_eb wf⟩
theorem p_tabs_of (hA : p_WF A) (h : p_RW M (p_Fs A) (A 6 0).toNat) : p_tabs A M := fun g hg => (h.2.2 g (by omega)).2.2.1
theorem p_tabs_fr {A' M1 : xM} (hA : p_WF A) (T : p_tabs A M) (e6 : A' 6 0 = A 6 0) (eF : ∀ f : Nat, f < 3 → (p_Fs A' f 0 2 = p_Fs A f 0 2 ∧ p_Fs A' f 0 3 = p_Fs A f 0 3) ∧ p_Fs A' f 2 = p_Fs A f 2 ∧ p_Fs A' f 3 = p_Fs A f 3) (fr : ∀ a k, 149 ≤ a → a ≤ 281 → M1 a k = M a k) : p_tabs A' M1 := by
  have w0 := hA.1.1
  intro g hg
  rw [e6] at hg
  obtain ⟨⟨k2, k3⟩, k4, k5⟩ := eF g (by omega)
  rw [p_n_F k2 k3 k4 k5, p_TT_F k2 k3 k4 k5]
  have wf : p_wf (p_Fs A g) := hA.1.2.2.2.2.2.2.2 g hg
  have := p_n10 p_ten_ok wf
  exact p_rtab_fr (by omega) (fun a k q => fr a k (by unfold p_rt at q; omega) (by unfold p_rt at q; omega)) (T g hg)
noncomputable def p_asK (A : xM) (kd : Int) : xM := fun a k => if k = 0 ∧ (a = 9 ∨ a = 13 ∨ a = 17) ∧ a < 9 + 4 * A 6 0 then kd else A a k
theorem p_asK_ne {kd a k : Int} (h : ¬ (k = 0 ∧ (a = 9 ∨ a = 13 ∨ a = 17))) : p_asK A kd a k = A a k := by
  unfold p_asK
  rw [if_neg (by omega)]
theorem p_asK_f {kd f : Int} (h : 0 ≤ f ∧ f < 3) : p_asK A kd (9 + 4 * f) 0 = if f < A 6 0 then kd else A (9 + 4 * f) 0 := by
  unfold p_asK
  by_cases c : f < A 6 0
  · rw [if_pos c, if_pos (by omega)]
  · rw [if_neg c, if_neg (by omega)]
noncomputable def o_asKind (A : xM) (kd w : Int) : Int × xM := p_if ((0 ≤ kd ∧ kd ≤ 6) ∧ 0 ≤ w ∧ w ≤ 4) (p_bsA (p_asK A kd) (A 6 1) w, A) (p_erL A 0)
theorem p_asK_wf (hA : p_WF A) {kd : Int} (hk : 0 ≤ kd ∧ kd ≤ 6) : p_WF (p_asK A kd) ∧ ∀ f : Nat, (f : Int) < A 6 0 → p_wf (p_Fs (p_asK A kd) f) := by
  have w0 := hA.1.1
  refine p_WF_kk hA (fun a k q => p_asK_ne q) (fun f f1 f2 => ?_)
  rw [p_asK_f (by omega), if_pos f2]; exact hk
theorem k_asKind (hA : p_WF A) (hC : p_CI A M) {kd w : Int} (h : ∀ M1, p_CI (o_asKind A kd w).2 M1 → p_cfr M M1 → Q (some (1, (o_asKind A kd w).1)) M1) : x_Ev l E (7, 0, 0) m_X10_asKind 0 [(20, 5), (0, kd), (0, w), (5, 0)] [] M Q := by
  unfold o_asKind at h
  have w0 := hA.1.1
  have w1 := (p_W_tm hA).2.1
  have bad : ¬ ((0 ≤ kd ∧ kd ≤ 6) ∧ 0 ≤ w ∧ w ≤ 4) → x_Ev l E (1, 0, 0) m_X10_tellLong 0 [(20, 5), (0, 0)] [] M (fun r M3 => ∃ z, r = some (1, z) ∧ Q (some (1, z)) M3) := fun c => by
    rw [p_if_f c] at h
    exact k_tL hA hC (by omega) (fun M1 a b => ⟨_, rfl, h M1 a b⟩)
  refine u_X10_asKind_0 kd w ⟨fun c => bad (by omega), fun c => ⟨fun d => bad (by omega), fun d => ⟨fun e => bad (by omega), fun e => ⟨fun g => ?_, fun g => bad (by omega)⟩⟩⟩⟩
  rw [p_if_t ⟨by omega, by omega⟩] at h
  obtain ⟨wA, ww⟩ := p_asK_wf hA (kd := kd) (by omega)
  -- back to what they were
  have back : ∀ (m : Nat) (j : Int) (M1 M' : xM), A 6 0 - j ≤ m → 0 ≤ j → j ≤ A 6 0 → p_bm M1 (p_bsA (p_asK A kd) (A 6 1)) → 0 ≤ p_bsA (p_asK A kd) (A 6 1) 4 → (∀ a k, ¬ p_cs a k → ¬ (k = 0 ∧ (a = 9 ∨ a = 13 ∨ a = 17)) → M1 a k = M a k) → (∀ g, 0 ≤ g → g < A 6 0 → M1 85 g = A (9 + 4 * g) 0) → (∀ g, A 6 0 ≤ g → g < 3 → M1 (9 + 4 * g) 0 = A (9 + 4 * g) 0) → (∀ a k, ¬ (k = 0 ∧ (a = 9 ∨ a = 13 ∨ a = 17)) → M' a k = M1 a k) → (∀ g, 0 ≤ g → g < j → M' (9 + 4 * g) 0 = A (9 + 4 * g) 0) → (∀ g, A 6 0 ≤ g → g < 3 → M' (9 + 4 * g) 0 = M1 (9 + 4 * g) 0) → x_Ev l E (7, 0, 0) m_X10_asKind 91 [(20, 5), (0, kd), (0, w), (0, j)] [] M' Q := by
    intro m
    induction m with
    | zero =>
      intro j M1 M' hm j0 j1 b1 b2 f1 f2 f3 g1 g2 g3
      have ej : j = A 6 0 := by omega
      have e60 : M' 6 0 = A 6 0 := by rw [g1 _ _ (by omega), f1 _ _ (by unfold p_cs p_stc; omega) (by omega)]; exact hC.1 6 0 (by omega) (by omega)
      refine u_X10_asKind_91 kd w j ⟨fun _ => ?_, fun z => by omega⟩
      have fr : ∀ a k, ¬ p_cs a k → M' a k = M a k := fun a k q => by
        by_cases c : k = 0 ∧ (a = 9 ∨ a = 13 ∨ a = 17)
        · have key : ∀ x : Int, 0 ≤ x → x < 3 → M' (9 + 4 * x) 0 = M (9 + 4 * x) 0 := by
            intro x x1 x2
            rw [hC.1 (9 + 4 * x) 0 (by omega) (by omega)]
            by_cases cx : x < A 6 0
            · exact g2 x x1 (by omega)
            · rw [g3 x (by omega) x2]; exact f3 x (by omega) x2
          obtain ⟨ck, ca | ca | ca⟩ := c
          · rw [ck, ca]; exact key 0 (by omega) (by omega)
          · rw [ck, ca]; exact key 1 (by omega) (by omega)
          · rw [ck, ca]; exact key 2 (by omega) (by omega)
        · rw [g1 a k c, f1 a k q c]
      refine k_tb (by omega) (p_bm_fr b1 (g1 _ _ (by omega)) (by funext k; exact g1 _ _ (by omega)) (by funext k; exact g1 _ _ (by omega))) b2 ⟨_, rfl, ?_⟩
      exact h M' (p_CI_sc hC fr) (p_cfr_sc fr)
    | succ m ih =>
      intro j M1 M' hm j0 j1 b1 b2 f1 f2 f3 g1 g2 g3
      by_cases ej : j = A 6 0
      · exact ih j M1 M' (by omega) j0 j1 b1 b2 f1 f2 f3 g1 g2 g3
      have e60 : M' 6 0 = A 6 0 := by rw [g1 _ _ (by omega), f1 _ _ (by unfold p_cs p_stc; omega) (by omega)]; exact hC.1 6 0 (by omega) (by omega)
      refine u_X10_asKind_91 kd w j ⟨fun z => by omega, fun z => ⟨by omega, by omega, ?_⟩⟩
      rw [show 8 + 1 + 4 * j = 9 + 4 * j by omega, g1 85 j (by omega), f2 j (by omega) (by omega)]
      intro M2 hM2 v hv
      rw [x_w_id (by omega) (by omega)] at hv
      rw [hv]
      refine ih (j + 1) M1 M2 (by omega) (by omega) (by omega) b1 b2 f1 f2 f3 (fun a k q => ?_) (fun x x1 x2 => ?_) (fun x x1 x2 => ?_)
      · rw [hM2, x_wr_ne _ _ (by omega)]; exact g1 a k q
      · by_cases cx : x = j
        · rw [cx, hM2, x_wr_eq]
        · rw [hM2, x_wr_ne _ _ (by omega)]; exact g2 x x1 (by omega)
      · rw [hM2, x_wr_ne _ _ (by omega)]; exact g3 x x1 x2
  have main : ∀ (m : Nat) (j : Int) (M' : xM), A 6 0 - j ≤ m → 0 ≤ j → j ≤ A 6 0 → (∀ a k, a ≠ 85 → ¬ (k = 0 ∧ (a = 9 ∨ a = 13 ∨ a = 17)) → M' a k = M a k) → (∀ g, 0 ≤ g → g < j → M' (9 + 4 * g) 0 = kd ∧ M' 85 g = A (9 + 4 * g) 0) → (∀ g, j ≤ g → g < 3 → M' (9 + 4 * g) 0 = A (9 + 4 * g) 0) → x_Ev l E (7, 0, 0) m_X10_asKind 27 [(20, 5), (0, kd), (0, w), (0, j)] [] M' Q := by
    intro m
    induction m with
    | zero =>
      intro j M' hm j0 j1 g1 g2 g3
      have ej : j = A 6 0 := by omega
      have e60 : M' 6 0 = A 6 0 := by rw [g1 _ _ (by omega) (by omega)]; exact hC.1 6 0 (by omega) (by omega)
      have e61 : M' 6 1 = A 6 1 := by rw [g1 _ _ (by omega) (by omega)]; exact hC.1 6 1 (by omega) (by omega)
      refine u_X10_asKind_27 kd w j ⟨fun _ => ?_, fun z => by omega⟩
      rw [e61]
      have cI : p_CI (p_asK A kd) M' := p_CI_kk hA hC (fun a k q => p_asK_ne q) (fun a k q1 q2 => g1 a k (fun e => q2 (by unfold p_cs; omega)) q1) (fun x x1 x2 => by
        rw [p_asK_f ⟨x1, x2⟩]
        by_cases cx : x < A 6 0
        · rw [if_pos cx]; exact (g2 x x1 (by omega)).1
        · rw [if_neg cx]; exact g3 x (by omega) x2) ww
      refine k_seek wA cI w1 (fun M1 c1 c2 c3 c4 c5 c6 => ⟨rfl, ?_⟩)
      refine back (A 6 0).toNat 0 M1 M1 (by omega) (by omega) (by omega) c4 c3 (fun a k q1 q2 => ?_) (fun x x1 x2 => ?_) (fun x x1 x2 => ?_) (fun _ _ _ => rfl) (fun x x1 x2 => by omega) (fun _ _ _ => rfl)
      · rw [c6 a k (fun e => q1 (by unfold p_cs; omega)) (p_cs_st q1)]; exact g1 a k (fun e => q1 (by unfold p_cs; omega)) q2
      · rw [c6 85 x (by omega) (by unfold p_stc; omega)]; exact (g2 x x1 (by omega)).2
      · rw [c6 _ 0 (by omega) (by unfold p_stc; omega)]; exact g3 x (by omega) x2
    | succ m ih =>
      intro j M' hm j0 j1 g1 g2 g3
      by_cases ej : j = A 6 0
      · exact ih j M' (by omega) j0 j1 g1 g2 g3
      have e60 : M' 6 0 = A 6 0 := by rw [g1 _ _ (by omega) (by omega)]; exact hC.1 6 0 (by omega) (by omega)
      refine u_X10_asKind_27 kd w j ⟨fun z => by omega, fun z => ⟨by omega, by omega, ?_⟩⟩
      rw [show 8 + 1 + 4 * j = 9 + 4 * j by omega, g3 j (by omega) (by omega)]
      intro M2 hM2
      refine ⟨by omega, ?_⟩
      intro M3 hM3 v hv
      rw [x_w_id (by omega) (by omega)] at hv
      rw [hv]
      refine ih (j + 1) M3 (by omega) (by omega) (by omega) (fun a k q1 q2 => ?_) (fun x x1 x2 => ?_) (fun x x1 x2 => ?_)
      · rw [hM3, x_wr_ne _ _ (by omega), hM2, x_wr_ne _ _ (by omega)]; exact g1 a k q1 q2
      · by_cases cx : x = j
        · refine ⟨by rw [cx, hM3, x_wr_eq], by rw [cx, hM3, x_wr_ne _ _ (by omega), hM2, x_wr_eq]⟩
        · obtain ⟨z1, z2⟩ := g2 x x1 (by omega)
          refine ⟨by rw [hM3, x_wr_ne _ _ (by omega), hM2, x_wr_ne _ _ (by omega)]; exact z1, by rw [hM3, x_wr_ne _ _ (by omega), hM2, x_wr_ne _ _ (by omega)]; exact z2⟩
      · rw [hM3, x_wr_ne _ _ (by omega), hM2, x_wr_ne _ _ (by omega)]; exact g3 x (by omega) x2
  exact main (A 6 0).toNat 0 M (by omega) (by omega) (by omega) (fun _ _ _ _ => rfl) (fun x x1 x2 => by omega) (fun x x1 x2 => hC.1 _ _ (by omega) (by omega))
theorem r_asKind (hA : p_WF A) (hR : p_RI A M) {kd w : Int} (h : ∀ M1, p_RI (o_asKind A kd w).2 M1 → p_rfr M M1 → Q (some (1, (o_asKind A kd w).1)) M1) : x_Ev l E (11, 2, 8) m_X11_asKind 0 [(21, 103), (0, kd), (0, w), (5, 0), (5, 0)] [] M Q := by
  refine x_Ev.tp0 (fun hT => ?_)
  unfold o_asKind at h
  have w0 := hA.1.1
  have w1 := (p_W_tm hA).2.1
  have bad : ¬ ((0 ≤ kd ∧ kd ≤ 6) ∧ 0 ≤ w ∧ w ≤ 4) → x_Ev l E (1, 0, 0) m_X11_findsLong 0 [(21, 103), (0, 0)] [] M (fun r M3 => ∃ z, r = some (1, z) ∧ Q (some (1, z)) M3) := fun c => by
    rw [p_if_f c] at h
    exact r_tL hA hR (by omega) (fun M1 a b => ⟨_, rfl, h M1 a b⟩)
  refine u_X11_asKind_0 kd w (r_in (fun c => x_n1 (by omega) (r_in (fun d => x_y1 (by omega) ?_) (fun d => x_y0 (bad (fun q => d q.2))))) (fun c => x_n0 (bad (fun q => c q.1))))
  rw [p_if_t ⟨c, d⟩] at h
  obtain ⟨wA, ww⟩ := p_asK_wf hA c
  refine r_plans hA hR (fun M7 w2 fr => ⟨rfl, ?_⟩)
  have hR7 := p_RI_sc hA hR fr
  have hT7 : 593 ≤ x_tp M7 := by rw [x_tp_fr fr]; exact hT
  have eN : ((x_tp M7 : Nat) : Int) = M7 (-1) 0 := by unfold x_tp at *; omega
  intro M8 h8 M9 h9 M10 h10 M11 h11
  have f8 : ∀ a k, 0 ≤ a → a ≠ M7 (-1) 0 → M8 a k = M7 a k := fun a k q1 q2 => by rw [h8]; exact x_new_at hT7 _ a k q1 (by omega)
  have f11 : ∀ a k, 0 ≤ a → a ≠ M7 (-1) 0 → M11 a k = M7 a k := fun a k q1 q2 => by
    rw [h11, x_wr_ne _ _ (by omega), h10, x_wr_ne _ _ (by omega), h9, x_wr_ne _ _ (by omega)]
    exact f8 a k q1 q2
  have v11 : ∀ i, 0 ≤ i → i < 3 → M11 (M7 (-1) 0) i = M7 104 i := by
    intro i i1 i2
    have : i = 0 ∨ i = 1 ∨ i = 2 := by omega
    rcases this with e | e | e
    · rw [e, h11, x_wr_ne _ _ (by omega), h10, x_wr_ne _ _ (by omega), h9, x_wr_eq, f8 _ _ (by omega) (by omega)]
    · rw [e, h11, x_wr_ne _ _ (by omega), h10, x_wr_eq, h9, x_wr_ne _ _ (by omega), f8 _ _ (by omega) (by omega)]
    · rw [e, h11, x_wr_eq, h10, x_wr_ne _ _ (by omega), h9, x_wr_ne _ _ (by omega), f8 _ _ (by omega) (by omega)]
  have ex : x_ext M7 M11 := by
    rw [h11, h10, h9, h8]
    exact (((x_new_ext hT7 _).tr (x_ext.wr _ _ _ (by omega))).tr (x_ext.wr _ _ _ (by omega))).tr (x_ext.wr _ _ _ (by omega))
  have r11 : p_rfr M7 M11 := ⟨ex.1, ex.2, fun a k q1 q2 => f11 a k q1 (by omega), fun a k q1 q2 => f11 a k (by omega) (by omega)⟩
  have hT11 : 593 ≤ x_tp M11 := by have := ex.1; omega
  -- back to what they were
  have back : ∀ (m : Nat) (j : Int) (M1 M' : xM), 3 - j ≤ m → 0 ≤ j → j ≤ 3 → (∀ i, 0 ≤ i → i < 5 → M1 103 (28 + i) = p_bsA (p_asK A kd) (A 6 1) i) → (∀ a k, a ≠ 104 → ¬ p_rsc a k → M1 a k = M11 a k) → (∀ a k, a ≠ 104 → M' a k = M1 a k) → (∀ g, 0 ≤ g → g < j → M' 104 g = M7 104 g) → x_Ev l E (11, 1, 5) m_X11_asKind 95 [(21, 103), (0, kd), (0, w), (192, M7 (-1) 0), (0, j)] [] M' Q := by
    intro m
    induction m with
    | zero =>
      intro j M1 M' hm j0 j1 b1 f1 g1 g2
      have ej : j = 3 := by omega
      refine u_X11_asKind_95w kd w _ j ⟨fun _ => ?_, fun z => by omega⟩
      have tpm : x_tp M' = x_tp M11 := x_tp_eq (by rw [g1 _ _ (by omega), f1 _ _ (by omega) (by unfold p_rsc; omega)])
      have tgm : ∀ b, x_tag M' b = x_tag M11 b := fun b => x_tag_eq (fun k => by rw [g1 _ _ (by omega), f1 _ _ (by omega) (by unfold p_rsc; omega)]) b
      have rM : p_rfr M11 M' := ⟨by rw [tpm]; exact Nat.le_refl _, fun b _ => tgm b, fun a k q1 q2 => by rw [g1 _ _ (by omega), f1 _ _ (by omega) (by unfold p_rsc; omega)], fun a k q1 q2 => by rw [g1 _ _ (by omega), f1 _ _ (by omega) (by unfold p_rsc; omega)]⟩
      refine c_toldBest (by rw [tpm]; exact hT11) (by omega) (fun M3 d1 d2 => ⟨_, rfl, ?_⟩)
      rw [g1 103 _ (by omega), b1 w (by omega) (by omega)]
      refine h M3 (p_RI_kk (A' := A) hA hR7 (fun _ _ _ => rfl) (fun a k q1 q2 q3 q4 => ?_) (fun x x1 x2 => ?_)) (p_rfr_tr (p_rfr_tr (p_rfr_tr (p_rfr_sc fr) r11) rM) d1)
      · rw [d2 a k q3 q4, g1 a k q1, f1 a k q1 q2, f11 a k q3 (by omega)]
      · rw [d2 104 x (by omega) (by omega), g2 x x1 (by omega), (p_RI_f hA hR7 ⟨x1, x2⟩).1.1, p_Fs0 A x1]
    | succ m ih =>
      intro j M1 M' hm j0 j1 b1 f1 g1 g2
      by_cases ej : j = 3
      · exact ih j M1 M' (by omega) j0 j1 b1 f1 g1 g2
      refine u_X11_asKind_95w kd w _ j ⟨fun z => by omega, fun z => ⟨by omega, by omega, ?_⟩⟩
      intro M2 hM2 v hv
      rw [x_w_id (by omega) (by omega)] at hv
      rw [g1 _ _ (by omega), f1 _ _ (by omega) (by unfold p_rsc; omega), v11 j j0 (by omega)] at hM2
      rw [hv]
      refine ih (j + 1) M1 M2 (by omega) (by omega) (by omega) b1 f1 (fun a k q => by rw [hM2, x_wr_ne _ _ (by omega)]; exact g1 a k q) (fun x x1 x2 => ?_)
      by_cases cx : x = j
      · rw [cx, hM2, x_wr_eq]
      · rw [hM2, x_wr_ne _ _ (by omega)]; exact g2 x x1 (by omega)
  have main : ∀ (m : Nat) (j : Int) (M' : xM), 3 - j ≤ m → 0 ≤ j → j ≤ 3 → (∀ a k, a ≠ 104 → M' a k = M11 a k) → (∀ g, 0 ≤ g → g < j → M' 104 g = kd) → x_Ev l E (11, 1, 5) m_X11_asKind 68 [(21, 103), (0, kd), (0, w), (192, M7 (-1) 0), (0, j)] [] M' Q := by
    intro m
    induction m with
    | zero =>
      intro j M' hm j0 j1 g1 g2
      have ej : j = 3 := by omega
      refine u_X11_asKind_68w kd w _ j ⟨fun _ => ?_, fun z => by omega⟩
      have rI : p_RI (p_asK A kd) M' := p_RI_kk hA hR7 (fun a k q => p_asK_ne q) (fun a k q1 q2 q3 q4 => by rw [g1 a k q1, f11 a k q3 (by omega)]) (fun x x1 x2 => by rw [p_asK_f (by omega), if_pos x2]; exact g2 x x1 (by omega))
      have T : p_tabs (p_asK A kd) M' := p_tabs_fr hA (p_tabs_of hA w2) (p_asK_ne (by omega)) (fun f hf => by
        obtain ⟨k0, k1, k2, k3⟩ := p_kk (A := A) (A' := p_asK A kd) (fun a k q => p_asK_ne q) hf
        exact ⟨⟨k0 2 (by omega), k0 3 (by omega)⟩, k2, k3⟩) (fun a k q1 q2 => by rw [g1 a k (by omega), f11 a k (by omega) (by omega)])
      have e61 : p_asK A kd 6 1 = A 6 1 := p_asK_ne (by omega)
      refine r_fb wA rI (p_RW_mk wA rI T) (fun M1 _ _ _ _ c4 _ fr2 => ⟨rfl, ?_⟩)
      rw [e61] at c4
      exact back 3 0 M1 M1 (by omega) (by omega) (by omega) c4 (fun a k q1 q2 => by rw [fr2 a k q2, g1 a k q1]) (fun _ _ _ => rfl) (fun x x1 x2 => by omega)
    | succ m ih =>
      intro j M' hm j0 j1 g1 g2
      by_cases ej : j = 3
      · exact ih j M' (by omega) j0 j1 g1 g2
      refine u_X11_asKind_68w kd w _ j ⟨fun z => by omega, fun z => ⟨by omega, ?_⟩⟩
      intro M2 hM2 v hv
      rw [x_w_id (by omega) (by omega)] at hv
      rw [hv]
      refine ih (j + 1) M2 (by omega) (by omega) (by omega) (fun a k q => by rw [hM2, x_wr_ne _ _ (by omega)]; exact g1 a k q) (fun x x1 x2 => ?_)
      by_cases cx : x = j
      · rw [cx, hM2, x_wr_eq]
      · rw [hM2, x_wr_ne _ _ (by omega)]; exact g2 x x1 (by omega)
  exact main 3 0 M11 (by omega) (by omega) (by omega) (fun _ _ _ => rfl) (fun x x1 x2 => by omega)
theorem wf_asKind (hA : p_WF A) (kd w : Int) : p_WF (o_asKind A kd w).2 := by
  unfold o_asKind
  by_cases c : (0 ≤ kd ∧ kd ≤ 6) ∧ 0 ≤ w ∧ w ≤ 4
  · rw [p_if_t c]; exact hA
  · rw [p_if_f c]; exact wf_tl hA 0
end O9
