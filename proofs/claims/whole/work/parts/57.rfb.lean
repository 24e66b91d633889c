/-! The reference gathers the breaks -/
def x_tri : Nat → Nat
  | 0 => 0
  | k + 1 => x_tri k + k
theorem x_tri_le {k : Nat} (hk : k ≤ 10) : x_tri k ≤ 45 := by
  have : k = 0 ∨ k = 1 ∨ k = 2 ∨ k = 3 ∨ k = 4 ∨ k = 5 ∨ k = 6 ∨ k = 7 ∨ k = 8 ∨ k = 9 ∨ k = 10 := by omega
  rcases this with e | e | e | e | e | e | e | e | e | e | e <;> subst e <;> decide
theorem p_RW_bf {M M1 : xM} {Fs : Nat → xM} {m : Nat} (hW : p_RW M Fs m) (h : p_bf M M1) : p_RW M1 Fs m := p_RW_fr hW (fun a k w => h a k (by omega) (by omega) (by omega))
section RG
variable {l : Launch} {E : xE} {Q' : Option xV → xM → Prop}
theorem c_breaksOf (H10 : p_ten) (H1 : p_one) {f : Nat} {M0 : xM} {Fs : Nat → xM} {m : Nat} (hW : p_RW M0 Fs m) (hf : f < m) {most : Int} (hmost : 1 ≤ most ∧ most ≤ 40) (hm8 : M0 103 8 = most) {n : Nat} {P Q : Int → Int} {B : Int → Int → Prop} (hn : n + 45 < 199) (ht : p_btab n P Q B) (hm : p_rbmem M0 n P Q) (hB : ∀ k : Int, 0 ≤ k → k < n → p_tm (P k) (Q k))
    (h : ∀ (M1 : xM) (n1 : Nat) (P1 Q1 : Int → Int), p_btab n1 P1 Q1 (fun p q => B p q ∨ p_isbr (Fs f) most p q) → p_rbmem M1 n1 P1 Q1 → (∀ k : Int, 0 ≤ k → k < n1 → p_tm (P1 k) (Q1 k)) → n1 ≤ n + 45 → p_bf M0 M1 → Q' none M1) : x_Ev l E (5, 0, 0) m_X11_breaksOf 0 [(21, 103), (0, (f : Int)), (5, 0), (5, 0)] [] M0 Q' := by
  have hm3 := hW.2.1
  have q1 := (hW.2.2 f hf).1
  have n10 := p_n10 H10 q1
  generalize hFF : Fs f = F at *
  have main : ∀ (j k : Nat) (M : xM) (n1 : Nat) (P1 Q1 : Int → Int), p_n F - k ≤ j → k ≤ p_n F → p_btab n1 P1 Q1 (fun p q => B p q ∨ ∃ k' i' : Nat, i' < k' ∧ k' < k ∧ p_cr F most k' i' p q) → p_rbmem M n1 P1 Q1 → (∀ k : Int, 0 ≤ k → k < n1 → p_tm (P1 k) (Q1 k)) → n1 ≤ n + x_tri k → p_bf M0 M → x_Ev l E (5, 0, 0) m_X11_breaksOf 2 [(21, 103), (0, (f : Int)), (0, (k : Int)), (5, 0)] [] M Q' := by
    intro j
    induction j with
    | zero =>
      intro k M n1 P1 Q1 hj hk htab hmem htm hn1 hfr
      have ek : k = p_n F := by omega
      subst ek
      have hWM := p_RW_bf hW hfr
      have hS := (hWM.2.2 f hf).2
      rw [hFF] at hS
      have tri := x_tri_le n10
      refine u_X11_breaksOf_2 f _ ⟨by omega, fun _ => h M n1 P1 Q1 (p_btab_cg htab (fun p q => ⟨fun w => ?_, fun w => ?_⟩)) hmem htm (by omega) hfr, fun c => absurd (by rw [hS.2.1.1]; omega) c⟩
      · rcases w with w | ⟨k', i', a1, a2, a3, a4, a5, a6, a7, a8, a9⟩
        · exact Or.inl w
        · exact Or.inr ⟨a3, a4, a5, a6, k', i', a2, by omega, a7, a8, a9⟩
      · rcases w with w | ⟨a3, a4, a5, a6, k', i', a1, a2, a7, a8, a9⟩
        · exact Or.inl w
        · by_cases e : i' < k'
          · exact Or.inr ⟨k', i', e, a1, a3, a4, a5, a6, a7, a8, a9⟩
          · by_cases e2 : i' = k'
            · rw [e2] at a9; exact absurd rfl a9
            · exact Or.inr ⟨i', k', by omega, a2, a3, a4, a5, a6, a8, a7, fun w => a9 w.symm⟩
    | succ j ih =>
      intro k M n1 P1 Q1 hj hk htab hmem htm hn1 hfr
      by_cases hkn : k = p_n F
      · exact ih k M n1 P1 Q1 (by omega) hk htab hmem htm hn1 hfr
      have hWM := p_RW_bf hW hfr
      have hS := (hWM.2.2 f hf).2
      rw [hFF] at hS
      refine u_X11_breaksOf_2 f k ⟨by omega, fun c => by rw [hS.2.1.1] at c; omega, fun c => ?_⟩
      have inner : ∀ (j' i : Nat) (M : xM) (n2 : Nat) (P2 Q2 : Int → Int), k - i ≤ j' → i ≤ k → p_btab n2 P2 Q2 (fun p q => B p q ∨ ∃ k' i' : Nat, i' < k' ∧ (k' < k ∨ (k' = k ∧ i' < i)) ∧ p_cr F most k' i' p q) → p_rbmem M n2 P2 Q2 → (∀ k : Int, 0 ≤ k → k < n2 → p_tm (P2 k) (Q2 k)) → n2 ≤ n + x_tri k + i → p_bf M0 M → x_Ev l E (5, 0, 0) m_X11_breaksOf 14 [(21, 103), (0, (f : Int)), (0, (k : Int)), (0, (i : Int))] [] M Q' := by
        intro j'
        induction j' with
        | zero =>
          intro i M n2 P2 Q2 hj' hi htab hmem htm hn2 hfr
          have ei : i = k := by omega
          subst ei
          refine u_X11_breaksOf_14 f i i ⟨fun _ => ?_, fun c => absurd (Int.le_refl _) c⟩
          intro v hv
          rw [x_w_id (by omega) (by omega)] at hv
          subst hv
          refine ih (i + 1) M n2 P2 Q2 (by omega) (by omega) (p_btab_cg htab (fun p q => ⟨fun w => ?_, fun w => ?_⟩)) hmem htm (by show n2 ≤ n + (x_tri i + i); omega) hfr
          · rcases w with w | ⟨k', i', a1, a2, a3⟩
            · exact Or.inl w
            · exact Or.inr ⟨k', i', a1, by omega, a3⟩
          · rcases w with w | ⟨k', i', a1, a2, a3⟩
            · exact Or.inl w
            · exact Or.inr ⟨k', i', a1, by omega, a3⟩
        | succ j' im =>
          intro i M n2 P2 Q2 hj' hi htab hmem htm hn2 hfr
          by_cases hik : i = k
          · exact im i M n2 P2 Q2 (by omega) hi htab hmem htm hn2 hfr
          have hWM := p_RW_bf hW hfr
          have hS := (hWM.2.2 f hf).2
          rw [hFF] at hS
          have tri := x_tri_le (k := k + 1) (by omega)
          have tri2 : x_tri (k + 1) = x_tri k + k := rfl
          refine u_X11_breaksOf_14 f k i ⟨fun c => by omega, fun c => ?_⟩
          refine c_breaksBy H10 H1 (by omega) q1 hS hmost (by rw [hfr 103 8 (by omega) (by omega) (by omega)]; exact hm8) (by omega) (by omega) (by omega) htab hmem htm (fun M2 n3 P3 Q3 r1 r2 r3 r4 r5 => ⟨rfl, ?_⟩)
          intro v hv
          rw [x_w_id (by omega) (by omega)] at hv
          subst hv
          refine im (i + 1) M2 n3 P3 Q3 (by omega) (by omega) (p_btab_cg r1 (fun p q => ⟨fun w => ?_, fun w => ?_⟩)) r2 r3 (by omega) (fun a k a1 a2 a3 => (r5 a k a1 a2 a3).trans (hfr a k a1 a2 a3))
          · rcases w with (w | ⟨k', i', a1, a2, a3⟩) | w
            · exact Or.inl w
            · exact Or.inr ⟨k', i', a1, by omega, a3⟩
            · exact Or.inr ⟨k, i, by omega, by omega, w⟩
          · rcases w with w | ⟨k', i', a1, a2, a3⟩
            · exact Or.inl (Or.inl w)
            · by_cases e : k' = k ∧ i' = i
              · rw [e.1, e.2] at a3; exact Or.inr a3
              · exact Or.inl (Or.inr ⟨k', i', a1, by omega, a3⟩)
      refine inner k 0 M n1 P1 Q1 (by omega) (by omega) (p_btab_cg htab (fun p q => ⟨fun w => ?_, fun w => ?_⟩)) hmem htm (by omega) hfr
      · rcases w with w | ⟨k', i', a1, a2, a3⟩
        · exact Or.inl w
        · exact Or.inr ⟨k', i', a1, by omega, a3⟩
      · rcases w with w | ⟨k', i', a1, a2, a3⟩
        · exact Or.inl w
        · exact Or.inr ⟨k', i', a1, by omega, a3⟩
  refine u_X11_breaksOf_0 f (main (p_n F) 0 M0 n P Q (by omega) (by omega) (p_btab_cg ht (fun p q => ⟨fun w => Or.inl w, fun w => ?_⟩)) hm hB (by show n ≤ n + 0; omega) (fun _ _ _ _ _ => rfl))
  rcases w with w | ⟨k', i', a1, a2, a3⟩
  · exact w
  · omega
theorem c_findsBreaks (H10 : p_ten) (H1 : p_one) {M0 : xM} {Fs : Nat → xM} {m : Nat} (hW : p_RW M0 Fs m) {one most : Int} (hone : -1 ≤ one) (hmost : 1 ≤ most ∧ most ≤ 40) (hm8 : M0 103 8 = most)
    (h : ∀ (M1 : xM) (n1 : Nat) (P1 Q1 : Int → Int), p_btab n1 P1 Q1 (p_B Fs m one most) → p_rbmem M1 n1 P1 Q1 → (∀ k : Int, 0 ≤ k → k < n1 → p_tm (P1 k) (Q1 k)) → n1 ≤ 135 → p_bf M0 M1 → Q' none M1) : x_Ev l E (6, 0, 0) m_X11_findsBreaks 0 [(21, 103), (0, one), (5, 0)] [] M0 Q' := by
  have hm3 := hW.2.1
  have main : ∀ (k f : Nat) (M : xM) (n : Nat) (P Q : Int → Int), m - f ≤ k → f ≤ m → p_btab n P Q (p_B Fs f one most) → p_rbmem M n P Q → (∀ k : Int, 0 ≤ k → k < n → p_tm (P k) (Q k)) → n ≤ 45 * f → p_bf M0 M → x_Ev l E (6, 0, 0) m_X11_findsBreaks 7 [(21, 103), (0, one), (0, (f : Int))] [] M Q' := by
    intro k
    induction k with
    | zero =>
      intro f M n P Q hk hf ht hmem htm hn hfr
      have ef : f = m := by omega
      subst ef
      have hM := p_RW_bf hW hfr
      exact u_X11_findsBreaks_7 one f ⟨fun _ => h M n P Q ht hmem htm (by omega) hfr, fun c => absurd (by rw [hM.1]; omega) c⟩
    | succ k ih =>
      intro f M n P Q hk hf ht hmem htm hn hfr
      by_cases hfm : f = m
      · exact ih f M n P Q (by omega) hf ht hmem htm hn hfr
      have hM := p_RW_bf hW hfr
      have add : (one = -1 ∨ one = f) → x_Ev l E (5, 0, 0) m_X11_breaksOf 0 [(21, 103), (0, (f : Int)), (5, 0), (5, 0)] [] M (fun r zM1 => r = none ∧ ∀ zv2 : Int, zv2 = x_w ((f : Int) + 1) → x_Ev l E (6, 0, 0) m_X11_findsBreaks 7 [(21, 103), (0, one), (0, zv2)] [] zM1 Q') := by
        intro ho
        refine c_breaksOf H10 H1 hM (by omega) hmost (by rw [hfr 103 8 (by omega) (by omega) (by omega)]; exact hm8) (by omega) ht hmem htm (fun M1 n1 P1 Q1 r2 r3 r4 r5 r6 => ⟨rfl, ?_⟩)
        intro v hv
        rw [x_w_id (by omega) (by omega)] at hv
        subst hv
        refine ih (f + 1) M1 n1 P1 Q1 (by omega) (by omega) (p_btab_cg r2 (fun p q => ⟨fun w => ?_, fun w => ?_⟩)) r3 r4 (by omega) (fun a k a1 a2 a3 => (r6 a k a1 a2 a3).trans (hfr a k a1 a2 a3))
        · rcases w with ⟨g, g1, g2, g3⟩ | w
          · exact ⟨g, by omega, g2, g3⟩
          · exact ⟨f, by omega, ho, w⟩
        · obtain ⟨g, g1, g2, g3⟩ := w
          by_cases e : g = f
          · rw [e] at g3; exact Or.inr g3
          · exact Or.inl ⟨g, by omega, g2, g3⟩
      refine u_X11_findsBreaks_7 one f ⟨fun c => by rw [hM.1] at c; omega, fun c => ⟨fun d => add (Or.inl (by omega)), fun d => ⟨fun e => ?_, fun e => add (Or.inr e)⟩⟩⟩
      intro v hv
      rw [x_w_id (by omega) (by omega)] at hv
      subst hv
      refine ih (f + 1) M n P Q (by omega) (by omega) (p_btab_cg ht (fun p q => ⟨fun w => ?_, fun w => ?_⟩)) hmem htm (by omega) hfr
      · obtain ⟨g, g1, g2, g3⟩ := w
        exact ⟨g, by omega, g2, g3⟩
      · obtain ⟨g, g1, g2, g3⟩ := w
        by_cases e2 : g = f
        · rw [e2] at g2; omega
        · exact ⟨g, by omega, g2, g3⟩
  refine u_X11_findsBreaks_0 one ?_
  intro M1 hM1
  subst hM1
  refine main m 0 _ 0 (fun _ => 0) (fun _ => 0) (by omega) (by omega) ⟨fun k a b => by omega, fun p q w => ?_, fun k k' a b c => by omega⟩ ⟨x_wr_eq .., fun k a b => by omega⟩ (fun k a b => by omega) (by omega) (fun a k a1 a2 a3 => x_wr_ne _ _ a1)
  obtain ⟨g, g1, -⟩ := w
  omega
end RG
