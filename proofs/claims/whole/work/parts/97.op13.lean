/-! without -/
noncomputable def p_wo (base : Int → Int) (b : Nat → Int → Int) : Nat → Int × Int × Int
  | 0 => (-1, base 0, base 1)
  | k + 1 => p_if (0 < p_cmp (b k 0 * (p_wo base b k).2.2) ((p_wo base b k).2.1 * b k 1)) ((k : Int) + 1, b k 0, b k 1) (p_wo base b k)
def p_gs2 (s : Int × Int × Int) : Prop := (-133844400000000000 ≤ s.2.1 ∧ s.2.1 ≤ 133844400000000000) ∧ 0 < s.2.2 ∧ s.2.2 ≤ 17006112000000
theorem p_cmp_pos {x y : Int} : 0 < p_cmp x y ↔ y < x := by
  rcases p_cmp_cases x y with ⟨a, b⟩ | ⟨a, b⟩ | ⟨a, b⟩ <;> rw [b] <;> omega
section P13
variable {l : Launch} {E : xE} {Q : Option xV → xM → Prop} {A M : xM}
theorem c_like {w w' : Int} (hw : w + 4 ≤ w' ∨ w' + 4 ≤ w) (h : ∀ M1 : xM, (∀ k, 0 ≤ k → k < 4 → M1 w k = M w' k) → (∀ k, 0 ≤ k → k < 9 → M1 (w + 1) k = M (w' + 1) k) → (∀ k, 0 ≤ k → k < 12 → M1 (w + 2) k = M (w' + 2) k) → (∀ k, 0 ≤ k → k < 4 → M1 (w + 3) k = M (w' + 3) k) → (∀ a k, ¬ ((a = w ∧ 0 ≤ k ∧ k < 4) ∨ (a = w + 1 ∧ 0 ≤ k ∧ k < 9) ∨ (a = w + 2 ∧ 0 ≤ k ∧ k < 12) ∨ (a = w + 3 ∧ 0 ≤ k ∧ k < 4)) → M1 a k = M a k) → Q none M1) : x_Ev l E (2, 0, 0) m_X1_becomeLike 0 [(11, w), (11, w')] [] M Q := by
  refine u_X1_becomeLike_0 w w' ?_
  intro M1 h1 M2 h2 M3 h3 M4 h4
  refine ⟨by omega, ?_⟩
  intro M5 h5
  refine ⟨by omega, ?_⟩
  intro M6 h6
  refine ⟨by omega, ?_⟩
  intro M7 h7
  have e4 : ∀ a k, ¬ (a = w ∧ 0 ≤ k ∧ k < 4) → M4 a k = M a k := fun a k q => by
    rw [h4, x_wr_ne _ _ (by omega), h3, x_wr_ne _ _ (by omega), h2, x_wr_ne _ _ (by omega), h1, x_wr_ne _ _ (by omega)]
  have v4 : ∀ k, 0 ≤ k → k < 4 → M4 w k = M w' k := fun k k1 k2 => by
    have : k = 0 ∨ k = 1 ∨ k = 2 ∨ k = 3 := by omega
    rcases this with e | e | e | e
    · rw [e, h4, x_wr_ne _ _ (by omega), h3, x_wr_ne _ _ (by omega), h2, x_wr_ne _ _ (by omega), h1, x_wr_eq]
    · rw [e, h4, x_wr_ne _ _ (by omega), h3, x_wr_ne _ _ (by omega), h2, x_wr_eq, h1, x_wr_ne _ _ (by omega)]
    · rw [e, h4, x_wr_ne _ _ (by omega), h3, x_wr_eq, h2, x_wr_ne _ _ (by omega), h1, x_wr_ne _ _ (by omega)]
    · rw [e, h4, x_wr_eq, h3, x_wr_ne _ _ (by omega), h2, x_wr_ne _ _ (by omega), h1, x_wr_ne _ _ (by omega)]
  have z : ∀ k : Int, 0 + (k - 0) = k := fun k => by omega
  refine h M7 (fun k k1 k2 => ?_) (fun k k1 k2 => ?_) (fun k k1 k2 => ?_) (fun k k1 k2 => ?_) (fun a k q => ?_)
  · rw [h7, x_cpy_out _ (by omega), h6, x_cpy_out _ (by omega), h5, x_cpy_out _ (by omega)]; exact v4 k k1 k2
  · rw [h7, x_cpy_out _ (by omega), h6, x_cpy_out _ (by omega), h5, x_cpy_in _ (by omega) (by omega), z]; exact e4 _ _ (by omega)
  · rw [h7, x_cpy_out _ (by omega), h6, x_cpy_in _ (by omega) (by omega), z, h5, x_cpy_out _ (by omega)]; exact e4 _ _ (by omega)
  · rw [h7, x_cpy_in _ (by omega) (by omega), z, h6, x_cpy_out _ (by omega), h5, x_cpy_out _ (by omega)]; exact e4 _ _ (by omega)
  · rw [h7, x_cpy_out _ (by omega), h6, x_cpy_out _ (by omega), h5, x_cpy_out _ (by omega)]; exact e4 _ _ (by omega)
theorem k_find2 (hA : p_WF A) (hC : p_CI A M) {A' M' : xM} {f : Int} (hf : 0 ≤ f ∧ f < A 6 0) (hA' : ∀ a k, ¬ (9 + 4 * f ≤ a ∧ a ≤ 12 + 4 * f) → A' a k = A a k) (hM' : ∀ a k, 9 + 4 * f ≤ a → a ≤ 12 + 4 * f → M' a k = A' a k) (hfr : ∀ a k, ¬ (9 + 4 * f ≤ a ∧ a ≤ 12 + 4 * f) → ¬ (49 + 9 * f ≤ a ∧ a ≤ 57 + 9 * f) → ¬ p_cs a k → M' a k = M a k) (wf : p_wf (p_Fs A' f.toNat)) (h : ∀ M1, p_CI A' M1 → p_WF A' → (∀ a k, ¬ (36 ≤ a ∧ a ≤ 39) → ¬ (49 + 9 * f ≤ a ∧ a ≤ 55 + 9 * f) → M1 a k = M' a k) → Q none M1) : x_Ev l E (4, 0, 0) m_X4_findAll 0 [(14, 49 + 9 * f), (5, 0), (5, 0), (5, 0)] [] M' Q := by
  have w0 := hA.1.1
  have xf : x_F M' (9 + 4 * f) = p_Fs A' f.toNat := by
    rw [p_Fs_of hf.1]
    exact x_F_eq (fun a a1 a2 => by funext k; exact hM' a k a1 (by omega))
  have e6 : A' 6 0 = A 6 0 := hA' _ _ (by omega)
  refine c_findAll p_ten_ok (by omega) (by rw [xf]; exact wf) (fun M1 s1 s2 s3 => ?_)
  rw [xf] at s1 s2
  have s4 : ∀ a k, ¬ (36 ≤ a ∧ a ≤ 39) → ¬ (49 + 9 * f ≤ a ∧ a ≤ 55 + 9 * f) → M1 a k = M' a k := fun a k q1 q2 => by rw [s3 a (by omega) (by omega)]
  refine h M1 ?_ (p_WF_F hA (f := f) (by omega) (fun a k q1 q2 => hA' a k q1) (by omega) (fun x _ q _ => by omega) (by omega) wf) s4
  refine p_CI_F hA hC (f := f) (by omega) (fun a k q1 q2 => hA' a k q1) (by omega) (fun x _ q _ => by omega) ?_ (fun a k q1 q2 => ?_) (fun a k q1 q2 q3 q4 => ?_) (fun _ => ⟨wf, s1, s2⟩)
  · rw [s4 _ _ (by omega) (by omega), hfr _ _ (by omega) (by omega) (by unfold p_cs p_stc; omega), e6]; exact hC.1 6 0 (by omega) (by omega)
  · rw [s4 _ _ (by omega) (by omega)]; exact hM' a k q1 q2
  · rw [s4 a k (by unfold p_cs at q1; omega) (by omega), hfr a k q2 (by omega) q1]
noncomputable def p_db (A : xM) (f : Int) (k : Nat) : Int → Int := p_bsA (p_drop A (9 + 4 * f) ((k : Int) + 1)) (A 6 1)
noncomputable def o_without (A : xM) (f : Int) : Int × xM := p_if (0 ≤ f ∧ f < A 6 0) ((p_wo (p_bsA A (A 6 1)) (p_db A f) (A (9 + 4 * f) 3 - 1).toNat).1, A) (p_err A 0)
theorem k_without (hA : p_WF A) (hC : p_CI A M) {f : Int} (h : ∀ M1, p_CI (o_without A f).2 M1 → p_cfr M M1 → Q (some (0, (o_without A f).1)) M1) : x_Ev l E (7, 0, 0) m_X10_without 0 [(20, 5), (0, f), (5, 0), (5, 0), (5, 0)] [] M Q := by
  unfold o_without at h
  have w0 := hA.1.1
  have w1 := (p_W_tm hA).2.1
  refine u_X10_without_0 f (k_NF hC (fun c => x_n1 (by omega) ?_) (fun c => x_n0 ⟨by omega, ?_⟩))
  · rw [p_if_f c] at h
    exact k_tl hA hC (by omega) (fun M1 a b => ⟨_, rfl, h M1 a b⟩)
  have gd := p_gd hA c
  rw [p_if_t c] at h
  rw [show 8 + 1 + 4 * f = 9 + 4 * f by omega, hC.1 6 1 (by omega) (by omega)]
  refine k_seek hA hC w1 (fun M3 d1 d2 d3 d4 d5 d6 => ⟨rfl, ?_⟩)
  have gb0 := p_gb_of d2 d3
  obtain ⟨b0, b1, -, -⟩ := d4.2 d3
  refine c_take (by omega) (fun M4 y1 y2 y3 => ⟨rfl, ?_⟩)
  have f4 : ∀ a k, ¬ p_cs a k → M4 a k = M a k := fun a k q => by
    rw [y3 a (fun e => q (by unfold p_cs; omega))]
    exact d6 a k (fun e => q (by unfold p_cs; omega)) (p_cs_st q)
  refine c_like (by omega) (fun M5 l0 l1 l2 l3 l4 => ⟨rfl, ?_⟩)
  have blk4 : ∀ a k, 9 + 4 * f ≤ a → a ≤ 12 + 4 * f → M4 a k = A a k := fun a k q1 q2 => by rw [f4 a k (by unfold p_cs p_stc; omega)]; exact hC.1 a k (by omega) (by omega)
  have main : ∀ (m k : Nat) (M' : xM), A (9 + 4 * f) 3 - 1 - k ≤ m → (k : Int) ≤ A (9 + 4 * f) 3 - 1 → (∀ a j, ¬ (9 + 4 * f ≤ a ∧ a ≤ 12 + 4 * f) → ¬ (49 + 9 * f ≤ a ∧ a ≤ 57 + 9 * f) → ¬ p_cs a j → M' a j = M a j) → (∀ a j, 9 + 4 * f ≤ a → a ≤ 12 + 4 * f → M' a j = A a j) → ((∀ j, 0 ≤ j → j < 4 → M' 81 j = A (9 + 4 * f) j) ∧ (∀ j, 0 ≤ j → j < 9 → M' 82 j = A (9 + 4 * f + 1) j) ∧ (∀ j, 0 ≤ j → j < 12 → M' 83 j = A (9 + 4 * f + 2) j) ∧ (∀ j, 0 ≤ j → j < 4 → M' 84 j = A (9 + 4 * f + 3) j)) → p_gs2 (p_wo (p_bsA A (A 6 1)) (p_db A f) k) → M' 87 0 = (p_wo (p_bsA A (A 6 1)) (p_db A f) k).2.1 → M' 87 1 = (p_wo (p_bsA A (A 6 1)) (p_db A f) k).2.2 → x_Ev l E (7, 0, 0) m_X10_without 65 [(20, 5), (0, f), (11, 9 + 4 * f), (0, (p_wo (p_bsA A (A 6 1)) (p_db A f) k).1), (0, (k : Int) + 1)] [] M' Q := by
    intro m
    induction m with
    | zero =>
      intro k M' hm hk j1 j2 j3 gs g0 g1
      have ek : (k : Int) = A (9 + 4 * f) 3 - 1 := by omega
      have e81 : M' 81 3 = A (9 + 4 * f) 3 := j3.1 3 (by omega) (by omega)
      refine u_X10_without_65 f _ _ _ ⟨fun _ => ⟨by omega, ?_⟩, fun z => by omega⟩
      rw [show 41 + 8 + 9 * f = 49 + 9 * f by omega]
      have ek2 : (A (9 + 4 * f) 3 - 1).toNat = k := by omega
      rw [ek2] at h
      refine k_find2 hA hC (A' := A) c (fun _ _ _ => rfl) j2 j1 (p_WF_f hA c) (fun M1 x1 _ x3 => ⟨rfl, h M1 x1 (fun a j q1 q2 => ?_)⟩)
      rw [x3 a j (by omega) (by omega), j1 a j (by omega) (by omega) (by unfold p_cs p_stc; omega)]
    | succ m ih =>
      intro k M' hm hk j1 j2 j3 gs g0 g1
      by_cases ek : (k : Int) = A (9 + 4 * f) 3 - 1
      · exact ih k M' (by omega) hk j1 j2 j3 gs g0 g1
      have e81 : M' 81 3 = A (9 + 4 * f) 3 := j3.1 3 (by omega) (by omega)
      have e93 : M' (9 + 4 * f) 3 = A (9 + 4 * f) 3 := j2 _ _ (by omega) (by omega)
      refine u_X10_without_65 f _ _ _ ⟨fun z => by omega, fun z => c_dropRow (by omega) (by omega) ⟨rfl, by omega, ?_⟩⟩
      rw [show 41 + 8 + 9 * f = 49 + 9 * f by omega]
      have hM' : ∀ a j, 9 + 4 * f ≤ a → a ≤ 12 + 4 * f → p_drop M' (9 + 4 * f) ((k : Int) + 1) a j = p_drop A (9 + 4 * f) ((k : Int) + 1) a j := fun a j q1 q2 => p_drop_sm (fun a j q3 q4 => j2 a j q3 (by omega)) q1 (by omega)
      refine k_find2 hA hC (A' := p_drop A (9 + 4 * f) ((k : Int) + 1)) c (fun a j q => p_drop_ne (by omega)) hM' (fun a j q1 q2 q3 => by rw [p_drop_ne (by omega)]; exact j1 a j q1 q2 q3) (p_drop_wf hA c (by omega)) (fun M1 x1 wA x3 => ⟨rfl, ?_⟩)
      have e61 : p_drop A (9 + 4 * f) ((k : Int) + 1) 6 1 = A 6 1 := p_drop_ne (by omega)
      have em : M1 6 1 = A 6 1 := by rw [x1.1 6 1 (by omega) (by omega)]; exact e61
      rw [em]
      refine k_seek wA x1 w1 (fun M2 z1 z2 z3 z4 z5 z6 => ⟨rfl, ?_⟩)
      have gb := p_gb_of z2 z3
      obtain ⟨t0, t1, -, -⟩ := z4.2 z3
      -- what M2 holds
      have n1 : ∀ a j, ¬ (9 + 4 * f ≤ a ∧ a ≤ 12 + 4 * f) → ¬ (49 + 9 * f ≤ a ∧ a ≤ 57 + 9 * f) → ¬ p_cs a j → M2 a j = M a j := fun a j q1 q2 q3 => by
        rw [z6 a j (fun e => q3 (by unfold p_cs; omega)) (p_cs_st q3), x3 a j (fun e => q3 (by unfold p_cs; omega)) (by omega), p_drop_ne (by omega)]
        exact j1 a j q1 q2 q3
      have n2 : ∀ a j, 81 ≤ a → a ≤ 87 → M2 a j = M' a j := fun a j q1 q2 => by
        rw [z6 a j (by omega) (by unfold p_stc; omega), x3 a j (by omega) (by omega), p_drop_ne (by omega)]
      have n3 : ∀ a j, 9 + 4 * f ≤ a → a ≤ 12 + 4 * f → M2 a j = p_drop A (9 + 4 * f) ((k : Int) + 1) a j := fun a j q1 q2 => by
        rw [z6 a j (by omega) (by unfold p_stc; omega), x3 a j (by omega) (by omega)]
        exact hM' a j q1 q2
      -- and after that the follower is as it was
      have like : ∀ (M9 : xM) (q : Int × Int × Int) (v2 : Int), (∀ a j, a ≠ 87 → M9 a j = M2 a j) → q = p_wo (p_bsA A (A 6 1)) (p_db A f) (k + 1) → p_gs2 q → M9 87 0 = q.2.1 → M9 87 1 = q.2.2 → x_Ev l E (2, 0, 0) m_X1_becomeLike 0 [(11, 9 + 4 * f), (11, 81)] [] M9 (fun r zM7 => r = none ∧ ∀ zv8 : Int, zv8 = x_w ((k : Int) + 1 + 1) → x_Ev l E (7, 0, 0) m_X10_without 65 [(20, 5), (0, f), (11, 9 + 4 * f), (0, q.1), (0, zv8)] [] zM7 Q) := by
        intro M9 q v2 f9 eq gq q0 q1
        refine c_like (by omega) (fun M7 r0 r1 r2 r3 r4 => ⟨rfl, fun v hv => ?_⟩)
        rw [x_w_id (by omega) (by omega)] at hv
        rw [hv, show (k : Int) + 1 + 1 = ((k + 1 : Nat) : Int) + 1 by omega]
        rw [eq] at gq q0 q1 ⊢
        have s9 : ∀ a j, 81 ≤ a → a ≤ 84 → M9 a j = M' a j := fun a j q1 q2 => by rw [f9 a j (by omega)]; exact n2 a j q1 (by omega)
        refine ih (k + 1) M7 (by omega) (by omega) (fun a j p1 p2 p3 => ?_) (fun a j p1 p2 => ?_) ⟨fun j p1 p2 => ?_, fun j p1 p2 => ?_, fun j p1 p2 => ?_, fun j p1 p2 => ?_⟩ gq ?_ ?_
        · rw [r4 a j (by omega), f9 a j (fun e => p3 (by unfold p_cs; omega))]; exact n1 a j p1 p2 p3
        · have ca : a = 9 + 4 * f ∨ a = 9 + 4 * f + 1 ∨ a = 9 + 4 * f + 2 ∨ a = 9 + 4 * f + 3 := by omega
          rcases ca with ca | ca | ca | ca
          · rw [ca]
            by_cases cj : 0 ≤ j ∧ j < 4
            · rw [r0 j cj.1 cj.2, s9 81 j (by omega) (by omega)]; exact j3.1 j cj.1 cj.2
            · rw [r4 _ _ (by omega), f9 _ _ (by omega), n3 _ _ (by omega) (by omega), p_drop_0 (by omega)]
          · rw [ca]
            by_cases cj : 0 ≤ j ∧ j < 9
            · rw [r1 j cj.1 cj.2, s9 _ j (by omega) (by omega)]; exact j3.2.1 j cj.1 cj.2
            · rw [r4 _ _ (by omega), f9 _ _ (by omega), n3 _ _ (by omega) (by omega), p_drop_1]
          · rw [ca]
            by_cases cj : 0 ≤ j ∧ j < 12
            · rw [r2 j cj.1 cj.2, s9 _ j (by omega) (by omega)]; exact j3.2.2.1 j cj.1 cj.2
            · rw [r4 _ _ (by omega), f9 _ _ (by omega), n3 _ _ (by omega) (by omega), p_drop_2, if_neg (by omega)]
          · rw [ca]
            by_cases cj : 0 ≤ j ∧ j < 4
            · rw [r3 j cj.1 cj.2, s9 _ j (by omega) (by omega)]; exact j3.2.2.2 j cj.1 cj.2
            · rw [r4 _ _ (by omega), f9 _ _ (by omega), n3 _ _ (by omega) (by omega), p_drop_b, if_neg (by omega)]
        · rw [r4 _ _ (by omega), s9 _ _ (by omega) (by omega)]; exact j3.1 j p1 p2
        · rw [r4 _ _ (by omega), s9 _ _ (by omega) (by omega)]; exact j3.2.1 j p1 p2
        · rw [r4 _ _ (by omega), s9 _ _ (by omega) (by omega)]; exact j3.2.2.1 j p1 p2
        · rw [r4 _ _ (by omega), s9 _ _ (by omega) (by omega)]; exact j3.2.2.2 j p1 p2
        · rw [r4 _ _ (by omega)]; exact q0
        · rw [r4 _ _ (by omega)]; exact q1
      refine k_gr (s := (0, (p_wo (p_bsA A (A 6 1)) (p_db A f) k).2)) (st := p_db A f k) (fun _ => gs) (Int.le_refl 0) (fun _ => ⟨by rw [n2 _ _ (by omega) (by omega)]; exact g0, by rw [n2 _ _ (by omega) (by omega)]; exact g1⟩) gb t0 t1 (fun w => x_n1 (by omega) ?_) (fun w => x_n0 ?_)
      · refine c_take (by omega) (fun M9 u1 u2 u3 => ⟨rfl, ?_⟩)
        exact like M9 ((k : Int) + 1, p_db A f k 0, p_db A f k 1) 0 (fun a j q => by rw [u3 a q]) (p_if_t w _ _).symm gb (by rw [u1]; exact t0) (by rw [u2]; exact t1)
      · exact like M2 (p_wo (p_bsA A (A 6 1)) (p_db A f) k) 0 (fun _ _ _ => rfl) (p_if_f w _ _).symm gs (by rw [n2 _ _ (by omega) (by omega)]; exact g0) (by rw [n2 _ _ (by omega) (by omega)]; exact g1)
  refine main (A (9 + 4 * f) 3).toNat 0 M5 (by omega) (by omega) (fun a j q1 q2 q3 => ?_) (fun a j q1 q2 => ?_) ⟨fun j p1 p2 => ?_, fun j p1 p2 => ?_, fun j p1 p2 => ?_, fun j p1 p2 => ?_⟩ gb0 ?_ ?_
  · rw [l4 a j (fun e => q3 (by unfold p_cs; omega))]; exact f4 a j q3
  · rw [l4 a j (by omega)]; exact blk4 a j q1 q2
  · rw [l0 j p1 p2]; exact blk4 _ _ (by omega) (by omega)
  · have := l1 j p1 p2
    rw [show (81 : Int) + 1 = 82 by omega] at this
    rw [this]; exact blk4 _ _ (by omega) (by omega)
  · have := l2 j p1 p2
    rw [show (81 : Int) + 2 = 83 by omega] at this
    rw [this]; exact blk4 _ _ (by omega) (by omega)
  · have := l3 j p1 p2
    rw [show (81 : Int) + 3 = 84 by omega] at this
    rw [this]; exact blk4 _ _ (by omega) (by omega)
  · rw [l4 _ _ (by omega), y1]; exact b0
  · rw [l4 _ _ (by omega), y2]; exact b1
theorem wf_without (hA : p_WF A) (f : Int) : p_WF (o_without A f).2 := by
  unfold o_without
  by_cases c : 0 ≤ f ∧ f < A 6 0
  · rw [p_if_t c]; exact hA
  · rw [p_if_f c]; exact wf_tl hA 0
end P13
