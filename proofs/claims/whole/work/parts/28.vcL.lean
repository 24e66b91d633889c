set_option maxRecDepth 100000 in
theorem u_L_law_18 {l : Launch} {E : xE} (mc ms : Nat) (l3 : Int) {M : xM} {Q : Option xV → xM → Prop} (h : ((x_w ((x_L E : Int) - 6)) < l3 → Q (some (0, 1)) M) ∧ (¬ (x_w ((x_L E : Int) - 6)) < l3 → ((0 : Int) ≤ l3 ∧ (l3 : Int) < x_L E) ∧ (((x_iand (x_xs E (l3).toNat).toInt 63) < 0 ∨ 48 < (x_iand (x_xs E (l3).toNat).toInt 63)) → x_Ev l E (13, mc + 2, ms + 42) m_L_law 1994 [(180, 0), (20, 5), (21, 103), (0, l3)] [] M Q) ∧ ((x_iand (x_xs E (l3).toNat).toInt 63) = 0 → x_Ev l E (13, mc + 2, ms + 42) m_L_law 244 [(180, 0), (20, 5), (21, 103), (0, l3)] [] M Q) ∧ ((x_iand (x_xs E (l3).toNat).toInt 63) = 1 → x_Ev l E (13, mc + 2, ms + 42) m_L_law 277 [(180, 0), (20, 5), (21, 103), (0, l3)] [] M Q) ∧ ((x_iand (x_xs E (l3).toNat).toInt 63) = 2 → x_Ev l E (13, mc + 2, ms + 42) m_L_law 310 [(180, 0), (20, 5), (21, 103), (0, l3)] [] M Q) ∧ ((x_iand (x_xs E (l3).toNat).toInt 63) = 3 → x_Ev l E (13, mc + 2, ms + 42) m_L_law 343 [(180, 0), (20, 5), (21, 103), (0, l3)] [] M Q) ∧ ((x_iand (x_xs E (l3).toNat).toInt 63) = 4 → x_Ev l E (13, mc + 2, ms + 42) m_L_law 396 [(180, 0), (20, 5), (21, 103), (0, l3)] [] M Q) ∧ ((x_iand (x_xs E (l3).toNat).toInt 63) = 5 → x_Ev l E (13, mc + 2, ms + 42) m_L_law 439 [(180, 0), (20, 5), (21, 103), (0, l3)] [] M Q) ∧ ((x_iand (x_xs E (l3).toNat).toInt 63) = 6 → x_Ev l E (13, mc + 2, ms + 42) m_L_law 482 [(180, 0), (20, 5), (21, 103), (0, l3)] [] M Q) ∧ ((x_iand (x_xs E (l3).toNat).toInt 63) = 7 → x_Ev l E (13, mc + 2, ms + 42) m_L_law 525 [(180, 0), (20, 5), (21, 103), (0, l3)] [] M Q) ∧ ((x_iand (x_xs E (l3).toNat).toInt 63) = 8 → x_Ev l E (13, mc + 2, ms + 42) m_L_law 558 [(180, 0), (20, 5), (21, 103), (0, l3)] [] M Q) ∧ ((x_iand (x_xs E (l3).toNat).toInt 63) = 9 → x_Ev l E (13, mc + 2, ms + 42) m_L_law 601 [(180, 0), (20, 5), (21, 103), (0, l3)] [] M Q) ∧ ((x_iand (x_xs E (l3).toNat).toInt 63) = 10 → x_Ev l E (13, mc + 2, ms + 42) m_L_law 624 [(180, 0), (20, 5), (21, 103), (0, l3)] [] M Q) ∧ ((x_iand (x_xs E (l3).toNat).toInt 63) = 11 → x_Ev l E (13, mc + 2, ms + 42) m_L_law 717 [(180, 0), (20, 5), (21, 103), (0, l3)] [] M Q) ∧ ((x_iand (x_xs E (l3).toNat).toInt 63) = 12 → x_Ev l E (13, mc + 2, ms + 42) m_L_law 741 [(180, 0), (20, 5), (21, 103), (0, l3)] [] M Q) ∧ ((x_iand (x_xs E (l3).toNat).toInt 63) = 13 → x_Ev l E (13, mc + 2, ms + 42) m_L_law 795 [(180, 0), (20, 5), (21, 103), (0, l3)] [] M Q) ∧ ((x_iand (x_xs E (l3).toNat).toInt 63) = 14 → x_Ev l E (13, mc + 2, ms + 42) m_L_law 849 [(180, 0), (20, 5), (21, 103), (0, l3)] [] M Q) ∧ ((x_iand (x_xs E (l3).toNat).toInt 63) = 15 → x_Ev l E (13, mc + 2, ms + 42) m_L_law 883 [(180, 0), (20, 5), (21, 103), (0, l3)] [] M Q) ∧ ((x_iand (x_xs E (l3).toNat).toInt 63) = 16 → x_Ev l E (13, mc + 2, ms + 42) m_L_law 916 [(180, 0), (20, 5), (21, 103), (0, l3)] [] M Q) ∧ ((x_iand (x_xs E (l3).toNat).toInt 63) = 17 → x_Ev l E (13, mc + 2, ms + 42) m_L_law 949 [(180, 0), (20, 5), (21, 103), (0, l3)] [] M Q) ∧ ((x_iand (x_xs E (l3).toNat).toInt 63) = 18 → x_Ev l E (13, mc + 2, ms + 42) m_L_law 982 [(180, 0), (20, 5), (21, 103), (0, l3)] [] M Q) ∧ ((x_iand (x_xs E (l3).toNat).toInt 63) = 19 → x_Ev l E (13, mc + 2, ms + 42) m_L_law 1026 [(180, 0), (20, 5), (21, 103), (0, l3)] [] M Q) ∧ ((x_iand (x_xs E (l3).toNat).toInt 63) = 20 → x_Ev l E (13, mc + 2, ms + 42) m_L_law 1059 [(180, 0), (20, 5), (21, 103), (0, l3)] [] M Q) ∧ ((x_iand (x_xs E (l3).toNat).toInt 63) = 21 → x_Ev l E (13, mc + 2, ms + 42) m_L_law 1082 [(180, 0), (20, 5), (21, 103), (0, l3)] [] M Q) ∧ ((x_iand (x_xs E (l3).toNat).toInt 63) = 22 → x_Ev l E (13, mc + 2, ms + 42) m_L_law 1126 [(180, 0), (20, 5), (21, 103), (0, l3)] [] M Q) ∧ ((x_iand (x_xs E (l3).toNat).toInt 63) = 23 → x_Ev l E (13, mc + 2, ms + 42) m_L_law 1160 [(180, 0), (20, 5), (21, 103), (0, l3)] [] M Q) ∧ ((x_iand (x_xs E (l3).toNat).toInt 63) = 24 → x_Ev l E (13, mc + 2, ms + 42) m_L_law 1184 [(180, 0), (20, 5), (21, 103), (0, l3)] [] M Q) ∧ ((x_iand (x_xs E (l3).toNat).toInt 63) = 25 → x_Ev l E (13, mc + 2, ms + 42) m_L_law 1218 [(180, 0), (20, 5), (21, 103), (0, l3)] [] M Q) ∧ ((x_iand (x_xs E (l3).toNat).toInt 63) = 26 → x_Ev l E (13, mc + 2, ms + 42) m_L_law 1231 [(180, 0), (20, 5), (21, 103), (0, l3)] [] M Q) ∧ ((x_iand (x_xs E (l3).toNat).toInt 63) = 27 → x_Ev l E (13, mc + 2, ms + 42) m_L_law 1254 [(180, 0), (20, 5), (21, 103), (0, l3)] [] M Q) ∧ ((x_iand (x_xs E (l3).toNat).toInt 63) = 28 → x_Ev l E (13, mc + 2, ms + 42) m_L_law 1287 [(180, 0), (20, 5), (21, 103), (0, l3)] [] M Q) ∧ ((x_iand (x_xs E (l3).toNat).toInt 63) = 29 → x_Ev l E (13, mc + 2, ms + 42) m_L_law 1310 [(180, 0), (20, 5), (21, 103), (0, l3)] [] M Q) ∧ ((x_iand (x_xs E (l3).toNat).toInt 63) = 30 → x_Ev l E (13, mc + 2, ms + 42) m_L_law 1333 [(180, 0), (20, 5), (21, 103), (0, l3)] [] M Q) ∧ ((x_iand (x_xs E (l3).toNat).toInt 63) = 31 → x_Ev l E (13, mc + 2, ms + 42) m_L_law 1346 [(180, 0), (20, 5), (21, 103), (0, l3)] [] M Q) ∧ ((x_iand (x_xs E (l3).toNat).toInt 63) = 32 → x_Ev l E (13, mc + 2, ms + 42) m_L_law 1369 [(180, 0), (20, 5), (21, 103), (0, l3)] [] M Q) ∧ ((x_iand (x_xs E (l3).toNat).toInt 63) = 33 → x_Ev l E (13, mc + 2, ms + 42) m_L_law 1433 [(180, 0), (20, 5), (21, 103), (0, l3)] [] M Q) ∧ ((x_iand (x_xs E (l3).toNat).toInt 63) = 34 → x_Ev l E (13, mc + 2, ms + 42) m_L_law 1456 [(180, 0), (20, 5), (21, 103), (0, l3)] [] M Q) ∧ ((x_iand (x_xs E (l3).toNat).toInt 63) = 35 → x_Ev l E (13, mc + 2, ms + 42) m_L_law 1499 [(180, 0), (20, 5), (21, 103), (0, l3)] [] M Q) ∧ ((x_iand (x_xs E (l3).toNat).toInt 63) = 36 → x_Ev l E (13, mc + 2, ms + 42) m_L_law 1512 [(180, 0), (20, 5), (21, 103), (0, l3)] [] M Q) ∧ ((x_iand (x_xs E (l3).toNat).toInt 63) = 37 → x_Ev l E (13, mc + 2, ms + 42) m_L_law 1546 [(180, 0), (20, 5), (21, 103), (0, l3)] [] M Q) ∧ ((x_iand (x_xs E (l3).toNat).toInt 63) = 38 → x_Ev l E (13, mc + 2, ms + 42) m_L_law 1620 [(180, 0), (20, 5), (21, 103), (0, l3)] [] M Q) ∧ ((x_iand (x_xs E (l3).toNat).toInt 63) = 39 → x_Ev l E (13, mc + 2, ms + 42) m_L_law 1633 [(180, 0), (20, 5), (21, 103), (0, l3)] [] M Q) ∧ ((x_iand (x_xs E (l3).toNat).toInt 63) = 40 → x_Ev l E (13, mc + 2, ms + 42) m_L_law 1676 [(180, 0), (20, 5), (21, 103), (0, l3)] [] M Q) ∧ ((x_iand (x_xs E (l3).toNat).toInt 63) = 41 → x_Ev l E (13, mc + 2, ms + 42) m_L_law 1749 [(180, 0), (20, 5), (21, 103), (0, l3)] [] M Q) ∧ ((x_iand (x_xs E (l3).toNat).toInt 63) = 42 → x_Ev l E (13, mc + 2, ms + 42) m_L_law 1783 [(180, 0), (20, 5), (21, 103), (0, l3)] [] M Q) ∧ ((x_iand (x_xs E (l3).toNat).toInt 63) = 43 → x_Ev l E (13, mc + 2, ms + 42) m_L_law 1846 [(180, 0), (20, 5), (21, 103), (0, l3)] [] M Q) ∧ ((x_iand (x_xs E (l3).toNat).toInt 63) = 44 → x_Ev l E (13, mc + 2, ms + 42) m_L_law 1889 [(180, 0), (20, 5), (21, 103), (0, l3)] [] M Q) ∧ ((x_iand (x_xs E (l3).toNat).toInt 63) = 45 → x_Ev l E (13, mc + 2, ms + 42) m_L_law 1922 [(180, 0), (20, 5), (21, 103), (0, l3)] [] M Q) ∧ ((x_iand (x_xs E (l3).toNat).toInt 63) = 46 → x_Ev l E (13, mc + 2, ms + 42) m_L_law 1935 [(180, 0), (20, 5), (21, 103), (0, l3)] [] M Q) ∧ ((x_iand (x_xs E (l3).toNat).toInt 63) = 47 → x_Ev l E (13, mc + 2, ms + 42) m_L_law 1948 [(180, 0), (20, 5), (21, 103), (0, l3)] [] M Q) ∧ ((x_iand (x_xs E (l3).toNat).toInt 63) = 48 → x_Ev l E (13, mc + 2, ms + 42) m_L_law 1971 [(180, 0), (20, 5), (21, 103), (0, l3)] [] M Q))) : x_Ev l E (13, mc + 2, ms + 42) m_L_law 18 [(180, 0), (20, 5), (21, 103), (0, l3)] [] M Q := by
  refine i_iload_n 10 rfl rfl ?_
  refine i_aload_n 11 rfl rfl (by decide) ?_
  refine i_slen 12 rfl ?_
  refine i_bipush 13 rfl (by decide) ?_
  refine i_isub 14 rfl ?_
  refine i_icmp_gt 2000 15 rfl (by decide) (fun c => ?_) (fun c => ?_)
  · replace h := h.1 c
    refine i_iconst 1450 rfl (by decide) ?_
    exact i_zreturn 1451 rfl rfl (by decide) h
  · replace h := h.2 c
    refine i_aload_n 16 rfl rfl (by decide) ?_
    refine i_iload_n 17 rfl rfl ?_
    refine i_scr 18 rfl h.1.1 h.1.2 ?_
    replace h := h.2
    refine i_bipush 19 rfl (by decide) ?_
    refine i_iand 20 rfl ?_
    refine i_switch 1994 21 rfl (by decide) (fun c => ?_) (fun c1 c2 => ?_)
    · replace h := h.1 c
      exact h
    · replace h := h.2
      by_cases e0 : (x_iand (x_xs E (l3).toNat).toInt 63) = 0
      · refine ⟨211, 244, by rw [e0]; rfl, by decide, ?_⟩
        replace h := h.1 e0
        exact h
      replace h := h.2
      by_cases e1 : (x_iand (x_xs E (l3).toNat).toInt 63) = 1
      · refine ⟨244, 277, by rw [e1]; rfl, by decide, ?_⟩
        replace h := h.1 e1
        exact h
      replace h := h.2
      by_cases e2 : (x_iand (x_xs E (l3).toNat).toInt 63) = 2
      · refine ⟨277, 310, by rw [e2]; rfl, by decide, ?_⟩
        replace h := h.1 e2
        exact h
      replace h := h.2
      by_cases e3 : (x_iand (x_xs E (l3).toNat).toInt 63) = 3
      · refine ⟨310, 343, by rw [e3]; rfl, by decide, ?_⟩
        replace h := h.1 e3
        exact h
      replace h := h.2
      by_cases e4 : (x_iand (x_xs E (l3).toNat).toInt 63) = 4
      · refine ⟨363, 396, by rw [e4]; rfl, by decide, ?_⟩
        replace h := h.1 e4
        exact h
      replace h := h.2
      by_cases e5 : (x_iand (x_xs E (l3).toNat).toInt 63) = 5
      · refine ⟨406, 439, by rw [e5]; rfl, by decide, ?_⟩
        replace h := h.1 e5
        exact h
      replace h := h.2
      by_cases e6 : (x_iand (x_xs E (l3).toNat).toInt 63) = 6
      · refine ⟨449, 482, by rw [e6]; rfl, by decide, ?_⟩
        replace h := h.1 e6
        exact h
      replace h := h.2
      by_cases e7 : (x_iand (x_xs E (l3).toNat).toInt 63) = 7
      · refine ⟨492, 525, by rw [e7]; rfl, by decide, ?_⟩
        replace h := h.1 e7
        exact h
      replace h := h.2
      by_cases e8 : (x_iand (x_xs E (l3).toNat).toInt 63) = 8
      · refine ⟨525, 558, by rw [e8]; rfl, by decide, ?_⟩
        replace h := h.1 e8
        exact h
      replace h := h.2
      by_cases e9 : (x_iand (x_xs E (l3).toNat).toInt 63) = 9
      · refine ⟨568, 601, by rw [e9]; rfl, by decide, ?_⟩
        replace h := h.1 e9
        exact h
      replace h := h.2
      by_cases e10 : (x_iand (x_xs E (l3).toNat).toInt 63) = 10
      · refine ⟨591, 624, by rw [e10]; rfl, by decide, ?_⟩
        replace h := h.1 e10
        exact h
      replace h := h.2
      by_cases e11 : (x_iand (x_xs E (l3).toNat).toInt 63) = 11
      · refine ⟨684, 717, by rw [e11]; rfl, by decide, ?_⟩
        replace h := h.1 e11
        exact h
      replace h := h.2
      by_cases e12 : (x_iand (x_xs E (l3).toNat).toInt 63) = 12
      · refine ⟨708, 741, by rw [e12]; rfl, by decide, ?_⟩
        replace h := h.1 e12
        exact h
      replace h := h.2
      by_cases e13 : (x_iand (x_xs E (l3).toNat).toInt 63) = 13
      · refine ⟨762, 795, by rw [e13]; rfl, by decide, ?_⟩
        replace h := h.1 e13
        exact h
      replace h := h.2
      by_cases e14 : (x_iand (x_xs E (l3).toNat).toInt 63) = 14
      · refine ⟨816, 849, by rw [e14]; rfl, by decide, ?_⟩
        replace h := h.1 e14
        exact h
      replace h := h.2
      by_cases e15 : (x_iand (x_xs E (l3).toNat).toInt 63) = 15
      · refine ⟨850, 883, by rw [e15]; rfl, by decide, ?_⟩
        replace h := h.1 e15
        exact h
      replace h := h.2
      by_cases e16 : (x_iand (x_xs E (l3).toNat).toInt 63) = 16
      · refine ⟨883, 916, by rw [e16]; rfl, by decide, ?_⟩
        replace h := h.1 e16
        exact h
      replace h := h.2
      by_cases e17 : (x_iand (x_xs E (l3).toNat).toInt 63) = 17
      · refine ⟨916, 949, by rw [e17]; rfl, by decide, ?_⟩
        replace h := h.1 e17
        exact h
      replace h := h.2
      by_cases e18 : (x_iand (x_xs E (l3).toNat).toInt 63) = 18
      · refine ⟨949, 982, by rw [e18]; rfl, by decide, ?_⟩
        replace h := h.1 e18
        exact h
      replace h := h.2
      by_cases e19 : (x_iand (x_xs E (l3).toNat).toInt 63) = 19
      · refine ⟨993, 1026, by rw [e19]; rfl, by decide, ?_⟩
        replace h := h.1 e19
        exact h
      replace h := h.2
      by_cases e20 : (x_iand (x_xs E (l3).toNat).toInt 63) = 20
      · refine ⟨1026, 1059, by rw [e20]; rfl, by decide, ?_⟩
        replace h := h.1 e20
        exact h
      replace h := h.2
      by_cases e21 : (x_iand (x_xs E (l3).toNat).toInt 63) = 21
      · refine ⟨1049, 1082, by rw [e21]; rfl, by decide, ?_⟩
        replace h := h.1 e21
        exact h
      replace h := h.2
      by_cases e22 : (x_iand (x_xs E (l3).toNat).toInt 63) = 22
      · refine ⟨1093, 1126, by rw [e22]; rfl, by decide, ?_⟩
        replace h := h.1 e22
        exact h
      replace h := h.2
      by_cases e23 : (x_iand (x_xs E (l3).toNat).toInt 63) = 23
      · refine ⟨1127, 1160, by rw [e23]; rfl, by decide, ?_⟩
        replace h := h.1 e23
        exact h
      replace h := h.2
      by_cases e24 : (x_iand (x_xs E (l3).toNat).toInt 63) = 24
      · refine ⟨1151, 1184, by rw [e24]; rfl, by decide, ?_⟩
        replace h := h.1 e24
        exact h
      replace h := h.2
      by_cases e25 : (x_iand (x_xs E (l3).toNat).toInt 63) = 25
      · refine ⟨1185, 1218, by rw [e25]; rfl, by decide, ?_⟩
        replace h := h.1 e25
        exact h
      replace h := h.2
      by_cases e26 : (x_iand (x_xs E (l3).toNat).toInt 63) = 26
      · refine ⟨1198, 1231, by rw [e26]; rfl, by decide, ?_⟩
        replace h := h.1 e26
        exact h
      replace h := h.2
      by_cases e27 : (x_iand (x_xs E (l3).toNat).toInt 63) = 27
      · refine ⟨1221, 1254, by rw [e27]; rfl, by decide, ?_⟩
        replace h := h.1 e27
        exact h
      replace h := h.2
      by_cases e28 : (x_iand (x_xs E (l3).toNat).toInt 63) = 28
      · refine ⟨1254, 1287, by rw [e28]; rfl, by decide, ?_⟩
        replace h := h.1 e28
        exact h
      replace h := h.2
      by_cases e29 : (x_iand (x_xs E (l3).toNat).toInt 63) = 29
      · refine ⟨1277, 1310, by rw [e29]; rfl, by decide, ?_⟩
        replace h := h.1 e29
        exact h
      replace h := h.2
      by_cases e30 : (x_iand (x_xs E (l3).toNat).toInt 63) = 30
      · refine ⟨1300, 1333, by rw [e30]; rfl, by decide, ?_⟩
        replace h := h.1 e30
        exact h
      replace h := h.2
      by_cases e31 : (x_iand (x_xs E (l3).toNat).toInt 63) = 31
      · refine ⟨1313, 1346, by rw [e31]; rfl, by decide, ?_⟩
        replace h := h.1 e31
        exact h
      replace h := h.2
      by_cases e32 : (x_iand (x_xs E (l3).toNat).toInt 63) = 32
      · refine ⟨1336, 1369, by rw [e32]; rfl, by decide, ?_⟩
        replace h := h.1 e32
        exact h
      replace h := h.2
      by_cases e33 : (x_iand (x_xs E (l3).toNat).toInt 63) = 33
      · refine ⟨1400, 1433, by rw [e33]; rfl, by decide, ?_⟩
        replace h := h.1 e33
        exact h
      replace h := h.2
      by_cases e34 : (x_iand (x_xs E (l3).toNat).toInt 63) = 34
      · refine ⟨1423, 1456, by rw [e34]; rfl, by decide, ?_⟩
        replace h := h.1 e34
        exact h
      replace h := h.2
      by_cases e35 : (x_iand (x_xs E (l3).toNat).toInt 63) = 35
      · refine ⟨1466, 1499, by rw [e35]; rfl, by decide, ?_⟩
        replace h := h.1 e35
        exact h
      replace h := h.2
      by_cases e36 : (x_iand (x_xs E (l3).toNat).toInt 63) = 36
      · refine ⟨1479, 1512, by rw [e36]; rfl, by decide, ?_⟩
        replace h := h.1 e36
        exact h
      replace h := h.2
      by_cases e37 : (x_iand (x_xs E (l3).toNat).toInt 63) = 37
      · refine ⟨1513, 1546, by rw [e37]; rfl, by decide, ?_⟩
        replace h := h.1 e37
        exact h
      replace h := h.2
      by_cases e38 : (x_iand (x_xs E (l3).toNat).toInt 63) = 38
      · refine ⟨1587, 1620, by rw [e38]; rfl, by decide, ?_⟩
        replace h := h.1 e38
        exact h
      replace h := h.2
      by_cases e39 : (x_iand (x_xs E (l3).toNat).toInt 63) = 39
      · refine ⟨1600, 1633, by rw [e39]; rfl, by decide, ?_⟩
        replace h := h.1 e39
        exact h
      replace h := h.2
      by_cases e40 : (x_iand (x_xs E (l3).toNat).toInt 63) = 40
      · refine ⟨1643, 1676, by rw [e40]; rfl, by decide, ?_⟩
        replace h := h.1 e40
        exact h
      replace h := h.2
      by_cases e41 : (x_iand (x_xs E (l3).toNat).toInt 63) = 41
      · refine ⟨1716, 1749, by rw [e41]; rfl, by decide, ?_⟩
        replace h := h.1 e41
        exact h
      replace h := h.2
      by_cases e42 : (x_iand (x_xs E (l3).toNat).toInt 63) = 42
      · refine ⟨1750, 1783, by rw [e42]; rfl, by decide, ?_⟩
        replace h := h.1 e42
        exact h
      replace h := h.2
      by_cases e43 : (x_iand (x_xs E (l3).toNat).toInt 63) = 43
      · refine ⟨1813, 1846, by rw [e43]; rfl, by decide, ?_⟩
        replace h := h.1 e43
        exact h
      replace h := h.2
      by_cases e44 : (x_iand (x_xs E (l3).toNat).toInt 63) = 44
      · refine ⟨1856, 1889, by rw [e44]; rfl, by decide, ?_⟩
        replace h := h.1 e44
        exact h
      replace h := h.2
      by_cases e45 : (x_iand (x_xs E (l3).toNat).toInt 63) = 45
      · refine ⟨1889, 1922, by rw [e45]; rfl, by decide, ?_⟩
        replace h := h.1 e45
        exact h
      replace h := h.2
      by_cases e46 : (x_iand (x_xs E (l3).toNat).toInt 63) = 46
      · refine ⟨1902, 1935, by rw [e46]; rfl, by decide, ?_⟩
        replace h := h.1 e46
        exact h
      replace h := h.2
      by_cases e47 : (x_iand (x_xs E (l3).toNat).toInt 63) = 47
      · refine ⟨1915, 1948, by rw [e47]; rfl, by decide, ?_⟩
        replace h := h.1 e47
        exact h
      replace h := h.2
      by_cases e48 : (x_iand (x_xs E (l3).toNat).toInt 63) = 48
      · refine ⟨1938, 1971, by rw [e48]; rfl, by decide, ?_⟩
        replace h := h e48
        exact h
      exact absurd c1 (by omega)
set_option maxRecDepth 100000 in
theorem u_L_law_244 {l : Launch} {E : xE} (mc ms : Nat) (l3 : Int) {M : xM} {Q : Option xV → xM → Prop} (h : ((0 : Int) ≤ (x_w (l3 + 1)) ∧ ((x_w (l3 + 1)) : Int) < x_L E) ∧ ((0 : Int) ≤ (x_w (l3 + 2)) ∧ ((x_w (l3 + 2)) : Int) < x_L E) ∧ x_Ev l E (5, 0, 0) m_X10_follower 0 [(20, 5), (0, (x_xs E ((x_w (l3 + 1))).toNat).toInt), (0, (x_xs E ((x_w (l3 + 2))).toNat).toInt), (5, 0)] [] M (fun r zM1 => ∃ zr2, r = some (0, zr2) ∧ ((0 : Int) ≤ (x_w (l3 + 1)) ∧ ((x_w (l3 + 1)) : Int) < x_L E) ∧ ((0 : Int) ≤ (x_w (l3 + 2)) ∧ ((x_w (l3 + 2)) : Int) < x_L E) ∧ x_Ev l E (2, 0, 0) m_X11_follower 0 [(21, 103), (0, (x_xs E ((x_w (l3 + 1))).toNat).toInt), (0, (x_xs E ((x_w (l3 + 2))).toNat).toInt), (5, 0), (5, 0)] [] zM1 (fun r zM3 => ∃ zr4, r = some (0, zr4) ∧ (zr2 = zr4 → x_Ev l E (13, mc + 2, ms + 42) m_L_law 1994 [(180, 0), (20, 5), (21, 103), (0, l3)] [] zM3 Q) ∧ (¬ zr2 = zr4 → Q (some (0, 0)) zM3)))) : x_Ev l E (13, mc + 2, ms + 42) m_L_law 244 [(180, 0), (20, 5), (21, 103), (0, l3)] [] M Q := by
  refine i_aload_n 22 rfl rfl (by decide) ?_
  refine i_aload_n 23 rfl rfl (by decide) ?_
  refine i_iload_n 24 rfl rfl ?_
  refine i_iconst 25 rfl (by decide) ?_
  refine i_iadd 26 rfl ?_
  refine i_scr 27 rfl h.1.1 h.1.2 ?_
  replace h := h.2
  refine i_aload_n 28 rfl rfl (by decide) ?_
  refine i_iload_n 29 rfl rfl ?_
  refine i_iconst 30 rfl (by decide) ?_
  refine i_iadd 31 rfl ?_
  refine i_scr 32 rfl h.1.1 h.1.2 ?_
  replace h := h.2
  refine i_callV (c := 10) (y1 := m_X10_follower) (z1 := (5, 0, 0)) (z2 := (13, mc + 2, ms + 42)) [(0, (x_xs E ((x_w (l3 + 1))).toNat).toInt), (0, (x_xs E ((x_w (l3 + 2))).toNat).toInt)] 33 rfl ml_392 ok_X10_follower vk_X10_follower ⟨by decide, rfl⟩ rfl ⟨rfl, Nat.le_of_ble_eq_true rfl⟩ (Nat.le_of_ble_eq_true rfl) ⟨Nat.le_of_ble_eq_true rfl, rfl, by dsimp only; omega, by dsimp only; omega⟩ ?_
  refine h.mono (fun r zM1 h => ?_)
  obtain ⟨zr2, rfl, h⟩ := h
  simp only [Option.toList_some, Option.toList_none, List.cons_append, List.nil_append]
  refine i_aload_n 34 rfl rfl (by decide) ?_
  refine i_aload_n 35 rfl rfl (by decide) ?_
  refine i_iload_n 36 rfl rfl ?_
  refine i_iconst 37 rfl (by decide) ?_
  refine i_iadd 38 rfl ?_
  refine i_scr 39 rfl h.1.1 h.1.2 ?_
  replace h := h.2
  refine i_aload_n 40 rfl rfl (by decide) ?_
  refine i_iload_n 41 rfl rfl ?_
  refine i_iconst 42 rfl (by decide) ?_
  refine i_iadd 43 rfl ?_
  refine i_scr 44 rfl h.1.1 h.1.2 ?_
  replace h := h.2
  refine i_callV (c := 11) (y1 := m_X11_follower) (z1 := (2, 0, 0)) (z2 := (13, mc + 2, ms + 42)) [(0, (x_xs E ((x_w (l3 + 1))).toNat).toInt), (0, (x_xs E ((x_w (l3 + 2))).toNat).toInt)] 45 rfl ml_1224 ok_X11_follower vk_X11_follower ⟨by decide, rfl⟩ rfl ⟨rfl, Nat.le_of_ble_eq_true rfl⟩ (Nat.le_of_ble_eq_true rfl) ⟨Nat.le_of_ble_eq_true rfl, rfl, by dsimp only; omega, by dsimp only; omega⟩ ?_
  refine h.mono (fun r zM3 h => ?_)
  obtain ⟨zr4, rfl, h⟩ := h
  simp only [Option.toList_some, Option.toList_none, List.cons_append, List.nil_append]
  refine i_icmp_eq 1994 46 rfl (by decide) (fun c => ?_) (fun c => ?_)
  · replace h := h.1 c
    exact h
  · replace h := h.2 c
    refine i_iconst 47 rfl (by decide) ?_
    exact i_zreturn 48 rfl rfl (by decide) h
set_option maxRecDepth 100000 in
theorem u_L_law_277 {l : Launch} {E : xE} (mc ms : Nat) (l3 : Int) {M : xM} {Q : Option xV → xM → Prop} (h : ((0 : Int) ≤ (x_w (l3 + 1)) ∧ ((x_w (l3 + 1)) : Int) < x_L E) ∧ ((0 : Int) ≤ (x_w (l3 + 2)) ∧ ((x_w (l3 + 2)) : Int) < x_L E) ∧ x_Ev l E (2, 0, 0) m_X10_become 0 [(20, 5), (0, (x_xs E ((x_w (l3 + 1))).toNat).toInt), (0, (x_xs E ((x_w (l3 + 2))).toNat).toInt), (5, 0)] [] M (fun r zM1 => ∃ zr2, r = some (0, zr2) ∧ ((0 : Int) ≤ (x_w (l3 + 1)) ∧ ((x_w (l3 + 1)) : Int) < x_L E) ∧ ((0 : Int) ≤ (x_w (l3 + 2)) ∧ ((x_w (l3 + 2)) : Int) < x_L E) ∧ x_Ev l E (3, 0, 0) m_X11_become 0 [(21, 103), (0, (x_xs E ((x_w (l3 + 1))).toNat).toInt), (0, (x_xs E ((x_w (l3 + 2))).toNat).toInt), (5, 0)] [] zM1 (fun r zM3 => ∃ zr4, r = some (0, zr4) ∧ (zr2 = zr4 → x_Ev l E (13, mc + 2, ms + 42) m_L_law 1994 [(180, 0), (20, 5), (21, 103), (0, l3)] [] zM3 Q) ∧ (¬ zr2 = zr4 → Q (some (0, 0)) zM3)))) : x_Ev l E (13, mc + 2, ms + 42) m_L_law 277 [(180, 0), (20, 5), (21, 103), (0, l3)] [] M Q := by
  refine i_aload_n 49 rfl rfl (by decide) ?_
  refine i_aload_n 50 rfl rfl (by decide) ?_
  refine i_iload_n 51 rfl rfl ?_
  refine i_iconst 52 rfl (by decide) ?_
  refine i_iadd 53 rfl ?_
  refine i_scr 54 rfl h.1.1 h.1.2 ?_
  replace h := h.2
  refine i_aload_n 55 rfl rfl (by decide) ?_
  refine i_iload_n 56 rfl rfl ?_
  refine i_iconst 57 rfl (by decide) ?_
  refine i_iadd 58 rfl ?_
  refine i_scr 59 rfl h.1.1 h.1.2 ?_
  replace h := h.2
  refine i_callV (c := 10) (y1 := m_X10_become) (z1 := (2, 0, 0)) (z2 := (13, mc + 2, ms + 42)) [(0, (x_xs E ((x_w (l3 + 1))).toNat).toInt), (0, (x_xs E ((x_w (l3 + 2))).toNat).toInt)] 60 rfl ml_484 ok_X10_become vk_X10_become ⟨by decide, rfl⟩ rfl ⟨rfl, Nat.le_of_ble_eq_true rfl⟩ (Nat.le_of_ble_eq_true rfl) ⟨Nat.le_of_ble_eq_true rfl, rfl, by dsimp only; omega, by dsimp only; omega⟩ ?_
  refine h.mono (fun r zM1 h => ?_)
  obtain ⟨zr2, rfl, h⟩ := h
  simp only [Option.toList_some, Option.toList_none, List.cons_append, List.nil_append]
  refine i_aload_n 61 rfl rfl (by decide) ?_
  refine i_aload_n 62 rfl rfl (by decide) ?_
  refine i_iload_n 63 rfl rfl ?_
  refine i_iconst 64 rfl (by decide) ?_
  refine i_iadd 65 rfl ?_
  refine i_scr 66 rfl h.1.1 h.1.2 ?_
  replace h := h.2
  refine i_aload_n 67 rfl rfl (by decide) ?_
  refine i_iload_n 68 rfl rfl ?_
  refine i_iconst 69 rfl (by decide) ?_
  refine i_iadd 70 rfl ?_
  refine i_scr 71 rfl h.1.1 h.1.2 ?_
  replace h := h.2
  refine i_callV (c := 11) (y1 := m_X11_become) (z1 := (3, 0, 0)) (z2 := (13, mc + 2, ms + 42)) [(0, (x_xs E ((x_w (l3 + 1))).toNat).toInt), (0, (x_xs E ((x_w (l3 + 2))).toNat).toInt)] 72 rfl ml_1238 ok_X11_become vk_X11_become ⟨by decide, rfl⟩ rfl ⟨rfl, Nat.le_of_ble_eq_true rfl⟩ (Nat.le_of_ble_eq_true rfl) ⟨Nat.le_of_ble_eq_true rfl, rfl, by dsimp only; omega, by dsimp only; omega⟩ ?_
  refine h.mono (fun r zM3 h => ?_)
  obtain ⟨zr4, rfl, h⟩ := h
  simp only [Option.toList_some, Option.toList_none, List.cons_append, List.nil_append]
  refine i_icmp_eq 1994 73 rfl (by decide) (fun c => ?_) (fun c => ?_)
  · replace h := h.1 c
    exact h
  · replace h := h.2 c
    refine i_iconst 74 rfl (by decide) ?_
    exact i_zreturn 75 rfl rfl (by decide) h
set_option maxRecDepth 100000 in
theorem u_L_law_310 {l : Launch} {E : xE} (mc ms : Nat) (l3 : Int) {M : xM} {Q : Option xV → xM → Prop} (h : ((0 : Int) ≤ (x_w (l3 + 1)) ∧ ((x_w (l3 + 1)) : Int) < x_L E) ∧ ((0 : Int) ≤ (x_w (l3 + 2)) ∧ ((x_w (l3 + 2)) : Int) < x_L E) ∧ x_Ev l E (5, 0, 0) m_X10_of 0 [(20, 5), (0, (x_xs E ((x_w (l3 + 1))).toNat).toInt), (0, (x_xs E ((x_w (l3 + 2))).toNat).toInt), (5, 0)] [] M (fun r zM1 => ∃ zr2, r = some (0, zr2) ∧ ((0 : Int) ≤ (x_w (l3 + 1)) ∧ ((x_w (l3 + 1)) : Int) < x_L E) ∧ ((0 : Int) ≤ (x_w (l3 + 2)) ∧ ((x_w (l3 + 2)) : Int) < x_L E) ∧ x_Ev l E (10, 0, 0) m_X11_of 0 [(21, 103), (0, (x_xs E ((x_w (l3 + 1))).toNat).toInt), (0, (x_xs E ((x_w (l3 + 2))).toNat).toInt)] [] zM1 (fun r zM3 => ∃ zr4, r = some (0, zr4) ∧ (zr2 = zr4 → x_Ev l E (13, mc + 2, ms + 42) m_L_law 1994 [(180, 0), (20, 5), (21, 103), (0, l3)] [] zM3 Q) ∧ (¬ zr2 = zr4 → Q (some (0, 0)) zM3)))) : x_Ev l E (13, mc + 2, ms + 42) m_L_law 310 [(180, 0), (20, 5), (21, 103), (0, l3)] [] M Q := by
  refine i_aload_n 76 rfl rfl (by decide) ?_
  refine i_aload_n 77 rfl rfl (by decide) ?_
  refine i_iload_n 78 rfl rfl ?_
  refine i_iconst 79 rfl (by decide) ?_
  refine i_iadd 80 rfl ?_
  refine i_scr 81 rfl h.1.1 h.1.2 ?_
  replace h := h.2
  refine i_aload_n 82 rfl rfl (by decide) ?_
  refine i_iload_n 83 rfl rfl ?_
  refine i_iconst 84 rfl (by decide) ?_
  refine i_iadd 85 rfl ?_
  refine i_scr 86 rfl h.1.1 h.1.2 ?_
  replace h := h.2
  refine i_callV (c := 10) (y1 := m_X10_of) (z1 := (5, 0, 0)) (z2 := (13, mc + 2, ms + 42)) [(0, (x_xs E ((x_w (l3 + 1))).toNat).toInt), (0, (x_xs E ((x_w (l3 + 2))).toNat).toInt)] 87 rfl ml_493 ok_X10_of vk_X10_of ⟨by decide, rfl⟩ rfl ⟨rfl, Nat.le_of_ble_eq_true rfl⟩ (Nat.le_of_ble_eq_true rfl) ⟨Nat.le_of_ble_eq_true rfl, rfl, by dsimp only; omega, by dsimp only; omega⟩ ?_
  refine h.mono (fun r zM1 h => ?_)
  obtain ⟨zr2, rfl, h⟩ := h
  simp only [Option.toList_some, Option.toList_none, List.cons_append, List.nil_append]
  refine i_aload_n 88 rfl rfl (by decide) ?_
  refine i_aload_n 89 rfl rfl (by decide) ?_
  refine i_iload_n 90 rfl rfl ?_
  refine i_iconst 91 rfl (by decide) ?_
  refine i_iadd 92 rfl ?_
  refine i_scr 93 rfl h.1.1 h.1.2 ?_
  replace h := h.2
  refine i_aload_n 94 rfl rfl (by decide) ?_
  refine i_iload_n 95 rfl rfl ?_
  refine i_iconst 96 rfl (by decide) ?_
  refine i_iadd 97 rfl ?_
  refine i_scr 98 rfl h.1.1 h.1.2 ?_
  replace h := h.2
  refine i_callV (c := 11) (y1 := m_X11_of) (z1 := (10, 0, 0)) (z2 := (13, mc + 2, ms + 42)) [(0, (x_xs E ((x_w (l3 + 1))).toNat).toInt), (0, (x_xs E ((x_w (l3 + 2))).toNat).toInt)] 99 rfl ml_1246 ok_X11_of vk_X11_of ⟨by decide, rfl⟩ rfl ⟨rfl, Nat.le_of_ble_eq_true rfl⟩ (Nat.le_of_ble_eq_true rfl) ⟨Nat.le_of_ble_eq_true rfl, rfl, by dsimp only; omega, by dsimp only; omega⟩ ?_
  refine h.mono (fun r zM3 h => ?_)
  obtain ⟨zr4, rfl, h⟩ := h
  simp only [Option.toList_some, Option.toList_none, List.cons_append, List.nil_append]
  refine i_icmp_eq 1994 100 rfl (by decide) (fun c => ?_) (fun c => ?_)
  · replace h := h.1 c
    exact h
  · replace h := h.2 c
    refine i_iconst 101 rfl (by decide) ?_
    exact i_zreturn 102 rfl rfl (by decide) h
set_option maxRecDepth 100000 in
theorem u_L_law_343 {l : Launch} {E : xE} (mc ms : Nat) (l3 : Int) {M : xM} {Q : Option xV → xM → Prop} (h : ((0 : Int) ≤ (x_w (l3 + 1)) ∧ ((x_w (l3 + 1)) : Int) < x_L E) ∧ ((0 : Int) ≤ (x_w (l3 + 2)) ∧ ((x_w (l3 + 2)) : Int) < x_L E) ∧ ((0 : Int) ≤ (x_w (l3 + 3)) ∧ ((x_w (l3 + 3)) : Int) < x_L E) ∧ ((0 : Int) ≤ (x_w (l3 + 4)) ∧ ((x_w (l3 + 4)) : Int) < x_L E) ∧ x_Ev l E (4, 0, 0) m_X10_good 0 [(20, 5), (0, (x_xs E ((x_w (l3 + 1))).toNat).toInt), (0, (x_xs E ((x_w (l3 + 2))).toNat).toInt), (0, (x_xs E ((x_w (l3 + 3))).toNat).toInt), (0, (x_xs E ((x_w (l3 + 4))).toNat).toInt), (5, 0)] [] M (fun r zM1 => ∃ zr2, r = some (0, zr2) ∧ ((0 : Int) ≤ (x_w (l3 + 1)) ∧ ((x_w (l3 + 1)) : Int) < x_L E) ∧ ((0 : Int) ≤ (x_w (l3 + 2)) ∧ ((x_w (l3 + 2)) : Int) < x_L E) ∧ ((0 : Int) ≤ (x_w (l3 + 3)) ∧ ((x_w (l3 + 3)) : Int) < x_L E) ∧ ((0 : Int) ≤ (x_w (l3 + 4)) ∧ ((x_w (l3 + 4)) : Int) < x_L E) ∧ x_Ev l E (4, 0, 0) m_X11_good 0 [(21, 103), (0, (x_xs E ((x_w (l3 + 1))).toNat).toInt), (0, (x_xs E ((x_w (l3 + 2))).toNat).toInt), (0, (x_xs E ((x_w (l3 + 3))).toNat).toInt), (0, (x_xs E ((x_w (l3 + 4))).toNat).toInt), (5, 0)] [] zM1 (fun r zM3 => ∃ zr4, r = some (0, zr4) ∧ (zr2 = zr4 → x_Ev l E (13, mc + 2, ms + 42) m_L_law 1994 [(180, 0), (20, 5), (21, 103), (0, l3)] [] zM3 Q) ∧ (¬ zr2 = zr4 → Q (some (0, 0)) zM3)))) : x_Ev l E (13, mc + 2, ms + 42) m_L_law 343 [(180, 0), (20, 5), (21, 103), (0, l3)] [] M Q := by
  refine i_aload_n 103 rfl rfl (by decide) ?_
  refine i_aload_n 104 rfl rfl (by decide) ?_
  refine i_iload_n 105 rfl rfl ?_
  refine i_iconst 106 rfl (by decide) ?_
  refine i_iadd 107 rfl ?_
  refine i_scr 108 rfl h.1.1 h.1.2 ?_
  replace h := h.2
  refine i_aload_n 109 rfl rfl (by decide) ?_
  refine i_iload_n 110 rfl rfl ?_
  refine i_iconst 111 rfl (by decide) ?_
  refine i_iadd 112 rfl ?_
  refine i_scr 113 rfl h.1.1 h.1.2 ?_
  replace h := h.2
  refine i_aload_n 114 rfl rfl (by decide) ?_
  refine i_iload_n 115 rfl rfl ?_
  refine i_iconst 116 rfl (by decide) ?_
  refine i_iadd 117 rfl ?_
  refine i_scr 118 rfl h.1.1 h.1.2 ?_
  replace h := h.2
  refine i_aload_n 119 rfl rfl (by decide) ?_
  refine i_iload_n 120 rfl rfl ?_
  refine i_iconst 121 rfl (by decide) ?_
  refine i_iadd 122 rfl ?_
  refine i_scr 123 rfl h.1.1 h.1.2 ?_
  replace h := h.2
  refine i_callV (c := 10) (y1 := m_X10_good) (z1 := (4, 0, 0)) (z2 := (13, mc + 2, ms + 42)) [(0, (x_xs E ((x_w (l3 + 1))).toNat).toInt), (0, (x_xs E ((x_w (l3 + 2))).toNat).toInt), (0, (x_xs E ((x_w (l3 + 3))).toNat).toInt), (0, (x_xs E ((x_w (l3 + 4))).toNat).toInt)] 124 rfl ml_532 ok_X10_good vk_X10_good ⟨by decide, rfl⟩ rfl ⟨rfl, Nat.le_of_ble_eq_true rfl⟩ (Nat.le_of_ble_eq_true rfl) ⟨Nat.le_of_ble_eq_true rfl, rfl, by dsimp only; omega, by dsimp only; omega⟩ ?_
  refine h.mono (fun r zM1 h => ?_)
  obtain ⟨zr2, rfl, h⟩ := h
  simp only [Option.toList_some, Option.toList_none, List.cons_append, List.nil_append]
  refine i_aload_n 125 rfl rfl (by decide) ?_
  refine i_aload_n 126 rfl rfl (by decide) ?_
  refine i_iload_n 127 rfl rfl ?_
  refine i_iconst 128 rfl (by decide) ?_
  refine i_iadd 129 rfl ?_
  refine i_scr 130 rfl h.1.1 h.1.2 ?_
  replace h := h.2
  refine i_aload_n 131 rfl rfl (by decide) ?_
  refine i_iload_n 132 rfl rfl ?_
  refine i_iconst 133 rfl (by decide) ?_
  refine i_iadd 134 rfl ?_
  refine i_scr 135 rfl h.1.1 h.1.2 ?_
  replace h := h.2
  refine i_aload_n 136 rfl rfl (by decide) ?_
  refine i_iload_n 137 rfl rfl ?_
  refine i_iconst 138 rfl (by decide) ?_
  refine i_iadd 139 rfl ?_
  refine i_scr 140 rfl h.1.1 h.1.2 ?_
  replace h := h.2
  refine i_aload_n 141 rfl rfl (by decide) ?_
  refine i_iload_n 142 rfl rfl ?_
  refine i_iconst 143 rfl (by decide) ?_
  refine i_iadd 144 rfl ?_
  refine i_scr 145 rfl h.1.1 h.1.2 ?_
  replace h := h.2
  refine i_callV (c := 11) (y1 := m_X11_good) (z1 := (4, 0, 0)) (z2 := (13, mc + 2, ms + 42)) [(0, (x_xs E ((x_w (l3 + 1))).toNat).toInt), (0, (x_xs E ((x_w (l3 + 2))).toNat).toInt), (0, (x_xs E ((x_w (l3 + 3))).toNat).toInt), (0, (x_xs E ((x_w (l3 + 4))).toNat).toInt)] 146 rfl ml_1335 ok_X11_good vk_X11_good ⟨by decide, rfl⟩ rfl ⟨rfl, Nat.le_of_ble_eq_true rfl⟩ (Nat.le_of_ble_eq_true rfl) ⟨Nat.le_of_ble_eq_true rfl, rfl, by dsimp only; omega, by dsimp only; omega⟩ ?_
  refine h.mono (fun r zM3 h => ?_)
  obtain ⟨zr4, rfl, h⟩ := h
  simp only [Option.toList_some, Option.toList_none, List.cons_append, List.nil_append]
  refine i_icmp_eq 1994 147 rfl (by decide) (fun c => ?_) (fun c => ?_)
  · replace h := h.1 c
    exact h
  · replace h := h.2 c
    refine i_iconst 148 rfl (by decide) ?_
    exact i_zreturn 149 rfl rfl (by decide) h
set_option maxRecDepth 100000 in
theorem u_L_law_396 {l : Launch} {E : xE} (mc ms : Nat) (l3 : Int) {M : xM} {Q : Option xV → xM → Prop} (h : ((0 : Int) ≤ (x_w (l3 + 1)) ∧ ((x_w (l3 + 1)) : Int) < x_L E) ∧ ((0 : Int) ≤ (x_w (l3 + 2)) ∧ ((x_w (l3 + 2)) : Int) < x_L E) ∧ ((0 : Int) ≤ (x_w (l3 + 3)) ∧ ((x_w (l3 + 3)) : Int) < x_L E) ∧ x_Ev l E (4, 0, 0) m_X10_goodOf 0 [(20, 5), (0, (x_xs E ((x_w (l3 + 1))).toNat).toInt), (0, (x_xs E ((x_w (l3 + 2))).toNat).toInt), (0, (x_xs E ((x_w (l3 + 3))).toNat).toInt)] [] M (fun r zM1 => ∃ zr2, r = some (0, zr2) ∧ ((0 : Int) ≤ (x_w (l3 + 1)) ∧ ((x_w (l3 + 1)) : Int) < x_L E) ∧ ((0 : Int) ≤ (x_w (l3 + 2)) ∧ ((x_w (l3 + 2)) : Int) < x_L E) ∧ ((0 : Int) ≤ (x_w (l3 + 3)) ∧ ((x_w (l3 + 3)) : Int) < x_L E) ∧ x_Ev l E (4, 0, 0) m_X11_goodOf 0 [(21, 103), (0, (x_xs E ((x_w (l3 + 1))).toNat).toInt), (0, (x_xs E ((x_w (l3 + 2))).toNat).toInt), (0, (x_xs E ((x_w (l3 + 3))).toNat).toInt)] [] zM1 (fun r zM3 => ∃ zr4, r = some (0, zr4) ∧ (zr2 = zr4 → x_Ev l E (13, mc + 2, ms + 42) m_L_law 1994 [(180, 0), (20, 5), (21, 103), (0, l3)] [] zM3 Q) ∧ (¬ zr2 = zr4 → Q (some (0, 0)) zM3)))) : x_Ev l E (13, mc + 2, ms + 42) m_L_law 396 [(180, 0), (20, 5), (21, 103), (0, l3)] [] M Q := by
  refine i_aload_n 150 rfl rfl (by decide) ?_
  refine i_aload_n 151 rfl rfl (by decide) ?_
  refine i_iload_n 152 rfl rfl ?_
  refine i_iconst 153 rfl (by decide) ?_
  refine i_iadd 154 rfl ?_
  refine i_scr 155 rfl h.1.1 h.1.2 ?_
  replace h := h.2
  refine i_aload_n 156 rfl rfl (by decide) ?_
  refine i_iload_n 157 rfl rfl ?_
  refine i_iconst 158 rfl (by decide) ?_
  refine i_iadd 159 rfl ?_
  refine i_scr 160 rfl h.1.1 h.1.2 ?_
  replace h := h.2
  refine i_aload_n 161 rfl rfl (by decide) ?_
  refine i_iload_n 162 rfl rfl ?_
  refine i_iconst 163 rfl (by decide) ?_
  refine i_iadd 164 rfl ?_
  refine i_scr 165 rfl h.1.1 h.1.2 ?_
  replace h := h.2
  refine i_callV (c := 10) (y1 := m_X10_goodOf) (z1 := (4, 0, 0)) (z2 := (13, mc + 2, ms + 42)) [(0, (x_xs E ((x_w (l3 + 1))).toNat).toInt), (0, (x_xs E ((x_w (l3 + 2))).toNat).toInt), (0, (x_xs E ((x_w (l3 + 3))).toNat).toInt)] 166 rfl ml_549 ok_X10_goodOf vk_X10_goodOf ⟨by decide, rfl⟩ rfl ⟨rfl, Nat.le_of_ble_eq_true rfl⟩ (Nat.le_of_ble_eq_true rfl) ⟨Nat.le_of_ble_eq_true rfl, rfl, by dsimp only; omega, by dsimp only; omega⟩ ?_
  refine h.mono (fun r zM1 h => ?_)
  obtain ⟨zr2, rfl, h⟩ := h
  simp only [Option.toList_some, Option.toList_none, List.cons_append, List.nil_append]
  refine i_aload_n 167 rfl rfl (by decide) ?_
  refine i_aload_n 168 rfl rfl (by decide) ?_
  refine i_iload_n 169 rfl rfl ?_
  refine i_iconst 170 rfl (by decide) ?_
  refine i_iadd 171 rfl ?_
  refine i_scr 172 rfl h.1.1 h.1.2 ?_
  replace h := h.2
  refine i_aload_n 173 rfl rfl (by decide) ?_
  refine i_iload_n 174 rfl rfl ?_
  refine i_iconst 175 rfl (by decide) ?_
  refine i_iadd 176 rfl ?_
  refine i_scr 177 rfl h.1.1 h.1.2 ?_
  replace h := h.2
  refine i_aload_n 178 rfl rfl (by decide) ?_
  refine i_iload_n 179 rfl rfl ?_
  refine i_iconst 180 rfl (by decide) ?_
  refine i_iadd 181 rfl ?_
  refine i_scr 182 rfl h.1.1 h.1.2 ?_
  replace h := h.2
  refine i_callV (c := 11) (y1 := m_X11_goodOf) (z1 := (4, 0, 0)) (z2 := (13, mc + 2, ms + 42)) [(0, (x_xs E ((x_w (l3 + 1))).toNat).toInt), (0, (x_xs E ((x_w (l3 + 2))).toNat).toInt), (0, (x_xs E ((x_w (l3 + 3))).toNat).toInt)] 183 rfl ml_1349 ok_X11_goodOf vk_X11_goodOf ⟨by decide, rfl⟩ rfl ⟨rfl, Nat.le_of_ble_eq_true rfl⟩ (Nat.le_of_ble_eq_true rfl) ⟨Nat.le_of_ble_eq_true rfl, rfl, by dsimp only; omega, by dsimp only; omega⟩ ?_
  refine h.mono (fun r zM3 h => ?_)
  obtain ⟨zr4, rfl, h⟩ := h
  simp only [Option.toList_some, Option.toList_none, List.cons_append, List.nil_append]
  refine i_icmp_eq 1994 184 rfl (by decide) (fun c => ?_) (fun c => ?_)
  · replace h := h.1 c
    exact h
  · replace h := h.2 c
    refine i_iconst 185 rfl (by decide) ?_
    exact i_zreturn 186 rfl rfl (by decide) h
set_option maxRecDepth 100000 in
theorem u_L_law_439 {l : Launch} {E : xE} (mc ms : Nat) (l3 : Int) {M : xM} {Q : Option xV → xM → Prop} (h : ((0 : Int) ≤ (x_w (l3 + 1)) ∧ ((x_w (l3 + 1)) : Int) < x_L E) ∧ ((0 : Int) ≤ (x_w (l3 + 2)) ∧ ((x_w (l3 + 2)) : Int) < x_L E) ∧ ((0 : Int) ≤ (x_w (l3 + 3)) ∧ ((x_w (l3 + 3)) : Int) < x_L E) ∧ x_Ev l E (5, 0, 0) m_X10_budget 0 [(20, 5), (0, (x_xs E ((x_w (l3 + 1))).toNat).toInt), (0, (x_xs E ((x_w (l3 + 2))).toNat).toInt), (0, (x_xs E ((x_w (l3 + 3))).toNat).toInt), (5, 0)] [] M (fun r zM1 => ∃ zr2, r = some (0, zr2) ∧ ((0 : Int) ≤ (x_w (l3 + 1)) ∧ ((x_w (l3 + 1)) : Int) < x_L E) ∧ ((0 : Int) ≤ (x_w (l3 + 2)) ∧ ((x_w (l3 + 2)) : Int) < x_L E) ∧ ((0 : Int) ≤ (x_w (l3 + 3)) ∧ ((x_w (l3 + 3)) : Int) < x_L E) ∧ x_Ev l E (3, 0, 0) m_X11_budget 0 [(21, 103), (0, (x_xs E ((x_w (l3 + 1))).toNat).toInt), (0, (x_xs E ((x_w (l3 + 2))).toNat).toInt), (0, (x_xs E ((x_w (l3 + 3))).toNat).toInt), (5, 0)] [] zM1 (fun r zM3 => ∃ zr4, r = some (0, zr4) ∧ (zr2 = zr4 → x_Ev l E (13, mc + 2, ms + 42) m_L_law 1994 [(180, 0), (20, 5), (21, 103), (0, l3)] [] zM3 Q) ∧ (¬ zr2 = zr4 → Q (some (0, 0)) zM3)))) : x_Ev l E (13, mc + 2, ms + 42) m_L_law 439 [(180, 0), (20, 5), (21, 103), (0, l3)] [] M Q := by
  refine i_aload_n 187 rfl rfl (by decide) ?_
  refine i_aload_n 188 rfl rfl (by decide) ?_
  refine i_iload_n 189 rfl rfl ?_
  refine i_iconst 190 rfl (by decide) ?_
  refine i_iadd 191 rfl ?_
  refine i_scr 192 rfl h.1.1 h.1.2 ?_
  replace h := h.2
  refine i_aload_n 193 rfl rfl (by decide) ?_
  refine i_iload_n 194 rfl rfl ?_
  refine i_iconst 195 rfl (by decide) ?_
  refine i_iadd 196 rfl ?_
  refine i_scr 197 rfl h.1.1 h.1.2 ?_
  replace h := h.2
  refine i_aload_n 198 rfl rfl (by decide) ?_
  refine i_iload_n 199 rfl rfl ?_
  refine i_iconst 200 rfl (by decide) ?_
  refine i_iadd 201 rfl ?_
  refine i_scr 202 rfl h.1.1 h.1.2 ?_
  replace h := h.2
  refine i_callV (c := 10) (y1 := m_X10_budget) (z1 := (5, 0, 0)) (z2 := (13, mc + 2, ms + 42)) [(0, (x_xs E ((x_w (l3 + 1))).toNat).toInt), (0, (x_xs E ((x_w (l3 + 2))).toNat).toInt), (0, (x_xs E ((x_w (l3 + 3))).toNat).toInt)] 203 rfl ml_553 ok_X10_budget vk_X10_budget ⟨by decide, rfl⟩ rfl ⟨rfl, Nat.le_of_ble_eq_true rfl⟩ (Nat.le_of_ble_eq_true rfl) ⟨Nat.le_of_ble_eq_true rfl, rfl, by dsimp only; omega, by dsimp only; omega⟩ ?_
  refine h.mono (fun r zM1 h => ?_)
  obtain ⟨zr2, rfl, h⟩ := h
  simp only [Option.toList_some, Option.toList_none, List.cons_append, List.nil_append]
  refine i_aload_n 204 rfl rfl (by decide) ?_
  refine i_aload_n 205 rfl rfl (by decide) ?_
  refine i_iload_n 206 rfl rfl ?_
  refine i_iconst 207 rfl (by decide) ?_
  refine i_iadd 208 rfl ?_
  refine i_scr 209 rfl h.1.1 h.1.2 ?_
  replace h := h.2
  refine i_aload_n 210 rfl rfl (by decide) ?_
  refine i_iload_n 211 rfl rfl ?_
  refine i_iconst 212 rfl (by decide) ?_
  refine i_iadd 213 rfl ?_
  refine i_scr 214 rfl h.1.1 h.1.2 ?_
  replace h := h.2
  refine i_aload_n 215 rfl rfl (by decide) ?_
  refine i_iload_n 216 rfl rfl ?_
  refine i_iconst 217 rfl (by decide) ?_
  refine i_iadd 218 rfl ?_
  refine i_scr 219 rfl h.1.1 h.1.2 ?_
  replace h := h.2
  refine i_callV (c := 11) (y1 := m_X11_budget) (z1 := (3, 0, 0)) (z2 := (13, mc + 2, ms + 42)) [(0, (x_xs E ((x_w (l3 + 1))).toNat).toInt), (0, (x_xs E ((x_w (l3 + 2))).toNat).toInt), (0, (x_xs E ((x_w (l3 + 3))).toNat).toInt)] 220 rfl ml_1354 ok_X11_budget vk_X11_budget ⟨by decide, rfl⟩ rfl ⟨rfl, Nat.le_of_ble_eq_true rfl⟩ (Nat.le_of_ble_eq_true rfl) ⟨Nat.le_of_ble_eq_true rfl, rfl, by dsimp only; omega, by dsimp only; omega⟩ ?_
  refine h.mono (fun r zM3 h => ?_)
  obtain ⟨zr4, rfl, h⟩ := h
  simp only [Option.toList_some, Option.toList_none, List.cons_append, List.nil_append]
  refine i_icmp_eq 1994 221 rfl (by decide) (fun c => ?_) (fun c => ?_)
  · replace h := h.1 c
    exact h
  · replace h := h.2 c
    refine i_iconst 222 rfl (by decide) ?_
    exact i_zreturn 223 rfl rfl (by decide) h
set_option maxRecDepth 100000 in
theorem u_L_law_482 {l : Launch} {E : xE} (mc ms : Nat) (l3 : Int) {M : xM} {Q : Option xV → xM → Prop} (h : ((0 : Int) ≤ (x_w (l3 + 1)) ∧ ((x_w (l3 + 1)) : Int) < x_L E) ∧ ((0 : Int) ≤ (x_w (l3 + 2)) ∧ ((x_w (l3 + 2)) : Int) < x_L E) ∧ ((0 : Int) ≤ (x_w (l3 + 3)) ∧ ((x_w (l3 + 3)) : Int) < x_L E) ∧ x_Ev l E (5, 0, 0) m_X10_bind 0 [(20, 5), (0, (x_xs E ((x_w (l3 + 1))).toNat).toInt), (0, (x_xs E ((x_w (l3 + 2))).toNat).toInt), (0, (x_xs E ((x_w (l3 + 3))).toNat).toInt), (5, 0), (5, 0)] [] M (fun r zM1 => ∃ zr2, r = some (0, zr2) ∧ ((0 : Int) ≤ (x_w (l3 + 1)) ∧ ((x_w (l3 + 1)) : Int) < x_L E) ∧ ((0 : Int) ≤ (x_w (l3 + 2)) ∧ ((x_w (l3 + 2)) : Int) < x_L E) ∧ ((0 : Int) ≤ (x_w (l3 + 3)) ∧ ((x_w (l3 + 3)) : Int) < x_L E) ∧ x_Ev l E (3, 0, 0) m_X11_bind 0 [(21, 103), (0, (x_xs E ((x_w (l3 + 1))).toNat).toInt), (0, (x_xs E ((x_w (l3 + 2))).toNat).toInt), (0, (x_xs E ((x_w (l3 + 3))).toNat).toInt)] [] zM1 (fun r zM3 => ∃ zr4, r = some (0, zr4) ∧ (zr2 = zr4 → x_Ev l E (13, mc + 2, ms + 42) m_L_law 1994 [(180, 0), (20, 5), (21, 103), (0, l3)] [] zM3 Q) ∧ (¬ zr2 = zr4 → Q (some (0, 0)) zM3)))) : x_Ev l E (13, mc + 2, ms + 42) m_L_law 482 [(180, 0), (20, 5), (21, 103), (0, l3)] [] M Q := by
  refine i_aload_n 224 rfl rfl (by decide) ?_
  refine i_aload_n 225 rfl rfl (by decide) ?_
  refine i_iload_n 226 rfl rfl ?_
  refine i_iconst 227 rfl (by decide) ?_
  refine i_iadd 228 rfl ?_
  refine i_scr 229 rfl h.1.1 h.1.2 ?_
  replace h := h.2
  refine i_aload_n 230 rfl rfl (by decide) ?_
  refine i_iload_n 231 rfl rfl ?_
  refine i_iconst 232 rfl (by decide) ?_
  refine i_iadd 233 rfl ?_
  refine i_scr 234 rfl h.1.1 h.1.2 ?_
  replace h := h.2
  refine i_aload_n 235 rfl rfl (by decide) ?_
  refine i_iload_n 236 rfl rfl ?_
  refine i_iconst 237 rfl (by decide) ?_
  refine i_iadd 238 rfl ?_
  refine i_scr 239 rfl h.1.1 h.1.2 ?_
  replace h := h.2
  refine i_callV (c := 10) (y1 := m_X10_bind) (z1 := (5, 0, 0)) (z2 := (13, mc + 2, ms + 42)) [(0, (x_xs E ((x_w (l3 + 1))).toNat).toInt), (0, (x_xs E ((x_w (l3 + 2))).toNat).toInt), (0, (x_xs E ((x_w (l3 + 3))).toNat).toInt)] 240 rfl ml_562 ok_X10_bind vk_X10_bind ⟨by decide, rfl⟩ rfl ⟨rfl, Nat.le_of_ble_eq_true rfl⟩ (Nat.le_of_ble_eq_true rfl) ⟨Nat.le_of_ble_eq_true rfl, rfl, by dsimp only; omega, by dsimp only; omega⟩ ?_
  refine h.mono (fun r zM1 h => ?_)
  obtain ⟨zr2, rfl, h⟩ := h
  simp only [Option.toList_some, Option.toList_none, List.cons_append, List.nil_append]
  refine i_aload_n 241 rfl rfl (by decide) ?_
  refine i_aload_n 242 rfl rfl (by decide) ?_
  refine i_iload_n 243 rfl rfl ?_
  refine i_iconst 244 rfl (by decide) ?_
  refine i_iadd 245 rfl ?_
  refine i_scr 246 rfl h.1.1 h.1.2 ?_
  replace h := h.2
  refine i_aload_n 247 rfl rfl (by decide) ?_
  refine i_iload_n 248 rfl rfl ?_
  refine i_iconst 249 rfl (by decide) ?_
  refine i_iadd 250 rfl ?_
  refine i_scr 251 rfl h.1.1 h.1.2 ?_
  replace h := h.2
  refine i_aload_n 252 rfl rfl (by decide) ?_
  refine i_iload_n 253 rfl rfl ?_
  refine i_iconst 254 rfl (by decide) ?_
  refine i_iadd 255 rfl ?_
  refine i_scr 256 rfl h.1.1 h.1.2 ?_
  replace h := h.2
  refine i_callV (c := 11) (y1 := m_X11_bind) (z1 := (3, 0, 0)) (z2 := (13, mc + 2, ms + 42)) [(0, (x_xs E ((x_w (l3 + 1))).toNat).toInt), (0, (x_xs E ((x_w (l3 + 2))).toNat).toInt), (0, (x_xs E ((x_w (l3 + 3))).toNat).toInt)] 257 rfl ml_1363 ok_X11_bind vk_X11_bind ⟨by decide, rfl⟩ rfl ⟨rfl, Nat.le_of_ble_eq_true rfl⟩ (Nat.le_of_ble_eq_true rfl) ⟨Nat.le_of_ble_eq_true rfl, rfl, by dsimp only; omega, by dsimp only; omega⟩ ?_
  refine h.mono (fun r zM3 h => ?_)
  obtain ⟨zr4, rfl, h⟩ := h
  simp only [Option.toList_some, Option.toList_none, List.cons_append, List.nil_append]
  refine i_icmp_eq 1994 258 rfl (by decide) (fun c => ?_) (fun c => ?_)
  · replace h := h.1 c
    exact h
  · replace h := h.2 c
    refine i_iconst 259 rfl (by decide) ?_
    exact i_zreturn 260 rfl rfl (by decide) h
set_option maxRecDepth 100000 in
theorem u_L_law_525 {l : Launch} {E : xE} (mc ms : Nat) (l3 : Int) {M : xM} {Q : Option xV → xM → Prop} (h : ((0 : Int) ≤ (x_w (l3 + 1)) ∧ ((x_w (l3 + 1)) : Int) < x_L E) ∧ ((0 : Int) ≤ (x_w (l3 + 2)) ∧ ((x_w (l3 + 2)) : Int) < x_L E) ∧ x_Ev l E (5, 0, 0) m_X10_loosen 0 [(20, 5), (0, (x_xs E ((x_w (l3 + 1))).toNat).toInt), (0, (x_xs E ((x_w (l3 + 2))).toNat).toInt)] [] M (fun r zM1 => ∃ zr2, r = some (0, zr2) ∧ ((0 : Int) ≤ (x_w (l3 + 1)) ∧ ((x_w (l3 + 1)) : Int) < x_L E) ∧ ((0 : Int) ≤ (x_w (l3 + 2)) ∧ ((x_w (l3 + 2)) : Int) < x_L E) ∧ x_Ev l E (4, 0, 0) m_X11_loosen 0 [(21, 103), (0, (x_xs E ((x_w (l3 + 1))).toNat).toInt), (0, (x_xs E ((x_w (l3 + 2))).toNat).toInt)] [] zM1 (fun r zM3 => ∃ zr4, r = some (0, zr4) ∧ (zr2 = zr4 → x_Ev l E (13, mc + 2, ms + 42) m_L_law 1994 [(180, 0), (20, 5), (21, 103), (0, l3)] [] zM3 Q) ∧ (¬ zr2 = zr4 → Q (some (0, 0)) zM3)))) : x_Ev l E (13, mc + 2, ms + 42) m_L_law 525 [(180, 0), (20, 5), (21, 103), (0, l3)] [] M Q := by
  refine i_aload_n 261 rfl rfl (by decide) ?_
  refine i_aload_n 262 rfl rfl (by decide) ?_
  refine i_iload_n 263 rfl rfl ?_
  refine i_iconst 264 rfl (by decide) ?_
  refine i_iadd 265 rfl ?_
  refine i_scr 266 rfl h.1.1 h.1.2 ?_
  replace h := h.2
  refine i_aload_n 267 rfl rfl (by decide) ?_
  refine i_iload_n 268 rfl rfl ?_
  refine i_iconst 269 rfl (by decide) ?_
  refine i_iadd 270 rfl ?_
  refine i_scr 271 rfl h.1.1 h.1.2 ?_
  replace h := h.2
  refine i_callV (c := 10) (y1 := m_X10_loosen) (z1 := (5, 0, 0)) (z2 := (13, mc + 2, ms + 42)) [(0, (x_xs E ((x_w (l3 + 1))).toNat).toInt), (0, (x_xs E ((x_w (l3 + 2))).toNat).toInt)] 272 rfl ml_566 ok_X10_loosen vk_X10_loosen ⟨by decide, rfl⟩ rfl ⟨rfl, Nat.le_of_ble_eq_true rfl⟩ (Nat.le_of_ble_eq_true rfl) ⟨Nat.le_of_ble_eq_true rfl, rfl, by dsimp only; omega, by dsimp only; omega⟩ ?_
  refine h.mono (fun r zM1 h => ?_)
  obtain ⟨zr2, rfl, h⟩ := h
  simp only [Option.toList_some, Option.toList_none, List.cons_append, List.nil_append]
  refine i_aload_n 273 rfl rfl (by decide) ?_
  refine i_aload_n 274 rfl rfl (by decide) ?_
  refine i_iload_n 275 rfl rfl ?_
  refine i_iconst 276 rfl (by decide) ?_
  refine i_iadd 277 rfl ?_
  refine i_scr 278 rfl h.1.1 h.1.2 ?_
  replace h := h.2
  refine i_aload_n 279 rfl rfl (by decide) ?_
  refine i_iload_n 280 rfl rfl ?_
  refine i_iconst 281 rfl (by decide) ?_
  refine i_iadd 282 rfl ?_
  refine i_scr 283 rfl h.1.1 h.1.2 ?_
  replace h := h.2
  refine i_callV (c := 11) (y1 := m_X11_loosen) (z1 := (4, 0, 0)) (z2 := (13, mc + 2, ms + 42)) [(0, (x_xs E ((x_w (l3 + 1))).toNat).toInt), (0, (x_xs E ((x_w (l3 + 2))).toNat).toInt)] 284 rfl ml_1368 ok_X11_loosen vk_X11_loosen ⟨by decide, rfl⟩ rfl ⟨rfl, Nat.le_of_ble_eq_true rfl⟩ (Nat.le_of_ble_eq_true rfl) ⟨Nat.le_of_ble_eq_true rfl, rfl, by dsimp only; omega, by dsimp only; omega⟩ ?_
  refine h.mono (fun r zM3 h => ?_)
  obtain ⟨zr4, rfl, h⟩ := h
  simp only [Option.toList_some, Option.toList_none, List.cons_append, List.nil_append]
  refine i_icmp_eq 1994 285 rfl (by decide) (fun c => ?_) (fun c => ?_)
  · replace h := h.1 c
    exact h
  · replace h := h.2 c
    refine i_iconst 286 rfl (by decide) ?_
    exact i_zreturn 287 rfl rfl (by decide) h
set_option maxRecDepth 100000 in
theorem u_L_law_558 {l : Launch} {E : xE} (mc ms : Nat) (l3 : Int) {M : xM} {Q : Option xV → xM → Prop} (h : ((0 : Int) ≤ (x_w (l3 + 1)) ∧ ((x_w (l3 + 1)) : Int) < x_L E) ∧ ((0 : Int) ≤ (x_w (l3 + 2)) ∧ ((x_w (l3 + 2)) : Int) < x_L E) ∧ ((0 : Int) ≤ (x_w (l3 + 3)) ∧ ((x_w (l3 + 3)) : Int) < x_L E) ∧ x_Ev l E (3, 0, 0) m_X10_rowOf 0 [(20, 5), (0, (x_xs E ((x_w (l3 + 1))).toNat).toInt), (0, (x_xs E ((x_w (l3 + 2))).toNat).toInt), (0, (x_xs E ((x_w (l3 + 3))).toNat).toInt), (5, 0)] [] M (fun r zM1 => ∃ zr2, r = some (0, zr2) ∧ ((0 : Int) ≤ (x_w (l3 + 1)) ∧ ((x_w (l3 + 1)) : Int) < x_L E) ∧ ((0 : Int) ≤ (x_w (l3 + 2)) ∧ ((x_w (l3 + 2)) : Int) < x_L E) ∧ ((0 : Int) ≤ (x_w (l3 + 3)) ∧ ((x_w (l3 + 3)) : Int) < x_L E) ∧ x_Ev l E (4, 0, 0) m_X11_rowOf 0 [(21, 103), (0, (x_xs E ((x_w (l3 + 1))).toNat).toInt), (0, (x_xs E ((x_w (l3 + 2))).toNat).toInt), (0, (x_xs E ((x_w (l3 + 3))).toNat).toInt)] [] zM1 (fun r zM3 => ∃ zr4, r = some (0, zr4) ∧ (zr2 = zr4 → x_Ev l E (13, mc + 2, ms + 42) m_L_law 1994 [(180, 0), (20, 5), (21, 103), (0, l3)] [] zM3 Q) ∧ (¬ zr2 = zr4 → Q (some (0, 0)) zM3)))) : x_Ev l E (13, mc + 2, ms + 42) m_L_law 558 [(180, 0), (20, 5), (21, 103), (0, l3)] [] M Q := by
  refine i_aload_n 288 rfl rfl (by decide) ?_
  refine i_aload_n 289 rfl rfl (by decide) ?_
  refine i_iload_n 290 rfl rfl ?_
  refine i_iconst 291 rfl (by decide) ?_
  refine i_iadd 292 rfl ?_
  refine i_scr 293 rfl h.1.1 h.1.2 ?_
  replace h := h.2
  refine i_aload_n 294 rfl rfl (by decide) ?_
  refine i_iload_n 295 rfl rfl ?_
  refine i_iconst 296 rfl (by decide) ?_
  refine i_iadd 297 rfl ?_
  refine i_scr 298 rfl h.1.1 h.1.2 ?_
  replace h := h.2
  refine i_aload_n 299 rfl rfl (by decide) ?_
  refine i_iload_n 300 rfl rfl ?_
  refine i_iconst 301 rfl (by decide) ?_
  refine i_iadd 302 rfl ?_
  refine i_scr 303 rfl h.1.1 h.1.2 ?_
  replace h := h.2
  refine i_callV (c := 10) (y1 := m_X10_rowOf) (z1 := (3, 0, 0)) (z2 := (13, mc + 2, ms + 42)) [(0, (x_xs E ((x_w (l3 + 1))).toNat).toInt), (0, (x_xs E ((x_w (l3 + 2))).toNat).toInt), (0, (x_xs E ((x_w (l3 + 3))).toNat).toInt)] 304 rfl ml_579 ok_X10_rowOf vk_X10_rowOf ⟨by decide, rfl⟩ rfl ⟨rfl, Nat.le_of_ble_eq_true rfl⟩ (Nat.le_of_ble_eq_true rfl) ⟨Nat.le_of_ble_eq_true rfl, rfl, by dsimp only; omega, by dsimp only; omega⟩ ?_
  refine h.mono (fun r zM1 h => ?_)
  obtain ⟨zr2, rfl, h⟩ := h
  simp only [Option.toList_some, Option.toList_none, List.cons_append, List.nil_append]
  refine i_aload_n 305 rfl rfl (by decide) ?_
  refine i_aload_n 306 rfl rfl (by decide) ?_
  refine i_iload_n 307 rfl rfl ?_
  refine i_iconst 308 rfl (by decide) ?_
  refine i_iadd 309 rfl ?_
  refine i_scr 310 rfl h.1.1 h.1.2 ?_
  replace h := h.2
  refine i_aload_n 311 rfl rfl (by decide) ?_
  refine i_iload_n 312 rfl rfl ?_
  refine i_iconst 313 rfl (by decide) ?_
  refine i_iadd 314 rfl ?_
  refine i_scr 315 rfl h.1.1 h.1.2 ?_
  replace h := h.2
  refine i_aload_n 316 rfl rfl (by decide) ?_
  refine i_iload_n 317 rfl rfl ?_
  refine i_iconst 318 rfl (by decide) ?_
  refine i_iadd 319 rfl ?_
  refine i_scr 320 rfl h.1.1 h.1.2 ?_
  replace h := h.2
  refine i_callV (c := 11) (y1 := m_X11_rowOf) (z1 := (4, 0, 0)) (z2 := (13, mc + 2, ms + 42)) [(0, (x_xs E ((x_w (l3 + 1))).toNat).toInt), (0, (x_xs E ((x_w (l3 + 2))).toNat).toInt), (0, (x_xs E ((x_w (l3 + 3))).toNat).toInt)] 321 rfl ml_1380 ok_X11_rowOf vk_X11_rowOf ⟨by decide, rfl⟩ rfl ⟨rfl, Nat.le_of_ble_eq_true rfl⟩ (Nat.le_of_ble_eq_true rfl) ⟨Nat.le_of_ble_eq_true rfl, rfl, by dsimp only; omega, by dsimp only; omega⟩ ?_
  refine h.mono (fun r zM3 h => ?_)
  obtain ⟨zr4, rfl, h⟩ := h
  simp only [Option.toList_some, Option.toList_none, List.cons_append, List.nil_append]
  refine i_icmp_eq 1994 322 rfl (by decide) (fun c => ?_) (fun c => ?_)
  · replace h := h.1 c
    exact h
  · replace h := h.2 c
    refine i_iconst 323 rfl (by decide) ?_
    exact i_zreturn 324 rfl rfl (by decide) h
set_option maxRecDepth 100000 in
theorem u_L_law_601 {l : Launch} {E : xE} (mc ms : Nat) (l3 : Int) {M : xM} {Q : Option xV → xM → Prop} (h : ((0 : Int) ≤ (x_w (l3 + 1)) ∧ ((x_w (l3 + 1)) : Int) < x_L E) ∧ x_Ev l E (2, 0, 0) m_X10_most 0 [(20, 5), (0, (x_xs E ((x_w (l3 + 1))).toNat).toInt), (5, 0)] [] M (fun r zM1 => ∃ zr2, r = some (0, zr2) ∧ ((0 : Int) ≤ (x_w (l3 + 1)) ∧ ((x_w (l3 + 1)) : Int) < x_L E) ∧ x_Ev l E (2, 0, 0) m_X11_most 0 [(21, 103), (0, (x_xs E ((x_w (l3 + 1))).toNat).toInt), (5, 0)] [] zM1 (fun r zM3 => ∃ zr4, r = some (0, zr4) ∧ (zr2 = zr4 → x_Ev l E (13, mc + 2, ms + 42) m_L_law 1994 [(180, 0), (20, 5), (21, 103), (0, l3)] [] zM3 Q) ∧ (¬ zr2 = zr4 → Q (some (0, 0)) zM3)))) : x_Ev l E (13, mc + 2, ms + 42) m_L_law 601 [(180, 0), (20, 5), (21, 103), (0, l3)] [] M Q := by
  refine i_aload_n 325 rfl rfl (by decide) ?_
  refine i_aload_n 326 rfl rfl (by decide) ?_
  refine i_iload_n 327 rfl rfl ?_
  refine i_iconst 328 rfl (by decide) ?_
  refine i_iadd 329 rfl ?_
  refine i_scr 330 rfl h.1.1 h.1.2 ?_
  replace h := h.2
  refine i_callV (c := 10) (y1 := m_X10_most) (z1 := (2, 0, 0)) (z2 := (13, mc + 2, ms + 42)) [(0, (x_xs E ((x_w (l3 + 1))).toNat).toInt)] 331 rfl ml_583 ok_X10_most vk_X10_most ⟨by decide, rfl⟩ rfl ⟨rfl, Nat.le_of_ble_eq_true rfl⟩ (Nat.le_of_ble_eq_true rfl) ⟨Nat.le_of_ble_eq_true rfl, rfl, by dsimp only; omega, by dsimp only; omega⟩ ?_
  refine h.mono (fun r zM1 h => ?_)
  obtain ⟨zr2, rfl, h⟩ := h
  simp only [Option.toList_some, Option.toList_none, List.cons_append, List.nil_append]
  refine i_aload_n 332 rfl rfl (by decide) ?_
  refine i_aload_n 333 rfl rfl (by decide) ?_
  refine i_iload_n 334 rfl rfl ?_
  refine i_iconst 335 rfl (by decide) ?_
  refine i_iadd 336 rfl ?_
  refine i_scr 337 rfl h.1.1 h.1.2 ?_
  replace h := h.2
  refine i_callV (c := 11) (y1 := m_X11_most) (z1 := (2, 0, 0)) (z2 := (13, mc + 2, ms + 42)) [(0, (x_xs E ((x_w (l3 + 1))).toNat).toInt)] 338 rfl ml_1384 ok_X11_most vk_X11_most ⟨by decide, rfl⟩ rfl ⟨rfl, Nat.le_of_ble_eq_true rfl⟩ (Nat.le_of_ble_eq_true rfl) ⟨Nat.le_of_ble_eq_true rfl, rfl, by dsimp only; omega, by dsimp only; omega⟩ ?_
  refine h.mono (fun r zM3 h => ?_)
  obtain ⟨zr4, rfl, h⟩ := h
  simp only [Option.toList_some, Option.toList_none, List.cons_append, List.nil_append]
  refine i_icmp_eq 1994 339 rfl (by decide) (fun c => ?_) (fun c => ?_)
  · replace h := h.1 c
    exact h
  · replace h := h.2 c
    refine i_iconst 340 rfl (by decide) ?_
    exact i_zreturn 341 rfl rfl (by decide) h
set_option maxRecDepth 100000 in
theorem u_L_law_624 {l : Launch} {E : xE} (mc ms : Nat) (l3 : Int) {M : xM} {Q : Option xV → xM → Prop} (h : ((0 : Int) ≤ (x_w (l3 + 1)) ∧ ((x_w (l3 + 1)) : Int) < x_L E) ∧ ((0 : Int) ≤ (x_w (l3 + 2)) ∧ ((x_w (l3 + 2)) : Int) < x_L E) ∧ ((0 : Int) ≤ (x_w (l3 + 3)) ∧ ((x_w (l3 + 3)) : Int) < x_L E) ∧ ((0 : Int) ≤ (x_w (l3 + 4)) ∧ ((x_w (l3 + 4)) : Int) < x_L E) ∧ x_Ev l E (3, 0, 0) m_X10_term 0 [(20, 5), (1, (x_lor (x_lshl (x_xs E ((x_w (l3 + 1))).toNat).toInt 32) (x_land (x_xs E ((x_w (l3 + 2))).toNat).toInt 4294967295))), (5, 0), (1, (x_lor (x_lshl (x_xs E ((x_w (l3 + 3))).toNat).toInt 32) (x_land (x_xs E ((x_w (l3 + 4))).toNat).toInt 4294967295))), (5, 0)] [] M (fun r zM1 => ∃ zr2, r = some (0, zr2) ∧ ((0 : Int) ≤ (x_w (l3 + 1)) ∧ ((x_w (l3 + 1)) : Int) < x_L E) ∧ ((0 : Int) ≤ (x_w (l3 + 2)) ∧ ((x_w (l3 + 2)) : Int) < x_L E) ∧ ((0 : Int) ≤ (x_w (l3 + 3)) ∧ ((x_w (l3 + 3)) : Int) < x_L E) ∧ ((0 : Int) ≤ (x_w (l3 + 4)) ∧ ((x_w (l3 + 4)) : Int) < x_L E) ∧ x_Ev l E (3, 0, 0) m_X11_term 0 [(21, 103), (1, (x_lor (x_lshl (x_xs E ((x_w (l3 + 1))).toNat).toInt 32) (x_land (x_xs E ((x_w (l3 + 2))).toNat).toInt 4294967295))), (5, 0), (1, (x_lor (x_lshl (x_xs E ((x_w (l3 + 3))).toNat).toInt 32) (x_land (x_xs E ((x_w (l3 + 4))).toNat).toInt 4294967295))), (5, 0)] [] zM1 (fun r zM3 => ∃ zr4, r = some (0, zr4) ∧ (zr2 = zr4 → x_Ev l E (13, mc + 2, ms + 42) m_L_law 1994 [(180, 0), (20, 5), (21, 103), (0, l3)] [] zM3 Q) ∧ (¬ zr2 = zr4 → Q (some (0, 0)) zM3)))) : x_Ev l E (13, mc + 2, ms + 42) m_L_law 624 [(180, 0), (20, 5), (21, 103), (0, l3)] [] M Q := by
  refine i_aload_n 342 rfl rfl (by decide) ?_
  refine i_aload_n 343 rfl rfl (by decide) ?_
  refine i_iload_n 344 rfl rfl ?_
  refine i_iconst 345 rfl (by decide) ?_
  refine i_iadd 346 rfl ?_
  refine i_scr 347 rfl h.1.1 h.1.2 ?_
  replace h := h.2
  refine i_i2l 348 rfl ?_
  refine i_bipush 349 rfl (by decide) ?_
  refine i_lshl 350 rfl ?_
  refine i_aload_n 351 rfl rfl (by decide) ?_
  refine i_iload_n 352 rfl rfl ?_
  refine i_iconst 353 rfl (by decide) ?_
  refine i_iadd 354 rfl ?_
  refine i_scr 355 rfl h.1.1 h.1.2 ?_
  replace h := h.2
  refine i_i2l 356 rfl ?_
  refine i_ldc2 (v := 4294967295) 357 rfl cw_1778 (by decide) ?_
  refine i_land 358 rfl ?_
  refine i_lor 359 rfl ?_
  refine i_aload_n 360 rfl rfl (by decide) ?_
  refine i_iload_n 361 rfl rfl ?_
  refine i_iconst 362 rfl (by decide) ?_
  refine i_iadd 363 rfl ?_
  refine i_scr 364 rfl h.1.1 h.1.2 ?_
  replace h := h.2
  refine i_i2l 365 rfl ?_
  refine i_bipush 366 rfl (by decide) ?_
  refine i_lshl 367 rfl ?_
  refine i_aload_n 368 rfl rfl (by decide) ?_
  refine i_iload_n 369 rfl rfl ?_
  refine i_iconst 370 rfl (by decide) ?_
  refine i_iadd 371 rfl ?_
  refine i_scr 372 rfl h.1.1 h.1.2 ?_
  replace h := h.2
  refine i_i2l 373 rfl ?_
  refine i_ldc2 (v := 4294967295) 374 rfl cw_1778 (by decide) ?_
  refine i_land 375 rfl ?_
  refine i_lor 376 rfl ?_
  refine i_callV (c := 10) (y1 := m_X10_term) (z1 := (3, 0, 0)) (z2 := (13, mc + 2, ms + 42)) [(1, (x_lor (x_lshl (x_xs E ((x_w (l3 + 1))).toNat).toInt 32) (x_land (x_xs E ((x_w (l3 + 2))).toNat).toInt 4294967295))), (1, (x_lor (x_lshl (x_xs E ((x_w (l3 + 3))).toNat).toInt 32) (x_land (x_xs E ((x_w (l3 + 4))).toNat).toInt 4294967295)))] 377 rfl ml_587 ok_X10_term vk_X10_term ⟨by decide, rfl⟩ rfl ⟨rfl, Nat.le_of_ble_eq_true rfl⟩ (Nat.le_of_ble_eq_true rfl) ⟨Nat.le_of_ble_eq_true rfl, rfl, by dsimp only; omega, by dsimp only; omega⟩ ?_
  refine h.mono (fun r zM1 h => ?_)
  obtain ⟨zr2, rfl, h⟩ := h
  simp only [Option.toList_some, Option.toList_none, List.cons_append, List.nil_append]
  refine i_aload_n 378 rfl rfl (by decide) ?_
  refine i_aload_n 379 rfl rfl (by decide) ?_
  refine i_iload_n 380 rfl rfl ?_
  refine i_iconst 381 rfl (by decide) ?_
  refine i_iadd 382 rfl ?_
  refine i_scr 383 rfl h.1.1 h.1.2 ?_
  replace h := h.2
  refine i_i2l 384 rfl ?_
  refine i_bipush 385 rfl (by decide) ?_
  refine i_lshl 386 rfl ?_
  refine i_aload_n 387 rfl rfl (by decide) ?_
  refine i_iload_n 388 rfl rfl ?_
  refine i_iconst 389 rfl (by decide) ?_
  refine i_iadd 390 rfl ?_
  refine i_scr 391 rfl h.1.1 h.1.2 ?_
  replace h := h.2
  refine i_i2l 392 rfl ?_
  refine i_ldc2 (v := 4294967295) 393 rfl cw_1778 (by decide) ?_
  refine i_land 394 rfl ?_
  refine i_lor 395 rfl ?_
  refine i_aload_n 396 rfl rfl (by decide) ?_
  refine i_iload_n 397 rfl rfl ?_
  refine i_iconst 398 rfl (by decide) ?_
  refine i_iadd 399 rfl ?_
  refine i_scr 400 rfl h.1.1 h.1.2 ?_
  replace h := h.2
  refine i_i2l 401 rfl ?_
  refine i_bipush 402 rfl (by decide) ?_
  refine i_lshl 403 rfl ?_
  refine i_aload_n 404 rfl rfl (by decide) ?_
  refine i_iload_n 405 rfl rfl ?_
  refine i_iconst 406 rfl (by decide) ?_
  refine i_iadd 407 rfl ?_
  refine i_scr 408 rfl h.1.1 h.1.2 ?_
  replace h := h.2
  refine i_i2l 409 rfl ?_
  refine i_ldc2 (v := 4294967295) 410 rfl cw_1778 (by decide) ?_
  refine i_land 411 rfl ?_
  refine i_lor 412 rfl ?_
  refine i_callV (c := 11) (y1 := m_X11_term) (z1 := (3, 0, 0)) (z2 := (13, mc + 2, ms + 42)) [(1, (x_lor (x_lshl (x_xs E ((x_w (l3 + 1))).toNat).toInt 32) (x_land (x_xs E ((x_w (l3 + 2))).toNat).toInt 4294967295))), (1, (x_lor (x_lshl (x_xs E ((x_w (l3 + 3))).toNat).toInt 32) (x_land (x_xs E ((x_w (l3 + 4))).toNat).toInt 4294967295)))] 413 rfl ml_1389 ok_X11_term vk_X11_term ⟨by decide, rfl⟩ rfl ⟨rfl, Nat.le_of_ble_eq_true rfl⟩ (Nat.le_of_ble_eq_true rfl) ⟨Nat.le_of_ble_eq_true rfl, rfl, by dsimp only; omega, by dsimp only; omega⟩ ?_
  refine h.mono (fun r zM3 h => ?_)
  obtain ⟨zr4, rfl, h⟩ := h
  simp only [Option.toList_some, Option.toList_none, List.cons_append, List.nil_append]
  refine i_icmp_eq 1994 414 rfl (by decide) (fun c => ?_) (fun c => ?_)
  · replace h := h.1 c
    exact h
  · replace h := h.2 c
    refine i_iconst 415 rfl (by decide) ?_
    exact i_zreturn 416 rfl rfl (by decide) h
set_option maxRecDepth 100000 in
theorem u_L_law_717 {l : Launch} {E : xE} (mc ms : Nat) (l3 : Int) {M : xM} {Q : Option xV → xM → Prop} (h : ((0 : Int) ≤ (x_w (l3 + 1)) ∧ ((x_w (l3 + 1)) : Int) < x_L E) ∧ x_Ev l E (2, 0, 0) m_X10_termOf 0 [(20, 5), (0, (x_xs E ((x_w (l3 + 1))).toNat).toInt)] [] M (fun r zM1 => ∃ zr2, r = some (1, zr2) ∧ ((0 : Int) ≤ (x_w (l3 + 1)) ∧ ((x_w (l3 + 1)) : Int) < x_L E) ∧ x_Ev l E (3, 0, 0) m_X11_termOf 0 [(21, 103), (0, (x_xs E ((x_w (l3 + 1))).toNat).toInt)] [] zM1 (fun r zM3 => ∃ zr4, r = some (1, zr4) ∧ (zr2 = zr4 → x_Ev l E (13, mc + 2, ms + 42) m_L_law 1994 [(180, 0), (20, 5), (21, 103), (0, l3)] [] zM3 Q) ∧ (¬ zr2 = zr4 → Q (some (0, 0)) zM3)))) : x_Ev l E (13, mc + 2, ms + 42) m_L_law 717 [(180, 0), (20, 5), (21, 103), (0, l3)] [] M Q := by
  refine i_aload_n 417 rfl rfl (by decide) ?_
  refine i_aload_n 418 rfl rfl (by decide) ?_
  refine i_iload_n 419 rfl rfl ?_
  refine i_iconst 420 rfl (by decide) ?_
  refine i_iadd 421 rfl ?_
  refine i_scr 422 rfl h.1.1 h.1.2 ?_
  replace h := h.2
  refine i_callV (c := 10) (y1 := m_X10_termOf) (z1 := (2, 0, 0)) (z2 := (13, mc + 2, ms + 42)) [(0, (x_xs E ((x_w (l3 + 1))).toNat).toInt)] 423 rfl ml_599 ok_X10_termOf vk_X10_termOf ⟨by decide, rfl⟩ rfl ⟨rfl, Nat.le_of_ble_eq_true rfl⟩ (Nat.le_of_ble_eq_true rfl) ⟨Nat.le_of_ble_eq_true rfl, rfl, by dsimp only; omega, by dsimp only; omega⟩ ?_
  refine h.mono (fun r zM1 h => ?_)
  obtain ⟨zr2, rfl, h⟩ := h
  simp only [Option.toList_some, Option.toList_none, List.cons_append, List.nil_append]
  refine i_aload_n 424 rfl rfl (by decide) ?_
  refine i_aload_n 425 rfl rfl (by decide) ?_
  refine i_iload_n 426 rfl rfl ?_
  refine i_iconst 427 rfl (by decide) ?_
  refine i_iadd 428 rfl ?_
  refine i_scr 429 rfl h.1.1 h.1.2 ?_
  replace h := h.2
  refine i_callV (c := 11) (y1 := m_X11_termOf) (z1 := (3, 0, 0)) (z2 := (13, mc + 2, ms + 42)) [(0, (x_xs E ((x_w (l3 + 1))).toNat).toInt)] 430 rfl ml_1400 ok_X11_termOf vk_X11_termOf ⟨by decide, rfl⟩ rfl ⟨rfl, Nat.le_of_ble_eq_true rfl⟩ (Nat.le_of_ble_eq_true rfl) ⟨Nat.le_of_ble_eq_true rfl, rfl, by dsimp only; omega, by dsimp only; omega⟩ ?_
  refine h.mono (fun r zM3 h => ?_)
  obtain ⟨zr4, rfl, h⟩ := h
  simp only [Option.toList_some, Option.toList_none, List.cons_append, List.nil_append]
  refine i_lcmp_eq 1994 431 rfl rfl (by decide) (fun c => ?_) (fun c => ?_)
  · replace h := h.1 c
    exact h
  · replace h := h.2 c
    refine i_iconst 433 rfl (by decide) ?_
    exact i_zreturn 434 rfl rfl (by decide) h
set_option maxRecDepth 100000 in
theorem u_L_law_741 {l : Launch} {E : xE} (mc ms : Nat) (l3 : Int) {M : xM} {Q : Option xV → xM → Prop} (h : ((0 : Int) ≤ (x_w (l3 + 1)) ∧ ((x_w (l3 + 1)) : Int) < x_L E) ∧ ((0 : Int) ≤ (x_w (l3 + 2)) ∧ ((x_w (l3 + 2)) : Int) < x_L E) ∧ ((0 : Int) ≤ (x_w (l3 + 3)) ∧ ((x_w (l3 + 3)) : Int) < x_L E) ∧ ((0 : Int) ≤ (x_w (l3 + 4)) ∧ ((x_w (l3 + 4)) : Int) < x_L E) ∧ x_Ev l E (3, 0, 0) m_X10_amount 0 [(20, 5), (0, (x_xs E ((x_w (l3 + 1))).toNat).toInt), (0, (x_xs E ((x_w (l3 + 2))).toNat).toInt), (0, (x_xs E ((x_w (l3 + 3))).toNat).toInt), (0, (x_xs E ((x_w (l3 + 4))).toNat).toInt), (5, 0)] [] M (fun r zM1 => ∃ zr2, r = some (1, zr2) ∧ ((0 : Int) ≤ (x_w (l3 + 1)) ∧ ((x_w (l3 + 1)) : Int) < x_L E) ∧ ((0 : Int) ≤ (x_w (l3 + 2)) ∧ ((x_w (l3 + 2)) : Int) < x_L E) ∧ ((0 : Int) ≤ (x_w (l3 + 3)) ∧ ((x_w (l3 + 3)) : Int) < x_L E) ∧ ((0 : Int) ≤ (x_w (l3 + 4)) ∧ ((x_w (l3 + 4)) : Int) < x_L E) ∧ x_Ev l E (10, 0, 0) m_X11_amount 0 [(21, 103), (0, (x_xs E ((x_w (l3 + 1))).toNat).toInt), (0, (x_xs E ((x_w (l3 + 2))).toNat).toInt), (0, (x_xs E ((x_w (l3 + 3))).toNat).toInt), (0, (x_xs E ((x_w (l3 + 4))).toNat).toInt)] [] zM1 (fun r zM3 => ∃ zr4, r = some (1, zr4) ∧ (zr2 = zr4 → x_Ev l E (13, mc + 2, ms + 42) m_L_law 1994 [(180, 0), (20, 5), (21, 103), (0, l3)] [] zM3 Q) ∧ (¬ zr2 = zr4 → Q (some (0, 0)) zM3)))) : x_Ev l E (13, mc + 2, ms + 42) m_L_law 741 [(180, 0), (20, 5), (21, 103), (0, l3)] [] M Q := by
  refine i_aload_n 435 rfl rfl (by decide) ?_
  refine i_aload_n 436 rfl rfl (by decide) ?_
  refine i_iload_n 437 rfl rfl ?_
  refine i_iconst 438 rfl (by decide) ?_
  refine i_iadd 439 rfl ?_
  refine i_scr 440 rfl h.1.1 h.1.2 ?_
  replace h := h.2
  refine i_aload_n 441 rfl rfl (by decide) ?_
  refine i_iload_n 442 rfl rfl ?_
  refine i_iconst 443 rfl (by decide) ?_
  refine i_iadd 444 rfl ?_
  refine i_scr 445 rfl h.1.1 h.1.2 ?_
  replace h := h.2
  refine i_aload_n 446 rfl rfl (by decide) ?_
  refine i_iload_n 447 rfl rfl ?_
  refine i_iconst 448 rfl (by decide) ?_
  refine i_iadd 449 rfl ?_
  refine i_scr 450 rfl h.1.1 h.1.2 ?_
  replace h := h.2
  refine i_aload_n 451 rfl rfl (by decide) ?_
  refine i_iload_n 452 rfl rfl ?_
  refine i_iconst 453 rfl (by decide) ?_
  refine i_iadd 454 rfl ?_
  refine i_scr 455 rfl h.1.1 h.1.2 ?_
  replace h := h.2
  refine i_callV (c := 10) (y1 := m_X10_amount) (z1 := (3, 0, 0)) (z2 := (13, mc + 2, ms + 42)) [(0, (x_xs E ((x_w (l3 + 1))).toNat).toInt), (0, (x_xs E ((x_w (l3 + 2))).toNat).toInt), (0, (x_xs E ((x_w (l3 + 3))).toNat).toInt), (0, (x_xs E ((x_w (l3 + 4))).toNat).toInt)] 456 rfl ml_616 ok_X10_amount vk_X10_amount ⟨by decide, rfl⟩ rfl ⟨rfl, Nat.le_of_ble_eq_true rfl⟩ (Nat.le_of_ble_eq_true rfl) ⟨Nat.le_of_ble_eq_true rfl, rfl, by dsimp only; omega, by dsimp only; omega⟩ ?_
  refine h.mono (fun r zM1 h => ?_)
  obtain ⟨zr2, rfl, h⟩ := h
  simp only [Option.toList_some, Option.toList_none, List.cons_append, List.nil_append]
  refine i_aload_n 457 rfl rfl (by decide) ?_
  refine i_aload_n 458 rfl rfl (by decide) ?_
  refine i_iload_n 459 rfl rfl ?_
  refine i_iconst 460 rfl (by decide) ?_
  refine i_iadd 461 rfl ?_
  refine i_scr 462 rfl h.1.1 h.1.2 ?_
  replace h := h.2
  refine i_aload_n 463 rfl rfl (by decide) ?_
  refine i_iload_n 464 rfl rfl ?_
  refine i_iconst 465 rfl (by decide) ?_
  refine i_iadd 466 rfl ?_
  refine i_scr 467 rfl h.1.1 h.1.2 ?_
  replace h := h.2
  refine i_aload_n 468 rfl rfl (by decide) ?_
  refine i_iload_n 469 rfl rfl ?_
  refine i_iconst 470 rfl (by decide) ?_
  refine i_iadd 471 rfl ?_
  refine i_scr 472 rfl h.1.1 h.1.2 ?_
  replace h := h.2
  refine i_aload_n 473 rfl rfl (by decide) ?_
  refine i_iload_n 474 rfl rfl ?_
  refine i_iconst 475 rfl (by decide) ?_
  refine i_iadd 476 rfl ?_
  refine i_scr 477 rfl h.1.1 h.1.2 ?_
  replace h := h.2
  refine i_callV (c := 11) (y1 := m_X11_amount) (z1 := (10, 0, 0)) (z2 := (13, mc + 2, ms + 42)) [(0, (x_xs E ((x_w (l3 + 1))).toNat).toInt), (0, (x_xs E ((x_w (l3 + 2))).toNat).toInt), (0, (x_xs E ((x_w (l3 + 3))).toNat).toInt), (0, (x_xs E ((x_w (l3 + 4))).toNat).toInt)] 478 rfl ml_1412 ok_X11_amount vk_X11_amount ⟨by decide, rfl⟩ rfl ⟨rfl, Nat.le_of_ble_eq_true rfl⟩ (Nat.le_of_ble_eq_true rfl) ⟨Nat.le_of_ble_eq_true rfl, rfl, by dsimp only; omega, by dsimp only; omega⟩ ?_
  refine h.mono (fun r zM3 h => ?_)
  obtain ⟨zr4, rfl, h⟩ := h
  simp only [Option.toList_some, Option.toList_none, List.cons_append, List.nil_append]
  refine i_lcmp_eq 1994 479 rfl rfl (by decide) (fun c => ?_) (fun c => ?_)
  · replace h := h.1 c
    exact h
  · replace h := h.2 c
    refine i_iconst 481 rfl (by decide) ?_
    exact i_zreturn 482 rfl rfl (by decide) h
set_option maxRecDepth 100000 in
theorem u_L_law_795 {l : Launch} {E : xE} (mc ms : Nat) (l3 : Int) {M : xM} {Q : Option xV → xM → Prop} (h : ((0 : Int) ≤ (x_w (l3 + 1)) ∧ ((x_w (l3 + 1)) : Int) < x_L E) ∧ ((0 : Int) ≤ (x_w (l3 + 2)) ∧ ((x_w (l3 + 2)) : Int) < x_L E) ∧ ((0 : Int) ≤ (x_w (l3 + 3)) ∧ ((x_w (l3 + 3)) : Int) < x_L E) ∧ ((0 : Int) ≤ (x_w (l3 + 4)) ∧ ((x_w (l3 + 4)) : Int) < x_L E) ∧ x_Ev l E (5, 0, 0) m_X10_brings 0 [(20, 5), (0, (x_xs E ((x_w (l3 + 1))).toNat).toInt), (0, (x_xs E ((x_w (l3 + 2))).toNat).toInt), (0, (x_xs E ((x_w (l3 + 3))).toNat).toInt), (0, (x_xs E ((x_w (l3 + 4))).toNat).toInt), (5, 0), (5, 0), (5, 0), (5, 0), (5, 0)] [] M (fun r zM1 => ∃ zr2, r = some (1, zr2) ∧ ((0 : Int) ≤ (x_w (l3 + 1)) ∧ ((x_w (l3 + 1)) : Int) < x_L E) ∧ ((0 : Int) ≤ (x_w (l3 + 2)) ∧ ((x_w (l3 + 2)) : Int) < x_L E) ∧ ((0 : Int) ≤ (x_w (l3 + 3)) ∧ ((x_w (l3 + 3)) : Int) < x_L E) ∧ ((0 : Int) ≤ (x_w (l3 + 4)) ∧ ((x_w (l3 + 4)) : Int) < x_L E) ∧ x_Ev l E (10, 0, 0) m_X11_brings 0 [(21, 103), (0, (x_xs E ((x_w (l3 + 1))).toNat).toInt), (0, (x_xs E ((x_w (l3 + 2))).toNat).toInt), (0, (x_xs E ((x_w (l3 + 3))).toNat).toInt), (0, (x_xs E ((x_w (l3 + 4))).toNat).toInt), (5, 0)] [] zM1 (fun r zM3 => ∃ zr4, r = some (1, zr4) ∧ (zr2 = zr4 → x_Ev l E (13, mc + 2, ms + 42) m_L_law 1994 [(180, 0), (20, 5), (21, 103), (0, l3)] [] zM3 Q) ∧ (¬ zr2 = zr4 → Q (some (0, 0)) zM3)))) : x_Ev l E (13, mc + 2, ms + 42) m_L_law 795 [(180, 0), (20, 5), (21, 103), (0, l3)] [] M Q := by
  refine i_aload_n 483 rfl rfl (by decide) ?_
  refine i_aload_n 484 rfl rfl (by decide) ?_
  refine i_iload_n 485 rfl rfl ?_
  refine i_iconst 486 rfl (by decide) ?_
  refine i_iadd 487 rfl ?_
  refine i_scr 488 rfl h.1.1 h.1.2 ?_
  replace h := h.2
  refine i_aload_n 489 rfl rfl (by decide) ?_
  refine i_iload_n 490 rfl rfl ?_
  refine i_iconst 491 rfl (by decide) ?_
  refine i_iadd 492 rfl ?_
  refine i_scr 493 rfl h.1.1 h.1.2 ?_
  replace h := h.2
  refine i_aload_n 494 rfl rfl (by decide) ?_
  refine i_iload_n 495 rfl rfl ?_
  refine i_iconst 496 rfl (by decide) ?_
  refine i_iadd 497 rfl ?_
  refine i_scr 498 rfl h.1.1 h.1.2 ?_
  replace h := h.2
  refine i_aload_n 499 rfl rfl (by decide) ?_
  refine i_iload_n 500 rfl rfl ?_
  refine i_iconst 501 rfl (by decide) ?_
  refine i_iadd 502 rfl ?_
  refine i_scr 503 rfl h.1.1 h.1.2 ?_
  replace h := h.2
  refine i_callV (c := 10) (y1 := m_X10_brings) (z1 := (5, 0, 0)) (z2 := (13, mc + 2, ms + 42)) [(0, (x_xs E ((x_w (l3 + 1))).toNat).toInt), (0, (x_xs E ((x_w (l3 + 2))).toNat).toInt), (0, (x_xs E ((x_w (l3 + 3))).toNat).toInt), (0, (x_xs E ((x_w (l3 + 4))).toNat).toInt)] 504 rfl ml_624 ok_X10_brings vk_X10_brings ⟨by decide, rfl⟩ rfl ⟨rfl, Nat.le_of_ble_eq_true rfl⟩ (Nat.le_of_ble_eq_true rfl) ⟨Nat.le_of_ble_eq_true rfl, rfl, by dsimp only; omega, by dsimp only; omega⟩ ?_
  refine h.mono (fun r zM1 h => ?_)
  obtain ⟨zr2, rfl, h⟩ := h
  simp only [Option.toList_some, Option.toList_none, List.cons_append, List.nil_append]
  refine i_aload_n 505 rfl rfl (by decide) ?_
  refine i_aload_n 506 rfl rfl (by decide) ?_
  refine i_iload_n 507 rfl rfl ?_
  refine i_iconst 508 rfl (by decide) ?_
  refine i_iadd 509 rfl ?_
  refine i_scr 510 rfl h.1.1 h.1.2 ?_
  replace h := h.2
  refine i_aload_n 511 rfl rfl (by decide) ?_
  refine i_iload_n 512 rfl rfl ?_
  refine i_iconst 513 rfl (by decide) ?_
  refine i_iadd 514 rfl ?_
  refine i_scr 515 rfl h.1.1 h.1.2 ?_
  replace h := h.2
  refine i_aload_n 516 rfl rfl (by decide) ?_
  refine i_iload_n 517 rfl rfl ?_
  refine i_iconst 518 rfl (by decide) ?_
  refine i_iadd 519 rfl ?_
  refine i_scr 520 rfl h.1.1 h.1.2 ?_
  replace h := h.2
  refine i_aload_n 521 rfl rfl (by decide) ?_
  refine i_iload_n 522 rfl rfl ?_
  refine i_iconst 523 rfl (by decide) ?_
  refine i_iadd 524 rfl ?_
  refine i_scr 525 rfl h.1.1 h.1.2 ?_
  replace h := h.2
  refine i_callV (c := 11) (y1 := m_X11_brings) (z1 := (10, 0, 0)) (z2 := (13, mc + 2, ms + 42)) [(0, (x_xs E ((x_w (l3 + 1))).toNat).toInt), (0, (x_xs E ((x_w (l3 + 2))).toNat).toInt), (0, (x_xs E ((x_w (l3 + 3))).toNat).toInt), (0, (x_xs E ((x_w (l3 + 4))).toNat).toInt)] 526 rfl ml_1416 ok_X11_brings vk_X11_brings ⟨by decide, rfl⟩ rfl ⟨rfl, Nat.le_of_ble_eq_true rfl⟩ (Nat.le_of_ble_eq_true rfl) ⟨Nat.le_of_ble_eq_true rfl, rfl, by dsimp only; omega, by dsimp only; omega⟩ ?_
  refine h.mono (fun r zM3 h => ?_)
  obtain ⟨zr4, rfl, h⟩ := h
  simp only [Option.toList_some, Option.toList_none, List.cons_append, List.nil_append]
  refine i_lcmp_eq 1994 527 rfl rfl (by decide) (fun c => ?_) (fun c => ?_)
  · replace h := h.1 c
    exact h
  · replace h := h.2 c
    refine i_iconst 529 rfl (by decide) ?_
    exact i_zreturn 530 rfl rfl (by decide) h
set_option maxRecDepth 100000 in
theorem u_L_law_849 {l : Launch} {E : xE} (mc ms : Nat) (l3 : Int) {M : xM} {Q : Option xV → xM → Prop} (h : ((0 : Int) ≤ (x_w (l3 + 1)) ∧ ((x_w (l3 + 1)) : Int) < x_L E) ∧ ((0 : Int) ≤ (x_w (l3 + 2)) ∧ ((x_w (l3 + 2)) : Int) < x_L E) ∧ x_Ev l E (5, 0, 0) m_X10_total 0 [(20, 5), (0, (x_xs E ((x_w (l3 + 1))).toNat).toInt), (0, (x_xs E ((x_w (l3 + 2))).toNat).toInt), (5, 0)] [] M (fun r zM1 => ∃ zr2, r = some (1, zr2) ∧ ((0 : Int) ≤ (x_w (l3 + 1)) ∧ ((x_w (l3 + 1)) : Int) < x_L E) ∧ ((0 : Int) ≤ (x_w (l3 + 2)) ∧ ((x_w (l3 + 2)) : Int) < x_L E) ∧ x_Ev l E (11, 0, 0) m_X11_total 0 [(21, 103), (0, (x_xs E ((x_w (l3 + 1))).toNat).toInt), (0, (x_xs E ((x_w (l3 + 2))).toNat).toInt)] [] zM1 (fun r zM3 => ∃ zr4, r = some (1, zr4) ∧ (zr2 = zr4 → x_Ev l E (13, mc + 2, ms + 42) m_L_law 1994 [(180, 0), (20, 5), (21, 103), (0, l3)] [] zM3 Q) ∧ (¬ zr2 = zr4 → Q (some (0, 0)) zM3)))) : x_Ev l E (13, mc + 2, ms + 42) m_L_law 849 [(180, 0), (20, 5), (21, 103), (0, l3)] [] M Q := by
  refine i_aload_n 531 rfl rfl (by decide) ?_
  refine i_aload_n 532 rfl rfl (by decide) ?_
  refine i_iload_n 533 rfl rfl ?_
  refine i_iconst 534 rfl (by decide) ?_
  refine i_iadd 535 rfl ?_
  refine i_scr 536 rfl h.1.1 h.1.2 ?_
  replace h := h.2
  refine i_aload_n 537 rfl rfl (by decide) ?_
  refine i_iload_n 538 rfl rfl ?_
  refine i_iconst 539 rfl (by decide) ?_
  refine i_iadd 540 rfl ?_
  refine i_scr 541 rfl h.1.1 h.1.2 ?_
  replace h := h.2
  refine i_callV (c := 10) (y1 := m_X10_total) (z1 := (5, 0, 0)) (z2 := (13, mc + 2, ms + 42)) [(0, (x_xs E ((x_w (l3 + 1))).toNat).toInt), (0, (x_xs E ((x_w (l3 + 2))).toNat).toInt)] 542 rfl ml_628 ok_X10_total vk_X10_total ⟨by decide, rfl⟩ rfl ⟨rfl, Nat.le_of_ble_eq_true rfl⟩ (Nat.le_of_ble_eq_true rfl) ⟨Nat.le_of_ble_eq_true rfl, rfl, by dsimp only; omega, by dsimp only; omega⟩ ?_
  refine h.mono (fun r zM1 h => ?_)
  obtain ⟨zr2, rfl, h⟩ := h
  simp only [Option.toList_some, Option.toList_none, List.cons_append, List.nil_append]
  refine i_aload_n 543 rfl rfl (by decide) ?_
  refine i_aload_n 544 rfl rfl (by decide) ?_
  refine i_iload_n 545 rfl rfl ?_
  refine i_iconst 546 rfl (by decide) ?_
  refine i_iadd 547 rfl ?_
  refine i_scr 548 rfl h.1.1 h.1.2 ?_
  replace h := h.2
  refine i_aload_n 549 rfl rfl (by decide) ?_
  refine i_iload_n 550 rfl rfl ?_
  refine i_iconst 551 rfl (by decide) ?_
  refine i_iadd 552 rfl ?_
  refine i_scr 553 rfl h.1.1 h.1.2 ?_
  replace h := h.2
  refine i_callV (c := 11) (y1 := m_X11_total) (z1 := (11, 0, 0)) (z2 := (13, mc + 2, ms + 42)) [(0, (x_xs E ((x_w (l3 + 1))).toNat).toInt), (0, (x_xs E ((x_w (l3 + 2))).toNat).toInt)] 554 rfl ml_1421 ok_X11_total vk_X11_total ⟨by decide, rfl⟩ rfl ⟨rfl, Nat.le_of_ble_eq_true rfl⟩ (Nat.le_of_ble_eq_true rfl) ⟨Nat.le_of_ble_eq_true rfl, rfl, by dsimp only; omega, by dsimp only; omega⟩ ?_
  refine h.mono (fun r zM3 h => ?_)
  obtain ⟨zr4, rfl, h⟩ := h
  simp only [Option.toList_some, Option.toList_none, List.cons_append, List.nil_append]
  refine i_lcmp_eq 1994 555 rfl rfl (by decide) (fun c => ?_) (fun c => ?_)
  · replace h := h.1 c
    exact h
  · replace h := h.2 c
    refine i_iconst 557 rfl (by decide) ?_
    exact i_zreturn 558 rfl rfl (by decide) h
set_option maxRecDepth 100000 in
theorem u_L_law_883 {l : Launch} {E : xE} (mc ms : Nat) (l3 : Int) {M : xM} {Q : Option xV → xM → Prop} (h : ((0 : Int) ≤ (x_w (l3 + 1)) ∧ ((x_w (l3 + 1)) : Int) < x_L E) ∧ ((0 : Int) ≤ (x_w (l3 + 2)) ∧ ((x_w (l3 + 2)) : Int) < x_L E) ∧ x_Ev l E (6, 0, 0) m_X10_opens 0 [(20, 5), (0, (x_xs E ((x_w (l3 + 1))).toNat).toInt), (0, (x_xs E ((x_w (l3 + 2))).toNat).toInt), (5, 0), (5, 0), (5, 0), (5, 0)] [] M (fun r zM1 => ∃ zr2, r = some (0, zr2) ∧ ((0 : Int) ≤ (x_w (l3 + 1)) ∧ ((x_w (l3 + 1)) : Int) < x_L E) ∧ ((0 : Int) ≤ (x_w (l3 + 2)) ∧ ((x_w (l3 + 2)) : Int) < x_L E) ∧ x_Ev l E (11, 0, 0) m_X11_opens 0 [(21, 103), (0, (x_xs E ((x_w (l3 + 1))).toNat).toInt), (0, (x_xs E ((x_w (l3 + 2))).toNat).toInt)] [] zM1 (fun r zM3 => ∃ zr4, r = some (0, zr4) ∧ (zr2 = zr4 → x_Ev l E (13, mc + 2, ms + 42) m_L_law 1994 [(180, 0), (20, 5), (21, 103), (0, l3)] [] zM3 Q) ∧ (¬ zr2 = zr4 → Q (some (0, 0)) zM3)))) : x_Ev l E (13, mc + 2, ms + 42) m_L_law 883 [(180, 0), (20, 5), (21, 103), (0, l3)] [] M Q := by
  refine i_aload_n 559 rfl rfl (by decide) ?_
  refine i_aload_n 560 rfl rfl (by decide) ?_
  refine i_iload_n 561 rfl rfl ?_
  refine i_iconst 562 rfl (by decide) ?_
  refine i_iadd 563 rfl ?_
  refine i_scr 564 rfl h.1.1 h.1.2 ?_
  replace h := h.2
  refine i_aload_n 565 rfl rfl (by decide) ?_
  refine i_iload_n 566 rfl rfl ?_
  refine i_iconst 567 rfl (by decide) ?_
  refine i_iadd 568 rfl ?_
  refine i_scr 569 rfl h.1.1 h.1.2 ?_
  replace h := h.2
  refine i_callV (c := 10) (y1 := m_X10_opens) (z1 := (6, 0, 0)) (z2 := (13, mc + 2, ms + 42)) [(0, (x_xs E ((x_w (l3 + 1))).toNat).toInt), (0, (x_xs E ((x_w (l3 + 2))).toNat).toInt)] 570 rfl ml_641 ok_X10_opens vk_X10_opens ⟨by decide, rfl⟩ rfl ⟨rfl, Nat.le_of_ble_eq_true rfl⟩ (Nat.le_of_ble_eq_true rfl) ⟨Nat.le_of_ble_eq_true rfl, rfl, by dsimp only; omega, by dsimp only; omega⟩ ?_
  refine h.mono (fun r zM1 h => ?_)
  obtain ⟨zr2, rfl, h⟩ := h
  simp only [Option.toList_some, Option.toList_none, List.cons_append, List.nil_append]
  refine i_aload_n 571 rfl rfl (by decide) ?_
  refine i_aload_n 572 rfl rfl (by decide) ?_
  refine i_iload_n 573 rfl rfl ?_
  refine i_iconst 574 rfl (by decide) ?_
  refine i_iadd 575 rfl ?_
  refine i_scr 576 rfl h.1.1 h.1.2 ?_
  replace h := h.2
  refine i_aload_n 577 rfl rfl (by decide) ?_
  refine i_iload_n 578 rfl rfl ?_
  refine i_iconst 579 rfl (by decide) ?_
  refine i_iadd 580 rfl ?_
  refine i_scr 581 rfl h.1.1 h.1.2 ?_
  replace h := h.2
  refine i_callV (c := 11) (y1 := m_X11_opens) (z1 := (11, 0, 0)) (z2 := (13, mc + 2, ms + 42)) [(0, (x_xs E ((x_w (l3 + 1))).toNat).toInt), (0, (x_xs E ((x_w (l3 + 2))).toNat).toInt)] 582 rfl ml_1449 ok_X11_opens vk_X11_opens ⟨by decide, rfl⟩ rfl ⟨rfl, Nat.le_of_ble_eq_true rfl⟩ (Nat.le_of_ble_eq_true rfl) ⟨Nat.le_of_ble_eq_true rfl, rfl, by dsimp only; omega, by dsimp only; omega⟩ ?_
  refine h.mono (fun r zM3 h => ?_)
  obtain ⟨zr4, rfl, h⟩ := h
  simp only [Option.toList_some, Option.toList_none, List.cons_append, List.nil_append]
  refine i_icmp_eq 1994 583 rfl (by decide) (fun c => ?_) (fun c => ?_)
  · replace h := h.1 c
    exact h
  · replace h := h.2 c
    refine i_iconst 584 rfl (by decide) ?_
    exact i_zreturn 585 rfl rfl (by decide) h
set_option maxRecDepth 100000 in
theorem u_L_law_916 {l : Launch} {E : xE} (mc ms : Nat) (l3 : Int) {M : xM} {Q : Option xV → xM → Prop} (h : ((0 : Int) ≤ (x_w (l3 + 1)) ∧ ((x_w (l3 + 1)) : Int) < x_L E) ∧ ((0 : Int) ≤ (x_w (l3 + 2)) ∧ ((x_w (l3 + 2)) : Int) < x_L E) ∧ x_Ev l E (6, 0, 0) m_X10_openAt 0 [(20, 5), (0, (x_xs E ((x_w (l3 + 1))).toNat).toInt), (0, (x_xs E ((x_w (l3 + 2))).toNat).toInt), (5, 0), (5, 0), (5, 0)] [] M (fun r zM1 => ∃ zr2, r = some (0, zr2) ∧ ((0 : Int) ≤ (x_w (l3 + 1)) ∧ ((x_w (l3 + 1)) : Int) < x_L E) ∧ ((0 : Int) ≤ (x_w (l3 + 2)) ∧ ((x_w (l3 + 2)) : Int) < x_L E) ∧ x_Ev l E (11, 0, 0) m_X11_openAt 0 [(21, 103), (0, (x_xs E ((x_w (l3 + 1))).toNat).toInt), (0, (x_xs E ((x_w (l3 + 2))).toNat).toInt), (5, 0), (5, 0)] [] zM1 (fun r zM3 => ∃ zr4, r = some (0, zr4) ∧ (zr2 = zr4 → x_Ev l E (13, mc + 2, ms + 42) m_L_law 1994 [(180, 0), (20, 5), (21, 103), (0, l3)] [] zM3 Q) ∧ (¬ zr2 = zr4 → Q (some (0, 0)) zM3)))) : x_Ev l E (13, mc + 2, ms + 42) m_L_law 916 [(180, 0), (20, 5), (21, 103), (0, l3)] [] M Q := by
  refine i_aload_n 586 rfl rfl (by decide) ?_
  refine i_aload_n 587 rfl rfl (by decide) ?_
  refine i_iload_n 588 rfl rfl ?_
  refine i_iconst 589 rfl (by decide) ?_
  refine i_iadd 590 rfl ?_
  refine i_scr 591 rfl h.1.1 h.1.2 ?_
  replace h := h.2
  refine i_aload_n 592 rfl rfl (by decide) ?_
  refine i_iload_n 593 rfl rfl ?_
  refine i_iconst 594 rfl (by decide) ?_
  refine i_iadd 595 rfl ?_
  refine i_scr 596 rfl h.1.1 h.1.2 ?_
  replace h := h.2
  refine i_callV (c := 10) (y1 := m_X10_openAt) (z1 := (6, 0, 0)) (z2 := (13, mc + 2, ms + 42)) [(0, (x_xs E ((x_w (l3 + 1))).toNat).toInt), (0, (x_xs E ((x_w (l3 + 2))).toNat).toInt)] 597 rfl ml_694 ok_X10_openAt vk_X10_openAt ⟨by decide, rfl⟩ rfl ⟨rfl, Nat.le_of_ble_eq_true rfl⟩ (Nat.le_of_ble_eq_true rfl) ⟨Nat.le_of_ble_eq_true rfl, rfl, by dsimp only; omega, by dsimp only; omega⟩ ?_
  refine h.mono (fun r zM1 h => ?_)
  obtain ⟨zr2, rfl, h⟩ := h
  simp only [Option.toList_some, Option.toList_none, List.cons_append, List.nil_append]
  refine i_aload_n 598 rfl rfl (by decide) ?_
  refine i_aload_n 599 rfl rfl (by decide) ?_
  refine i_iload_n 600 rfl rfl ?_
  refine i_iconst 601 rfl (by decide) ?_
  refine i_iadd 602 rfl ?_
  refine i_scr 603 rfl h.1.1 h.1.2 ?_
  replace h := h.2
  refine i_aload_n 604 rfl rfl (by decide) ?_
  refine i_iload_n 605 rfl rfl ?_
  refine i_iconst 606 rfl (by decide) ?_
  refine i_iadd 607 rfl ?_
  refine i_scr 608 rfl h.1.1 h.1.2 ?_
  replace h := h.2
  refine i_callV (c := 11) (y1 := m_X11_openAt) (z1 := (11, 0, 0)) (z2 := (13, mc + 2, ms + 42)) [(0, (x_xs E ((x_w (l3 + 1))).toNat).toInt), (0, (x_xs E ((x_w (l3 + 2))).toNat).toInt)] 609 rfl ml_1517 ok_X11_openAt vk_X11_openAt ⟨by decide, rfl⟩ rfl ⟨rfl, Nat.le_of_ble_eq_true rfl⟩ (Nat.le_of_ble_eq_true rfl) ⟨Nat.le_of_ble_eq_true rfl, rfl, by dsimp only; omega, by dsimp only; omega⟩ ?_
  refine h.mono (fun r zM3 h => ?_)
  obtain ⟨zr4, rfl, h⟩ := h
  simp only [Option.toList_some, Option.toList_none, List.cons_append, List.nil_append]
  refine i_icmp_eq 1994 610 rfl (by decide) (fun c => ?_) (fun c => ?_)
  · replace h := h.1 c
    exact h
  · replace h := h.2 c
    refine i_iconst 611 rfl (by decide) ?_
    exact i_zreturn 612 rfl rfl (by decide) h
set_option maxRecDepth 100000 in
theorem u_L_law_949 {l : Launch} {E : xE} (mc ms : Nat) (l3 : Int) {M : xM} {Q : Option xV → xM → Prop} (h : ((0 : Int) ≤ (x_w (l3 + 1)) ∧ ((x_w (l3 + 1)) : Int) < x_L E) ∧ ((0 : Int) ≤ (x_w (l3 + 2)) ∧ ((x_w (l3 + 2)) : Int) < x_L E) ∧ x_Ev l E (6, 0, 0) m_X10_isOpen 0 [(20, 5), (0, (x_xs E ((x_w (l3 + 1))).toNat).toInt), (0, (x_xs E ((x_w (l3 + 2))).toNat).toInt)] [] M (fun r zM1 => ∃ zr2, r = some (0, zr2) ∧ ((0 : Int) ≤ (x_w (l3 + 1)) ∧ ((x_w (l3 + 1)) : Int) < x_L E) ∧ ((0 : Int) ≤ (x_w (l3 + 2)) ∧ ((x_w (l3 + 2)) : Int) < x_L E) ∧ x_Ev l E (11, 0, 0) m_X11_isOpen 0 [(21, 103), (0, (x_xs E ((x_w (l3 + 1))).toNat).toInt), (0, (x_xs E ((x_w (l3 + 2))).toNat).toInt)] [] zM1 (fun r zM3 => ∃ zr4, r = some (0, zr4) ∧ (zr2 = zr4 → x_Ev l E (13, mc + 2, ms + 42) m_L_law 1994 [(180, 0), (20, 5), (21, 103), (0, l3)] [] zM3 Q) ∧ (¬ zr2 = zr4 → Q (some (0, 0)) zM3)))) : x_Ev l E (13, mc + 2, ms + 42) m_L_law 949 [(180, 0), (20, 5), (21, 103), (0, l3)] [] M Q := by
  refine i_aload_n 613 rfl rfl (by decide) ?_
  refine i_aload_n 614 rfl rfl (by decide) ?_
  refine i_iload_n 615 rfl rfl ?_
  refine i_iconst 616 rfl (by decide) ?_
  refine i_iadd 617 rfl ?_
  refine i_scr 618 rfl h.1.1 h.1.2 ?_
  replace h := h.2
  refine i_aload_n 619 rfl rfl (by decide) ?_
  refine i_iload_n 620 rfl rfl ?_
  refine i_iconst 621 rfl (by decide) ?_
  refine i_iadd 622 rfl ?_
  refine i_scr 623 rfl h.1.1 h.1.2 ?_
  replace h := h.2
  refine i_callV (c := 10) (y1 := m_X10_isOpen) (z1 := (6, 0, 0)) (z2 := (13, mc + 2, ms + 42)) [(0, (x_xs E ((x_w (l3 + 1))).toNat).toInt), (0, (x_xs E ((x_w (l3 + 2))).toNat).toInt)] 624 rfl ml_698 ok_X10_isOpen vk_X10_isOpen ⟨by decide, rfl⟩ rfl ⟨rfl, Nat.le_of_ble_eq_true rfl⟩ (Nat.le_of_ble_eq_true rfl) ⟨Nat.le_of_ble_eq_true rfl, rfl, by dsimp only; omega, by dsimp only; omega⟩ ?_
  refine h.mono (fun r zM1 h => ?_)
  obtain ⟨zr2, rfl, h⟩ := h
  simp only [Option.toList_some, Option.toList_none, List.cons_append, List.nil_append]
  refine i_aload_n 625 rfl rfl (by decide) ?_
  refine i_aload_n 626 rfl rfl (by decide) ?_
  refine i_iload_n 627 rfl rfl ?_
  refine i_iconst 628 rfl (by decide) ?_
  refine i_iadd 629 rfl ?_
  refine i_scr 630 rfl h.1.1 h.1.2 ?_
  replace h := h.2
  refine i_aload_n 631 rfl rfl (by decide) ?_
  refine i_iload_n 632 rfl rfl ?_
  refine i_iconst 633 rfl (by decide) ?_
  refine i_iadd 634 rfl ?_
  refine i_scr 635 rfl h.1.1 h.1.2 ?_
  replace h := h.2
  refine i_callV (c := 11) (y1 := m_X11_isOpen) (z1 := (11, 0, 0)) (z2 := (13, mc + 2, ms + 42)) [(0, (x_xs E ((x_w (l3 + 1))).toNat).toInt), (0, (x_xs E ((x_w (l3 + 2))).toNat).toInt)] 636 rfl ml_1521 ok_X11_isOpen vk_X11_isOpen ⟨by decide, rfl⟩ rfl ⟨rfl, Nat.le_of_ble_eq_true rfl⟩ (Nat.le_of_ble_eq_true rfl) ⟨Nat.le_of_ble_eq_true rfl, rfl, by dsimp only; omega, by dsimp only; omega⟩ ?_
  refine h.mono (fun r zM3 h => ?_)
  obtain ⟨zr4, rfl, h⟩ := h
  simp only [Option.toList_some, Option.toList_none, List.cons_append, List.nil_append]
  refine i_icmp_eq 1994 637 rfl (by decide) (fun c => ?_) (fun c => ?_)
  · replace h := h.1 c
    exact h
  · replace h := h.2 c
    refine i_iconst 638 rfl (by decide) ?_
    exact i_zreturn 639 rfl rfl (by decide) h
set_option maxRecDepth 100000 in
theorem u_L_law_982 {l : Launch} {E : xE} (mc ms : Nat) (l3 : Int) {M : xM} {Q : Option xV → xM → Prop} (h : ((0 : Int) ≤ (x_w (l3 + 1)) ∧ ((x_w (l3 + 1)) : Int) < x_L E) ∧ ((0 : Int) ≤ (x_w (l3 + 2)) ∧ ((x_w (l3 + 2)) : Int) < x_L E) ∧ ((0 : Int) ≤ (x_w (l3 + 3)) ∧ ((x_w (l3 + 3)) : Int) < x_L E) ∧ x_Ev l E (6, 0, 0) m_X10_price 0 [(20, 5), (0, (x_xs E ((x_w (l3 + 1))).toNat).toInt), (0, (x_xs E ((x_w (l3 + 2))).toNat).toInt), (0, (x_xs E ((x_w (l3 + 3))).toNat).toInt)] [] M (fun r zM1 => ∃ zr2, r = some (1, zr2) ∧ ((0 : Int) ≤ (x_w (l3 + 1)) ∧ ((x_w (l3 + 1)) : Int) < x_L E) ∧ ((0 : Int) ≤ (x_w (l3 + 2)) ∧ ((x_w (l3 + 2)) : Int) < x_L E) ∧ ((0 : Int) ≤ (x_w (l3 + 3)) ∧ ((x_w (l3 + 3)) : Int) < x_L E) ∧ x_Ev l E (10, 0, 0) m_X11_price 0 [(21, 103), (0, (x_xs E ((x_w (l3 + 1))).toNat).toInt), (0, (x_xs E ((x_w (l3 + 2))).toNat).toInt), (0, (x_xs E ((x_w (l3 + 3))).toNat).toInt), (5, 0)] [] zM1 (fun r zM3 => ∃ zr4, r = some (1, zr4) ∧ (zr2 = zr4 → x_Ev l E (13, mc + 2, ms + 42) m_L_law 1994 [(180, 0), (20, 5), (21, 103), (0, l3)] [] zM3 Q) ∧ (¬ zr2 = zr4 → Q (some (0, 0)) zM3)))) : x_Ev l E (13, mc + 2, ms + 42) m_L_law 982 [(180, 0), (20, 5), (21, 103), (0, l3)] [] M Q := by
  refine i_aload_n 640 rfl rfl (by decide) ?_
  refine i_aload_n 641 rfl rfl (by decide) ?_
  refine i_iload_n 642 rfl rfl ?_
  refine i_iconst 643 rfl (by decide) ?_
  refine i_iadd 644 rfl ?_
  refine i_scr 645 rfl h.1.1 h.1.2 ?_
  replace h := h.2
  refine i_aload_n 646 rfl rfl (by decide) ?_
  refine i_iload_n 647 rfl rfl ?_
  refine i_iconst 648 rfl (by decide) ?_
  refine i_iadd 649 rfl ?_
  refine i_scr 650 rfl h.1.1 h.1.2 ?_
  replace h := h.2
  refine i_aload_n 651 rfl rfl (by decide) ?_
  refine i_iload_n 652 rfl rfl ?_
  refine i_iconst 653 rfl (by decide) ?_
  refine i_iadd 654 rfl ?_
  refine i_scr 655 rfl h.1.1 h.1.2 ?_
  replace h := h.2
  refine i_callV (c := 10) (y1 := m_X10_price) (z1 := (6, 0, 0)) (z2 := (13, mc + 2, ms + 42)) [(0, (x_xs E ((x_w (l3 + 1))).toNat).toInt), (0, (x_xs E ((x_w (l3 + 2))).toNat).toInt), (0, (x_xs E ((x_w (l3 + 3))).toNat).toInt)] 656 rfl ml_702 ok_X10_price vk_X10_price ⟨by decide, rfl⟩ rfl ⟨rfl, Nat.le_of_ble_eq_true rfl⟩ (Nat.le_of_ble_eq_true rfl) ⟨Nat.le_of_ble_eq_true rfl, rfl, by dsimp only; omega, by dsimp only; omega⟩ ?_
  refine h.mono (fun r zM1 h => ?_)
  obtain ⟨zr2, rfl, h⟩ := h
  simp only [Option.toList_some, Option.toList_none, List.cons_append, List.nil_append]
  refine i_aload_n 657 rfl rfl (by decide) ?_
  refine i_aload_n 658 rfl rfl (by decide) ?_
  refine i_iload_n 659 rfl rfl ?_
  refine i_iconst 660 rfl (by decide) ?_
  refine i_iadd 661 rfl ?_
  refine i_scr 662 rfl h.1.1 h.1.2 ?_
  replace h := h.2
  refine i_aload_n 663 rfl rfl (by decide) ?_
  refine i_iload_n 664 rfl rfl ?_
  refine i_iconst 665 rfl (by decide) ?_
  refine i_iadd 666 rfl ?_
  refine i_scr 667 rfl h.1.1 h.1.2 ?_
  replace h := h.2
  refine i_aload_n 668 rfl rfl (by decide) ?_
  refine i_iload_n 669 rfl rfl ?_
  refine i_iconst 670 rfl (by decide) ?_
  refine i_iadd 671 rfl ?_
  refine i_scr 672 rfl h.1.1 h.1.2 ?_
  replace h := h.2
  refine i_callV (c := 11) (y1 := m_X11_price) (z1 := (10, 0, 0)) (z2 := (13, mc + 2, ms + 42)) [(0, (x_xs E ((x_w (l3 + 1))).toNat).toInt), (0, (x_xs E ((x_w (l3 + 2))).toNat).toInt), (0, (x_xs E ((x_w (l3 + 3))).toNat).toInt)] 673 rfl ml_1525 ok_X11_price vk_X11_price ⟨by decide, rfl⟩ rfl ⟨rfl, Nat.le_of_ble_eq_true rfl⟩ (Nat.le_of_ble_eq_true rfl) ⟨Nat.le_of_ble_eq_true rfl, rfl, by dsimp only; omega, by dsimp only; omega⟩ ?_
  refine h.mono (fun r zM3 h => ?_)
  obtain ⟨zr4, rfl, h⟩ := h
  simp only [Option.toList_some, Option.toList_none, List.cons_append, List.nil_append]
  refine i_lcmp_eq 1994 674 rfl rfl (by decide) (fun c => ?_) (fun c => ?_)
  · replace h := h.1 c
    exact h
  · replace h := h.2 c
    refine i_iconst 676 rfl (by decide) ?_
    exact i_zreturn 677 rfl rfl (by decide) h
set_option maxRecDepth 100000 in
theorem u_L_law_1026 {l : Launch} {E : xE} (mc ms : Nat) (l3 : Int) {M : xM} {Q : Option xV → xM → Prop} (h : ((0 : Int) ≤ (x_w (l3 + 1)) ∧ ((x_w (l3 + 1)) : Int) < x_L E) ∧ ((0 : Int) ≤ (x_w (l3 + 2)) ∧ ((x_w (l3 + 2)) : Int) < x_L E) ∧ x_Ev l E (6, 0, 0) m_X10_weigh 0 [(20, 5), (0, (x_xs E ((x_w (l3 + 1))).toNat).toInt), (0, (x_xs E ((x_w (l3 + 2))).toNat).toInt), (5, 0), (5, 0), (5, 0)] [] M (fun r zM1 => ∃ zr2, r = some (0, zr2) ∧ ((0 : Int) ≤ (x_w (l3 + 1)) ∧ ((x_w (l3 + 1)) : Int) < x_L E) ∧ ((0 : Int) ≤ (x_w (l3 + 2)) ∧ ((x_w (l3 + 2)) : Int) < x_L E) ∧ x_Ev l E (11, 0, 0) m_X11_weigh 0 [(21, 103), (0, (x_xs E ((x_w (l3 + 1))).toNat).toInt), (0, (x_xs E ((x_w (l3 + 2))).toNat).toInt)] [] zM1 (fun r zM3 => ∃ zr4, r = some (0, zr4) ∧ (zr2 = zr4 → x_Ev l E (13, mc + 2, ms + 42) m_L_law 1994 [(180, 0), (20, 5), (21, 103), (0, l3)] [] zM3 Q) ∧ (¬ zr2 = zr4 → Q (some (0, 0)) zM3)))) : x_Ev l E (13, mc + 2, ms + 42) m_L_law 1026 [(180, 0), (20, 5), (21, 103), (0, l3)] [] M Q := by
  refine i_aload_n 678 rfl rfl (by decide) ?_
  refine i_aload_n 679 rfl rfl (by decide) ?_
  refine i_iload_n 680 rfl rfl ?_
  refine i_iconst 681 rfl (by decide) ?_
  refine i_iadd 682 rfl ?_
  refine i_scr 683 rfl h.1.1 h.1.2 ?_
  replace h := h.2
  refine i_aload_n 684 rfl rfl (by decide) ?_
  refine i_iload_n 685 rfl rfl ?_
  refine i_iconst 686 rfl (by decide) ?_
  refine i_iadd 687 rfl ?_
  refine i_scr 688 rfl h.1.1 h.1.2 ?_
  replace h := h.2
  refine i_callV (c := 10) (y1 := m_X10_weigh) (z1 := (6, 0, 0)) (z2 := (13, mc + 2, ms + 42)) [(0, (x_xs E ((x_w (l3 + 1))).toNat).toInt), (0, (x_xs E ((x_w (l3 + 2))).toNat).toInt)] 689 rfl ml_711 ok_X10_weigh vk_X10_weigh ⟨by decide, rfl⟩ rfl ⟨rfl, Nat.le_of_ble_eq_true rfl⟩ (Nat.le_of_ble_eq_true rfl) ⟨Nat.le_of_ble_eq_true rfl, rfl, by dsimp only; omega, by dsimp only; omega⟩ ?_
  refine h.mono (fun r zM1 h => ?_)
  obtain ⟨zr2, rfl, h⟩ := h
  simp only [Option.toList_some, Option.toList_none, List.cons_append, List.nil_append]
  refine i_aload_n 690 rfl rfl (by decide) ?_
  refine i_aload_n 691 rfl rfl (by decide) ?_
  refine i_iload_n 692 rfl rfl ?_
  refine i_iconst 693 rfl (by decide) ?_
  refine i_iadd 694 rfl ?_
  refine i_scr 695 rfl h.1.1 h.1.2 ?_
  replace h := h.2
  refine i_aload_n 696 rfl rfl (by decide) ?_
  refine i_iload_n 697 rfl rfl ?_
  refine i_iconst 698 rfl (by decide) ?_
  refine i_iadd 699 rfl ?_
  refine i_scr 700 rfl h.1.1 h.1.2 ?_
  replace h := h.2
  refine i_callV (c := 11) (y1 := m_X11_weigh) (z1 := (11, 0, 0)) (z2 := (13, mc + 2, ms + 42)) [(0, (x_xs E ((x_w (l3 + 1))).toNat).toInt), (0, (x_xs E ((x_w (l3 + 2))).toNat).toInt)] 701 rfl ml_1537 ok_X11_weigh vk_X11_weigh ⟨by decide, rfl⟩ rfl ⟨rfl, Nat.le_of_ble_eq_true rfl⟩ (Nat.le_of_ble_eq_true rfl) ⟨Nat.le_of_ble_eq_true rfl, rfl, by dsimp only; omega, by dsimp only; omega⟩ ?_
  refine h.mono (fun r zM3 h => ?_)
  obtain ⟨zr4, rfl, h⟩ := h
  simp only [Option.toList_some, Option.toList_none, List.cons_append, List.nil_append]
  refine i_icmp_eq 1994 702 rfl (by decide) (fun c => ?_) (fun c => ?_)
  · replace h := h.1 c
    exact h
  · replace h := h.2 c
    refine i_iconst 703 rfl (by decide) ?_
    exact i_zreturn 704 rfl rfl (by decide) h
set_option maxRecDepth 100000 in
theorem u_L_law_1059 {l : Launch} {E : xE} (mc ms : Nat) (l3 : Int) {M : xM} {Q : Option xV → xM → Prop} (h : ((0 : Int) ≤ (x_w (l3 + 1)) ∧ ((x_w (l3 + 1)) : Int) < x_L E) ∧ x_Ev l E (6, 0, 0) m_X10_breaks 0 [(20, 5), (0, (x_xs E ((x_w (l3 + 1))).toNat).toInt)] [] M (fun r zM1 => ∃ zr2, r = some (0, zr2) ∧ ((0 : Int) ≤ (x_w (l3 + 1)) ∧ ((x_w (l3 + 1)) : Int) < x_L E) ∧ x_Ev l E (11, 0, 0) m_X11_breaks 0 [(21, 103), (0, (x_xs E ((x_w (l3 + 1))).toNat).toInt)] [] zM1 (fun r zM3 => ∃ zr4, r = some (0, zr4) ∧ (zr2 = zr4 → x_Ev l E (13, mc + 2, ms + 42) m_L_law 1994 [(180, 0), (20, 5), (21, 103), (0, l3)] [] zM3 Q) ∧ (¬ zr2 = zr4 → Q (some (0, 0)) zM3)))) : x_Ev l E (13, mc + 2, ms + 42) m_L_law 1059 [(180, 0), (20, 5), (21, 103), (0, l3)] [] M Q := by
  refine i_aload_n 705 rfl rfl (by decide) ?_
  refine i_aload_n 706 rfl rfl (by decide) ?_
  refine i_iload_n 707 rfl rfl ?_
  refine i_iconst 708 rfl (by decide) ?_
  refine i_iadd 709 rfl ?_
  refine i_scr 710 rfl h.1.1 h.1.2 ?_
  replace h := h.2
  refine i_callV (c := 10) (y1 := m_X10_breaks) (z1 := (6, 0, 0)) (z2 := (13, mc + 2, ms + 42)) [(0, (x_xs E ((x_w (l3 + 1))).toNat).toInt)] 711 rfl ml_742 ok_X10_breaks vk_X10_breaks ⟨by decide, rfl⟩ rfl ⟨rfl, Nat.le_of_ble_eq_true rfl⟩ (Nat.le_of_ble_eq_true rfl) ⟨Nat.le_of_ble_eq_true rfl, rfl, by dsimp only; omega, by dsimp only; omega⟩ ?_
  refine h.mono (fun r zM1 h => ?_)
  obtain ⟨zr2, rfl, h⟩ := h
  simp only [Option.toList_some, Option.toList_none, List.cons_append, List.nil_append]
  refine i_aload_n 712 rfl rfl (by decide) ?_
  refine i_aload_n 713 rfl rfl (by decide) ?_
  refine i_iload_n 714 rfl rfl ?_
  refine i_iconst 715 rfl (by decide) ?_
  refine i_iadd 716 rfl ?_
  refine i_scr 717 rfl h.1.1 h.1.2 ?_
  replace h := h.2
  refine i_callV (c := 11) (y1 := m_X11_breaks) (z1 := (11, 0, 0)) (z2 := (13, mc + 2, ms + 42)) [(0, (x_xs E ((x_w (l3 + 1))).toNat).toInt)] 718 rfl ml_1562 ok_X11_breaks vk_X11_breaks ⟨by decide, rfl⟩ rfl ⟨rfl, Nat.le_of_ble_eq_true rfl⟩ (Nat.le_of_ble_eq_true rfl) ⟨Nat.le_of_ble_eq_true rfl, rfl, by dsimp only; omega, by dsimp only; omega⟩ ?_
  refine h.mono (fun r zM3 h => ?_)
  obtain ⟨zr4, rfl, h⟩ := h
  simp only [Option.toList_some, Option.toList_none, List.cons_append, List.nil_append]
  refine i_icmp_eq 1994 719 rfl (by decide) (fun c => ?_) (fun c => ?_)
  · replace h := h.1 c
    exact h
  · replace h := h.2 c
    refine i_iconst 720 rfl (by decide) ?_
    exact i_zreturn 721 rfl rfl (by decide) h
set_option maxRecDepth 100000 in
theorem u_L_law_1082 {l : Launch} {E : xE} (mc ms : Nat) (l3 : Int) {M : xM} {Q : Option xV → xM → Prop} (h : ((0 : Int) ≤ (x_w (l3 + 1)) ∧ ((x_w (l3 + 1)) : Int) < x_L E) ∧ ((0 : Int) ≤ (x_w (l3 + 2)) ∧ ((x_w (l3 + 2)) : Int) < x_L E) ∧ ((0 : Int) ≤ (x_w (l3 + 3)) ∧ ((x_w (l3 + 3)) : Int) < x_L E) ∧ x_Ev l E (6, 0, 0) m_X10_breakAt 0 [(20, 5), (0, (x_xs E ((x_w (l3 + 1))).toNat).toInt), (0, (x_xs E ((x_w (l3 + 2))).toNat).toInt), (0, (x_xs E ((x_w (l3 + 3))).toNat).toInt)] [] M (fun r zM1 => ∃ zr2, r = some (1, zr2) ∧ ((0 : Int) ≤ (x_w (l3 + 1)) ∧ ((x_w (l3 + 1)) : Int) < x_L E) ∧ ((0 : Int) ≤ (x_w (l3 + 2)) ∧ ((x_w (l3 + 2)) : Int) < x_L E) ∧ ((0 : Int) ≤ (x_w (l3 + 3)) ∧ ((x_w (l3 + 3)) : Int) < x_L E) ∧ x_Ev l E (11, 0, 0) m_X11_breakAt 0 [(21, 103), (0, (x_xs E ((x_w (l3 + 1))).toNat).toInt), (0, (x_xs E ((x_w (l3 + 2))).toNat).toInt), (0, (x_xs E ((x_w (l3 + 3))).toNat).toInt)] [] zM1 (fun r zM3 => ∃ zr4, r = some (1, zr4) ∧ (zr2 = zr4 → x_Ev l E (13, mc + 2, ms + 42) m_L_law 1994 [(180, 0), (20, 5), (21, 103), (0, l3)] [] zM3 Q) ∧ (¬ zr2 = zr4 → Q (some (0, 0)) zM3)))) : x_Ev l E (13, mc + 2, ms + 42) m_L_law 1082 [(180, 0), (20, 5), (21, 103), (0, l3)] [] M Q := by
  refine i_aload_n 722 rfl rfl (by decide) ?_
  refine i_aload_n 723 rfl rfl (by decide) ?_
  refine i_iload_n 724 rfl rfl ?_
  refine i_iconst 725 rfl (by decide) ?_
  refine i_iadd 726 rfl ?_
  refine i_scr 727 rfl h.1.1 h.1.2 ?_
  replace h := h.2
  refine i_aload_n 728 rfl rfl (by decide) ?_
  refine i_iload_n 729 rfl rfl ?_
  refine i_iconst 730 rfl (by decide) ?_
  refine i_iadd 731 rfl ?_
  refine i_scr 732 rfl h.1.1 h.1.2 ?_
  replace h := h.2
  refine i_aload_n 733 rfl rfl (by decide) ?_
  refine i_iload_n 734 rfl rfl ?_
  refine i_iconst 735 rfl (by decide) ?_
  refine i_iadd 736 rfl ?_
  refine i_scr 737 rfl h.1.1 h.1.2 ?_
  replace h := h.2
  refine i_callV (c := 10) (y1 := m_X10_breakAt) (z1 := (6, 0, 0)) (z2 := (13, mc + 2, ms + 42)) [(0, (x_xs E ((x_w (l3 + 1))).toNat).toInt), (0, (x_xs E ((x_w (l3 + 2))).toNat).toInt), (0, (x_xs E ((x_w (l3 + 3))).toNat).toInt)] 738 rfl ml_779 ok_X10_breakAt vk_X10_breakAt ⟨by decide, rfl⟩ rfl ⟨rfl, Nat.le_of_ble_eq_true rfl⟩ (Nat.le_of_ble_eq_true rfl) ⟨Nat.le_of_ble_eq_true rfl, rfl, by dsimp only; omega, by dsimp only; omega⟩ ?_
  refine h.mono (fun r zM1 h => ?_)
  obtain ⟨zr2, rfl, h⟩ := h
  simp only [Option.toList_some, Option.toList_none, List.cons_append, List.nil_append]
  refine i_aload_n 739 rfl rfl (by decide) ?_
  refine i_aload_n 740 rfl rfl (by decide) ?_
  refine i_iload_n 741 rfl rfl ?_
  refine i_iconst 742 rfl (by decide) ?_
  refine i_iadd 743 rfl ?_
  refine i_scr 744 rfl h.1.1 h.1.2 ?_
  replace h := h.2
  refine i_aload_n 745 rfl rfl (by decide) ?_
  refine i_iload_n 746 rfl rfl ?_
  refine i_iconst 747 rfl (by decide) ?_
  refine i_iadd 748 rfl ?_
  refine i_scr 749 rfl h.1.1 h.1.2 ?_
  replace h := h.2
  refine i_aload_n 750 rfl rfl (by decide) ?_
  refine i_iload_n 751 rfl rfl ?_
  refine i_iconst 752 rfl (by decide) ?_
  refine i_iadd 753 rfl ?_
  refine i_scr 754 rfl h.1.1 h.1.2 ?_
  replace h := h.2
  refine i_callV (c := 11) (y1 := m_X11_breakAt) (z1 := (11, 0, 0)) (z2 := (13, mc + 2, ms + 42)) [(0, (x_xs E ((x_w (l3 + 1))).toNat).toInt), (0, (x_xs E ((x_w (l3 + 2))).toNat).toInt), (0, (x_xs E ((x_w (l3 + 3))).toNat).toInt)] 755 rfl ml_1582 ok_X11_breakAt vk_X11_breakAt ⟨by decide, rfl⟩ rfl ⟨rfl, Nat.le_of_ble_eq_true rfl⟩ (Nat.le_of_ble_eq_true rfl) ⟨Nat.le_of_ble_eq_true rfl, rfl, by dsimp only; omega, by dsimp only; omega⟩ ?_
  refine h.mono (fun r zM3 h => ?_)
  obtain ⟨zr4, rfl, h⟩ := h
  simp only [Option.toList_some, Option.toList_none, List.cons_append, List.nil_append]
  refine i_lcmp_eq 1994 756 rfl rfl (by decide) (fun c => ?_) (fun c => ?_)
  · replace h := h.1 c
    exact h
  · replace h := h.2 c
    refine i_iconst 758 rfl (by decide) ?_
    exact i_zreturn 759 rfl rfl (by decide) h
set_option maxRecDepth 100000 in
theorem u_L_law_1126 {l : Launch} {E : xE} (mc ms : Nat) (l3 : Int) {M : xM} {Q : Option xV → xM → Prop} (h : ((0 : Int) ≤ (x_w (l3 + 1)) ∧ ((x_w (l3 + 1)) : Int) < x_L E) ∧ ((0 : Int) ≤ (x_w (l3 + 2)) ∧ ((x_w (l3 + 2)) : Int) < x_L E) ∧ x_Ev l E (6, 0, 0) m_X10_piece 0 [(20, 5), (0, (x_xs E ((x_w (l3 + 1))).toNat).toInt), (0, (x_xs E ((x_w (l3 + 2))).toNat).toInt)] [] M (fun r zM1 => ∃ zr2, r = some (1, zr2) ∧ ((0 : Int) ≤ (x_w (l3 + 1)) ∧ ((x_w (l3 + 1)) : Int) < x_L E) ∧ ((0 : Int) ≤ (x_w (l3 + 2)) ∧ ((x_w (l3 + 2)) : Int) < x_L E) ∧ x_Ev l E (11, 0, 0) m_X11_piece 0 [(21, 103), (0, (x_xs E ((x_w (l3 + 1))).toNat).toInt), (0, (x_xs E ((x_w (l3 + 2))).toNat).toInt)] [] zM1 (fun r zM3 => ∃ zr4, r = some (1, zr4) ∧ (zr2 = zr4 → x_Ev l E (13, mc + 2, ms + 42) m_L_law 1994 [(180, 0), (20, 5), (21, 103), (0, l3)] [] zM3 Q) ∧ (¬ zr2 = zr4 → Q (some (0, 0)) zM3)))) : x_Ev l E (13, mc + 2, ms + 42) m_L_law 1126 [(180, 0), (20, 5), (21, 103), (0, l3)] [] M Q := by
  refine i_aload_n 760 rfl rfl (by decide) ?_
  refine i_aload_n 761 rfl rfl (by decide) ?_
  refine i_iload_n 762 rfl rfl ?_
  refine i_iconst 763 rfl (by decide) ?_
  refine i_iadd 764 rfl ?_
  refine i_scr 765 rfl h.1.1 h.1.2 ?_
  replace h := h.2
  refine i_aload_n 766 rfl rfl (by decide) ?_
  refine i_iload_n 767 rfl rfl ?_
  refine i_iconst 768 rfl (by decide) ?_
  refine i_iadd 769 rfl ?_
  refine i_scr 770 rfl h.1.1 h.1.2 ?_
  replace h := h.2
  refine i_callV (c := 10) (y1 := m_X10_piece) (z1 := (6, 0, 0)) (z2 := (13, mc + 2, ms + 42)) [(0, (x_xs E ((x_w (l3 + 1))).toNat).toInt), (0, (x_xs E ((x_w (l3 + 2))).toNat).toInt)] 771 rfl ml_783 ok_X10_piece vk_X10_piece ⟨by decide, rfl⟩ rfl ⟨rfl, Nat.le_of_ble_eq_true rfl⟩ (Nat.le_of_ble_eq_true rfl) ⟨Nat.le_of_ble_eq_true rfl, rfl, by dsimp only; omega, by dsimp only; omega⟩ ?_
  refine h.mono (fun r zM1 h => ?_)
  obtain ⟨zr2, rfl, h⟩ := h
  simp only [Option.toList_some, Option.toList_none, List.cons_append, List.nil_append]
  refine i_aload_n 772 rfl rfl (by decide) ?_
  refine i_aload_n 773 rfl rfl (by decide) ?_
  refine i_iload_n 774 rfl rfl ?_
  refine i_iconst 775 rfl (by decide) ?_
  refine i_iadd 776 rfl ?_
  refine i_scr 777 rfl h.1.1 h.1.2 ?_
  replace h := h.2
  refine i_aload_n 778 rfl rfl (by decide) ?_
  refine i_iload_n 779 rfl rfl ?_
  refine i_iconst 780 rfl (by decide) ?_
  refine i_iadd 781 rfl ?_
  refine i_scr 782 rfl h.1.1 h.1.2 ?_
  replace h := h.2
  refine i_callV (c := 11) (y1 := m_X11_piece) (z1 := (11, 0, 0)) (z2 := (13, mc + 2, ms + 42)) [(0, (x_xs E ((x_w (l3 + 1))).toNat).toInt), (0, (x_xs E ((x_w (l3 + 2))).toNat).toInt)] 783 rfl ml_1586 ok_X11_piece vk_X11_piece ⟨by decide, rfl⟩ rfl ⟨rfl, Nat.le_of_ble_eq_true rfl⟩ (Nat.le_of_ble_eq_true rfl) ⟨Nat.le_of_ble_eq_true rfl, rfl, by dsimp only; omega, by dsimp only; omega⟩ ?_
  refine h.mono (fun r zM3 h => ?_)
  obtain ⟨zr4, rfl, h⟩ := h
  simp only [Option.toList_some, Option.toList_none, List.cons_append, List.nil_append]
  refine i_lcmp_eq 1994 784 rfl rfl (by decide) (fun c => ?_) (fun c => ?_)
  · replace h := h.1 c
    exact h
  · replace h := h.2 c
    refine i_iconst 786 rfl (by decide) ?_
    exact i_zreturn 787 rfl rfl (by decide) h
set_option maxRecDepth 100000 in
theorem u_L_law_1160 {l : Launch} {E : xE} (mc ms : Nat) (l3 : Int) {M : xM} {Q : Option xV → xM → Prop} (h : ((0 : Int) ≤ (x_w (l3 + 1)) ∧ ((x_w (l3 + 1)) : Int) < x_L E) ∧ x_Ev l E (7, 0, 0) m_X10_best 0 [(20, 5), (0, (x_xs E ((x_w (l3 + 1))).toNat).toInt)] [] M (fun r zM1 => ∃ zr2, r = some (1, zr2) ∧ ((0 : Int) ≤ (x_w (l3 + 1)) ∧ ((x_w (l3 + 1)) : Int) < x_L E) ∧ x_Ev l E (11, 1, 5) m_X11_best 0 [(21, 103), (0, (x_xs E ((x_w (l3 + 1))).toNat).toInt)] [] zM1 (fun r zM3 => ∃ zr4, r = some (1, zr4) ∧ (zr2 = zr4 → x_Ev l E (13, mc + 1, ms + 37) m_L_law 1994 [(180, 0), (20, 5), (21, 103), (0, l3)] [] zM3 Q) ∧ (¬ zr2 = zr4 → Q (some (0, 0)) zM3)))) : x_Ev l E (13, mc + 2, ms + 42) m_L_law 1160 [(180, 0), (20, 5), (21, 103), (0, l3)] [] M Q := by
  refine i_aload_n 788 rfl rfl (by decide) ?_
  refine i_aload_n 789 rfl rfl (by decide) ?_
  refine i_iload_n 790 rfl rfl ?_
  refine i_iconst 791 rfl (by decide) ?_
  refine i_iadd 792 rfl ?_
  refine i_scr 793 rfl h.1.1 h.1.2 ?_
  replace h := h.2
  refine i_callV (c := 10) (y1 := m_X10_best) (z1 := (7, 0, 0)) (z2 := (13, mc + 2, ms + 42)) [(0, (x_xs E ((x_w (l3 + 1))).toNat).toInt)] 794 rfl ml_797 ok_X10_best vk_X10_best ⟨by decide, rfl⟩ rfl ⟨rfl, Nat.le_of_ble_eq_true rfl⟩ (Nat.le_of_ble_eq_true rfl) ⟨Nat.le_of_ble_eq_true rfl, rfl, by dsimp only; omega, by dsimp only; omega⟩ ?_
  refine h.mono (fun r zM1 h => ?_)
  obtain ⟨zr2, rfl, h⟩ := h
  simp only [Option.toList_some, Option.toList_none, List.cons_append, List.nil_append]
  refine i_aload_n 795 rfl rfl (by decide) ?_
  refine i_aload_n 796 rfl rfl (by decide) ?_
  refine i_iload_n 797 rfl rfl ?_
  refine i_iconst 798 rfl (by decide) ?_
  refine i_iadd 799 rfl ?_
  refine i_scr 800 rfl h.1.1 h.1.2 ?_
  replace h := h.2
  refine i_callV (c := 11) (y1 := m_X11_best) (z1 := (11, 1, 5)) (z2 := (13, mc + 1, ms + 37)) [(0, (x_xs E ((x_w (l3 + 1))).toNat).toInt)] 801 rfl ml_1607 ok_X11_best vk_X11_best ⟨by decide, rfl⟩ rfl ⟨rfl, Nat.le_of_ble_eq_true rfl⟩ (Nat.le_of_ble_eq_true rfl) ⟨Nat.le_of_ble_eq_true rfl, rfl, by dsimp only; omega, by dsimp only; omega⟩ ?_
  refine h.mono (fun r zM3 h => ?_)
  obtain ⟨zr4, rfl, h⟩ := h
  simp only [Option.toList_some, Option.toList_none, List.cons_append, List.nil_append]
  refine i_lcmp_eq 1994 802 rfl rfl (by decide) (fun c => ?_) (fun c => ?_)
  · replace h := h.1 c
    exact h
  · replace h := h.2 c
    refine i_iconst 804 rfl (by decide) ?_
    exact i_zreturn 805 rfl rfl (by decide) h
set_option maxRecDepth 100000 in
theorem u_L_law_1184 {l : Launch} {E : xE} (mc ms : Nat) (l3 : Int) {M : xM} {Q : Option xV → xM → Prop} (h : ((0 : Int) ≤ (x_w (l3 + 1)) ∧ ((x_w (l3 + 1)) : Int) < x_L E) ∧ ((0 : Int) ≤ (x_w (l3 + 2)) ∧ ((x_w (l3 + 2)) : Int) < x_L E) ∧ x_Ev l E (7, 0, 0) m_X10_asKind 0 [(20, 5), (0, (x_xs E ((x_w (l3 + 1))).toNat).toInt), (0, (x_xs E ((x_w (l3 + 2))).toNat).toInt), (5, 0)] [] M (fun r zM1 => ∃ zr2, r = some (1, zr2) ∧ ((0 : Int) ≤ (x_w (l3 + 1)) ∧ ((x_w (l3 + 1)) : Int) < x_L E) ∧ ((0 : Int) ≤ (x_w (l3 + 2)) ∧ ((x_w (l3 + 2)) : Int) < x_L E) ∧ x_Ev l E (11, 2, 8) m_X11_asKind 0 [(21, 103), (0, (x_xs E ((x_w (l3 + 1))).toNat).toInt), (0, (x_xs E ((x_w (l3 + 2))).toNat).toInt), (5, 0), (5, 0)] [] zM1 (fun r zM3 => ∃ zr4, r = some (1, zr4) ∧ (zr2 = zr4 → x_Ev l E (13, mc + 0, ms + 34) m_L_law 1994 [(180, 0), (20, 5), (21, 103), (0, l3)] [] zM3 Q) ∧ (¬ zr2 = zr4 → Q (some (0, 0)) zM3)))) : x_Ev l E (13, mc + 2, ms + 42) m_L_law 1184 [(180, 0), (20, 5), (21, 103), (0, l3)] [] M Q := by
  refine i_aload_n 806 rfl rfl (by decide) ?_
  refine i_aload_n 807 rfl rfl (by decide) ?_
  refine i_iload_n 808 rfl rfl ?_
  refine i_iconst 809 rfl (by decide) ?_
  refine i_iadd 810 rfl ?_
  refine i_scr 811 rfl h.1.1 h.1.2 ?_
  replace h := h.2
  refine i_aload_n 812 rfl rfl (by decide) ?_
  refine i_iload_n 813 rfl rfl ?_
  refine i_iconst 814 rfl (by decide) ?_
  refine i_iadd 815 rfl ?_
  refine i_scr 816 rfl h.1.1 h.1.2 ?_
  replace h := h.2
  refine i_callV (c := 10) (y1 := m_X10_asKind) (z1 := (7, 0, 0)) (z2 := (13, mc + 2, ms + 42)) [(0, (x_xs E ((x_w (l3 + 1))).toNat).toInt), (0, (x_xs E ((x_w (l3 + 2))).toNat).toInt)] 817 rfl ml_824 ok_X10_asKind vk_X10_asKind ⟨by decide, rfl⟩ rfl ⟨rfl, Nat.le_of_ble_eq_true rfl⟩ (Nat.le_of_ble_eq_true rfl) ⟨Nat.le_of_ble_eq_true rfl, rfl, by dsimp only; omega, by dsimp only; omega⟩ ?_
  refine h.mono (fun r zM1 h => ?_)
  obtain ⟨zr2, rfl, h⟩ := h
  simp only [Option.toList_some, Option.toList_none, List.cons_append, List.nil_append]
  refine i_aload_n 818 rfl rfl (by decide) ?_
  refine i_aload_n 819 rfl rfl (by decide) ?_
  refine i_iload_n 820 rfl rfl ?_
  refine i_iconst 821 rfl (by decide) ?_
  refine i_iadd 822 rfl ?_
  refine i_scr 823 rfl h.1.1 h.1.2 ?_
  replace h := h.2
  refine i_aload_n 824 rfl rfl (by decide) ?_
  refine i_iload_n 825 rfl rfl ?_
  refine i_iconst 826 rfl (by decide) ?_
  refine i_iadd 827 rfl ?_
  refine i_scr 828 rfl h.1.1 h.1.2 ?_
  replace h := h.2
  refine i_callV (c := 11) (y1 := m_X11_asKind) (z1 := (11, 2, 8)) (z2 := (13, mc + 0, ms + 34)) [(0, (x_xs E ((x_w (l3 + 1))).toNat).toInt), (0, (x_xs E ((x_w (l3 + 2))).toNat).toInt)] 829 rfl ml_1620 ok_X11_asKind vk_X11_asKind ⟨by decide, rfl⟩ rfl ⟨rfl, Nat.le_of_ble_eq_true rfl⟩ (Nat.le_of_ble_eq_true rfl) ⟨Nat.le_of_ble_eq_true rfl, rfl, by dsimp only; omega, by dsimp only; omega⟩ ?_
  refine h.mono (fun r zM3 h => ?_)
  obtain ⟨zr4, rfl, h⟩ := h
  simp only [Option.toList_some, Option.toList_none, List.cons_append, List.nil_append]
  refine i_lcmp_eq 1994 830 rfl rfl (by decide) (fun c => ?_) (fun c => ?_)
  · replace h := h.1 c
    exact h
  · replace h := h.2 c
    refine i_iconst 832 rfl (by decide) ?_
    exact i_zreturn 833 rfl rfl (by decide) h
set_option maxRecDepth 100000 in
theorem u_L_law_1218 {l : Launch} {E : xE} (mc ms : Nat) (l3 : Int) {M : xM} {Q : Option xV → xM → Prop} (h : x_Ev l E (7, 0, 0) m_X10_settle 0 [(20, 5)] [] M (fun r zM1 => ∃ zr2, r = some (0, zr2) ∧ x_Ev l E (11, 0, 0) m_X11_settle 0 [(21, 103)] [] zM1 (fun r zM3 => ∃ zr4, r = some (0, zr4) ∧ (zr2 = zr4 → x_Ev l E (13, mc + 2, ms + 42) m_L_law 1994 [(180, 0), (20, 5), (21, 103), (0, l3)] [] zM3 Q) ∧ (¬ zr2 = zr4 → Q (some (0, 0)) zM3)))) : x_Ev l E (13, mc + 2, ms + 42) m_L_law 1218 [(180, 0), (20, 5), (21, 103), (0, l3)] [] M Q := by
  refine i_aload_n 834 rfl rfl (by decide) ?_
  refine i_callV (c := 10) (y1 := m_X10_settle) (z1 := (7, 0, 0)) (z2 := (13, mc + 2, ms + 42)) [] 835 rfl ml_828 ok_X10_settle vk_X10_settle ⟨by decide, rfl⟩ rfl ⟨rfl, Nat.le_of_ble_eq_true rfl⟩ (Nat.le_of_ble_eq_true rfl) ⟨Nat.le_of_ble_eq_true rfl, rfl, by dsimp only; omega, by dsimp only; omega⟩ ?_
  refine h.mono (fun r zM1 h => ?_)
  obtain ⟨zr2, rfl, h⟩ := h
  simp only [Option.toList_some, Option.toList_none, List.cons_append, List.nil_append]
  refine i_aload_n 836 rfl rfl (by decide) ?_
  refine i_callV (c := 11) (y1 := m_X11_settle) (z1 := (11, 0, 0)) (z2 := (13, mc + 2, ms + 42)) [] 837 rfl ml_1624 ok_X11_settle vk_X11_settle ⟨by decide, rfl⟩ rfl ⟨rfl, Nat.le_of_ble_eq_true rfl⟩ (Nat.le_of_ble_eq_true rfl) ⟨Nat.le_of_ble_eq_true rfl, rfl, by dsimp only; omega, by dsimp only; omega⟩ ?_
  refine h.mono (fun r zM3 h => ?_)
  obtain ⟨zr4, rfl, h⟩ := h
  simp only [Option.toList_some, Option.toList_none, List.cons_append, List.nil_append]
  refine i_icmp_eq 1994 838 rfl (by decide) (fun c => ?_) (fun c => ?_)
  · replace h := h.1 c
    exact h
  · replace h := h.2 c
    refine i_iconst 839 rfl (by decide) ?_
    exact i_zreturn 840 rfl rfl (by decide) h
set_option maxRecDepth 100000 in
theorem u_L_law_1231 {l : Launch} {E : xE} (mc ms : Nat) (l3 : Int) {M : xM} {Q : Option xV → xM → Prop} (h : ((0 : Int) ≤ (x_w (l3 + 1)) ∧ ((x_w (l3 + 1)) : Int) < x_L E) ∧ x_Ev l E (7, 0, 0) m_X10_kindFor 0 [(20, 5), (0, (x_xs E ((x_w (l3 + 1))).toNat).toInt), (5, 0), (5, 0), (5, 0), (5, 0)] [] M (fun r zM1 => ∃ zr2, r = some (0, zr2) ∧ ((0 : Int) ≤ (x_w (l3 + 1)) ∧ ((x_w (l3 + 1)) : Int) < x_L E) ∧ x_Ev l E (11, 0, 0) m_X11_kindFor 0 [(21, 103), (0, (x_xs E ((x_w (l3 + 1))).toNat).toInt), (5, 0), (5, 0)] [] zM1 (fun r zM3 => ∃ zr4, r = some (0, zr4) ∧ (zr2 = zr4 → x_Ev l E (13, mc + 2, ms + 42) m_L_law 1994 [(180, 0), (20, 5), (21, 103), (0, l3)] [] zM3 Q) ∧ (¬ zr2 = zr4 → Q (some (0, 0)) zM3)))) : x_Ev l E (13, mc + 2, ms + 42) m_L_law 1231 [(180, 0), (20, 5), (21, 103), (0, l3)] [] M Q := by
  refine i_aload_n 841 rfl rfl (by decide) ?_
  refine i_aload_n 842 rfl rfl (by decide) ?_
  refine i_iload_n 843 rfl rfl ?_
  refine i_iconst 844 rfl (by decide) ?_
  refine i_iadd 845 rfl ?_
  refine i_scr 846 rfl h.1.1 h.1.2 ?_
  replace h := h.2
  refine i_callV (c := 10) (y1 := m_X10_kindFor) (z1 := (7, 0, 0)) (z2 := (13, mc + 2, ms + 42)) [(0, (x_xs E ((x_w (l3 + 1))).toNat).toInt)] 847 rfl ml_833 ok_X10_kindFor vk_X10_kindFor ⟨by decide, rfl⟩ rfl ⟨rfl, Nat.le_of_ble_eq_true rfl⟩ (Nat.le_of_ble_eq_true rfl) ⟨Nat.le_of_ble_eq_true rfl, rfl, by dsimp only; omega, by dsimp only; omega⟩ ?_
  refine h.mono (fun r zM1 h => ?_)
  obtain ⟨zr2, rfl, h⟩ := h
  simp only [Option.toList_some, Option.toList_none, List.cons_append, List.nil_append]
  refine i_aload_n 848 rfl rfl (by decide) ?_
  refine i_aload_n 849 rfl rfl (by decide) ?_
  refine i_iload_n 850 rfl rfl ?_
  refine i_iconst 851 rfl (by decide) ?_
  refine i_iadd 852 rfl ?_
  refine i_scr 853 rfl h.1.1 h.1.2 ?_
  replace h := h.2
  refine i_callV (c := 11) (y1 := m_X11_kindFor) (z1 := (11, 0, 0)) (z2 := (13, mc + 2, ms + 42)) [(0, (x_xs E ((x_w (l3 + 1))).toNat).toInt)] 854 rfl ml_1628 ok_X11_kindFor vk_X11_kindFor ⟨by decide, rfl⟩ rfl ⟨rfl, Nat.le_of_ble_eq_true rfl⟩ (Nat.le_of_ble_eq_true rfl) ⟨Nat.le_of_ble_eq_true rfl, rfl, by dsimp only; omega, by dsimp only; omega⟩ ?_
  refine h.mono (fun r zM3 h => ?_)
  obtain ⟨zr4, rfl, h⟩ := h
  simp only [Option.toList_some, Option.toList_none, List.cons_append, List.nil_append]
  refine i_icmp_eq 1994 855 rfl (by decide) (fun c => ?_) (fun c => ?_)
  · replace h := h.1 c
    exact h
  · replace h := h.2 c
    refine i_iconst 856 rfl (by decide) ?_
    exact i_zreturn 857 rfl rfl (by decide) h
set_option maxRecDepth 100000 in
theorem u_L_law_1254 {l : Launch} {E : xE} (mc ms : Nat) (l3 : Int) {M : xM} {Q : Option xV → xM → Prop} (h : ((0 : Int) ≤ (x_w (l3 + 1)) ∧ ((x_w (l3 + 1)) : Int) < x_L E) ∧ ((0 : Int) ≤ (x_w (l3 + 2)) ∧ ((x_w (l3 + 2)) : Int) < x_L E) ∧ x_Ev l E (7, 0, 0) m_X10_tollFor 0 [(20, 5), (0, (x_xs E ((x_w (l3 + 1))).toNat).toInt), (0, (x_xs E ((x_w (l3 + 2))).toNat).toInt), (5, 0), (5, 0), (5, 0), (5, 0), (5, 0)] [] M (fun r zM1 => ∃ zr2, r = some (0, zr2) ∧ ((0 : Int) ≤ (x_w (l3 + 1)) ∧ ((x_w (l3 + 1)) : Int) < x_L E) ∧ ((0 : Int) ≤ (x_w (l3 + 2)) ∧ ((x_w (l3 + 2)) : Int) < x_L E) ∧ x_Ev l E (11, 0, 0) m_X11_tollFor 0 [(21, 103), (0, (x_xs E ((x_w (l3 + 1))).toNat).toInt), (0, (x_xs E ((x_w (l3 + 2))).toNat).toInt), (5, 0), (5, 0)] [] zM1 (fun r zM3 => ∃ zr4, r = some (0, zr4) ∧ (zr2 = zr4 → x_Ev l E (13, mc + 2, ms + 42) m_L_law 1994 [(180, 0), (20, 5), (21, 103), (0, l3)] [] zM3 Q) ∧ (¬ zr2 = zr4 → Q (some (0, 0)) zM3)))) : x_Ev l E (13, mc + 2, ms + 42) m_L_law 1254 [(180, 0), (20, 5), (21, 103), (0, l3)] [] M Q := by
  refine i_aload_n 858 rfl rfl (by decide) ?_
  refine i_aload_n 859 rfl rfl (by decide) ?_
  refine i_iload_n 860 rfl rfl ?_
  refine i_iconst 861 rfl (by decide) ?_
  refine i_iadd 862 rfl ?_
  refine i_scr 863 rfl h.1.1 h.1.2 ?_
  replace h := h.2
  refine i_aload_n 864 rfl rfl (by decide) ?_
  refine i_iload_n 865 rfl rfl ?_
  refine i_iconst 866 rfl (by decide) ?_
  refine i_iadd 867 rfl ?_
  refine i_scr 868 rfl h.1.1 h.1.2 ?_
  replace h := h.2
  refine i_callV (c := 10) (y1 := m_X10_tollFor) (z1 := (7, 0, 0)) (z2 := (13, mc + 2, ms + 42)) [(0, (x_xs E ((x_w (l3 + 1))).toNat).toInt), (0, (x_xs E ((x_w (l3 + 2))).toNat).toInt)] 869 rfl ml_842 ok_X10_tollFor vk_X10_tollFor ⟨by decide, rfl⟩ rfl ⟨rfl, Nat.le_of_ble_eq_true rfl⟩ (Nat.le_of_ble_eq_true rfl) ⟨Nat.le_of_ble_eq_true rfl, rfl, by dsimp only; omega, by dsimp only; omega⟩ ?_
  refine h.mono (fun r zM1 h => ?_)
  obtain ⟨zr2, rfl, h⟩ := h
  simp only [Option.toList_some, Option.toList_none, List.cons_append, List.nil_append]
  refine i_aload_n 870 rfl rfl (by decide) ?_
  refine i_aload_n 871 rfl rfl (by decide) ?_
  refine i_iload_n 872 rfl rfl ?_
  refine i_iconst 873 rfl (by decide) ?_
  refine i_iadd 874 rfl ?_
  refine i_scr 875 rfl h.1.1 h.1.2 ?_
  replace h := h.2
  refine i_aload_n 876 rfl rfl (by decide) ?_
  refine i_iload_n 877 rfl rfl ?_
  refine i_iconst 878 rfl (by decide) ?_
  refine i_iadd 879 rfl ?_
  refine i_scr 880 rfl h.1.1 h.1.2 ?_
  replace h := h.2
  refine i_callV (c := 11) (y1 := m_X11_tollFor) (z1 := (11, 0, 0)) (z2 := (13, mc + 2, ms + 42)) [(0, (x_xs E ((x_w (l3 + 1))).toNat).toInt), (0, (x_xs E ((x_w (l3 + 2))).toNat).toInt)] 881 rfl ml_1640 ok_X11_tollFor vk_X11_tollFor ⟨by decide, rfl⟩ rfl ⟨rfl, Nat.le_of_ble_eq_true rfl⟩ (Nat.le_of_ble_eq_true rfl) ⟨Nat.le_of_ble_eq_true rfl, rfl, by dsimp only; omega, by dsimp only; omega⟩ ?_
  refine h.mono (fun r zM3 h => ?_)
  obtain ⟨zr4, rfl, h⟩ := h
  simp only [Option.toList_some, Option.toList_none, List.cons_append, List.nil_append]
  refine i_icmp_eq 1994 882 rfl (by decide) (fun c => ?_) (fun c => ?_)
  · replace h := h.1 c
    exact h
  · replace h := h.2 c
    refine i_iconst 883 rfl (by decide) ?_
    exact i_zreturn 884 rfl rfl (by decide) h
set_option maxRecDepth 100000 in
theorem u_L_law_1287 {l : Launch} {E : xE} (mc ms : Nat) (l3 : Int) {M : xM} {Q : Option xV → xM → Prop} (h : ((0 : Int) ≤ (x_w (l3 + 1)) ∧ ((x_w (l3 + 1)) : Int) < x_L E) ∧ x_Ev l E (7, 0, 0) m_X10_without 0 [(20, 5), (0, (x_xs E ((x_w (l3 + 1))).toNat).toInt), (5, 0), (5, 0), (5, 0)] [] M (fun r zM1 => ∃ zr2, r = some (0, zr2) ∧ ((0 : Int) ≤ (x_w (l3 + 1)) ∧ ((x_w (l3 + 1)) : Int) < x_L E) ∧ x_Ev l E (11, 0, 0) m_X11_without 0 [(21, 103), (0, (x_xs E ((x_w (l3 + 1))).toNat).toInt), (5, 0), (5, 0), (5, 0), (5, 0), (5, 0), (5, 0)] [] zM1 (fun r zM3 => ∃ zr4, r = some (0, zr4) ∧ (zr2 = zr4 → x_Ev l E (13, mc + 2, ms + 42) m_L_law 1994 [(180, 0), (20, 5), (21, 103), (0, l3)] [] zM3 Q) ∧ (¬ zr2 = zr4 → Q (some (0, 0)) zM3)))) : x_Ev l E (13, mc + 2, ms + 42) m_L_law 1287 [(180, 0), (20, 5), (21, 103), (0, l3)] [] M Q := by
  refine i_aload_n 885 rfl rfl (by decide) ?_
  refine i_aload_n 886 rfl rfl (by decide) ?_
  refine i_iload_n 887 rfl rfl ?_
  refine i_iconst 888 rfl (by decide) ?_
  refine i_iadd 889 rfl ?_
  refine i_scr 890 rfl h.1.1 h.1.2 ?_
  replace h := h.2
  refine i_callV (c := 10) (y1 := m_X10_without) (z1 := (7, 0, 0)) (z2 := (13, mc + 2, ms + 42)) [(0, (x_xs E ((x_w (l3 + 1))).toNat).toInt)] 891 rfl ml_846 ok_X10_without vk_X10_without ⟨by decide, rfl⟩ rfl ⟨rfl, Nat.le_of_ble_eq_true rfl⟩ (Nat.le_of_ble_eq_true rfl) ⟨Nat.le_of_ble_eq_true rfl, rfl, by dsimp only; omega, by dsimp only; omega⟩ ?_
  refine h.mono (fun r zM1 h => ?_)
  obtain ⟨zr2, rfl, h⟩ := h
  simp only [Option.toList_some, Option.toList_none, List.cons_append, List.nil_append]
  refine i_aload_n 892 rfl rfl (by decide) ?_
  refine i_aload_n 893 rfl rfl (by decide) ?_
  refine i_iload_n 894 rfl rfl ?_
  refine i_iconst 895 rfl (by decide) ?_
  refine i_iadd 896 rfl ?_
  refine i_scr 897 rfl h.1.1 h.1.2 ?_
  replace h := h.2
  refine i_callV (c := 11) (y1 := m_X11_without) (z1 := (11, 0, 0)) (z2 := (13, mc + 2, ms + 42)) [(0, (x_xs E ((x_w (l3 + 1))).toNat).toInt)] 898 rfl ml_1644 ok_X11_without vk_X11_without ⟨by decide, rfl⟩ rfl ⟨rfl, Nat.le_of_ble_eq_true rfl⟩ (Nat.le_of_ble_eq_true rfl) ⟨Nat.le_of_ble_eq_true rfl, rfl, by dsimp only; omega, by dsimp only; omega⟩ ?_
  refine h.mono (fun r zM3 h => ?_)
  obtain ⟨zr4, rfl, h⟩ := h
  simp only [Option.toList_some, Option.toList_none, List.cons_append, List.nil_append]
  refine i_icmp_eq 1994 899 rfl (by decide) (fun c => ?_) (fun c => ?_)
  · replace h := h.1 c
    exact h
  · replace h := h.2 c
    refine i_iconst 900 rfl (by decide) ?_
    exact i_zreturn 901 rfl rfl (by decide) h
set_option maxRecDepth 100000 in
theorem u_L_law_1310 {l : Launch} {E : xE} (mc ms : Nat) (l3 : Int) {M : xM} {Q : Option xV → xM → Prop} (h : ((0 : Int) ≤ (x_w (l3 + 1)) ∧ ((x_w (l3 + 1)) : Int) < x_L E) ∧ x_Ev l E (7, 0, 0) m_X10_mostFor 0 [(20, 5), (0, (x_xs E ((x_w (l3 + 1))).toNat).toInt), (5, 0), (5, 0), (5, 0), (5, 0)] [] M (fun r zM1 => ∃ zr2, r = some (0, zr2) ∧ ((0 : Int) ≤ (x_w (l3 + 1)) ∧ ((x_w (l3 + 1)) : Int) < x_L E) ∧ x_Ev l E (11, 0, 0) m_X11_mostFor 0 [(21, 103), (0, (x_xs E ((x_w (l3 + 1))).toNat).toInt), (5, 0), (5, 0), (5, 0)] [] zM1 (fun r zM3 => ∃ zr4, r = some (0, zr4) ∧ (zr2 = zr4 → x_Ev l E (13, mc + 2, ms + 42) m_L_law 1994 [(180, 0), (20, 5), (21, 103), (0, l3)] [] zM3 Q) ∧ (¬ zr2 = zr4 → Q (some (0, 0)) zM3)))) : x_Ev l E (13, mc + 2, ms + 42) m_L_law 1310 [(180, 0), (20, 5), (21, 103), (0, l3)] [] M Q := by
  refine i_aload_n 902 rfl rfl (by decide) ?_
  refine i_aload_n 903 rfl rfl (by decide) ?_
  refine i_iload_n 904 rfl rfl ?_
  refine i_iconst 905 rfl (by decide) ?_
  refine i_iadd 906 rfl ?_
  refine i_scr 907 rfl h.1.1 h.1.2 ?_
  replace h := h.2
  refine i_callV (c := 10) (y1 := m_X10_mostFor) (z1 := (7, 0, 0)) (z2 := (13, mc + 2, ms + 42)) [(0, (x_xs E ((x_w (l3 + 1))).toNat).toInt)] 908 rfl ml_854 ok_X10_mostFor vk_X10_mostFor ⟨by decide, rfl⟩ rfl ⟨rfl, Nat.le_of_ble_eq_true rfl⟩ (Nat.le_of_ble_eq_true rfl) ⟨Nat.le_of_ble_eq_true rfl, rfl, by dsimp only; omega, by dsimp only; omega⟩ ?_
  refine h.mono (fun r zM1 h => ?_)
  obtain ⟨zr2, rfl, h⟩ := h
  simp only [Option.toList_some, Option.toList_none, List.cons_append, List.nil_append]
  refine i_aload_n 909 rfl rfl (by decide) ?_
  refine i_aload_n 910 rfl rfl (by decide) ?_
  refine i_iload_n 911 rfl rfl ?_
  refine i_iconst 912 rfl (by decide) ?_
  refine i_iadd 913 rfl ?_
  refine i_scr 914 rfl h.1.1 h.1.2 ?_
  replace h := h.2
  refine i_callV (c := 11) (y1 := m_X11_mostFor) (z1 := (11, 0, 0)) (z2 := (13, mc + 2, ms + 42)) [(0, (x_xs E ((x_w (l3 + 1))).toNat).toInt)] 915 rfl ml_1652 ok_X11_mostFor vk_X11_mostFor ⟨by decide, rfl⟩ rfl ⟨rfl, Nat.le_of_ble_eq_true rfl⟩ (Nat.le_of_ble_eq_true rfl) ⟨Nat.le_of_ble_eq_true rfl, rfl, by dsimp only; omega, by dsimp only; omega⟩ ?_
  refine h.mono (fun r zM3 h => ?_)
  obtain ⟨zr4, rfl, h⟩ := h
  simp only [Option.toList_some, Option.toList_none, List.cons_append, List.nil_append]
  refine i_icmp_eq 1994 916 rfl (by decide) (fun c => ?_) (fun c => ?_)
  · replace h := h.1 c
    exact h
  · replace h := h.2 c
    refine i_iconst 917 rfl (by decide) ?_
    exact i_zreturn 918 rfl rfl (by decide) h
set_option maxRecDepth 100000 in
theorem u_L_law_1333 {l : Launch} {E : xE} (mc ms : Nat) (l3 : Int) {M : xM} {Q : Option xV → xM → Prop} (h : x_Ev l E (6, 0, 0) m_X10_round 0 [(20, 5), (5, 0)] [] M (fun r zM1 => ∃ zr2, r = some (0, zr2) ∧ x_Ev l E (12, 0, 0) m_X11_round 0 [(21, 103), (5, 0)] [] zM1 (fun r zM3 => ∃ zr4, r = some (0, zr4) ∧ (zr2 = zr4 → x_Ev l E (13, mc + 2, ms + 42) m_L_law 1994 [(180, 0), (20, 5), (21, 103), (0, l3)] [] zM3 Q) ∧ (¬ zr2 = zr4 → Q (some (0, 0)) zM3)))) : x_Ev l E (13, mc + 2, ms + 42) m_L_law 1333 [(180, 0), (20, 5), (21, 103), (0, l3)] [] M Q := by
  refine i_aload_n 919 rfl rfl (by decide) ?_
  refine i_callV (c := 10) (y1 := m_X10_round) (z1 := (6, 0, 0)) (z2 := (13, mc + 2, ms + 42)) [] 920 rfl ml_858 ok_X10_round vk_X10_round ⟨by decide, rfl⟩ rfl ⟨rfl, Nat.le_of_ble_eq_true rfl⟩ (Nat.le_of_ble_eq_true rfl) ⟨Nat.le_of_ble_eq_true rfl, rfl, by dsimp only; omega, by dsimp only; omega⟩ ?_
  refine h.mono (fun r zM1 h => ?_)
  obtain ⟨zr2, rfl, h⟩ := h
  simp only [Option.toList_some, Option.toList_none, List.cons_append, List.nil_append]
  refine i_aload_n 921 rfl rfl (by decide) ?_
  refine i_callV (c := 11) (y1 := m_X11_round) (z1 := (12, 0, 0)) (z2 := (13, mc + 2, ms + 42)) [] 922 rfl ml_1658 ok_X11_round vk_X11_round ⟨by decide, rfl⟩ rfl ⟨rfl, Nat.le_of_ble_eq_true rfl⟩ (Nat.le_of_ble_eq_true rfl) ⟨Nat.le_of_ble_eq_true rfl, rfl, by dsimp only; omega, by dsimp only; omega⟩ ?_
  refine h.mono (fun r zM3 h => ?_)
  obtain ⟨zr4, rfl, h⟩ := h
  simp only [Option.toList_some, Option.toList_none, List.cons_append, List.nil_append]
  refine i_icmp_eq 1994 923 rfl (by decide) (fun c => ?_) (fun c => ?_)
  · replace h := h.1 c
    exact h
  · replace h := h.2 c
    refine i_iconst 924 rfl (by decide) ?_
    exact i_zreturn 925 rfl rfl (by decide) h
set_option maxRecDepth 100000 in
theorem u_L_law_1346 {l : Launch} {E : xE} (mc ms : Nat) (l3 : Int) {M : xM} {Q : Option xV → xM → Prop} (h : ((0 : Int) ≤ (x_w (l3 + 1)) ∧ ((x_w (l3 + 1)) : Int) < x_L E) ∧ x_Ev l E (6, 0, 0) m_X10_loose 0 [(20, 5), (0, (x_xs E ((x_w (l3 + 1))).toNat).toInt), (5, 0), (5, 0), (5, 0), (5, 0), (5, 0), (5, 0)] [] M (fun r zM1 => ∃ zr2, r = some (0, zr2) ∧ ((0 : Int) ≤ (x_w (l3 + 1)) ∧ ((x_w (l3 + 1)) : Int) < x_L E) ∧ x_Ev l E (12, 0, 0) m_X11_loose 0 [(21, 103), (0, (x_xs E ((x_w (l3 + 1))).toNat).toInt), (5, 0), (5, 0), (5, 0), (5, 0), (5, 0), (5, 0), (5, 0), (5, 0), (5, 0)] [] zM1 (fun r zM3 => ∃ zr4, r = some (0, zr4) ∧ (zr2 = zr4 → x_Ev l E (13, mc + 2, ms + 42) m_L_law 1994 [(180, 0), (20, 5), (21, 103), (0, l3)] [] zM3 Q) ∧ (¬ zr2 = zr4 → Q (some (0, 0)) zM3)))) : x_Ev l E (13, mc + 2, ms + 42) m_L_law 1346 [(180, 0), (20, 5), (21, 103), (0, l3)] [] M Q := by
  refine i_aload_n 926 rfl rfl (by decide) ?_
  refine i_aload_n 927 rfl rfl (by decide) ?_
  refine i_iload_n 928 rfl rfl ?_
  refine i_iconst 929 rfl (by decide) ?_
  refine i_iadd 930 rfl ?_
  refine i_scr 931 rfl h.1.1 h.1.2 ?_
  replace h := h.2
  refine i_callV (c := 10) (y1 := m_X10_loose) (z1 := (6, 0, 0)) (z2 := (13, mc + 2, ms + 42)) [(0, (x_xs E ((x_w (l3 + 1))).toNat).toInt)] 932 rfl ml_877 ok_X10_loose vk_X10_loose ⟨by decide, rfl⟩ rfl ⟨rfl, Nat.le_of_ble_eq_true rfl⟩ (Nat.le_of_ble_eq_true rfl) ⟨Nat.le_of_ble_eq_true rfl, rfl, by dsimp only; omega, by dsimp only; omega⟩ ?_
  refine h.mono (fun r zM1 h => ?_)
  obtain ⟨zr2, rfl, h⟩ := h
  simp only [Option.toList_some, Option.toList_none, List.cons_append, List.nil_append]
  refine i_aload_n 933 rfl rfl (by decide) ?_
  refine i_aload_n 934 rfl rfl (by decide) ?_
  refine i_iload_n 935 rfl rfl ?_
  refine i_iconst 936 rfl (by decide) ?_
  refine i_iadd 937 rfl ?_
  refine i_scr 938 rfl h.1.1 h.1.2 ?_
  replace h := h.2
  refine i_callV (c := 11) (y1 := m_X11_loose) (z1 := (12, 0, 0)) (z2 := (13, mc + 2, ms + 42)) [(0, (x_xs E ((x_w (l3 + 1))).toNat).toInt)] 939 rfl ml_1670 ok_X11_loose vk_X11_loose ⟨by decide, rfl⟩ rfl ⟨rfl, Nat.le_of_ble_eq_true rfl⟩ (Nat.le_of_ble_eq_true rfl) ⟨Nat.le_of_ble_eq_true rfl, rfl, by dsimp only; omega, by dsimp only; omega⟩ ?_
  refine h.mono (fun r zM3 h => ?_)
  obtain ⟨zr4, rfl, h⟩ := h
  simp only [Option.toList_some, Option.toList_none, List.cons_append, List.nil_append]
  refine i_icmp_eq 1994 940 rfl (by decide) (fun c => ?_) (fun c => ?_)
  · replace h := h.1 c
    exact h
  · replace h := h.2 c
    refine i_iconst 941 rfl (by decide) ?_
    exact i_zreturn 942 rfl rfl (by decide) h
set_option maxRecDepth 100000 in
theorem u_L_law_1369 {l : Launch} {E : xE} (mc ms : Nat) (l3 : Int) {M : xM} {Q : Option xV → xM → Prop} (h : ((0 : Int) ≤ (x_w (l3 + 1)) ∧ ((x_w (l3 + 1)) : Int) < x_L E) ∧ ((0 : Int) ≤ (x_w (l3 + 2)) ∧ ((x_w (l3 + 2)) : Int) < x_L E) ∧ ((0 : Int) ≤ (x_w (l3 + 3)) ∧ ((x_w (l3 + 3)) : Int) < x_L E) ∧ x_Ev l E (2, 0, 0) m_X10_book 0 [(20, 5), (0, (x_xs E ((x_w (l3 + 1))).toNat).toInt), (1, (x_lor (x_lshl (x_xs E ((x_w (l3 + 2))).toNat).toInt 32) (x_land (x_xs E ((x_w (l3 + 3))).toNat).toInt 4294967295))), (5, 0), (5, 0), (5, 0), (5, 0)] [] M (fun r zM1 => ∃ zr2, r = some (1, zr2) ∧ ((0 : Int) ≤ (x_w (l3 + 1)) ∧ ((x_w (l3 + 1)) : Int) < x_L E) ∧ ((0 : Int) ≤ (x_w (l3 + 2)) ∧ ((x_w (l3 + 2)) : Int) < x_L E) ∧ ((0 : Int) ≤ (x_w (l3 + 3)) ∧ ((x_w (l3 + 3)) : Int) < x_L E) ∧ x_Ev l E (2, 0, 0) m_X11_book 0 [(21, 103), (0, (x_xs E ((x_w (l3 + 1))).toNat).toInt), (1, (x_lor (x_lshl (x_xs E ((x_w (l3 + 2))).toNat).toInt 32) (x_land (x_xs E ((x_w (l3 + 3))).toNat).toInt 4294967295))), (5, 0), (5, 0)] [] zM1 (fun r zM3 => ∃ zr4, r = some (1, zr4) ∧ (zr2 = zr4 → x_Ev l E (13, mc + 2, ms + 42) m_L_law 1994 [(180, 0), (20, 5), (21, 103), (0, l3)] [] zM3 Q) ∧ (¬ zr2 = zr4 → Q (some (0, 0)) zM3)))) : x_Ev l E (13, mc + 2, ms + 42) m_L_law 1369 [(180, 0), (20, 5), (21, 103), (0, l3)] [] M Q := by
  refine i_aload_n 943 rfl rfl (by decide) ?_
  refine i_aload_n 944 rfl rfl (by decide) ?_
  refine i_iload_n 945 rfl rfl ?_
  refine i_iconst 946 rfl (by decide) ?_
  refine i_iadd 947 rfl ?_
  refine i_scr 948 rfl h.1.1 h.1.2 ?_
  replace h := h.2
  refine i_aload_n 949 rfl rfl (by decide) ?_
  refine i_iload_n 950 rfl rfl ?_
  refine i_iconst 951 rfl (by decide) ?_
  refine i_iadd 952 rfl ?_
  refine i_scr 953 rfl h.1.1 h.1.2 ?_
  replace h := h.2
  refine i_i2l 954 rfl ?_
  refine i_bipush 955 rfl (by decide) ?_
  refine i_lshl 956 rfl ?_
  refine i_aload_n 957 rfl rfl (by decide) ?_
  refine i_iload_n 958 rfl rfl ?_
  refine i_iconst 959 rfl (by decide) ?_
  refine i_iadd 960 rfl ?_
  refine i_scr 961 rfl h.1.1 h.1.2 ?_
  replace h := h.2
  refine i_i2l 962 rfl ?_
  refine i_ldc2 (v := 4294967295) 963 rfl cw_1778 (by decide) ?_
  refine i_land 964 rfl ?_
  refine i_lor 965 rfl ?_
  refine i_callV (c := 10) (y1 := m_X10_book) (z1 := (2, 0, 0)) (z2 := (13, mc + 2, ms + 42)) [(0, (x_xs E ((x_w (l3 + 1))).toNat).toInt), (1, (x_lor (x_lshl (x_xs E ((x_w (l3 + 2))).toNat).toInt 32) (x_land (x_xs E ((x_w (l3 + 3))).toNat).toInt 4294967295)))] 966 rfl ml_887 ok_X10_book vk_X10_book ⟨by decide, rfl⟩ rfl ⟨rfl, Nat.le_of_ble_eq_true rfl⟩ (Nat.le_of_ble_eq_true rfl) ⟨Nat.le_of_ble_eq_true rfl, rfl, by dsimp only; omega, by dsimp only; omega⟩ ?_
  refine h.mono (fun r zM1 h => ?_)
  obtain ⟨zr2, rfl, h⟩ := h
  simp only [Option.toList_some, Option.toList_none, List.cons_append, List.nil_append]
  refine i_aload_n 967 rfl rfl (by decide) ?_
  refine i_aload_n 968 rfl rfl (by decide) ?_
  refine i_iload_n 969 rfl rfl ?_
  refine i_iconst 970 rfl (by decide) ?_
  refine i_iadd 971 rfl ?_
  refine i_scr 972 rfl h.1.1 h.1.2 ?_
  replace h := h.2
  refine i_aload_n 973 rfl rfl (by decide) ?_
  refine i_iload_n 974 rfl rfl ?_
  refine i_iconst 975 rfl (by decide) ?_
  refine i_iadd 976 rfl ?_
  refine i_scr 977 rfl h.1.1 h.1.2 ?_
  replace h := h.2
  refine i_i2l 978 rfl ?_
  refine i_bipush 979 rfl (by decide) ?_
  refine i_lshl 980 rfl ?_
  refine i_aload_n 981 rfl rfl (by decide) ?_
  refine i_iload_n 982 rfl rfl ?_
  refine i_iconst 983 rfl (by decide) ?_
  refine i_iadd 984 rfl ?_
  refine i_scr 985 rfl h.1.1 h.1.2 ?_
  replace h := h.2
  refine i_i2l 986 rfl ?_
  refine i_ldc2 (v := 4294967295) 987 rfl cw_1778 (by decide) ?_
  refine i_land 988 rfl ?_
  refine i_lor 989 rfl ?_
  refine i_callV (c := 11) (y1 := m_X11_book) (z1 := (2, 0, 0)) (z2 := (13, mc + 2, ms + 42)) [(0, (x_xs E ((x_w (l3 + 1))).toNat).toInt), (1, (x_lor (x_lshl (x_xs E ((x_w (l3 + 2))).toNat).toInt 32) (x_land (x_xs E ((x_w (l3 + 3))).toNat).toInt 4294967295)))] 990 rfl ml_1675 ok_X11_book vk_X11_book ⟨by decide, rfl⟩ rfl ⟨rfl, Nat.le_of_ble_eq_true rfl⟩ (Nat.le_of_ble_eq_true rfl) ⟨Nat.le_of_ble_eq_true rfl, rfl, by dsimp only; omega, by dsimp only; omega⟩ ?_
  refine h.mono (fun r zM3 h => ?_)
  obtain ⟨zr4, rfl, h⟩ := h
  simp only [Option.toList_some, Option.toList_none, List.cons_append, List.nil_append]
  refine i_lcmp_eq 1994 991 rfl rfl (by decide) (fun c => ?_) (fun c => ?_)
  · replace h := h.1 c
    exact h
  · replace h := h.2 c
    refine i_iconst 993 rfl (by decide) ?_
    exact i_zreturn 994 rfl rfl (by decide) h
set_option maxRecDepth 100000 in
theorem u_L_law_1433 {l : Launch} {E : xE} (mc ms : Nat) (l3 : Int) {M : xM} {Q : Option xV → xM → Prop} (h : ((0 : Int) ≤ (x_w (l3 + 1)) ∧ ((x_w (l3 + 1)) : Int) < x_L E) ∧ x_Ev l E (1, 0, 0) m_X10_seed 0 [(20, 5), (0, (x_xs E ((x_w (l3 + 1))).toNat).toInt), (5, 0)] [] M (fun r zM1 => ∃ zr2, r = some (0, zr2) ∧ ((0 : Int) ≤ (x_w (l3 + 1)) ∧ ((x_w (l3 + 1)) : Int) < x_L E) ∧ x_Ev l E (1, 0, 0) m_X11_seed 0 [(21, 103), (0, (x_xs E ((x_w (l3 + 1))).toNat).toInt), (5, 0)] [] zM1 (fun r zM3 => ∃ zr4, r = some (0, zr4) ∧ (zr2 = zr4 → x_Ev l E (13, mc + 2, ms + 42) m_L_law 1994 [(180, 0), (20, 5), (21, 103), (0, l3)] [] zM3 Q) ∧ (¬ zr2 = zr4 → Q (some (0, 0)) zM3)))) : x_Ev l E (13, mc + 2, ms + 42) m_L_law 1433 [(180, 0), (20, 5), (21, 103), (0, l3)] [] M Q := by
  refine i_aload_n 995 rfl rfl (by decide) ?_
  refine i_aload_n 996 rfl rfl (by decide) ?_
  refine i_iload_n 997 rfl rfl ?_
  refine i_iconst 998 rfl (by decide) ?_
  refine i_iadd 999 rfl ?_
  refine i_scr 1000 rfl h.1.1 h.1.2 ?_
  replace h := h.2
  refine i_callV (c := 10) (y1 := m_X10_seed) (z1 := (1, 0, 0)) (z2 := (13, mc + 2, ms + 42)) [(0, (x_xs E ((x_w (l3 + 1))).toNat).toInt)] 1001 rfl ml_897 ok_X10_seed vk_X10_seed ⟨by decide, rfl⟩ rfl ⟨rfl, Nat.le_of_ble_eq_true rfl⟩ (Nat.le_of_ble_eq_true rfl) ⟨Nat.le_of_ble_eq_true rfl, rfl, by dsimp only; omega, by dsimp only; omega⟩ ?_
  refine h.mono (fun r zM1 h => ?_)
  obtain ⟨zr2, rfl, h⟩ := h
  simp only [Option.toList_some, Option.toList_none, List.cons_append, List.nil_append]
  refine i_aload_n 1002 rfl rfl (by decide) ?_
  refine i_aload_n 1003 rfl rfl (by decide) ?_
  refine i_iload_n 1004 rfl rfl ?_
  refine i_iconst 1005 rfl (by decide) ?_
  refine i_iadd 1006 rfl ?_
  refine i_scr 1007 rfl h.1.1 h.1.2 ?_
  replace h := h.2
  refine i_callV (c := 11) (y1 := m_X11_seed) (z1 := (1, 0, 0)) (z2 := (13, mc + 2, ms + 42)) [(0, (x_xs E ((x_w (l3 + 1))).toNat).toInt)] 1008 rfl ml_1684 ok_X11_seed vk_X11_seed ⟨by decide, rfl⟩ rfl ⟨rfl, Nat.le_of_ble_eq_true rfl⟩ (Nat.le_of_ble_eq_true rfl) ⟨Nat.le_of_ble_eq_true rfl, rfl, by dsimp only; omega, by dsimp only; omega⟩ ?_
  refine h.mono (fun r zM3 h => ?_)
  obtain ⟨zr4, rfl, h⟩ := h
  simp only [Option.toList_some, Option.toList_none, List.cons_append, List.nil_append]
  refine i_icmp_eq 1994 1009 rfl (by decide) (fun c => ?_) (fun c => ?_)
  · replace h := h.1 c
    exact h
  · replace h := h.2 c
    refine i_iconst 1010 rfl (by decide) ?_
    exact i_zreturn 1011 rfl rfl (by decide) h
set_option maxRecDepth 100000 in
theorem u_L_law_1456 {l : Launch} {E : xE} (mc ms : Nat) (l3 : Int) {M : xM} {Q : Option xV → xM → Prop} (h : ((0 : Int) ≤ (x_w (l3 + 1)) ∧ ((x_w (l3 + 1)) : Int) < x_L E) ∧ ((0 : Int) ≤ (x_w (l3 + 2)) ∧ ((x_w (l3 + 2)) : Int) < x_L E) ∧ ((0 : Int) ≤ (x_w (l3 + 3)) ∧ ((x_w (l3 + 3)) : Int) < x_L E) ∧ x_Ev l E (5, 0, 0) m_X10_fits 0 [(20, 5), (0, (x_xs E ((x_w (l3 + 1))).toNat).toInt), (0, (x_xs E ((x_w (l3 + 2))).toNat).toInt), (0, (x_xs E ((x_w (l3 + 3))).toNat).toInt), (5, 0), (5, 0), (5, 0), (5, 0), (5, 0)] [] M (fun r zM1 => ∃ zr2, r = some (0, zr2) ∧ ((0 : Int) ≤ (x_w (l3 + 1)) ∧ ((x_w (l3 + 1)) : Int) < x_L E) ∧ ((0 : Int) ≤ (x_w (l3 + 2)) ∧ ((x_w (l3 + 2)) : Int) < x_L E) ∧ ((0 : Int) ≤ (x_w (l3 + 3)) ∧ ((x_w (l3 + 3)) : Int) < x_L E) ∧ x_Ev l E (10, 0, 0) m_X11_fits 0 [(21, 103), (0, (x_xs E ((x_w (l3 + 1))).toNat).toInt), (0, (x_xs E ((x_w (l3 + 2))).toNat).toInt), (0, (x_xs E ((x_w (l3 + 3))).toNat).toInt), (5, 0), (5, 0), (5, 0)] [] zM1 (fun r zM3 => ∃ zr4, r = some (0, zr4) ∧ (zr2 = zr4 → x_Ev l E (13, mc + 2, ms + 42) m_L_law 1994 [(180, 0), (20, 5), (21, 103), (0, l3)] [] zM3 Q) ∧ (¬ zr2 = zr4 → Q (some (0, 0)) zM3)))) : x_Ev l E (13, mc + 2, ms + 42) m_L_law 1456 [(180, 0), (20, 5), (21, 103), (0, l3)] [] M Q := by
  refine i_aload_n 1012 rfl rfl (by decide) ?_
  refine i_aload_n 1013 rfl rfl (by decide) ?_
  refine i_iload_n 1014 rfl rfl ?_
  refine i_iconst 1015 rfl (by decide) ?_
  refine i_iadd 1016 rfl ?_
  refine i_scr 1017 rfl h.1.1 h.1.2 ?_
  replace h := h.2
  refine i_aload_n 1018 rfl rfl (by decide) ?_
  refine i_iload_n 1019 rfl rfl ?_
  refine i_iconst 1020 rfl (by decide) ?_
  refine i_iadd 1021 rfl ?_
  refine i_scr 1022 rfl h.1.1 h.1.2 ?_
  replace h := h.2
  refine i_aload_n 1023 rfl rfl (by decide) ?_
  refine i_iload_n 1024 rfl rfl ?_
  refine i_iconst 1025 rfl (by decide) ?_
  refine i_iadd 1026 rfl ?_
  refine i_scr 1027 rfl h.1.1 h.1.2 ?_
  replace h := h.2
  refine i_callV (c := 10) (y1 := m_X10_fits) (z1 := (5, 0, 0)) (z2 := (13, mc + 2, ms + 42)) [(0, (x_xs E ((x_w (l3 + 1))).toNat).toInt), (0, (x_xs E ((x_w (l3 + 2))).toNat).toInt), (0, (x_xs E ((x_w (l3 + 3))).toNat).toInt)] 1028 rfl ml_901 ok_X10_fits vk_X10_fits ⟨by decide, rfl⟩ rfl ⟨rfl, Nat.le_of_ble_eq_true rfl⟩ (Nat.le_of_ble_eq_true rfl) ⟨Nat.le_of_ble_eq_true rfl, rfl, by dsimp only; omega, by dsimp only; omega⟩ ?_
  refine h.mono (fun r zM1 h => ?_)
  obtain ⟨zr2, rfl, h⟩ := h
  simp only [Option.toList_some, Option.toList_none, List.cons_append, List.nil_append]
  refine i_aload_n 1029 rfl rfl (by decide) ?_
  refine i_aload_n 1030 rfl rfl (by decide) ?_
  refine i_iload_n 1031 rfl rfl ?_
  refine i_iconst 1032 rfl (by decide) ?_
  refine i_iadd 1033 rfl ?_
  refine i_scr 1034 rfl h.1.1 h.1.2 ?_
  replace h := h.2
  refine i_aload_n 1035 rfl rfl (by decide) ?_
  refine i_iload_n 1036 rfl rfl ?_
  refine i_iconst 1037 rfl (by decide) ?_
  refine i_iadd 1038 rfl ?_
  refine i_scr 1039 rfl h.1.1 h.1.2 ?_
  replace h := h.2
  refine i_aload_n 1040 rfl rfl (by decide) ?_
  refine i_iload_n 1041 rfl rfl ?_
  refine i_iconst 1042 rfl (by decide) ?_
  refine i_iadd 1043 rfl ?_
  refine i_scr 1044 rfl h.1.1 h.1.2 ?_
  replace h := h.2
  refine i_callV (c := 11) (y1 := m_X11_fits) (z1 := (10, 0, 0)) (z2 := (13, mc + 2, ms + 42)) [(0, (x_xs E ((x_w (l3 + 1))).toNat).toInt), (0, (x_xs E ((x_w (l3 + 2))).toNat).toInt), (0, (x_xs E ((x_w (l3 + 3))).toNat).toInt)] 1045 rfl ml_1688 ok_X11_fits vk_X11_fits ⟨by decide, rfl⟩ rfl ⟨rfl, Nat.le_of_ble_eq_true rfl⟩ (Nat.le_of_ble_eq_true rfl) ⟨Nat.le_of_ble_eq_true rfl, rfl, by dsimp only; omega, by dsimp only; omega⟩ ?_
  refine h.mono (fun r zM3 h => ?_)
  obtain ⟨zr4, rfl, h⟩ := h
  simp only [Option.toList_some, Option.toList_none, List.cons_append, List.nil_append]
  refine i_icmp_eq 1994 1046 rfl (by decide) (fun c => ?_) (fun c => ?_)
  · replace h := h.1 c
    exact h
  · replace h := h.2 c
    refine i_iconst 1047 rfl (by decide) ?_
    exact i_zreturn 1048 rfl rfl (by decide) h
set_option maxRecDepth 100000 in
theorem u_L_law_1499 {l : Launch} {E : xE} (mc ms : Nat) (l3 : Int) {M : xM} {Q : Option xV → xM → Prop} (h : x_Ev l E (6, 0, 0) m_X10_prove 0 [(20, 5), (5, 0)] [] M (fun r zM1 => ∃ zr2, r = some (0, zr2) ∧ x_Ev l E (11, 0, 0) m_X11_prove 0 [(21, 103), (5, 0), (5, 0)] [] zM1 (fun r zM3 => ∃ zr4, r = some (0, zr4) ∧ (zr2 = zr4 → x_Ev l E (13, mc + 2, ms + 42) m_L_law 1994 [(180, 0), (20, 5), (21, 103), (0, l3)] [] zM3 Q) ∧ (¬ zr2 = zr4 → Q (some (0, 0)) zM3)))) : x_Ev l E (13, mc + 2, ms + 42) m_L_law 1499 [(180, 0), (20, 5), (21, 103), (0, l3)] [] M Q := by
  refine i_aload_n 1049 rfl rfl (by decide) ?_
  refine i_callV (c := 10) (y1 := m_X10_prove) (z1 := (6, 0, 0)) (z2 := (13, mc + 2, ms + 42)) [] 1050 rfl ml_917 ok_X10_prove vk_X10_prove ⟨by decide, rfl⟩ rfl ⟨rfl, Nat.le_of_ble_eq_true rfl⟩ (Nat.le_of_ble_eq_true rfl) ⟨Nat.le_of_ble_eq_true rfl, rfl, by dsimp only; omega, by dsimp only; omega⟩ ?_
  refine h.mono (fun r zM1 h => ?_)
  obtain ⟨zr2, rfl, h⟩ := h
  simp only [Option.toList_some, Option.toList_none, List.cons_append, List.nil_append]
  refine i_aload_n 1051 rfl rfl (by decide) ?_
  refine i_callV (c := 11) (y1 := m_X11_prove) (z1 := (11, 0, 0)) (z2 := (13, mc + 2, ms + 42)) [] 1052 rfl ml_1697 ok_X11_prove vk_X11_prove ⟨by decide, rfl⟩ rfl ⟨rfl, Nat.le_of_ble_eq_true rfl⟩ (Nat.le_of_ble_eq_true rfl) ⟨Nat.le_of_ble_eq_true rfl, rfl, by dsimp only; omega, by dsimp only; omega⟩ ?_
  refine h.mono (fun r zM3 h => ?_)
  obtain ⟨zr4, rfl, h⟩ := h
  simp only [Option.toList_some, Option.toList_none, List.cons_append, List.nil_append]
  refine i_icmp_eq 1994 1053 rfl (by decide) (fun c => ?_) (fun c => ?_)
  · replace h := h.1 c
    exact h
  · replace h := h.2 c
    refine i_iconst 1054 rfl (by decide) ?_
    exact i_zreturn 1055 rfl rfl (by decide) h
set_option maxRecDepth 100000 in
theorem u_L_law_1512 {l : Launch} {E : xE} (mc ms : Nat) (l3 : Int) {M : xM} {Q : Option xV → xM → Prop} (h : ((0 : Int) ≤ (x_w (l3 + 1)) ∧ ((x_w (l3 + 1)) : Int) < x_L E) ∧ ((0 : Int) ≤ (x_w (l3 + 2)) ∧ ((x_w (l3 + 2)) : Int) < x_L E) ∧ x_Ev l E (2, 0, 0) m_X10_row 0 [(20, 5), (0, (x_xs E ((x_w (l3 + 1))).toNat).toInt), (0, (x_xs E ((x_w (l3 + 2))).toNat).toInt)] [] M (fun r zM1 => ∃ zr2, r = some (1, zr2) ∧ ((0 : Int) ≤ (x_w (l3 + 1)) ∧ ((x_w (l3 + 1)) : Int) < x_L E) ∧ ((0 : Int) ≤ (x_w (l3 + 2)) ∧ ((x_w (l3 + 2)) : Int) < x_L E) ∧ x_Ev l E (3, 0, 0) m_X11_row 0 [(21, 103), (0, (x_xs E ((x_w (l3 + 1))).toNat).toInt), (0, (x_xs E ((x_w (l3 + 2))).toNat).toInt)] [] zM1 (fun r zM3 => ∃ zr4, r = some (1, zr4) ∧ (zr2 = zr4 → x_Ev l E (13, mc + 2, ms + 42) m_L_law 1994 [(180, 0), (20, 5), (21, 103), (0, l3)] [] zM3 Q) ∧ (¬ zr2 = zr4 → Q (some (0, 0)) zM3)))) : x_Ev l E (13, mc + 2, ms + 42) m_L_law 1512 [(180, 0), (20, 5), (21, 103), (0, l3)] [] M Q := by
  refine i_aload_n 1056 rfl rfl (by decide) ?_
  refine i_aload_n 1057 rfl rfl (by decide) ?_
  refine i_iload_n 1058 rfl rfl ?_
  refine i_iconst 1059 rfl (by decide) ?_
  refine i_iadd 1060 rfl ?_
  refine i_scr 1061 rfl h.1.1 h.1.2 ?_
  replace h := h.2
  refine i_aload_n 1062 rfl rfl (by decide) ?_
  refine i_iload_n 1063 rfl rfl ?_
  refine i_iconst 1064 rfl (by decide) ?_
  refine i_iadd 1065 rfl ?_
  refine i_scr 1066 rfl h.1.1 h.1.2 ?_
  replace h := h.2
  refine i_callV (c := 10) (y1 := m_X10_row) (z1 := (2, 0, 0)) (z2 := (13, mc + 2, ms + 42)) [(0, (x_xs E ((x_w (l3 + 1))).toNat).toInt), (0, (x_xs E ((x_w (l3 + 2))).toNat).toInt)] 1067 rfl ml_921 ok_X10_row vk_X10_row ⟨by decide, rfl⟩ rfl ⟨rfl, Nat.le_of_ble_eq_true rfl⟩ (Nat.le_of_ble_eq_true rfl) ⟨Nat.le_of_ble_eq_true rfl, rfl, by dsimp only; omega, by dsimp only; omega⟩ ?_
  refine h.mono (fun r zM1 h => ?_)
  obtain ⟨zr2, rfl, h⟩ := h
  simp only [Option.toList_some, Option.toList_none, List.cons_append, List.nil_append]
  refine i_aload_n 1068 rfl rfl (by decide) ?_
  refine i_aload_n 1069 rfl rfl (by decide) ?_
  refine i_iload_n 1070 rfl rfl ?_
  refine i_iconst 1071 rfl (by decide) ?_
  refine i_iadd 1072 rfl ?_
  refine i_scr 1073 rfl h.1.1 h.1.2 ?_
  replace h := h.2
  refine i_aload_n 1074 rfl rfl (by decide) ?_
  refine i_iload_n 1075 rfl rfl ?_
  refine i_iconst 1076 rfl (by decide) ?_
  refine i_iadd 1077 rfl ?_
  refine i_scr 1078 rfl h.1.1 h.1.2 ?_
  replace h := h.2
  refine i_callV (c := 11) (y1 := m_X11_row) (z1 := (3, 0, 0)) (z2 := (13, mc + 2, ms + 42)) [(0, (x_xs E ((x_w (l3 + 1))).toNat).toInt), (0, (x_xs E ((x_w (l3 + 2))).toNat).toInt)] 1079 rfl ml_1701 ok_X11_row vk_X11_row ⟨by decide, rfl⟩ rfl ⟨rfl, Nat.le_of_ble_eq_true rfl⟩ (Nat.le_of_ble_eq_true rfl) ⟨Nat.le_of_ble_eq_true rfl, rfl, by dsimp only; omega, by dsimp only; omega⟩ ?_
  refine h.mono (fun r zM3 h => ?_)
  obtain ⟨zr4, rfl, h⟩ := h
  simp only [Option.toList_some, Option.toList_none, List.cons_append, List.nil_append]
  refine i_lcmp_eq 1994 1080 rfl rfl (by decide) (fun c => ?_) (fun c => ?_)
  · replace h := h.1 c
    exact h
  · replace h := h.2 c
    refine i_iconst 1082 rfl (by decide) ?_
    exact i_zreturn 1083 rfl rfl (by decide) h
set_option maxRecDepth 100000 in
theorem u_L_law_1546 {l : Launch} {E : xE} (mc ms : Nat) (l3 : Int) {M : xM} {Q : Option xV → xM → Prop} (h : ((0 : Int) ≤ (x_w (l3 + 1)) ∧ ((x_w (l3 + 1)) : Int) < x_L E) ∧ ((0 : Int) ≤ (x_w (l3 + 2)) ∧ ((x_w (l3 + 2)) : Int) < x_L E) ∧ ((0 : Int) ≤ (x_w (l3 + 3)) ∧ ((x_w (l3 + 3)) : Int) < x_L E) ∧ ((0 : Int) ≤ (x_w (l3 + 4)) ∧ ((x_w (l3 + 4)) : Int) < x_L E) ∧ x_Ev l E (2, 0, 0) m_X10_alter 0 [(20, 5), (0, (x_xs E ((x_w (l3 + 1))).toNat).toInt), (0, (x_xs E ((x_w (l3 + 2))).toNat).toInt), (1, (x_lor (x_lshl (x_xs E ((x_w (l3 + 3))).toNat).toInt 32) (x_land (x_xs E ((x_w (l3 + 4))).toNat).toInt 4294967295))), (5, 0), (5, 0), (5, 0)] [] M (fun r zM1 => ∃ zr2, r = some (1, zr2) ∧ ((0 : Int) ≤ (x_w (l3 + 1)) ∧ ((x_w (l3 + 1)) : Int) < x_L E) ∧ ((0 : Int) ≤ (x_w (l3 + 2)) ∧ ((x_w (l3 + 2)) : Int) < x_L E) ∧ ((0 : Int) ≤ (x_w (l3 + 3)) ∧ ((x_w (l3 + 3)) : Int) < x_L E) ∧ ((0 : Int) ≤ (x_w (l3 + 4)) ∧ ((x_w (l3 + 4)) : Int) < x_L E) ∧ x_Ev l E (3, 0, 0) m_X11_alter 0 [(21, 103), (0, (x_xs E ((x_w (l3 + 1))).toNat).toInt), (0, (x_xs E ((x_w (l3 + 2))).toNat).toInt), (1, (x_lor (x_lshl (x_xs E ((x_w (l3 + 3))).toNat).toInt 32) (x_land (x_xs E ((x_w (l3 + 4))).toNat).toInt 4294967295))), (5, 0), (5, 0), (5, 0)] [] zM1 (fun r zM3 => ∃ zr4, r = some (1, zr4) ∧ (zr2 = zr4 → x_Ev l E (13, mc + 2, ms + 42) m_L_law 1994 [(180, 0), (20, 5), (21, 103), (0, l3)] [] zM3 Q) ∧ (¬ zr2 = zr4 → Q (some (0, 0)) zM3)))) : x_Ev l E (13, mc + 2, ms + 42) m_L_law 1546 [(180, 0), (20, 5), (21, 103), (0, l3)] [] M Q := by
  refine i_aload_n 1084 rfl rfl (by decide) ?_
  refine i_aload_n 1085 rfl rfl (by decide) ?_
  refine i_iload_n 1086 rfl rfl ?_
  refine i_iconst 1087 rfl (by decide) ?_
  refine i_iadd 1088 rfl ?_
  refine i_scr 1089 rfl h.1.1 h.1.2 ?_
  replace h := h.2
  refine i_aload_n 1090 rfl rfl (by decide) ?_
  refine i_iload_n 1091 rfl rfl ?_
  refine i_iconst 1092 rfl (by decide) ?_
  refine i_iadd 1093 rfl ?_
  refine i_scr 1094 rfl h.1.1 h.1.2 ?_
  replace h := h.2
  refine i_aload_n 1095 rfl rfl (by decide) ?_
  refine i_iload_n 1096 rfl rfl ?_
  refine i_iconst 1097 rfl (by decide) ?_
  refine i_iadd 1098 rfl ?_
  refine i_scr 1099 rfl h.1.1 h.1.2 ?_
  replace h := h.2
  refine i_i2l 1100 rfl ?_
  refine i_bipush 1101 rfl (by decide) ?_
  refine i_lshl 1102 rfl ?_
  refine i_aload_n 1103 rfl rfl (by decide) ?_
  refine i_iload_n 1104 rfl rfl ?_
  refine i_iconst 1105 rfl (by decide) ?_
  refine i_iadd 1106 rfl ?_
  refine i_scr 1107 rfl h.1.1 h.1.2 ?_
  replace h := h.2
  refine i_i2l 1108 rfl ?_
  refine i_ldc2 (v := 4294967295) 1109 rfl cw_1778 (by decide) ?_
  refine i_land 1110 rfl ?_
  refine i_lor 1111 rfl ?_
  refine i_callV (c := 10) (y1 := m_X10_alter) (z1 := (2, 0, 0)) (z2 := (13, mc + 2, ms + 42)) [(0, (x_xs E ((x_w (l3 + 1))).toNat).toInt), (0, (x_xs E ((x_w (l3 + 2))).toNat).toInt), (1, (x_lor (x_lshl (x_xs E ((x_w (l3 + 3))).toNat).toInt 32) (x_land (x_xs E ((x_w (l3 + 4))).toNat).toInt 4294967295)))] 1112 rfl ml_929 ok_X10_alter vk_X10_alter ⟨by decide, rfl⟩ rfl ⟨rfl, Nat.le_of_ble_eq_true rfl⟩ (Nat.le_of_ble_eq_true rfl) ⟨Nat.le_of_ble_eq_true rfl, rfl, by dsimp only; omega, by dsimp only; omega⟩ ?_
  refine h.mono (fun r zM1 h => ?_)
  obtain ⟨zr2, rfl, h⟩ := h
  simp only [Option.toList_some, Option.toList_none, List.cons_append, List.nil_append]
  refine i_aload_n 1113 rfl rfl (by decide) ?_
  refine i_aload_n 1114 rfl rfl (by decide) ?_
  refine i_iload_n 1115 rfl rfl ?_
  refine i_iconst 1116 rfl (by decide) ?_
  refine i_iadd 1117 rfl ?_
  refine i_scr 1118 rfl h.1.1 h.1.2 ?_
  replace h := h.2
  refine i_aload_n 1119 rfl rfl (by decide) ?_
  refine i_iload_n 1120 rfl rfl ?_
  refine i_iconst 1121 rfl (by decide) ?_
  refine i_iadd 1122 rfl ?_
  refine i_scr 1123 rfl h.1.1 h.1.2 ?_
  replace h := h.2
  refine i_aload_n 1124 rfl rfl (by decide) ?_
  refine i_iload_n 1125 rfl rfl ?_
  refine i_iconst 1126 rfl (by decide) ?_
  refine i_iadd 1127 rfl ?_
  refine i_scr 1128 rfl h.1.1 h.1.2 ?_
  replace h := h.2
  refine i_i2l 1129 rfl ?_
  refine i_bipush 1130 rfl (by decide) ?_
  refine i_lshl 1131 rfl ?_
  refine i_aload_n 1132 rfl rfl (by decide) ?_
  refine i_iload_n 1133 rfl rfl ?_
  refine i_iconst 1134 rfl (by decide) ?_
  refine i_iadd 1135 rfl ?_
  refine i_scr 1136 rfl h.1.1 h.1.2 ?_
  replace h := h.2
  refine i_i2l 1137 rfl ?_
  refine i_ldc2 (v := 4294967295) 1138 rfl cw_1778 (by decide) ?_
  refine i_land 1139 rfl ?_
  refine i_lor 1140 rfl ?_
  refine i_callV (c := 11) (y1 := m_X11_alter) (z1 := (3, 0, 0)) (z2 := (13, mc + 2, ms + 42)) [(0, (x_xs E ((x_w (l3 + 1))).toNat).toInt), (0, (x_xs E ((x_w (l3 + 2))).toNat).toInt), (1, (x_lor (x_lshl (x_xs E ((x_w (l3 + 3))).toNat).toInt 32) (x_land (x_xs E ((x_w (l3 + 4))).toNat).toInt 4294967295)))] 1141 rfl ml_1709 ok_X11_alter vk_X11_alter ⟨by decide, rfl⟩ rfl ⟨rfl, Nat.le_of_ble_eq_true rfl⟩ (Nat.le_of_ble_eq_true rfl) ⟨Nat.le_of_ble_eq_true rfl, rfl, by dsimp only; omega, by dsimp only; omega⟩ ?_
  refine h.mono (fun r zM3 h => ?_)
  obtain ⟨zr4, rfl, h⟩ := h
  simp only [Option.toList_some, Option.toList_none, List.cons_append, List.nil_append]
  refine i_lcmp_eq 1994 1142 rfl rfl (by decide) (fun c => ?_) (fun c => ?_)
  · replace h := h.1 c
    exact h
  · replace h := h.2 c
    refine i_iconst 1144 rfl (by decide) ?_
    exact i_zreturn 1145 rfl rfl (by decide) h
set_option maxRecDepth 100000 in
theorem u_L_law_1620 {l : Launch} {E : xE} (mc ms : Nat) (l3 : Int) {M : xM} {Q : Option xV → xM → Prop} (h : x_Ev l E (6, 0, 0) m_X10_judge 0 [(20, 5), (5, 0), (5, 0), (5, 0), (5, 0)] [] M (fun r zM1 => ∃ zr2, r = some (0, zr2) ∧ x_Ev l E (11, 0, 0) m_X11_judge 0 [(21, 103), (5, 0), (5, 0), (5, 0)] [] zM1 (fun r zM3 => ∃ zr4, r = some (0, zr4) ∧ (zr2 = zr4 → x_Ev l E (13, mc + 2, ms + 42) m_L_law 1994 [(180, 0), (20, 5), (21, 103), (0, l3)] [] zM3 Q) ∧ (¬ zr2 = zr4 → Q (some (0, 0)) zM3)))) : x_Ev l E (13, mc + 2, ms + 42) m_L_law 1620 [(180, 0), (20, 5), (21, 103), (0, l3)] [] M Q := by
  refine i_aload_n 1146 rfl rfl (by decide) ?_
  refine i_callV (c := 10) (y1 := m_X10_judge) (z1 := (6, 0, 0)) (z2 := (13, mc + 2, ms + 42)) [] 1147 rfl ml_933 ok_X10_judge vk_X10_judge ⟨by decide, rfl⟩ rfl ⟨rfl, Nat.le_of_ble_eq_true rfl⟩ (Nat.le_of_ble_eq_true rfl) ⟨Nat.le_of_ble_eq_true rfl, rfl, by dsimp only; omega, by dsimp only; omega⟩ ?_
  refine h.mono (fun r zM1 h => ?_)
  obtain ⟨zr2, rfl, h⟩ := h
  simp only [Option.toList_some, Option.toList_none, List.cons_append, List.nil_append]
  refine i_aload_n 1148 rfl rfl (by decide) ?_
  refine i_callV (c := 11) (y1 := m_X11_judge) (z1 := (11, 0, 0)) (z2 := (13, mc + 2, ms + 42)) [] 1149 rfl ml_1713 ok_X11_judge vk_X11_judge ⟨by decide, rfl⟩ rfl ⟨rfl, Nat.le_of_ble_eq_true rfl⟩ (Nat.le_of_ble_eq_true rfl) ⟨Nat.le_of_ble_eq_true rfl, rfl, by dsimp only; omega, by dsimp only; omega⟩ ?_
  refine h.mono (fun r zM3 h => ?_)
  obtain ⟨zr4, rfl, h⟩ := h
  simp only [Option.toList_some, Option.toList_none, List.cons_append, List.nil_append]
  refine i_icmp_eq 1994 1150 rfl (by decide) (fun c => ?_) (fun c => ?_)
  · replace h := h.1 c
    exact h
  · replace h := h.2 c
    refine i_iconst 1151 rfl (by decide) ?_
    exact i_zreturn 1152 rfl rfl (by decide) h
set_option maxRecDepth 100000 in
theorem u_L_law_1633 {l : Launch} {E : xE} (mc ms : Nat) (l3 : Int) {M : xM} {Q : Option xV → xM → Prop} (h : ((0 : Int) ≤ (x_w (l3 + 1)) ∧ ((x_w (l3 + 1)) : Int) < x_L E) ∧ ((0 : Int) ≤ (x_w (l3 + 2)) ∧ ((x_w (l3 + 2)) : Int) < x_L E) ∧ ((0 : Int) ≤ (x_w (l3 + 3)) ∧ ((x_w (l3 + 3)) : Int) < x_L E) ∧ x_Ev l E (3, 2, 42) m_X10_sheet 0 [(20, 5), (0, (x_xs E ((x_w (l3 + 1))).toNat).toInt), (0, (x_xs E ((x_w (l3 + 2))).toNat).toInt), (0, (x_xs E ((x_w (l3 + 3))).toNat).toInt)] [] M (fun r zM1 => ∃ zr2, r = some (0, zr2) ∧ ((0 : Int) ≤ (x_w (l3 + 1)) ∧ ((x_w (l3 + 1)) : Int) < x_L E) ∧ ((0 : Int) ≤ (x_w (l3 + 2)) ∧ ((x_w (l3 + 2)) : Int) < x_L E) ∧ ((0 : Int) ≤ (x_w (l3 + 3)) ∧ ((x_w (l3 + 3)) : Int) < x_L E) ∧ x_Ev l E (3, 0, 0) m_X11_sheet 0 [(21, 103), (0, (x_xs E ((x_w (l3 + 1))).toNat).toInt), (0, (x_xs E ((x_w (l3 + 2))).toNat).toInt), (0, (x_xs E ((x_w (l3 + 3))).toNat).toInt), (5, 0)] [] zM1 (fun r zM3 => ∃ zr4, r = some (0, zr4) ∧ (zr2 = zr4 → x_Ev l E (13, mc + 0, ms + 0) m_L_law 1994 [(180, 0), (20, 5), (21, 103), (0, l3)] [] zM3 Q) ∧ (¬ zr2 = zr4 → Q (some (0, 0)) zM3)))) : x_Ev l E (13, mc + 2, ms + 42) m_L_law 1633 [(180, 0), (20, 5), (21, 103), (0, l3)] [] M Q := by
  refine i_aload_n 1153 rfl rfl (by decide) ?_
  refine i_aload_n 1154 rfl rfl (by decide) ?_
  refine i_iload_n 1155 rfl rfl ?_
  refine i_iconst 1156 rfl (by decide) ?_
  refine i_iadd 1157 rfl ?_
  refine i_scr 1158 rfl h.1.1 h.1.2 ?_
  replace h := h.2
  refine i_aload_n 1159 rfl rfl (by decide) ?_
  refine i_iload_n 1160 rfl rfl ?_
  refine i_iconst 1161 rfl (by decide) ?_
  refine i_iadd 1162 rfl ?_
  refine i_scr 1163 rfl h.1.1 h.1.2 ?_
  replace h := h.2
  refine i_aload_n 1164 rfl rfl (by decide) ?_
  refine i_iload_n 1165 rfl rfl ?_
  refine i_iconst 1166 rfl (by decide) ?_
  refine i_iadd 1167 rfl ?_
  refine i_scr 1168 rfl h.1.1 h.1.2 ?_
  replace h := h.2
  refine i_callV (c := 10) (y1 := m_X10_sheet) (z1 := (3, 2, 42)) (z2 := (13, mc + 0, ms + 0)) [(0, (x_xs E ((x_w (l3 + 1))).toNat).toInt), (0, (x_xs E ((x_w (l3 + 2))).toNat).toInt), (0, (x_xs E ((x_w (l3 + 3))).toNat).toInt)] 1169 rfl ml_940 ok_X10_sheet vk_X10_sheet ⟨by decide, rfl⟩ rfl ⟨rfl, Nat.le_of_ble_eq_true rfl⟩ (Nat.le_of_ble_eq_true rfl) ⟨Nat.le_of_ble_eq_true rfl, rfl, by dsimp only; omega, by dsimp only; omega⟩ ?_
  refine h.mono (fun r zM1 h => ?_)
  obtain ⟨zr2, rfl, h⟩ := h
  simp only [Option.toList_some, Option.toList_none, List.cons_append, List.nil_append]
  refine i_aload_n 1170 rfl rfl (by decide) ?_
  refine i_aload_n 1171 rfl rfl (by decide) ?_
  refine i_iload_n 1172 rfl rfl ?_
  refine i_iconst 1173 rfl (by decide) ?_
  refine i_iadd 1174 rfl ?_
  refine i_scr 1175 rfl h.1.1 h.1.2 ?_
  replace h := h.2
  refine i_aload_n 1176 rfl rfl (by decide) ?_
  refine i_iload_n 1177 rfl rfl ?_
  refine i_iconst 1178 rfl (by decide) ?_
  refine i_iadd 1179 rfl ?_
  refine i_scr 1180 rfl h.1.1 h.1.2 ?_
  replace h := h.2
  refine i_aload_n 1181 rfl rfl (by decide) ?_
  refine i_iload_n 1182 rfl rfl ?_
  refine i_iconst 1183 rfl (by decide) ?_
  refine i_iadd 1184 rfl ?_
  refine i_scr 1185 rfl h.1.1 h.1.2 ?_
  replace h := h.2
  refine i_callV (c := 11) (y1 := m_X11_sheet) (z1 := (3, 0, 0)) (z2 := (13, mc + 0, ms + 0)) [(0, (x_xs E ((x_w (l3 + 1))).toNat).toInt), (0, (x_xs E ((x_w (l3 + 2))).toNat).toInt), (0, (x_xs E ((x_w (l3 + 3))).toNat).toInt)] 1186 rfl ml_1717 ok_X11_sheet vk_X11_sheet ⟨by decide, rfl⟩ rfl ⟨rfl, Nat.le_of_ble_eq_true rfl⟩ (Nat.le_of_ble_eq_true rfl) ⟨Nat.le_of_ble_eq_true rfl, rfl, by dsimp only; omega, by dsimp only; omega⟩ ?_
  refine h.mono (fun r zM3 h => ?_)
  obtain ⟨zr4, rfl, h⟩ := h
  simp only [Option.toList_some, Option.toList_none, List.cons_append, List.nil_append]
  refine i_icmp_eq 1994 1187 rfl (by decide) (fun c => ?_) (fun c => ?_)
  · replace h := h.1 c
    exact h
  · replace h := h.2 c
    refine i_iconst 1188 rfl (by decide) ?_
    exact i_zreturn 1189 rfl rfl (by decide) h
set_option maxRecDepth 100000 in
theorem u_L_law_1676 {l : Launch} {E : xE} (mc ms : Nat) (l3 : Int) {M : xM} {Q : Option xV → xM → Prop} (h : ((0 : Int) ≤ (x_w (l3 + 1)) ∧ ((x_w (l3 + 1)) : Int) < x_L E) ∧ ((0 : Int) ≤ (x_w (l3 + 2)) ∧ ((x_w (l3 + 2)) : Int) < x_L E) ∧ ((0 : Int) ≤ (x_w (l3 + 3)) ∧ ((x_w (l3 + 3)) : Int) < x_L E) ∧ ((0 : Int) ≤ (x_w (l3 + 4)) ∧ ((x_w (l3 + 4)) : Int) < x_L E) ∧ x_Ev l E (2, 0, 0) m_X10_write 0 [(20, 5), (0, (x_xs E ((x_w (l3 + 1))).toNat).toInt), (0, (x_xs E ((x_w (l3 + 2))).toNat).toInt), (1, (x_lor (x_lshl (x_xs E ((x_w (l3 + 3))).toNat).toInt 32) (x_land (x_xs E ((x_w (l3 + 4))).toNat).toInt 4294967295))), (5, 0), (5, 0)] [] M (fun r zM1 => ∃ zr2, r = some (0, zr2) ∧ ((0 : Int) ≤ (x_w (l3 + 1)) ∧ ((x_w (l3 + 1)) : Int) < x_L E) ∧ ((0 : Int) ≤ (x_w (l3 + 2)) ∧ ((x_w (l3 + 2)) : Int) < x_L E) ∧ ((0 : Int) ≤ (x_w (l3 + 3)) ∧ ((x_w (l3 + 3)) : Int) < x_L E) ∧ ((0 : Int) ≤ (x_w (l3 + 4)) ∧ ((x_w (l3 + 4)) : Int) < x_L E) ∧ x_Ev l E (4, 0, 0) m_X11_write 0 [(21, 103), (0, (x_xs E ((x_w (l3 + 1))).toNat).toInt), (0, (x_xs E ((x_w (l3 + 2))).toNat).toInt), (1, (x_lor (x_lshl (x_xs E ((x_w (l3 + 3))).toNat).toInt 32) (x_land (x_xs E ((x_w (l3 + 4))).toNat).toInt 4294967295))), (5, 0), (5, 0)] [] zM1 (fun r zM3 => ∃ zr4, r = some (0, zr4) ∧ (zr2 = zr4 → x_Ev l E (13, mc + 2, ms + 42) m_L_law 1994 [(180, 0), (20, 5), (21, 103), (0, l3)] [] zM3 Q) ∧ (¬ zr2 = zr4 → Q (some (0, 0)) zM3)))) : x_Ev l E (13, mc + 2, ms + 42) m_L_law 1676 [(180, 0), (20, 5), (21, 103), (0, l3)] [] M Q := by
  refine i_aload_n 1190 rfl rfl (by decide) ?_
  refine i_aload_n 1191 rfl rfl (by decide) ?_
  refine i_iload_n 1192 rfl rfl ?_
  refine i_iconst 1193 rfl (by decide) ?_
  refine i_iadd 1194 rfl ?_
  refine i_scr 1195 rfl h.1.1 h.1.2 ?_
  replace h := h.2
  refine i_aload_n 1196 rfl rfl (by decide) ?_
  refine i_iload_n 1197 rfl rfl ?_
  refine i_iconst 1198 rfl (by decide) ?_
  refine i_iadd 1199 rfl ?_
  refine i_scr 1200 rfl h.1.1 h.1.2 ?_
  replace h := h.2
  refine i_aload_n 1201 rfl rfl (by decide) ?_
  refine i_iload_n 1202 rfl rfl ?_
  refine i_iconst 1203 rfl (by decide) ?_
  refine i_iadd 1204 rfl ?_
  refine i_scr 1205 rfl h.1.1 h.1.2 ?_
  replace h := h.2
  refine i_i2l 1206 rfl ?_
  refine i_bipush 1207 rfl (by decide) ?_
  refine i_lshl 1208 rfl ?_
  refine i_aload_n 1209 rfl rfl (by decide) ?_
  refine i_iload_n 1210 rfl rfl ?_
  refine i_iconst 1211 rfl (by decide) ?_
  refine i_iadd 1212 rfl ?_
  refine i_scr 1213 rfl h.1.1 h.1.2 ?_
  replace h := h.2
  refine i_i2l 1214 rfl ?_
  refine i_ldc2 (v := 4294967295) 1215 rfl cw_1778 (by decide) ?_
  refine i_land 1216 rfl ?_
  refine i_lor 1217 rfl ?_
  refine i_callV (c := 10) (y1 := m_X10_write) (z1 := (2, 0, 0)) (z2 := (13, mc + 2, ms + 42)) [(0, (x_xs E ((x_w (l3 + 1))).toNat).toInt), (0, (x_xs E ((x_w (l3 + 2))).toNat).toInt), (1, (x_lor (x_lshl (x_xs E ((x_w (l3 + 3))).toNat).toInt 32) (x_land (x_xs E ((x_w (l3 + 4))).toNat).toInt 4294967295)))] 1218 rfl ml_961 ok_X10_write vk_X10_write ⟨by decide, rfl⟩ rfl ⟨rfl, Nat.le_of_ble_eq_true rfl⟩ (Nat.le_of_ble_eq_true rfl) ⟨Nat.le_of_ble_eq_true rfl, rfl, by dsimp only; omega, by dsimp only; omega⟩ ?_
  refine h.mono (fun r zM1 h => ?_)
  obtain ⟨zr2, rfl, h⟩ := h
  simp only [Option.toList_some, Option.toList_none, List.cons_append, List.nil_append]
  refine i_aload_n 1219 rfl rfl (by decide) ?_
  refine i_aload_n 1220 rfl rfl (by decide) ?_
  refine i_iload_n 1221 rfl rfl ?_
  refine i_iconst 1222 rfl (by decide) ?_
  refine i_iadd 1223 rfl ?_
  refine i_scr 1224 rfl h.1.1 h.1.2 ?_
  replace h := h.2
  refine i_aload_n 1225 rfl rfl (by decide) ?_
  refine i_iload_n 1226 rfl rfl ?_
  refine i_iconst 1227 rfl (by decide) ?_
  refine i_iadd 1228 rfl ?_
  refine i_scr 1229 rfl h.1.1 h.1.2 ?_
  replace h := h.2
  refine i_aload_n 1230 rfl rfl (by decide) ?_
  refine i_iload_n 1231 rfl rfl ?_
  refine i_iconst 1232 rfl (by decide) ?_
  refine i_iadd 1233 rfl ?_
  refine i_scr 1234 rfl h.1.1 h.1.2 ?_
  replace h := h.2
  refine i_i2l 1235 rfl ?_
  refine i_bipush 1236 rfl (by decide) ?_
  refine i_lshl 1237 rfl ?_
  refine i_aload_n 1238 rfl rfl (by decide) ?_
  refine i_iload_n 1239 rfl rfl ?_
  refine i_iconst 1240 rfl (by decide) ?_
  refine i_iadd 1241 rfl ?_
  refine i_scr 1242 rfl h.1.1 h.1.2 ?_
  replace h := h.2
  refine i_i2l 1243 rfl ?_
  refine i_ldc2 (v := 4294967295) 1244 rfl cw_1778 (by decide) ?_
  refine i_land 1245 rfl ?_
  refine i_lor 1246 rfl ?_
  refine i_callV (c := 11) (y1 := m_X11_write) (z1 := (4, 0, 0)) (z2 := (13, mc + 2, ms + 42)) [(0, (x_xs E ((x_w (l3 + 1))).toNat).toInt), (0, (x_xs E ((x_w (l3 + 2))).toNat).toInt), (1, (x_lor (x_lshl (x_xs E ((x_w (l3 + 3))).toNat).toInt 32) (x_land (x_xs E ((x_w (l3 + 4))).toNat).toInt 4294967295)))] 1247 rfl ml_1721 ok_X11_write vk_X11_write ⟨by decide, rfl⟩ rfl ⟨rfl, Nat.le_of_ble_eq_true rfl⟩ (Nat.le_of_ble_eq_true rfl) ⟨Nat.le_of_ble_eq_true rfl, rfl, by dsimp only; omega, by dsimp only; omega⟩ ?_
  refine h.mono (fun r zM3 h => ?_)
  obtain ⟨zr4, rfl, h⟩ := h
  simp only [Option.toList_some, Option.toList_none, List.cons_append, List.nil_append]
  refine i_icmp_eq 1994 1248 rfl (by decide) (fun c => ?_) (fun c => ?_)
  · replace h := h.1 c
    exact h
  · replace h := h.2 c
    refine i_iconst 1249 rfl (by decide) ?_
    exact i_zreturn 1250 rfl rfl (by decide) h
set_option maxRecDepth 100000 in
theorem u_L_law_1749 {l : Launch} {E : xE} (mc ms : Nat) (l3 : Int) {M : xM} {Q : Option xV → xM → Prop} (h : ((0 : Int) ≤ (x_w (l3 + 1)) ∧ ((x_w (l3 + 1)) : Int) < x_L E) ∧ ((0 : Int) ≤ (x_w (l3 + 2)) ∧ ((x_w (l3 + 2)) : Int) < x_L E) ∧ x_Ev l E (2, 0, 0) m_X10_item 0 [(20, 5), (0, (x_xs E ((x_w (l3 + 1))).toNat).toInt), (0, (x_xs E ((x_w (l3 + 2))).toNat).toInt), (5, 0)] [] M (fun r zM1 => ∃ zr2, r = some (1, zr2) ∧ ((0 : Int) ≤ (x_w (l3 + 1)) ∧ ((x_w (l3 + 1)) : Int) < x_L E) ∧ ((0 : Int) ≤ (x_w (l3 + 2)) ∧ ((x_w (l3 + 2)) : Int) < x_L E) ∧ x_Ev l E (4, 0, 0) m_X11_item 0 [(21, 103), (0, (x_xs E ((x_w (l3 + 1))).toNat).toInt), (0, (x_xs E ((x_w (l3 + 2))).toNat).toInt), (5, 0)] [] zM1 (fun r zM3 => ∃ zr4, r = some (1, zr4) ∧ (zr2 = zr4 → x_Ev l E (13, mc + 2, ms + 42) m_L_law 1994 [(180, 0), (20, 5), (21, 103), (0, l3)] [] zM3 Q) ∧ (¬ zr2 = zr4 → Q (some (0, 0)) zM3)))) : x_Ev l E (13, mc + 2, ms + 42) m_L_law 1749 [(180, 0), (20, 5), (21, 103), (0, l3)] [] M Q := by
  refine i_aload_n 1251 rfl rfl (by decide) ?_
  refine i_aload_n 1252 rfl rfl (by decide) ?_
  refine i_iload_n 1253 rfl rfl ?_
  refine i_iconst 1254 rfl (by decide) ?_
  refine i_iadd 1255 rfl ?_
  refine i_scr 1256 rfl h.1.1 h.1.2 ?_
  replace h := h.2
  refine i_aload_n 1257 rfl rfl (by decide) ?_
  refine i_iload_n 1258 rfl rfl ?_
  refine i_iconst 1259 rfl (by decide) ?_
  refine i_iadd 1260 rfl ?_
  refine i_scr 1261 rfl h.1.1 h.1.2 ?_
  replace h := h.2
  refine i_callV (c := 10) (y1 := m_X10_item) (z1 := (2, 0, 0)) (z2 := (13, mc + 2, ms + 42)) [(0, (x_xs E ((x_w (l3 + 1))).toNat).toInt), (0, (x_xs E ((x_w (l3 + 2))).toNat).toInt)] 1262 rfl ml_973 ok_X10_item vk_X10_item ⟨by decide, rfl⟩ rfl ⟨rfl, Nat.le_of_ble_eq_true rfl⟩ (Nat.le_of_ble_eq_true rfl) ⟨Nat.le_of_ble_eq_true rfl, rfl, by dsimp only; omega, by dsimp only; omega⟩ ?_
  refine h.mono (fun r zM1 h => ?_)
  obtain ⟨zr2, rfl, h⟩ := h
  simp only [Option.toList_some, Option.toList_none, List.cons_append, List.nil_append]
  refine i_aload_n 1263 rfl rfl (by decide) ?_
  refine i_aload_n 1264 rfl rfl (by decide) ?_
  refine i_iload_n 1265 rfl rfl ?_
  refine i_iconst 1266 rfl (by decide) ?_
  refine i_iadd 1267 rfl ?_
  refine i_scr 1268 rfl h.1.1 h.1.2 ?_
  replace h := h.2
  refine i_aload_n 1269 rfl rfl (by decide) ?_
  refine i_iload_n 1270 rfl rfl ?_
  refine i_iconst 1271 rfl (by decide) ?_
  refine i_iadd 1272 rfl ?_
  refine i_scr 1273 rfl h.1.1 h.1.2 ?_
  replace h := h.2
  refine i_callV (c := 11) (y1 := m_X11_item) (z1 := (4, 0, 0)) (z2 := (13, mc + 2, ms + 42)) [(0, (x_xs E ((x_w (l3 + 1))).toNat).toInt), (0, (x_xs E ((x_w (l3 + 2))).toNat).toInt)] 1274 rfl ml_1729 ok_X11_item vk_X11_item ⟨by decide, rfl⟩ rfl ⟨rfl, Nat.le_of_ble_eq_true rfl⟩ (Nat.le_of_ble_eq_true rfl) ⟨Nat.le_of_ble_eq_true rfl, rfl, by dsimp only; omega, by dsimp only; omega⟩ ?_
  refine h.mono (fun r zM3 h => ?_)
  obtain ⟨zr4, rfl, h⟩ := h
  simp only [Option.toList_some, Option.toList_none, List.cons_append, List.nil_append]
  refine i_lcmp_eq 1994 1275 rfl rfl (by decide) (fun c => ?_) (fun c => ?_)
  · replace h := h.1 c
    exact h
  · replace h := h.2 c
    refine i_iconst 1277 rfl (by decide) ?_
    exact i_zreturn 1278 rfl rfl (by decide) h
set_option maxRecDepth 100000 in
theorem u_L_law_1783 {l : Launch} {E : xE} (mc ms : Nat) (l3 : Int) {M : xM} {Q : Option xV → xM → Prop} (h : ((0 : Int) ≤ (x_w (l3 + 1)) ∧ ((x_w (l3 + 1)) : Int) < x_L E) ∧ ((0 : Int) ≤ (x_w (l3 + 2)) ∧ ((x_w (l3 + 2)) : Int) < x_L E) ∧ ((0 : Int) ≤ (x_w (l3 + 3)) ∧ ((x_w (l3 + 3)) : Int) < x_L E) ∧ ((0 : Int) ≤ (x_w (l3 + 4)) ∧ ((x_w (l3 + 4)) : Int) < x_L E) ∧ ((0 : Int) ≤ (x_w (l3 + 5)) ∧ ((x_w (l3 + 5)) : Int) < x_L E) ∧ x_Ev l E (2, 0, 0) m_X10_copy 0 [(20, 5), (0, (x_xs E ((x_w (l3 + 1))).toNat).toInt), (0, (x_xs E ((x_w (l3 + 2))).toNat).toInt), (0, (x_xs E ((x_w (l3 + 3))).toNat).toInt), (0, (x_xs E ((x_w (l3 + 4))).toNat).toInt), (0, (x_xs E ((x_w (l3 + 5))).toNat).toInt), (5, 0), (5, 0)] [] M (fun r zM1 => ∃ zr2, r = some (0, zr2) ∧ ((0 : Int) ≤ (x_w (l3 + 1)) ∧ ((x_w (l3 + 1)) : Int) < x_L E) ∧ ((0 : Int) ≤ (x_w (l3 + 2)) ∧ ((x_w (l3 + 2)) : Int) < x_L E) ∧ ((0 : Int) ≤ (x_w (l3 + 3)) ∧ ((x_w (l3 + 3)) : Int) < x_L E) ∧ ((0 : Int) ≤ (x_w (l3 + 4)) ∧ ((x_w (l3 + 4)) : Int) < x_L E) ∧ ((0 : Int) ≤ (x_w (l3 + 5)) ∧ ((x_w (l3 + 5)) : Int) < x_L E) ∧ x_Ev l E (3, 0, 0) m_X11_copy 0 [(21, 103), (0, (x_xs E ((x_w (l3 + 1))).toNat).toInt), (0, (x_xs E ((x_w (l3 + 2))).toNat).toInt), (0, (x_xs E ((x_w (l3 + 3))).toNat).toInt), (0, (x_xs E ((x_w (l3 + 4))).toNat).toInt), (0, (x_xs E ((x_w (l3 + 5))).toNat).toInt), (5, 0)] [] zM1 (fun r zM3 => ∃ zr4, r = some (0, zr4) ∧ (zr2 = zr4 → x_Ev l E (13, mc + 2, ms + 42) m_L_law 1994 [(180, 0), (20, 5), (21, 103), (0, l3)] [] zM3 Q) ∧ (¬ zr2 = zr4 → Q (some (0, 0)) zM3)))) : x_Ev l E (13, mc + 2, ms + 42) m_L_law 1783 [(180, 0), (20, 5), (21, 103), (0, l3)] [] M Q := by
  refine i_aload_n 1279 rfl rfl (by decide) ?_
  refine i_aload_n 1280 rfl rfl (by decide) ?_
  refine i_iload_n 1281 rfl rfl ?_
  refine i_iconst 1282 rfl (by decide) ?_
  refine i_iadd 1283 rfl ?_
  refine i_scr 1284 rfl h.1.1 h.1.2 ?_
  replace h := h.2
  refine i_aload_n 1285 rfl rfl (by decide) ?_
  refine i_iload_n 1286 rfl rfl ?_
  refine i_iconst 1287 rfl (by decide) ?_
  refine i_iadd 1288 rfl ?_
  refine i_scr 1289 rfl h.1.1 h.1.2 ?_
  replace h := h.2
  refine i_aload_n 1290 rfl rfl (by decide) ?_
  refine i_iload_n 1291 rfl rfl ?_
  refine i_iconst 1292 rfl (by decide) ?_
  refine i_iadd 1293 rfl ?_
  refine i_scr 1294 rfl h.1.1 h.1.2 ?_
  replace h := h.2
  refine i_aload_n 1295 rfl rfl (by decide) ?_
  refine i_iload_n 1296 rfl rfl ?_
  refine i_iconst 1297 rfl (by decide) ?_
  refine i_iadd 1298 rfl ?_
  refine i_scr 1299 rfl h.1.1 h.1.2 ?_
  replace h := h.2
  refine i_aload_n 1300 rfl rfl (by decide) ?_
  refine i_iload_n 1301 rfl rfl ?_
  refine i_iconst 1302 rfl (by decide) ?_
  refine i_iadd 1303 rfl ?_
  refine i_scr 1304 rfl h.1.1 h.1.2 ?_
  replace h := h.2
  refine i_callV (c := 10) (y1 := m_X10_copy) (z1 := (2, 0, 0)) (z2 := (13, mc + 2, ms + 42)) [(0, (x_xs E ((x_w (l3 + 1))).toNat).toInt), (0, (x_xs E ((x_w (l3 + 2))).toNat).toInt), (0, (x_xs E ((x_w (l3 + 3))).toNat).toInt), (0, (x_xs E ((x_w (l3 + 4))).toNat).toInt), (0, (x_xs E ((x_w (l3 + 5))).toNat).toInt)] 1305 rfl ml_977 ok_X10_copy vk_X10_copy ⟨by decide, rfl⟩ rfl ⟨rfl, Nat.le_of_ble_eq_true rfl⟩ (Nat.le_of_ble_eq_true rfl) ⟨Nat.le_of_ble_eq_true rfl, rfl, by dsimp only; omega, by dsimp only; omega⟩ ?_
  refine h.mono (fun r zM1 h => ?_)
  obtain ⟨zr2, rfl, h⟩ := h
  simp only [Option.toList_some, Option.toList_none, List.cons_append, List.nil_append]
  refine i_aload_n 1306 rfl rfl (by decide) ?_
  refine i_aload_n 1307 rfl rfl (by decide) ?_
  refine i_iload_n 1308 rfl rfl ?_
  refine i_iconst 1309 rfl (by decide) ?_
  refine i_iadd 1310 rfl ?_
  refine i_scr 1311 rfl h.1.1 h.1.2 ?_
  replace h := h.2
  refine i_aload_n 1312 rfl rfl (by decide) ?_
  refine i_iload_n 1313 rfl rfl ?_
  refine i_iconst 1314 rfl (by decide) ?_
  refine i_iadd 1315 rfl ?_
  refine i_scr 1316 rfl h.1.1 h.1.2 ?_
  replace h := h.2
  refine i_aload_n 1317 rfl rfl (by decide) ?_
  refine i_iload_n 1318 rfl rfl ?_
  refine i_iconst 1319 rfl (by decide) ?_
  refine i_iadd 1320 rfl ?_
  refine i_scr 1321 rfl h.1.1 h.1.2 ?_
  replace h := h.2
  refine i_aload_n 1322 rfl rfl (by decide) ?_
  refine i_iload_n 1323 rfl rfl ?_
  refine i_iconst 1324 rfl (by decide) ?_
  refine i_iadd 1325 rfl ?_
  refine i_scr 1326 rfl h.1.1 h.1.2 ?_
  replace h := h.2
  refine i_aload_n 1327 rfl rfl (by decide) ?_
  refine i_iload_n 1328 rfl rfl ?_
  refine i_iconst 1329 rfl (by decide) ?_
  refine i_iadd 1330 rfl ?_
  refine i_scr 1331 rfl h.1.1 h.1.2 ?_
  replace h := h.2
  refine i_callV (c := 11) (y1 := m_X11_copy) (z1 := (3, 0, 0)) (z2 := (13, mc + 2, ms + 42)) [(0, (x_xs E ((x_w (l3 + 1))).toNat).toInt), (0, (x_xs E ((x_w (l3 + 2))).toNat).toInt), (0, (x_xs E ((x_w (l3 + 3))).toNat).toInt), (0, (x_xs E ((x_w (l3 + 4))).toNat).toInt), (0, (x_xs E ((x_w (l3 + 5))).toNat).toInt)] 1332 rfl ml_1733 ok_X11_copy vk_X11_copy ⟨by decide, rfl⟩ rfl ⟨rfl, Nat.le_of_ble_eq_true rfl⟩ (Nat.le_of_ble_eq_true rfl) ⟨Nat.le_of_ble_eq_true rfl, rfl, by dsimp only; omega, by dsimp only; omega⟩ ?_
  refine h.mono (fun r zM3 h => ?_)
  obtain ⟨zr4, rfl, h⟩ := h
  simp only [Option.toList_some, Option.toList_none, List.cons_append, List.nil_append]
  refine i_icmp_eq 1994 1333 rfl (by decide) (fun c => ?_) (fun c => ?_)
  · replace h := h.1 c
    exact h
  · replace h := h.2 c
    refine i_iconst 1334 rfl (by decide) ?_
    exact i_zreturn 1335 rfl rfl (by decide) h
set_option maxRecDepth 100000 in
theorem u_L_law_1846 {l : Launch} {E : xE} (mc ms : Nat) (l3 : Int) {M : xM} {Q : Option xV → xM → Prop} (h : ((0 : Int) ≤ (x_w (l3 + 1)) ∧ ((x_w (l3 + 1)) : Int) < x_L E) ∧ ((0 : Int) ≤ (x_w (l3 + 2)) ∧ ((x_w (l3 + 2)) : Int) < x_L E) ∧ ((0 : Int) ≤ (x_w (l3 + 3)) ∧ ((x_w (l3 + 3)) : Int) < x_L E) ∧ x_Ev l E (2, 0, 0) m_X10_hold 0 [(20, 5), (0, (x_xs E ((x_w (l3 + 1))).toNat).toInt), (0, (x_xs E ((x_w (l3 + 2))).toNat).toInt), (0, (x_xs E ((x_w (l3 + 3))).toNat).toInt), (5, 0), (5, 0)] [] M (fun r zM1 => ∃ zr2, r = some (0, zr2) ∧ ((0 : Int) ≤ (x_w (l3 + 1)) ∧ ((x_w (l3 + 1)) : Int) < x_L E) ∧ ((0 : Int) ≤ (x_w (l3 + 2)) ∧ ((x_w (l3 + 2)) : Int) < x_L E) ∧ ((0 : Int) ≤ (x_w (l3 + 3)) ∧ ((x_w (l3 + 3)) : Int) < x_L E) ∧ x_Ev l E (3, 0, 0) m_X11_hold 0 [(21, 103), (0, (x_xs E ((x_w (l3 + 1))).toNat).toInt), (0, (x_xs E ((x_w (l3 + 2))).toNat).toInt), (0, (x_xs E ((x_w (l3 + 3))).toNat).toInt)] [] zM1 (fun r zM3 => ∃ zr4, r = some (0, zr4) ∧ (zr2 = zr4 → x_Ev l E (13, mc + 2, ms + 42) m_L_law 1994 [(180, 0), (20, 5), (21, 103), (0, l3)] [] zM3 Q) ∧ (¬ zr2 = zr4 → Q (some (0, 0)) zM3)))) : x_Ev l E (13, mc + 2, ms + 42) m_L_law 1846 [(180, 0), (20, 5), (21, 103), (0, l3)] [] M Q := by
  refine i_aload_n 1336 rfl rfl (by decide) ?_
  refine i_aload_n 1337 rfl rfl (by decide) ?_
  refine i_iload_n 1338 rfl rfl ?_
  refine i_iconst 1339 rfl (by decide) ?_
  refine i_iadd 1340 rfl ?_
  refine i_scr 1341 rfl h.1.1 h.1.2 ?_
  replace h := h.2
  refine i_aload_n 1342 rfl rfl (by decide) ?_
  refine i_iload_n 1343 rfl rfl ?_
  refine i_iconst 1344 rfl (by decide) ?_
  refine i_iadd 1345 rfl ?_
  refine i_scr 1346 rfl h.1.1 h.1.2 ?_
  replace h := h.2
  refine i_aload_n 1347 rfl rfl (by decide) ?_
  refine i_iload_n 1348 rfl rfl ?_
  refine i_iconst 1349 rfl (by decide) ?_
  refine i_iadd 1350 rfl ?_
  refine i_scr 1351 rfl h.1.1 h.1.2 ?_
  replace h := h.2
  refine i_callV (c := 10) (y1 := m_X10_hold) (z1 := (2, 0, 0)) (z2 := (13, mc + 2, ms + 42)) [(0, (x_xs E ((x_w (l3 + 1))).toNat).toInt), (0, (x_xs E ((x_w (l3 + 2))).toNat).toInt), (0, (x_xs E ((x_w (l3 + 3))).toNat).toInt)] 1352 rfl ml_982 ok_X10_hold vk_X10_hold ⟨by decide, rfl⟩ rfl ⟨rfl, Nat.le_of_ble_eq_true rfl⟩ (Nat.le_of_ble_eq_true rfl) ⟨Nat.le_of_ble_eq_true rfl, rfl, by dsimp only; omega, by dsimp only; omega⟩ ?_
  refine h.mono (fun r zM1 h => ?_)
  obtain ⟨zr2, rfl, h⟩ := h
  simp only [Option.toList_some, Option.toList_none, List.cons_append, List.nil_append]
  refine i_aload_n 1353 rfl rfl (by decide) ?_
  refine i_aload_n 1354 rfl rfl (by decide) ?_
  refine i_iload_n 1355 rfl rfl ?_
  refine i_iconst 1356 rfl (by decide) ?_
  refine i_iadd 1357 rfl ?_
  refine i_scr 1358 rfl h.1.1 h.1.2 ?_
  replace h := h.2
  refine i_aload_n 1359 rfl rfl (by decide) ?_
  refine i_iload_n 1360 rfl rfl ?_
  refine i_iconst 1361 rfl (by decide) ?_
  refine i_iadd 1362 rfl ?_
  refine i_scr 1363 rfl h.1.1 h.1.2 ?_
  replace h := h.2
  refine i_aload_n 1364 rfl rfl (by decide) ?_
  refine i_iload_n 1365 rfl rfl ?_
  refine i_iconst 1366 rfl (by decide) ?_
  refine i_iadd 1367 rfl ?_
  refine i_scr 1368 rfl h.1.1 h.1.2 ?_
  replace h := h.2
  refine i_callV (c := 11) (y1 := m_X11_hold) (z1 := (3, 0, 0)) (z2 := (13, mc + 2, ms + 42)) [(0, (x_xs E ((x_w (l3 + 1))).toNat).toInt), (0, (x_xs E ((x_w (l3 + 2))).toNat).toInt), (0, (x_xs E ((x_w (l3 + 3))).toNat).toInt)] 1369 rfl ml_1737 ok_X11_hold vk_X11_hold ⟨by decide, rfl⟩ rfl ⟨rfl, Nat.le_of_ble_eq_true rfl⟩ (Nat.le_of_ble_eq_true rfl) ⟨Nat.le_of_ble_eq_true rfl, rfl, by dsimp only; omega, by dsimp only; omega⟩ ?_
  refine h.mono (fun r zM3 h => ?_)
  obtain ⟨zr4, rfl, h⟩ := h
  simp only [Option.toList_some, Option.toList_none, List.cons_append, List.nil_append]
  refine i_icmp_eq 1994 1370 rfl (by decide) (fun c => ?_) (fun c => ?_)
  · replace h := h.1 c
    exact h
  · replace h := h.2 c
    refine i_iconst 1371 rfl (by decide) ?_
    exact i_zreturn 1372 rfl rfl (by decide) h
set_option maxRecDepth 100000 in
theorem u_L_law_1889 {l : Launch} {E : xE} (mc ms : Nat) (l3 : Int) {M : xM} {Q : Option xV → xM → Prop} (h : ((0 : Int) ≤ (x_w (l3 + 1)) ∧ ((x_w (l3 + 1)) : Int) < x_L E) ∧ ((0 : Int) ≤ (x_w (l3 + 2)) ∧ ((x_w (l3 + 2)) : Int) < x_L E) ∧ x_Ev l E (2, 0, 0) m_X10_taken 0 [(20, 5), (0, (x_xs E ((x_w (l3 + 1))).toNat).toInt), (0, (x_xs E ((x_w (l3 + 2))).toNat).toInt), (5, 0), (5, 0)] [] M (fun r zM1 => ∃ zr2, r = some (0, zr2) ∧ ((0 : Int) ≤ (x_w (l3 + 1)) ∧ ((x_w (l3 + 1)) : Int) < x_L E) ∧ ((0 : Int) ≤ (x_w (l3 + 2)) ∧ ((x_w (l3 + 2)) : Int) < x_L E) ∧ x_Ev l E (2, 0, 0) m_X11_taken 0 [(21, 103), (0, (x_xs E ((x_w (l3 + 1))).toNat).toInt), (0, (x_xs E ((x_w (l3 + 2))).toNat).toInt), (5, 0)] [] zM1 (fun r zM3 => ∃ zr4, r = some (0, zr4) ∧ (zr2 = zr4 → x_Ev l E (13, mc + 2, ms + 42) m_L_law 1994 [(180, 0), (20, 5), (21, 103), (0, l3)] [] zM3 Q) ∧ (¬ zr2 = zr4 → Q (some (0, 0)) zM3)))) : x_Ev l E (13, mc + 2, ms + 42) m_L_law 1889 [(180, 0), (20, 5), (21, 103), (0, l3)] [] M Q := by
  refine i_aload_n 1373 rfl rfl (by decide) ?_
  refine i_aload_n 1374 rfl rfl (by decide) ?_
  refine i_iload_n 1375 rfl rfl ?_
  refine i_iconst 1376 rfl (by decide) ?_
  refine i_iadd 1377 rfl ?_
  refine i_scr 1378 rfl h.1.1 h.1.2 ?_
  replace h := h.2
  refine i_aload_n 1379 rfl rfl (by decide) ?_
  refine i_iload_n 1380 rfl rfl ?_
  refine i_iconst 1381 rfl (by decide) ?_
  refine i_iadd 1382 rfl ?_
  refine i_scr 1383 rfl h.1.1 h.1.2 ?_
  replace h := h.2
  refine i_callV (c := 10) (y1 := m_X10_taken) (z1 := (2, 0, 0)) (z2 := (13, mc + 2, ms + 42)) [(0, (x_xs E ((x_w (l3 + 1))).toNat).toInt), (0, (x_xs E ((x_w (l3 + 2))).toNat).toInt)] 1384 rfl ml_995 ok_X10_taken vk_X10_taken ⟨by decide, rfl⟩ rfl ⟨rfl, Nat.le_of_ble_eq_true rfl⟩ (Nat.le_of_ble_eq_true rfl) ⟨Nat.le_of_ble_eq_true rfl, rfl, by dsimp only; omega, by dsimp only; omega⟩ ?_
  refine h.mono (fun r zM1 h => ?_)
  obtain ⟨zr2, rfl, h⟩ := h
  simp only [Option.toList_some, Option.toList_none, List.cons_append, List.nil_append]
  refine i_aload_n 1385 rfl rfl (by decide) ?_
  refine i_aload_n 1386 rfl rfl (by decide) ?_
  refine i_iload_n 1387 rfl rfl ?_
  refine i_iconst 1388 rfl (by decide) ?_
  refine i_iadd 1389 rfl ?_
  refine i_scr 1390 rfl h.1.1 h.1.2 ?_
  replace h := h.2
  refine i_aload_n 1391 rfl rfl (by decide) ?_
  refine i_iload_n 1392 rfl rfl ?_
  refine i_iconst 1393 rfl (by decide) ?_
  refine i_iadd 1394 rfl ?_
  refine i_scr 1395 rfl h.1.1 h.1.2 ?_
  replace h := h.2
  refine i_callV (c := 11) (y1 := m_X11_taken) (z1 := (2, 0, 0)) (z2 := (13, mc + 2, ms + 42)) [(0, (x_xs E ((x_w (l3 + 1))).toNat).toInt), (0, (x_xs E ((x_w (l3 + 2))).toNat).toInt)] 1396 rfl ml_1741 ok_X11_taken vk_X11_taken ⟨by decide, rfl⟩ rfl ⟨rfl, Nat.le_of_ble_eq_true rfl⟩ (Nat.le_of_ble_eq_true rfl) ⟨Nat.le_of_ble_eq_true rfl, rfl, by dsimp only; omega, by dsimp only; omega⟩ ?_
  refine h.mono (fun r zM3 h => ?_)
  obtain ⟨zr4, rfl, h⟩ := h
  simp only [Option.toList_some, Option.toList_none, List.cons_append, List.nil_append]
  refine i_icmp_eq 1994 1397 rfl (by decide) (fun c => ?_) (fun c => ?_)
  · replace h := h.1 c
    exact h
  · replace h := h.2 c
    refine i_iconst 1398 rfl (by decide) ?_
    exact i_zreturn 1399 rfl rfl (by decide) h
set_option maxRecDepth 100000 in
theorem u_L_law_1922 {l : Launch} {E : xE} (mc ms : Nat) (l3 : Int) {M : xM} {Q : Option xV → xM → Prop} (h : x_Ev l E (4, 0, 0) m_X10_image 0 [(20, 5)] [] M (fun r zM1 => ∃ zr2, r = some (0, zr2) ∧ x_Ev l E (2, 0, 0) m_X11_image 0 [(21, 103), (5, 0)] [] zM1 (fun r zM3 => ∃ zr4, r = some (0, zr4) ∧ (zr2 = zr4 → x_Ev l E (13, mc + 2, ms + 42) m_L_law 1994 [(180, 0), (20, 5), (21, 103), (0, l3)] [] zM3 Q) ∧ (¬ zr2 = zr4 → Q (some (0, 0)) zM3)))) : x_Ev l E (13, mc + 2, ms + 42) m_L_law 1922 [(180, 0), (20, 5), (21, 103), (0, l3)] [] M Q := by
  refine i_aload_n 1400 rfl rfl (by decide) ?_
  refine i_callV (c := 10) (y1 := m_X10_image) (z1 := (4, 0, 0)) (z2 := (13, mc + 2, ms + 42)) [] 1401 rfl ml_1009 ok_X10_image vk_X10_image ⟨by decide, rfl⟩ rfl ⟨rfl, Nat.le_of_ble_eq_true rfl⟩ (Nat.le_of_ble_eq_true rfl) ⟨Nat.le_of_ble_eq_true rfl, rfl, by dsimp only; omega, by dsimp only; omega⟩ ?_
  refine h.mono (fun r zM1 h => ?_)
  obtain ⟨zr2, rfl, h⟩ := h
  simp only [Option.toList_some, Option.toList_none, List.cons_append, List.nil_append]
  refine i_aload_n 1402 rfl rfl (by decide) ?_
  refine i_callV (c := 11) (y1 := m_X11_image) (z1 := (2, 0, 0)) (z2 := (13, mc + 2, ms + 42)) [] 1403 rfl ml_1754 ok_X11_image vk_X11_image ⟨by decide, rfl⟩ rfl ⟨rfl, Nat.le_of_ble_eq_true rfl⟩ (Nat.le_of_ble_eq_true rfl) ⟨Nat.le_of_ble_eq_true rfl, rfl, by dsimp only; omega, by dsimp only; omega⟩ ?_
  refine h.mono (fun r zM3 h => ?_)
  obtain ⟨zr4, rfl, h⟩ := h
  simp only [Option.toList_some, Option.toList_none, List.cons_append, List.nil_append]
  refine i_icmp_eq 1994 1404 rfl (by decide) (fun c => ?_) (fun c => ?_)
  · replace h := h.1 c
    exact h
  · replace h := h.2 c
    refine i_iconst 1405 rfl (by decide) ?_
    exact i_zreturn 1406 rfl rfl (by decide) h
set_option maxRecDepth 100000 in
theorem u_L_law_1935 {l : Launch} {E : xE} (mc ms : Nat) (l3 : Int) {M : xM} {Q : Option xV → xM → Prop} (h : x_Ev l E (5, 0, 0) m_X10_back 0 [(20, 5), (5, 0)] [] M (fun r zM1 => ∃ zr2, r = some (0, zr2) ∧ x_Ev l E (2, 0, 0) m_X11_back 0 [(21, 103), (5, 0)] [] zM1 (fun r zM3 => ∃ zr4, r = some (0, zr4) ∧ (zr2 = zr4 → x_Ev l E (13, mc + 2, ms + 42) m_L_law 1994 [(180, 0), (20, 5), (21, 103), (0, l3)] [] zM3 Q) ∧ (¬ zr2 = zr4 → Q (some (0, 0)) zM3)))) : x_Ev l E (13, mc + 2, ms + 42) m_L_law 1935 [(180, 0), (20, 5), (21, 103), (0, l3)] [] M Q := by
  refine i_aload_n 1407 rfl rfl (by decide) ?_
  refine i_callV (c := 10) (y1 := m_X10_back) (z1 := (5, 0, 0)) (z2 := (13, mc + 2, ms + 42)) [] 1408 rfl ml_1019 ok_X10_back vk_X10_back ⟨by decide, rfl⟩ rfl ⟨rfl, Nat.le_of_ble_eq_true rfl⟩ (Nat.le_of_ble_eq_true rfl) ⟨Nat.le_of_ble_eq_true rfl, rfl, by dsimp only; omega, by dsimp only; omega⟩ ?_
  refine h.mono (fun r zM1 h => ?_)
  obtain ⟨zr2, rfl, h⟩ := h
  simp only [Option.toList_some, Option.toList_none, List.cons_append, List.nil_append]
  refine i_aload_n 1409 rfl rfl (by decide) ?_
  refine i_callV (c := 11) (y1 := m_X11_back) (z1 := (2, 0, 0)) (z2 := (13, mc + 2, ms + 42)) [] 1410 rfl ml_1761 ok_X11_back vk_X11_back ⟨by decide, rfl⟩ rfl ⟨rfl, Nat.le_of_ble_eq_true rfl⟩ (Nat.le_of_ble_eq_true rfl) ⟨Nat.le_of_ble_eq_true rfl, rfl, by dsimp only; omega, by dsimp only; omega⟩ ?_
  refine h.mono (fun r zM3 h => ?_)
  obtain ⟨zr4, rfl, h⟩ := h
  simp only [Option.toList_some, Option.toList_none, List.cons_append, List.nil_append]
  refine i_icmp_eq 1994 1411 rfl (by decide) (fun c => ?_) (fun c => ?_)
  · replace h := h.1 c
    exact h
  · replace h := h.2 c
    refine i_iconst 1412 rfl (by decide) ?_
    exact i_zreturn 1413 rfl rfl (by decide) h
set_option maxRecDepth 100000 in
theorem u_L_law_1948 {l : Launch} {E : xE} (mc ms : Nat) (l3 : Int) {M : xM} {Q : Option xV → xM → Prop} (h : ((0 : Int) ≤ (x_w (l3 + 1)) ∧ ((x_w (l3 + 1)) : Int) < x_L E) ∧ x_Ev l E (6, 0, 0) m_X10_count 0 [(20, 5), (0, (x_xs E ((x_w (l3 + 1))).toNat).toInt)] [] M (fun r zM1 => ∃ zr2, r = some (0, zr2) ∧ ((0 : Int) ≤ (x_w (l3 + 1)) ∧ ((x_w (l3 + 1)) : Int) < x_L E) ∧ x_Ev l E (11, 0, 0) m_X11_count 0 [(21, 103), (0, (x_xs E ((x_w (l3 + 1))).toNat).toInt)] [] zM1 (fun r zM3 => ∃ zr4, r = some (0, zr4) ∧ (zr2 = zr4 → x_Ev l E (13, mc + 2, ms + 42) m_L_law 1994 [(180, 0), (20, 5), (21, 103), (0, l3)] [] zM3 Q) ∧ (¬ zr2 = zr4 → Q (some (0, 0)) zM3)))) : x_Ev l E (13, mc + 2, ms + 42) m_L_law 1948 [(180, 0), (20, 5), (21, 103), (0, l3)] [] M Q := by
  refine i_aload_n 1414 rfl rfl (by decide) ?_
  refine i_aload_n 1415 rfl rfl (by decide) ?_
  refine i_iload_n 1416 rfl rfl ?_
  refine i_iconst 1417 rfl (by decide) ?_
  refine i_iadd 1418 rfl ?_
  refine i_scr 1419 rfl h.1.1 h.1.2 ?_
  replace h := h.2
  refine i_callV (c := 10) (y1 := m_X10_count) (z1 := (6, 0, 0)) (z2 := (13, mc + 2, ms + 42)) [(0, (x_xs E ((x_w (l3 + 1))).toNat).toInt)] 1420 rfl ml_1023 ok_X10_count vk_X10_count ⟨by decide, rfl⟩ rfl ⟨rfl, Nat.le_of_ble_eq_true rfl⟩ (Nat.le_of_ble_eq_true rfl) ⟨Nat.le_of_ble_eq_true rfl, rfl, by dsimp only; omega, by dsimp only; omega⟩ ?_
  refine h.mono (fun r zM1 h => ?_)
  obtain ⟨zr2, rfl, h⟩ := h
  simp only [Option.toList_some, Option.toList_none, List.cons_append, List.nil_append]
  refine i_aload_n 1421 rfl rfl (by decide) ?_
  refine i_aload_n 1422 rfl rfl (by decide) ?_
  refine i_iload_n 1423 rfl rfl ?_
  refine i_iconst 1424 rfl (by decide) ?_
  refine i_iadd 1425 rfl ?_
  refine i_scr 1426 rfl h.1.1 h.1.2 ?_
  replace h := h.2
  refine i_callV (c := 11) (y1 := m_X11_count) (z1 := (11, 0, 0)) (z2 := (13, mc + 2, ms + 42)) [(0, (x_xs E ((x_w (l3 + 1))).toNat).toInt)] 1427 rfl ml_1765 ok_X11_count vk_X11_count ⟨by decide, rfl⟩ rfl ⟨rfl, Nat.le_of_ble_eq_true rfl⟩ (Nat.le_of_ble_eq_true rfl) ⟨Nat.le_of_ble_eq_true rfl, rfl, by dsimp only; omega, by dsimp only; omega⟩ ?_
  refine h.mono (fun r zM3 h => ?_)
  obtain ⟨zr4, rfl, h⟩ := h
  simp only [Option.toList_some, Option.toList_none, List.cons_append, List.nil_append]
  refine i_icmp_eq 1994 1428 rfl (by decide) (fun c => ?_) (fun c => ?_)
  · replace h := h.1 c
    exact h
  · replace h := h.2 c
    refine i_iconst 1429 rfl (by decide) ?_
    exact i_zreturn 1430 rfl rfl (by decide) h
set_option maxRecDepth 100000 in
theorem u_L_law_1971 {l : Launch} {E : xE} (mc ms : Nat) (l3 : Int) {M : xM} {Q : Option xV → xM → Prop} (h : ((0 : Int) ≤ (x_w (l3 + 1)) ∧ ((x_w (l3 + 1)) : Int) < x_L E) ∧ x_Ev l E (2, 0, 0) m_X10_status 0 [(20, 5), (0, (x_xs E ((x_w (l3 + 1))).toNat).toInt), (5, 0), (5, 0), (5, 0), (5, 0), (5, 0)] [] M (fun r zM1 => ∃ zr2, r = some (0, zr2) ∧ ((0 : Int) ≤ (x_w (l3 + 1)) ∧ ((x_w (l3 + 1)) : Int) < x_L E) ∧ x_Ev l E (2, 0, 0) m_X11_status 0 [(21, 103), (0, (x_xs E ((x_w (l3 + 1))).toNat).toInt), (5, 0), (5, 0)] [] zM1 (fun r zM3 => ∃ zr4, r = some (0, zr4) ∧ (zr2 = zr4 → x_Ev l E (13, mc + 2, ms + 42) m_L_law 1994 [(180, 0), (20, 5), (21, 103), (0, l3)] [] zM3 Q) ∧ (¬ zr2 = zr4 → Q (some (0, 0)) zM3)))) : x_Ev l E (13, mc + 2, ms + 42) m_L_law 1971 [(180, 0), (20, 5), (21, 103), (0, l3)] [] M Q := by
  refine i_aload_n 1431 rfl rfl (by decide) ?_
  refine i_aload_n 1432 rfl rfl (by decide) ?_
  refine i_iload_n 1433 rfl rfl ?_
  refine i_iconst 1434 rfl (by decide) ?_
  refine i_iadd 1435 rfl ?_
  refine i_scr 1436 rfl h.1.1 h.1.2 ?_
  replace h := h.2
  refine i_callV (c := 10) (y1 := m_X10_status) (z1 := (2, 0, 0)) (z2 := (13, mc + 2, ms + 42)) [(0, (x_xs E ((x_w (l3 + 1))).toNat).toInt)] 1437 rfl ml_1031 ok_X10_status vk_X10_status ⟨by decide, rfl⟩ rfl ⟨rfl, Nat.le_of_ble_eq_true rfl⟩ (Nat.le_of_ble_eq_true rfl) ⟨Nat.le_of_ble_eq_true rfl, rfl, by dsimp only; omega, by dsimp only; omega⟩ ?_
  refine h.mono (fun r zM1 h => ?_)
  obtain ⟨zr2, rfl, h⟩ := h
  simp only [Option.toList_some, Option.toList_none, List.cons_append, List.nil_append]
  refine i_aload_n 1438 rfl rfl (by decide) ?_
  refine i_aload_n 1439 rfl rfl (by decide) ?_
  refine i_iload_n 1440 rfl rfl ?_
  refine i_iconst 1441 rfl (by decide) ?_
  refine i_iadd 1442 rfl ?_
  refine i_scr 1443 rfl h.1.1 h.1.2 ?_
  replace h := h.2
  refine i_callV (c := 11) (y1 := m_X11_status) (z1 := (2, 0, 0)) (z2 := (13, mc + 2, ms + 42)) [(0, (x_xs E ((x_w (l3 + 1))).toNat).toInt)] 1444 rfl ml_1773 ok_X11_status vk_X11_status ⟨by decide, rfl⟩ rfl ⟨rfl, Nat.le_of_ble_eq_true rfl⟩ (Nat.le_of_ble_eq_true rfl) ⟨Nat.le_of_ble_eq_true rfl, rfl, by dsimp only; omega, by dsimp only; omega⟩ ?_
  refine h.mono (fun r zM3 h => ?_)
  obtain ⟨zr4, rfl, h⟩ := h
  simp only [Option.toList_some, Option.toList_none, List.cons_append, List.nil_append]
  refine i_icmp_eq 1994 1445 rfl (by decide) (fun c => ?_) (fun c => ?_)
  · replace h := h.1 c
    exact h
  · replace h := h.2 c
    refine i_iconst 1446 rfl (by decide) ?_
    exact i_zreturn 1447 rfl rfl (by decide) h
set_option maxRecDepth 100000 in
theorem u_L_law_1994 {l : Launch} {E : xE} (mc ms : Nat) (l3 : Int) {M : xM} {Q : Option xV → xM → Prop} (h : ∀ zv1 : Int, zv1 = x_w (l3 + 6) → x_Ev l E (13, mc + 2, ms + 42) m_L_law 18 [(180, 0), (20, 5), (21, 103), (0, zv1)] [] M Q) : x_Ev l E (13, mc + 2, ms + 42) m_L_law 1994 [(180, 0), (20, 5), (21, 103), (0, l3)] [] M Q := by
  replace h := h _ rfl
  refine i_iinc 1448 rfl rfl (by decide) rfl ?_
  refine i_goto 18 1449 rfl (by decide) ?_
  exact h
