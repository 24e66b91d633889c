/-! Printed by wip/whole/tools/gen_ctor.py: the constructor of the reference, the law to its loop -/
theorem c_LeaderTermsModel_103 {l : Launch} {E : xE} {Q : Nat → (Nat → gC) → Prop} (k : Q 593 gs_188) : g_Ev l E (1, 489, 3423) m_X11_init 0 [(2, ((103 : Nat) : Int))] [] 104 gs_111 (g_QQ E Q) := by
  refine j_aload 0 rfl rfl ?_
  refine j_obj (a := 103) 1 rfl gw_1155 (Nat.le_of_ble_eq_true rfl) ?_
  show g_Ev l E (1, 489, 3423) m_X11_init 4 [(2, ((103 : Nat) : Int))] [] 104 gs_111 (g_QQ E Q)
  refine j_aload 2 rfl rfl ?_
  refine j_iconst 3 rfl ?_
  refine j_newa (n := 104) (g := gs_111) (t := 0) (N := 3) (z2 := (1, 488, 3420)) 4 rfl (Or.inl ⟨rfl, rfl⟩) (Nat.le_of_ble_eq_true rfl) ⟨rfl, rfl, rfl⟩ ?_
  show g_Ev l E (1, 488, 3420) m_X11_init 8 [(2, ((103 : Nat) : Int))] [(2, ((104 : Nat) : Int)), (2, ((103 : Nat) : Int))] 105 gs_112 (g_QQ E Q)
  refine j_putf (n := 105) (g := gs_112) (c := 11) (kf := 1) (a := 103) (v := (2, ((104 : Nat) : Int))) 5 rfl (by decide) gf_1165 (Or.inr ⟨rfl, rfl, rfl⟩) ⟨Nat.le_of_ble_eq_true rfl, Nat.le_of_ble_eq_true rfl⟩ (by decide +kernel) (g_fitR rfl 104) ?_
  show g_Ev l E (1, 488, 3420) m_X11_init 11 [(2, ((103 : Nat) : Int))] [] 105 gs_113 (g_QQ E Q)
  refine j_aload 6 rfl rfl ?_
  refine j_iconst 7 rfl ?_
  refine j_newa (n := 105) (g := gs_113) (t := 0) (N := 3) (z2 := (1, 487, 3417)) 8 rfl (Or.inl ⟨rfl, rfl⟩) (Nat.le_of_ble_eq_true rfl) ⟨rfl, rfl, rfl⟩ ?_
  show g_Ev l E (1, 487, 3417) m_X11_init 15 [(2, ((103 : Nat) : Int))] [(2, ((105 : Nat) : Int)), (2, ((103 : Nat) : Int))] 106 gs_114 (g_QQ E Q)
  refine j_putf (n := 106) (g := gs_114) (c := 11) (kf := 2) (a := 103) (v := (2, ((105 : Nat) : Int))) 9 rfl (by decide) gf_1166 (Or.inr ⟨rfl, rfl, rfl⟩) ⟨Nat.le_of_ble_eq_true rfl, Nat.le_of_ble_eq_true rfl⟩ (by decide +kernel) (g_fitR rfl 105) ?_
  show g_Ev l E (1, 487, 3417) m_X11_init 18 [(2, ((103 : Nat) : Int))] [] 106 gs_115 (g_QQ E Q)
  refine j_aload 10 rfl rfl ?_
  refine j_iconst 11 rfl ?_
  refine j_newa (n := 106) (g := gs_115) (t := 0) (N := 3) (z2 := (1, 486, 3414)) 12 rfl (Or.inl ⟨rfl, rfl⟩) (Nat.le_of_ble_eq_true rfl) ⟨rfl, rfl, rfl⟩ ?_
  show g_Ev l E (1, 486, 3414) m_X11_init 22 [(2, ((103 : Nat) : Int))] [(2, ((106 : Nat) : Int)), (2, ((103 : Nat) : Int))] 107 gs_116 (g_QQ E Q)
  refine j_putf (n := 107) (g := gs_116) (c := 11) (kf := 3) (a := 103) (v := (2, ((106 : Nat) : Int))) 13 rfl (by decide) gf_1167 (Or.inr ⟨rfl, rfl, rfl⟩) ⟨Nat.le_of_ble_eq_true rfl, Nat.le_of_ble_eq_true rfl⟩ (by decide +kernel) (g_fitR rfl 106) ?_
  show g_Ev l E (1, 486, 3414) m_X11_init 25 [(2, ((103 : Nat) : Int))] [] 107 gs_117 (g_QQ E Q)
  refine j_aload 14 rfl rfl ?_
  refine j_iconst 15 rfl ?_
  refine j_newa (n := 107) (g := gs_117) (t := 0) (N := 3) (z2 := (1, 485, 3411)) 16 rfl (Or.inl ⟨rfl, rfl⟩) (Nat.le_of_ble_eq_true rfl) ⟨rfl, rfl, rfl⟩ ?_
  show g_Ev l E (1, 485, 3411) m_X11_init 29 [(2, ((103 : Nat) : Int))] [(2, ((107 : Nat) : Int)), (2, ((103 : Nat) : Int))] 108 gs_118 (g_QQ E Q)
  refine j_putf (n := 108) (g := gs_118) (c := 11) (kf := 4) (a := 103) (v := (2, ((107 : Nat) : Int))) 17 rfl (by decide) gf_1168 (Or.inr ⟨rfl, rfl, rfl⟩) ⟨Nat.le_of_ble_eq_true rfl, Nat.le_of_ble_eq_true rfl⟩ (by decide +kernel) (g_fitR rfl 107) ?_
  show g_Ev l E (1, 485, 3411) m_X11_init 32 [(2, ((103 : Nat) : Int))] [] 108 gs_119 (g_QQ E Q)
  refine j_aload 18 rfl rfl ?_
  refine j_iconst 19 rfl ?_
  refine j_iconst 20 rfl ?_
  refine j_iconst 21 rfl ?_
  refine j_mul3 (n := 108) (g := gs_119) (t := 7) (t1 := 6) (t2 := 0) (N1 := 3) (N2 := 3) (N3 := 3) (cn1 := 4) (cn := 13) (ty := .int) (z2 := (1, 472, 3372)) 22 rfl gw_1156 (by decide +kernel) gw_1157 gw_1158 ⟨by decide, by decide⟩ (fun _ => rfl) (fun _ => rfl) (Or.inl ⟨rfl, rfl⟩) ⟨Nat.le_of_ble_eq_true rfl, Nat.le_of_ble_eq_true rfl, Nat.le_of_ble_eq_true rfl⟩ ⟨rfl, rfl⟩ ⟨rfl, rfl, rfl⟩ ?_
  show g_Ev l E (1, 472, 3372) m_X11_init 40 [(2, ((103 : Nat) : Int))] [(2, ((108 : Nat) : Int)), (2, ((103 : Nat) : Int))] 121 gs_120 (g_QQ E Q)
  refine j_putf (n := 121) (g := gs_120) (c := 11) (kf := 5) (a := 103) (v := (2, ((108 : Nat) : Int))) 23 rfl (by decide) gf_1169 (Or.inr ⟨rfl, rfl, rfl⟩) ⟨Nat.le_of_ble_eq_true rfl, Nat.le_of_ble_eq_true rfl⟩ (by decide +kernel) (g_fitR rfl 108) ?_
  show g_Ev l E (1, 472, 3372) m_X11_init 43 [(2, ((103 : Nat) : Int))] [] 121 gs_121 (g_QQ E Q)
  refine j_aload 24 rfl rfl ?_
  refine j_iconst 25 rfl ?_
  refine j_iconst 26 rfl ?_
  refine j_iconst 27 rfl ?_
  refine j_mul3 (n := 121) (g := gs_121) (t := 7) (t1 := 6) (t2 := 0) (N1 := 3) (N2 := 4) (N3 := 3) (cn1 := 5) (cn := 16) (ty := .int) (z2 := (1, 456, 3321)) 28 rfl gw_1156 (by decide +kernel) gw_1157 gw_1158 ⟨by decide, by decide⟩ (fun _ => rfl) (fun _ => rfl) (Or.inl ⟨rfl, rfl⟩) ⟨Nat.le_of_ble_eq_true rfl, Nat.le_of_ble_eq_true rfl, Nat.le_of_ble_eq_true rfl⟩ ⟨rfl, rfl⟩ ⟨rfl, rfl, rfl⟩ ?_
  show g_Ev l E (1, 456, 3321) m_X11_init 51 [(2, ((103 : Nat) : Int))] [(2, ((121 : Nat) : Int)), (2, ((103 : Nat) : Int))] 137 gs_122 (g_QQ E Q)
  refine j_putf (n := 137) (g := gs_122) (c := 11) (kf := 6) (a := 103) (v := (2, ((121 : Nat) : Int))) 29 rfl (by decide) gf_1170 (Or.inr ⟨rfl, rfl, rfl⟩) ⟨Nat.le_of_ble_eq_true rfl, Nat.le_of_ble_eq_true rfl⟩ (by decide +kernel) (g_fitR rfl 121) ?_
  show g_Ev l E (1, 456, 3321) m_X11_init 54 [(2, ((103 : Nat) : Int))] [] 137 gs_123 (g_QQ E Q)
  refine j_aload 30 rfl rfl ?_
  refine j_iconst 31 rfl ?_
  refine j_iconst 32 rfl ?_
  refine j_mul2 (n := 137) (g := gs_123) (t := 6) (t1 := 0) (N1 := 3) (N2 := 4) (cn := 4) (ty := .int) (z2 := (1, 452, 3306)) 33 rfl gw_1159 (by decide +kernel) gw_1158 (by decide) (fun _ => rfl) (Or.inl ⟨rfl, rfl⟩) ⟨Nat.le_of_ble_eq_true rfl, Nat.le_of_ble_eq_true rfl⟩ rfl ⟨rfl, rfl, rfl⟩ ?_
  show g_Ev l E (1, 452, 3306) m_X11_init 61 [(2, ((103 : Nat) : Int))] [(2, ((137 : Nat) : Int)), (2, ((103 : Nat) : Int))] 141 gs_124 (g_QQ E Q)
  refine j_putf (n := 141) (g := gs_124) (c := 11) (kf := 7) (a := 103) (v := (2, ((137 : Nat) : Int))) 34 rfl (by decide) gf_1171 (Or.inr ⟨rfl, rfl, rfl⟩) ⟨Nat.le_of_ble_eq_true rfl, Nat.le_of_ble_eq_true rfl⟩ (by decide +kernel) (g_fitR rfl 137) ?_
  show g_Ev l E (1, 452, 3306) m_X11_init 64 [(2, ((103 : Nat) : Int))] [] 141 gs_125 (g_QQ E Q)
  refine j_aload 35 rfl rfl ?_
  refine j_bipush 36 rfl (by decide +kernel) ?_
  refine j_putf (n := 141) (g := gs_125) (c := 11) (kf := 8) (a := 103) (v := (0, 20)) 37 rfl (by decide) gf_1172 (Or.inl rfl) ⟨Nat.le_of_ble_eq_true rfl, Nat.le_of_ble_eq_true rfl⟩ (by decide +kernel) (fun _ => ⟨rfl, rfl⟩) ?_
  show g_Ev l E (1, 452, 3306) m_X11_init 70 [(2, ((103 : Nat) : Int))] [] 141 gs_126 (g_QQ E Q)
  refine j_aload 38 rfl rfl ?_
  refine j_lconst 1 39 rfl (by decide +kernel) ?_
  refine j_putf (n := 141) (g := gs_126) (c := 11) (kf := 10) (a := 103) (v := (1, 1)) 40 rfl (by decide) gf_1174 (Or.inl rfl) ⟨Nat.le_of_ble_eq_true rfl, Nat.le_of_ble_eq_true rfl⟩ (by decide +kernel) (fun _ => ⟨rfl, rfl⟩) ?_
  show g_Ev l E (1, 452, 3306) m_X11_init 75 [(2, ((103 : Nat) : Int))] [] 141 gs_127 (g_QQ E Q)
  refine j_aload 41 rfl rfl ?_
  refine j_iconst 42 rfl ?_
  refine j_putf (n := 141) (g := gs_127) (c := 11) (kf := 13) (a := 103) (v := (0, 1)) 43 rfl (by decide) gf_1177 (Or.inl rfl) ⟨Nat.le_of_ble_eq_true rfl, Nat.le_of_ble_eq_true rfl⟩ (by decide +kernel) (fun _ => ⟨rfl, rfl⟩) ?_
  show g_Ev l E (1, 452, 3306) m_X11_init 80 [(2, ((103 : Nat) : Int))] [] 141 gs_128 (g_QQ E Q)
  refine j_aload 44 rfl rfl ?_
  refine j_bipush 45 rfl (by decide +kernel) ?_
  refine j_newa (n := 141) (g := gs_128) (t := 0) (N := 8) (z2 := (1, 451, 3298)) 46 rfl (Or.inl ⟨rfl, rfl⟩) (Nat.le_of_ble_eq_true rfl) ⟨rfl, rfl, rfl⟩ ?_
  show g_Ev l E (1, 451, 3298) m_X11_init 85 [(2, ((103 : Nat) : Int))] [(2, ((141 : Nat) : Int)), (2, ((103 : Nat) : Int))] 142 gs_129 (g_QQ E Q)
  refine j_putf (n := 142) (g := gs_129) (c := 11) (kf := 14) (a := 103) (v := (2, ((141 : Nat) : Int))) 47 rfl (by decide) gf_1178 (Or.inr ⟨rfl, rfl, rfl⟩) ⟨Nat.le_of_ble_eq_true rfl, Nat.le_of_ble_eq_true rfl⟩ (by decide +kernel) (g_fitR rfl 141) ?_
  show g_Ev l E (1, 451, 3298) m_X11_init 88 [(2, ((103 : Nat) : Int))] [] 142 gs_130 (g_QQ E Q)
  refine j_aload 48 rfl rfl ?_
  refine j_iconst 49 rfl ?_
  refine j_iconst 50 rfl ?_
  refine j_mul2 (n := 142) (g := gs_130) (t := 8) (t1 := 1) (N1 := 4) (N2 := 4) (cn := 5) (ty := .long) (z2 := (1, 446, 3278)) 51 rfl gw_1160 (by decide +kernel) gw_1161 (by decide) (fun _ => rfl) (Or.inr ⟨rfl, rfl⟩) ⟨Nat.le_of_ble_eq_true rfl, Nat.le_of_ble_eq_true rfl⟩ rfl ⟨rfl, rfl, rfl⟩ ?_
  show g_Ev l E (1, 446, 3278) m_X11_init 95 [(2, ((103 : Nat) : Int))] [(2, ((142 : Nat) : Int)), (2, ((103 : Nat) : Int))] 147 gs_131 (g_QQ E Q)
  refine j_putf (n := 147) (g := gs_131) (c := 11) (kf := 18) (a := 103) (v := (2, ((142 : Nat) : Int))) 52 rfl (by decide) gf_1182 (Or.inr ⟨rfl, rfl, rfl⟩) ⟨Nat.le_of_ble_eq_true rfl, Nat.le_of_ble_eq_true rfl⟩ (by decide +kernel) (g_fitR rfl 142) ?_
  show g_Ev l E (1, 446, 3278) m_X11_init 98 [(2, ((103 : Nat) : Int))] [] 147 gs_132 (g_QQ E Q)
  refine j_aload 53 rfl rfl ?_
  refine j_iconst 54 rfl ?_
  refine j_newa (n := 147) (g := gs_132) (t := 1) (N := 4) (z2 := (1, 445, 3274)) 55 rfl (Or.inr ⟨rfl, rfl⟩) (Nat.le_of_ble_eq_true rfl) ⟨rfl, rfl, rfl⟩ ?_
  show g_Ev l E (1, 445, 3274) m_X11_init 102 [(2, ((103 : Nat) : Int))] [(2, ((147 : Nat) : Int)), (2, ((103 : Nat) : Int))] 148 gs_133 (g_QQ E Q)
  refine j_putf (n := 148) (g := gs_133) (c := 11) (kf := 19) (a := 103) (v := (2, ((147 : Nat) : Int))) 56 rfl (by decide) gf_1183 (Or.inr ⟨rfl, rfl, rfl⟩) ⟨Nat.le_of_ble_eq_true rfl, Nat.le_of_ble_eq_true rfl⟩ (by decide +kernel) (g_fitR rfl 147) ?_
  show g_Ev l E (1, 445, 3274) m_X11_init 105 [(2, ((103 : Nat) : Int))] [] 148 gs_134 (g_QQ E Q)
  refine j_aload 57 rfl rfl ?_
  refine j_iconst 58 rfl ?_
  refine j_newa (n := 148) (g := gs_134) (t := 1) (N := 4) (z2 := (1, 444, 3270)) 59 rfl (Or.inr ⟨rfl, rfl⟩) (Nat.le_of_ble_eq_true rfl) ⟨rfl, rfl, rfl⟩ ?_
  show g_Ev l E (1, 444, 3270) m_X11_init 109 [(2, ((103 : Nat) : Int))] [(2, ((148 : Nat) : Int)), (2, ((103 : Nat) : Int))] 149 gs_135 (g_QQ E Q)
  refine j_putf (n := 149) (g := gs_135) (c := 11) (kf := 20) (a := 103) (v := (2, ((148 : Nat) : Int))) 60 rfl (by decide) gf_1184 (Or.inr ⟨rfl, rfl, rfl⟩) ⟨Nat.le_of_ble_eq_true rfl, Nat.le_of_ble_eq_true rfl⟩ (by decide +kernel) (g_fitR rfl 148) ?_
  show g_Ev l E (1, 444, 3270) m_X11_init 112 [(2, ((103 : Nat) : Int))] [] 149 gs_136 (g_QQ E Q)
  refine j_aload 61 rfl rfl ?_
  refine j_iconst 62 rfl ?_
  refine j_newa (n := 149) (g := gs_136) (t := 0) (N := 3) (z2 := (1, 443, 3267)) 63 rfl (Or.inl ⟨rfl, rfl⟩) (Nat.le_of_ble_eq_true rfl) ⟨rfl, rfl, rfl⟩ ?_
  show g_Ev l E (1, 443, 3267) m_X11_init 116 [(2, ((103 : Nat) : Int))] [(2, ((149 : Nat) : Int)), (2, ((103 : Nat) : Int))] 150 gs_137 (g_QQ E Q)
  refine j_putf (n := 150) (g := gs_137) (c := 11) (kf := 21) (a := 103) (v := (2, ((149 : Nat) : Int))) 64 rfl (by decide) gf_1185 (Or.inr ⟨rfl, rfl, rfl⟩) ⟨Nat.le_of_ble_eq_true rfl, Nat.le_of_ble_eq_true rfl⟩ (by decide +kernel) (g_fitR rfl 149) ?_
  show g_Ev l E (1, 443, 3267) m_X11_init 119 [(2, ((103 : Nat) : Int))] [] 150 gs_138 (g_QQ E Q)
  refine j_aload 65 rfl rfl ?_
  refine j_iconst 66 rfl ?_
  refine j_bipush 67 rfl (by decide +kernel) ?_
  refine j_iconst 68 rfl ?_
  refine j_mul3 (n := 150) (g := gs_138) (t := 9) (t1 := 8) (t2 := 1) (N1 := 3) (N2 := 40) (N3 := 3) (cn1 := 41) (cn := 124) (ty := .long) (z2 := (1, 319, 2784)) 69 rfl gw_1162 (by decide +kernel) gw_1163 gw_1161 ⟨by decide, by decide⟩ (fun _ => rfl) (fun _ => rfl) (Or.inr ⟨rfl, rfl⟩) ⟨Nat.le_of_ble_eq_true rfl, Nat.le_of_ble_eq_true rfl, Nat.le_of_ble_eq_true rfl⟩ ⟨rfl, rfl⟩ ⟨rfl, rfl, rfl⟩ ?_
  show g_Ev l E (1, 319, 2784) m_X11_init 128 [(2, ((103 : Nat) : Int))] [(2, ((150 : Nat) : Int)), (2, ((103 : Nat) : Int))] 274 gs_139 (g_QQ E Q)
  refine j_putf (n := 274) (g := gs_139) (c := 11) (kf := 22) (a := 103) (v := (2, ((150 : Nat) : Int))) 70 rfl (by decide) gf_1186 (Or.inr ⟨rfl, rfl, rfl⟩) ⟨Nat.le_of_ble_eq_true rfl, Nat.le_of_ble_eq_true rfl⟩ (by decide +kernel) (g_fitR rfl 150) ?_
  show g_Ev l E (1, 319, 2784) m_X11_init 131 [(2, ((103 : Nat) : Int))] [] 274 gs_140 (g_QQ E Q)
  refine j_aload 71 rfl rfl ?_
  refine j_iconst 72 rfl ?_
  refine j_bipush 73 rfl (by decide +kernel) ?_
  refine j_mul2 (n := 274) (g := gs_140) (t := 8) (t1 := 1) (N1 := 3) (N2 := 40) (cn := 4) (ty := .long) (z2 := (1, 315, 2661)) 74 rfl gw_1160 (by decide +kernel) gw_1161 (by decide) (fun _ => rfl) (Or.inr ⟨rfl, rfl⟩) ⟨Nat.le_of_ble_eq_true rfl, Nat.le_of_ble_eq_true rfl⟩ rfl ⟨rfl, rfl, rfl⟩ ?_
  show g_Ev l E (1, 315, 2661) m_X11_init 139 [(2, ((103 : Nat) : Int))] [(2, ((274 : Nat) : Int)), (2, ((103 : Nat) : Int))] 278 gs_141 (g_QQ E Q)
  refine j_putf (n := 278) (g := gs_141) (c := 11) (kf := 23) (a := 103) (v := (2, ((274 : Nat) : Int))) 75 rfl (by decide) gf_1187 (Or.inr ⟨rfl, rfl, rfl⟩) ⟨Nat.le_of_ble_eq_true rfl, Nat.le_of_ble_eq_true rfl⟩ (by decide +kernel) (g_fitR rfl 274) ?_
  show g_Ev l E (1, 315, 2661) m_X11_init 142 [(2, ((103 : Nat) : Int))] [] 278 gs_142 (g_QQ E Q)
  refine j_aload 76 rfl rfl ?_
  refine j_iconst 77 rfl ?_
  refine j_bipush 78 rfl (by decide +kernel) ?_
  refine j_mul2 (n := 278) (g := gs_142) (t := 6) (t1 := 0) (N1 := 3) (N2 := 40) (cn := 4) (ty := .int) (z2 := (1, 311, 2538)) 79 rfl gw_1159 (by decide +kernel) gw_1158 (by decide) (fun _ => rfl) (Or.inl ⟨rfl, rfl⟩) ⟨Nat.le_of_ble_eq_true rfl, Nat.le_of_ble_eq_true rfl⟩ rfl ⟨rfl, rfl, rfl⟩ ?_
  show g_Ev l E (1, 311, 2538) m_X11_init 150 [(2, ((103 : Nat) : Int))] [(2, ((278 : Nat) : Int)), (2, ((103 : Nat) : Int))] 282 gs_143 (g_QQ E Q)
  refine j_putf (n := 282) (g := gs_143) (c := 11) (kf := 24) (a := 103) (v := (2, ((278 : Nat) : Int))) 80 rfl (by decide) gf_1188 (Or.inr ⟨rfl, rfl, rfl⟩) ⟨Nat.le_of_ble_eq_true rfl, Nat.le_of_ble_eq_true rfl⟩ (by decide +kernel) (g_fitR rfl 278) ?_
  show g_Ev l E (1, 311, 2538) m_X11_init 153 [(2, ((103 : Nat) : Int))] [] 282 gs_144 (g_QQ E Q)
  refine j_aload 81 rfl rfl ?_
  refine j_sipush 82 rfl (by decide +kernel) ?_
  refine j_newa (n := 282) (g := gs_144) (t := 1) (N := 200) (z2 := (1, 310, 2338)) 83 rfl (Or.inr ⟨rfl, rfl⟩) (Nat.le_of_ble_eq_true rfl) ⟨rfl, rfl, rfl⟩ ?_
  show g_Ev l E (1, 310, 2338) m_X11_init 159 [(2, ((103 : Nat) : Int))] [(2, ((282 : Nat) : Int)), (2, ((103 : Nat) : Int))] 283 gs_145 (g_QQ E Q)
  refine j_putf (n := 283) (g := gs_145) (c := 11) (kf := 26) (a := 103) (v := (2, ((282 : Nat) : Int))) 84 rfl (by decide) gf_1190 (Or.inr ⟨rfl, rfl, rfl⟩) ⟨Nat.le_of_ble_eq_true rfl, Nat.le_of_ble_eq_true rfl⟩ (by decide +kernel) (g_fitR rfl 282) ?_
  show g_Ev l E (1, 310, 2338) m_X11_init 162 [(2, ((103 : Nat) : Int))] [] 283 gs_146 (g_QQ E Q)
  refine j_aload 85 rfl rfl ?_
  refine j_sipush 86 rfl (by decide +kernel) ?_
  refine j_newa (n := 283) (g := gs_146) (t := 1) (N := 200) (z2 := (1, 309, 2138)) 87 rfl (Or.inr ⟨rfl, rfl⟩) (Nat.le_of_ble_eq_true rfl) ⟨rfl, rfl, rfl⟩ ?_
  show g_Ev l E (1, 309, 2138) m_X11_init 168 [(2, ((103 : Nat) : Int))] [(2, ((283 : Nat) : Int)), (2, ((103 : Nat) : Int))] 284 gs_147 (g_QQ E Q)
  refine j_putf (n := 284) (g := gs_147) (c := 11) (kf := 27) (a := 103) (v := (2, ((283 : Nat) : Int))) 88 rfl (by decide) gf_1191 (Or.inr ⟨rfl, rfl, rfl⟩) ⟨Nat.le_of_ble_eq_true rfl, Nat.le_of_ble_eq_true rfl⟩ (by decide +kernel) (g_fitR rfl 283) ?_
  show g_Ev l E (1, 309, 2138) m_X11_init 171 [(2, ((103 : Nat) : Int))] [] 284 gs_148 (g_QQ E Q)
  refine j_aload 89 rfl rfl ?_
  refine j_bipush 90 rfl (by decide +kernel) ?_
  refine j_iconst 91 rfl ?_
  refine j_mul2 (n := 284) (g := gs_148) (t := 8) (t1 := 1) (N1 := 40) (N2 := 4) (cn := 41) (ty := .long) (z2 := (1, 268, 1938)) 92 rfl gw_1160 (by decide +kernel) gw_1161 (by decide) (fun _ => rfl) (Or.inr ⟨rfl, rfl⟩) ⟨Nat.le_of_ble_eq_true rfl, Nat.le_of_ble_eq_true rfl⟩ rfl ⟨rfl, rfl, rfl⟩ ?_
  show g_Ev l E (1, 268, 1938) m_X11_init 179 [(2, ((103 : Nat) : Int))] [(2, ((284 : Nat) : Int)), (2, ((103 : Nat) : Int))] 325 gs_149 (g_QQ E Q)
  refine j_putf (n := 325) (g := gs_149) (c := 11) (kf := 34) (a := 103) (v := (2, ((284 : Nat) : Int))) 93 rfl (by decide) gf_1198 (Or.inr ⟨rfl, rfl, rfl⟩) ⟨Nat.le_of_ble_eq_true rfl, Nat.le_of_ble_eq_true rfl⟩ (by decide +kernel) (g_fitR rfl 284) ?_
  show g_Ev l E (1, 268, 1938) m_X11_init 182 [(2, ((103 : Nat) : Int))] [] 325 gs_150 (g_QQ E Q)
  refine j_aload 94 rfl rfl ?_
  refine j_bipush 95 rfl (by decide +kernel) ?_
  refine j_newa (n := 325) (g := gs_150) (t := 1) (N := 40) (z2 := (1, 267, 1898)) 96 rfl (Or.inr ⟨rfl, rfl⟩) (Nat.le_of_ble_eq_true rfl) ⟨rfl, rfl, rfl⟩ ?_
  show g_Ev l E (1, 267, 1898) m_X11_init 187 [(2, ((103 : Nat) : Int))] [(2, ((325 : Nat) : Int)), (2, ((103 : Nat) : Int))] 326 gs_151 (g_QQ E Q)
  refine j_putf (n := 326) (g := gs_151) (c := 11) (kf := 35) (a := 103) (v := (2, ((325 : Nat) : Int))) 97 rfl (by decide) gf_1199 (Or.inr ⟨rfl, rfl, rfl⟩) ⟨Nat.le_of_ble_eq_true rfl, Nat.le_of_ble_eq_true rfl⟩ (by decide +kernel) (g_fitR rfl 325) ?_
  show g_Ev l E (1, 267, 1898) m_X11_init 190 [(2, ((103 : Nat) : Int))] [] 326 gs_152 (g_QQ E Q)
  refine j_aload 98 rfl rfl ?_
  refine j_bipush 99 rfl (by decide +kernel) ?_
  refine j_newa (n := 326) (g := gs_152) (t := 0) (N := 40) (z2 := (1, 266, 1858)) 100 rfl (Or.inl ⟨rfl, rfl⟩) (Nat.le_of_ble_eq_true rfl) ⟨rfl, rfl, rfl⟩ ?_
  show g_Ev l E (1, 266, 1858) m_X11_init 195 [(2, ((103 : Nat) : Int))] [(2, ((326 : Nat) : Int)), (2, ((103 : Nat) : Int))] 327 gs_153 (g_QQ E Q)
  refine j_putf (n := 327) (g := gs_153) (c := 11) (kf := 36) (a := 103) (v := (2, ((326 : Nat) : Int))) 101 rfl (by decide) gf_1200 (Or.inr ⟨rfl, rfl, rfl⟩) ⟨Nat.le_of_ble_eq_true rfl, Nat.le_of_ble_eq_true rfl⟩ (by decide +kernel) (g_fitR rfl 326) ?_
  show g_Ev l E (1, 266, 1858) m_X11_init 198 [(2, ((103 : Nat) : Int))] [] 327 gs_154 (g_QQ E Q)
  refine j_aload 102 rfl rfl ?_
  refine j_iconst 103 rfl ?_
  refine j_newa (n := 327) (g := gs_154) (t := 0) (N := 4) (z2 := (1, 265, 1854)) 104 rfl (Or.inl ⟨rfl, rfl⟩) (Nat.le_of_ble_eq_true rfl) ⟨rfl, rfl, rfl⟩ ?_
  show g_Ev l E (1, 265, 1854) m_X11_init 202 [(2, ((103 : Nat) : Int))] [(2, ((327 : Nat) : Int)), (2, ((103 : Nat) : Int))] 328 gs_155 (g_QQ E Q)
  refine j_putf (n := 328) (g := gs_155) (c := 11) (kf := 40) (a := 103) (v := (2, ((327 : Nat) : Int))) 105 rfl (by decide) gf_1204 (Or.inr ⟨rfl, rfl, rfl⟩) ⟨Nat.le_of_ble_eq_true rfl, Nat.le_of_ble_eq_true rfl⟩ (by decide +kernel) (g_fitR rfl 327) ?_
  show g_Ev l E (1, 265, 1854) m_X11_init 205 [(2, ((103 : Nat) : Int))] [] 328 gs_156 (g_QQ E Q)
  refine j_aload 106 rfl rfl ?_
  refine j_iconst 107 rfl ?_
  refine j_iconst 108 rfl ?_
  refine j_mul2 (n := 328) (g := gs_156) (t := 6) (t1 := 0) (N1 := 4) (N2 := 3) (cn := 5) (ty := .int) (z2 := (1, 260, 1838)) 109 rfl gw_1159 (by decide +kernel) gw_1158 (by decide) (fun _ => rfl) (Or.inl ⟨rfl, rfl⟩) ⟨Nat.le_of_ble_eq_true rfl, Nat.le_of_ble_eq_true rfl⟩ rfl ⟨rfl, rfl, rfl⟩ ?_
  show g_Ev l E (1, 260, 1838) m_X11_init 212 [(2, ((103 : Nat) : Int))] [(2, ((328 : Nat) : Int)), (2, ((103 : Nat) : Int))] 333 gs_157 (g_QQ E Q)
  refine j_putf (n := 333) (g := gs_157) (c := 11) (kf := 41) (a := 103) (v := (2, ((328 : Nat) : Int))) 110 rfl (by decide) gf_1205 (Or.inr ⟨rfl, rfl, rfl⟩) ⟨Nat.le_of_ble_eq_true rfl, Nat.le_of_ble_eq_true rfl⟩ (by decide +kernel) (g_fitR rfl 328) ?_
  show g_Ev l E (1, 260, 1838) m_X11_init 215 [(2, ((103 : Nat) : Int))] [] 333 gs_158 (g_QQ E Q)
  refine j_aload 111 rfl rfl ?_
  refine j_sipush 112 rfl (by decide +kernel) ?_
  refine j_bipush 113 rfl (by decide +kernel) ?_
  refine j_mul2 (n := 333) (g := gs_158) (t := 8) (t1 := 1) (N1 := 210) (N2 := 6) (cn := 211) (ty := .long) (z2 := (1, 49, 368)) 114 rfl gw_1160 (by decide +kernel) gw_1161 (by decide) (fun _ => rfl) (Or.inr ⟨rfl, rfl⟩) ⟨Nat.le_of_ble_eq_true rfl, Nat.le_of_ble_eq_true rfl⟩ rfl ⟨rfl, rfl, rfl⟩ ?_
  show g_Ev l E (1, 49, 368) m_X11_init 225 [(2, ((103 : Nat) : Int))] [(2, ((333 : Nat) : Int)), (2, ((103 : Nat) : Int))] 544 gs_159 (g_QQ E Q)
  refine j_putf (n := 544) (g := gs_159) (c := 11) (kf := 43) (a := 103) (v := (2, ((333 : Nat) : Int))) 115 rfl (by decide) gf_1207 (Or.inr ⟨rfl, rfl, rfl⟩) ⟨Nat.le_of_ble_eq_true rfl, Nat.le_of_ble_eq_true rfl⟩ (by decide +kernel) (g_fitR rfl 333) ?_
  show g_Ev l E (1, 49, 368) m_X11_init 228 [(2, ((103 : Nat) : Int))] [] 544 gs_160 (g_QQ E Q)
  refine j_aload 116 rfl rfl ?_
  refine j_iconst 117 rfl ?_
  refine j_newa (n := 544) (g := gs_160) (t := 0) (N := 4) (z2 := (1, 48, 364)) 118 rfl (Or.inl ⟨rfl, rfl⟩) (Nat.le_of_ble_eq_true rfl) ⟨rfl, rfl, rfl⟩ ?_
  show g_Ev l E (1, 48, 364) m_X11_init 232 [(2, ((103 : Nat) : Int))] [(2, ((544 : Nat) : Int)), (2, ((103 : Nat) : Int))] 545 gs_161 (g_QQ E Q)
  refine j_dup 119 rfl (Nat.ne_of_beq_eq_false rfl) ?_
  refine j_iconst 120 rfl ?_
  refine j_iconst 121 rfl ?_
  refine j_iast (n := 545) (g := gs_161) (a := 544) (i := 0) (x := -1) 122 rfl ⟨Nat.le_of_ble_eq_true rfl, Nat.le_of_ble_eq_true rfl⟩ (by decide +kernel) ⟨by decide +kernel, by decide⟩ ?_
  show g_Ev l E (1, 48, 364) m_X11_init 236 [(2, ((103 : Nat) : Int))] [(2, ((544 : Nat) : Int)), (2, ((103 : Nat) : Int))] 545 gs_162 (g_QQ E Q)
  refine j_dup 123 rfl (Nat.ne_of_beq_eq_false rfl) ?_
  refine j_iconst 124 rfl ?_
  refine j_iconst 125 rfl ?_
  refine j_iast (n := 545) (g := gs_162) (a := 544) (i := 1) (x := -1) 126 rfl ⟨Nat.le_of_ble_eq_true rfl, Nat.le_of_ble_eq_true rfl⟩ (by decide +kernel) ⟨by decide +kernel, by decide⟩ ?_
  show g_Ev l E (1, 48, 364) m_X11_init 240 [(2, ((103 : Nat) : Int))] [(2, ((544 : Nat) : Int)), (2, ((103 : Nat) : Int))] 545 gs_163 (g_QQ E Q)
  refine j_dup 127 rfl (Nat.ne_of_beq_eq_false rfl) ?_
  refine j_iconst 128 rfl ?_
  refine j_iconst 129 rfl ?_
  refine j_iast (n := 545) (g := gs_163) (a := 544) (i := 2) (x := -1) 130 rfl ⟨Nat.le_of_ble_eq_true rfl, Nat.le_of_ble_eq_true rfl⟩ (by decide +kernel) ⟨by decide +kernel, by decide⟩ ?_
  show g_Ev l E (1, 48, 364) m_X11_init 244 [(2, ((103 : Nat) : Int))] [(2, ((544 : Nat) : Int)), (2, ((103 : Nat) : Int))] 545 gs_164 (g_QQ E Q)
  refine j_dup 131 rfl (Nat.ne_of_beq_eq_false rfl) ?_
  refine j_iconst 132 rfl ?_
  refine j_iconst 133 rfl ?_
  refine j_iast (n := 545) (g := gs_164) (a := 544) (i := 3) (x := -1) 134 rfl ⟨Nat.le_of_ble_eq_true rfl, Nat.le_of_ble_eq_true rfl⟩ (by decide +kernel) ⟨by decide +kernel, by decide⟩ ?_
  show g_Ev l E (1, 48, 364) m_X11_init 248 [(2, ((103 : Nat) : Int))] [(2, ((544 : Nat) : Int)), (2, ((103 : Nat) : Int))] 545 gs_165 (g_QQ E Q)
  refine j_putf (n := 545) (g := gs_165) (c := 11) (kf := 44) (a := 103) (v := (2, ((544 : Nat) : Int))) 135 rfl (by decide) gf_1208 (Or.inr ⟨rfl, rfl, rfl⟩) ⟨Nat.le_of_ble_eq_true rfl, Nat.le_of_ble_eq_true rfl⟩ (by decide +kernel) (g_fitR rfl 544) ?_
  show g_Ev l E (1, 48, 364) m_X11_init 251 [(2, ((103 : Nat) : Int))] [] 545 gs_166 (g_QQ E Q)
  refine j_aload 136 rfl rfl ?_
  refine j_iconst 137 rfl ?_
  refine j_newa (n := 545) (g := gs_166) (t := 0) (N := 4) (z2 := (1, 47, 360)) 138 rfl (Or.inl ⟨rfl, rfl⟩) (Nat.le_of_ble_eq_true rfl) ⟨rfl, rfl, rfl⟩ ?_
  show g_Ev l E (1, 47, 360) m_X11_init 255 [(2, ((103 : Nat) : Int))] [(2, ((545 : Nat) : Int)), (2, ((103 : Nat) : Int))] 546 gs_167 (g_QQ E Q)
  refine j_putf (n := 546) (g := gs_167) (c := 11) (kf := 45) (a := 103) (v := (2, ((545 : Nat) : Int))) 139 rfl (by decide) gf_1209 (Or.inr ⟨rfl, rfl, rfl⟩) ⟨Nat.le_of_ble_eq_true rfl, Nat.le_of_ble_eq_true rfl⟩ (by decide +kernel) (g_fitR rfl 545) ?_
  show g_Ev l E (1, 47, 360) m_X11_init 258 [(2, ((103 : Nat) : Int))] [] 546 gs_168 (g_QQ E Q)
  refine j_aload 140 rfl rfl ?_
  refine j_iconst 141 rfl ?_
  refine j_bipush 142 rfl (by decide +kernel) ?_
  refine j_mul2 (n := 546) (g := gs_168) (t := 8) (t1 := 1) (N1 := 4) (N2 := 40) (cn := 5) (ty := .long) (z2 := (1, 42, 196)) 143 rfl gw_1160 (by decide +kernel) gw_1161 (by decide) (fun _ => rfl) (Or.inr ⟨rfl, rfl⟩) ⟨Nat.le_of_ble_eq_true rfl, Nat.le_of_ble_eq_true rfl⟩ rfl ⟨rfl, rfl, rfl⟩ ?_
  show g_Ev l E (1, 42, 196) m_X11_init 266 [(2, ((103 : Nat) : Int))] [(2, ((546 : Nat) : Int)), (2, ((103 : Nat) : Int))] 551 gs_169 (g_QQ E Q)
  refine j_putf (n := 551) (g := gs_169) (c := 11) (kf := 46) (a := 103) (v := (2, ((546 : Nat) : Int))) 144 rfl (by decide) gf_1210 (Or.inr ⟨rfl, rfl, rfl⟩) ⟨Nat.le_of_ble_eq_true rfl, Nat.le_of_ble_eq_true rfl⟩ (by decide +kernel) (g_fitR rfl 546) ?_
  show g_Ev l E (1, 42, 196) m_X11_init 269 [(2, ((103 : Nat) : Int))] [] 551 gs_170 (g_QQ E Q)
  refine j_aload 145 rfl rfl ?_
  refine j_bipush 146 rfl (by decide +kernel) ?_
  refine j_newa (n := 551) (g := gs_170) (t := 1) (N := 40) (z2 := (1, 41, 156)) 147 rfl (Or.inr ⟨rfl, rfl⟩) (Nat.le_of_ble_eq_true rfl) ⟨rfl, rfl, rfl⟩ ?_
  show g_Ev l E (1, 41, 156) m_X11_init 274 [(2, ((103 : Nat) : Int))] [(2, ((551 : Nat) : Int)), (2, ((103 : Nat) : Int))] 552 gs_171 (g_QQ E Q)
  refine j_putf (n := 552) (g := gs_171) (c := 11) (kf := 47) (a := 103) (v := (2, ((551 : Nat) : Int))) 148 rfl (by decide) gf_1211 (Or.inr ⟨rfl, rfl, rfl⟩) ⟨Nat.le_of_ble_eq_true rfl, Nat.le_of_ble_eq_true rfl⟩ (by decide +kernel) (g_fitR rfl 551) ?_
  show g_Ev l E (1, 41, 156) m_X11_init 277 [(2, ((103 : Nat) : Int))] [] 552 gs_172 (g_QQ E Q)
  refine j_aload 149 rfl rfl ?_
  refine j_bipush 150 rfl (by decide +kernel) ?_
  refine j_newa (n := 552) (g := gs_172) (t := 0) (N := 10) (z2 := (1, 40, 146)) 151 rfl (Or.inl ⟨rfl, rfl⟩) (Nat.le_of_ble_eq_true rfl) ⟨rfl, rfl, rfl⟩ ?_
  show g_Ev l E (1, 40, 146) m_X11_init 282 [(2, ((103 : Nat) : Int))] [(2, ((552 : Nat) : Int)), (2, ((103 : Nat) : Int))] 553 gs_173 (g_QQ E Q)
  refine j_putf (n := 553) (g := gs_173) (c := 11) (kf := 48) (a := 103) (v := (2, ((552 : Nat) : Int))) 152 rfl (by decide) gf_1212 (Or.inr ⟨rfl, rfl, rfl⟩) ⟨Nat.le_of_ble_eq_true rfl, Nat.le_of_ble_eq_true rfl⟩ (by decide +kernel) (g_fitR rfl 552) ?_
  show g_Ev l E (1, 40, 146) m_X11_init 285 [(2, ((103 : Nat) : Int))] [] 553 gs_174 (g_QQ E Q)
  refine j_aload 153 rfl rfl ?_
  refine j_bipush 154 rfl (by decide +kernel) ?_
  refine j_newa (n := 553) (g := gs_174) (t := 0) (N := 10) (z2 := (1, 39, 136)) 155 rfl (Or.inl ⟨rfl, rfl⟩) (Nat.le_of_ble_eq_true rfl) ⟨rfl, rfl, rfl⟩ ?_
  show g_Ev l E (1, 39, 136) m_X11_init 290 [(2, ((103 : Nat) : Int))] [(2, ((553 : Nat) : Int)), (2, ((103 : Nat) : Int))] 554 gs_175 (g_QQ E Q)
  refine j_putf (n := 554) (g := gs_175) (c := 11) (kf := 49) (a := 103) (v := (2, ((553 : Nat) : Int))) 156 rfl (by decide) gf_1213 (Or.inr ⟨rfl, rfl, rfl⟩) ⟨Nat.le_of_ble_eq_true rfl, Nat.le_of_ble_eq_true rfl⟩ (by decide +kernel) (g_fitR rfl 553) ?_
  show g_Ev l E (1, 39, 136) m_X11_init 293 [(2, ((103 : Nat) : Int))] [] 554 gs_176 (g_QQ E Q)
  refine j_aload 157 rfl rfl ?_
  refine j_bipush 158 rfl (by decide +kernel) ?_
  refine j_newa (n := 554) (g := gs_176) (t := 0) (N := 10) (z2 := (1, 38, 126)) 159 rfl (Or.inl ⟨rfl, rfl⟩) (Nat.le_of_ble_eq_true rfl) ⟨rfl, rfl, rfl⟩ ?_
  show g_Ev l E (1, 38, 126) m_X11_init 298 [(2, ((103 : Nat) : Int))] [(2, ((554 : Nat) : Int)), (2, ((103 : Nat) : Int))] 555 gs_177 (g_QQ E Q)
  refine j_putf (n := 555) (g := gs_177) (c := 11) (kf := 50) (a := 103) (v := (2, ((554 : Nat) : Int))) 160 rfl (by decide) gf_1214 (Or.inr ⟨rfl, rfl, rfl⟩) ⟨Nat.le_of_ble_eq_true rfl, Nat.le_of_ble_eq_true rfl⟩ (by decide +kernel) (g_fitR rfl 554) ?_
  show g_Ev l E (1, 38, 126) m_X11_init 301 [(2, ((103 : Nat) : Int))] [] 555 gs_178 (g_QQ E Q)
  refine j_aload 161 rfl rfl ?_
  refine j_iconst 162 rfl ?_
  refine j_iconst 163 rfl ?_
  refine j_mul2 (n := 555) (g := gs_178) (t := 6) (t1 := 0) (N1 := 3) (N2 := 4) (cn := 4) (ty := .int) (z2 := (1, 34, 111)) 164 rfl gw_1159 (by decide +kernel) gw_1158 (by decide) (fun _ => rfl) (Or.inl ⟨rfl, rfl⟩) ⟨Nat.le_of_ble_eq_true rfl, Nat.le_of_ble_eq_true rfl⟩ rfl ⟨rfl, rfl, rfl⟩ ?_
  show g_Ev l E (1, 34, 111) m_X11_init 308 [(2, ((103 : Nat) : Int))] [(2, ((555 : Nat) : Int)), (2, ((103 : Nat) : Int))] 559 gs_179 (g_QQ E Q)
  refine j_putf (n := 559) (g := gs_179) (c := 11) (kf := 53) (a := 103) (v := (2, ((555 : Nat) : Int))) 165 rfl (by decide) gf_1217 (Or.inr ⟨rfl, rfl, rfl⟩) ⟨Nat.le_of_ble_eq_true rfl, Nat.le_of_ble_eq_true rfl⟩ (by decide +kernel) (g_fitR rfl 555) ?_
  show g_Ev l E (1, 34, 111) m_X11_init 311 [(2, ((103 : Nat) : Int))] [] 559 gs_180 (g_QQ E Q)
  refine j_aload 166 rfl rfl ?_
  refine j_iconst 167 rfl ?_
  refine j_iconst 168 rfl ?_
  refine j_iconst 169 rfl ?_
  refine j_mul3 (n := 559) (g := gs_180) (t := 7) (t1 := 6) (t2 := 0) (N1 := 3) (N2 := 3) (N3 := 3) (cn1 := 4) (cn := 13) (ty := .int) (z2 := (1, 21, 72)) 170 rfl gw_1156 (by decide +kernel) gw_1157 gw_1158 ⟨by decide, by decide⟩ (fun _ => rfl) (fun _ => rfl) (Or.inl ⟨rfl, rfl⟩) ⟨Nat.le_of_ble_eq_true rfl, Nat.le_of_ble_eq_true rfl, Nat.le_of_ble_eq_true rfl⟩ ⟨rfl, rfl⟩ ⟨rfl, rfl, rfl⟩ ?_
  show g_Ev l E (1, 21, 72) m_X11_init 319 [(2, ((103 : Nat) : Int))] [(2, ((559 : Nat) : Int)), (2, ((103 : Nat) : Int))] 572 gs_181 (g_QQ E Q)
  refine j_putf (n := 572) (g := gs_181) (c := 11) (kf := 54) (a := 103) (v := (2, ((559 : Nat) : Int))) 171 rfl (by decide) gf_1218 (Or.inr ⟨rfl, rfl, rfl⟩) ⟨Nat.le_of_ble_eq_true rfl, Nat.le_of_ble_eq_true rfl⟩ (by decide +kernel) (g_fitR rfl 559) ?_
  show g_Ev l E (1, 21, 72) m_X11_init 322 [(2, ((103 : Nat) : Int))] [] 572 gs_182 (g_QQ E Q)
  refine j_aload 172 rfl rfl ?_
  refine j_iconst 173 rfl ?_
  refine j_iconst 174 rfl ?_
  refine j_iconst 175 rfl ?_
  refine j_mul3 (n := 572) (g := gs_182) (t := 7) (t1 := 6) (t2 := 0) (N1 := 3) (N2 := 4) (N3 := 3) (cn1 := 5) (cn := 16) (ty := .int) (z2 := (1, 5, 21)) 176 rfl gw_1156 (by decide +kernel) gw_1157 gw_1158 ⟨by decide, by decide⟩ (fun _ => rfl) (fun _ => rfl) (Or.inl ⟨rfl, rfl⟩) ⟨Nat.le_of_ble_eq_true rfl, Nat.le_of_ble_eq_true rfl, Nat.le_of_ble_eq_true rfl⟩ ⟨rfl, rfl⟩ ⟨rfl, rfl, rfl⟩ ?_
  show g_Ev l E (1, 5, 21) m_X11_init 330 [(2, ((103 : Nat) : Int))] [(2, ((572 : Nat) : Int)), (2, ((103 : Nat) : Int))] 588 gs_183 (g_QQ E Q)
  refine j_putf (n := 588) (g := gs_183) (c := 11) (kf := 55) (a := 103) (v := (2, ((572 : Nat) : Int))) 177 rfl (by decide) gf_1219 (Or.inr ⟨rfl, rfl, rfl⟩) ⟨Nat.le_of_ble_eq_true rfl, Nat.le_of_ble_eq_true rfl⟩ (by decide +kernel) (g_fitR rfl 572) ?_
  show g_Ev l E (1, 5, 21) m_X11_init 333 [(2, ((103 : Nat) : Int))] [] 588 gs_184 (g_QQ E Q)
  refine j_aload 178 rfl rfl ?_
  refine j_iconst 179 rfl ?_
  refine j_iconst 180 rfl ?_
  refine j_mul2 (n := 588) (g := gs_184) (t := 6) (t1 := 0) (N1 := 3) (N2 := 4) (cn := 4) (ty := .int) (z2 := (1, 1, 6)) 181 rfl gw_1159 (by decide +kernel) gw_1158 (by decide) (fun _ => rfl) (Or.inl ⟨rfl, rfl⟩) ⟨Nat.le_of_ble_eq_true rfl, Nat.le_of_ble_eq_true rfl⟩ rfl ⟨rfl, rfl, rfl⟩ ?_
  show g_Ev l E (1, 1, 6) m_X11_init 340 [(2, ((103 : Nat) : Int))] [(2, ((588 : Nat) : Int)), (2, ((103 : Nat) : Int))] 592 gs_185 (g_QQ E Q)
  refine j_putf (n := 592) (g := gs_185) (c := 11) (kf := 56) (a := 103) (v := (2, ((588 : Nat) : Int))) 182 rfl (by decide) gf_1220 (Or.inr ⟨rfl, rfl, rfl⟩) ⟨Nat.le_of_ble_eq_true rfl, Nat.le_of_ble_eq_true rfl⟩ (by decide +kernel) (g_fitR rfl 588) ?_
  show g_Ev l E (1, 1, 6) m_X11_init 343 [(2, ((103 : Nat) : Int))] [] 592 gs_186 (g_QQ E Q)
  refine j_aload 183 rfl rfl ?_
  refine j_bipush 184 rfl (by decide +kernel) ?_
  refine j_newa (n := 592) (g := gs_186) (t := 1) (N := 6) (z2 := (1, 0, 0)) 185 rfl (Or.inr ⟨rfl, rfl⟩) (Nat.le_of_ble_eq_true rfl) ⟨rfl, rfl, rfl⟩ ?_
  show g_Ev l E (1, 0, 0) m_X11_init 348 [(2, ((103 : Nat) : Int))] [(2, ((592 : Nat) : Int)), (2, ((103 : Nat) : Int))] 593 gs_187 (g_QQ E Q)
  refine j_putf (n := 593) (g := gs_187) (c := 11) (kf := 57) (a := 103) (v := (2, ((592 : Nat) : Int))) 186 rfl (by decide) gf_1221 (Or.inr ⟨rfl, rfl, rfl⟩) ⟨Nat.le_of_ble_eq_true rfl, Nat.le_of_ble_eq_true rfl⟩ (by decide +kernel) (g_fitR rfl 592) ?_
  show g_Ev l E (1, 0, 0) m_X11_init 351 [(2, ((103 : Nat) : Int))] [] 593 gs_188 (g_QQ E Q)
  exact j_ret 187 rfl rfl k
theorem c_law {l : Launch} {E : xE} {QQ : Array Value → State → Outcome → State → Prop} (k : g_Ev l E (13, 1026, 21546) m_L_law 18 [(2, ((0 : Nat) : Int)), (2, ((5 : Nat) : Int)), (2, ((103 : Nat) : Int)), (0, 0)] [] 593 gs_188 QQ) : g_Ev l E (13, 1614, 26212) m_L_law 0 [(2, ((0 : Nat) : Int)), (5, 0), (5, 0), (5, 0)] [] 5 gs_0 QQ := by
  refine j_new (n := 5) (g := gs_0) (c := 10) (z2 := (13, 1613, 26197)) 0 rfl (by decide) gw_132 gw_133 gw_116 ⟨rfl, rfl, rfl⟩ ?_
  show g_Ev l E (13, 1613, 26197) m_L_law 3 [(2, ((0 : Nat) : Int)), (5, 0), (5, 0), (5, 0)] [(2, ((5 : Nat) : Int))] 6 gs_1 QQ
  refine j_dup 1 rfl (Nat.ne_of_beq_eq_false rfl) ?_
  refine j_call (n := 6) (g := gs_1) (y1 := m_X10_init) (a := 5) (ls0 := [(2, ((5 : Nat) : Int)), (5, 0), (5, 0)]) (st := [(2, ((5 : Nat) : Int))]) (z1 := (4, 97, 1170)) (z2 := (13, 1516, 25027)) [] 2 rfl (Or.inl gw_134) ok_X10_init gk_X10 rfl ⟨rfl, Nat.le_of_ble_eq_true rfl⟩ (Nat.le_of_ble_eq_true rfl) ⟨Nat.le_of_ble_eq_true rfl, rfl, rfl, rfl⟩ ?_
  refine c_LeaderTerms_5 ?_
  show g_Ev l E (13, 1516, 25027) m_L_law 7 [(2, ((0 : Nat) : Int)), (5, 0), (5, 0), (5, 0)] [(2, ((5 : Nat) : Int))] 103 gs_110 QQ
  refine j_astore (ls' := [(2, ((0 : Nat) : Int)), (2, ((5 : Nat) : Int)), (5, 0), (5, 0)]) 3 rfl (Nat.le_of_ble_eq_true rfl) rfl ?_
  show g_Ev l E (13, 1516, 25027) m_L_law 8 [(2, ((0 : Nat) : Int)), (2, ((5 : Nat) : Int)), (5, 0), (5, 0)] [] 103 gs_110 QQ
  refine j_new (n := 103) (g := gs_110) (c := 11) (z2 := (13, 1515, 24969)) 4 rfl (by decide) gw_1150 gw_1151 gw_126 ⟨rfl, rfl, rfl⟩ ?_
  show g_Ev l E (13, 1515, 24969) m_L_law 11 [(2, ((0 : Nat) : Int)), (2, ((5 : Nat) : Int)), (5, 0), (5, 0)] [(2, ((103 : Nat) : Int))] 104 gs_111 QQ
  refine j_dup 5 rfl (Nat.ne_of_beq_eq_false rfl) ?_
  refine j_call (n := 104) (g := gs_111) (y1 := m_X11_init) (a := 103) (ls0 := [(2, ((103 : Nat) : Int))]) (st := [(2, ((103 : Nat) : Int))]) (z1 := (1, 489, 3423)) (z2 := (13, 1026, 21546)) [] 6 rfl (Or.inl gw_1152) ok_X11_init gk_X11 rfl ⟨rfl, Nat.le_of_ble_eq_true rfl⟩ (Nat.le_of_ble_eq_true rfl) ⟨Nat.le_of_ble_eq_true rfl, rfl, rfl, rfl⟩ ?_
  refine c_LeaderTermsModel_103 ?_
  show g_Ev l E (13, 1026, 21546) m_L_law 15 [(2, ((0 : Nat) : Int)), (2, ((5 : Nat) : Int)), (5, 0), (5, 0)] [(2, ((103 : Nat) : Int))] 593 gs_188 QQ
  refine j_astore (ls' := [(2, ((0 : Nat) : Int)), (2, ((5 : Nat) : Int)), (2, ((103 : Nat) : Int)), (5, 0)]) 7 rfl (Nat.le_of_ble_eq_true rfl) rfl ?_
  show g_Ev l E (13, 1026, 21546) m_L_law 16 [(2, ((0 : Nat) : Int)), (2, ((5 : Nat) : Int)), (2, ((103 : Nat) : Int)), (5, 0)] [] 593 gs_188 QQ
  refine j_iconst 8 rfl ?_
  refine j_istore (ls' := [(2, ((0 : Nat) : Int)), (2, ((5 : Nat) : Int)), (2, ((103 : Nat) : Int)), (0, 0)]) 9 rfl (Nat.le_of_ble_eq_true rfl) rfl ?_
  show g_Ev l E (13, 1026, 21546) m_L_law 18 [(2, ((0 : Nat) : Int)), (2, ((5 : Nat) : Int)), (2, ((103 : Nat) : Int)), (0, 0)] [] 593 gs_188 QQ
  exact k
