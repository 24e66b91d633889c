/-! Printed by wip/whole/tools/gen_ctor.py: the states, and the constructors of the class -/
def gs_0 : Nat → gC := fun _ => (0, 0, fun _ => (0, 0))
def gs_1 : Nat → gC := g_up gs_0 5 (g_new 10)
def gs_2 : Nat → gC := g_up gs_1 6 (g_new 9)
def gs_3 : Nat → gC := g_st gs_2 6 1 (0, 20)
def gs_4 : Nat → gC := g_st gs_3 6 3 (0, 1)
def gs_5 : Nat → gC := g_up gs_4 7 (g_new 2)
def gs_6 : Nat → gC := kq2_1 7 8 gs_5
def gs_7 : Nat → gC := g_st gs_6 6 5 (2, ((7 : Nat) : Int))
def gs_8 : Nat → gC := g_up gs_7 8 (g_ar 2 3)
def gs_9 : Nat → gC := g_st gs_8 6 6 (2, ((8 : Nat) : Int))
def gs_10 : Nat → gC := g_up gs_9 9 (g_new 1)
def gs_11 : Nat → gC := kq1_6 9 10 gs_10
def gs_12 : Nat → gC := g_st gs_11 8 0 (2, ((9 : Nat) : Int))
def gs_13 : Nat → gC := g_up gs_12 13 (g_new 1)
def gs_14 : Nat → gC := kq1_6 13 14 gs_13
def gs_15 : Nat → gC := g_st gs_14 8 1 (2, ((13 : Nat) : Int))
def gs_16 : Nat → gC := g_up gs_15 17 (g_new 1)
def gs_17 : Nat → gC := kq1_6 17 18 gs_16
def gs_18 : Nat → gC := g_st gs_17 8 2 (2, ((17 : Nat) : Int))
def gs_19 : Nat → gC := g_st gs_18 5 0 (2, ((6 : Nat) : Int))
def gs_20 : Nat → gC := g_up gs_19 21 (g_new 9)
def gs_21 : Nat → gC := g_st gs_20 21 1 (0, 20)
def gs_22 : Nat → gC := g_st gs_21 21 3 (0, 1)
def gs_23 : Nat → gC := g_up gs_22 22 (g_new 2)
def gs_24 : Nat → gC := kq2_1 22 23 gs_23
def gs_25 : Nat → gC := g_st gs_24 21 5 (2, ((22 : Nat) : Int))
def gs_26 : Nat → gC := g_up gs_25 23 (g_ar 2 3)
def gs_27 : Nat → gC := g_st gs_26 21 6 (2, ((23 : Nat) : Int))
def gs_28 : Nat → gC := g_up gs_27 24 (g_new 1)
def gs_29 : Nat → gC := kq1_6 24 25 gs_28
def gs_30 : Nat → gC := g_st gs_29 23 0 (2, ((24 : Nat) : Int))
def gs_31 : Nat → gC := g_up gs_30 28 (g_new 1)
def gs_32 : Nat → gC := kq1_6 28 29 gs_31
def gs_33 : Nat → gC := g_st gs_32 23 1 (2, ((28 : Nat) : Int))
def gs_34 : Nat → gC := g_up gs_33 32 (g_new 1)
def gs_35 : Nat → gC := kq1_6 32 33 gs_34
def gs_36 : Nat → gC := g_st gs_35 23 2 (2, ((32 : Nat) : Int))
def gs_37 : Nat → gC := g_st gs_36 5 1 (2, ((21 : Nat) : Int))
def gs_38 : Nat → gC := g_up gs_37 36 (g_new 8)
def gs_39 : Nat → gC := kq8_6 36 37 gs_38
def gs_40 : Nat → gC := g_up gs_39 40 (g_new 3)
def gs_41 : Nat → gC := g_up gs_40 41 (g_ar 3 3)
def gs_42 : Nat → gC := g_st gs_41 40 1 (2, ((41 : Nat) : Int))
def gs_43 : Nat → gC := g_up gs_42 42 (g_new 0)
def gs_44 : Nat → gC := kq0_7 42 43 gs_43
def gs_45 : Nat → gC := g_st gs_44 40 2 (2, ((42 : Nat) : Int))
def gs_46 : Nat → gC := g_up gs_45 46 (g_new 2)
def gs_47 : Nat → gC := kq2_1 46 47 gs_46
def gs_48 : Nat → gC := g_st gs_47 40 3 (2, ((46 : Nat) : Int))
def gs_49 : Nat → gC := g_up gs_48 47 (g_new 2)
def gs_50 : Nat → gC := kq2_1 47 48 gs_49
def gs_51 : Nat → gC := g_st gs_50 40 4 (2, ((47 : Nat) : Int))
def gs_52 : Nat → gC := g_up gs_51 48 (g_new 2)
def gs_53 : Nat → gC := kq2_1 48 49 gs_52
def gs_54 : Nat → gC := g_st gs_53 40 6 (2, ((48 : Nat) : Int))
def gs_55 : Nat → gC := g_st gs_54 40 7 (1, 1)
def gs_56 : Nat → gC := g_st gs_55 40 0 (2, ((6 : Nat) : Int))
def gs_57 : Nat → gC := g_up gs_56 49 (g_new 4)
def gs_58 : Nat → gC := kq4_19 49 50 9 36 gs_57
def gs_59 : Nat → gC := g_st gs_58 41 0 (2, ((49 : Nat) : Int))
def gs_60 : Nat → gC := g_up gs_59 58 (g_new 4)
def gs_61 : Nat → gC := kq4_19 58 59 13 36 gs_60
def gs_62 : Nat → gC := g_st gs_61 41 1 (2, ((58 : Nat) : Int))
def gs_63 : Nat → gC := g_up gs_62 67 (g_new 4)
def gs_64 : Nat → gC := kq4_19 67 68 17 36 gs_63
def gs_65 : Nat → gC := g_st gs_64 41 2 (2, ((67 : Nat) : Int))
def gs_66 : Nat → gC := g_st gs_65 5 3 (2, ((40 : Nat) : Int))
def gs_67 : Nat → gC := g_up gs_66 76 (g_new 5)
def gs_68 : Nat → gC := kq5_10 76 77 36 gs_67
def gs_69 : Nat → gC := g_st gs_68 5 4 (2, ((76 : Nat) : Int))
def gs_70 : Nat → gC := g_up gs_69 81 (g_new 1)
def gs_71 : Nat → gC := kq1_6 81 82 gs_70
def gs_72 : Nat → gC := g_st gs_71 5 5 (2, ((81 : Nat) : Int))
def gs_73 : Nat → gC := g_up gs_72 85 (g_ar 0 3)
def gs_74 : Nat → gC := g_st gs_73 5 6 (2, ((85 : Nat) : Int))
def gs_75 : Nat → gC := g_up gs_74 86 (g_new 2)
def gs_76 : Nat → gC := kq2_1 86 87 gs_75
def gs_77 : Nat → gC := g_st gs_76 5 7 (2, ((86 : Nat) : Int))
def gs_78 : Nat → gC := g_up gs_77 87 (g_new 2)
def gs_79 : Nat → gC := kq2_1 87 88 gs_78
def gs_80 : Nat → gC := g_st gs_79 5 8 (2, ((87 : Nat) : Int))
def gs_81 : Nat → gC := g_up gs_80 88 (g_ar 4 4)
def gs_82 : Nat → gC := g_st gs_81 5 9 (2, ((88 : Nat) : Int))
def gs_83 : Nat → gC := g_up gs_82 89 (g_ar 5 10)
def gs_84 : Nat → gC := g_st gs_83 5 10 (2, ((89 : Nat) : Int))
def gs_85 : Nat → gC := g_up gs_84 90 (g_new 7)
def gs_86 : Nat → gC := g_st gs_85 89 0 (2, ((90 : Nat) : Int))
def gs_87 : Nat → gC := g_up gs_86 91 (g_new 7)
def gs_88 : Nat → gC := g_st gs_87 89 1 (2, ((91 : Nat) : Int))
def gs_89 : Nat → gC := g_up gs_88 92 (g_new 7)
def gs_90 : Nat → gC := g_st gs_89 89 2 (2, ((92 : Nat) : Int))
def gs_91 : Nat → gC := g_up gs_90 93 (g_new 7)
def gs_92 : Nat → gC := g_st gs_91 89 3 (2, ((93 : Nat) : Int))
def gs_93 : Nat → gC := g_up gs_92 94 (g_new 7)
def gs_94 : Nat → gC := g_st gs_93 89 4 (2, ((94 : Nat) : Int))
def gs_95 : Nat → gC := g_up gs_94 95 (g_new 7)
def gs_96 : Nat → gC := g_st gs_95 89 5 (2, ((95 : Nat) : Int))
def gs_97 : Nat → gC := g_up gs_96 96 (g_new 7)
def gs_98 : Nat → gC := g_st gs_97 89 6 (2, ((96 : Nat) : Int))
def gs_99 : Nat → gC := g_up gs_98 97 (g_new 7)
def gs_100 : Nat → gC := g_st gs_99 89 7 (2, ((97 : Nat) : Int))
def gs_101 : Nat → gC := g_up gs_100 98 (g_new 7)
def gs_102 : Nat → gC := g_st gs_101 89 8 (2, ((98 : Nat) : Int))
def gs_103 : Nat → gC := g_up gs_102 99 (g_new 7)
def gs_104 : Nat → gC := g_st gs_103 89 9 (2, ((99 : Nat) : Int))
def gs_105 : Nat → gC := g_up gs_104 100 (g_ar 1 168)
def gs_106 : Nat → gC := g_st gs_105 5 11 (2, ((100 : Nat) : Int))
def gs_107 : Nat → gC := g_up gs_106 101 (g_ar 1 6)
def gs_108 : Nat → gC := g_st gs_107 5 13 (2, ((101 : Nat) : Int))
def gs_109 : Nat → gC := g_up gs_108 102 (g_ar 0 8)
def gs_110 : Nat → gC := g_st gs_109 5 14 (2, ((102 : Nat) : Int))
def gs_111 : Nat → gC := g_up gs_110 103 (g_new 11)
def gs_112 : Nat → gC := g_up gs_111 104 (g_ar 0 3)
def gs_113 : Nat → gC := g_st gs_112 103 1 (2, ((104 : Nat) : Int))
def gs_114 : Nat → gC := g_up gs_113 105 (g_ar 0 3)
def gs_115 : Nat → gC := g_st gs_114 103 2 (2, ((105 : Nat) : Int))
def gs_116 : Nat → gC := g_up gs_115 106 (g_ar 0 3)
def gs_117 : Nat → gC := g_st gs_116 103 3 (2, ((106 : Nat) : Int))
def gs_118 : Nat → gC := g_up gs_117 107 (g_ar 0 3)
def gs_119 : Nat → gC := g_st gs_118 103 4 (2, ((107 : Nat) : Int))
def gs_120 : Nat → gC := g_ups gs_119 108 13 (g_m3 108 7 6 0 3 3 3 4)
def gs_121 : Nat → gC := g_st gs_120 103 5 (2, ((108 : Nat) : Int))
def gs_122 : Nat → gC := g_ups gs_121 121 16 (g_m3 121 7 6 0 3 4 3 5)
def gs_123 : Nat → gC := g_st gs_122 103 6 (2, ((121 : Nat) : Int))
def gs_124 : Nat → gC := g_ups gs_123 137 4 (g_m2 137 6 0 3 4)
def gs_125 : Nat → gC := g_st gs_124 103 7 (2, ((137 : Nat) : Int))
def gs_126 : Nat → gC := g_st gs_125 103 8 (0, 20)
def gs_127 : Nat → gC := g_st gs_126 103 10 (1, 1)
def gs_128 : Nat → gC := g_st gs_127 103 13 (0, 1)
def gs_129 : Nat → gC := g_up gs_128 141 (g_ar 0 8)
def gs_130 : Nat → gC := g_st gs_129 103 14 (2, ((141 : Nat) : Int))
def gs_131 : Nat → gC := g_ups gs_130 142 5 (g_m2 142 8 1 4 4)
def gs_132 : Nat → gC := g_st gs_131 103 18 (2, ((142 : Nat) : Int))
def gs_133 : Nat → gC := g_up gs_132 147 (g_ar 1 4)
def gs_134 : Nat → gC := g_st gs_133 103 19 (2, ((147 : Nat) : Int))
def gs_135 : Nat → gC := g_up gs_134 148 (g_ar 1 4)
def gs_136 : Nat → gC := g_st gs_135 103 20 (2, ((148 : Nat) : Int))
def gs_137 : Nat → gC := g_up gs_136 149 (g_ar 0 3)
def gs_138 : Nat → gC := g_st gs_137 103 21 (2, ((149 : Nat) : Int))
def gs_139 : Nat → gC := g_ups gs_138 150 124 (g_m3 150 9 8 1 3 40 3 41)
def gs_140 : Nat → gC := g_st gs_139 103 22 (2, ((150 : Nat) : Int))
def gs_141 : Nat → gC := g_ups gs_140 274 4 (g_m2 274 8 1 3 40)
def gs_142 : Nat → gC := g_st gs_141 103 23 (2, ((274 : Nat) : Int))
def gs_143 : Nat → gC := g_ups gs_142 278 4 (g_m2 278 6 0 3 40)
def gs_144 : Nat → gC := g_st gs_143 103 24 (2, ((278 : Nat) : Int))
def gs_145 : Nat → gC := g_up gs_144 282 (g_ar 1 200)
def gs_146 : Nat → gC := g_st gs_145 103 26 (2, ((282 : Nat) : Int))
def gs_147 : Nat → gC := g_up gs_146 283 (g_ar 1 200)
def gs_148 : Nat → gC := g_st gs_147 103 27 (2, ((283 : Nat) : Int))
def gs_149 : Nat → gC := g_ups gs_148 284 41 (g_m2 284 8 1 40 4)
def gs_150 : Nat → gC := g_st gs_149 103 34 (2, ((284 : Nat) : Int))
def gs_151 : Nat → gC := g_up gs_150 325 (g_ar 1 40)
def gs_152 : Nat → gC := g_st gs_151 103 35 (2, ((325 : Nat) : Int))
def gs_153 : Nat → gC := g_up gs_152 326 (g_ar 0 40)
def gs_154 : Nat → gC := g_st gs_153 103 36 (2, ((326 : Nat) : Int))
def gs_155 : Nat → gC := g_up gs_154 327 (g_ar 0 4)
def gs_156 : Nat → gC := g_st gs_155 103 40 (2, ((327 : Nat) : Int))
def gs_157 : Nat → gC := g_ups gs_156 328 5 (g_m2 328 6 0 4 3)
def gs_158 : Nat → gC := g_st gs_157 103 41 (2, ((328 : Nat) : Int))
def gs_159 : Nat → gC := g_ups gs_158 333 211 (g_m2 333 8 1 210 6)
def gs_160 : Nat → gC := g_st gs_159 103 43 (2, ((333 : Nat) : Int))
def gs_161 : Nat → gC := g_up gs_160 544 (g_ar 0 4)
def gs_162 : Nat → gC := g_st gs_161 544 0 (0, -1)
def gs_163 : Nat → gC := g_st gs_162 544 1 (0, -1)
def gs_164 : Nat → gC := g_st gs_163 544 2 (0, -1)
def gs_165 : Nat → gC := g_st gs_164 544 3 (0, -1)
def gs_166 : Nat → gC := g_st gs_165 103 44 (2, ((544 : Nat) : Int))
def gs_167 : Nat → gC := g_up gs_166 545 (g_ar 0 4)
def gs_168 : Nat → gC := g_st gs_167 103 45 (2, ((545 : Nat) : Int))
def gs_169 : Nat → gC := g_ups gs_168 546 5 (g_m2 546 8 1 4 40)
def gs_170 : Nat → gC := g_st gs_169 103 46 (2, ((546 : Nat) : Int))
def gs_171 : Nat → gC := g_up gs_170 551 (g_ar 1 40)
def gs_172 : Nat → gC := g_st gs_171 103 47 (2, ((551 : Nat) : Int))
def gs_173 : Nat → gC := g_up gs_172 552 (g_ar 0 10)
def gs_174 : Nat → gC := g_st gs_173 103 48 (2, ((552 : Nat) : Int))
def gs_175 : Nat → gC := g_up gs_174 553 (g_ar 0 10)
def gs_176 : Nat → gC := g_st gs_175 103 49 (2, ((553 : Nat) : Int))
def gs_177 : Nat → gC := g_up gs_176 554 (g_ar 0 10)
def gs_178 : Nat → gC := g_st gs_177 103 50 (2, ((554 : Nat) : Int))
def gs_179 : Nat → gC := g_ups gs_178 555 4 (g_m2 555 6 0 3 4)
def gs_180 : Nat → gC := g_st gs_179 103 53 (2, ((555 : Nat) : Int))
def gs_181 : Nat → gC := g_ups gs_180 559 13 (g_m3 559 7 6 0 3 3 3 4)
def gs_182 : Nat → gC := g_st gs_181 103 54 (2, ((559 : Nat) : Int))
def gs_183 : Nat → gC := g_ups gs_182 572 16 (g_m3 572 7 6 0 3 4 3 5)
def gs_184 : Nat → gC := g_st gs_183 103 55 (2, ((572 : Nat) : Int))
def gs_185 : Nat → gC := g_ups gs_184 588 4 (g_m2 588 6 0 3 4)
def gs_186 : Nat → gC := g_st gs_185 103 56 (2, ((588 : Nat) : Int))
def gs_187 : Nat → gC := g_up gs_186 592 (g_ar 1 6)
def gs_188 : Nat → gC := g_st gs_187 103 57 (2, ((592 : Nat) : Int))
theorem c_World_6 {l : Launch} {E : xE} {Q : Nat → (Nat → gC) → Prop} (k : Q 21 gs_18) : g_Ev l E (2, 14, 101) m_X9_init 0 [(2, ((6 : Nat) : Int)), (5, 0)] [] 7 gs_2 (g_QQ E Q) := by
  refine j_aload 0 rfl rfl ?_
  refine j_obj (a := 6) 1 rfl gw_145 (Nat.le_of_ble_eq_true rfl) ?_
  show g_Ev l E (2, 14, 101) m_X9_init 4 [(2, ((6 : Nat) : Int)), (5, 0)] [] 7 gs_2 (g_QQ E Q)
  refine j_aload 2 rfl rfl ?_
  refine j_bipush 3 rfl (by decide +kernel) ?_
  refine j_putf (n := 7) (g := gs_2) (c := 9) (kf := 1) (a := 6) (v := (0, 20)) 4 rfl (by decide) gf_222 (Or.inl rfl) ⟨Nat.le_of_ble_eq_true rfl, Nat.le_of_ble_eq_true rfl⟩ (by decide +kernel) (fun _ => ⟨rfl, rfl⟩) ?_
  show g_Ev l E (2, 14, 101) m_X9_init 10 [(2, ((6 : Nat) : Int)), (5, 0)] [] 7 gs_3 (g_QQ E Q)
  refine j_aload 5 rfl rfl ?_
  refine j_iconst 6 rfl ?_
  refine j_putf (n := 7) (g := gs_3) (c := 9) (kf := 3) (a := 6) (v := (0, 1)) 7 rfl (by decide) gf_227 (Or.inl rfl) ⟨Nat.le_of_ble_eq_true rfl, Nat.le_of_ble_eq_true rfl⟩ (by decide +kernel) (fun _ => ⟨rfl, rfl⟩) ?_
  show g_Ev l E (2, 14, 101) m_X9_init 15 [(2, ((6 : Nat) : Int)), (5, 0)] [] 7 gs_4 (g_QQ E Q)
  refine j_aload 8 rfl rfl ?_
  refine j_new (n := 7) (g := gs_4) (c := 2) (z2 := (2, 13, 99)) 9 rfl (by decide) gw_146 gw_147 gw_118 ⟨rfl, rfl, rfl⟩ ?_
  show g_Ev l E (2, 13, 99) m_X9_init 19 [(2, ((6 : Nat) : Int)), (5, 0)] [(2, ((7 : Nat) : Int)), (2, ((6 : Nat) : Int))] 8 gs_5 (g_QQ E Q)
  refine j_dup 10 rfl (Nat.ne_of_beq_eq_false rfl) ?_
  refine j_call (n := 8) (g := gs_5) (y1 := m_X2_init) (a := 7) (ls0 := [(2, ((7 : Nat) : Int))]) (st := [(2, ((7 : Nat) : Int)), (2, ((6 : Nat) : Int))]) (z1 := (1, 0, 0)) (z2 := (2, 13, 99)) [] 11 rfl (Or.inr ⟨_, gw_148⟩) ok_X2_init gk_X2 rfl ⟨rfl, Nat.le_of_ble_eq_true rfl⟩ (Nat.le_of_ble_eq_true rfl) ⟨Nat.le_of_ble_eq_true rfl, rfl, rfl, rfl⟩ ?_
  refine c_X2 (a := 7) (n := 8) (g := gs_5) ⟨Nat.le_of_ble_eq_true rfl, Nat.le_of_ble_eq_true rfl⟩ (by decide +kernel) ?_
  show g_Ev l E (2, 13, 99) m_X9_init 23 [(2, ((6 : Nat) : Int)), (5, 0)] [(2, ((7 : Nat) : Int)), (2, ((6 : Nat) : Int))] 8 gs_6 (g_QQ E Q)
  refine j_putf (n := 8) (g := gs_6) (c := 9) (kf := 5) (a := 6) (v := (2, ((7 : Nat) : Int))) 12 rfl (by decide) gf_231 (Or.inr ⟨rfl, rfl, rfl⟩) ⟨Nat.le_of_ble_eq_true rfl, Nat.le_of_ble_eq_true rfl⟩ (by decide +kernel) (g_fitR rfl 7) ?_
  show g_Ev l E (2, 13, 99) m_X9_init 26 [(2, ((6 : Nat) : Int)), (5, 0)] [] 8 gs_7 (g_QQ E Q)
  refine j_aload 13 rfl rfl ?_
  refine j_iconst 14 rfl ?_
  refine j_anewa (n := 8) (g := gs_7) (t := 2) (N := 3) (z2 := (2, 12, 96)) 15 rfl gw_168 gw_169 ⟨by decide, by decide⟩ (fun _ => rfl) (Nat.le_of_ble_eq_true rfl) ⟨rfl, rfl, rfl⟩ ?_
  show g_Ev l E (2, 12, 96) m_X9_init 31 [(2, ((6 : Nat) : Int)), (5, 0)] [(2, ((8 : Nat) : Int)), (2, ((6 : Nat) : Int))] 9 gs_8 (g_QQ E Q)
  refine j_putf (n := 9) (g := gs_8) (c := 9) (kf := 6) (a := 6) (v := (2, ((8 : Nat) : Int))) 16 rfl (by decide) gf_234 (Or.inr ⟨rfl, rfl, rfl⟩) ⟨Nat.le_of_ble_eq_true rfl, Nat.le_of_ble_eq_true rfl⟩ (by decide +kernel) (g_fitR rfl 8) ?_
  show g_Ev l E (2, 12, 96) m_X9_init 34 [(2, ((6 : Nat) : Int)), (5, 0)] [] 9 gs_9 (g_QQ E Q)
  refine j_iconst 17 rfl ?_
  refine j_istore (ls' := [(2, ((6 : Nat) : Int)), (0, 0)]) 18 rfl (Nat.le_of_ble_eq_true rfl) rfl ?_
  show g_Ev l E (2, 12, 96) m_X9_init 36 [(2, ((6 : Nat) : Int)), (0, 0)] [] 9 gs_9 (g_QQ E Q)
  refine j_iload 19 rfl rfl ?_
  refine j_iconst 20 rfl ?_
  refine j_geN 60 21 rfl rfl ⟨g_rgs 0 (by decide) (by decide), g_rgs 3 (by decide) (by decide)⟩ (by decide) ?_
  show g_Ev l E (2, 12, 96) m_X9_init 41 [(2, ((6 : Nat) : Int)), (0, 0)] [] 9 gs_9 (g_QQ E Q)
  refine j_aload 22 rfl rfl ?_
  refine j_getf (n := 9) (g := gs_9) (c := 9) (kf := 6) (a := 6) (v := (2, ((8 : Nat) : Int))) 23 rfl (by decide) gf_234 ⟨Nat.le_of_ble_eq_true rfl, Nat.le_of_ble_eq_true rfl⟩ (by decide +kernel) (by decide +kernel) ?_
  refine j_iload 24 rfl rfl ?_
  refine j_new (n := 9) (g := gs_9) (c := 1) (z2 := (2, 11, 89)) 25 rfl (by decide) gw_168 gw_170 gw_119 ⟨rfl, rfl, rfl⟩ ?_
  show g_Ev l E (2, 11, 89) m_X9_init 49 [(2, ((6 : Nat) : Int)), (0, 0)] [(2, ((9 : Nat) : Int)), (0, 0), (2, ((8 : Nat) : Int))] 10 gs_10 (g_QQ E Q)
  refine j_dup 26 rfl (Nat.ne_of_beq_eq_false rfl) ?_
  refine j_call (n := 10) (g := gs_10) (y1 := m_X1_init) (a := 9) (ls0 := [(2, ((9 : Nat) : Int))]) (st := [(2, ((9 : Nat) : Int)), (0, 0), (2, ((8 : Nat) : Int))]) (z1 := (1, 3, 25)) (z2 := (2, 8, 64)) [] 27 rfl (Or.inr ⟨_, gw_171⟩) ok_X1_init gk_X1 rfl ⟨rfl, Nat.le_of_ble_eq_true rfl⟩ (Nat.le_of_ble_eq_true rfl) ⟨Nat.le_of_ble_eq_true rfl, rfl, rfl, rfl⟩ ?_
  refine c_X1 (a := 9) (n := 10) (g := gs_10) ⟨Nat.le_of_ble_eq_true rfl, Nat.le_of_ble_eq_true rfl⟩ (by decide +kernel) ?_
  show g_Ev l E (2, 8, 64) m_X9_init 53 [(2, ((6 : Nat) : Int)), (0, 0)] [(2, ((9 : Nat) : Int)), (0, 0), (2, ((8 : Nat) : Int))] 13 gs_11 (g_QQ E Q)
  refine j_aast (n := 13) (g := gs_11) (t := 2) (c := 1) (a := 8) (b := 9) (i := 0) 28 rfl ⟨by decide, by decide⟩ (by decide) (fun _ => rfl) ⟨Nat.le_of_ble_eq_true rfl, Nat.le_of_ble_eq_true rfl⟩ (by decide +kernel) ⟨by decide +kernel, by decide⟩ ⟨Nat.le_of_ble_eq_true rfl, Nat.le_of_ble_eq_true rfl⟩ (by decide +kernel) ?_
  show g_Ev l E (2, 8, 64) m_X9_init 54 [(2, ((6 : Nat) : Int)), (0, 0)] [] 13 gs_12 (g_QQ E Q)
  refine j_iinc (a := 0) (ls' := [(2, ((6 : Nat) : Int)), (0, 1)]) 29 rfl rfl (Nat.le_of_ble_eq_true rfl) (by decide +kernel) ?_
  show g_Ev l E (2, 8, 64) m_X9_init 57 [(2, ((6 : Nat) : Int)), (0, 1)] [] 13 gs_12 (g_QQ E Q)
  refine j_goto 36 30 rfl rfl ?_
  show g_Ev l E (2, 8, 64) m_X9_init 36 [(2, ((6 : Nat) : Int)), (0, 1)] [] 13 gs_12 (g_QQ E Q)
  refine j_iload 19 rfl rfl ?_
  refine j_iconst 20 rfl ?_
  refine j_geN 60 21 rfl rfl ⟨g_rgs 1 (by decide) (by decide), g_rgs 3 (by decide) (by decide)⟩ (by decide) ?_
  show g_Ev l E (2, 8, 64) m_X9_init 41 [(2, ((6 : Nat) : Int)), (0, 1)] [] 13 gs_12 (g_QQ E Q)
  refine j_aload 22 rfl rfl ?_
  refine j_getf (n := 13) (g := gs_12) (c := 9) (kf := 6) (a := 6) (v := (2, ((8 : Nat) : Int))) 23 rfl (by decide) gf_234 ⟨Nat.le_of_ble_eq_true rfl, Nat.le_of_ble_eq_true rfl⟩ (by decide +kernel) (by decide +kernel) ?_
  refine j_iload 24 rfl rfl ?_
  refine j_new (n := 13) (g := gs_12) (c := 1) (z2 := (2, 7, 57)) 25 rfl (by decide) gw_168 gw_170 gw_119 ⟨rfl, rfl, rfl⟩ ?_
  show g_Ev l E (2, 7, 57) m_X9_init 49 [(2, ((6 : Nat) : Int)), (0, 1)] [(2, ((13 : Nat) : Int)), (0, 1), (2, ((8 : Nat) : Int))] 14 gs_13 (g_QQ E Q)
  refine j_dup 26 rfl (Nat.ne_of_beq_eq_false rfl) ?_
  refine j_call (n := 14) (g := gs_13) (y1 := m_X1_init) (a := 13) (ls0 := [(2, ((13 : Nat) : Int))]) (st := [(2, ((13 : Nat) : Int)), (0, 1), (2, ((8 : Nat) : Int))]) (z1 := (1, 3, 25)) (z2 := (2, 4, 32)) [] 27 rfl (Or.inr ⟨_, gw_171⟩) ok_X1_init gk_X1 rfl ⟨rfl, Nat.le_of_ble_eq_true rfl⟩ (Nat.le_of_ble_eq_true rfl) ⟨Nat.le_of_ble_eq_true rfl, rfl, rfl, rfl⟩ ?_
  refine c_X1 (a := 13) (n := 14) (g := gs_13) ⟨Nat.le_of_ble_eq_true rfl, Nat.le_of_ble_eq_true rfl⟩ (by decide +kernel) ?_
  show g_Ev l E (2, 4, 32) m_X9_init 53 [(2, ((6 : Nat) : Int)), (0, 1)] [(2, ((13 : Nat) : Int)), (0, 1), (2, ((8 : Nat) : Int))] 17 gs_14 (g_QQ E Q)
  refine j_aast (n := 17) (g := gs_14) (t := 2) (c := 1) (a := 8) (b := 13) (i := 1) 28 rfl ⟨by decide, by decide⟩ (by decide) (fun _ => rfl) ⟨Nat.le_of_ble_eq_true rfl, Nat.le_of_ble_eq_true rfl⟩ (by decide +kernel) ⟨by decide +kernel, by decide⟩ ⟨Nat.le_of_ble_eq_true rfl, Nat.le_of_ble_eq_true rfl⟩ (by decide +kernel) ?_
  show g_Ev l E (2, 4, 32) m_X9_init 54 [(2, ((6 : Nat) : Int)), (0, 1)] [] 17 gs_15 (g_QQ E Q)
  refine j_iinc (a := 1) (ls' := [(2, ((6 : Nat) : Int)), (0, 2)]) 29 rfl rfl (Nat.le_of_ble_eq_true rfl) (by decide +kernel) ?_
  show g_Ev l E (2, 4, 32) m_X9_init 57 [(2, ((6 : Nat) : Int)), (0, 2)] [] 17 gs_15 (g_QQ E Q)
  refine j_goto 36 30 rfl rfl ?_
  show g_Ev l E (2, 4, 32) m_X9_init 36 [(2, ((6 : Nat) : Int)), (0, 2)] [] 17 gs_15 (g_QQ E Q)
  refine j_iload 19 rfl rfl ?_
  refine j_iconst 20 rfl ?_
  refine j_geN 60 21 rfl rfl ⟨g_rgs 2 (by decide) (by decide), g_rgs 3 (by decide) (by decide)⟩ (by decide) ?_
  show g_Ev l E (2, 4, 32) m_X9_init 41 [(2, ((6 : Nat) : Int)), (0, 2)] [] 17 gs_15 (g_QQ E Q)
  refine j_aload 22 rfl rfl ?_
  refine j_getf (n := 17) (g := gs_15) (c := 9) (kf := 6) (a := 6) (v := (2, ((8 : Nat) : Int))) 23 rfl (by decide) gf_234 ⟨Nat.le_of_ble_eq_true rfl, Nat.le_of_ble_eq_true rfl⟩ (by decide +kernel) (by decide +kernel) ?_
  refine j_iload 24 rfl rfl ?_
  refine j_new (n := 17) (g := gs_15) (c := 1) (z2 := (2, 3, 25)) 25 rfl (by decide) gw_168 gw_170 gw_119 ⟨rfl, rfl, rfl⟩ ?_
  show g_Ev l E (2, 3, 25) m_X9_init 49 [(2, ((6 : Nat) : Int)), (0, 2)] [(2, ((17 : Nat) : Int)), (0, 2), (2, ((8 : Nat) : Int))] 18 gs_16 (g_QQ E Q)
  refine j_dup 26 rfl (Nat.ne_of_beq_eq_false rfl) ?_
  refine j_call (n := 18) (g := gs_16) (y1 := m_X1_init) (a := 17) (ls0 := [(2, ((17 : Nat) : Int))]) (st := [(2, ((17 : Nat) : Int)), (0, 2), (2, ((8 : Nat) : Int))]) (z1 := (1, 3, 25)) (z2 := (2, 0, 0)) [] 27 rfl (Or.inr ⟨_, gw_171⟩) ok_X1_init gk_X1 rfl ⟨rfl, Nat.le_of_ble_eq_true rfl⟩ (Nat.le_of_ble_eq_true rfl) ⟨Nat.le_of_ble_eq_true rfl, rfl, rfl, rfl⟩ ?_
  refine c_X1 (a := 17) (n := 18) (g := gs_16) ⟨Nat.le_of_ble_eq_true rfl, Nat.le_of_ble_eq_true rfl⟩ (by decide +kernel) ?_
  show g_Ev l E (2, 0, 0) m_X9_init 53 [(2, ((6 : Nat) : Int)), (0, 2)] [(2, ((17 : Nat) : Int)), (0, 2), (2, ((8 : Nat) : Int))] 21 gs_17 (g_QQ E Q)
  refine j_aast (n := 21) (g := gs_17) (t := 2) (c := 1) (a := 8) (b := 17) (i := 2) 28 rfl ⟨by decide, by decide⟩ (by decide) (fun _ => rfl) ⟨Nat.le_of_ble_eq_true rfl, Nat.le_of_ble_eq_true rfl⟩ (by decide +kernel) ⟨by decide +kernel, by decide⟩ ⟨Nat.le_of_ble_eq_true rfl, Nat.le_of_ble_eq_true rfl⟩ (by decide +kernel) ?_
  show g_Ev l E (2, 0, 0) m_X9_init 54 [(2, ((6 : Nat) : Int)), (0, 2)] [] 21 gs_18 (g_QQ E Q)
  refine j_iinc (a := 2) (ls' := [(2, ((6 : Nat) : Int)), (0, 3)]) 29 rfl rfl (Nat.le_of_ble_eq_true rfl) (by decide +kernel) ?_
  show g_Ev l E (2, 0, 0) m_X9_init 57 [(2, ((6 : Nat) : Int)), (0, 3)] [] 21 gs_18 (g_QQ E Q)
  refine j_goto 36 30 rfl rfl ?_
  show g_Ev l E (2, 0, 0) m_X9_init 36 [(2, ((6 : Nat) : Int)), (0, 3)] [] 21 gs_18 (g_QQ E Q)
  refine j_iload 19 rfl rfl ?_
  refine j_iconst 20 rfl ?_
  refine j_geY 60 21 rfl rfl ⟨g_rgs 3 (by decide) (by decide), g_rgs 3 (by decide) (by decide)⟩ (by decide) ?_
  show g_Ev l E (2, 0, 0) m_X9_init 60 [(2, ((6 : Nat) : Int)), (0, 3)] [] 21 gs_18 (g_QQ E Q)
  exact j_ret 31 rfl rfl k
theorem c_World_21 {l : Launch} {E : xE} {Q : Nat → (Nat → gC) → Prop} (k : Q 36 gs_36) : g_Ev l E (2, 14, 101) m_X9_init 0 [(2, ((21 : Nat) : Int)), (5, 0)] [] 22 gs_20 (g_QQ E Q) := by
  refine j_aload 0 rfl rfl ?_
  refine j_obj (a := 21) 1 rfl gw_145 (Nat.le_of_ble_eq_true rfl) ?_
  show g_Ev l E (2, 14, 101) m_X9_init 4 [(2, ((21 : Nat) : Int)), (5, 0)] [] 22 gs_20 (g_QQ E Q)
  refine j_aload 2 rfl rfl ?_
  refine j_bipush 3 rfl (by decide +kernel) ?_
  refine j_putf (n := 22) (g := gs_20) (c := 9) (kf := 1) (a := 21) (v := (0, 20)) 4 rfl (by decide) gf_222 (Or.inl rfl) ⟨Nat.le_of_ble_eq_true rfl, Nat.le_of_ble_eq_true rfl⟩ (by decide +kernel) (fun _ => ⟨rfl, rfl⟩) ?_
  show g_Ev l E (2, 14, 101) m_X9_init 10 [(2, ((21 : Nat) : Int)), (5, 0)] [] 22 gs_21 (g_QQ E Q)
  refine j_aload 5 rfl rfl ?_
  refine j_iconst 6 rfl ?_
  refine j_putf (n := 22) (g := gs_21) (c := 9) (kf := 3) (a := 21) (v := (0, 1)) 7 rfl (by decide) gf_227 (Or.inl rfl) ⟨Nat.le_of_ble_eq_true rfl, Nat.le_of_ble_eq_true rfl⟩ (by decide +kernel) (fun _ => ⟨rfl, rfl⟩) ?_
  show g_Ev l E (2, 14, 101) m_X9_init 15 [(2, ((21 : Nat) : Int)), (5, 0)] [] 22 gs_22 (g_QQ E Q)
  refine j_aload 8 rfl rfl ?_
  refine j_new (n := 22) (g := gs_22) (c := 2) (z2 := (2, 13, 99)) 9 rfl (by decide) gw_146 gw_147 gw_118 ⟨rfl, rfl, rfl⟩ ?_
  show g_Ev l E (2, 13, 99) m_X9_init 19 [(2, ((21 : Nat) : Int)), (5, 0)] [(2, ((22 : Nat) : Int)), (2, ((21 : Nat) : Int))] 23 gs_23 (g_QQ E Q)
  refine j_dup 10 rfl (Nat.ne_of_beq_eq_false rfl) ?_
  refine j_call (n := 23) (g := gs_23) (y1 := m_X2_init) (a := 22) (ls0 := [(2, ((22 : Nat) : Int))]) (st := [(2, ((22 : Nat) : Int)), (2, ((21 : Nat) : Int))]) (z1 := (1, 0, 0)) (z2 := (2, 13, 99)) [] 11 rfl (Or.inr ⟨_, gw_148⟩) ok_X2_init gk_X2 rfl ⟨rfl, Nat.le_of_ble_eq_true rfl⟩ (Nat.le_of_ble_eq_true rfl) ⟨Nat.le_of_ble_eq_true rfl, rfl, rfl, rfl⟩ ?_
  refine c_X2 (a := 22) (n := 23) (g := gs_23) ⟨Nat.le_of_ble_eq_true rfl, Nat.le_of_ble_eq_true rfl⟩ (by decide +kernel) ?_
  show g_Ev l E (2, 13, 99) m_X9_init 23 [(2, ((21 : Nat) : Int)), (5, 0)] [(2, ((22 : Nat) : Int)), (2, ((21 : Nat) : Int))] 23 gs_24 (g_QQ E Q)
  refine j_putf (n := 23) (g := gs_24) (c := 9) (kf := 5) (a := 21) (v := (2, ((22 : Nat) : Int))) 12 rfl (by decide) gf_231 (Or.inr ⟨rfl, rfl, rfl⟩) ⟨Nat.le_of_ble_eq_true rfl, Nat.le_of_ble_eq_true rfl⟩ (by decide +kernel) (g_fitR rfl 22) ?_
  show g_Ev l E (2, 13, 99) m_X9_init 26 [(2, ((21 : Nat) : Int)), (5, 0)] [] 23 gs_25 (g_QQ E Q)
  refine j_aload 13 rfl rfl ?_
  refine j_iconst 14 rfl ?_
  refine j_anewa (n := 23) (g := gs_25) (t := 2) (N := 3) (z2 := (2, 12, 96)) 15 rfl gw_168 gw_169 ⟨by decide, by decide⟩ (fun _ => rfl) (Nat.le_of_ble_eq_true rfl) ⟨rfl, rfl, rfl⟩ ?_
  show g_Ev l E (2, 12, 96) m_X9_init 31 [(2, ((21 : Nat) : Int)), (5, 0)] [(2, ((23 : Nat) : Int)), (2, ((21 : Nat) : Int))] 24 gs_26 (g_QQ E Q)
  refine j_putf (n := 24) (g := gs_26) (c := 9) (kf := 6) (a := 21) (v := (2, ((23 : Nat) : Int))) 16 rfl (by decide) gf_234 (Or.inr ⟨rfl, rfl, rfl⟩) ⟨Nat.le_of_ble_eq_true rfl, Nat.le_of_ble_eq_true rfl⟩ (by decide +kernel) (g_fitR rfl 23) ?_
  show g_Ev l E (2, 12, 96) m_X9_init 34 [(2, ((21 : Nat) : Int)), (5, 0)] [] 24 gs_27 (g_QQ E Q)
  refine j_iconst 17 rfl ?_
  refine j_istore (ls' := [(2, ((21 : Nat) : Int)), (0, 0)]) 18 rfl (Nat.le_of_ble_eq_true rfl) rfl ?_
  show g_Ev l E (2, 12, 96) m_X9_init 36 [(2, ((21 : Nat) : Int)), (0, 0)] [] 24 gs_27 (g_QQ E Q)
  refine j_iload 19 rfl rfl ?_
  refine j_iconst 20 rfl ?_
  refine j_geN 60 21 rfl rfl ⟨g_rgs 0 (by decide) (by decide), g_rgs 3 (by decide) (by decide)⟩ (by decide) ?_
  show g_Ev l E (2, 12, 96) m_X9_init 41 [(2, ((21 : Nat) : Int)), (0, 0)] [] 24 gs_27 (g_QQ E Q)
  refine j_aload 22 rfl rfl ?_
  refine j_getf (n := 24) (g := gs_27) (c := 9) (kf := 6) (a := 21) (v := (2, ((23 : Nat) : Int))) 23 rfl (by decide) gf_234 ⟨Nat.le_of_ble_eq_true rfl, Nat.le_of_ble_eq_true rfl⟩ (by decide +kernel) (by decide +kernel) ?_
  refine j_iload 24 rfl rfl ?_
  refine j_new (n := 24) (g := gs_27) (c := 1) (z2 := (2, 11, 89)) 25 rfl (by decide) gw_168 gw_170 gw_119 ⟨rfl, rfl, rfl⟩ ?_
  show g_Ev l E (2, 11, 89) m_X9_init 49 [(2, ((21 : Nat) : Int)), (0, 0)] [(2, ((24 : Nat) : Int)), (0, 0), (2, ((23 : Nat) : Int))] 25 gs_28 (g_QQ E Q)
  refine j_dup 26 rfl (Nat.ne_of_beq_eq_false rfl) ?_
  refine j_call (n := 25) (g := gs_28) (y1 := m_X1_init) (a := 24) (ls0 := [(2, ((24 : Nat) : Int))]) (st := [(2, ((24 : Nat) : Int)), (0, 0), (2, ((23 : Nat) : Int))]) (z1 := (1, 3, 25)) (z2 := (2, 8, 64)) [] 27 rfl (Or.inr ⟨_, gw_171⟩) ok_X1_init gk_X1 rfl ⟨rfl, Nat.le_of_ble_eq_true rfl⟩ (Nat.le_of_ble_eq_true rfl) ⟨Nat.le_of_ble_eq_true rfl, rfl, rfl, rfl⟩ ?_
  refine c_X1 (a := 24) (n := 25) (g := gs_28) ⟨Nat.le_of_ble_eq_true rfl, Nat.le_of_ble_eq_true rfl⟩ (by decide +kernel) ?_
  show g_Ev l E (2, 8, 64) m_X9_init 53 [(2, ((21 : Nat) : Int)), (0, 0)] [(2, ((24 : Nat) : Int)), (0, 0), (2, ((23 : Nat) : Int))] 28 gs_29 (g_QQ E Q)
  refine j_aast (n := 28) (g := gs_29) (t := 2) (c := 1) (a := 23) (b := 24) (i := 0) 28 rfl ⟨by decide, by decide⟩ (by decide) (fun _ => rfl) ⟨Nat.le_of_ble_eq_true rfl, Nat.le_of_ble_eq_true rfl⟩ (by decide +kernel) ⟨by decide +kernel, by decide⟩ ⟨Nat.le_of_ble_eq_true rfl, Nat.le_of_ble_eq_true rfl⟩ (by decide +kernel) ?_
  show g_Ev l E (2, 8, 64) m_X9_init 54 [(2, ((21 : Nat) : Int)), (0, 0)] [] 28 gs_30 (g_QQ E Q)
  refine j_iinc (a := 0) (ls' := [(2, ((21 : Nat) : Int)), (0, 1)]) 29 rfl rfl (Nat.le_of_ble_eq_true rfl) (by decide +kernel) ?_
  show g_Ev l E (2, 8, 64) m_X9_init 57 [(2, ((21 : Nat) : Int)), (0, 1)] [] 28 gs_30 (g_QQ E Q)
  refine j_goto 36 30 rfl rfl ?_
  show g_Ev l E (2, 8, 64) m_X9_init 36 [(2, ((21 : Nat) : Int)), (0, 1)] [] 28 gs_30 (g_QQ E Q)
  refine j_iload 19 rfl rfl ?_
  refine j_iconst 20 rfl ?_
  refine j_geN 60 21 rfl rfl ⟨g_rgs 1 (by decide) (by decide), g_rgs 3 (by decide) (by decide)⟩ (by decide) ?_
  show g_Ev l E (2, 8, 64) m_X9_init 41 [(2, ((21 : Nat) : Int)), (0, 1)] [] 28 gs_30 (g_QQ E Q)
  refine j_aload 22 rfl rfl ?_
  refine j_getf (n := 28) (g := gs_30) (c := 9) (kf := 6) (a := 21) (v := (2, ((23 : Nat) : Int))) 23 rfl (by decide) gf_234 ⟨Nat.le_of_ble_eq_true rfl, Nat.le_of_ble_eq_true rfl⟩ (by decide +kernel) (by decide +kernel) ?_
  refine j_iload 24 rfl rfl ?_
  refine j_new (n := 28) (g := gs_30) (c := 1) (z2 := (2, 7, 57)) 25 rfl (by decide) gw_168 gw_170 gw_119 ⟨rfl, rfl, rfl⟩ ?_
  show g_Ev l E (2, 7, 57) m_X9_init 49 [(2, ((21 : Nat) : Int)), (0, 1)] [(2, ((28 : Nat) : Int)), (0, 1), (2, ((23 : Nat) : Int))] 29 gs_31 (g_QQ E Q)
  refine j_dup 26 rfl (Nat.ne_of_beq_eq_false rfl) ?_
  refine j_call (n := 29) (g := gs_31) (y1 := m_X1_init) (a := 28) (ls0 := [(2, ((28 : Nat) : Int))]) (st := [(2, ((28 : Nat) : Int)), (0, 1), (2, ((23 : Nat) : Int))]) (z1 := (1, 3, 25)) (z2 := (2, 4, 32)) [] 27 rfl (Or.inr ⟨_, gw_171⟩) ok_X1_init gk_X1 rfl ⟨rfl, Nat.le_of_ble_eq_true rfl⟩ (Nat.le_of_ble_eq_true rfl) ⟨Nat.le_of_ble_eq_true rfl, rfl, rfl, rfl⟩ ?_
  refine c_X1 (a := 28) (n := 29) (g := gs_31) ⟨Nat.le_of_ble_eq_true rfl, Nat.le_of_ble_eq_true rfl⟩ (by decide +kernel) ?_
  show g_Ev l E (2, 4, 32) m_X9_init 53 [(2, ((21 : Nat) : Int)), (0, 1)] [(2, ((28 : Nat) : Int)), (0, 1), (2, ((23 : Nat) : Int))] 32 gs_32 (g_QQ E Q)
  refine j_aast (n := 32) (g := gs_32) (t := 2) (c := 1) (a := 23) (b := 28) (i := 1) 28 rfl ⟨by decide, by decide⟩ (by decide) (fun _ => rfl) ⟨Nat.le_of_ble_eq_true rfl, Nat.le_of_ble_eq_true rfl⟩ (by decide +kernel) ⟨by decide +kernel, by decide⟩ ⟨Nat.le_of_ble_eq_true rfl, Nat.le_of_ble_eq_true rfl⟩ (by decide +kernel) ?_
  show g_Ev l E (2, 4, 32) m_X9_init 54 [(2, ((21 : Nat) : Int)), (0, 1)] [] 32 gs_33 (g_QQ E Q)
  refine j_iinc (a := 1) (ls' := [(2, ((21 : Nat) : Int)), (0, 2)]) 29 rfl rfl (Nat.le_of_ble_eq_true rfl) (by decide +kernel) ?_
  show g_Ev l E (2, 4, 32) m_X9_init 57 [(2, ((21 : Nat) : Int)), (0, 2)] [] 32 gs_33 (g_QQ E Q)
  refine j_goto 36 30 rfl rfl ?_
  show g_Ev l E (2, 4, 32) m_X9_init 36 [(2, ((21 : Nat) : Int)), (0, 2)] [] 32 gs_33 (g_QQ E Q)
  refine j_iload 19 rfl rfl ?_
  refine j_iconst 20 rfl ?_
  refine j_geN 60 21 rfl rfl ⟨g_rgs 2 (by decide) (by decide), g_rgs 3 (by decide) (by decide)⟩ (by decide) ?_
  show g_Ev l E (2, 4, 32) m_X9_init 41 [(2, ((21 : Nat) : Int)), (0, 2)] [] 32 gs_33 (g_QQ E Q)
  refine j_aload 22 rfl rfl ?_
  refine j_getf (n := 32) (g := gs_33) (c := 9) (kf := 6) (a := 21) (v := (2, ((23 : Nat) : Int))) 23 rfl (by decide) gf_234 ⟨Nat.le_of_ble_eq_true rfl, Nat.le_of_ble_eq_true rfl⟩ (by decide +kernel) (by decide +kernel) ?_
  refine j_iload 24 rfl rfl ?_
  refine j_new (n := 32) (g := gs_33) (c := 1) (z2 := (2, 3, 25)) 25 rfl (by decide) gw_168 gw_170 gw_119 ⟨rfl, rfl, rfl⟩ ?_
  show g_Ev l E (2, 3, 25) m_X9_init 49 [(2, ((21 : Nat) : Int)), (0, 2)] [(2, ((32 : Nat) : Int)), (0, 2), (2, ((23 : Nat) : Int))] 33 gs_34 (g_QQ E Q)
  refine j_dup 26 rfl (Nat.ne_of_beq_eq_false rfl) ?_
  refine j_call (n := 33) (g := gs_34) (y1 := m_X1_init) (a := 32) (ls0 := [(2, ((32 : Nat) : Int))]) (st := [(2, ((32 : Nat) : Int)), (0, 2), (2, ((23 : Nat) : Int))]) (z1 := (1, 3, 25)) (z2 := (2, 0, 0)) [] 27 rfl (Or.inr ⟨_, gw_171⟩) ok_X1_init gk_X1 rfl ⟨rfl, Nat.le_of_ble_eq_true rfl⟩ (Nat.le_of_ble_eq_true rfl) ⟨Nat.le_of_ble_eq_true rfl, rfl, rfl, rfl⟩ ?_
  refine c_X1 (a := 32) (n := 33) (g := gs_34) ⟨Nat.le_of_ble_eq_true rfl, Nat.le_of_ble_eq_true rfl⟩ (by decide +kernel) ?_
  show g_Ev l E (2, 0, 0) m_X9_init 53 [(2, ((21 : Nat) : Int)), (0, 2)] [(2, ((32 : Nat) : Int)), (0, 2), (2, ((23 : Nat) : Int))] 36 gs_35 (g_QQ E Q)
  refine j_aast (n := 36) (g := gs_35) (t := 2) (c := 1) (a := 23) (b := 32) (i := 2) 28 rfl ⟨by decide, by decide⟩ (by decide) (fun _ => rfl) ⟨Nat.le_of_ble_eq_true rfl, Nat.le_of_ble_eq_true rfl⟩ (by decide +kernel) ⟨by decide +kernel, by decide⟩ ⟨Nat.le_of_ble_eq_true rfl, Nat.le_of_ble_eq_true rfl⟩ (by decide +kernel) ?_
  show g_Ev l E (2, 0, 0) m_X9_init 54 [(2, ((21 : Nat) : Int)), (0, 2)] [] 36 gs_36 (g_QQ E Q)
  refine j_iinc (a := 2) (ls' := [(2, ((21 : Nat) : Int)), (0, 3)]) 29 rfl rfl (Nat.le_of_ble_eq_true rfl) (by decide +kernel) ?_
  show g_Ev l E (2, 0, 0) m_X9_init 57 [(2, ((21 : Nat) : Int)), (0, 3)] [] 36 gs_36 (g_QQ E Q)
  refine j_goto 36 30 rfl rfl ?_
  show g_Ev l E (2, 0, 0) m_X9_init 36 [(2, ((21 : Nat) : Int)), (0, 3)] [] 36 gs_36 (g_QQ E Q)
  refine j_iload 19 rfl rfl ?_
  refine j_iconst 20 rfl ?_
  refine j_geY 60 21 rfl rfl ⟨g_rgs 3 (by decide) (by decide), g_rgs 3 (by decide) (by decide)⟩ (by decide) ?_
  show g_Ev l E (2, 0, 0) m_X9_init 60 [(2, ((21 : Nat) : Int)), (0, 3)] [] 36 gs_36 (g_QQ E Q)
  exact j_ret 31 rfl rfl k
theorem c_Market_40 {l : Launch} {E : xE} {Q : Nat → (Nat → gC) → Prop} (k : Q 76 gs_65) : g_Ev l E (3, 35, 408) m_X3_init 0 [(2, ((40 : Nat) : Int)), (2, ((6 : Nat) : Int)), (2, ((36 : Nat) : Int)), (5, 0)] [] 41 gs_40 (g_QQ E Q) := by
  refine j_aload 0 rfl rfl ?_
  refine j_obj (a := 40) 1 rfl gw_281 (Nat.le_of_ble_eq_true rfl) ?_
  show g_Ev l E (3, 35, 408) m_X3_init 4 [(2, ((40 : Nat) : Int)), (2, ((6 : Nat) : Int)), (2, ((36 : Nat) : Int)), (5, 0)] [] 41 gs_40 (g_QQ E Q)
  refine j_aload 2 rfl rfl ?_
  refine j_iconst 3 rfl ?_
  refine j_anewa (n := 41) (g := gs_40) (t := 3) (N := 3) (z2 := (3, 34, 405)) 4 rfl gw_282 gw_283 ⟨by decide, by decide⟩ (fun _ => rfl) (Nat.le_of_ble_eq_true rfl) ⟨rfl, rfl, rfl⟩ ?_
  show g_Ev l E (3, 34, 405) m_X3_init 9 [(2, ((40 : Nat) : Int)), (2, ((6 : Nat) : Int)), (2, ((36 : Nat) : Int)), (5, 0)] [(2, ((41 : Nat) : Int)), (2, ((40 : Nat) : Int))] 42 gs_41 (g_QQ E Q)
  refine j_putf (n := 42) (g := gs_41) (c := 3) (kf := 1) (a := 40) (v := (2, ((41 : Nat) : Int))) 5 rfl (by decide) gf_369 (Or.inr ⟨rfl, rfl, rfl⟩) ⟨Nat.le_of_ble_eq_true rfl, Nat.le_of_ble_eq_true rfl⟩ (by decide +kernel) (g_fitR rfl 41) ?_
  show g_Ev l E (3, 34, 405) m_X3_init 12 [(2, ((40 : Nat) : Int)), (2, ((6 : Nat) : Int)), (2, ((36 : Nat) : Int)), (5, 0)] [] 42 gs_42 (g_QQ E Q)
  refine j_aload 6 rfl rfl ?_
  refine j_new (n := 42) (g := gs_42) (c := 0) (z2 := (3, 33, 401)) 7 rfl (by decide) gw_284 gw_285 gw_122 ⟨rfl, rfl, rfl⟩ ?_
  show g_Ev l E (3, 33, 401) m_X3_init 16 [(2, ((40 : Nat) : Int)), (2, ((6 : Nat) : Int)), (2, ((36 : Nat) : Int)), (5, 0)] [(2, ((42 : Nat) : Int)), (2, ((40 : Nat) : Int))] 43 gs_43 (g_QQ E Q)
  refine j_dup 8 rfl (Nat.ne_of_beq_eq_false rfl) ?_
  refine j_call (n := 43) (g := gs_43) (y1 := m_X0_init) (a := 42) (ls0 := [(2, ((42 : Nat) : Int))]) (st := [(2, ((42 : Nat) : Int)), (2, ((40 : Nat) : Int))]) (z1 := (2, 3, 56)) (z2 := (3, 30, 345)) [] 9 rfl (Or.inr ⟨_, gw_286⟩) ok_X0_init gk_X0 rfl ⟨rfl, Nat.le_of_ble_eq_true rfl⟩ (Nat.le_of_ble_eq_true rfl) ⟨Nat.le_of_ble_eq_true rfl, rfl, rfl, rfl⟩ ?_
  refine c_X0 (a := 42) (n := 43) (g := gs_43) ⟨Nat.le_of_ble_eq_true rfl, Nat.le_of_ble_eq_true rfl⟩ (by decide +kernel) ?_
  show g_Ev l E (3, 30, 345) m_X3_init 20 [(2, ((40 : Nat) : Int)), (2, ((6 : Nat) : Int)), (2, ((36 : Nat) : Int)), (5, 0)] [(2, ((42 : Nat) : Int)), (2, ((40 : Nat) : Int))] 46 gs_44 (g_QQ E Q)
  refine j_putf (n := 46) (g := gs_44) (c := 3) (kf := 2) (a := 40) (v := (2, ((42 : Nat) : Int))) 10 rfl (by decide) gf_371 (Or.inr ⟨rfl, rfl, rfl⟩) ⟨Nat.le_of_ble_eq_true rfl, Nat.le_of_ble_eq_true rfl⟩ (by decide +kernel) (g_fitR rfl 42) ?_
  show g_Ev l E (3, 30, 345) m_X3_init 23 [(2, ((40 : Nat) : Int)), (2, ((6 : Nat) : Int)), (2, ((36 : Nat) : Int)), (5, 0)] [] 46 gs_45 (g_QQ E Q)
  refine j_aload 11 rfl rfl ?_
  refine j_new (n := 46) (g := gs_45) (c := 2) (z2 := (3, 29, 343)) 12 rfl (by decide) gw_311 gw_147 gw_118 ⟨rfl, rfl, rfl⟩ ?_
  show g_Ev l E (3, 29, 343) m_X3_init 27 [(2, ((40 : Nat) : Int)), (2, ((6 : Nat) : Int)), (2, ((36 : Nat) : Int)), (5, 0)] [(2, ((46 : Nat) : Int)), (2, ((40 : Nat) : Int))] 47 gs_46 (g_QQ E Q)
  refine j_dup 13 rfl (Nat.ne_of_beq_eq_false rfl) ?_
  refine j_call (n := 47) (g := gs_46) (y1 := m_X2_init) (a := 46) (ls0 := [(2, ((46 : Nat) : Int))]) (st := [(2, ((46 : Nat) : Int)), (2, ((40 : Nat) : Int))]) (z1 := (1, 0, 0)) (z2 := (3, 29, 343)) [] 14 rfl (Or.inr ⟨_, gw_312⟩) ok_X2_init gk_X2 rfl ⟨rfl, Nat.le_of_ble_eq_true rfl⟩ (Nat.le_of_ble_eq_true rfl) ⟨Nat.le_of_ble_eq_true rfl, rfl, rfl, rfl⟩ ?_
  refine c_X2 (a := 46) (n := 47) (g := gs_46) ⟨Nat.le_of_ble_eq_true rfl, Nat.le_of_ble_eq_true rfl⟩ (by decide +kernel) ?_
  show g_Ev l E (3, 29, 343) m_X3_init 31 [(2, ((40 : Nat) : Int)), (2, ((6 : Nat) : Int)), (2, ((36 : Nat) : Int)), (5, 0)] [(2, ((46 : Nat) : Int)), (2, ((40 : Nat) : Int))] 47 gs_47 (g_QQ E Q)
  refine j_putf (n := 47) (g := gs_47) (c := 3) (kf := 3) (a := 40) (v := (2, ((46 : Nat) : Int))) 15 rfl (by decide) gf_373 (Or.inr ⟨rfl, rfl, rfl⟩) ⟨Nat.le_of_ble_eq_true rfl, Nat.le_of_ble_eq_true rfl⟩ (by decide +kernel) (g_fitR rfl 46) ?_
  show g_Ev l E (3, 29, 343) m_X3_init 34 [(2, ((40 : Nat) : Int)), (2, ((6 : Nat) : Int)), (2, ((36 : Nat) : Int)), (5, 0)] [] 47 gs_48 (g_QQ E Q)
  refine j_aload 16 rfl rfl ?_
  refine j_new (n := 47) (g := gs_48) (c := 2) (z2 := (3, 28, 341)) 17 rfl (by decide) gw_311 gw_147 gw_118 ⟨rfl, rfl, rfl⟩ ?_
  show g_Ev l E (3, 28, 341) m_X3_init 38 [(2, ((40 : Nat) : Int)), (2, ((6 : Nat) : Int)), (2, ((36 : Nat) : Int)), (5, 0)] [(2, ((47 : Nat) : Int)), (2, ((40 : Nat) : Int))] 48 gs_49 (g_QQ E Q)
  refine j_dup 18 rfl (Nat.ne_of_beq_eq_false rfl) ?_
  refine j_call (n := 48) (g := gs_49) (y1 := m_X2_init) (a := 47) (ls0 := [(2, ((47 : Nat) : Int))]) (st := [(2, ((47 : Nat) : Int)), (2, ((40 : Nat) : Int))]) (z1 := (1, 0, 0)) (z2 := (3, 28, 341)) [] 19 rfl (Or.inr ⟨_, gw_312⟩) ok_X2_init gk_X2 rfl ⟨rfl, Nat.le_of_ble_eq_true rfl⟩ (Nat.le_of_ble_eq_true rfl) ⟨Nat.le_of_ble_eq_true rfl, rfl, rfl, rfl⟩ ?_
  refine c_X2 (a := 47) (n := 48) (g := gs_49) ⟨Nat.le_of_ble_eq_true rfl, Nat.le_of_ble_eq_true rfl⟩ (by decide +kernel) ?_
  show g_Ev l E (3, 28, 341) m_X3_init 42 [(2, ((40 : Nat) : Int)), (2, ((6 : Nat) : Int)), (2, ((36 : Nat) : Int)), (5, 0)] [(2, ((47 : Nat) : Int)), (2, ((40 : Nat) : Int))] 48 gs_50 (g_QQ E Q)
  refine j_putf (n := 48) (g := gs_50) (c := 3) (kf := 4) (a := 40) (v := (2, ((47 : Nat) : Int))) 20 rfl (by decide) gf_375 (Or.inr ⟨rfl, rfl, rfl⟩) ⟨Nat.le_of_ble_eq_true rfl, Nat.le_of_ble_eq_true rfl⟩ (by decide +kernel) (g_fitR rfl 47) ?_
  show g_Ev l E (3, 28, 341) m_X3_init 45 [(2, ((40 : Nat) : Int)), (2, ((6 : Nat) : Int)), (2, ((36 : Nat) : Int)), (5, 0)] [] 48 gs_51 (g_QQ E Q)
  refine j_aload 21 rfl rfl ?_
  refine j_new (n := 48) (g := gs_51) (c := 2) (z2 := (3, 27, 339)) 22 rfl (by decide) gw_311 gw_147 gw_118 ⟨rfl, rfl, rfl⟩ ?_
  show g_Ev l E (3, 27, 339) m_X3_init 49 [(2, ((40 : Nat) : Int)), (2, ((6 : Nat) : Int)), (2, ((36 : Nat) : Int)), (5, 0)] [(2, ((48 : Nat) : Int)), (2, ((40 : Nat) : Int))] 49 gs_52 (g_QQ E Q)
  refine j_dup 23 rfl (Nat.ne_of_beq_eq_false rfl) ?_
  refine j_call (n := 49) (g := gs_52) (y1 := m_X2_init) (a := 48) (ls0 := [(2, ((48 : Nat) : Int))]) (st := [(2, ((48 : Nat) : Int)), (2, ((40 : Nat) : Int))]) (z1 := (1, 0, 0)) (z2 := (3, 27, 339)) [] 24 rfl (Or.inr ⟨_, gw_312⟩) ok_X2_init gk_X2 rfl ⟨rfl, Nat.le_of_ble_eq_true rfl⟩ (Nat.le_of_ble_eq_true rfl) ⟨Nat.le_of_ble_eq_true rfl, rfl, rfl, rfl⟩ ?_
  refine c_X2 (a := 48) (n := 49) (g := gs_52) ⟨Nat.le_of_ble_eq_true rfl, Nat.le_of_ble_eq_true rfl⟩ (by decide +kernel) ?_
  show g_Ev l E (3, 27, 339) m_X3_init 53 [(2, ((40 : Nat) : Int)), (2, ((6 : Nat) : Int)), (2, ((36 : Nat) : Int)), (5, 0)] [(2, ((48 : Nat) : Int)), (2, ((40 : Nat) : Int))] 49 gs_53 (g_QQ E Q)
  refine j_putf (n := 49) (g := gs_53) (c := 3) (kf := 6) (a := 40) (v := (2, ((48 : Nat) : Int))) 25 rfl (by decide) gf_379 (Or.inr ⟨rfl, rfl, rfl⟩) ⟨Nat.le_of_ble_eq_true rfl, Nat.le_of_ble_eq_true rfl⟩ (by decide +kernel) (g_fitR rfl 48) ?_
  show g_Ev l E (3, 27, 339) m_X3_init 56 [(2, ((40 : Nat) : Int)), (2, ((6 : Nat) : Int)), (2, ((36 : Nat) : Int)), (5, 0)] [] 49 gs_54 (g_QQ E Q)
  refine j_aload 26 rfl rfl ?_
  refine j_lconst 1 27 rfl (by decide +kernel) ?_
  refine j_putf (n := 49) (g := gs_54) (c := 3) (kf := 7) (a := 40) (v := (1, 1)) 28 rfl (by decide) gf_380 (Or.inl rfl) ⟨Nat.le_of_ble_eq_true rfl, Nat.le_of_ble_eq_true rfl⟩ (by decide +kernel) (fun _ => ⟨rfl, rfl⟩) ?_
  show g_Ev l E (3, 27, 339) m_X3_init 61 [(2, ((40 : Nat) : Int)), (2, ((6 : Nat) : Int)), (2, ((36 : Nat) : Int)), (5, 0)] [] 49 gs_55 (g_QQ E Q)
  refine j_aload 29 rfl rfl ?_
  refine j_aload 30 rfl rfl ?_
  refine j_putf (n := 49) (g := gs_55) (c := 3) (kf := 0) (a := 40) (v := (2, ((6 : Nat) : Int))) 31 rfl (by decide) gf_368 (Or.inr ⟨rfl, rfl, rfl⟩) ⟨Nat.le_of_ble_eq_true rfl, Nat.le_of_ble_eq_true rfl⟩ (by decide +kernel) (g_fitR rfl 6) ?_
  show g_Ev l E (3, 27, 339) m_X3_init 66 [(2, ((40 : Nat) : Int)), (2, ((6 : Nat) : Int)), (2, ((36 : Nat) : Int)), (5, 0)] [] 49 gs_56 (g_QQ E Q)
  refine j_iconst 32 rfl ?_
  refine j_istore (ls' := [(2, ((40 : Nat) : Int)), (2, ((6 : Nat) : Int)), (2, ((36 : Nat) : Int)), (0, 0)]) 33 rfl (Nat.le_of_ble_eq_true rfl) rfl ?_
  show g_Ev l E (3, 27, 339) m_X3_init 68 [(2, ((40 : Nat) : Int)), (2, ((6 : Nat) : Int)), (2, ((36 : Nat) : Int)), (0, 0)] [] 49 gs_56 (g_QQ E Q)
  refine j_iload 34 rfl rfl ?_
  refine j_iconst 35 rfl ?_
  refine j_geN 99 36 rfl rfl ⟨g_rgs 0 (by decide) (by decide), g_rgs 3 (by decide) (by decide)⟩ (by decide) ?_
  show g_Ev l E (3, 27, 339) m_X3_init 73 [(2, ((40 : Nat) : Int)), (2, ((6 : Nat) : Int)), (2, ((36 : Nat) : Int)), (0, 0)] [] 49 gs_56 (g_QQ E Q)
  refine j_aload 37 rfl rfl ?_
  refine j_getf (n := 49) (g := gs_56) (c := 3) (kf := 1) (a := 40) (v := (2, ((41 : Nat) : Int))) 38 rfl (by decide) gf_369 ⟨Nat.le_of_ble_eq_true rfl, Nat.le_of_ble_eq_true rfl⟩ (by decide +kernel) (by decide +kernel) ?_
  refine j_iload 39 rfl rfl ?_
  refine j_new (n := 49) (g := gs_56) (c := 4) (z2 := (3, 26, 326)) 40 rfl (by decide) gw_282 gw_313 gw_123 ⟨rfl, rfl, rfl⟩ ?_
  show g_Ev l E (3, 26, 326) m_X3_init 81 [(2, ((40 : Nat) : Int)), (2, ((6 : Nat) : Int)), (2, ((36 : Nat) : Int)), (0, 0)] [(2, ((49 : Nat) : Int)), (0, 0), (2, ((41 : Nat) : Int))] 50 gs_57 (g_QQ E Q)
  refine j_dup 41 rfl (Nat.ne_of_beq_eq_false rfl) ?_
  refine j_aload 42 rfl rfl ?_
  refine j_getf (n := 50) (g := gs_57) (c := 9) (kf := 6) (a := 6) (v := (2, ((8 : Nat) : Int))) 43 rfl (by decide) gf_235 ⟨Nat.le_of_ble_eq_true rfl, Nat.le_of_ble_eq_true rfl⟩ (by decide +kernel) (by decide +kernel) ?_
  refine j_iload 44 rfl rfl ?_
  refine j_aald (n := 50) (g := gs_57) (t := 2) (a := 8) (i := 0) (v := (2, ((9 : Nat) : Int))) 45 rfl ⟨by decide, by decide⟩ ⟨Nat.le_of_ble_eq_true rfl, Nat.le_of_ble_eq_true rfl⟩ (by decide +kernel) ⟨by decide +kernel, by decide⟩ (by decide +kernel) ?_
  refine j_aload 46 rfl rfl ?_
  refine j_call (n := 50) (g := gs_57) (y1 := m_X4_init) (a := 49) (ls0 := [(2, ((49 : Nat) : Int)), (2, ((9 : Nat) : Int)), (2, ((36 : Nat) : Int))]) (st := [(2, ((49 : Nat) : Int)), (0, 0), (2, ((41 : Nat) : Int))]) (z1 := (1, 8, 100)) (z2 := (3, 18, 226)) [(2, ((9 : Nat) : Int)), (2, ((36 : Nat) : Int))] 47 rfl (Or.inl gw_314) ok_X4_init gk_X4 rfl ⟨rfl, Nat.le_of_ble_eq_true rfl⟩ (Nat.le_of_ble_eq_true rfl) ⟨Nat.le_of_ble_eq_true rfl, rfl, rfl, rfl⟩ ?_
  refine c_X4 (a := 49) (n := 50) (w := 9) (q := 36) (g := gs_57) ⟨Nat.le_of_ble_eq_true rfl, Nat.le_of_ble_eq_true rfl⟩ (by decide +kernel) ?_
  show g_Ev l E (3, 18, 226) m_X3_init 92 [(2, ((40 : Nat) : Int)), (2, ((6 : Nat) : Int)), (2, ((36 : Nat) : Int)), (0, 0)] [(2, ((49 : Nat) : Int)), (0, 0), (2, ((41 : Nat) : Int))] 58 gs_58 (g_QQ E Q)
  refine j_aast (n := 58) (g := gs_58) (t := 3) (c := 4) (a := 41) (b := 49) (i := 0) 48 rfl ⟨by decide, by decide⟩ (by decide) (fun _ => rfl) ⟨Nat.le_of_ble_eq_true rfl, Nat.le_of_ble_eq_true rfl⟩ (by decide +kernel) ⟨by decide +kernel, by decide⟩ ⟨Nat.le_of_ble_eq_true rfl, Nat.le_of_ble_eq_true rfl⟩ (by decide +kernel) ?_
  show g_Ev l E (3, 18, 226) m_X3_init 93 [(2, ((40 : Nat) : Int)), (2, ((6 : Nat) : Int)), (2, ((36 : Nat) : Int)), (0, 0)] [] 58 gs_59 (g_QQ E Q)
  refine j_iinc (a := 0) (ls' := [(2, ((40 : Nat) : Int)), (2, ((6 : Nat) : Int)), (2, ((36 : Nat) : Int)), (0, 1)]) 49 rfl rfl (Nat.le_of_ble_eq_true rfl) (by decide +kernel) ?_
  show g_Ev l E (3, 18, 226) m_X3_init 96 [(2, ((40 : Nat) : Int)), (2, ((6 : Nat) : Int)), (2, ((36 : Nat) : Int)), (0, 1)] [] 58 gs_59 (g_QQ E Q)
  refine j_goto 68 50 rfl rfl ?_
  show g_Ev l E (3, 18, 226) m_X3_init 68 [(2, ((40 : Nat) : Int)), (2, ((6 : Nat) : Int)), (2, ((36 : Nat) : Int)), (0, 1)] [] 58 gs_59 (g_QQ E Q)
  refine j_iload 34 rfl rfl ?_
  refine j_iconst 35 rfl ?_
  refine j_geN 99 36 rfl rfl ⟨g_rgs 1 (by decide) (by decide), g_rgs 3 (by decide) (by decide)⟩ (by decide) ?_
  show g_Ev l E (3, 18, 226) m_X3_init 73 [(2, ((40 : Nat) : Int)), (2, ((6 : Nat) : Int)), (2, ((36 : Nat) : Int)), (0, 1)] [] 58 gs_59 (g_QQ E Q)
  refine j_aload 37 rfl rfl ?_
  refine j_getf (n := 58) (g := gs_59) (c := 3) (kf := 1) (a := 40) (v := (2, ((41 : Nat) : Int))) 38 rfl (by decide) gf_369 ⟨Nat.le_of_ble_eq_true rfl, Nat.le_of_ble_eq_true rfl⟩ (by decide +kernel) (by decide +kernel) ?_
  refine j_iload 39 rfl rfl ?_
  refine j_new (n := 58) (g := gs_59) (c := 4) (z2 := (3, 17, 213)) 40 rfl (by decide) gw_282 gw_313 gw_123 ⟨rfl, rfl, rfl⟩ ?_
  show g_Ev l E (3, 17, 213) m_X3_init 81 [(2, ((40 : Nat) : Int)), (2, ((6 : Nat) : Int)), (2, ((36 : Nat) : Int)), (0, 1)] [(2, ((58 : Nat) : Int)), (0, 1), (2, ((41 : Nat) : Int))] 59 gs_60 (g_QQ E Q)
  refine j_dup 41 rfl (Nat.ne_of_beq_eq_false rfl) ?_
  refine j_aload 42 rfl rfl ?_
  refine j_getf (n := 59) (g := gs_60) (c := 9) (kf := 6) (a := 6) (v := (2, ((8 : Nat) : Int))) 43 rfl (by decide) gf_235 ⟨Nat.le_of_ble_eq_true rfl, Nat.le_of_ble_eq_true rfl⟩ (by decide +kernel) (by decide +kernel) ?_
  refine j_iload 44 rfl rfl ?_
  refine j_aald (n := 59) (g := gs_60) (t := 2) (a := 8) (i := 1) (v := (2, ((13 : Nat) : Int))) 45 rfl ⟨by decide, by decide⟩ ⟨Nat.le_of_ble_eq_true rfl, Nat.le_of_ble_eq_true rfl⟩ (by decide +kernel) ⟨by decide +kernel, by decide⟩ (by decide +kernel) ?_
  refine j_aload 46 rfl rfl ?_
  refine j_call (n := 59) (g := gs_60) (y1 := m_X4_init) (a := 58) (ls0 := [(2, ((58 : Nat) : Int)), (2, ((13 : Nat) : Int)), (2, ((36 : Nat) : Int))]) (st := [(2, ((58 : Nat) : Int)), (0, 1), (2, ((41 : Nat) : Int))]) (z1 := (1, 8, 100)) (z2 := (3, 9, 113)) [(2, ((13 : Nat) : Int)), (2, ((36 : Nat) : Int))] 47 rfl (Or.inl gw_314) ok_X4_init gk_X4 rfl ⟨rfl, Nat.le_of_ble_eq_true rfl⟩ (Nat.le_of_ble_eq_true rfl) ⟨Nat.le_of_ble_eq_true rfl, rfl, rfl, rfl⟩ ?_
  refine c_X4 (a := 58) (n := 59) (w := 13) (q := 36) (g := gs_60) ⟨Nat.le_of_ble_eq_true rfl, Nat.le_of_ble_eq_true rfl⟩ (by decide +kernel) ?_
  show g_Ev l E (3, 9, 113) m_X3_init 92 [(2, ((40 : Nat) : Int)), (2, ((6 : Nat) : Int)), (2, ((36 : Nat) : Int)), (0, 1)] [(2, ((58 : Nat) : Int)), (0, 1), (2, ((41 : Nat) : Int))] 67 gs_61 (g_QQ E Q)
  refine j_aast (n := 67) (g := gs_61) (t := 3) (c := 4) (a := 41) (b := 58) (i := 1) 48 rfl ⟨by decide, by decide⟩ (by decide) (fun _ => rfl) ⟨Nat.le_of_ble_eq_true rfl, Nat.le_of_ble_eq_true rfl⟩ (by decide +kernel) ⟨by decide +kernel, by decide⟩ ⟨Nat.le_of_ble_eq_true rfl, Nat.le_of_ble_eq_true rfl⟩ (by decide +kernel) ?_
  show g_Ev l E (3, 9, 113) m_X3_init 93 [(2, ((40 : Nat) : Int)), (2, ((6 : Nat) : Int)), (2, ((36 : Nat) : Int)), (0, 1)] [] 67 gs_62 (g_QQ E Q)
  refine j_iinc (a := 1) (ls' := [(2, ((40 : Nat) : Int)), (2, ((6 : Nat) : Int)), (2, ((36 : Nat) : Int)), (0, 2)]) 49 rfl rfl (Nat.le_of_ble_eq_true rfl) (by decide +kernel) ?_
  show g_Ev l E (3, 9, 113) m_X3_init 96 [(2, ((40 : Nat) : Int)), (2, ((6 : Nat) : Int)), (2, ((36 : Nat) : Int)), (0, 2)] [] 67 gs_62 (g_QQ E Q)
  refine j_goto 68 50 rfl rfl ?_
  show g_Ev l E (3, 9, 113) m_X3_init 68 [(2, ((40 : Nat) : Int)), (2, ((6 : Nat) : Int)), (2, ((36 : Nat) : Int)), (0, 2)] [] 67 gs_62 (g_QQ E Q)
  refine j_iload 34 rfl rfl ?_
  refine j_iconst 35 rfl ?_
  refine j_geN 99 36 rfl rfl ⟨g_rgs 2 (by decide) (by decide), g_rgs 3 (by decide) (by decide)⟩ (by decide) ?_
  show g_Ev l E (3, 9, 113) m_X3_init 73 [(2, ((40 : Nat) : Int)), (2, ((6 : Nat) : Int)), (2, ((36 : Nat) : Int)), (0, 2)] [] 67 gs_62 (g_QQ E Q)
  refine j_aload 37 rfl rfl ?_
  refine j_getf (n := 67) (g := gs_62) (c := 3) (kf := 1) (a := 40) (v := (2, ((41 : Nat) : Int))) 38 rfl (by decide) gf_369 ⟨Nat.le_of_ble_eq_true rfl, Nat.le_of_ble_eq_true rfl⟩ (by decide +kernel) (by decide +kernel) ?_
  refine j_iload 39 rfl rfl ?_
  refine j_new (n := 67) (g := gs_62) (c := 4) (z2 := (3, 8, 100)) 40 rfl (by decide) gw_282 gw_313 gw_123 ⟨rfl, rfl, rfl⟩ ?_
  show g_Ev l E (3, 8, 100) m_X3_init 81 [(2, ((40 : Nat) : Int)), (2, ((6 : Nat) : Int)), (2, ((36 : Nat) : Int)), (0, 2)] [(2, ((67 : Nat) : Int)), (0, 2), (2, ((41 : Nat) : Int))] 68 gs_63 (g_QQ E Q)
  refine j_dup 41 rfl (Nat.ne_of_beq_eq_false rfl) ?_
  refine j_aload 42 rfl rfl ?_
  refine j_getf (n := 68) (g := gs_63) (c := 9) (kf := 6) (a := 6) (v := (2, ((8 : Nat) : Int))) 43 rfl (by decide) gf_235 ⟨Nat.le_of_ble_eq_true rfl, Nat.le_of_ble_eq_true rfl⟩ (by decide +kernel) (by decide +kernel) ?_
  refine j_iload 44 rfl rfl ?_
  refine j_aald (n := 68) (g := gs_63) (t := 2) (a := 8) (i := 2) (v := (2, ((17 : Nat) : Int))) 45 rfl ⟨by decide, by decide⟩ ⟨Nat.le_of_ble_eq_true rfl, Nat.le_of_ble_eq_true rfl⟩ (by decide +kernel) ⟨by decide +kernel, by decide⟩ (by decide +kernel) ?_
  refine j_aload 46 rfl rfl ?_
  refine j_call (n := 68) (g := gs_63) (y1 := m_X4_init) (a := 67) (ls0 := [(2, ((67 : Nat) : Int)), (2, ((17 : Nat) : Int)), (2, ((36 : Nat) : Int))]) (st := [(2, ((67 : Nat) : Int)), (0, 2), (2, ((41 : Nat) : Int))]) (z1 := (1, 8, 100)) (z2 := (3, 0, 0)) [(2, ((17 : Nat) : Int)), (2, ((36 : Nat) : Int))] 47 rfl (Or.inl gw_314) ok_X4_init gk_X4 rfl ⟨rfl, Nat.le_of_ble_eq_true rfl⟩ (Nat.le_of_ble_eq_true rfl) ⟨Nat.le_of_ble_eq_true rfl, rfl, rfl, rfl⟩ ?_
  refine c_X4 (a := 67) (n := 68) (w := 17) (q := 36) (g := gs_63) ⟨Nat.le_of_ble_eq_true rfl, Nat.le_of_ble_eq_true rfl⟩ (by decide +kernel) ?_
  show g_Ev l E (3, 0, 0) m_X3_init 92 [(2, ((40 : Nat) : Int)), (2, ((6 : Nat) : Int)), (2, ((36 : Nat) : Int)), (0, 2)] [(2, ((67 : Nat) : Int)), (0, 2), (2, ((41 : Nat) : Int))] 76 gs_64 (g_QQ E Q)
  refine j_aast (n := 76) (g := gs_64) (t := 3) (c := 4) (a := 41) (b := 67) (i := 2) 48 rfl ⟨by decide, by decide⟩ (by decide) (fun _ => rfl) ⟨Nat.le_of_ble_eq_true rfl, Nat.le_of_ble_eq_true rfl⟩ (by decide +kernel) ⟨by decide +kernel, by decide⟩ ⟨Nat.le_of_ble_eq_true rfl, Nat.le_of_ble_eq_true rfl⟩ (by decide +kernel) ?_
  show g_Ev l E (3, 0, 0) m_X3_init 93 [(2, ((40 : Nat) : Int)), (2, ((6 : Nat) : Int)), (2, ((36 : Nat) : Int)), (0, 2)] [] 76 gs_65 (g_QQ E Q)
  refine j_iinc (a := 2) (ls' := [(2, ((40 : Nat) : Int)), (2, ((6 : Nat) : Int)), (2, ((36 : Nat) : Int)), (0, 3)]) 49 rfl rfl (Nat.le_of_ble_eq_true rfl) (by decide +kernel) ?_
  show g_Ev l E (3, 0, 0) m_X3_init 96 [(2, ((40 : Nat) : Int)), (2, ((6 : Nat) : Int)), (2, ((36 : Nat) : Int)), (0, 3)] [] 76 gs_65 (g_QQ E Q)
  refine j_goto 68 50 rfl rfl ?_
  show g_Ev l E (3, 0, 0) m_X3_init 68 [(2, ((40 : Nat) : Int)), (2, ((6 : Nat) : Int)), (2, ((36 : Nat) : Int)), (0, 3)] [] 76 gs_65 (g_QQ E Q)
  refine j_iload 34 rfl rfl ?_
  refine j_iconst 35 rfl ?_
  refine j_geY 99 36 rfl rfl ⟨g_rgs 3 (by decide) (by decide), g_rgs 3 (by decide) (by decide)⟩ (by decide) ?_
  show g_Ev l E (3, 0, 0) m_X3_init 99 [(2, ((40 : Nat) : Int)), (2, ((6 : Nat) : Int)), (2, ((36 : Nat) : Int)), (0, 3)] [] 76 gs_65 (g_QQ E Q)
  exact j_ret 51 rfl rfl k
theorem c_LeaderTerms_5 {l : Launch} {E : xE} {Q : Nat → (Nat → gC) → Prop} (k : Q 103 gs_110) : g_Ev l E (4, 97, 1170) m_X10_init 0 [(2, ((5 : Nat) : Int)), (5, 0), (5, 0)] [] 6 gs_1 (g_QQ E Q) := by
  refine j_aload 0 rfl rfl ?_
  refine j_obj (a := 5) 1 rfl gw_137 (Nat.le_of_ble_eq_true rfl) ?_
  show g_Ev l E (4, 97, 1170) m_X10_init 4 [(2, ((5 : Nat) : Int)), (5, 0), (5, 0)] [] 6 gs_1 (g_QQ E Q)
  refine j_aload 2 rfl rfl ?_
  refine j_new (n := 6) (g := gs_1) (c := 9) (z2 := (4, 96, 1163)) 3 rfl (by decide) gw_140 gw_141 gw_117 ⟨rfl, rfl, rfl⟩ ?_
  show g_Ev l E (4, 96, 1163) m_X10_init 8 [(2, ((5 : Nat) : Int)), (5, 0), (5, 0)] [(2, ((6 : Nat) : Int)), (2, ((5 : Nat) : Int))] 7 gs_2 (g_QQ E Q)
  refine j_dup 4 rfl (Nat.ne_of_beq_eq_false rfl) ?_
  refine j_call (n := 7) (g := gs_2) (y1 := m_X9_init) (a := 6) (ls0 := [(2, ((6 : Nat) : Int)), (5, 0)]) (st := [(2, ((6 : Nat) : Int)), (2, ((5 : Nat) : Int))]) (z1 := (2, 14, 101)) (z2 := (4, 82, 1062)) [] 5 rfl (Or.inl gw_142) ok_X9_init gk_X9 rfl ⟨rfl, Nat.le_of_ble_eq_true rfl⟩ (Nat.le_of_ble_eq_true rfl) ⟨Nat.le_of_ble_eq_true rfl, rfl, rfl, rfl⟩ ?_
  refine c_World_6 ?_
  show g_Ev l E (4, 82, 1062) m_X10_init 12 [(2, ((5 : Nat) : Int)), (5, 0), (5, 0)] [(2, ((6 : Nat) : Int)), (2, ((5 : Nat) : Int))] 21 gs_18 (g_QQ E Q)
  refine j_putf (n := 21) (g := gs_18) (c := 10) (kf := 0) (a := 5) (v := (2, ((6 : Nat) : Int))) 6 rfl (by decide) gf_461 (Or.inr ⟨rfl, rfl, rfl⟩) ⟨Nat.le_of_ble_eq_true rfl, Nat.le_of_ble_eq_true rfl⟩ (by decide +kernel) (g_fitR rfl 6) ?_
  show g_Ev l E (4, 82, 1062) m_X10_init 15 [(2, ((5 : Nat) : Int)), (5, 0), (5, 0)] [] 21 gs_19 (g_QQ E Q)
  refine j_aload 7 rfl rfl ?_
  refine j_new (n := 21) (g := gs_19) (c := 9) (z2 := (4, 81, 1055)) 8 rfl (by decide) gw_140 gw_141 gw_117 ⟨rfl, rfl, rfl⟩ ?_
  show g_Ev l E (4, 81, 1055) m_X10_init 19 [(2, ((5 : Nat) : Int)), (5, 0), (5, 0)] [(2, ((21 : Nat) : Int)), (2, ((5 : Nat) : Int))] 22 gs_20 (g_QQ E Q)
  refine j_dup 9 rfl (Nat.ne_of_beq_eq_false rfl) ?_
  refine j_call (n := 22) (g := gs_20) (y1 := m_X9_init) (a := 21) (ls0 := [(2, ((21 : Nat) : Int)), (5, 0)]) (st := [(2, ((21 : Nat) : Int)), (2, ((5 : Nat) : Int))]) (z1 := (2, 14, 101)) (z2 := (4, 67, 954)) [] 10 rfl (Or.inl gw_142) ok_X9_init gk_X9 rfl ⟨rfl, Nat.le_of_ble_eq_true rfl⟩ (Nat.le_of_ble_eq_true rfl) ⟨Nat.le_of_ble_eq_true rfl, rfl, rfl, rfl⟩ ?_
  refine c_World_21 ?_
  show g_Ev l E (4, 67, 954) m_X10_init 23 [(2, ((5 : Nat) : Int)), (5, 0), (5, 0)] [(2, ((21 : Nat) : Int)), (2, ((5 : Nat) : Int))] 36 gs_36 (g_QQ E Q)
  refine j_putf (n := 36) (g := gs_36) (c := 10) (kf := 1) (a := 5) (v := (2, ((21 : Nat) : Int))) 11 rfl (by decide) gf_462 (Or.inr ⟨rfl, rfl, rfl⟩) ⟨Nat.le_of_ble_eq_true rfl, Nat.le_of_ble_eq_true rfl⟩ (by decide +kernel) (g_fitR rfl 21) ?_
  show g_Ev l E (4, 67, 954) m_X10_init 26 [(2, ((5 : Nat) : Int)), (5, 0), (5, 0)] [] 36 gs_37 (g_QQ E Q)
  refine j_new (n := 36) (g := gs_37) (c := 8) (z2 := (4, 66, 950)) 12 rfl (by decide) gw_252 gw_253 gw_120 ⟨rfl, rfl, rfl⟩ ?_
  show g_Ev l E (4, 66, 950) m_X10_init 29 [(2, ((5 : Nat) : Int)), (5, 0), (5, 0)] [(2, ((36 : Nat) : Int))] 37 gs_38 (g_QQ E Q)
  refine j_dup 13 rfl (Nat.ne_of_beq_eq_false rfl) ?_
  refine j_call (n := 37) (g := gs_38) (y1 := m_X8_init) (a := 36) (ls0 := [(2, ((36 : Nat) : Int))]) (st := [(2, ((36 : Nat) : Int))]) (z1 := (1, 3, 15)) (z2 := (4, 63, 935)) [] 14 rfl (Or.inr ⟨_, gw_254⟩) ok_X8_init gk_X8 rfl ⟨rfl, Nat.le_of_ble_eq_true rfl⟩ (Nat.le_of_ble_eq_true rfl) ⟨Nat.le_of_ble_eq_true rfl, rfl, rfl, rfl⟩ ?_
  refine c_X8 (a := 36) (n := 37) (g := gs_38) ⟨Nat.le_of_ble_eq_true rfl, Nat.le_of_ble_eq_true rfl⟩ (by decide +kernel) ?_
  show g_Ev l E (4, 63, 935) m_X10_init 33 [(2, ((5 : Nat) : Int)), (5, 0), (5, 0)] [(2, ((36 : Nat) : Int))] 40 gs_39 (g_QQ E Q)
  refine j_astore (ls' := [(2, ((5 : Nat) : Int)), (2, ((36 : Nat) : Int)), (5, 0)]) 15 rfl (Nat.le_of_ble_eq_true rfl) rfl ?_
  show g_Ev l E (4, 63, 935) m_X10_init 34 [(2, ((5 : Nat) : Int)), (2, ((36 : Nat) : Int)), (5, 0)] [] 40 gs_39 (g_QQ E Q)
  refine j_aload 16 rfl rfl ?_
  refine j_new (n := 40) (g := gs_39) (c := 3) (z2 := (4, 62, 927)) 17 rfl (by decide) gw_276 gw_277 gw_121 ⟨rfl, rfl, rfl⟩ ?_
  show g_Ev l E (4, 62, 927) m_X10_init 38 [(2, ((5 : Nat) : Int)), (2, ((36 : Nat) : Int)), (5, 0)] [(2, ((40 : Nat) : Int)), (2, ((5 : Nat) : Int))] 41 gs_40 (g_QQ E Q)
  refine j_dup 18 rfl (Nat.ne_of_beq_eq_false rfl) ?_
  refine j_aload 19 rfl rfl ?_
  refine j_getf (n := 41) (g := gs_40) (c := 10) (kf := 0) (a := 5) (v := (2, ((6 : Nat) : Int))) 20 rfl (by decide) gf_461 ⟨Nat.le_of_ble_eq_true rfl, Nat.le_of_ble_eq_true rfl⟩ (by decide +kernel) (by decide +kernel) ?_
  refine j_aload 21 rfl rfl ?_
  refine j_call (n := 41) (g := gs_40) (y1 := m_X3_init) (a := 40) (ls0 := [(2, ((40 : Nat) : Int)), (2, ((6 : Nat) : Int)), (2, ((36 : Nat) : Int)), (5, 0)]) (st := [(2, ((40 : Nat) : Int)), (2, ((5 : Nat) : Int))]) (z1 := (3, 35, 408)) (z2 := (4, 27, 519)) [(2, ((6 : Nat) : Int)), (2, ((36 : Nat) : Int))] 22 rfl (Or.inl gw_278) ok_X3_init gk_X3 rfl ⟨rfl, Nat.le_of_ble_eq_true rfl⟩ (Nat.le_of_ble_eq_true rfl) ⟨Nat.le_of_ble_eq_true rfl, rfl, rfl, rfl⟩ ?_
  refine c_Market_40 ?_
  show g_Ev l E (4, 27, 519) m_X10_init 47 [(2, ((5 : Nat) : Int)), (2, ((36 : Nat) : Int)), (5, 0)] [(2, ((40 : Nat) : Int)), (2, ((5 : Nat) : Int))] 76 gs_65 (g_QQ E Q)
  refine j_putf (n := 76) (g := gs_65) (c := 10) (kf := 3) (a := 5) (v := (2, ((40 : Nat) : Int))) 23 rfl (by decide) gf_464 (Or.inr ⟨rfl, rfl, rfl⟩) ⟨Nat.le_of_ble_eq_true rfl, Nat.le_of_ble_eq_true rfl⟩ (by decide +kernel) (g_fitR rfl 40) ?_
  show g_Ev l E (4, 27, 519) m_X10_init 50 [(2, ((5 : Nat) : Int)), (2, ((36 : Nat) : Int)), (5, 0)] [] 76 gs_66 (g_QQ E Q)
  refine j_aload 24 rfl rfl ?_
  refine j_new (n := 76) (g := gs_66) (c := 5) (z2 := (4, 26, 510)) 25 rfl (by decide) gw_398 gw_399 gw_124 ⟨rfl, rfl, rfl⟩ ?_
  show g_Ev l E (4, 26, 510) m_X10_init 54 [(2, ((5 : Nat) : Int)), (2, ((36 : Nat) : Int)), (5, 0)] [(2, ((76 : Nat) : Int)), (2, ((5 : Nat) : Int))] 77 gs_67 (g_QQ E Q)
  refine j_dup 26 rfl (Nat.ne_of_beq_eq_false rfl) ?_
  refine j_aload 27 rfl rfl ?_
  refine j_call (n := 77) (g := gs_67) (y1 := m_X5_init) (a := 76) (ls0 := [(2, ((76 : Nat) : Int)), (2, ((36 : Nat) : Int))]) (st := [(2, ((76 : Nat) : Int)), (2, ((5 : Nat) : Int))]) (z1 := (1, 4, 245)) (z2 := (4, 22, 265)) [(2, ((36 : Nat) : Int))] 28 rfl (Or.inl gw_400) ok_X5_init gk_X5 rfl ⟨rfl, Nat.le_of_ble_eq_true rfl⟩ (Nat.le_of_ble_eq_true rfl) ⟨Nat.le_of_ble_eq_true rfl, rfl, rfl, rfl⟩ ?_
  refine c_X5 (a := 76) (n := 77) (q := 36) (g := gs_67) ⟨Nat.le_of_ble_eq_true rfl, Nat.le_of_ble_eq_true rfl⟩ (by decide +kernel) ?_
  show g_Ev l E (4, 22, 265) m_X10_init 59 [(2, ((5 : Nat) : Int)), (2, ((36 : Nat) : Int)), (5, 0)] [(2, ((76 : Nat) : Int)), (2, ((5 : Nat) : Int))] 81 gs_68 (g_QQ E Q)
  refine j_putf (n := 81) (g := gs_68) (c := 10) (kf := 4) (a := 5) (v := (2, ((76 : Nat) : Int))) 29 rfl (by decide) gf_465 (Or.inr ⟨rfl, rfl, rfl⟩) ⟨Nat.le_of_ble_eq_true rfl, Nat.le_of_ble_eq_true rfl⟩ (by decide +kernel) (g_fitR rfl 76) ?_
  show g_Ev l E (4, 22, 265) m_X10_init 62 [(2, ((5 : Nat) : Int)), (2, ((36 : Nat) : Int)), (5, 0)] [] 81 gs_69 (g_QQ E Q)
  refine j_aload 30 rfl rfl ?_
  refine j_new (n := 81) (g := gs_69) (c := 1) (z2 := (4, 21, 258)) 31 rfl (by decide) gw_435 gw_170 gw_119 ⟨rfl, rfl, rfl⟩ ?_
  show g_Ev l E (4, 21, 258) m_X10_init 66 [(2, ((5 : Nat) : Int)), (2, ((36 : Nat) : Int)), (5, 0)] [(2, ((81 : Nat) : Int)), (2, ((5 : Nat) : Int))] 82 gs_70 (g_QQ E Q)
  refine j_dup 32 rfl (Nat.ne_of_beq_eq_false rfl) ?_
  refine j_call (n := 82) (g := gs_70) (y1 := m_X1_init) (a := 81) (ls0 := [(2, ((81 : Nat) : Int))]) (st := [(2, ((81 : Nat) : Int)), (2, ((5 : Nat) : Int))]) (z1 := (1, 3, 25)) (z2 := (4, 18, 233)) [] 33 rfl (Or.inr ⟨_, gw_436⟩) ok_X1_init gk_X1 rfl ⟨rfl, Nat.le_of_ble_eq_true rfl⟩ (Nat.le_of_ble_eq_true rfl) ⟨Nat.le_of_ble_eq_true rfl, rfl, rfl, rfl⟩ ?_
  refine c_X1 (a := 81) (n := 82) (g := gs_70) ⟨Nat.le_of_ble_eq_true rfl, Nat.le_of_ble_eq_true rfl⟩ (by decide +kernel) ?_
  show g_Ev l E (4, 18, 233) m_X10_init 70 [(2, ((5 : Nat) : Int)), (2, ((36 : Nat) : Int)), (5, 0)] [(2, ((81 : Nat) : Int)), (2, ((5 : Nat) : Int))] 85 gs_71 (g_QQ E Q)
  refine j_putf (n := 85) (g := gs_71) (c := 10) (kf := 5) (a := 5) (v := (2, ((81 : Nat) : Int))) 34 rfl (by decide) gf_466 (Or.inr ⟨rfl, rfl, rfl⟩) ⟨Nat.le_of_ble_eq_true rfl, Nat.le_of_ble_eq_true rfl⟩ (by decide +kernel) (g_fitR rfl 81) ?_
  show g_Ev l E (4, 18, 233) m_X10_init 73 [(2, ((5 : Nat) : Int)), (2, ((36 : Nat) : Int)), (5, 0)] [] 85 gs_72 (g_QQ E Q)
  refine j_aload 35 rfl rfl ?_
  refine j_iconst 36 rfl ?_
  refine j_newa (n := 85) (g := gs_72) (t := 0) (N := 3) (z2 := (4, 17, 230)) 37 rfl (Or.inl ⟨rfl, rfl⟩) (Nat.le_of_ble_eq_true rfl) ⟨rfl, rfl, rfl⟩ ?_
  show g_Ev l E (4, 17, 230) m_X10_init 77 [(2, ((5 : Nat) : Int)), (2, ((36 : Nat) : Int)), (5, 0)] [(2, ((85 : Nat) : Int)), (2, ((5 : Nat) : Int))] 86 gs_73 (g_QQ E Q)
  refine j_putf (n := 86) (g := gs_73) (c := 10) (kf := 6) (a := 5) (v := (2, ((85 : Nat) : Int))) 38 rfl (by decide) gf_467 (Or.inr ⟨rfl, rfl, rfl⟩) ⟨Nat.le_of_ble_eq_true rfl, Nat.le_of_ble_eq_true rfl⟩ (by decide +kernel) (g_fitR rfl 85) ?_
  show g_Ev l E (4, 17, 230) m_X10_init 80 [(2, ((5 : Nat) : Int)), (2, ((36 : Nat) : Int)), (5, 0)] [] 86 gs_74 (g_QQ E Q)
  refine j_aload 39 rfl rfl ?_
  refine j_new (n := 86) (g := gs_74) (c := 2) (z2 := (4, 16, 228)) 40 rfl (by decide) gw_437 gw_147 gw_118 ⟨rfl, rfl, rfl⟩ ?_
  show g_Ev l E (4, 16, 228) m_X10_init 84 [(2, ((5 : Nat) : Int)), (2, ((36 : Nat) : Int)), (5, 0)] [(2, ((86 : Nat) : Int)), (2, ((5 : Nat) : Int))] 87 gs_75 (g_QQ E Q)
  refine j_dup 41 rfl (Nat.ne_of_beq_eq_false rfl) ?_
  refine j_call (n := 87) (g := gs_75) (y1 := m_X2_init) (a := 86) (ls0 := [(2, ((86 : Nat) : Int))]) (st := [(2, ((86 : Nat) : Int)), (2, ((5 : Nat) : Int))]) (z1 := (1, 0, 0)) (z2 := (4, 16, 228)) [] 42 rfl (Or.inr ⟨_, gw_438⟩) ok_X2_init gk_X2 rfl ⟨rfl, Nat.le_of_ble_eq_true rfl⟩ (Nat.le_of_ble_eq_true rfl) ⟨Nat.le_of_ble_eq_true rfl, rfl, rfl, rfl⟩ ?_
  refine c_X2 (a := 86) (n := 87) (g := gs_75) ⟨Nat.le_of_ble_eq_true rfl, Nat.le_of_ble_eq_true rfl⟩ (by decide +kernel) ?_
  show g_Ev l E (4, 16, 228) m_X10_init 88 [(2, ((5 : Nat) : Int)), (2, ((36 : Nat) : Int)), (5, 0)] [(2, ((86 : Nat) : Int)), (2, ((5 : Nat) : Int))] 87 gs_76 (g_QQ E Q)
  refine j_putf (n := 87) (g := gs_76) (c := 10) (kf := 7) (a := 5) (v := (2, ((86 : Nat) : Int))) 43 rfl (by decide) gf_468 (Or.inr ⟨rfl, rfl, rfl⟩) ⟨Nat.le_of_ble_eq_true rfl, Nat.le_of_ble_eq_true rfl⟩ (by decide +kernel) (g_fitR rfl 86) ?_
  show g_Ev l E (4, 16, 228) m_X10_init 91 [(2, ((5 : Nat) : Int)), (2, ((36 : Nat) : Int)), (5, 0)] [] 87 gs_77 (g_QQ E Q)
  refine j_aload 44 rfl rfl ?_
  refine j_new (n := 87) (g := gs_77) (c := 2) (z2 := (4, 15, 226)) 45 rfl (by decide) gw_437 gw_147 gw_118 ⟨rfl, rfl, rfl⟩ ?_
  show g_Ev l E (4, 15, 226) m_X10_init 95 [(2, ((5 : Nat) : Int)), (2, ((36 : Nat) : Int)), (5, 0)] [(2, ((87 : Nat) : Int)), (2, ((5 : Nat) : Int))] 88 gs_78 (g_QQ E Q)
  refine j_dup 46 rfl (Nat.ne_of_beq_eq_false rfl) ?_
  refine j_call (n := 88) (g := gs_78) (y1 := m_X2_init) (a := 87) (ls0 := [(2, ((87 : Nat) : Int))]) (st := [(2, ((87 : Nat) : Int)), (2, ((5 : Nat) : Int))]) (z1 := (1, 0, 0)) (z2 := (4, 15, 226)) [] 47 rfl (Or.inr ⟨_, gw_438⟩) ok_X2_init gk_X2 rfl ⟨rfl, Nat.le_of_ble_eq_true rfl⟩ (Nat.le_of_ble_eq_true rfl) ⟨Nat.le_of_ble_eq_true rfl, rfl, rfl, rfl⟩ ?_
  refine c_X2 (a := 87) (n := 88) (g := gs_78) ⟨Nat.le_of_ble_eq_true rfl, Nat.le_of_ble_eq_true rfl⟩ (by decide +kernel) ?_
  show g_Ev l E (4, 15, 226) m_X10_init 99 [(2, ((5 : Nat) : Int)), (2, ((36 : Nat) : Int)), (5, 0)] [(2, ((87 : Nat) : Int)), (2, ((5 : Nat) : Int))] 88 gs_79 (g_QQ E Q)
  refine j_putf (n := 88) (g := gs_79) (c := 10) (kf := 8) (a := 5) (v := (2, ((87 : Nat) : Int))) 48 rfl (by decide) gf_469 (Or.inr ⟨rfl, rfl, rfl⟩) ⟨Nat.le_of_ble_eq_true rfl, Nat.le_of_ble_eq_true rfl⟩ (by decide +kernel) (g_fitR rfl 87) ?_
  show g_Ev l E (4, 15, 226) m_X10_init 102 [(2, ((5 : Nat) : Int)), (2, ((36 : Nat) : Int)), (5, 0)] [] 88 gs_80 (g_QQ E Q)
  refine j_aload 49 rfl rfl ?_
  refine j_iconst 50 rfl ?_
  refine j_anewa (n := 88) (g := gs_80) (t := 4) (N := 4) (z2 := (4, 14, 222)) 51 rfl gw_439 gw_440 ⟨by decide, by decide⟩ (fun _ => rfl) (Nat.le_of_ble_eq_true rfl) ⟨rfl, rfl, rfl⟩ ?_
  show g_Ev l E (4, 14, 222) m_X10_init 107 [(2, ((5 : Nat) : Int)), (2, ((36 : Nat) : Int)), (5, 0)] [(2, ((88 : Nat) : Int)), (2, ((5 : Nat) : Int))] 89 gs_81 (g_QQ E Q)
  refine j_putf (n := 89) (g := gs_81) (c := 10) (kf := 9) (a := 5) (v := (2, ((88 : Nat) : Int))) 52 rfl (by decide) gf_470 (Or.inr ⟨rfl, rfl, rfl⟩) ⟨Nat.le_of_ble_eq_true rfl, Nat.le_of_ble_eq_true rfl⟩ (by decide +kernel) (g_fitR rfl 88) ?_
  show g_Ev l E (4, 14, 222) m_X10_init 110 [(2, ((5 : Nat) : Int)), (2, ((36 : Nat) : Int)), (5, 0)] [] 89 gs_82 (g_QQ E Q)
  refine j_aload 53 rfl rfl ?_
  refine j_bipush 54 rfl (by decide +kernel) ?_
  refine j_anewa (n := 89) (g := gs_82) (t := 5) (N := 10) (z2 := (4, 13, 212)) 55 rfl gw_441 gw_442 ⟨by decide, by decide⟩ (fun _ => rfl) (Nat.le_of_ble_eq_true rfl) ⟨rfl, rfl, rfl⟩ ?_
  show g_Ev l E (4, 13, 212) m_X10_init 116 [(2, ((5 : Nat) : Int)), (2, ((36 : Nat) : Int)), (5, 0)] [(2, ((89 : Nat) : Int)), (2, ((5 : Nat) : Int))] 90 gs_83 (g_QQ E Q)
  refine j_putf (n := 90) (g := gs_83) (c := 10) (kf := 10) (a := 5) (v := (2, ((89 : Nat) : Int))) 56 rfl (by decide) gf_471 (Or.inr ⟨rfl, rfl, rfl⟩) ⟨Nat.le_of_ble_eq_true rfl, Nat.le_of_ble_eq_true rfl⟩ (by decide +kernel) (g_fitR rfl 89) ?_
  show g_Ev l E (4, 13, 212) m_X10_init 119 [(2, ((5 : Nat) : Int)), (2, ((36 : Nat) : Int)), (5, 0)] [] 90 gs_84 (g_QQ E Q)
  refine j_iconst 57 rfl ?_
  refine j_istore (ls' := [(2, ((5 : Nat) : Int)), (2, ((36 : Nat) : Int)), (0, 0)]) 58 rfl (Nat.le_of_ble_eq_true rfl) rfl ?_
  show g_Ev l E (4, 13, 212) m_X10_init 121 [(2, ((5 : Nat) : Int)), (2, ((36 : Nat) : Int)), (0, 0)] [] 90 gs_84 (g_QQ E Q)
  refine j_iload 59 rfl rfl ?_
  refine j_bipush 60 rfl (by decide +kernel) ?_
  refine j_geN 146 61 rfl rfl ⟨g_rgs 0 (by decide) (by decide), g_rgs 10 (by decide) (by decide)⟩ (by decide) ?_
  show g_Ev l E (4, 13, 212) m_X10_init 127 [(2, ((5 : Nat) : Int)), (2, ((36 : Nat) : Int)), (0, 0)] [] 90 gs_84 (g_QQ E Q)
  refine j_aload 62 rfl rfl ?_
  refine j_getf (n := 90) (g := gs_84) (c := 10) (kf := 10) (a := 5) (v := (2, ((89 : Nat) : Int))) 63 rfl (by decide) gf_471 ⟨Nat.le_of_ble_eq_true rfl, Nat.le_of_ble_eq_true rfl⟩ (by decide +kernel) (by decide +kernel) ?_
  refine j_iload 64 rfl rfl ?_
  refine j_new (n := 90) (g := gs_84) (c := 7) (z2 := (4, 12, 209)) 65 rfl (by decide) gw_441 gw_443 gw_125 ⟨rfl, rfl, rfl⟩ ?_
  show g_Ev l E (4, 12, 209) m_X10_init 135 [(2, ((5 : Nat) : Int)), (2, ((36 : Nat) : Int)), (0, 0)] [(2, ((90 : Nat) : Int)), (0, 0), (2, ((89 : Nat) : Int))] 91 gs_85 (g_QQ E Q)
  refine j_dup 66 rfl (Nat.ne_of_beq_eq_false rfl) ?_
  refine j_call (n := 91) (g := gs_85) (y1 := m_X7_init) (a := 90) (ls0 := [(2, ((90 : Nat) : Int))]) (st := [(2, ((90 : Nat) : Int)), (0, 0), (2, ((89 : Nat) : Int))]) (z1 := (1, 0, 0)) (z2 := (4, 12, 209)) [] 67 rfl (Or.inr ⟨_, gw_444⟩) ok_X7_init gk_X7 rfl ⟨rfl, Nat.le_of_ble_eq_true rfl⟩ (Nat.le_of_ble_eq_true rfl) ⟨Nat.le_of_ble_eq_true rfl, rfl, rfl, rfl⟩ ?_
  refine c_X7 (a := 90) (n := 91) (g := gs_85) ⟨Nat.le_of_ble_eq_true rfl, Nat.le_of_ble_eq_true rfl⟩ (by decide +kernel) ?_
  show g_Ev l E (4, 12, 209) m_X10_init 139 [(2, ((5 : Nat) : Int)), (2, ((36 : Nat) : Int)), (0, 0)] [(2, ((90 : Nat) : Int)), (0, 0), (2, ((89 : Nat) : Int))] 91 gs_85 (g_QQ E Q)
  refine j_aast (n := 91) (g := gs_85) (t := 5) (c := 7) (a := 89) (b := 90) (i := 0) 68 rfl ⟨by decide, by decide⟩ (by decide) (fun _ => rfl) ⟨Nat.le_of_ble_eq_true rfl, Nat.le_of_ble_eq_true rfl⟩ (by decide +kernel) ⟨by decide +kernel, by decide⟩ ⟨Nat.le_of_ble_eq_true rfl, Nat.le_of_ble_eq_true rfl⟩ (by decide +kernel) ?_
  show g_Ev l E (4, 12, 209) m_X10_init 140 [(2, ((5 : Nat) : Int)), (2, ((36 : Nat) : Int)), (0, 0)] [] 91 gs_86 (g_QQ E Q)
  refine j_iinc (a := 0) (ls' := [(2, ((5 : Nat) : Int)), (2, ((36 : Nat) : Int)), (0, 1)]) 69 rfl rfl (Nat.le_of_ble_eq_true rfl) (by decide +kernel) ?_
  show g_Ev l E (4, 12, 209) m_X10_init 143 [(2, ((5 : Nat) : Int)), (2, ((36 : Nat) : Int)), (0, 1)] [] 91 gs_86 (g_QQ E Q)
  refine j_goto 121 70 rfl rfl ?_
  show g_Ev l E (4, 12, 209) m_X10_init 121 [(2, ((5 : Nat) : Int)), (2, ((36 : Nat) : Int)), (0, 1)] [] 91 gs_86 (g_QQ E Q)
  refine j_iload 59 rfl rfl ?_
  refine j_bipush 60 rfl (by decide +kernel) ?_
  refine j_geN 146 61 rfl rfl ⟨g_rgs 1 (by decide) (by decide), g_rgs 10 (by decide) (by decide)⟩ (by decide) ?_
  show g_Ev l E (4, 12, 209) m_X10_init 127 [(2, ((5 : Nat) : Int)), (2, ((36 : Nat) : Int)), (0, 1)] [] 91 gs_86 (g_QQ E Q)
  refine j_aload 62 rfl rfl ?_
  refine j_getf (n := 91) (g := gs_86) (c := 10) (kf := 10) (a := 5) (v := (2, ((89 : Nat) : Int))) 63 rfl (by decide) gf_471 ⟨Nat.le_of_ble_eq_true rfl, Nat.le_of_ble_eq_true rfl⟩ (by decide +kernel) (by decide +kernel) ?_
  refine j_iload 64 rfl rfl ?_
  refine j_new (n := 91) (g := gs_86) (c := 7) (z2 := (4, 11, 206)) 65 rfl (by decide) gw_441 gw_443 gw_125 ⟨rfl, rfl, rfl⟩ ?_
  show g_Ev l E (4, 11, 206) m_X10_init 135 [(2, ((5 : Nat) : Int)), (2, ((36 : Nat) : Int)), (0, 1)] [(2, ((91 : Nat) : Int)), (0, 1), (2, ((89 : Nat) : Int))] 92 gs_87 (g_QQ E Q)
  refine j_dup 66 rfl (Nat.ne_of_beq_eq_false rfl) ?_
  refine j_call (n := 92) (g := gs_87) (y1 := m_X7_init) (a := 91) (ls0 := [(2, ((91 : Nat) : Int))]) (st := [(2, ((91 : Nat) : Int)), (0, 1), (2, ((89 : Nat) : Int))]) (z1 := (1, 0, 0)) (z2 := (4, 11, 206)) [] 67 rfl (Or.inr ⟨_, gw_444⟩) ok_X7_init gk_X7 rfl ⟨rfl, Nat.le_of_ble_eq_true rfl⟩ (Nat.le_of_ble_eq_true rfl) ⟨Nat.le_of_ble_eq_true rfl, rfl, rfl, rfl⟩ ?_
  refine c_X7 (a := 91) (n := 92) (g := gs_87) ⟨Nat.le_of_ble_eq_true rfl, Nat.le_of_ble_eq_true rfl⟩ (by decide +kernel) ?_
  show g_Ev l E (4, 11, 206) m_X10_init 139 [(2, ((5 : Nat) : Int)), (2, ((36 : Nat) : Int)), (0, 1)] [(2, ((91 : Nat) : Int)), (0, 1), (2, ((89 : Nat) : Int))] 92 gs_87 (g_QQ E Q)
  refine j_aast (n := 92) (g := gs_87) (t := 5) (c := 7) (a := 89) (b := 91) (i := 1) 68 rfl ⟨by decide, by decide⟩ (by decide) (fun _ => rfl) ⟨Nat.le_of_ble_eq_true rfl, Nat.le_of_ble_eq_true rfl⟩ (by decide +kernel) ⟨by decide +kernel, by decide⟩ ⟨Nat.le_of_ble_eq_true rfl, Nat.le_of_ble_eq_true rfl⟩ (by decide +kernel) ?_
  show g_Ev l E (4, 11, 206) m_X10_init 140 [(2, ((5 : Nat) : Int)), (2, ((36 : Nat) : Int)), (0, 1)] [] 92 gs_88 (g_QQ E Q)
  refine j_iinc (a := 1) (ls' := [(2, ((5 : Nat) : Int)), (2, ((36 : Nat) : Int)), (0, 2)]) 69 rfl rfl (Nat.le_of_ble_eq_true rfl) (by decide +kernel) ?_
  show g_Ev l E (4, 11, 206) m_X10_init 143 [(2, ((5 : Nat) : Int)), (2, ((36 : Nat) : Int)), (0, 2)] [] 92 gs_88 (g_QQ E Q)
  refine j_goto 121 70 rfl rfl ?_
  show g_Ev l E (4, 11, 206) m_X10_init 121 [(2, ((5 : Nat) : Int)), (2, ((36 : Nat) : Int)), (0, 2)] [] 92 gs_88 (g_QQ E Q)
  refine j_iload 59 rfl rfl ?_
  refine j_bipush 60 rfl (by decide +kernel) ?_
  refine j_geN 146 61 rfl rfl ⟨g_rgs 2 (by decide) (by decide), g_rgs 10 (by decide) (by decide)⟩ (by decide) ?_
  show g_Ev l E (4, 11, 206) m_X10_init 127 [(2, ((5 : Nat) : Int)), (2, ((36 : Nat) : Int)), (0, 2)] [] 92 gs_88 (g_QQ E Q)
  refine j_aload 62 rfl rfl ?_
  refine j_getf (n := 92) (g := gs_88) (c := 10) (kf := 10) (a := 5) (v := (2, ((89 : Nat) : Int))) 63 rfl (by decide) gf_471 ⟨Nat.le_of_ble_eq_true rfl, Nat.le_of_ble_eq_true rfl⟩ (by decide +kernel) (by decide +kernel) ?_
  refine j_iload 64 rfl rfl ?_
  refine j_new (n := 92) (g := gs_88) (c := 7) (z2 := (4, 10, 203)) 65 rfl (by decide) gw_441 gw_443 gw_125 ⟨rfl, rfl, rfl⟩ ?_
  show g_Ev l E (4, 10, 203) m_X10_init 135 [(2, ((5 : Nat) : Int)), (2, ((36 : Nat) : Int)), (0, 2)] [(2, ((92 : Nat) : Int)), (0, 2), (2, ((89 : Nat) : Int))] 93 gs_89 (g_QQ E Q)
  refine j_dup 66 rfl (Nat.ne_of_beq_eq_false rfl) ?_
  refine j_call (n := 93) (g := gs_89) (y1 := m_X7_init) (a := 92) (ls0 := [(2, ((92 : Nat) : Int))]) (st := [(2, ((92 : Nat) : Int)), (0, 2), (2, ((89 : Nat) : Int))]) (z1 := (1, 0, 0)) (z2 := (4, 10, 203)) [] 67 rfl (Or.inr ⟨_, gw_444⟩) ok_X7_init gk_X7 rfl ⟨rfl, Nat.le_of_ble_eq_true rfl⟩ (Nat.le_of_ble_eq_true rfl) ⟨Nat.le_of_ble_eq_true rfl, rfl, rfl, rfl⟩ ?_
  refine c_X7 (a := 92) (n := 93) (g := gs_89) ⟨Nat.le_of_ble_eq_true rfl, Nat.le_of_ble_eq_true rfl⟩ (by decide +kernel) ?_
  show g_Ev l E (4, 10, 203) m_X10_init 139 [(2, ((5 : Nat) : Int)), (2, ((36 : Nat) : Int)), (0, 2)] [(2, ((92 : Nat) : Int)), (0, 2), (2, ((89 : Nat) : Int))] 93 gs_89 (g_QQ E Q)
  refine j_aast (n := 93) (g := gs_89) (t := 5) (c := 7) (a := 89) (b := 92) (i := 2) 68 rfl ⟨by decide, by decide⟩ (by decide) (fun _ => rfl) ⟨Nat.le_of_ble_eq_true rfl, Nat.le_of_ble_eq_true rfl⟩ (by decide +kernel) ⟨by decide +kernel, by decide⟩ ⟨Nat.le_of_ble_eq_true rfl, Nat.le_of_ble_eq_true rfl⟩ (by decide +kernel) ?_
  show g_Ev l E (4, 10, 203) m_X10_init 140 [(2, ((5 : Nat) : Int)), (2, ((36 : Nat) : Int)), (0, 2)] [] 93 gs_90 (g_QQ E Q)
  refine j_iinc (a := 2) (ls' := [(2, ((5 : Nat) : Int)), (2, ((36 : Nat) : Int)), (0, 3)]) 69 rfl rfl (Nat.le_of_ble_eq_true rfl) (by decide +kernel) ?_
  show g_Ev l E (4, 10, 203) m_X10_init 143 [(2, ((5 : Nat) : Int)), (2, ((36 : Nat) : Int)), (0, 3)] [] 93 gs_90 (g_QQ E Q)
  refine j_goto 121 70 rfl rfl ?_
  show g_Ev l E (4, 10, 203) m_X10_init 121 [(2, ((5 : Nat) : Int)), (2, ((36 : Nat) : Int)), (0, 3)] [] 93 gs_90 (g_QQ E Q)
  refine j_iload 59 rfl rfl ?_
  refine j_bipush 60 rfl (by decide +kernel) ?_
  refine j_geN 146 61 rfl rfl ⟨g_rgs 3 (by decide) (by decide), g_rgs 10 (by decide) (by decide)⟩ (by decide) ?_
  show g_Ev l E (4, 10, 203) m_X10_init 127 [(2, ((5 : Nat) : Int)), (2, ((36 : Nat) : Int)), (0, 3)] [] 93 gs_90 (g_QQ E Q)
  refine j_aload 62 rfl rfl ?_
  refine j_getf (n := 93) (g := gs_90) (c := 10) (kf := 10) (a := 5) (v := (2, ((89 : Nat) : Int))) 63 rfl (by decide) gf_471 ⟨Nat.le_of_ble_eq_true rfl, Nat.le_of_ble_eq_true rfl⟩ (by decide +kernel) (by decide +kernel) ?_
  refine j_iload 64 rfl rfl ?_
  refine j_new (n := 93) (g := gs_90) (c := 7) (z2 := (4, 9, 200)) 65 rfl (by decide) gw_441 gw_443 gw_125 ⟨rfl, rfl, rfl⟩ ?_
  show g_Ev l E (4, 9, 200) m_X10_init 135 [(2, ((5 : Nat) : Int)), (2, ((36 : Nat) : Int)), (0, 3)] [(2, ((93 : Nat) : Int)), (0, 3), (2, ((89 : Nat) : Int))] 94 gs_91 (g_QQ E Q)
  refine j_dup 66 rfl (Nat.ne_of_beq_eq_false rfl) ?_
  refine j_call (n := 94) (g := gs_91) (y1 := m_X7_init) (a := 93) (ls0 := [(2, ((93 : Nat) : Int))]) (st := [(2, ((93 : Nat) : Int)), (0, 3), (2, ((89 : Nat) : Int))]) (z1 := (1, 0, 0)) (z2 := (4, 9, 200)) [] 67 rfl (Or.inr ⟨_, gw_444⟩) ok_X7_init gk_X7 rfl ⟨rfl, Nat.le_of_ble_eq_true rfl⟩ (Nat.le_of_ble_eq_true rfl) ⟨Nat.le_of_ble_eq_true rfl, rfl, rfl, rfl⟩ ?_
  refine c_X7 (a := 93) (n := 94) (g := gs_91) ⟨Nat.le_of_ble_eq_true rfl, Nat.le_of_ble_eq_true rfl⟩ (by decide +kernel) ?_
  show g_Ev l E (4, 9, 200) m_X10_init 139 [(2, ((5 : Nat) : Int)), (2, ((36 : Nat) : Int)), (0, 3)] [(2, ((93 : Nat) : Int)), (0, 3), (2, ((89 : Nat) : Int))] 94 gs_91 (g_QQ E Q)
  refine j_aast (n := 94) (g := gs_91) (t := 5) (c := 7) (a := 89) (b := 93) (i := 3) 68 rfl ⟨by decide, by decide⟩ (by decide) (fun _ => rfl) ⟨Nat.le_of_ble_eq_true rfl, Nat.le_of_ble_eq_true rfl⟩ (by decide +kernel) ⟨by decide +kernel, by decide⟩ ⟨Nat.le_of_ble_eq_true rfl, Nat.le_of_ble_eq_true rfl⟩ (by decide +kernel) ?_
  show g_Ev l E (4, 9, 200) m_X10_init 140 [(2, ((5 : Nat) : Int)), (2, ((36 : Nat) : Int)), (0, 3)] [] 94 gs_92 (g_QQ E Q)
  refine j_iinc (a := 3) (ls' := [(2, ((5 : Nat) : Int)), (2, ((36 : Nat) : Int)), (0, 4)]) 69 rfl rfl (Nat.le_of_ble_eq_true rfl) (by decide +kernel) ?_
  show g_Ev l E (4, 9, 200) m_X10_init 143 [(2, ((5 : Nat) : Int)), (2, ((36 : Nat) : Int)), (0, 4)] [] 94 gs_92 (g_QQ E Q)
  refine j_goto 121 70 rfl rfl ?_
  show g_Ev l E (4, 9, 200) m_X10_init 121 [(2, ((5 : Nat) : Int)), (2, ((36 : Nat) : Int)), (0, 4)] [] 94 gs_92 (g_QQ E Q)
  refine j_iload 59 rfl rfl ?_
  refine j_bipush 60 rfl (by decide +kernel) ?_
  refine j_geN 146 61 rfl rfl ⟨g_rgs 4 (by decide) (by decide), g_rgs 10 (by decide) (by decide)⟩ (by decide) ?_
  show g_Ev l E (4, 9, 200) m_X10_init 127 [(2, ((5 : Nat) : Int)), (2, ((36 : Nat) : Int)), (0, 4)] [] 94 gs_92 (g_QQ E Q)
  refine j_aload 62 rfl rfl ?_
  refine j_getf (n := 94) (g := gs_92) (c := 10) (kf := 10) (a := 5) (v := (2, ((89 : Nat) : Int))) 63 rfl (by decide) gf_471 ⟨Nat.le_of_ble_eq_true rfl, Nat.le_of_ble_eq_true rfl⟩ (by decide +kernel) (by decide +kernel) ?_
  refine j_iload 64 rfl rfl ?_
  refine j_new (n := 94) (g := gs_92) (c := 7) (z2 := (4, 8, 197)) 65 rfl (by decide) gw_441 gw_443 gw_125 ⟨rfl, rfl, rfl⟩ ?_
  show g_Ev l E (4, 8, 197) m_X10_init 135 [(2, ((5 : Nat) : Int)), (2, ((36 : Nat) : Int)), (0, 4)] [(2, ((94 : Nat) : Int)), (0, 4), (2, ((89 : Nat) : Int))] 95 gs_93 (g_QQ E Q)
  refine j_dup 66 rfl (Nat.ne_of_beq_eq_false rfl) ?_
  refine j_call (n := 95) (g := gs_93) (y1 := m_X7_init) (a := 94) (ls0 := [(2, ((94 : Nat) : Int))]) (st := [(2, ((94 : Nat) : Int)), (0, 4), (2, ((89 : Nat) : Int))]) (z1 := (1, 0, 0)) (z2 := (4, 8, 197)) [] 67 rfl (Or.inr ⟨_, gw_444⟩) ok_X7_init gk_X7 rfl ⟨rfl, Nat.le_of_ble_eq_true rfl⟩ (Nat.le_of_ble_eq_true rfl) ⟨Nat.le_of_ble_eq_true rfl, rfl, rfl, rfl⟩ ?_
  refine c_X7 (a := 94) (n := 95) (g := gs_93) ⟨Nat.le_of_ble_eq_true rfl, Nat.le_of_ble_eq_true rfl⟩ (by decide +kernel) ?_
  show g_Ev l E (4, 8, 197) m_X10_init 139 [(2, ((5 : Nat) : Int)), (2, ((36 : Nat) : Int)), (0, 4)] [(2, ((94 : Nat) : Int)), (0, 4), (2, ((89 : Nat) : Int))] 95 gs_93 (g_QQ E Q)
  refine j_aast (n := 95) (g := gs_93) (t := 5) (c := 7) (a := 89) (b := 94) (i := 4) 68 rfl ⟨by decide, by decide⟩ (by decide) (fun _ => rfl) ⟨Nat.le_of_ble_eq_true rfl, Nat.le_of_ble_eq_true rfl⟩ (by decide +kernel) ⟨by decide +kernel, by decide⟩ ⟨Nat.le_of_ble_eq_true rfl, Nat.le_of_ble_eq_true rfl⟩ (by decide +kernel) ?_
  show g_Ev l E (4, 8, 197) m_X10_init 140 [(2, ((5 : Nat) : Int)), (2, ((36 : Nat) : Int)), (0, 4)] [] 95 gs_94 (g_QQ E Q)
  refine j_iinc (a := 4) (ls' := [(2, ((5 : Nat) : Int)), (2, ((36 : Nat) : Int)), (0, 5)]) 69 rfl rfl (Nat.le_of_ble_eq_true rfl) (by decide +kernel) ?_
  show g_Ev l E (4, 8, 197) m_X10_init 143 [(2, ((5 : Nat) : Int)), (2, ((36 : Nat) : Int)), (0, 5)] [] 95 gs_94 (g_QQ E Q)
  refine j_goto 121 70 rfl rfl ?_
  show g_Ev l E (4, 8, 197) m_X10_init 121 [(2, ((5 : Nat) : Int)), (2, ((36 : Nat) : Int)), (0, 5)] [] 95 gs_94 (g_QQ E Q)
  refine j_iload 59 rfl rfl ?_
  refine j_bipush 60 rfl (by decide +kernel) ?_
  refine j_geN 146 61 rfl rfl ⟨g_rgs 5 (by decide) (by decide), g_rgs 10 (by decide) (by decide)⟩ (by decide) ?_
  show g_Ev l E (4, 8, 197) m_X10_init 127 [(2, ((5 : Nat) : Int)), (2, ((36 : Nat) : Int)), (0, 5)] [] 95 gs_94 (g_QQ E Q)
  refine j_aload 62 rfl rfl ?_
  refine j_getf (n := 95) (g := gs_94) (c := 10) (kf := 10) (a := 5) (v := (2, ((89 : Nat) : Int))) 63 rfl (by decide) gf_471 ⟨Nat.le_of_ble_eq_true rfl, Nat.le_of_ble_eq_true rfl⟩ (by decide +kernel) (by decide +kernel) ?_
  refine j_iload 64 rfl rfl ?_
  refine j_new (n := 95) (g := gs_94) (c := 7) (z2 := (4, 7, 194)) 65 rfl (by decide) gw_441 gw_443 gw_125 ⟨rfl, rfl, rfl⟩ ?_
  show g_Ev l E (4, 7, 194) m_X10_init 135 [(2, ((5 : Nat) : Int)), (2, ((36 : Nat) : Int)), (0, 5)] [(2, ((95 : Nat) : Int)), (0, 5), (2, ((89 : Nat) : Int))] 96 gs_95 (g_QQ E Q)
  refine j_dup 66 rfl (Nat.ne_of_beq_eq_false rfl) ?_
  refine j_call (n := 96) (g := gs_95) (y1 := m_X7_init) (a := 95) (ls0 := [(2, ((95 : Nat) : Int))]) (st := [(2, ((95 : Nat) : Int)), (0, 5), (2, ((89 : Nat) : Int))]) (z1 := (1, 0, 0)) (z2 := (4, 7, 194)) [] 67 rfl (Or.inr ⟨_, gw_444⟩) ok_X7_init gk_X7 rfl ⟨rfl, Nat.le_of_ble_eq_true rfl⟩ (Nat.le_of_ble_eq_true rfl) ⟨Nat.le_of_ble_eq_true rfl, rfl, rfl, rfl⟩ ?_
  refine c_X7 (a := 95) (n := 96) (g := gs_95) ⟨Nat.le_of_ble_eq_true rfl, Nat.le_of_ble_eq_true rfl⟩ (by decide +kernel) ?_
  show g_Ev l E (4, 7, 194) m_X10_init 139 [(2, ((5 : Nat) : Int)), (2, ((36 : Nat) : Int)), (0, 5)] [(2, ((95 : Nat) : Int)), (0, 5), (2, ((89 : Nat) : Int))] 96 gs_95 (g_QQ E Q)
  refine j_aast (n := 96) (g := gs_95) (t := 5) (c := 7) (a := 89) (b := 95) (i := 5) 68 rfl ⟨by decide, by decide⟩ (by decide) (fun _ => rfl) ⟨Nat.le_of_ble_eq_true rfl, Nat.le_of_ble_eq_true rfl⟩ (by decide +kernel) ⟨by decide +kernel, by decide⟩ ⟨Nat.le_of_ble_eq_true rfl, Nat.le_of_ble_eq_true rfl⟩ (by decide +kernel) ?_
  show g_Ev l E (4, 7, 194) m_X10_init 140 [(2, ((5 : Nat) : Int)), (2, ((36 : Nat) : Int)), (0, 5)] [] 96 gs_96 (g_QQ E Q)
  refine j_iinc (a := 5) (ls' := [(2, ((5 : Nat) : Int)), (2, ((36 : Nat) : Int)), (0, 6)]) 69 rfl rfl (Nat.le_of_ble_eq_true rfl) (by decide +kernel) ?_
  show g_Ev l E (4, 7, 194) m_X10_init 143 [(2, ((5 : Nat) : Int)), (2, ((36 : Nat) : Int)), (0, 6)] [] 96 gs_96 (g_QQ E Q)
  refine j_goto 121 70 rfl rfl ?_
  show g_Ev l E (4, 7, 194) m_X10_init 121 [(2, ((5 : Nat) : Int)), (2, ((36 : Nat) : Int)), (0, 6)] [] 96 gs_96 (g_QQ E Q)
  refine j_iload 59 rfl rfl ?_
  refine j_bipush 60 rfl (by decide +kernel) ?_
  refine j_geN 146 61 rfl rfl ⟨g_rgs 6 (by decide) (by decide), g_rgs 10 (by decide) (by decide)⟩ (by decide) ?_
  show g_Ev l E (4, 7, 194) m_X10_init 127 [(2, ((5 : Nat) : Int)), (2, ((36 : Nat) : Int)), (0, 6)] [] 96 gs_96 (g_QQ E Q)
  refine j_aload 62 rfl rfl ?_
  refine j_getf (n := 96) (g := gs_96) (c := 10) (kf := 10) (a := 5) (v := (2, ((89 : Nat) : Int))) 63 rfl (by decide) gf_471 ⟨Nat.le_of_ble_eq_true rfl, Nat.le_of_ble_eq_true rfl⟩ (by decide +kernel) (by decide +kernel) ?_
  refine j_iload 64 rfl rfl ?_
  refine j_new (n := 96) (g := gs_96) (c := 7) (z2 := (4, 6, 191)) 65 rfl (by decide) gw_441 gw_443 gw_125 ⟨rfl, rfl, rfl⟩ ?_
  show g_Ev l E (4, 6, 191) m_X10_init 135 [(2, ((5 : Nat) : Int)), (2, ((36 : Nat) : Int)), (0, 6)] [(2, ((96 : Nat) : Int)), (0, 6), (2, ((89 : Nat) : Int))] 97 gs_97 (g_QQ E Q)
  refine j_dup 66 rfl (Nat.ne_of_beq_eq_false rfl) ?_
  refine j_call (n := 97) (g := gs_97) (y1 := m_X7_init) (a := 96) (ls0 := [(2, ((96 : Nat) : Int))]) (st := [(2, ((96 : Nat) : Int)), (0, 6), (2, ((89 : Nat) : Int))]) (z1 := (1, 0, 0)) (z2 := (4, 6, 191)) [] 67 rfl (Or.inr ⟨_, gw_444⟩) ok_X7_init gk_X7 rfl ⟨rfl, Nat.le_of_ble_eq_true rfl⟩ (Nat.le_of_ble_eq_true rfl) ⟨Nat.le_of_ble_eq_true rfl, rfl, rfl, rfl⟩ ?_
  refine c_X7 (a := 96) (n := 97) (g := gs_97) ⟨Nat.le_of_ble_eq_true rfl, Nat.le_of_ble_eq_true rfl⟩ (by decide +kernel) ?_
  show g_Ev l E (4, 6, 191) m_X10_init 139 [(2, ((5 : Nat) : Int)), (2, ((36 : Nat) : Int)), (0, 6)] [(2, ((96 : Nat) : Int)), (0, 6), (2, ((89 : Nat) : Int))] 97 gs_97 (g_QQ E Q)
  refine j_aast (n := 97) (g := gs_97) (t := 5) (c := 7) (a := 89) (b := 96) (i := 6) 68 rfl ⟨by decide, by decide⟩ (by decide) (fun _ => rfl) ⟨Nat.le_of_ble_eq_true rfl, Nat.le_of_ble_eq_true rfl⟩ (by decide +kernel) ⟨by decide +kernel, by decide⟩ ⟨Nat.le_of_ble_eq_true rfl, Nat.le_of_ble_eq_true rfl⟩ (by decide +kernel) ?_
  show g_Ev l E (4, 6, 191) m_X10_init 140 [(2, ((5 : Nat) : Int)), (2, ((36 : Nat) : Int)), (0, 6)] [] 97 gs_98 (g_QQ E Q)
  refine j_iinc (a := 6) (ls' := [(2, ((5 : Nat) : Int)), (2, ((36 : Nat) : Int)), (0, 7)]) 69 rfl rfl (Nat.le_of_ble_eq_true rfl) (by decide +kernel) ?_
  show g_Ev l E (4, 6, 191) m_X10_init 143 [(2, ((5 : Nat) : Int)), (2, ((36 : Nat) : Int)), (0, 7)] [] 97 gs_98 (g_QQ E Q)
  refine j_goto 121 70 rfl rfl ?_
  show g_Ev l E (4, 6, 191) m_X10_init 121 [(2, ((5 : Nat) : Int)), (2, ((36 : Nat) : Int)), (0, 7)] [] 97 gs_98 (g_QQ E Q)
  refine j_iload 59 rfl rfl ?_
  refine j_bipush 60 rfl (by decide +kernel) ?_
  refine j_geN 146 61 rfl rfl ⟨g_rgs 7 (by decide) (by decide), g_rgs 10 (by decide) (by decide)⟩ (by decide) ?_
  show g_Ev l E (4, 6, 191) m_X10_init 127 [(2, ((5 : Nat) : Int)), (2, ((36 : Nat) : Int)), (0, 7)] [] 97 gs_98 (g_QQ E Q)
  refine j_aload 62 rfl rfl ?_
  refine j_getf (n := 97) (g := gs_98) (c := 10) (kf := 10) (a := 5) (v := (2, ((89 : Nat) : Int))) 63 rfl (by decide) gf_471 ⟨Nat.le_of_ble_eq_true rfl, Nat.le_of_ble_eq_true rfl⟩ (by decide +kernel) (by decide +kernel) ?_
  refine j_iload 64 rfl rfl ?_
  refine j_new (n := 97) (g := gs_98) (c := 7) (z2 := (4, 5, 188)) 65 rfl (by decide) gw_441 gw_443 gw_125 ⟨rfl, rfl, rfl⟩ ?_
  show g_Ev l E (4, 5, 188) m_X10_init 135 [(2, ((5 : Nat) : Int)), (2, ((36 : Nat) : Int)), (0, 7)] [(2, ((97 : Nat) : Int)), (0, 7), (2, ((89 : Nat) : Int))] 98 gs_99 (g_QQ E Q)
  refine j_dup 66 rfl (Nat.ne_of_beq_eq_false rfl) ?_
  refine j_call (n := 98) (g := gs_99) (y1 := m_X7_init) (a := 97) (ls0 := [(2, ((97 : Nat) : Int))]) (st := [(2, ((97 : Nat) : Int)), (0, 7), (2, ((89 : Nat) : Int))]) (z1 := (1, 0, 0)) (z2 := (4, 5, 188)) [] 67 rfl (Or.inr ⟨_, gw_444⟩) ok_X7_init gk_X7 rfl ⟨rfl, Nat.le_of_ble_eq_true rfl⟩ (Nat.le_of_ble_eq_true rfl) ⟨Nat.le_of_ble_eq_true rfl, rfl, rfl, rfl⟩ ?_
  refine c_X7 (a := 97) (n := 98) (g := gs_99) ⟨Nat.le_of_ble_eq_true rfl, Nat.le_of_ble_eq_true rfl⟩ (by decide +kernel) ?_
  show g_Ev l E (4, 5, 188) m_X10_init 139 [(2, ((5 : Nat) : Int)), (2, ((36 : Nat) : Int)), (0, 7)] [(2, ((97 : Nat) : Int)), (0, 7), (2, ((89 : Nat) : Int))] 98 gs_99 (g_QQ E Q)
  refine j_aast (n := 98) (g := gs_99) (t := 5) (c := 7) (a := 89) (b := 97) (i := 7) 68 rfl ⟨by decide, by decide⟩ (by decide) (fun _ => rfl) ⟨Nat.le_of_ble_eq_true rfl, Nat.le_of_ble_eq_true rfl⟩ (by decide +kernel) ⟨by decide +kernel, by decide⟩ ⟨Nat.le_of_ble_eq_true rfl, Nat.le_of_ble_eq_true rfl⟩ (by decide +kernel) ?_
  show g_Ev l E (4, 5, 188) m_X10_init 140 [(2, ((5 : Nat) : Int)), (2, ((36 : Nat) : Int)), (0, 7)] [] 98 gs_100 (g_QQ E Q)
  refine j_iinc (a := 7) (ls' := [(2, ((5 : Nat) : Int)), (2, ((36 : Nat) : Int)), (0, 8)]) 69 rfl rfl (Nat.le_of_ble_eq_true rfl) (by decide +kernel) ?_
  show g_Ev l E (4, 5, 188) m_X10_init 143 [(2, ((5 : Nat) : Int)), (2, ((36 : Nat) : Int)), (0, 8)] [] 98 gs_100 (g_QQ E Q)
  refine j_goto 121 70 rfl rfl ?_
  show g_Ev l E (4, 5, 188) m_X10_init 121 [(2, ((5 : Nat) : Int)), (2, ((36 : Nat) : Int)), (0, 8)] [] 98 gs_100 (g_QQ E Q)
  refine j_iload 59 rfl rfl ?_
  refine j_bipush 60 rfl (by decide +kernel) ?_
  refine j_geN 146 61 rfl rfl ⟨g_rgs 8 (by decide) (by decide), g_rgs 10 (by decide) (by decide)⟩ (by decide) ?_
  show g_Ev l E (4, 5, 188) m_X10_init 127 [(2, ((5 : Nat) : Int)), (2, ((36 : Nat) : Int)), (0, 8)] [] 98 gs_100 (g_QQ E Q)
  refine j_aload 62 rfl rfl ?_
  refine j_getf (n := 98) (g := gs_100) (c := 10) (kf := 10) (a := 5) (v := (2, ((89 : Nat) : Int))) 63 rfl (by decide) gf_471 ⟨Nat.le_of_ble_eq_true rfl, Nat.le_of_ble_eq_true rfl⟩ (by decide +kernel) (by decide +kernel) ?_
  refine j_iload 64 rfl rfl ?_
  refine j_new (n := 98) (g := gs_100) (c := 7) (z2 := (4, 4, 185)) 65 rfl (by decide) gw_441 gw_443 gw_125 ⟨rfl, rfl, rfl⟩ ?_
  show g_Ev l E (4, 4, 185) m_X10_init 135 [(2, ((5 : Nat) : Int)), (2, ((36 : Nat) : Int)), (0, 8)] [(2, ((98 : Nat) : Int)), (0, 8), (2, ((89 : Nat) : Int))] 99 gs_101 (g_QQ E Q)
  refine j_dup 66 rfl (Nat.ne_of_beq_eq_false rfl) ?_
  refine j_call (n := 99) (g := gs_101) (y1 := m_X7_init) (a := 98) (ls0 := [(2, ((98 : Nat) : Int))]) (st := [(2, ((98 : Nat) : Int)), (0, 8), (2, ((89 : Nat) : Int))]) (z1 := (1, 0, 0)) (z2 := (4, 4, 185)) [] 67 rfl (Or.inr ⟨_, gw_444⟩) ok_X7_init gk_X7 rfl ⟨rfl, Nat.le_of_ble_eq_true rfl⟩ (Nat.le_of_ble_eq_true rfl) ⟨Nat.le_of_ble_eq_true rfl, rfl, rfl, rfl⟩ ?_
  refine c_X7 (a := 98) (n := 99) (g := gs_101) ⟨Nat.le_of_ble_eq_true rfl, Nat.le_of_ble_eq_true rfl⟩ (by decide +kernel) ?_
  show g_Ev l E (4, 4, 185) m_X10_init 139 [(2, ((5 : Nat) : Int)), (2, ((36 : Nat) : Int)), (0, 8)] [(2, ((98 : Nat) : Int)), (0, 8), (2, ((89 : Nat) : Int))] 99 gs_101 (g_QQ E Q)
  refine j_aast (n := 99) (g := gs_101) (t := 5) (c := 7) (a := 89) (b := 98) (i := 8) 68 rfl ⟨by decide, by decide⟩ (by decide) (fun _ => rfl) ⟨Nat.le_of_ble_eq_true rfl, Nat.le_of_ble_eq_true rfl⟩ (by decide +kernel) ⟨by decide +kernel, by decide⟩ ⟨Nat.le_of_ble_eq_true rfl, Nat.le_of_ble_eq_true rfl⟩ (by decide +kernel) ?_
  show g_Ev l E (4, 4, 185) m_X10_init 140 [(2, ((5 : Nat) : Int)), (2, ((36 : Nat) : Int)), (0, 8)] [] 99 gs_102 (g_QQ E Q)
  refine j_iinc (a := 8) (ls' := [(2, ((5 : Nat) : Int)), (2, ((36 : Nat) : Int)), (0, 9)]) 69 rfl rfl (Nat.le_of_ble_eq_true rfl) (by decide +kernel) ?_
  show g_Ev l E (4, 4, 185) m_X10_init 143 [(2, ((5 : Nat) : Int)), (2, ((36 : Nat) : Int)), (0, 9)] [] 99 gs_102 (g_QQ E Q)
  refine j_goto 121 70 rfl rfl ?_
  show g_Ev l E (4, 4, 185) m_X10_init 121 [(2, ((5 : Nat) : Int)), (2, ((36 : Nat) : Int)), (0, 9)] [] 99 gs_102 (g_QQ E Q)
  refine j_iload 59 rfl rfl ?_
  refine j_bipush 60 rfl (by decide +kernel) ?_
  refine j_geN 146 61 rfl rfl ⟨g_rgs 9 (by decide) (by decide), g_rgs 10 (by decide) (by decide)⟩ (by decide) ?_
  show g_Ev l E (4, 4, 185) m_X10_init 127 [(2, ((5 : Nat) : Int)), (2, ((36 : Nat) : Int)), (0, 9)] [] 99 gs_102 (g_QQ E Q)
  refine j_aload 62 rfl rfl ?_
  refine j_getf (n := 99) (g := gs_102) (c := 10) (kf := 10) (a := 5) (v := (2, ((89 : Nat) : Int))) 63 rfl (by decide) gf_471 ⟨Nat.le_of_ble_eq_true rfl, Nat.le_of_ble_eq_true rfl⟩ (by decide +kernel) (by decide +kernel) ?_
  refine j_iload 64 rfl rfl ?_
  refine j_new (n := 99) (g := gs_102) (c := 7) (z2 := (4, 3, 182)) 65 rfl (by decide) gw_441 gw_443 gw_125 ⟨rfl, rfl, rfl⟩ ?_
  show g_Ev l E (4, 3, 182) m_X10_init 135 [(2, ((5 : Nat) : Int)), (2, ((36 : Nat) : Int)), (0, 9)] [(2, ((99 : Nat) : Int)), (0, 9), (2, ((89 : Nat) : Int))] 100 gs_103 (g_QQ E Q)
  refine j_dup 66 rfl (Nat.ne_of_beq_eq_false rfl) ?_
  refine j_call (n := 100) (g := gs_103) (y1 := m_X7_init) (a := 99) (ls0 := [(2, ((99 : Nat) : Int))]) (st := [(2, ((99 : Nat) : Int)), (0, 9), (2, ((89 : Nat) : Int))]) (z1 := (1, 0, 0)) (z2 := (4, 3, 182)) [] 67 rfl (Or.inr ⟨_, gw_444⟩) ok_X7_init gk_X7 rfl ⟨rfl, Nat.le_of_ble_eq_true rfl⟩ (Nat.le_of_ble_eq_true rfl) ⟨Nat.le_of_ble_eq_true rfl, rfl, rfl, rfl⟩ ?_
  refine c_X7 (a := 99) (n := 100) (g := gs_103) ⟨Nat.le_of_ble_eq_true rfl, Nat.le_of_ble_eq_true rfl⟩ (by decide +kernel) ?_
  show g_Ev l E (4, 3, 182) m_X10_init 139 [(2, ((5 : Nat) : Int)), (2, ((36 : Nat) : Int)), (0, 9)] [(2, ((99 : Nat) : Int)), (0, 9), (2, ((89 : Nat) : Int))] 100 gs_103 (g_QQ E Q)
  refine j_aast (n := 100) (g := gs_103) (t := 5) (c := 7) (a := 89) (b := 99) (i := 9) 68 rfl ⟨by decide, by decide⟩ (by decide) (fun _ => rfl) ⟨Nat.le_of_ble_eq_true rfl, Nat.le_of_ble_eq_true rfl⟩ (by decide +kernel) ⟨by decide +kernel, by decide⟩ ⟨Nat.le_of_ble_eq_true rfl, Nat.le_of_ble_eq_true rfl⟩ (by decide +kernel) ?_
  show g_Ev l E (4, 3, 182) m_X10_init 140 [(2, ((5 : Nat) : Int)), (2, ((36 : Nat) : Int)), (0, 9)] [] 100 gs_104 (g_QQ E Q)
  refine j_iinc (a := 9) (ls' := [(2, ((5 : Nat) : Int)), (2, ((36 : Nat) : Int)), (0, 10)]) 69 rfl rfl (Nat.le_of_ble_eq_true rfl) (by decide +kernel) ?_
  show g_Ev l E (4, 3, 182) m_X10_init 143 [(2, ((5 : Nat) : Int)), (2, ((36 : Nat) : Int)), (0, 10)] [] 100 gs_104 (g_QQ E Q)
  refine j_goto 121 70 rfl rfl ?_
  show g_Ev l E (4, 3, 182) m_X10_init 121 [(2, ((5 : Nat) : Int)), (2, ((36 : Nat) : Int)), (0, 10)] [] 100 gs_104 (g_QQ E Q)
  refine j_iload 59 rfl rfl ?_
  refine j_bipush 60 rfl (by decide +kernel) ?_
  refine j_geY 146 61 rfl rfl ⟨g_rgs 10 (by decide) (by decide), g_rgs 10 (by decide) (by decide)⟩ (by decide) ?_
  show g_Ev l E (4, 3, 182) m_X10_init 146 [(2, ((5 : Nat) : Int)), (2, ((36 : Nat) : Int)), (0, 10)] [] 100 gs_104 (g_QQ E Q)
  refine j_aload 71 rfl rfl ?_
  refine j_sipush 72 rfl (by decide +kernel) ?_
  refine j_newa (n := 100) (g := gs_104) (t := 1) (N := 168) (z2 := (4, 2, 14)) 73 rfl (Or.inr ⟨rfl, rfl⟩) (Nat.le_of_ble_eq_true rfl) ⟨rfl, rfl, rfl⟩ ?_
  show g_Ev l E (4, 2, 14) m_X10_init 152 [(2, ((5 : Nat) : Int)), (2, ((36 : Nat) : Int)), (0, 10)] [(2, ((100 : Nat) : Int)), (2, ((5 : Nat) : Int))] 101 gs_105 (g_QQ E Q)
  refine j_putf (n := 101) (g := gs_105) (c := 10) (kf := 11) (a := 5) (v := (2, ((100 : Nat) : Int))) 74 rfl (by decide) gf_472 (Or.inr ⟨rfl, rfl, rfl⟩) ⟨Nat.le_of_ble_eq_true rfl, Nat.le_of_ble_eq_true rfl⟩ (by decide +kernel) (g_fitR rfl 100) ?_
  show g_Ev l E (4, 2, 14) m_X10_init 155 [(2, ((5 : Nat) : Int)), (2, ((36 : Nat) : Int)), (0, 10)] [] 101 gs_106 (g_QQ E Q)
  refine j_aload 75 rfl rfl ?_
  refine j_bipush 76 rfl (by decide +kernel) ?_
  refine j_newa (n := 101) (g := gs_106) (t := 1) (N := 6) (z2 := (4, 1, 8)) 77 rfl (Or.inr ⟨rfl, rfl⟩) (Nat.le_of_ble_eq_true rfl) ⟨rfl, rfl, rfl⟩ ?_
  show g_Ev l E (4, 1, 8) m_X10_init 160 [(2, ((5 : Nat) : Int)), (2, ((36 : Nat) : Int)), (0, 10)] [(2, ((101 : Nat) : Int)), (2, ((5 : Nat) : Int))] 102 gs_107 (g_QQ E Q)
  refine j_putf (n := 102) (g := gs_107) (c := 10) (kf := 13) (a := 5) (v := (2, ((101 : Nat) : Int))) 78 rfl (by decide) gf_474 (Or.inr ⟨rfl, rfl, rfl⟩) ⟨Nat.le_of_ble_eq_true rfl, Nat.le_of_ble_eq_true rfl⟩ (by decide +kernel) (g_fitR rfl 101) ?_
  show g_Ev l E (4, 1, 8) m_X10_init 163 [(2, ((5 : Nat) : Int)), (2, ((36 : Nat) : Int)), (0, 10)] [] 102 gs_108 (g_QQ E Q)
  refine j_aload 79 rfl rfl ?_
  refine j_bipush 80 rfl (by decide +kernel) ?_
  refine j_newa (n := 102) (g := gs_108) (t := 0) (N := 8) (z2 := (4, 0, 0)) 81 rfl (Or.inl ⟨rfl, rfl⟩) (Nat.le_of_ble_eq_true rfl) ⟨rfl, rfl, rfl⟩ ?_
  show g_Ev l E (4, 0, 0) m_X10_init 168 [(2, ((5 : Nat) : Int)), (2, ((36 : Nat) : Int)), (0, 10)] [(2, ((102 : Nat) : Int)), (2, ((5 : Nat) : Int))] 103 gs_109 (g_QQ E Q)
  refine j_putf (n := 103) (g := gs_109) (c := 10) (kf := 14) (a := 5) (v := (2, ((102 : Nat) : Int))) 82 rfl (by decide) gf_475 (Or.inr ⟨rfl, rfl, rfl⟩) ⟨Nat.le_of_ble_eq_true rfl, Nat.le_of_ble_eq_true rfl⟩ (by decide +kernel) (g_fitR rfl 102) ?_
  show g_Ev l E (4, 0, 0) m_X10_init 171 [(2, ((5 : Nat) : Int)), (2, ((36 : Nat) : Int)), (0, 10)] [] 103 gs_110 (g_QQ E Q)
  exact j_ret 83 rfl rfl k
