/-! level 2: the code between cut points, as it asks (laid by program) -/
set_option maxRecDepth 10000 in
theorem s0_29 : S0[29]? = some (8, 2, [30, 31]) := rfl
set_option maxRecDepth 10000 in
theorem s0_30 : S0[30]? = some (100, 4, []) := rfl
set_option maxRecDepth 10000 in
theorem s0_31 : S0[31]? = some (102, 4, [32, 33, 34, 35]) := rfl
set_option maxRecDepth 10000 in
theorem s0_32 : S0[32]? = some (100, 12, []) := rfl
set_option maxRecDepth 10000 in
theorem s0_33 : S0[33]? = some (100, 12, []) := rfl
set_option maxRecDepth 10000 in
theorem s0_34 : S0[34]? = some (100, 12, []) := rfl
set_option maxRecDepth 10000 in
theorem s0_35 : S0[35]? = some (100, 12, []) := rfl
set_option maxRecDepth 10000 in
theorem s0_38 : S0[38]? = some (100, 13, []) := rfl
set_option maxRecDepth 10000 in
theorem s0_39 : S0[39]? = some (100, 13, []) := rfl
set_option maxRecDepth 10000 in
theorem s0_40 : S0[40]? = some (100, 13, []) := rfl
set_option maxRecDepth 10000 in
theorem s0_41 : S0[41]? = some (100, 13, []) := rfl
set_option maxRecDepth 10000 in
theorem s0_42 : S0[42]? = some (100, 13, []) := rfl
set_option maxRecDepth 10000 in
theorem s0_43 : S0[43]? = some (100, 13, []) := rfl
set_option maxRecDepth 10000 in
theorem s0_44 : S0[44]? = some (100, 13, []) := rfl
set_option maxRecDepth 10000 in
theorem s0_45 : S0[45]? = some (102, 13, [46, 47, 48, 49, 50, 51, 52, 53, 54, 55, 56, 57, 58]) := rfl
set_option maxRecDepth 10000 in
theorem s0_46 : S0[46]? = some (100, 13, []) := rfl
set_option maxRecDepth 10000 in
theorem s0_47 : S0[47]? = some (100, 13, []) := rfl
set_option maxRecDepth 10000 in
theorem s0_48 : S0[48]? = some (100, 13, []) := rfl
set_option maxRecDepth 10000 in
theorem s0_49 : S0[49]? = some (100, 13, []) := rfl
set_option maxRecDepth 10000 in
theorem s0_50 : S0[50]? = some (100, 13, []) := rfl
set_option maxRecDepth 10000 in
theorem s0_51 : S0[51]? = some (100, 13, []) := rfl
set_option maxRecDepth 10000 in
theorem s0_52 : S0[52]? = some (100, 13, []) := rfl
set_option maxRecDepth 10000 in
theorem s0_53 : S0[53]? = some (100, 13, []) := rfl
set_option maxRecDepth 10000 in
theorem s0_54 : S0[54]? = some (100, 13, []) := rfl
set_option maxRecDepth 10000 in
theorem s0_55 : S0[55]? = some (100, 13, []) := rfl
set_option maxRecDepth 10000 in
theorem s0_56 : S0[56]? = some (100, 13, []) := rfl
set_option maxRecDepth 10000 in
theorem s0_57 : S0[57]? = some (100, 13, []) := rfl
set_option maxRecDepth 10000 in
theorem s0_58 : S0[58]? = some (100, 13, []) := rfl
set_option maxRecDepth 10000 in
theorem s0_80 : S0[80]? = some (8, 2, [81, 82]) := rfl
set_option maxRecDepth 10000 in
theorem s0_81 : S0[81]? = some (100, 4, []) := rfl
set_option maxRecDepth 10000 in
theorem s0_82 : S0[82]? = some (102, 4, [83, 84, 85, 86]) := rfl
set_option maxRecDepth 10000 in
theorem s0_83 : S0[83]? = some (100, 12, []) := rfl
set_option maxRecDepth 10000 in
theorem s0_84 : S0[84]? = some (100, 12, []) := rfl
set_option maxRecDepth 10000 in
theorem s0_85 : S0[85]? = some (100, 12, []) := rfl
set_option maxRecDepth 10000 in
theorem s0_86 : S0[86]? = some (100, 12, []) := rfl
set_option maxRecDepth 10000 in
theorem s0_87 : S0[87]? = some (8, 2, [88, 89]) := rfl
set_option maxRecDepth 10000 in
theorem s0_88 : S0[88]? = some (100, 4, []) := rfl
set_option maxRecDepth 10000 in
theorem s0_89 : S0[89]? = some (102, 4, [90, 91, 92, 93]) := rfl
set_option maxRecDepth 10000 in
theorem s0_90 : S0[90]? = some (100, 12, []) := rfl
set_option maxRecDepth 10000 in
theorem s0_91 : S0[91]? = some (100, 12, []) := rfl
set_option maxRecDepth 10000 in
theorem s0_92 : S0[92]? = some (100, 12, []) := rfl
set_option maxRecDepth 10000 in
theorem s0_93 : S0[93]? = some (100, 12, []) := rfl
set_option maxRecDepth 10000 in
theorem s0_94 : S0[94]? = some (8, 2, [95, 96]) := rfl
set_option maxRecDepth 10000 in
theorem s0_95 : S0[95]? = some (100, 4, []) := rfl
set_option maxRecDepth 10000 in
theorem s0_96 : S0[96]? = some (102, 4, [97, 98, 99, 100]) := rfl
set_option maxRecDepth 10000 in
theorem s0_97 : S0[97]? = some (100, 12, []) := rfl
set_option maxRecDepth 10000 in
theorem s0_98 : S0[98]? = some (100, 12, []) := rfl
set_option maxRecDepth 10000 in
theorem s0_99 : S0[99]? = some (100, 12, []) := rfl
set_option maxRecDepth 10000 in
theorem s0_100 : S0[100]? = some (100, 12, []) := rfl
set_option maxRecDepth 10000 in
theorem s0_101 : S0[101]? = some (8, 2, [102, 103]) := rfl
set_option maxRecDepth 10000 in
theorem s0_102 : S0[102]? = some (100, 4, []) := rfl
set_option maxRecDepth 10000 in
theorem s0_103 : S0[103]? = some (102, 4, [104, 105, 106, 107]) := rfl
set_option maxRecDepth 10000 in
theorem s0_104 : S0[104]? = some (100, 12, []) := rfl
set_option maxRecDepth 10000 in
theorem s0_105 : S0[105]? = some (100, 12, []) := rfl
set_option maxRecDepth 10000 in
theorem s0_106 : S0[106]? = some (100, 12, []) := rfl
set_option maxRecDepth 10000 in
theorem s0_107 : S0[107]? = some (100, 12, []) := rfl
set_option maxRecDepth 10000 in
theorem s0_108 : S0[108]? = some (8, 2, [109, 110]) := rfl
set_option maxRecDepth 10000 in
theorem s0_109 : S0[109]? = some (100, 4, []) := rfl
set_option maxRecDepth 10000 in
theorem s0_110 : S0[110]? = some (102, 4, [111, 112, 113, 114]) := rfl
set_option maxRecDepth 10000 in
theorem s0_111 : S0[111]? = some (100, 12, []) := rfl
set_option maxRecDepth 10000 in
theorem s0_112 : S0[112]? = some (100, 12, []) := rfl
set_option maxRecDepth 10000 in
theorem s0_113 : S0[113]? = some (100, 12, []) := rfl
set_option maxRecDepth 10000 in
theorem s0_114 : S0[114]? = some (100, 12, []) := rfl
set_option maxRecDepth 10000 in
theorem s0_115 : S0[115]? = some (8, 2, [116, 117]) := rfl
set_option maxRecDepth 10000 in
theorem s0_116 : S0[116]? = some (100, 4, []) := rfl
set_option maxRecDepth 10000 in
theorem s0_117 : S0[117]? = some (102, 4, [118, 119, 120, 121]) := rfl
set_option maxRecDepth 10000 in
theorem s0_118 : S0[118]? = some (100, 12, []) := rfl
set_option maxRecDepth 10000 in
theorem s0_119 : S0[119]? = some (100, 12, []) := rfl
set_option maxRecDepth 10000 in
theorem s0_120 : S0[120]? = some (100, 12, []) := rfl
set_option maxRecDepth 10000 in
theorem s0_121 : S0[121]? = some (100, 12, []) := rfl
set_option maxRecDepth 10000 in
theorem s0_122 : S0[122]? = some (8, 2, [123, 124]) := rfl
set_option maxRecDepth 10000 in
theorem s0_123 : S0[123]? = some (100, 4, []) := rfl
set_option maxRecDepth 10000 in
theorem s0_124 : S0[124]? = some (102, 4, [125, 126, 127, 128]) := rfl
set_option maxRecDepth 10000 in
theorem s0_125 : S0[125]? = some (100, 12, []) := rfl
set_option maxRecDepth 10000 in
theorem s0_126 : S0[126]? = some (100, 12, []) := rfl
set_option maxRecDepth 10000 in
theorem s0_127 : S0[127]? = some (100, 12, []) := rfl
set_option maxRecDepth 10000 in
theorem s0_128 : S0[128]? = some (100, 12, []) := rfl
set_option maxRecDepth 10000 in
theorem s0_129 : S0[129]? = some (8, 2, [130, 131]) := rfl
set_option maxRecDepth 10000 in
theorem s0_130 : S0[130]? = some (100, 4, []) := rfl
set_option maxRecDepth 10000 in
theorem s0_131 : S0[131]? = some (102, 4, [132, 133, 134, 135]) := rfl
set_option maxRecDepth 10000 in
theorem s0_132 : S0[132]? = some (100, 12, []) := rfl
set_option maxRecDepth 10000 in
theorem s0_133 : S0[133]? = some (100, 12, []) := rfl
set_option maxRecDepth 10000 in
theorem s0_134 : S0[134]? = some (100, 12, []) := rfl
set_option maxRecDepth 10000 in
theorem s0_135 : S0[135]? = some (100, 12, []) := rfl
set_option maxRecDepth 10000 in
theorem s0_136 : S0[136]? = some (8, 2, [137, 138]) := rfl
set_option maxRecDepth 10000 in
theorem s0_137 : S0[137]? = some (100, 4, []) := rfl
set_option maxRecDepth 10000 in
theorem s0_138 : S0[138]? = some (102, 4, [139, 140, 141, 142]) := rfl
set_option maxRecDepth 10000 in
theorem s0_139 : S0[139]? = some (100, 12, []) := rfl
set_option maxRecDepth 10000 in
theorem s0_140 : S0[140]? = some (100, 12, []) := rfl
set_option maxRecDepth 10000 in
theorem s0_141 : S0[141]? = some (100, 12, []) := rfl
set_option maxRecDepth 10000 in
theorem s0_142 : S0[142]? = some (100, 12, []) := rfl
set_option maxRecDepth 10000 in
theorem s0_143 : S0[143]? = some (8, 2, [144, 145]) := rfl
set_option maxRecDepth 10000 in
theorem s0_144 : S0[144]? = some (100, 4, []) := rfl
set_option maxRecDepth 10000 in
theorem s0_145 : S0[145]? = some (102, 4, [146, 147, 148, 149]) := rfl
set_option maxRecDepth 10000 in
theorem s0_146 : S0[146]? = some (100, 12, []) := rfl
set_option maxRecDepth 10000 in
theorem s0_147 : S0[147]? = some (100, 12, []) := rfl
set_option maxRecDepth 10000 in
theorem s0_148 : S0[148]? = some (100, 12, []) := rfl
set_option maxRecDepth 10000 in
theorem s0_149 : S0[149]? = some (100, 12, []) := rfl
set_option maxRecDepth 10000 in
theorem s0_150 : S0[150]? = some (8, 2, [151, 152]) := rfl
set_option maxRecDepth 10000 in
theorem s0_151 : S0[151]? = some (100, 4, []) := rfl
set_option maxRecDepth 10000 in
theorem s0_152 : S0[152]? = some (102, 4, [153, 154, 155, 156]) := rfl
set_option maxRecDepth 10000 in
theorem s0_153 : S0[153]? = some (100, 12, []) := rfl
set_option maxRecDepth 10000 in
theorem s0_154 : S0[154]? = some (100, 12, []) := rfl
set_option maxRecDepth 10000 in
theorem s0_155 : S0[155]? = some (100, 12, []) := rfl
set_option maxRecDepth 10000 in
theorem s0_156 : S0[156]? = some (100, 12, []) := rfl
set_option maxRecDepth 10000 in
theorem s0_157 : S0[157]? = some (8, 2, [158, 159]) := rfl
set_option maxRecDepth 10000 in
theorem s0_158 : S0[158]? = some (100, 4, []) := rfl
set_option maxRecDepth 10000 in
theorem s0_159 : S0[159]? = some (102, 4, [160, 161, 162, 163]) := rfl
set_option maxRecDepth 10000 in
theorem s0_160 : S0[160]? = some (100, 12, []) := rfl
set_option maxRecDepth 10000 in
theorem s0_161 : S0[161]? = some (100, 12, []) := rfl
set_option maxRecDepth 10000 in
theorem s0_162 : S0[162]? = some (100, 12, []) := rfl
set_option maxRecDepth 10000 in
theorem s0_163 : S0[163]? = some (100, 12, []) := rfl
set_option maxRecDepth 10000 in
theorem s0_164 : S0[164]? = some (8, 2, [165, 166]) := rfl
set_option maxRecDepth 10000 in
theorem s0_165 : S0[165]? = some (100, 4, []) := rfl
set_option maxRecDepth 10000 in
theorem s0_166 : S0[166]? = some (102, 4, [167, 168, 169, 170]) := rfl
set_option maxRecDepth 10000 in
theorem s0_167 : S0[167]? = some (100, 12, []) := rfl
set_option maxRecDepth 10000 in
theorem s0_168 : S0[168]? = some (100, 12, []) := rfl
set_option maxRecDepth 10000 in
theorem s0_169 : S0[169]? = some (100, 12, []) := rfl
set_option maxRecDepth 10000 in
theorem s0_170 : S0[170]? = some (100, 12, []) := rfl
set_option maxRecDepth 10000 in
theorem s0_171 : S0[171]? = some (8, 2, [172, 173]) := rfl
set_option maxRecDepth 10000 in
theorem s0_172 : S0[172]? = some (100, 4, []) := rfl
set_option maxRecDepth 10000 in
theorem s0_173 : S0[173]? = some (102, 4, [174, 175, 176, 177]) := rfl
set_option maxRecDepth 10000 in
theorem s0_174 : S0[174]? = some (100, 12, []) := rfl
set_option maxRecDepth 10000 in
theorem s0_175 : S0[175]? = some (100, 12, []) := rfl
set_option maxRecDepth 10000 in
theorem s0_176 : S0[176]? = some (100, 12, []) := rfl
set_option maxRecDepth 10000 in
theorem s0_177 : S0[177]? = some (100, 12, []) := rfl
set_option maxRecDepth 10000 in
theorem s0_178 : S0[178]? = some (8, 2, [179, 180]) := rfl
set_option maxRecDepth 10000 in
theorem s0_179 : S0[179]? = some (100, 4, []) := rfl
set_option maxRecDepth 10000 in
theorem s0_180 : S0[180]? = some (102, 4, [181, 182, 183, 184]) := rfl
set_option maxRecDepth 10000 in
theorem s0_181 : S0[181]? = some (100, 12, []) := rfl
set_option maxRecDepth 10000 in
theorem s0_182 : S0[182]? = some (100, 12, []) := rfl
set_option maxRecDepth 10000 in
theorem s0_183 : S0[183]? = some (100, 12, []) := rfl
set_option maxRecDepth 10000 in
theorem s0_184 : S0[184]? = some (100, 12, []) := rfl
set_option maxRecDepth 10000 in
theorem s0_185 : S0[185]? = some (8, 2, [186, 187]) := rfl
set_option maxRecDepth 10000 in
theorem s0_186 : S0[186]? = some (100, 4, []) := rfl
set_option maxRecDepth 10000 in
theorem s0_187 : S0[187]? = some (102, 4, [188, 189, 190, 191]) := rfl
set_option maxRecDepth 10000 in
theorem s0_188 : S0[188]? = some (100, 12, []) := rfl
set_option maxRecDepth 10000 in
theorem s0_189 : S0[189]? = some (100, 12, []) := rfl
set_option maxRecDepth 10000 in
theorem s0_190 : S0[190]? = some (100, 12, []) := rfl
set_option maxRecDepth 10000 in
theorem s0_191 : S0[191]? = some (100, 12, []) := rfl
/-! 13: RoundSlack.depot(II)I -/
def D13_0 (x1 : Int) (x2 : Int) (I : IM) (K : Option AV → IM → Prop) : Prop :=
  CALL S0 14 [vI x1, vI 0, vI 40] I (fun v I1 => ∃ y2 : Int, v = some (vI y2) ∧ (if y2 = 0 then (K (some (vI (-2))) I1) else (CALL S0 14 [vI x2, vI 0, vI 40] I1 (fun v I4 => ∃ y5 : Int, v = some (vI y5) ∧ (if y5 = 0 then (K (some (vI (-2))) I4) else (CALL S0 15 [vR 29] I4 (fun v I7 => ∃ y8 : Int, v = some (vI y8) ∧ (if y8 ≤ 0 then (CALL S0 16 [vR 1, vI 12, vI x1, vI x2] I7 (fun v I10 => v = none ∧ CALL S0 17 [vR 78] I10 (fun v I11 => v = none ∧ K (some (vI 1)) I11))) else (K (some (vI (-3))) I7)))))))))
set_option maxRecDepth 10000 in
theorem g13_0 (x1 : Int) (x2 : Int) (I : IM) (K : Option AV → IM → Prop) (h : D13_0 x1 x2 I K) : GO S0 13 0 [vR 0, vI x1, vI x2] [] I K := by
  unfold D13_0 at h
  refine G_loadI rc_13_0 rfl ?_
  refine G_const rc_13_1 (by decide) ?_
  refine G_const rc_13_2 (by decide) ?_
  refine G_call (as := [vI x1, vI 0, vI 40]) (rest := []) rc_13_4 rfl rfl rfl (Nat.le_of_ble_eq_true rfl) rfl ?_
  refine GO.imp h (fun v I1 h => ?_)
  obtain ⟨y2, rfl, h⟩ := h
  show GO S0 13 7 [vR 0, vI x1, vI x2] [vI y2] I1 K
  refine G_i1 (C := y2 = 0) rc_13_7 rfl (fun c3 => ?_) (fun c3 => ?_)
  · rw [if_pos c3] at h
    show GO S0 13 20 [vR 0, vI x1, vI x2] [] I1 K
    refine G_const rc_13_20 (by decide) ?_
    exact G_retI rc_13_22 (Or.inl rfl) h
  · rw [if_neg c3] at h
    show GO S0 13 10 [vR 0, vI x1, vI x2] [] I1 K
    refine G_loadI rc_13_10 rfl ?_
    refine G_const rc_13_11 (by decide) ?_
    refine G_const rc_13_12 (by decide) ?_
    refine G_call (as := [vI x2, vI 0, vI 40]) (rest := []) rc_13_14 rfl rfl rfl (Nat.le_of_ble_eq_true rfl) rfl ?_
    refine GO.imp h (fun v I4 h => ?_)
    obtain ⟨y5, rfl, h⟩ := h
    show GO S0 13 17 [vR 0, vI x1, vI x2] [vI y5] I4 K
    refine G_i1 (C := ¬ y5 = 0) rc_13_17 rfl (fun c6 => ?_) (fun c6 => ?_)
    · rw [if_neg c6] at h
      show GO S0 13 23 [vR 0, vI x1, vI x2] [] I4 K
      refine G_loadR rc_13_23 rfl ?_
      refine G_getR rc_13_24 s0_0 (by decide) rfl (by decide) ?_
      show GO S0 13 27 [vR 0, vI x1, vI x2] [vR 29] I4 K
      refine G_call (as := [vR 29]) (rest := []) rc_13_27 rfl rfl rfl (Nat.le_of_ble_eq_true rfl) (g_recv s0_29 rfl) ?_
      refine GO.imp h (fun v I7 h => ?_)
      obtain ⟨y8, rfl, h⟩ := h
      show GO S0 13 30 [vR 0, vI x1, vI x2] [vI y8] I7 K
      refine G_i1 (C := y8 ≤ 0) rc_13_30 rfl (fun c9 => ?_) (fun c9 => ?_)
      · rw [if_pos c9] at h
        show GO S0 13 36 [vR 0, vI x1, vI x2] [] I7 K
        refine G_loadR rc_13_36 rfl ?_
        refine G_getR rc_13_37 s0_0 (by decide) rfl (by decide) ?_
        show GO S0 13 40 [vR 0, vI x1, vI x2] [vR 1] I7 K
        refine G_const rc_13_40 (by decide) ?_
        refine G_loadI rc_13_42 rfl ?_
        refine G_loadI rc_13_43 rfl ?_
        refine G_call (as := [vR 1, vI 12, vI x1, vI x2]) (rest := []) rc_13_44 rfl rfl rfl (Nat.le_of_ble_eq_true rfl) (g_recv s0_1 rfl) ?_
        refine GO.imp h (fun v I10 h => ?_)
        obtain ⟨rfl, h⟩ := h
        show GO S0 13 47 [vR 0, vI x1, vI x2] [] I10 K
        refine G_loadR rc_13_47 rfl ?_
        refine G_getR rc_13_48 s0_0 (by decide) rfl (by decide) ?_
        show GO S0 13 51 [vR 0, vI x1, vI x2] [vR 78] I10 K
        refine G_call (as := [vR 78]) (rest := []) rc_13_51 rfl rfl rfl (Nat.le_of_ble_eq_true rfl) (g_recv s0_78 rfl) ?_
        refine GO.imp h (fun v I11 h => ?_)
        obtain ⟨rfl, h⟩ := h
        show GO S0 13 54 [vR 0, vI x1, vI x2] [] I11 K
        refine G_const rc_13_54 (by decide) ?_
        exact G_retI rc_13_55 (Or.inl rfl) h
      · rw [if_neg c9] at h
        show GO S0 13 33 [vR 0, vI x1, vI x2] [] I7 K
        refine G_const rc_13_33 (by decide) ?_
        exact G_retI rc_13_35 (Or.inl rfl) h
    · rw [if_pos (Classical.not_not.mp c6)] at h
      show GO S0 13 20 [vR 0, vI x1, vI x2] [] I4 K
      refine G_const rc_13_20 (by decide) ?_
      exact G_retI rc_13_22 (Or.inl rfl) h
/-! 14: RoundSlack.within(III)Z -/
def D14_0 (x0 : Int) (x1 : Int) (x2 : Int) (I : IM) (K : Option AV → IM → Prop) : Prop :=
  (if x0 < x1 then (K (some (vI 0)) I) else ((if x2 < x0 then (K (some (vI 0)) I) else (K (some (vI 1)) I))))
set_option maxRecDepth 10000 in
theorem g14_0 (x0 : Int) (x1 : Int) (x2 : Int) (I : IM) (K : Option AV → IM → Prop) (h : D14_0 x0 x1 x2 I K) : GO S0 14 0 [vI x0, vI x1, vI x2] [] I K := by
  unfold D14_0 at h
  refine G_loadI rc_14_0 rfl ?_
  refine G_loadI rc_14_1 rfl ?_
  refine G_i2 (C := x0 < x1) rc_14_2 rfl (fun c1 => ?_) (fun c1 => ?_)
  · rw [if_pos c1] at h
    show GO S0 14 14 [vI x0, vI x1, vI x2] [] I K
    refine G_const rc_14_14 (by decide) ?_
    exact G_retI rc_14_15 (Or.inr (by decide)) h
  · rw [if_neg c1] at h
    show GO S0 14 5 [vI x0, vI x1, vI x2] [] I K
    refine G_loadI rc_14_5 rfl ?_
    refine G_loadI rc_14_6 rfl ?_
    refine G_i2 (C := x2 < x0) rc_14_7 rfl (fun c2 => ?_) (fun c2 => ?_)
    · rw [if_pos c2] at h
      show GO S0 14 14 [vI x0, vI x1, vI x2] [] I K
      refine G_const rc_14_14 (by decide) ?_
      exact G_retI rc_14_15 (Or.inr (by decide)) h
    · rw [if_neg c2] at h
      show GO S0 14 10 [vI x0, vI x1, vI x2] [] I K
      refine G_const rc_14_10 (by decide) ?_
      refine G_goto rc_14_11 ?_
      show GO S0 14 15 [vI x0, vI x1, vI x2] [vI 1] I K
      exact G_retI rc_14_15 (Or.inr (by decide)) h
/-! 15: RoundSlack$Rounds.stopsInAll()I -/
def D15_0 (r0 : Nat) (I : IM) (K : Option AV → IM → Prop) : Prop :=
  (inR ((I (r0 + 1) 0) + (I (r0 + 1) 1))) ∧ (inR (((I (r0 + 1) 0) + (I (r0 + 1) 1)) + (I (r0 + 1) 2))) ∧ (inR ((((I (r0 + 1) 0) + (I (r0 + 1) 1)) + (I (r0 + 1) 2)) + (I (r0 + 1) 3))) ∧ K (some (vI ((((I (r0 + 1) 0) + (I (r0 + 1) 1)) + (I (r0 + 1) 2)) + (I (r0 + 1) 3)))) I
set_option maxRecDepth 10000 in
theorem g15_0 (r0 : Nat) (h0 : isRd r0) (I : IM) (K : Option AV → IM → Prop) (h : D15_0 r0 I K) : GO S0 15 0 [vR r0] [] I K := by
  unfold D15_0 at h
  refine G_loadR rc_15_0 rfl ?_
  refine G_getR rc_15_1 (rd_0 h0) (by decide) rfl (by have := rd_lt h0; omega) ?_
  show GO S0 15 4 [vR r0] [vR (r0 + 1)] I K
  refine G_const rc_15_4 (by decide) ?_
  refine G_ald rc_15_5 (rd_1 h0) (by decide) (by decide) ?_
  show GO S0 15 6 [vR r0] [vI (I (r0 + 1) 0)] I K
  refine G_loadR rc_15_6 rfl ?_
  refine G_getR rc_15_7 (rd_0 h0) (by decide) rfl (by have := rd_lt h0; omega) ?_
  show GO S0 15 10 [vR r0] [vR (r0 + 1), vI (I (r0 + 1) 0)] I K
  refine G_const rc_15_10 (by decide) ?_
  refine G_ald rc_15_11 (rd_1 h0) (by decide) (by decide) ?_
  show GO S0 15 12 [vR r0] [vI (I (r0 + 1) 1), vI (I (r0 + 1) 0)] I K
  obtain ⟨c1, h⟩ := h
  refine G_bop (z := (I (r0 + 1) 0) + (I (r0 + 1) 1)) rc_15_12 (if_pos c1) ?_
  show GO S0 15 13 [vR r0] [vI ((I (r0 + 1) 0) + (I (r0 + 1) 1))] I K
  refine G_loadR rc_15_13 rfl ?_
  refine G_getR rc_15_14 (rd_0 h0) (by decide) rfl (by have := rd_lt h0; omega) ?_
  show GO S0 15 17 [vR r0] [vR (r0 + 1), vI ((I (r0 + 1) 0) + (I (r0 + 1) 1))] I K
  refine G_const rc_15_17 (by decide) ?_
  refine G_ald rc_15_18 (rd_1 h0) (by decide) (by decide) ?_
  show GO S0 15 19 [vR r0] [vI (I (r0 + 1) 2), vI ((I (r0 + 1) 0) + (I (r0 + 1) 1))] I K
  obtain ⟨c2, h⟩ := h
  refine G_bop (z := ((I (r0 + 1) 0) + (I (r0 + 1) 1)) + (I (r0 + 1) 2)) rc_15_19 (if_pos c2) ?_
  show GO S0 15 20 [vR r0] [vI (((I (r0 + 1) 0) + (I (r0 + 1) 1)) + (I (r0 + 1) 2))] I K
  refine G_loadR rc_15_20 rfl ?_
  refine G_getR rc_15_21 (rd_0 h0) (by decide) rfl (by have := rd_lt h0; omega) ?_
  show GO S0 15 24 [vR r0] [vR (r0 + 1), vI (((I (r0 + 1) 0) + (I (r0 + 1) 1)) + (I (r0 + 1) 2))] I K
  refine G_const rc_15_24 (by decide) ?_
  refine G_ald rc_15_25 (rd_1 h0) (by decide) (by decide) ?_
  show GO S0 15 26 [vR r0] [vI (I (r0 + 1) 3), vI (((I (r0 + 1) 0) + (I (r0 + 1) 1)) + (I (r0 + 1) 2))] I K
  obtain ⟨c3, h⟩ := h
  refine G_bop (z := (((I (r0 + 1) 0) + (I (r0 + 1) 1)) + (I (r0 + 1) 2)) + (I (r0 + 1) 3)) rc_15_26 (if_pos c3) ?_
  show GO S0 15 27 [vR r0] [vI ((((I (r0 + 1) 0) + (I (r0 + 1) 1)) + (I (r0 + 1) 2)) + (I (r0 + 1) 3))] I K
  exact G_retI rc_15_27 (Or.inl rfl) h
/-! 16: RoundSlack$Book.placeAt(III)V -/
def D16_17 (r0 : Nat) (x1 : Int) (x2 : Int) (x3 : Int) (x4 : Int) (u5 : AV) (I : IM) (K : Option AV → IM → Prop) : Prop :=
  (if (13 : Int) ≤ x4 then (K none I) else ((0 ≤ x4 ∧ x4 < 13) ∧ (inR (x2 - (I (r0 + 1) (x4).toNat))) ∧ (inR (-(x2 - (I (r0 + 1) (x4).toNat)))) ∧ (inR (x3 - (I (r0 + 2) (x4).toNat))) ∧ (inR (-(x3 - (I (r0 + 2) (x4).toNat)))) ∧ (inR (((if 0 ≤ x2 - (I (r0 + 1) (x4).toNat) then x2 - (I (r0 + 1) (x4).toNat) else -(x2 - (I (r0 + 1) (x4).toNat)))) + ((if 0 ≤ x3 - (I (r0 + 2) (x4).toNat) then x3 - (I (r0 + 2) (x4).toNat) else -(x3 - (I (r0 + 2) (x4).toNat)))))) ∧ (0 ≤ x1 ∧ x1 < 13) ∧ ∀ I9 : IM, I9 = iup I (r0 + 10 + (x1).toNat) (x4).toNat (((if 0 ≤ x2 - (I (r0 + 1) (x4).toNat) then x2 - (I (r0 + 1) (x4).toNat) else -(x2 - (I (r0 + 1) (x4).toNat)))) + ((if 0 ≤ x3 - (I (r0 + 2) (x4).toNat) then x3 - (I (r0 + 2) (x4).toNat) else -(x3 - (I (r0 + 2) (x4).toNat))))) → ∀ I10 : IM, I10 = iup I9 (r0 + 10 + (x4).toNat) (x1).toNat (((if 0 ≤ x2 - (I (r0 + 1) (x4).toNat) then x2 - (I (r0 + 1) (x4).toNat) else -(x2 - (I (r0 + 1) (x4).toNat)))) + ((if 0 ≤ x3 - (I (r0 + 2) (x4).toNat) then x3 - (I (r0 + 2) (x4).toNat) else -(x3 - (I (r0 + 2) (x4).toNat))))) → (inR (x4 + 1)) ∧ GO S0 16 17 [vR r0, vI x1, vI x2, vI x3, vI (x4 + 1), vI (((if 0 ≤ x2 - (I (r0 + 1) (x4).toNat) then x2 - (I (r0 + 1) (x4).toNat) else -(x2 - (I (r0 + 1) (x4).toNat)))) + ((if 0 ≤ x3 - (I (r0 + 2) (x4).toNat) then x3 - (I (r0 + 2) (x4).toNat) else -(x3 - (I (r0 + 2) (x4).toNat)))))] [] I10 K))
set_option maxRecDepth 10000 in
theorem g16_17 (r0 : Nat) (h0 : isBk r0) (x1 : Int) (x2 : Int) (x3 : Int) (x4 : Int) (u5 : AV) (I : IM) (K : Option AV → IM → Prop) (h : D16_17 r0 x1 x2 x3 x4 u5 I K) : GO S0 16 17 [vR r0, vI x1, vI x2, vI x3, vI x4, u5] [] I K := by
  unfold D16_17 at h
  refine G_loadI rc_16_17 rfl ?_
  refine G_const rc_16_19 (by decide) ?_
  refine G_i2 (C := (13 : Int) ≤ x4) rc_16_21 rfl (fun c1 => ?_) (fun c1 => ?_)
  · rw [if_pos c1] at h
    show GO S0 16 79 [vR r0, vI x1, vI x2, vI x3, vI x4, u5] [] I K
    exact G_ret0 rc_16_79 h
  · rw [if_neg c1] at h
    show GO S0 16 24 [vR r0, vI x1, vI x2, vI x3, vI x4, u5] [] I K
    refine G_loadI rc_16_24 rfl ?_
    refine G_loadR rc_16_25 rfl ?_
    refine G_getR rc_16_26 (bk_0 h0) (by decide) rfl (by have := bk_lt h0; omega) ?_
    show GO S0 16 29 [vR r0, vI x1, vI x2, vI x3, vI x4, u5] [vR (r0 + 1), vI x2] I K
    refine G_loadI rc_16_29 rfl ?_
    obtain ⟨c2, h⟩ := h
    refine G_ald rc_16_31 (bk_1 h0) (by omega) (by omega) ?_
    show GO S0 16 32 [vR r0, vI x1, vI x2, vI x3, vI x4, u5] [vI (I (r0 + 1) (x4).toNat), vI x2] I K
    obtain ⟨c3, h⟩ := h
    refine G_bop (z := x2 - (I (r0 + 1) (x4).toNat)) rc_16_32 (if_pos c3) ?_
    show GO S0 16 33 [vR r0, vI x1, vI x2, vI x3, vI x4, u5] [vI (x2 - (I (r0 + 1) (x4).toNat))] I K
    obtain ⟨c4, h⟩ := h
    refine G_abs rc_16_33 c4 (Nat.le_of_ble_eq_true rfl) ?_
    show GO S0 16 36 [vR r0, vI x1, vI x2, vI x3, vI x4, u5] [vI ((if 0 ≤ x2 - (I (r0 + 1) (x4).toNat) then x2 - (I (r0 + 1) (x4).toNat) else -(x2 - (I (r0 + 1) (x4).toNat))))] I K
    refine G_loadI rc_16_36 rfl ?_
    refine G_loadR rc_16_37 rfl ?_
    refine G_getR rc_16_38 (bk_0 h0) (by decide) rfl (by have := bk_lt h0; omega) ?_
    show GO S0 16 41 [vR r0, vI x1, vI x2, vI x3, vI x4, u5] [vR (r0 + 2), vI x3, vI ((if 0 ≤ x2 - (I (r0 + 1) (x4).toNat) then x2 - (I (r0 + 1) (x4).toNat) else -(x2 - (I (r0 + 1) (x4).toNat))))] I K
    refine G_loadI rc_16_41 rfl ?_
    refine G_ald rc_16_43 (bk_2 h0) (by omega) (by omega) ?_
    show GO S0 16 44 [vR r0, vI x1, vI x2, vI x3, vI x4, u5] [vI (I (r0 + 2) (x4).toNat), vI x3, vI ((if 0 ≤ x2 - (I (r0 + 1) (x4).toNat) then x2 - (I (r0 + 1) (x4).toNat) else -(x2 - (I (r0 + 1) (x4).toNat))))] I K
    obtain ⟨c5, h⟩ := h
    refine G_bop (z := x3 - (I (r0 + 2) (x4).toNat)) rc_16_44 (if_pos c5) ?_
    show GO S0 16 45 [vR r0, vI x1, vI x2, vI x3, vI x4, u5] [vI (x3 - (I (r0 + 2) (x4).toNat)), vI ((if 0 ≤ x2 - (I (r0 + 1) (x4).toNat) then x2 - (I (r0 + 1) (x4).toNat) else -(x2 - (I (r0 + 1) (x4).toNat))))] I K
    obtain ⟨c6, h⟩ := h
    refine G_abs rc_16_45 c6 (Nat.le_of_ble_eq_true rfl) ?_
    show GO S0 16 48 [vR r0, vI x1, vI x2, vI x3, vI x4, u5] [vI ((if 0 ≤ x3 - (I (r0 + 2) (x4).toNat) then x3 - (I (r0 + 2) (x4).toNat) else -(x3 - (I (r0 + 2) (x4).toNat)))), vI ((if 0 ≤ x2 - (I (r0 + 1) (x4).toNat) then x2 - (I (r0 + 1) (x4).toNat) else -(x2 - (I (r0 + 1) (x4).toNat))))] I K
    obtain ⟨c7, h⟩ := h
    refine G_bop (z := ((if 0 ≤ x2 - (I (r0 + 1) (x4).toNat) then x2 - (I (r0 + 1) (x4).toNat) else -(x2 - (I (r0 + 1) (x4).toNat)))) + ((if 0 ≤ x3 - (I (r0 + 2) (x4).toNat) then x3 - (I (r0 + 2) (x4).toNat) else -(x3 - (I (r0 + 2) (x4).toNat))))) rc_16_48 (if_pos c7) ?_
    show GO S0 16 49 [vR r0, vI x1, vI x2, vI x3, vI x4, u5] [vI (((if 0 ≤ x2 - (I (r0 + 1) (x4).toNat) then x2 - (I (r0 + 1) (x4).toNat) else -(x2 - (I (r0 + 1) (x4).toNat)))) + ((if 0 ≤ x3 - (I (r0 + 2) (x4).toNat) then x3 - (I (r0 + 2) (x4).toNat) else -(x3 - (I (r0 + 2) (x4).toNat)))))] I K
    refine G_storeI rc_16_49 (Nat.le_of_ble_eq_true rfl) ?_
    show GO S0 16 51 [vR r0, vI x1, vI x2, vI x3, vI x4, vI (((if 0 ≤ x2 - (I (r0 + 1) (x4).toNat) then x2 - (I (r0 + 1) (x4).toNat) else -(x2 - (I (r0 + 1) (x4).toNat)))) + ((if 0 ≤ x3 - (I (r0 + 2) (x4).toNat) then x3 - (I (r0 + 2) (x4).toNat) else -(x3 - (I (r0 + 2) (x4).toNat)))))] [] I K
    refine G_loadR rc_16_51 rfl ?_
    refine G_getR rc_16_52 (bk_0 h0) (by decide) rfl (by have := bk_lt h0; omega) ?_
    show GO S0 16 55 [vR r0, vI x1, vI x2, vI x3, vI x4, vI (((if 0 ≤ x2 - (I (r0 + 1) (x4).toNat) then x2 - (I (r0 + 1) (x4).toNat) else -(x2 - (I (r0 + 1) (x4).toNat)))) + ((if 0 ≤ x3 - (I (r0 + 2) (x4).toNat) then x3 - (I (r0 + 2) (x4).toNat) else -(x3 - (I (r0 + 2) (x4).toNat)))))] [vR (r0 + 9)] I K
    refine G_loadI rc_16_55 rfl ?_
    obtain ⟨c8, h⟩ := h
    refine G_aldR rc_16_56 (bk_9 h0) (Or.inl rfl) (by omega) (by omega) (rg_row (b := r0 + 10) (n := 13) (i := (x1).toNat) (by omega)) (by have := bk_lt h0; omega) ?_
    show GO S0 16 57 [vR r0, vI x1, vI x2, vI x3, vI x4, vI (((if 0 ≤ x2 - (I (r0 + 1) (x4).toNat) then x2 - (I (r0 + 1) (x4).toNat) else -(x2 - (I (r0 + 1) (x4).toNat)))) + ((if 0 ≤ x3 - (I (r0 + 2) (x4).toNat) then x3 - (I (r0 + 2) (x4).toNat) else -(x3 - (I (r0 + 2) (x4).toNat)))))] [vR (r0 + 10 + (x1).toNat)] I K
    refine G_loadI rc_16_57 rfl ?_
    refine G_loadI rc_16_59 rfl ?_
    refine G_ast rc_16_61 (bk_10 (i := (x1).toNat) h0 (by omega)) (by omega) (by omega) (Or.inl rfl) ?_
    show GO S0 16 62 [vR r0, vI x1, vI x2, vI x3, vI x4, vI (((if 0 ≤ x2 - (I (r0 + 1) (x4).toNat) then x2 - (I (r0 + 1) (x4).toNat) else -(x2 - (I (r0 + 1) (x4).toNat)))) + ((if 0 ≤ x3 - (I (r0 + 2) (x4).toNat) then x3 - (I (r0 + 2) (x4).toNat) else -(x3 - (I (r0 + 2) (x4).toNat)))))] [] (iup I (r0 + 10 + (x1).toNat) (x4).toNat (((if 0 ≤ x2 - (I (r0 + 1) (x4).toNat) then x2 - (I (r0 + 1) (x4).toNat) else -(x2 - (I (r0 + 1) (x4).toNat)))) + ((if 0 ≤ x3 - (I (r0 + 2) (x4).toNat) then x3 - (I (r0 + 2) (x4).toNat) else -(x3 - (I (r0 + 2) (x4).toNat)))))) K
    have h := h _ rfl
    generalize iup I (r0 + 10 + (x1).toNat) (x4).toNat (((if 0 ≤ x2 - (I (r0 + 1) (x4).toNat) then x2 - (I (r0 + 1) (x4).toNat) else -(x2 - (I (r0 + 1) (x4).toNat)))) + ((if 0 ≤ x3 - (I (r0 + 2) (x4).toNat) then x3 - (I (r0 + 2) (x4).toNat) else -(x3 - (I (r0 + 2) (x4).toNat))))) = I9 at h ⊢
    refine G_loadR rc_16_62 rfl ?_
    refine G_getR rc_16_63 (bk_0 h0) (by decide) rfl (by have := bk_lt h0; omega) ?_
    show GO S0 16 66 [vR r0, vI x1, vI x2, vI x3, vI x4, vI (((if 0 ≤ x2 - (I (r0 + 1) (x4).toNat) then x2 - (I (r0 + 1) (x4).toNat) else -(x2 - (I (r0 + 1) (x4).toNat)))) + ((if 0 ≤ x3 - (I (r0 + 2) (x4).toNat) then x3 - (I (r0 + 2) (x4).toNat) else -(x3 - (I (r0 + 2) (x4).toNat)))))] [vR (r0 + 9)] I9 K
    refine G_loadI rc_16_66 rfl ?_
    refine G_aldR rc_16_68 (bk_9 h0) (Or.inl rfl) (by omega) (by omega) (rg_row (b := r0 + 10) (n := 13) (i := (x4).toNat) (by omega)) (by have := bk_lt h0; omega) ?_
    show GO S0 16 69 [vR r0, vI x1, vI x2, vI x3, vI x4, vI (((if 0 ≤ x2 - (I (r0 + 1) (x4).toNat) then x2 - (I (r0 + 1) (x4).toNat) else -(x2 - (I (r0 + 1) (x4).toNat)))) + ((if 0 ≤ x3 - (I (r0 + 2) (x4).toNat) then x3 - (I (r0 + 2) (x4).toNat) else -(x3 - (I (r0 + 2) (x4).toNat)))))] [vR (r0 + 10 + (x4).toNat)] I9 K
    refine G_loadI rc_16_69 rfl ?_
    refine G_loadI rc_16_70 rfl ?_
    refine G_ast rc_16_72 (bk_10 (i := (x4).toNat) h0 (by omega)) (by omega) (by omega) (Or.inl rfl) ?_
    show GO S0 16 73 [vR r0, vI x1, vI x2, vI x3, vI x4, vI (((if 0 ≤ x2 - (I (r0 + 1) (x4).toNat) then x2 - (I (r0 + 1) (x4).toNat) else -(x2 - (I (r0 + 1) (x4).toNat)))) + ((if 0 ≤ x3 - (I (r0 + 2) (x4).toNat) then x3 - (I (r0 + 2) (x4).toNat) else -(x3 - (I (r0 + 2) (x4).toNat)))))] [] (iup I9 (r0 + 10 + (x4).toNat) (x1).toNat (((if 0 ≤ x2 - (I (r0 + 1) (x4).toNat) then x2 - (I (r0 + 1) (x4).toNat) else -(x2 - (I (r0 + 1) (x4).toNat)))) + ((if 0 ≤ x3 - (I (r0 + 2) (x4).toNat) then x3 - (I (r0 + 2) (x4).toNat) else -(x3 - (I (r0 + 2) (x4).toNat)))))) K
    have h := h _ rfl
    generalize iup I9 (r0 + 10 + (x4).toNat) (x1).toNat (((if 0 ≤ x2 - (I (r0 + 1) (x4).toNat) then x2 - (I (r0 + 1) (x4).toNat) else -(x2 - (I (r0 + 1) (x4).toNat)))) + ((if 0 ≤ x3 - (I (r0 + 2) (x4).toNat) then x3 - (I (r0 + 2) (x4).toNat) else -(x3 - (I (r0 + 2) (x4).toNat))))) = I10 at h ⊢
    obtain ⟨c11, h⟩ := h
    refine G_iinc rc_16_73 rfl c11 ?_
    show GO S0 16 76 [vR r0, vI x1, vI x2, vI x3, vI (x4 + 1), vI (((if 0 ≤ x2 - (I (r0 + 1) (x4).toNat) then x2 - (I (r0 + 1) (x4).toNat) else -(x2 - (I (r0 + 1) (x4).toNat)))) + ((if 0 ≤ x3 - (I (r0 + 2) (x4).toNat) then x3 - (I (r0 + 2) (x4).toNat) else -(x3 - (I (r0 + 2) (x4).toNat)))))] [] I10 K
    refine G_goto rc_16_76 ?_
    show GO S0 16 17 [vR r0, vI x1, vI x2, vI x3, vI (x4 + 1), vI (((if 0 ≤ x2 - (I (r0 + 1) (x4).toNat) then x2 - (I (r0 + 1) (x4).toNat) else -(x2 - (I (r0 + 1) (x4).toNat)))) + ((if 0 ≤ x3 - (I (r0 + 2) (x4).toNat) then x3 - (I (r0 + 2) (x4).toNat) else -(x3 - (I (r0 + 2) (x4).toNat)))))] [] I10 K
    exact h
def D16_0 (r0 : Nat) (x1 : Int) (x2 : Int) (x3 : Int) (I : IM) (K : Option AV → IM → Prop) : Prop :=
  (0 ≤ x1 ∧ x1 < 13) ∧ ∀ I2 : IM, I2 = iup I (r0 + 1) (x1).toNat x2 → ∀ I3 : IM, I3 = iup I2 (r0 + 2) (x1).toNat x3 → GO S0 16 17 [vR r0, vI x1, vI x2, vI x3, vI 0, vU] [] I3 K
set_option maxRecDepth 10000 in
theorem g16_0 (r0 : Nat) (h0 : isBk r0) (x1 : Int) (x2 : Int) (x3 : Int) (I : IM) (K : Option AV → IM → Prop) (h : D16_0 r0 x1 x2 x3 I K) : GO S0 16 0 [vR r0, vI x1, vI x2, vI x3, vU, vU] [] I K := by
  unfold D16_0 at h
  refine G_loadR rc_16_0 rfl ?_
  refine G_getR rc_16_1 (bk_0 h0) (by decide) rfl (by have := bk_lt h0; omega) ?_
  show GO S0 16 4 [vR r0, vI x1, vI x2, vI x3, vU, vU] [vR (r0 + 1)] I K
  refine G_loadI rc_16_4 rfl ?_
  refine G_loadI rc_16_5 rfl ?_
  obtain ⟨c1, h⟩ := h
  refine G_ast rc_16_6 (bk_1 h0) (by omega) (by omega) (Or.inl rfl) ?_
  show GO S0 16 7 [vR r0, vI x1, vI x2, vI x3, vU, vU] [] (iup I (r0 + 1) (x1).toNat x2) K
  have h := h _ rfl
  generalize iup I (r0 + 1) (x1).toNat x2 = I2 at h ⊢
  refine G_loadR rc_16_7 rfl ?_
  refine G_getR rc_16_8 (bk_0 h0) (by decide) rfl (by have := bk_lt h0; omega) ?_
  show GO S0 16 11 [vR r0, vI x1, vI x2, vI x3, vU, vU] [vR (r0 + 2)] I2 K
  refine G_loadI rc_16_11 rfl ?_
  refine G_loadI rc_16_12 rfl ?_
  refine G_ast rc_16_13 (bk_2 h0) (by omega) (by omega) (Or.inl rfl) ?_
  show GO S0 16 14 [vR r0, vI x1, vI x2, vI x3, vU, vU] [] (iup I2 (r0 + 2) (x1).toNat x3) K
  have h := h _ rfl
  generalize iup I2 (r0 + 2) (x1).toNat x3 = I3 at h ⊢
  refine G_const rc_16_14 (by decide) ?_
  refine G_storeI rc_16_15 (Nat.le_of_ble_eq_true rfl) ?_
  show GO S0 16 17 [vR r0, vI x1, vI x2, vI x3, vI 0, vU] [] I3 K
  exact h
/-! 17: RoundSlack$Steps.forget()V -/
def D17_0 (I : IM) (K : Option AV → IM → Prop) : Prop :=
  ∀ I1 : IM, I1 = iup I 78 2 0 → K none I1
set_option maxRecDepth 10000 in
theorem g17_0 (I : IM) (K : Option AV → IM → Prop) (h : D17_0 I K) : GO S0 17 0 [vR 78] [] I K := by
  unfold D17_0 at h
  refine G_loadR rc_17_0 rfl ?_
  refine G_const rc_17_1 (by decide) ?_
  refine G_putI rc_17_2 s0_78 (by decide) (Or.inl rfl) ?_
  show GO S0 17 5 [vR 78] [] (iup I 78 2 0) K
  have h := h _ rfl
  generalize iup I 78 2 0 = I1 at h ⊢
  exact G_ret0 rc_17_5 h
/-! 18: RoundSlack.order(IIIII)I -/
def D18_0 (x1 : Int) (x2 : Int) (x3 : Int) (x4 : Int) (x5 : Int) (I : IM) (K : Option AV → IM → Prop) : Prop :=
  CALL S0 14 [vI x1, vI 0, vI 40] I (fun v I1 => ∃ y2 : Int, v = some (vI y2) ∧ (if y2 = 0 then (K (some (vI (-2))) I1) else (CALL S0 14 [vI x2, vI 0, vI 40] I1 (fun v I4 => ∃ y5 : Int, v = some (vI y5) ∧ (if y5 = 0 then (K (some (vI (-2))) I4) else (CALL S0 14 [vI x3, vI 0, vI 600] I4 (fun v I7 => ∃ y8 : Int, v = some (vI y8) ∧ (if y8 = 0 then (K (some (vI (-2))) I7) else (CALL S0 14 [vI x4, vI x3, vI 600] I7 (fun v I10 => ∃ y11 : Int, v = some (vI y11) ∧ (if y11 = 0 then (K (some (vI (-2))) I10) else (CALL S0 14 [vI x5, vI 0, vI 60] I10 (fun v I13 => ∃ y14 : Int, v = some (vI y14) ∧ (if y14 = 0 then (K (some (vI (-2))) I13) else ((if I13 1 0 < 12 then (CALL S0 17 [vR 78] I13 (fun v I17 => v = none ∧ CALL S0 19 [vR 1, vI x1, vI x2, vI x3, vI x4, vI x5] I17 (fun v I18 => ∃ y19 : Int, v = some (vI y19) ∧ K (some (vI y19)) I18))) else (K (some (vI (-4))) I13)))))))))))))))))
set_option maxRecDepth 10000 in
theorem g18_0 (x1 : Int) (x2 : Int) (x3 : Int) (x4 : Int) (x5 : Int) (I : IM) (K : Option AV → IM → Prop) (h : D18_0 x1 x2 x3 x4 x5 I K) : GO S0 18 0 [vR 0, vI x1, vI x2, vI x3, vI x4, vI x5] [] I K := by
  unfold D18_0 at h
  refine G_loadI rc_18_0 rfl ?_
  refine G_const rc_18_1 (by decide) ?_
  refine G_const rc_18_2 (by decide) ?_
  refine G_call (as := [vI x1, vI 0, vI 40]) (rest := []) rc_18_4 rfl rfl rfl (Nat.le_of_ble_eq_true rfl) rfl ?_
  refine GO.imp h (fun v I1 h => ?_)
  obtain ⟨y2, rfl, h⟩ := h
  show GO S0 18 7 [vR 0, vI x1, vI x2, vI x3, vI x4, vI x5] [vI y2] I1 K
  refine G_i1 (C := y2 = 0) rc_18_7 rfl (fun c3 => ?_) (fun c3 => ?_)
  · rw [if_pos c3] at h
    show GO S0 18 54 [vR 0, vI x1, vI x2, vI x3, vI x4, vI x5] [] I1 K
    refine G_const rc_18_54 (by decide) ?_
    exact G_retI rc_18_56 (Or.inl rfl) h
  · rw [if_neg c3] at h
    show GO S0 18 10 [vR 0, vI x1, vI x2, vI x3, vI x4, vI x5] [] I1 K
    refine G_loadI rc_18_10 rfl ?_
    refine G_const rc_18_11 (by decide) ?_
    refine G_const rc_18_12 (by decide) ?_
    refine G_call (as := [vI x2, vI 0, vI 40]) (rest := []) rc_18_14 rfl rfl rfl (Nat.le_of_ble_eq_true rfl) rfl ?_
    refine GO.imp h (fun v I4 h => ?_)
    obtain ⟨y5, rfl, h⟩ := h
    show GO S0 18 17 [vR 0, vI x1, vI x2, vI x3, vI x4, vI x5] [vI y5] I4 K
    refine G_i1 (C := y5 = 0) rc_18_17 rfl (fun c6 => ?_) (fun c6 => ?_)
    · rw [if_pos c6] at h
      show GO S0 18 54 [vR 0, vI x1, vI x2, vI x3, vI x4, vI x5] [] I4 K
      refine G_const rc_18_54 (by decide) ?_
      exact G_retI rc_18_56 (Or.inl rfl) h
    · rw [if_neg c6] at h
      show GO S0 18 20 [vR 0, vI x1, vI x2, vI x3, vI x4, vI x5] [] I4 K
      refine G_loadI rc_18_20 rfl ?_
      refine G_const rc_18_21 (by decide) ?_
      refine G_const rc_18_22 (by decide) ?_
      refine G_call (as := [vI x3, vI 0, vI 600]) (rest := []) rc_18_25 rfl rfl rfl (Nat.le_of_ble_eq_true rfl) rfl ?_
      refine GO.imp h (fun v I7 h => ?_)
      obtain ⟨y8, rfl, h⟩ := h
      show GO S0 18 28 [vR 0, vI x1, vI x2, vI x3, vI x4, vI x5] [vI y8] I7 K
      refine G_i1 (C := y8 = 0) rc_18_28 rfl (fun c9 => ?_) (fun c9 => ?_)
      · rw [if_pos c9] at h
        show GO S0 18 54 [vR 0, vI x1, vI x2, vI x3, vI x4, vI x5] [] I7 K
        refine G_const rc_18_54 (by decide) ?_
        exact G_retI rc_18_56 (Or.inl rfl) h
      · rw [if_neg c9] at h
        show GO S0 18 31 [vR 0, vI x1, vI x2, vI x3, vI x4, vI x5] [] I7 K
        refine G_loadI rc_18_31 rfl ?_
        refine G_loadI rc_18_33 rfl ?_
        refine G_const rc_18_34 (by decide) ?_
        refine G_call (as := [vI x4, vI x3, vI 600]) (rest := []) rc_18_37 rfl rfl rfl (Nat.le_of_ble_eq_true rfl) rfl ?_
        refine GO.imp h (fun v I10 h => ?_)
        obtain ⟨y11, rfl, h⟩ := h
        show GO S0 18 40 [vR 0, vI x1, vI x2, vI x3, vI x4, vI x5] [vI y11] I10 K
        refine G_i1 (C := y11 = 0) rc_18_40 rfl (fun c12 => ?_) (fun c12 => ?_)
        · rw [if_pos c12] at h
          show GO S0 18 54 [vR 0, vI x1, vI x2, vI x3, vI x4, vI x5] [] I10 K
          refine G_const rc_18_54 (by decide) ?_
          exact G_retI rc_18_56 (Or.inl rfl) h
        · rw [if_neg c12] at h
          show GO S0 18 43 [vR 0, vI x1, vI x2, vI x3, vI x4, vI x5] [] I10 K
          refine G_loadI rc_18_43 rfl ?_
          refine G_const rc_18_45 (by decide) ?_
          refine G_const rc_18_46 (by decide) ?_
          refine G_call (as := [vI x5, vI 0, vI 60]) (rest := []) rc_18_48 rfl rfl rfl (Nat.le_of_ble_eq_true rfl) rfl ?_
          refine GO.imp h (fun v I13 h => ?_)
          obtain ⟨y14, rfl, h⟩ := h
          show GO S0 18 51 [vR 0, vI x1, vI x2, vI x3, vI x4, vI x5] [vI y14] I13 K
          refine G_i1 (C := ¬ y14 = 0) rc_18_51 rfl (fun c15 => ?_) (fun c15 => ?_)
          · rw [if_neg c15] at h
            show GO S0 18 57 [vR 0, vI x1, vI x2, vI x3, vI x4, vI x5] [] I13 K
            refine G_loadR rc_18_57 rfl ?_
            refine G_getR rc_18_58 s0_0 (by decide) rfl (by decide) ?_
            show GO S0 18 61 [vR 0, vI x1, vI x2, vI x3, vI x4, vI x5] [vR 1] I13 K
            refine G_getI rc_18_61 s0_1 (by decide) ?_
            show GO S0 18 64 [vR 0, vI x1, vI x2, vI x3, vI x4, vI x5] [vI (I13 1 0)] I13 K
            refine G_const rc_18_64 (by decide) ?_
            refine G_i2 (C := I13 1 0 < 12) rc_18_66 rfl (fun c16 => ?_) (fun c16 => ?_)
            · rw [if_pos c16] at h
              show GO S0 18 72 [vR 0, vI x1, vI x2, vI x3, vI x4, vI x5] [] I13 K
              refine G_loadR rc_18_72 rfl ?_
              refine G_getR rc_18_73 s0_0 (by decide) rfl (by decide) ?_
              show GO S0 18 76 [vR 0, vI x1, vI x2, vI x3, vI x4, vI x5] [vR 78] I13 K
              refine G_call (as := [vR 78]) (rest := []) rc_18_76 rfl rfl rfl (Nat.le_of_ble_eq_true rfl) (g_recv s0_78 rfl) ?_
              refine GO.imp h (fun v I17 h => ?_)
              obtain ⟨rfl, h⟩ := h
              show GO S0 18 79 [vR 0, vI x1, vI x2, vI x3, vI x4, vI x5] [] I17 K
              refine G_loadR rc_18_79 rfl ?_
              refine G_getR rc_18_80 s0_0 (by decide) rfl (by decide) ?_
              show GO S0 18 83 [vR 0, vI x1, vI x2, vI x3, vI x4, vI x5] [vR 1] I17 K
              refine G_loadI rc_18_83 rfl ?_
              refine G_loadI rc_18_84 rfl ?_
              refine G_loadI rc_18_85 rfl ?_
              refine G_loadI rc_18_86 rfl ?_
              refine G_loadI rc_18_88 rfl ?_
              refine G_call (as := [vR 1, vI x1, vI x2, vI x3, vI x4, vI x5]) (rest := []) rc_18_90 rfl rfl rfl (Nat.le_of_ble_eq_true rfl) (g_recv s0_1 rfl) ?_
              refine GO.imp h (fun v I18 h => ?_)
              obtain ⟨y19, rfl, h⟩ := h
              show GO S0 18 93 [vR 0, vI x1, vI x2, vI x3, vI x4, vI x5] [vI y19] I18 K
              exact G_retI rc_18_93 (Or.inl rfl) h
            · rw [if_neg c16] at h
              show GO S0 18 69 [vR 0, vI x1, vI x2, vI x3, vI x4, vI x5] [] I13 K
              refine G_const rc_18_69 (by decide) ?_
              exact G_retI rc_18_71 (Or.inl rfl) h
          · rw [if_pos (Classical.not_not.mp c15)] at h
            show GO S0 18 54 [vR 0, vI x1, vI x2, vI x3, vI x4, vI x5] [] I13 K
            refine G_const rc_18_54 (by decide) ?_
            exact G_retI rc_18_56 (Or.inl rfl) h
/-! 19: RoundSlack$Book.enter(IIIII)I -/
def D19_0 (r0 : Nat) (x1 : Int) (x2 : Int) (x3 : Int) (x4 : Int) (x5 : Int) (I : IM) (K : Option AV → IM → Prop) : Prop :=
  (if I r0 0 < 12 then ((inR ((I r0 0) + 1)) ∧ ∀ I3 : IM, I3 = iup I r0 0 ((I r0 0) + 1) → CALL S0 16 [vR r0, vI (I r0 0), vI x1, vI x2] I3 (fun v I4 => v = none ∧ (0 ≤ I r0 0 ∧ I r0 0 < 13) ∧ ∀ I6 : IM, I6 = iup I4 (r0 + 3) (I r0 0).toNat x3 → ∀ I7 : IM, I7 = iup I6 (r0 + 4) (I r0 0).toNat x4 → ∀ I8 : IM, I8 = iup I7 (r0 + 5) (I r0 0).toNat x5 → ∀ I9 : IM, I9 = iup I8 (r0 + 6) (I r0 0).toNat 0 → ∀ I10 : IM, I10 = iup I9 (r0 + 7) (I r0 0).toNat 0 → ∀ I11 : IM, I11 = iup I10 (r0 + 8) (I r0 0).toNat 500 → K (some (vI (I r0 0))) I11)) else (K (some (vI (-1))) I))
set_option maxRecDepth 10000 in
theorem g19_0 (r0 : Nat) (h0 : isBk r0) (x1 : Int) (x2 : Int) (x3 : Int) (x4 : Int) (x5 : Int) (I : IM) (K : Option AV → IM → Prop) (h : D19_0 r0 x1 x2 x3 x4 x5 I K) : GO S0 19 0 [vR r0, vI x1, vI x2, vI x3, vI x4, vI x5, vU] [] I K := by
  unfold D19_0 at h
  refine G_loadR rc_19_0 rfl ?_
  refine G_getI rc_19_1 (bk_0 h0) (by decide) ?_
  show GO S0 19 4 [vR r0, vI x1, vI x2, vI x3, vI x4, vI x5, vU] [vI (I r0 0)] I K
  refine G_const rc_19_4 (by decide) ?_
  refine G_i2 (C := I r0 0 < 12) rc_19_6 rfl (fun c1 => ?_) (fun c1 => ?_)
  · rw [if_pos c1] at h
    show GO S0 19 11 [vR r0, vI x1, vI x2, vI x3, vI x4, vI x5, vU] [] I K
    refine G_loadR rc_19_11 rfl ?_
    refine G_getI rc_19_12 (bk_0 h0) (by decide) ?_
    show GO S0 19 15 [vR r0, vI x1, vI x2, vI x3, vI x4, vI x5, vU] [vI (I r0 0)] I K
    refine G_storeI rc_19_15 (Nat.le_of_ble_eq_true rfl) ?_
    show GO S0 19 17 [vR r0, vI x1, vI x2, vI x3, vI x4, vI x5, vI (I r0 0)] [] I K
    refine G_loadR rc_19_17 rfl ?_
    refine G_dupR rc_19_18 ?_
    refine G_getI rc_19_19 (bk_0 h0) (by decide) ?_
    show GO S0 19 22 [vR r0, vI x1, vI x2, vI x3, vI x4, vI x5, vI (I r0 0)] [vI (I r0 0), vR r0] I K
    refine G_const rc_19_22 (by decide) ?_
    obtain ⟨c2, h⟩ := h
    refine G_bop (z := (I r0 0) + 1) rc_19_23 (if_pos c2) ?_
    show GO S0 19 24 [vR r0, vI x1, vI x2, vI x3, vI x4, vI x5, vI (I r0 0)] [vI ((I r0 0) + 1), vR r0] I K
    refine G_putI rc_19_24 (bk_0 h0) (by decide) (Or.inl rfl) ?_
    show GO S0 19 27 [vR r0, vI x1, vI x2, vI x3, vI x4, vI x5, vI (I r0 0)] [] (iup I r0 0 ((I r0 0) + 1)) K
    have h := h _ rfl
    generalize iup I r0 0 ((I r0 0) + 1) = I3 at h ⊢
    refine G_loadR rc_19_27 rfl ?_
    refine G_loadI rc_19_28 rfl ?_
    refine G_loadI rc_19_30 rfl ?_
    refine G_loadI rc_19_31 rfl ?_
    refine G_call (as := [vR r0, vI (I r0 0), vI x1, vI x2]) (rest := []) rc_19_32 rfl rfl rfl (Nat.le_of_ble_eq_true rfl) (g_recv (bk_0 h0) rfl) ?_
    refine GO.imp h (fun v I4 h => ?_)
    obtain ⟨rfl, h⟩ := h
    show GO S0 19 35 [vR r0, vI x1, vI x2, vI x3, vI x4, vI x5, vI (I r0 0)] [] I4 K
    refine G_loadR rc_19_35 rfl ?_
    refine G_getR rc_19_36 (bk_0 h0) (by decide) rfl (by have := bk_lt h0; omega) ?_
    show GO S0 19 39 [vR r0, vI x1, vI x2, vI x3, vI x4, vI x5, vI (I r0 0)] [vR (r0 + 3)] I4 K
    refine G_loadI rc_19_39 rfl ?_
    refine G_loadI rc_19_41 rfl ?_
    obtain ⟨c5, h⟩ := h
    refine G_ast rc_19_42 (bk_3 h0) (by omega) (by omega) (Or.inl rfl) ?_
    show GO S0 19 43 [vR r0, vI x1, vI x2, vI x3, vI x4, vI x5, vI (I r0 0)] [] (iup I4 (r0 + 3) (I r0 0).toNat x3) K
    have h := h _ rfl
    generalize iup I4 (r0 + 3) (I r0 0).toNat x3 = I6 at h ⊢
    refine G_loadR rc_19_43 rfl ?_
    refine G_getR rc_19_44 (bk_0 h0) (by decide) rfl (by have := bk_lt h0; omega) ?_
    show GO S0 19 47 [vR r0, vI x1, vI x2, vI x3, vI x4, vI x5, vI (I r0 0)] [vR (r0 + 4)] I6 K
    refine G_loadI rc_19_47 rfl ?_
    refine G_loadI rc_19_49 rfl ?_
    refine G_ast rc_19_51 (bk_4 h0) (by omega) (by omega) (Or.inl rfl) ?_
    show GO S0 19 52 [vR r0, vI x1, vI x2, vI x3, vI x4, vI x5, vI (I r0 0)] [] (iup I6 (r0 + 4) (I r0 0).toNat x4) K
    have h := h _ rfl
    generalize iup I6 (r0 + 4) (I r0 0).toNat x4 = I7 at h ⊢
    refine G_loadR rc_19_52 rfl ?_
    refine G_getR rc_19_53 (bk_0 h0) (by decide) rfl (by have := bk_lt h0; omega) ?_
    show GO S0 19 56 [vR r0, vI x1, vI x2, vI x3, vI x4, vI x5, vI (I r0 0)] [vR (r0 + 5)] I7 K
    refine G_loadI rc_19_56 rfl ?_
    refine G_loadI rc_19_58 rfl ?_
    refine G_ast rc_19_60 (bk_5 h0) (by omega) (by omega) (Or.inl rfl) ?_
    show GO S0 19 61 [vR r0, vI x1, vI x2, vI x3, vI x4, vI x5, vI (I r0 0)] [] (iup I7 (r0 + 5) (I r0 0).toNat x5) K
    have h := h _ rfl
    generalize iup I7 (r0 + 5) (I r0 0).toNat x5 = I8 at h ⊢
    refine G_loadR rc_19_61 rfl ?_
    refine G_getR rc_19_62 (bk_0 h0) (by decide) rfl (by have := bk_lt h0; omega) ?_
    show GO S0 19 65 [vR r0, vI x1, vI x2, vI x3, vI x4, vI x5, vI (I r0 0)] [vR (r0 + 6)] I8 K
    refine G_loadI rc_19_65 rfl ?_
    refine G_const rc_19_67 (by decide) ?_
    refine G_ast rc_19_68 (bk_6 h0) (by omega) (by omega) (Or.inl rfl) ?_
    show GO S0 19 69 [vR r0, vI x1, vI x2, vI x3, vI x4, vI x5, vI (I r0 0)] [] (iup I8 (r0 + 6) (I r0 0).toNat 0) K
    have h := h _ rfl
    generalize iup I8 (r0 + 6) (I r0 0).toNat 0 = I9 at h ⊢
    refine G_loadR rc_19_69 rfl ?_
    refine G_getR rc_19_70 (bk_0 h0) (by decide) rfl (by have := bk_lt h0; omega) ?_
    show GO S0 19 73 [vR r0, vI x1, vI x2, vI x3, vI x4, vI x5, vI (I r0 0)] [vR (r0 + 7)] I9 K
    refine G_loadI rc_19_73 rfl ?_
    refine G_const rc_19_75 (by decide) ?_
    refine G_ast rc_19_76 (bk_7 h0) (by omega) (by omega) (Or.inl rfl) ?_
    show GO S0 19 77 [vR r0, vI x1, vI x2, vI x3, vI x4, vI x5, vI (I r0 0)] [] (iup I9 (r0 + 7) (I r0 0).toNat 0) K
    have h := h _ rfl
    generalize iup I9 (r0 + 7) (I r0 0).toNat 0 = I10 at h ⊢
    refine G_loadR rc_19_77 rfl ?_
    refine G_getR rc_19_78 (bk_0 h0) (by decide) rfl (by have := bk_lt h0; omega) ?_
    show GO S0 19 81 [vR r0, vI x1, vI x2, vI x3, vI x4, vI x5, vI (I r0 0)] [vR (r0 + 8)] I10 K
    refine G_loadI rc_19_81 rfl ?_
    refine G_const rc_19_83 (by decide) ?_
    refine G_ast rc_19_86 (bk_8 h0) (by omega) (by omega) (Or.inl rfl) ?_
    show GO S0 19 87 [vR r0, vI x1, vI x2, vI x3, vI x4, vI x5, vI (I r0 0)] [] (iup I10 (r0 + 8) (I r0 0).toNat 500) K
    have h := h _ rfl
    generalize iup I10 (r0 + 8) (I r0 0).toNat 500 = I11 at h ⊢
    refine G_loadI rc_19_87 rfl ?_
    exact G_retI rc_19_89 (Or.inl rfl) h
  · rw [if_neg c1] at h
    show GO S0 19 9 [vR r0, vI x1, vI x2, vI x3, vI x4, vI x5, vU] [] I K
    refine G_const rc_19_9 (by decide) ?_
    exact G_retI rc_19_10 (Or.inl rfl) h
/-! 20: RoundSlack.load(III)I -/
def D20_94 (x1 : Int) (x2 : Int) (x3 : Int) (u4 : AV) (u5 : AV) (qs0 : Nat) (I : IM) (K : Option AV → IM → Prop) : Prop :=
  (0 ≤ x1 ∧ x1 < 13) ∧ ∀ I2 : IM, I2 = iup I qs0 (x1).toNat x3 → CALL S0 17 [vR 78] I2 (fun v I3 => v = none ∧ K (some (vI (I qs0 (x1).toNat))) I3)
set_option maxRecDepth 10000 in
theorem g20_94 (x1 : Int) (x2 : Int) (x3 : Int) (u4 : AV) (u5 : AV) (qs0 : Nat) (fs0 : S0[qs0]? = some (100, 13, [])) (I : IM) (K : Option AV → IM → Prop) (h : D20_94 x1 x2 x3 u4 u5 qs0 I K) : GO S0 20 94 [vR 0, vI x1, vI x2, vI x3, u4, u5] [vR qs0] I K := by
  unfold D20_94 at h
  refine G_storeR rc_20_94 (Nat.le_of_ble_eq_true rfl) ?_
  show GO S0 20 96 [vR 0, vI x1, vI x2, vI x3, vR qs0, u5] [] I K
  refine G_loadR rc_20_96 rfl ?_
  refine G_loadI rc_20_98 rfl ?_
  obtain ⟨c1, h⟩ := h
  refine G_ald rc_20_99 fs0 (by omega) (by omega) ?_
  show GO S0 20 100 [vR 0, vI x1, vI x2, vI x3, vR qs0, u5] [vI (I qs0 (x1).toNat)] I K
  refine G_storeI rc_20_100 (Nat.le_of_ble_eq_true rfl) ?_
  show GO S0 20 102 [vR 0, vI x1, vI x2, vI x3, vR qs0, vI (I qs0 (x1).toNat)] [] I K
  refine G_loadR rc_20_102 rfl ?_
  refine G_loadI rc_20_104 rfl ?_
  refine G_loadI rc_20_105 rfl ?_
  refine G_ast rc_20_106 fs0 (by omega) (by omega) (Or.inl rfl) ?_
  show GO S0 20 107 [vR 0, vI x1, vI x2, vI x3, vR qs0, vI (I qs0 (x1).toNat)] [] (iup I qs0 (x1).toNat x3) K
  have h := h _ rfl
  generalize iup I qs0 (x1).toNat x3 = I2 at h ⊢
  refine G_loadR rc_20_107 rfl ?_
  refine G_getR rc_20_108 s0_0 (by decide) rfl (by decide) ?_
  show GO S0 20 111 [vR 0, vI x1, vI x2, vI x3, vR qs0, vI (I qs0 (x1).toNat)] [vR 78] I2 K
  refine G_call (as := [vR 78]) (rest := []) rc_20_111 rfl rfl rfl (Nat.le_of_ble_eq_true rfl) (g_recv s0_78 rfl) ?_
  refine GO.imp h (fun v I3 h => ?_)
  obtain ⟨rfl, h⟩ := h
  show GO S0 20 114 [vR 0, vI x1, vI x2, vI x3, vR qs0, vI (I qs0 (x1).toNat)] [] I3 K
  refine G_loadI rc_20_114 rfl ?_
  exact G_retI rc_20_116 (Or.inl rfl) h
def D20_34 (x1 : Int) (x2 : Int) (x3 : Int) (u4 : AV) (u5 : AV) (t0 : Int) (t1 : Int) (t2 : Int) (I : IM) (K : Option AV → IM → Prop) : Prop :=
  CALL S0 14 [vI t0, vI t1, vI t2] I (fun v I1 => ∃ y2 : Int, v = some (vI y2) ∧ (if y2 = 0 then (K (some (vI (-2))) I1) else (CALL S0 22 [vR 29, vI x1] I1 (fun v I4 => ∃ y5 : Int, v = some (vI y5) ∧ (if y5 = -1 then ((if x2 = 0 then (D20_94 x1 x2 x3 (u4) (u5) 7 I4 K) else ((if x2 = 1 then (D20_94 x1 x2 x3 (u4) (u5) 8 I4 K) else (D20_94 x1 x2 x3 (u4) (u5) 9 I4 K))))) else (K (some (vI (-3))) I4))))))
set_option maxRecDepth 10000 in
theorem g20_34 (x1 : Int) (x2 : Int) (x3 : Int) (u4 : AV) (u5 : AV) (t0 : Int) (t1 : Int) (t2 : Int) (I : IM) (K : Option AV → IM → Prop) (h : D20_34 x1 x2 x3 u4 u5 t0 t1 t2 I K) : GO S0 20 34 [vR 0, vI x1, vI x2, vI x3, u4, u5] [vI t2, vI t1, vI t0] I K := by
  unfold D20_34 at h
  refine G_call (as := [vI t0, vI t1, vI t2]) (rest := []) rc_20_34 rfl rfl rfl (Nat.le_of_ble_eq_true rfl) rfl ?_
  refine GO.imp h (fun v I1 h => ?_)
  obtain ⟨y2, rfl, h⟩ := h
  show GO S0 20 37 [vR 0, vI x1, vI x2, vI x3, u4, u5] [vI y2] I1 K
  refine G_i1 (C := ¬ y2 = 0) rc_20_37 rfl (fun c3 => ?_) (fun c3 => ?_)
  · rw [if_neg c3] at h
    show GO S0 20 43 [vR 0, vI x1, vI x2, vI x3, u4, u5] [] I1 K
    refine G_loadR rc_20_43 rfl ?_
    refine G_getR rc_20_44 s0_0 (by decide) rfl (by decide) ?_
    show GO S0 20 47 [vR 0, vI x1, vI x2, vI x3, u4, u5] [vR 29] I1 K
    refine G_loadI rc_20_47 rfl ?_
    refine G_call (as := [vR 29, vI x1]) (rest := []) rc_20_48 rfl rfl rfl (Nat.le_of_ble_eq_true rfl) (g_recv s0_29 rfl) ?_
    refine GO.imp h (fun v I4 h => ?_)
    obtain ⟨y5, rfl, h⟩ := h
    show GO S0 20 51 [vR 0, vI x1, vI x2, vI x3, u4, u5] [vI y5] I4 K
    refine G_const rc_20_51 (by decide) ?_
    refine G_i2 (C := y5 = -1) rc_20_52 rfl (fun c6 => ?_) (fun c6 => ?_)
    · rw [if_pos c6] at h
      show GO S0 20 58 [vR 0, vI x1, vI x2, vI x3, u4, u5] [] I4 K
      refine G_loadI rc_20_58 rfl ?_
      refine G_i1 (C := ¬ x2 = 0) rc_20_59 rfl (fun c7 => ?_) (fun c7 => ?_)
      · rw [if_neg c7] at h
        show GO S0 20 72 [vR 0, vI x1, vI x2, vI x3, u4, u5] [] I4 K
        refine G_loadI rc_20_72 rfl ?_
        refine G_const rc_20_73 (by decide) ?_
        refine G_i2 (C := ¬ x2 = 1) rc_20_74 rfl (fun c8 => ?_) (fun c8 => ?_)
        · rw [if_neg c8] at h
          show GO S0 20 87 [vR 0, vI x1, vI x2, vI x3, u4, u5] [] I4 K
          refine G_loadR rc_20_87 rfl ?_
          refine G_getR rc_20_88 s0_0 (by decide) rfl (by decide) ?_
          show GO S0 20 91 [vR 0, vI x1, vI x2, vI x3, u4, u5] [vR 1] I4 K
          refine G_getR rc_20_91 s0_1 (by decide) rfl (by decide) ?_
          show GO S0 20 94 [vR 0, vI x1, vI x2, vI x3, u4, u5] [vR 9] I4 K
          exact g20_94 x1 x2 x3 (u4) (u5) 9 s0_9 I4 K h
        · rw [if_pos (Classical.not_not.mp c8)] at h
          show GO S0 20 77 [vR 0, vI x1, vI x2, vI x3, u4, u5] [] I4 K
          refine G_loadR rc_20_77 rfl ?_
          refine G_getR rc_20_78 s0_0 (by decide) rfl (by decide) ?_
          show GO S0 20 81 [vR 0, vI x1, vI x2, vI x3, u4, u5] [vR 1] I4 K
          refine G_getR rc_20_81 s0_1 (by decide) rfl (by decide) ?_
          show GO S0 20 84 [vR 0, vI x1, vI x2, vI x3, u4, u5] [vR 8] I4 K
          refine G_goto rc_20_84 ?_
          show GO S0 20 94 [vR 0, vI x1, vI x2, vI x3, u4, u5] [vR 8] I4 K
          exact g20_94 x1 x2 x3 (u4) (u5) 8 s0_8 I4 K h
      · rw [if_pos (Classical.not_not.mp c7)] at h
        show GO S0 20 62 [vR 0, vI x1, vI x2, vI x3, u4, u5] [] I4 K
        refine G_loadR rc_20_62 rfl ?_
        refine G_getR rc_20_63 s0_0 (by decide) rfl (by decide) ?_
        show GO S0 20 66 [vR 0, vI x1, vI x2, vI x3, u4, u5] [vR 1] I4 K
        refine G_getR rc_20_66 s0_1 (by decide) rfl (by decide) ?_
        show GO S0 20 69 [vR 0, vI x1, vI x2, vI x3, u4, u5] [vR 7] I4 K
        refine G_goto rc_20_69 ?_
        show GO S0 20 94 [vR 0, vI x1, vI x2, vI x3, u4, u5] [vR 7] I4 K
        exact g20_94 x1 x2 x3 (u4) (u5) 7 s0_7 I4 K h
    · rw [if_neg c6] at h
      show GO S0 20 55 [vR 0, vI x1, vI x2, vI x3, u4, u5] [] I4 K
      refine G_const rc_20_55 (by decide) ?_
      exact G_retI rc_20_57 (Or.inl rfl) h
  · rw [if_pos (Classical.not_not.mp c3)] at h
    show GO S0 20 40 [vR 0, vI x1, vI x2, vI x3, u4, u5] [] I1 K
    refine G_const rc_20_40 (by decide) ?_
    exact G_retI rc_20_42 (Or.inl rfl) h
def D20_0 (x1 : Int) (x2 : Int) (x3 : Int) (I : IM) (K : Option AV → IM → Prop) : Prop :=
  CALL S0 21 [vR 0, vI x1] I (fun v I1 => ∃ y2 : Int, v = some (vI y2) ∧ (if y2 = 0 then (K (some (vI (-1))) I1) else (CALL S0 14 [vI x2, vI 0, vI 2] I1 (fun v I4 => ∃ y5 : Int, v = some (vI y5) ∧ (if y5 = 0 then (K (some (vI (-1))) I4) else ((if x2 = 2 then (D20_34 x1 x2 x3 (vU) (vU) x3 0 9999 I4 K) else (D20_34 x1 x2 x3 (vU) (vU) x3 0 50 I4 K))))))))
set_option maxRecDepth 10000 in
theorem g20_0 (x1 : Int) (x2 : Int) (x3 : Int) (I : IM) (K : Option AV → IM → Prop) (h : D20_0 x1 x2 x3 I K) : GO S0 20 0 [vR 0, vI x1, vI x2, vI x3, vU, vU] [] I K := by
  unfold D20_0 at h
  refine G_loadR rc_20_0 rfl ?_
  refine G_loadI rc_20_1 rfl ?_
  refine G_call (as := [vR 0, vI x1]) (rest := []) rc_20_2 rfl rfl rfl (Nat.le_of_ble_eq_true rfl) (g_recv s0_0 rfl) ?_
  refine GO.imp h (fun v I1 h => ?_)
  obtain ⟨y2, rfl, h⟩ := h
  show GO S0 20 5 [vR 0, vI x1, vI x2, vI x3, vU, vU] [vI y2] I1 K
  refine G_i1 (C := y2 = 0) rc_20_5 rfl (fun c3 => ?_) (fun c3 => ?_)
  · rw [if_pos c3] at h
    show GO S0 20 17 [vR 0, vI x1, vI x2, vI x3, vU, vU] [] I1 K
    refine G_const rc_20_17 (by decide) ?_
    exact G_retI rc_20_18 (Or.inl rfl) h
  · rw [if_neg c3] at h
    show GO S0 20 8 [vR 0, vI x1, vI x2, vI x3, vU, vU] [] I1 K
    refine G_loadI rc_20_8 rfl ?_
    refine G_const rc_20_9 (by decide) ?_
    refine G_const rc_20_10 (by decide) ?_
    refine G_call (as := [vI x2, vI 0, vI 2]) (rest := []) rc_20_11 rfl rfl rfl (Nat.le_of_ble_eq_true rfl) rfl ?_
    refine GO.imp h (fun v I4 h => ?_)
    obtain ⟨y5, rfl, h⟩ := h
    show GO S0 20 14 [vR 0, vI x1, vI x2, vI x3, vU, vU] [vI y5] I4 K
    refine G_i1 (C := ¬ y5 = 0) rc_20_14 rfl (fun c6 => ?_) (fun c6 => ?_)
    · rw [if_neg c6] at h
      show GO S0 20 19 [vR 0, vI x1, vI x2, vI x3, vU, vU] [] I4 K
      refine G_loadI rc_20_19 rfl ?_
      refine G_const rc_20_20 (by decide) ?_
      refine G_loadI rc_20_21 rfl ?_
      refine G_const rc_20_22 (by decide) ?_
      refine G_i2 (C := ¬ x2 = 2) rc_20_23 rfl (fun c7 => ?_) (fun c7 => ?_)
      · rw [if_neg c7] at h
        show GO S0 20 32 [vR 0, vI x1, vI x2, vI x3, vU, vU] [vI 0, vI x3] I4 K
        refine G_const rc_20_32 (by decide) ?_
        exact g20_34 x1 x2 x3 (vU) (vU) x3 0 50 I4 K h
      · rw [if_pos (Classical.not_not.mp c7)] at h
        show GO S0 20 26 [vR 0, vI x1, vI x2, vI x3, vU, vU] [vI 0, vI x3] I4 K
        refine G_const rc_20_26 (by decide) ?_
        refine G_goto rc_20_29 ?_
        show GO S0 20 34 [vR 0, vI x1, vI x2, vI x3, vU, vU] [vI 9999, vI 0, vI x3] I4 K
        exact g20_34 x1 x2 x3 (vU) (vU) x3 0 9999 I4 K h
    · rw [if_pos (Classical.not_not.mp c6)] at h
      show GO S0 20 17 [vR 0, vI x1, vI x2, vI x3, vU, vU] [] I4 K
      refine G_const rc_20_17 (by decide) ?_
      exact G_retI rc_20_18 (Or.inl rfl) h
/-! 21: RoundSlack.isOrder(I)Z -/
def D21_0 (x1 : Int) (I : IM) (K : Option AV → IM → Prop) : Prop :=
  (if x1 < 0 then (K (some (vI 0)) I) else ((if I 1 0 ≤ x1 then (K (some (vI 0)) I) else (K (some (vI 1)) I))))
set_option maxRecDepth 10000 in
theorem g21_0 (x1 : Int) (I : IM) (K : Option AV → IM → Prop) (h : D21_0 x1 I K) : GO S0 21 0 [vR 0, vI x1] [] I K := by
  unfold D21_0 at h
  refine G_loadI rc_21_0 rfl ?_
  refine G_i1 (C := x1 < 0) rc_21_1 rfl (fun c1 => ?_) (fun c1 => ?_)
  · rw [if_pos c1] at h
    show GO S0 21 19 [vR 0, vI x1] [] I K
    refine G_const rc_21_19 (by decide) ?_
    exact G_retI rc_21_20 (Or.inr (by decide)) h
  · rw [if_neg c1] at h
    show GO S0 21 4 [vR 0, vI x1] [] I K
    refine G_loadI rc_21_4 rfl ?_
    refine G_loadR rc_21_5 rfl ?_
    refine G_getR rc_21_6 s0_0 (by decide) rfl (by decide) ?_
    show GO S0 21 9 [vR 0, vI x1] [vR 1, vI x1] I K
    refine G_getI rc_21_9 s0_1 (by decide) ?_
    show GO S0 21 12 [vR 0, vI x1] [vI (I 1 0), vI x1] I K
    refine G_i2 (C := I 1 0 ≤ x1) rc_21_12 rfl (fun c2 => ?_) (fun c2 => ?_)
    · rw [if_pos c2] at h
      show GO S0 21 19 [vR 0, vI x1] [] I K
      refine G_const rc_21_19 (by decide) ?_
      exact G_retI rc_21_20 (Or.inr (by decide)) h
    · rw [if_neg c2] at h
      show GO S0 21 15 [vR 0, vI x1] [] I K
      refine G_const rc_21_15 (by decide) ?_
      refine G_goto rc_21_16 ?_
      show GO S0 21 20 [vR 0, vI x1] [vI 1] I K
      exact G_retI rc_21_20 (Or.inr (by decide)) h
/-! 22: RoundSlack$Rounds.vanOf(I)I -/
def D22_9 (r0 : Nat) (x1 : Int) (x2 : Int) (x3 : Int) (I : IM) (K : Option AV → IM → Prop) : Prop :=
  (0 ≤ x2 ∧ x2 < 4) ∧ (if I (r0 + 1) (x2).toNat ≤ x3 then ((inR (x2 + 1)) ∧ GO S0 22 2 [vR r0, vI x1, vI (x2 + 1), vI x3] [] I K) else ((0 ≤ x3 ∧ x3 < 12) ∧ (if I (r0 + 3 + (x2).toNat) (x3).toNat = x1 then (K (some (vI x2)) I) else ((inR (x3 + 1)) ∧ GO S0 22 9 [vR r0, vI x1, vI x2, vI (x3 + 1)] [] I K))))
set_option maxRecDepth 10000 in
theorem g22_9 (r0 : Nat) (h0 : isRd r0) (x1 : Int) (x2 : Int) (x3 : Int) (I : IM) (K : Option AV → IM → Prop) (h : D22_9 r0 x1 x2 x3 I K) : GO S0 22 9 [vR r0, vI x1, vI x2, vI x3] [] I K := by
  unfold D22_9 at h
  refine G_loadI rc_22_9 rfl ?_
  refine G_loadR rc_22_10 rfl ?_
  refine G_getR rc_22_11 (rd_0 h0) (by decide) rfl (by have := rd_lt h0; omega) ?_
  show GO S0 22 14 [vR r0, vI x1, vI x2, vI x3] [vR (r0 + 1), vI x3] I K
  refine G_loadI rc_22_14 rfl ?_
  obtain ⟨c1, h⟩ := h
  refine G_ald rc_22_15 (rd_1 h0) (by omega) (by omega) ?_
  show GO S0 22 16 [vR r0, vI x1, vI x2, vI x3] [vI (I (r0 + 1) (x2).toNat), vI x3] I K
  refine G_i2 (C := I (r0 + 1) (x2).toNat ≤ x3) rc_22_16 rfl (fun c2 => ?_) (fun c2 => ?_)
  · rw [if_pos c2] at h
    show GO S0 22 39 [vR r0, vI x1, vI x2, vI x3] [] I K
    obtain ⟨c3, h⟩ := h
    refine G_iinc rc_22_39 rfl c3 ?_
    show GO S0 22 42 [vR r0, vI x1, vI (x2 + 1), vI x3] [] I K
    refine G_goto rc_22_42 ?_
    show GO S0 22 2 [vR r0, vI x1, vI (x2 + 1), vI x3] [] I K
    exact h
  · rw [if_neg c2] at h
    show GO S0 22 19 [vR r0, vI x1, vI x2, vI x3] [] I K
    refine G_loadR rc_22_19 rfl ?_
    refine G_getR rc_22_20 (rd_0 h0) (by decide) rfl (by have := rd_lt h0; omega) ?_
    show GO S0 22 23 [vR r0, vI x1, vI x2, vI x3] [vR (r0 + 2)] I K
    refine G_loadI rc_22_23 rfl ?_
    refine G_aldR rc_22_24 (rd_2 h0) (Or.inl rfl) (by omega) (by omega) (rd_row (i := (x2).toNat) (by omega)) (by have := rd_lt h0; omega) ?_
    show GO S0 22 25 [vR r0, vI x1, vI x2, vI x3] [vR (r0 + 3 + (x2).toNat)] I K
    refine G_loadI rc_22_25 rfl ?_
    obtain ⟨c4, h⟩ := h
    refine G_ald rc_22_26 (rd_3 (i := (x2).toNat) h0 (by omega)) (by omega) (by omega) ?_
    show GO S0 22 27 [vR r0, vI x1, vI x2, vI x3] [vI (I (r0 + 3 + (x2).toNat) (x3).toNat)] I K
    refine G_loadI rc_22_27 rfl ?_
    refine G_i2 (C := ¬ I (r0 + 3 + (x2).toNat) (x3).toNat = x1) rc_22_28 rfl (fun c5 => ?_) (fun c5 => ?_)
    · rw [if_neg c5] at h
      show GO S0 22 33 [vR r0, vI x1, vI x2, vI x3] [] I K
      obtain ⟨c6, h⟩ := h
      refine G_iinc rc_22_33 rfl c6 ?_
      show GO S0 22 36 [vR r0, vI x1, vI x2, vI (x3 + 1)] [] I K
      refine G_goto rc_22_36 ?_
      show GO S0 22 9 [vR r0, vI x1, vI x2, vI (x3 + 1)] [] I K
      exact h
    · rw [if_pos (Classical.not_not.mp c5)] at h
      show GO S0 22 31 [vR r0, vI x1, vI x2, vI x3] [] I K
      refine G_loadI rc_22_31 rfl ?_
      exact G_retI rc_22_32 (Or.inl rfl) h
def D22_2 (r0 : Nat) (x1 : Int) (x2 : Int) (u3 : AV) (I : IM) (K : Option AV → IM → Prop) : Prop :=
  (if (4 : Int) ≤ x2 then (K (some (vI (-1))) I) else (GO S0 22 9 [vR r0, vI x1, vI x2, vI 0] [] I K))
set_option maxRecDepth 10000 in
theorem g22_2 (r0 : Nat) (h0 : isRd r0) (x1 : Int) (x2 : Int) (u3 : AV) (I : IM) (K : Option AV → IM → Prop) (h : D22_2 r0 x1 x2 u3 I K) : GO S0 22 2 [vR r0, vI x1, vI x2, u3] [] I K := by
  unfold D22_2 at h
  refine G_loadI rc_22_2 rfl ?_
  refine G_const rc_22_3 (by decide) ?_
  refine G_i2 (C := (4 : Int) ≤ x2) rc_22_4 rfl (fun c1 => ?_) (fun c1 => ?_)
  · rw [if_pos c1] at h
    show GO S0 22 45 [vR r0, vI x1, vI x2, u3] [] I K
    refine G_const rc_22_45 (by decide) ?_
    exact G_retI rc_22_46 (Or.inl rfl) h
  · rw [if_neg c1] at h
    show GO S0 22 7 [vR r0, vI x1, vI x2, u3] [] I K
    refine G_const rc_22_7 (by decide) ?_
    refine G_storeI rc_22_8 (Nat.le_of_ble_eq_true rfl) ?_
    show GO S0 22 9 [vR r0, vI x1, vI x2, vI 0] [] I K
    exact h
def D22_0 (r0 : Nat) (x1 : Int) (I : IM) (K : Option AV → IM → Prop) : Prop :=
  GO S0 22 2 [vR r0, vI x1, vI 0, vU] [] I K
set_option maxRecDepth 10000 in
theorem g22_0 (r0 : Nat) (h0 : isRd r0) (x1 : Int) (I : IM) (K : Option AV → IM → Prop) (h : D22_0 r0 x1 I K) : GO S0 22 0 [vR r0, vI x1, vU, vU] [] I K := by
  unfold D22_0 at h
  refine G_const rc_22_0 (by decide) ?_
  refine G_storeI rc_22_1 (Nat.le_of_ble_eq_true rfl) ?_
  show GO S0 22 2 [vR r0, vI x1, vI 0, vU] [] I K
  exact h
/-! 23: RoundSlack.van(IIII)I -/
def D23_0 (x1 : Int) (x2 : Int) (x3 : Int) (x4 : Int) (I : IM) (K : Option AV → IM → Prop) : Prop :=
  CALL S0 24 [vI x1] I (fun v I1 => ∃ y2 : Int, v = some (vI y2) ∧ (if y2 = 0 then (K (some (vI (-1))) I1) else (CALL S0 14 [vI x2, vI 0, vI 200] I1 (fun v I4 => ∃ y5 : Int, v = some (vI y5) ∧ (if y5 = 0 then (K (some (vI (-2))) I4) else (CALL S0 14 [vI x3, vI 0, vI 999] I4 (fun v I7 => ∃ y8 : Int, v = some (vI y8) ∧ (if y8 = 0 then (K (some (vI (-2))) I7) else (CALL S0 14 [vI x4, vI x3, vI 999] I7 (fun v I10 => ∃ y11 : Int, v = some (vI y11) ∧ (if y11 = 0 then (K (some (vI (-2))) I10) else ((0 ≤ x1 ∧ x1 < 4) ∧ (if I10 30 (x1).toNat ≤ 0 then (∀ I15 : IM, I15 = iup I10 25 (x1).toNat x2 → ∀ I16 : IM, I16 = iup I15 26 (x1).toNat x3 → ∀ I17 : IM, I17 = iup I16 27 (x1).toNat x4 → CALL S0 17 [vR 78] I17 (fun v I18 => v = none ∧ K (some (vI 1)) I18)) else (K (some (vI (-3))) I10))))))))))))))
set_option maxRecDepth 10000 in
theorem g23_0 (x1 : Int) (x2 : Int) (x3 : Int) (x4 : Int) (I : IM) (K : Option AV → IM → Prop) (h : D23_0 x1 x2 x3 x4 I K) : GO S0 23 0 [vR 0, vI x1, vI x2, vI x3, vI x4] [] I K := by
  unfold D23_0 at h
  refine G_loadI rc_23_0 rfl ?_
  refine G_call (as := [vI x1]) (rest := []) rc_23_1 rfl rfl rfl (Nat.le_of_ble_eq_true rfl) rfl ?_
  refine GO.imp h (fun v I1 h => ?_)
  obtain ⟨y2, rfl, h⟩ := h
  show GO S0 23 4 [vR 0, vI x1, vI x2, vI x3, vI x4] [vI y2] I1 K
  refine G_i1 (C := ¬ y2 = 0) rc_23_4 rfl (fun c3 => ?_) (fun c3 => ?_)
  · rw [if_neg c3] at h
    show GO S0 23 9 [vR 0, vI x1, vI x2, vI x3, vI x4] [] I1 K
    refine G_loadI rc_23_9 rfl ?_
    refine G_const rc_23_10 (by decide) ?_
    refine G_const rc_23_11 (by decide) ?_
    refine G_call (as := [vI x2, vI 0, vI 200]) (rest := []) rc_23_14 rfl rfl rfl (Nat.le_of_ble_eq_true rfl) rfl ?_
    refine GO.imp h (fun v I4 h => ?_)
    obtain ⟨y5, rfl, h⟩ := h
    show GO S0 23 17 [vR 0, vI x1, vI x2, vI x3, vI x4] [vI y5] I4 K
    refine G_i1 (C := y5 = 0) rc_23_17 rfl (fun c6 => ?_) (fun c6 => ?_)
    · rw [if_pos c6] at h
      show GO S0 23 43 [vR 0, vI x1, vI x2, vI x3, vI x4] [] I4 K
      refine G_const rc_23_43 (by decide) ?_
      exact G_retI rc_23_45 (Or.inl rfl) h
    · rw [if_neg c6] at h
      show GO S0 23 20 [vR 0, vI x1, vI x2, vI x3, vI x4] [] I4 K
      refine G_loadI rc_23_20 rfl ?_
      refine G_const rc_23_21 (by decide) ?_
      refine G_const rc_23_22 (by decide) ?_
      refine G_call (as := [vI x3, vI 0, vI 999]) (rest := []) rc_23_25 rfl rfl rfl (Nat.le_of_ble_eq_true rfl) rfl ?_
      refine GO.imp h (fun v I7 h => ?_)
      obtain ⟨y8, rfl, h⟩ := h
      show GO S0 23 28 [vR 0, vI x1, vI x2, vI x3, vI x4] [vI y8] I7 K
      refine G_i1 (C := y8 = 0) rc_23_28 rfl (fun c9 => ?_) (fun c9 => ?_)
      · rw [if_pos c9] at h
        show GO S0 23 43 [vR 0, vI x1, vI x2, vI x3, vI x4] [] I7 K
        refine G_const rc_23_43 (by decide) ?_
        exact G_retI rc_23_45 (Or.inl rfl) h
      · rw [if_neg c9] at h
        show GO S0 23 31 [vR 0, vI x1, vI x2, vI x3, vI x4] [] I7 K
        refine G_loadI rc_23_31 rfl ?_
        refine G_loadI rc_23_33 rfl ?_
        refine G_const rc_23_34 (by decide) ?_
        refine G_call (as := [vI x4, vI x3, vI 999]) (rest := []) rc_23_37 rfl rfl rfl (Nat.le_of_ble_eq_true rfl) rfl ?_
        refine GO.imp h (fun v I10 h => ?_)
        obtain ⟨y11, rfl, h⟩ := h
        show GO S0 23 40 [vR 0, vI x1, vI x2, vI x3, vI x4] [vI y11] I10 K
        refine G_i1 (C := ¬ y11 = 0) rc_23_40 rfl (fun c12 => ?_) (fun c12 => ?_)
        · rw [if_neg c12] at h
          show GO S0 23 46 [vR 0, vI x1, vI x2, vI x3, vI x4] [] I10 K
          refine G_loadR rc_23_46 rfl ?_
          refine G_getR rc_23_47 s0_0 (by decide) rfl (by decide) ?_
          show GO S0 23 50 [vR 0, vI x1, vI x2, vI x3, vI x4] [vR 29] I10 K
          refine G_getR rc_23_50 s0_29 (by decide) rfl (by decide) ?_
          show GO S0 23 53 [vR 0, vI x1, vI x2, vI x3, vI x4] [vR 30] I10 K
          refine G_loadI rc_23_53 rfl ?_
          obtain ⟨c13, h⟩ := h
          refine G_ald rc_23_54 s0_30 (by omega) (by omega) ?_
          show GO S0 23 55 [vR 0, vI x1, vI x2, vI x3, vI x4] [vI (I10 30 (x1).toNat)] I10 K
          refine G_i1 (C := I10 30 (x1).toNat ≤ 0) rc_23_55 rfl (fun c14 => ?_) (fun c14 => ?_)
          · rw [if_pos c14] at h
            show GO S0 23 61 [vR 0, vI x1, vI x2, vI x3, vI x4] [] I10 K
            refine G_loadR rc_23_61 rfl ?_
            refine G_getR rc_23_62 s0_0 (by decide) rfl (by decide) ?_
            show GO S0 23 65 [vR 0, vI x1, vI x2, vI x3, vI x4] [vR 24] I10 K
            refine G_getR rc_23_65 s0_24 (by decide) rfl (by decide) ?_
            show GO S0 23 68 [vR 0, vI x1, vI x2, vI x3, vI x4] [vR 25] I10 K
            refine G_loadI rc_23_68 rfl ?_
            refine G_loadI rc_23_69 rfl ?_
            refine G_ast rc_23_70 s0_25 (by omega) (by omega) (Or.inl rfl) ?_
            show GO S0 23 71 [vR 0, vI x1, vI x2, vI x3, vI x4] [] (iup I10 25 (x1).toNat x2) K
            have h := h _ rfl
            generalize iup I10 25 (x1).toNat x2 = I15 at h ⊢
            refine G_loadR rc_23_71 rfl ?_
            refine G_getR rc_23_72 s0_0 (by decide) rfl (by decide) ?_
            show GO S0 23 75 [vR 0, vI x1, vI x2, vI x3, vI x4] [vR 24] I15 K
            refine G_getR rc_23_75 s0_24 (by decide) rfl (by decide) ?_
            show GO S0 23 78 [vR 0, vI x1, vI x2, vI x3, vI x4] [vR 26] I15 K
            refine G_loadI rc_23_78 rfl ?_
            refine G_loadI rc_23_79 rfl ?_
            refine G_ast rc_23_80 s0_26 (by omega) (by omega) (Or.inl rfl) ?_
            show GO S0 23 81 [vR 0, vI x1, vI x2, vI x3, vI x4] [] (iup I15 26 (x1).toNat x3) K
            have h := h _ rfl
            generalize iup I15 26 (x1).toNat x3 = I16 at h ⊢
            refine G_loadR rc_23_81 rfl ?_
            refine G_getR rc_23_82 s0_0 (by decide) rfl (by decide) ?_
            show GO S0 23 85 [vR 0, vI x1, vI x2, vI x3, vI x4] [vR 24] I16 K
            refine G_getR rc_23_85 s0_24 (by decide) rfl (by decide) ?_
            show GO S0 23 88 [vR 0, vI x1, vI x2, vI x3, vI x4] [vR 27] I16 K
            refine G_loadI rc_23_88 rfl ?_
            refine G_loadI rc_23_89 rfl ?_
            refine G_ast rc_23_91 s0_27 (by omega) (by omega) (Or.inl rfl) ?_
            show GO S0 23 92 [vR 0, vI x1, vI x2, vI x3, vI x4] [] (iup I16 27 (x1).toNat x4) K
            have h := h _ rfl
            generalize iup I16 27 (x1).toNat x4 = I17 at h ⊢
            refine G_loadR rc_23_92 rfl ?_
            refine G_getR rc_23_93 s0_0 (by decide) rfl (by decide) ?_
            show GO S0 23 96 [vR 0, vI x1, vI x2, vI x3, vI x4] [vR 78] I17 K
            refine G_call (as := [vR 78]) (rest := []) rc_23_96 rfl rfl rfl (Nat.le_of_ble_eq_true rfl) (g_recv s0_78 rfl) ?_
            refine GO.imp h (fun v I18 h => ?_)
            obtain ⟨rfl, h⟩ := h
            show GO S0 23 99 [vR 0, vI x1, vI x2, vI x3, vI x4] [] I18 K
            refine G_const rc_23_99 (by decide) ?_
            exact G_retI rc_23_100 (Or.inl rfl) h
          · rw [if_neg c14] at h
            show GO S0 23 58 [vR 0, vI x1, vI x2, vI x3, vI x4] [] I10 K
            refine G_const rc_23_58 (by decide) ?_
            exact G_retI rc_23_60 (Or.inl rfl) h
        · rw [if_pos (Classical.not_not.mp c12)] at h
          show GO S0 23 43 [vR 0, vI x1, vI x2, vI x3, vI x4] [] I10 K
          refine G_const rc_23_43 (by decide) ?_
          exact G_retI rc_23_45 (Or.inl rfl) h
  · rw [if_pos (Classical.not_not.mp c3)] at h
    show GO S0 23 7 [vR 0, vI x1, vI x2, vI x3, vI x4] [] I1 K
    refine G_const rc_23_7 (by decide) ?_
    exact G_retI rc_23_8 (Or.inl rfl) h
/-! 24: RoundSlack.isVan(I)Z -/
def D24_0 (x0 : Int) (I : IM) (K : Option AV → IM → Prop) : Prop :=
  (if x0 < 0 then (K (some (vI 0)) I) else ((if (4 : Int) ≤ x0 then (K (some (vI 0)) I) else (K (some (vI 1)) I))))
set_option maxRecDepth 10000 in
theorem g24_0 (x0 : Int) (I : IM) (K : Option AV → IM → Prop) (h : D24_0 x0 I K) : GO S0 24 0 [vI x0] [] I K := by
  unfold D24_0 at h
  refine G_loadI rc_24_0 rfl ?_
  refine G_i1 (C := x0 < 0) rc_24_1 rfl (fun c1 => ?_) (fun c1 => ?_)
  · rw [if_pos c1] at h
    show GO S0 24 13 [vI x0] [] I K
    refine G_const rc_24_13 (by decide) ?_
    exact G_retI rc_24_14 (Or.inr (by decide)) h
  · rw [if_neg c1] at h
    show GO S0 24 4 [vI x0] [] I K
    refine G_loadI rc_24_4 rfl ?_
    refine G_const rc_24_5 (by decide) ?_
    refine G_i2 (C := (4 : Int) ≤ x0) rc_24_6 rfl (fun c2 => ?_) (fun c2 => ?_)
    · rw [if_pos c2] at h
      show GO S0 24 13 [vI x0] [] I K
      refine G_const rc_24_13 (by decide) ?_
      exact G_retI rc_24_14 (Or.inr (by decide)) h
    · rw [if_neg c2] at h
      show GO S0 24 9 [vI x0] [] I K
      refine G_const rc_24_9 (by decide) ?_
      refine G_goto rc_24_10 ?_
      show GO S0 24 14 [vI x0] [vI 1] I K
      exact G_retI rc_24_14 (Or.inr (by decide)) h
/-! 25: RoundSlack.price(II)I -/
def D25_26 (x1 : Int) (x2 : Int) (u3 : AV) (t0 : Int) (t1 : Int) (t2 : Int) (I : IM) (K : Option AV → IM → Prop) : Prop :=
  CALL S0 14 [vI t0, vI t1, vI t2] I (fun v I1 => ∃ y2 : Int, v = some (vI y2) ∧ (if y2 = 0 then (K (some (vI (-2))) I1) else ((0 ≤ x1 ∧ x1 < 3) ∧ ∀ I5 : IM, I5 = iup I1 28 (x1).toNat x2 → K (some (vI (I1 28 (x1).toNat))) I5)))
set_option maxRecDepth 10000 in
theorem g25_26 (x1 : Int) (x2 : Int) (u3 : AV) (t0 : Int) (t1 : Int) (t2 : Int) (I : IM) (K : Option AV → IM → Prop) (h : D25_26 x1 x2 u3 t0 t1 t2 I K) : GO S0 25 26 [vR 0, vI x1, vI x2, u3] [vI t2, vI t1, vI t0] I K := by
  unfold D25_26 at h
  refine G_call (as := [vI t0, vI t1, vI t2]) (rest := []) rc_25_26 rfl rfl rfl (Nat.le_of_ble_eq_true rfl) rfl ?_
  refine GO.imp h (fun v I1 h => ?_)
  obtain ⟨y2, rfl, h⟩ := h
  show GO S0 25 29 [vR 0, vI x1, vI x2, u3] [vI y2] I1 K
  refine G_i1 (C := ¬ y2 = 0) rc_25_29 rfl (fun c3 => ?_) (fun c3 => ?_)
  · rw [if_neg c3] at h
    show GO S0 25 35 [vR 0, vI x1, vI x2, u3] [] I1 K
    refine G_loadR rc_25_35 rfl ?_
    refine G_getR rc_25_36 s0_0 (by decide) rfl (by decide) ?_
    show GO S0 25 39 [vR 0, vI x1, vI x2, u3] [vR 24] I1 K
    refine G_getR rc_25_39 s0_24 (by decide) rfl (by decide) ?_
    show GO S0 25 42 [vR 0, vI x1, vI x2, u3] [vR 28] I1 K
    refine G_loadI rc_25_42 rfl ?_
    obtain ⟨c4, h⟩ := h
    refine G_ald rc_25_43 s0_28 (by omega) (by omega) ?_
    show GO S0 25 44 [vR 0, vI x1, vI x2, u3] [vI (I1 28 (x1).toNat)] I1 K
    refine G_storeI rc_25_44 (Nat.le_of_ble_eq_true rfl) ?_
    show GO S0 25 45 [vR 0, vI x1, vI x2, vI (I1 28 (x1).toNat)] [] I1 K
    refine G_loadR rc_25_45 rfl ?_
    refine G_getR rc_25_46 s0_0 (by decide) rfl (by decide) ?_
    show GO S0 25 49 [vR 0, vI x1, vI x2, vI (I1 28 (x1).toNat)] [vR 24] I1 K
    refine G_getR rc_25_49 s0_24 (by decide) rfl (by decide) ?_
    show GO S0 25 52 [vR 0, vI x1, vI x2, vI (I1 28 (x1).toNat)] [vR 28] I1 K
    refine G_loadI rc_25_52 rfl ?_
    refine G_loadI rc_25_53 rfl ?_
    refine G_ast rc_25_54 s0_28 (by omega) (by omega) (Or.inl rfl) ?_
    show GO S0 25 55 [vR 0, vI x1, vI x2, vI (I1 28 (x1).toNat)] [] (iup I1 28 (x1).toNat x2) K
    have h := h _ rfl
    generalize iup I1 28 (x1).toNat x2 = I5 at h ⊢
    refine G_loadI rc_25_55 rfl ?_
    exact G_retI rc_25_56 (Or.inl rfl) h
  · rw [if_pos (Classical.not_not.mp c3)] at h
    show GO S0 25 32 [vR 0, vI x1, vI x2, u3] [] I1 K
    refine G_const rc_25_32 (by decide) ?_
    exact G_retI rc_25_34 (Or.inl rfl) h
def D25_0 (x1 : Int) (x2 : Int) (I : IM) (K : Option AV → IM → Prop) : Prop :=
  CALL S0 14 [vI x1, vI 0, vI 2] I (fun v I1 => ∃ y2 : Int, v = some (vI y2) ∧ (if y2 = 0 then (K (some (vI (-1))) I1) else ((if x1 = 2 then (D25_26 x1 x2 (vU) x2 0 999 I1 K) else (D25_26 x1 x2 (vU) x2 0 9 I1 K)))))
set_option maxRecDepth 10000 in
theorem g25_0 (x1 : Int) (x2 : Int) (I : IM) (K : Option AV → IM → Prop) (h : D25_0 x1 x2 I K) : GO S0 25 0 [vR 0, vI x1, vI x2, vU] [] I K := by
  unfold D25_0 at h
  refine G_loadI rc_25_0 rfl ?_
  refine G_const rc_25_1 (by decide) ?_
  refine G_const rc_25_2 (by decide) ?_
  refine G_call (as := [vI x1, vI 0, vI 2]) (rest := []) rc_25_3 rfl rfl rfl (Nat.le_of_ble_eq_true rfl) rfl ?_
  refine GO.imp h (fun v I1 h => ?_)
  obtain ⟨y2, rfl, h⟩ := h
  show GO S0 25 6 [vR 0, vI x1, vI x2, vU] [vI y2] I1 K
  refine G_i1 (C := ¬ y2 = 0) rc_25_6 rfl (fun c3 => ?_) (fun c3 => ?_)
  · rw [if_neg c3] at h
    show GO S0 25 11 [vR 0, vI x1, vI x2, vU] [] I1 K
    refine G_loadI rc_25_11 rfl ?_
    refine G_const rc_25_12 (by decide) ?_
    refine G_loadI rc_25_13 rfl ?_
    refine G_const rc_25_14 (by decide) ?_
    refine G_i2 (C := ¬ x1 = 2) rc_25_15 rfl (fun c4 => ?_) (fun c4 => ?_)
    · rw [if_neg c4] at h
      show GO S0 25 24 [vR 0, vI x1, vI x2, vU] [vI 0, vI x2] I1 K
      refine G_const rc_25_24 (by decide) ?_
      exact g25_26 x1 x2 (vU) x2 0 9 I1 K h
    · rw [if_pos (Classical.not_not.mp c4)] at h
      show GO S0 25 18 [vR 0, vI x1, vI x2, vU] [vI 0, vI x2] I1 K
      refine G_const rc_25_18 (by decide) ?_
      refine G_goto rc_25_21 ?_
      show GO S0 25 26 [vR 0, vI x1, vI x2, vU] [vI 999, vI 0, vI x2] I1 K
      exact g25_26 x1 x2 (vU) x2 0 999 I1 K h
  · rw [if_pos (Classical.not_not.mp c3)] at h
    show GO S0 25 9 [vR 0, vI x1, vI x2, vU] [] I1 K
    refine G_const rc_25_9 (by decide) ?_
    exact G_retI rc_25_10 (Or.inl rfl) h
/-! 26: RoundSlack.feed(I)I -/
def D26_0 (x1 : Int) (I : IM) (K : Option AV → IM → Prop) : Prop :=
  CALL S0 14 [vI x1, vI 1, vI 127] I (fun v I1 => ∃ y2 : Int, v = some (vI y2) ∧ (if y2 = 0 then (K (some (vI (-2))) I1) else (CALL S0 27 [vR 208, vI x1] I1 (fun v I4 => ∃ y5 : Int, v = some (vI y5) ∧ (if y5 = 0 then (K (some (vI (-4))) I4) else (K (some (vI (I4 208 1))) I4))))))
set_option maxRecDepth 10000 in
theorem g26_0 (x1 : Int) (I : IM) (K : Option AV → IM → Prop) (h : D26_0 x1 I K) : GO S0 26 0 [vR 0, vI x1] [] I K := by
  unfold D26_0 at h
  refine G_loadI rc_26_0 rfl ?_
  refine G_const rc_26_1 (by decide) ?_
  refine G_const rc_26_2 (by decide) ?_
  refine G_call (as := [vI x1, vI 1, vI 127]) (rest := []) rc_26_4 rfl rfl rfl (Nat.le_of_ble_eq_true rfl) rfl ?_
  refine GO.imp h (fun v I1 h => ?_)
  obtain ⟨y2, rfl, h⟩ := h
  show GO S0 26 7 [vR 0, vI x1] [vI y2] I1 K
  refine G_i1 (C := ¬ y2 = 0) rc_26_7 rfl (fun c3 => ?_) (fun c3 => ?_)
  · rw [if_neg c3] at h
    show GO S0 26 13 [vR 0, vI x1] [] I1 K
    refine G_loadR rc_26_13 rfl ?_
    refine G_getR rc_26_14 s0_0 (by decide) rfl (by decide) ?_
    show GO S0 26 17 [vR 0, vI x1] [vR 208] I1 K
    refine G_loadI rc_26_17 rfl ?_
    refine G_call (as := [vR 208, vI x1]) (rest := []) rc_26_18 rfl rfl rfl (Nat.le_of_ble_eq_true rfl) (g_recv s0_208 rfl) ?_
    refine GO.imp h (fun v I4 h => ?_)
    obtain ⟨y5, rfl, h⟩ := h
    show GO S0 26 21 [vR 0, vI x1] [vI y5] I4 K
    refine G_i1 (C := y5 = 0) rc_26_21 rfl (fun c6 => ?_) (fun c6 => ?_)
    · rw [if_pos c6] at h
      show GO S0 26 34 [vR 0, vI x1] [] I4 K
      refine G_const rc_26_34 (by decide) ?_
      exact G_retI rc_26_36 (Or.inl rfl) h
    · rw [if_neg c6] at h
      show GO S0 26 24 [vR 0, vI x1] [] I4 K
      refine G_loadR rc_26_24 rfl ?_
      refine G_getR rc_26_25 s0_0 (by decide) rfl (by decide) ?_
      show GO S0 26 28 [vR 0, vI x1] [vR 208] I4 K
      refine G_getI rc_26_28 s0_208 (by decide) ?_
      show GO S0 26 31 [vR 0, vI x1] [vI (I4 208 1)] I4 K
      refine G_goto rc_26_31 ?_
      show GO S0 26 36 [vR 0, vI x1] [vI (I4 208 1)] I4 K
      exact G_retI rc_26_36 (Or.inl rfl) h
  · rw [if_pos (Classical.not_not.mp c3)] at h
    show GO S0 26 10 [vR 0, vI x1] [] I1 K
    refine G_const rc_26_10 (by decide) ?_
    exact G_retI rc_26_12 (Or.inl rfl) h
/-! 27: RoundSlack$Text.add(I)Z -/
def D27_0 (r0 : Nat) (x1 : Int) (I : IM) (K : Option AV → IM → Prop) : Prop :=
  (if I r0 1 < txn r0 then ((-128 ≤ x1 ∧ x1 ≤ 127) ∧ (0 ≤ I r0 1 ∧ I r0 1 < txn r0) ∧ ∀ I4 : IM, I4 = iup I (r0 + 1) (I r0 1).toNat x1 → (inR ((I4 r0 1) + 1)) ∧ ∀ I6 : IM, I6 = iup I4 r0 1 ((I4 r0 1) + 1) → K (some (vI 1)) I6) else (K (some (vI 0)) I))
set_option maxRecDepth 10000 in
theorem g27_0 (r0 : Nat) (h0 : isTx r0) (x1 : Int) (I : IM) (K : Option AV → IM → Prop) (h : D27_0 r0 x1 I K) : GO S0 27 0 [vR r0, vI x1] [] I K := by
  unfold D27_0 at h
  refine G_loadR rc_27_0 rfl ?_
  refine G_getI rc_27_1 (tx_0 h0) (by decide) ?_
  show GO S0 27 4 [vR r0, vI x1] [vI (I r0 1)] I K
  refine G_loadR rc_27_4 rfl ?_
  refine G_getR rc_27_5 (tx_0 h0) (by decide) rfl (by have := tx_lt h0; omega) ?_
  show GO S0 27 8 [vR r0, vI x1] [vR (r0 + 1), vI (I r0 1)] I K
  refine G_alen rc_27_8 (tx_1 h0) (by decide) (by decide) (txn_le h0) ?_
  show GO S0 27 9 [vR r0, vI x1] [vI (txn r0), vI (I r0 1)] I K
  refine G_i2 (C := I r0 1 < txn r0) rc_27_9 rfl (fun c1 => ?_) (fun c1 => ?_)
  · rw [if_pos c1] at h
    show GO S0 27 14 [vR r0, vI x1] [] I K
    refine G_loadR rc_27_14 rfl ?_
    refine G_getR rc_27_15 (tx_0 h0) (by decide) rfl (by have := tx_lt h0; omega) ?_
    show GO S0 27 18 [vR r0, vI x1] [vR (r0 + 1)] I K
    refine G_loadR rc_27_18 rfl ?_
    refine G_getI rc_27_19 (tx_0 h0) (by decide) ?_
    show GO S0 27 22 [vR r0, vI x1] [vI (I r0 1), vR (r0 + 1)] I K
    refine G_loadI rc_27_22 rfl ?_
    obtain ⟨c2, h⟩ := h
    refine G_i2b rc_27_23 c2 ?_
    obtain ⟨c3, h⟩ := h
    refine G_ast rc_27_24 (tx_1 h0) (by omega) (by omega) (Or.inr c2) ?_
    show GO S0 27 25 [vR r0, vI x1] [] (iup I (r0 + 1) (I r0 1).toNat x1) K
    have h := h _ rfl
    generalize iup I (r0 + 1) (I r0 1).toNat x1 = I4 at h ⊢
    refine G_loadR rc_27_25 rfl ?_
    refine G_dupR rc_27_26 ?_
    refine G_getI rc_27_27 (tx_0 h0) (by decide) ?_
    show GO S0 27 30 [vR r0, vI x1] [vI (I4 r0 1), vR r0] I4 K
    refine G_const rc_27_30 (by decide) ?_
    obtain ⟨c5, h⟩ := h
    refine G_bop (z := (I4 r0 1) + 1) rc_27_31 (if_pos c5) ?_
    show GO S0 27 32 [vR r0, vI x1] [vI ((I4 r0 1) + 1), vR r0] I4 K
    refine G_putI rc_27_32 (tx_0 h0) (by decide) (Or.inl rfl) ?_
    show GO S0 27 35 [vR r0, vI x1] [] (iup I4 r0 1 ((I4 r0 1) + 1)) K
    have h := h _ rfl
    generalize iup I4 r0 1 ((I4 r0 1) + 1) = I6 at h ⊢
    refine G_const rc_27_35 (by decide) ?_
    exact G_retI rc_27_36 (Or.inr (by decide)) h
  · rw [if_neg c1] at h
    show GO S0 27 12 [vR r0, vI x1] [] I K
    refine G_const rc_27_12 (by decide) ?_
    exact G_retI rc_27_13 (Or.inr (by decide)) h
/-! 28: RoundSlack.clear()I -/
def D28_0 (I : IM) (K : Option AV → IM → Prop) : Prop :=
  ∀ I1 : IM, I1 = iup I 208 1 0 → K (some (vI (I 208 1))) I1
set_option maxRecDepth 10000 in
theorem g28_0 (I : IM) (K : Option AV → IM → Prop) (h : D28_0 I K) : GO S0 28 0 [vR 0, vU] [] I K := by
  unfold D28_0 at h
  refine G_loadR rc_28_0 rfl ?_
  refine G_getR rc_28_1 s0_0 (by decide) rfl (by decide) ?_
  show GO S0 28 4 [vR 0, vU] [vR 208] I K
  refine G_getI rc_28_4 s0_208 (by decide) ?_
  show GO S0 28 7 [vR 0, vU] [vI (I 208 1)] I K
  refine G_storeI rc_28_7 (Nat.le_of_ble_eq_true rfl) ?_
  show GO S0 28 8 [vR 0, vI (I 208 1)] [] I K
  refine G_loadR rc_28_8 rfl ?_
  refine G_getR rc_28_9 s0_0 (by decide) rfl (by decide) ?_
  show GO S0 28 12 [vR 0, vI (I 208 1)] [vR 208] I K
  refine G_const rc_28_12 (by decide) ?_
  refine G_putI rc_28_13 s0_208 (by decide) (Or.inl rfl) ?_
  show GO S0 28 16 [vR 0, vI (I 208 1)] [] (iup I 208 1 0) K
  have h := h _ rfl
  generalize iup I 208 1 0 = I1 at h ⊢
  refine G_loadI rc_28_16 rfl ?_
  exact G_retI rc_28_17 (Or.inl rfl) h
/-! 29: RoundSlack.orders()I -/
def D29_125 (x1 : Int) (x2 : Int) (u3 : AV) (u4 : AV) (I : IM) (K : Option AV → IM → Prop) : Prop :=
  CALL S0 17 [vR 78] I (fun v I1 => v = none ∧ K (some (vI x1)) I1)
set_option maxRecDepth 10000 in
theorem g29_125 (x1 : Int) (x2 : Int) (u3 : AV) (u4 : AV) (I : IM) (K : Option AV → IM → Prop) (h : D29_125 x1 x2 u3 u4 I K) : GO S0 29 125 [vR 0, vI x1, vI x2, u3, u4] [] I K := by
  unfold D29_125 at h
  refine G_loadR rc_29_125 rfl ?_
  refine G_getR rc_29_126 s0_0 (by decide) rfl (by decide) ?_
  show GO S0 29 129 [vR 0, vI x1, vI x2, u3, u4] [vR 78] I K
  refine G_call (as := [vR 78]) (rest := []) rc_29_129 rfl rfl rfl (Nat.le_of_ble_eq_true rfl) (g_recv s0_78 rfl) ?_
  refine GO.imp h (fun v I1 h => ?_)
  obtain ⟨rfl, h⟩ := h
  show GO S0 29 132 [vR 0, vI x1, vI x2, u3, u4] [] I1 K
  refine G_loadI rc_29_132 rfl ?_
  exact G_retI rc_29_133 (Or.inl rfl) h
def D29_41 (x1 : Int) (x2 : Int) (u3 : AV) (u4 : AV) (I : IM) (K : Option AV → IM → Prop) : Prop :=
  (if x1 ≤ x2 then (D29_125 x1 x2 (u3) (u4) I K) else ((if (17 : Int) ≤ x2 then (D29_125 x1 x2 (u3) (u4) I K) else ((0 ≤ x2 ∧ x2 < 17) ∧ CALL S0 19 [vR 1, vI (I (214 + (x2).toNat) 0), vI (I (214 + (x2).toNat) 1), vI (I (214 + (x2).toNat) 2), vI (I (214 + (x2).toNat) 3), vI (I (214 + (x2).toNat) 4)] I (fun v I4 => ∃ y5 : Int, v = some (vI y5) ∧ (if y5 = -1 then ((inR (x2 + 1)) ∧ GO S0 29 41 [vR 0, vI x1, vI (x2 + 1), vR (214 + (x2).toNat), vI y5] [] I4 K) else ((0 ≤ y5 ∧ y5 < 13) ∧ ∀ I9 : IM, I9 = iup I4 7 (y5).toNat (I4 (214 + (x2).toNat) 5) → ∀ I10 : IM, I10 = iup I9 8 (y5).toNat (I9 (214 + (x2).toNat) 6) → (inR (x2 + 1)) ∧ GO S0 29 41 [vR 0, vI x1, vI (x2 + 1), vR (214 + (x2).toNat), vI y5] [] I10 K)))))))
set_option maxRecDepth 10000 in
theorem g29_41 (x1 : Int) (x2 : Int) (u3 : AV) (u4 : AV) (I : IM) (K : Option AV → IM → Prop) (h : D29_41 x1 x2 u3 u4 I K) : GO S0 29 41 [vR 0, vI x1, vI x2, u3, u4] [] I K := by
  unfold D29_41 at h
  refine G_loadI rc_29_41 rfl ?_
  refine G_loadI rc_29_42 rfl ?_
  refine G_i2 (C := x1 ≤ x2) rc_29_43 rfl (fun c1 => ?_) (fun c1 => ?_)
  · rw [if_pos c1] at h
    show GO S0 29 125 [vR 0, vI x1, vI x2, u3, u4] [] I K
    exact g29_125 x1 x2 (u3) (u4) I K h
  · rw [if_neg c1] at h
    show GO S0 29 46 [vR 0, vI x1, vI x2, u3, u4] [] I K
    refine G_loadI rc_29_46 rfl ?_
    refine G_const rc_29_47 (by decide) ?_
    refine G_i2 (C := (17 : Int) ≤ x2) rc_29_49 rfl (fun c2 => ?_) (fun c2 => ?_)
    · rw [if_pos c2] at h
      show GO S0 29 125 [vR 0, vI x1, vI x2, u3, u4] [] I K
      exact g29_125 x1 x2 (u3) (u4) I K h
    · rw [if_neg c2] at h
      show GO S0 29 52 [vR 0, vI x1, vI x2, u3, u4] [] I K
      refine G_loadR rc_29_52 rfl ?_
      refine G_getR rc_29_53 s0_0 (by decide) rfl (by decide) ?_
      show GO S0 29 56 [vR 0, vI x1, vI x2, u3, u4] [vR 212] I K
      refine G_getR rc_29_56 s0_212 (by decide) rfl (by decide) ?_
      show GO S0 29 59 [vR 0, vI x1, vI x2, u3, u4] [vR 213] I K
      refine G_loadI rc_29_59 rfl ?_
      obtain ⟨c3, h⟩ := h
      refine G_aldR rc_29_60 s0_213 (Or.inl rfl) (by omega) (by omega) (rw213 (i := (x2).toNat) (by omega)) (by omega) ?_
      show GO S0 29 61 [vR 0, vI x1, vI x2, u3, u4] [vR (214 + (x2).toNat)] I K
      refine G_storeR rc_29_61 (Nat.le_of_ble_eq_true rfl) ?_
      show GO S0 29 62 [vR 0, vI x1, vI x2, vR (214 + (x2).toNat), u4] [] I K
      refine G_loadR rc_29_62 rfl ?_
      refine G_getR rc_29_63 s0_0 (by decide) rfl (by decide) ?_
      show GO S0 29 66 [vR 0, vI x1, vI x2, vR (214 + (x2).toNat), u4] [vR 1] I K
      refine G_loadR rc_29_66 rfl ?_
      refine G_const rc_29_67 (by decide) ?_
      refine G_ald rc_29_68 (q213 (i := (x2).toNat) (by omega)) (by decide) (by decide) ?_
      show GO S0 29 69 [vR 0, vI x1, vI x2, vR (214 + (x2).toNat), u4] [vI (I (214 + (x2).toNat) 0), vR 1] I K
      refine G_loadR rc_29_69 rfl ?_
      refine G_const rc_29_70 (by decide) ?_
      refine G_ald rc_29_71 (q213 (i := (x2).toNat) (by omega)) (by decide) (by decide) ?_
      show GO S0 29 72 [vR 0, vI x1, vI x2, vR (214 + (x2).toNat), u4] [vI (I (214 + (x2).toNat) 1), vI (I (214 + (x2).toNat) 0), vR 1] I K
      refine G_loadR rc_29_72 rfl ?_
      refine G_const rc_29_73 (by decide) ?_
      refine G_ald rc_29_74 (q213 (i := (x2).toNat) (by omega)) (by decide) (by decide) ?_
      show GO S0 29 75 [vR 0, vI x1, vI x2, vR (214 + (x2).toNat), u4] [vI (I (214 + (x2).toNat) 2), vI (I (214 + (x2).toNat) 1), vI (I (214 + (x2).toNat) 0), vR 1] I K
      refine G_loadR rc_29_75 rfl ?_
      refine G_const rc_29_76 (by decide) ?_
      refine G_ald rc_29_77 (q213 (i := (x2).toNat) (by omega)) (by decide) (by decide) ?_
      show GO S0 29 78 [vR 0, vI x1, vI x2, vR (214 + (x2).toNat), u4] [vI (I (214 + (x2).toNat) 3), vI (I (214 + (x2).toNat) 2), vI (I (214 + (x2).toNat) 1), vI (I (214 + (x2).toNat) 0), vR 1] I K
      refine G_loadR rc_29_78 rfl ?_
      refine G_const rc_29_79 (by decide) ?_
      refine G_ald rc_29_80 (q213 (i := (x2).toNat) (by omega)) (by decide) (by decide) ?_
      show GO S0 29 81 [vR 0, vI x1, vI x2, vR (214 + (x2).toNat), u4] [vI (I (214 + (x2).toNat) 4), vI (I (214 + (x2).toNat) 3), vI (I (214 + (x2).toNat) 2), vI (I (214 + (x2).toNat) 1), vI (I (214 + (x2).toNat) 0), vR 1] I K
      refine G_call (as := [vR 1, vI (I (214 + (x2).toNat) 0), vI (I (214 + (x2).toNat) 1), vI (I (214 + (x2).toNat) 2), vI (I (214 + (x2).toNat) 3), vI (I (214 + (x2).toNat) 4)]) (rest := []) rc_29_81 rfl rfl rfl (Nat.le_of_ble_eq_true rfl) (g_recv s0_1 rfl) ?_
      refine GO.imp h (fun v I4 h => ?_)
      obtain ⟨y5, rfl, h⟩ := h
      show GO S0 29 84 [vR 0, vI x1, vI x2, vR (214 + (x2).toNat), u4] [vI y5] I4 K
      refine G_storeI rc_29_84 (Nat.le_of_ble_eq_true rfl) ?_
      show GO S0 29 86 [vR 0, vI x1, vI x2, vR (214 + (x2).toNat), vI y5] [] I4 K
      refine G_loadI rc_29_86 rfl ?_
      refine G_const rc_29_88 (by decide) ?_
      refine G_i2 (C := y5 = -1) rc_29_89 rfl (fun c6 => ?_) (fun c6 => ?_)
      · rw [if_pos c6] at h
        show GO S0 29 119 [vR 0, vI x1, vI x2, vR (214 + (x2).toNat), vI y5] [] I4 K
        obtain ⟨c7, h⟩ := h
        refine G_iinc rc_29_119 rfl c7 ?_
        show GO S0 29 122 [vR 0, vI x1, vI (x2 + 1), vR (214 + (x2).toNat), vI y5] [] I4 K
        refine G_goto rc_29_122 ?_
        show GO S0 29 41 [vR 0, vI x1, vI (x2 + 1), vR (214 + (x2).toNat), vI y5] [] I4 K
        exact h
      · rw [if_neg c6] at h
        show GO S0 29 92 [vR 0, vI x1, vI x2, vR (214 + (x2).toNat), vI y5] [] I4 K
        refine G_loadR rc_29_92 rfl ?_
        refine G_getR rc_29_93 s0_0 (by decide) rfl (by decide) ?_
        show GO S0 29 96 [vR 0, vI x1, vI x2, vR (214 + (x2).toNat), vI y5] [vR 1] I4 K
        refine G_getR rc_29_96 s0_1 (by decide) rfl (by decide) ?_
        show GO S0 29 99 [vR 0, vI x1, vI x2, vR (214 + (x2).toNat), vI y5] [vR 7] I4 K
        refine G_loadI rc_29_99 rfl ?_
        refine G_loadR rc_29_101 rfl ?_
        refine G_const rc_29_102 (by decide) ?_
        refine G_ald rc_29_103 (q213 (i := (x2).toNat) (by omega)) (by decide) (by decide) ?_
        show GO S0 29 104 [vR 0, vI x1, vI x2, vR (214 + (x2).toNat), vI y5] [vI (I4 (214 + (x2).toNat) 5), vI y5, vR 7] I4 K
        obtain ⟨c8, h⟩ := h
        refine G_ast rc_29_104 s0_7 (by omega) (by omega) (Or.inl rfl) ?_
        show GO S0 29 105 [vR 0, vI x1, vI x2, vR (214 + (x2).toNat), vI y5] [] (iup I4 7 (y5).toNat (I4 (214 + (x2).toNat) 5)) K
        have h := h _ rfl
        generalize iup I4 7 (y5).toNat (I4 (214 + (x2).toNat) 5) = I9 at h ⊢
        refine G_loadR rc_29_105 rfl ?_
        refine G_getR rc_29_106 s0_0 (by decide) rfl (by decide) ?_
        show GO S0 29 109 [vR 0, vI x1, vI x2, vR (214 + (x2).toNat), vI y5] [vR 1] I9 K
        refine G_getR rc_29_109 s0_1 (by decide) rfl (by decide) ?_
        show GO S0 29 112 [vR 0, vI x1, vI x2, vR (214 + (x2).toNat), vI y5] [vR 8] I9 K
        refine G_loadI rc_29_112 rfl ?_
        refine G_loadR rc_29_114 rfl ?_
        refine G_const rc_29_115 (by decide) ?_
        refine G_ald rc_29_117 (q213 (i := (x2).toNat) (by omega)) (by decide) (by decide) ?_
        show GO S0 29 118 [vR 0, vI x1, vI x2, vR (214 + (x2).toNat), vI y5] [vI (I9 (214 + (x2).toNat) 6), vI y5, vR 8] I9 K
        refine G_ast rc_29_118 s0_8 (by omega) (by omega) (Or.inl rfl) ?_
        show GO S0 29 119 [vR 0, vI x1, vI x2, vR (214 + (x2).toNat), vI y5] [] (iup I9 8 (y5).toNat (I9 (214 + (x2).toNat) 6)) K
        have h := h _ rfl
        generalize iup I9 8 (y5).toNat (I9 (214 + (x2).toNat) 6) = I10 at h ⊢
        obtain ⟨c11, h⟩ := h
        refine G_iinc rc_29_119 rfl c11 ?_
        show GO S0 29 122 [vR 0, vI x1, vI (x2 + 1), vR (214 + (x2).toNat), vI y5] [] I10 K
        refine G_goto rc_29_122 ?_
        show GO S0 29 41 [vR 0, vI x1, vI (x2 + 1), vR (214 + (x2).toNat), vI y5] [] I10 K
        exact h
def D29_0 (I : IM) (K : Option AV → IM → Prop) : Prop :=
  CALL S0 30 [vR 212] I (fun v I1 => ∃ y2 : Int, v = some (vI y2) ∧ ∀ I3 : IM, I3 = iup I1 208 1 0 → (if (0 : Int) ≤ y2 then ((inR ((I3 1 0) + y2)) ∧ (if (I3 1 0) + y2 ≤ 12 then (GO S0 29 41 [vR 0, vI y2, vI 0, vU, vU] [] I3 K) else (K (some (vI (-4))) I3))) else (K (some (vI y2)) I3)))
set_option maxRecDepth 10000 in
theorem g29_0 (I : IM) (K : Option AV → IM → Prop) (h : D29_0 I K) : GO S0 29 0 [vR 0, vU, vU, vU, vU] [] I K := by
  unfold D29_0 at h
  refine G_loadR rc_29_0 rfl ?_
  refine G_getR rc_29_1 s0_0 (by decide) rfl (by decide) ?_
  show GO S0 29 4 [vR 0, vU, vU, vU, vU] [vR 212] I K
  refine G_call (as := [vR 212]) (rest := []) rc_29_4 rfl rfl rfl (Nat.le_of_ble_eq_true rfl) (g_recv s0_212 rfl) ?_
  refine GO.imp h (fun v I1 h => ?_)
  obtain ⟨y2, rfl, h⟩ := h
  show GO S0 29 7 [vR 0, vU, vU, vU, vU] [vI y2] I1 K
  refine G_storeI rc_29_7 (Nat.le_of_ble_eq_true rfl) ?_
  show GO S0 29 8 [vR 0, vI y2, vU, vU, vU] [] I1 K
  refine G_loadR rc_29_8 rfl ?_
  refine G_getR rc_29_9 s0_0 (by decide) rfl (by decide) ?_
  show GO S0 29 12 [vR 0, vI y2, vU, vU, vU] [vR 208] I1 K
  refine G_const rc_29_12 (by decide) ?_
  refine G_putI rc_29_13 s0_208 (by decide) (Or.inl rfl) ?_
  show GO S0 29 16 [vR 0, vI y2, vU, vU, vU] [] (iup I1 208 1 0) K
  have h := h _ rfl
  generalize iup I1 208 1 0 = I3 at h ⊢
  refine G_loadI rc_29_16 rfl ?_
  refine G_i1 (C := (0 : Int) ≤ y2) rc_29_17 rfl (fun c4 => ?_) (fun c4 => ?_)
  · rw [if_pos c4] at h
    show GO S0 29 22 [vR 0, vI y2, vU, vU, vU] [] I3 K
    refine G_loadR rc_29_22 rfl ?_
    refine G_getR rc_29_23 s0_0 (by decide) rfl (by decide) ?_
    show GO S0 29 26 [vR 0, vI y2, vU, vU, vU] [vR 1] I3 K
    refine G_getI rc_29_26 s0_1 (by decide) ?_
    show GO S0 29 29 [vR 0, vI y2, vU, vU, vU] [vI (I3 1 0)] I3 K
    refine G_loadI rc_29_29 rfl ?_
    obtain ⟨c5, h⟩ := h
    refine G_bop (z := (I3 1 0) + y2) rc_29_30 (if_pos c5) ?_
    show GO S0 29 31 [vR 0, vI y2, vU, vU, vU] [vI ((I3 1 0) + y2)] I3 K
    refine G_const rc_29_31 (by decide) ?_
    refine G_i2 (C := (I3 1 0) + y2 ≤ 12) rc_29_33 rfl (fun c6 => ?_) (fun c6 => ?_)
    · rw [if_pos c6] at h
      show GO S0 29 39 [vR 0, vI y2, vU, vU, vU] [] I3 K
      refine G_const rc_29_39 (by decide) ?_
      refine G_storeI rc_29_40 (Nat.le_of_ble_eq_true rfl) ?_
      show GO S0 29 41 [vR 0, vI y2, vI 0, vU, vU] [] I3 K
      exact h
    · rw [if_neg c6] at h
      show GO S0 29 36 [vR 0, vI y2, vU, vU, vU] [] I3 K
      refine G_const rc_29_36 (by decide) ?_
      exact G_retI rc_29_38 (Or.inl rfl) h
  · rw [if_neg c4] at h
    show GO S0 29 20 [vR 0, vI y2, vU, vU, vU] [] I3 K
    refine G_loadI rc_29_20 rfl ?_
    exact G_retI rc_29_21 (Or.inl rfl) h
/-! 30: RoundSlack$Reader.readOrders()I -/
def D30_65 (x1 : Int) (x2 : Int) (I : IM) (K : Option AV → IM → Prop) : Prop :=
  (if I 212 2 = -1 then (K (some (vI x1)) I) else ((inR ((-100) - (I 212 2))) ∧ K (some (vI ((-100) - (I 212 2)))) I))
set_option maxRecDepth 10000 in
theorem g30_65 (x1 : Int) (x2 : Int) (I : IM) (K : Option AV → IM → Prop) (h : D30_65 x1 x2 I K) : GO S0 30 65 [vR 212, vI x1, vI x2] [] I K := by
  unfold D30_65 at h
  refine G_loadR rc_30_65 rfl ?_
  refine G_getI rc_30_66 s0_212 (by decide) ?_
  show GO S0 30 69 [vR 212, vI x1, vI x2] [vI (I 212 2)] I K
  refine G_const rc_30_69 (by decide) ?_
  refine G_i2 (C := ¬ I 212 2 = -1) rc_30_70 rfl (fun c1 => ?_) (fun c1 => ?_)
  · rw [if_neg c1] at h
    show GO S0 30 77 [vR 212, vI x1, vI x2] [] I K
    refine G_const rc_30_77 (by decide) ?_
    refine G_loadR rc_30_79 rfl ?_
    refine G_getI rc_30_80 s0_212 (by decide) ?_
    show GO S0 30 83 [vR 212, vI x1, vI x2] [vI (I 212 2), vI (-100)] I K
    obtain ⟨c2, h⟩ := h
    refine G_bop (z := (-100) - (I 212 2)) rc_30_83 (if_pos c2) ?_
    show GO S0 30 84 [vR 212, vI x1, vI x2] [vI ((-100) - (I 212 2))] I K
    exact G_retI rc_30_84 (Or.inl rfl) h
  · rw [if_pos (Classical.not_not.mp c1)] at h
    show GO S0 30 73 [vR 212, vI x1, vI x2] [] I K
    refine G_loadI rc_30_73 rfl ?_
    refine G_goto rc_30_74 ?_
    show GO S0 30 84 [vR 212, vI x1, vI x2] [vI x1] I K
    exact G_retI rc_30_84 (Or.inl rfl) h
def D30_51 (x1 : Int) (x2 : Int) (t0 : Int) (I : IM) (K : Option AV → IM → Prop) : Prop :=
  (if t0 = 0 then (GO S0 30 8 [vR 212, vI x1, vI t0] [] I K) else (CALL S0 37 [vR 212, vI 59] I (fun v I2 => v = none ∧ GO S0 30 8 [vR 212, vI x1, vI t0] [] I2 K)))
set_option maxRecDepth 10000 in
theorem g30_51 (x1 : Int) (x2 : Int) (t0 : Int) (I : IM) (K : Option AV → IM → Prop) (h : D30_51 x1 x2 t0 I K) : GO S0 30 51 [vR 212, vI x1, vI x2] [vI t0] I K := by
  unfold D30_51 at h
  refine G_storeI rc_30_51 (Nat.le_of_ble_eq_true rfl) ?_
  show GO S0 30 52 [vR 212, vI x1, vI t0] [] I K
  refine G_loadI rc_30_52 rfl ?_
  refine G_i1 (C := t0 = 0) rc_30_53 rfl (fun c1 => ?_) (fun c1 => ?_)
  · rw [if_pos c1] at h
    show GO S0 30 8 [vR 212, vI x1, vI t0] [] I K
    exact h
  · rw [if_neg c1] at h
    show GO S0 30 56 [vR 212, vI x1, vI t0] [] I K
    refine G_loadR rc_30_56 rfl ?_
    refine G_const rc_30_57 (by decide) ?_
    refine G_call (as := [vR 212, vI 59]) (rest := []) rc_30_59 rfl rfl rfl (Nat.le_of_ble_eq_true rfl) (g_recv s0_212 rfl) ?_
    refine GO.imp h (fun v I2 h => ?_)
    obtain ⟨rfl, h⟩ := h
    show GO S0 30 62 [vR 212, vI x1, vI t0] [] I2 K
    refine G_goto rc_30_62 ?_
    show GO S0 30 8 [vR 212, vI x1, vI t0] [] I2 K
    exact h
def D30_50 (x1 : Int) (x2 : Int) (I : IM) (K : Option AV → IM → Prop) : Prop :=
  D30_51 x1 x2 0 I K
set_option maxRecDepth 10000 in
theorem g30_50 (x1 : Int) (x2 : Int) (I : IM) (K : Option AV → IM → Prop) (h : D30_50 x1 x2 I K) : GO S0 30 50 [vR 212, vI x1, vI x2] [] I K := by
  unfold D30_50 at h
  refine G_const rc_30_50 (by decide) ?_
  exact g30_51 x1 x2 0 I K h
def D30_8 (x1 : Int) (x2 : Int) (I : IM) (K : Option AV → IM → Prop) : Prop :=
  (if x2 = 0 then (D30_65 x1 x2 I K) else ((if (17 : Int) ≤ x1 then (D30_65 x1 x2 I K) else ((0 ≤ x1 ∧ x1 < 17) ∧ CALL S0 32 [vR 212, vR (214 + (x1).toNat)] I (fun v I4 => v = none ∧ (inR (x1 + 1)) ∧ (if I4 212 2 = -1 then (CALL S0 40 [vR 212] I4 (fun v I7 => ∃ y8 : Int, v = some (vI y8) ∧ (if y8 = 0 then (D30_51 (x1 + 1) x2 1 I7 K) else (D30_50 (x1 + 1) x2 I7 K)))) else (D30_50 (x1 + 1) x2 I4 K)))))))
set_option maxRecDepth 10000 in
theorem g30_8 (x1 : Int) (x2 : Int) (I : IM) (K : Option AV → IM → Prop) (h : D30_8 x1 x2 I K) : GO S0 30 8 [vR 212, vI x1, vI x2] [] I K := by
  unfold D30_8 at h
  refine G_loadI rc_30_8 rfl ?_
  refine G_i1 (C := x2 = 0) rc_30_9 rfl (fun c1 => ?_) (fun c1 => ?_)
  · rw [if_pos c1] at h
    show GO S0 30 65 [vR 212, vI x1, vI x2] [] I K
    exact g30_65 x1 x2 I K h
  · rw [if_neg c1] at h
    show GO S0 30 12 [vR 212, vI x1, vI x2] [] I K
    refine G_loadI rc_30_12 rfl ?_
    refine G_const rc_30_13 (by decide) ?_
    refine G_i2 (C := (17 : Int) ≤ x1) rc_30_15 rfl (fun c2 => ?_) (fun c2 => ?_)
    · rw [if_pos c2] at h
      show GO S0 30 65 [vR 212, vI x1, vI x2] [] I K
      exact g30_65 x1 x2 I K h
    · rw [if_neg c2] at h
      show GO S0 30 18 [vR 212, vI x1, vI x2] [] I K
      refine G_loadR rc_30_18 rfl ?_
      refine G_loadR rc_30_19 rfl ?_
      refine G_getR rc_30_20 s0_212 (by decide) rfl (by decide) ?_
      show GO S0 30 23 [vR 212, vI x1, vI x2] [vR 213, vR 212] I K
      refine G_loadI rc_30_23 rfl ?_
      obtain ⟨c3, h⟩ := h
      refine G_aldR rc_30_24 s0_213 (Or.inl rfl) (by omega) (by omega) (rw213 (i := (x1).toNat) (by omega)) (by omega) ?_
      show GO S0 30 25 [vR 212, vI x1, vI x2] [vR (214 + (x1).toNat), vR 212] I K
      refine G_call (as := [vR 212, vR (214 + (x1).toNat)]) (rest := []) rc_30_25 rfl rfl rfl (Nat.le_of_ble_eq_true rfl) (g_recv s0_212 rfl) ?_
      refine GO.imp h (fun v I4 h => ?_)
      obtain ⟨rfl, h⟩ := h
      show GO S0 30 28 [vR 212, vI x1, vI x2] [] I4 K
      obtain ⟨c5, h⟩ := h
      refine G_iinc rc_30_28 rfl c5 ?_
      show GO S0 30 31 [vR 212, vI (x1 + 1), vI x2] [] I4 K
      refine G_loadR rc_30_31 rfl ?_
      refine G_getI rc_30_32 s0_212 (by decide) ?_
      show GO S0 30 35 [vR 212, vI (x1 + 1), vI x2] [vI (I4 212 2)] I4 K
      refine G_const rc_30_35 (by decide) ?_
      refine G_i2 (C := ¬ I4 212 2 = -1) rc_30_36 rfl (fun c6 => ?_) (fun c6 => ?_)
      · rw [if_neg c6] at h
        show GO S0 30 50 [vR 212, vI (x1 + 1), vI x2] [] I4 K
        exact g30_50 (x1 + 1) x2 I4 K h
      · rw [if_pos (Classical.not_not.mp c6)] at h
        show GO S0 30 39 [vR 212, vI (x1 + 1), vI x2] [] I4 K
        refine G_loadR rc_30_39 rfl ?_
        refine G_call (as := [vR 212]) (rest := []) rc_30_40 rfl rfl rfl (Nat.le_of_ble_eq_true rfl) (g_recv s0_212 rfl) ?_
        refine GO.imp h (fun v I7 h => ?_)
        obtain ⟨y8, rfl, h⟩ := h
        show GO S0 30 43 [vR 212, vI (x1 + 1), vI x2] [vI y8] I7 K
        refine G_i1 (C := ¬ y8 = 0) rc_30_43 rfl (fun c9 => ?_) (fun c9 => ?_)
        · rw [if_neg c9] at h
          show GO S0 30 50 [vR 212, vI (x1 + 1), vI x2] [] I7 K
          exact g30_50 (x1 + 1) x2 I7 K h
        · rw [if_pos (Classical.not_not.mp c9)] at h
          show GO S0 30 46 [vR 212, vI (x1 + 1), vI x2] [] I7 K
          refine G_const rc_30_46 (by decide) ?_
          refine G_goto rc_30_47 ?_
          show GO S0 30 51 [vR 212, vI (x1 + 1), vI x2] [vI 1] I7 K
          exact g30_51 (x1 + 1) x2 1 I7 K h
def D30_0 (I : IM) (K : Option AV → IM → Prop) : Prop :=
  CALL S0 31 [vR 212] I (fun v I1 => v = none ∧ GO S0 30 8 [vR 212, vI 0, vI 1] [] I1 K)
set_option maxRecDepth 10000 in
theorem g30_0 (I : IM) (K : Option AV → IM → Prop) (h : D30_0 I K) : GO S0 30 0 [vR 212, vU, vU] [] I K := by
  unfold D30_0 at h
  refine G_loadR rc_30_0 rfl ?_
  refine G_call (as := [vR 212]) (rest := []) rc_30_1 rfl rfl rfl (Nat.le_of_ble_eq_true rfl) (g_recv s0_212 rfl) ?_
  refine GO.imp h (fun v I1 h => ?_)
  obtain ⟨rfl, h⟩ := h
  show GO S0 30 4 [vR 212, vU, vU] [] I1 K
  refine G_const rc_30_4 (by decide) ?_
  refine G_storeI rc_30_5 (Nat.le_of_ble_eq_true rfl) ?_
  show GO S0 30 6 [vR 212, vI 0, vU] [] I1 K
  refine G_const rc_30_6 (by decide) ?_
  refine G_storeI rc_30_7 (Nat.le_of_ble_eq_true rfl) ?_
  show GO S0 30 8 [vR 212, vI 0, vI 1] [] I1 K
  exact h
/-! 31: RoundSlack$Reader.begin()V -/
def D31_0 (I : IM) (K : Option AV → IM → Prop) : Prop :=
  ∀ I1 : IM, I1 = iup I 212 1 0 → ∀ I2 : IM, I2 = iup I1 212 2 (-1) → K none I2
set_option maxRecDepth 10000 in
theorem g31_0 (I : IM) (K : Option AV → IM → Prop) (h : D31_0 I K) : GO S0 31 0 [vR 212] [] I K := by
  unfold D31_0 at h
  refine G_loadR rc_31_0 rfl ?_
  refine G_const rc_31_1 (by decide) ?_
  refine G_putI rc_31_2 s0_212 (by decide) (Or.inl rfl) ?_
  show GO S0 31 5 [vR 212] [] (iup I 212 1 0) K
  have h := h _ rfl
  generalize iup I 212 1 0 = I1 at h ⊢
  refine G_loadR rc_31_5 rfl ?_
  refine G_const rc_31_6 (by decide) ?_
  refine G_putI rc_31_7 s0_212 (by decide) (Or.inl rfl) ?_
  show GO S0 31 10 [vR 212] [] (iup I1 212 2 (-1)) K
  have h := h _ rfl
  generalize iup I1 212 2 (-1) = I2 at h ⊢
  exact G_ret0 rc_31_10 h
/-! 32: RoundSlack$Reader.readOrder([I)V -/
def D32_0 (q1 : Nat) (I : IM) (K : Option AV → IM → Prop) : Prop :=
  (if (7 : Int) ≤ 7 then (CALL S0 33 [vR 212, vI 3, vI 0, vI 40] I (fun v I2 => ∃ y3 : Int, v = some (vI y3) ∧ ∀ I4 : IM, I4 = iup I2 q1 0 y3 → CALL S0 37 [vR 212, vI 44] I4 (fun v I5 => v = none ∧ CALL S0 33 [vR 212, vI 3, vI 0, vI 40] I5 (fun v I6 => ∃ y7 : Int, v = some (vI y7) ∧ ∀ I8 : IM, I8 = iup I6 q1 1 y7 → CALL S0 37 [vR 212, vI 64] I8 (fun v I9 => v = none ∧ CALL S0 33 [vR 212, vI 3, vI 0, vI 600] I9 (fun v I10 => ∃ y11 : Int, v = some (vI y11) ∧ ∀ I12 : IM, I12 = iup I10 q1 2 y11 → CALL S0 37 [vR 212, vI 45] I12 (fun v I13 => v = none ∧ CALL S0 33 [vR 212, vI 3, vI (I13 q1 2), vI 600] I13 (fun v I14 => ∃ y15 : Int, v = some (vI y15) ∧ ∀ I16 : IM, I16 = iup I14 q1 3 y15 → CALL S0 37 [vR 212, vI 47] I16 (fun v I17 => v = none ∧ CALL S0 33 [vR 212, vI 3, vI 0, vI 60] I17 (fun v I18 => ∃ y19 : Int, v = some (vI y19) ∧ ∀ I20 : IM, I20 = iup I18 q1 4 y19 → CALL S0 39 [vR 212, vI 100] I20 (fun v I21 => ∃ y22 : Int, v = some (vI y22) ∧ ∀ I23 : IM, I23 = iup I21 q1 5 y22 → CALL S0 39 [vR 212, vI 117] I23 (fun v I24 => ∃ y25 : Int, v = some (vI y25) ∧ ∀ I26 : IM, I26 = iup I24 q1 6 y25 → K none I26)))))))))))) else (K none I))
set_option maxRecDepth 10000 in
theorem g32_0 (q1 : Nat) (f1 : S0[q1]? = some (100, 7, [])) (I : IM) (K : Option AV → IM → Prop) (h : D32_0 q1 I K) : GO S0 32 0 [vR 212, vR q1] [] I K := by
  unfold D32_0 at h
  refine G_loadR rc_32_0 rfl ?_
  refine G_alen rc_32_1 f1 (by decide) (by decide) (by decide) ?_
  show GO S0 32 2 [vR 212, vR q1] [vI 7] I K
  refine G_const rc_32_2 (by decide) ?_
  refine G_i2 (C := (7 : Int) ≤ 7) rc_32_4 rfl (fun c1 => ?_) (fun c1 => ?_)
  · rw [if_pos c1] at h
    show GO S0 32 8 [vR 212, vR q1] [] I K
    refine G_loadR rc_32_8 rfl ?_
    refine G_const rc_32_9 (by decide) ?_
    refine G_loadR rc_32_10 rfl ?_
    refine G_const rc_32_11 (by decide) ?_
    refine G_const rc_32_12 (by decide) ?_
    refine G_const rc_32_13 (by decide) ?_
    refine G_call (as := [vR 212, vI 3, vI 0, vI 40]) (rest := [vI 0, vR q1]) rc_32_15 rfl rfl rfl (Nat.le_of_ble_eq_true rfl) (g_recv s0_212 rfl) ?_
    refine GO.imp h (fun v I2 h => ?_)
    obtain ⟨y3, rfl, h⟩ := h
    show GO S0 32 18 [vR 212, vR q1] [vI y3, vI 0, vR q1] I2 K
    refine G_ast rc_32_18 f1 (by decide) (by decide) (Or.inl rfl) ?_
    show GO S0 32 19 [vR 212, vR q1] [] (iup I2 q1 0 y3) K
    have h := h _ rfl
    generalize iup I2 q1 0 y3 = I4 at h ⊢
    refine G_loadR rc_32_19 rfl ?_
    refine G_const rc_32_20 (by decide) ?_
    refine G_call (as := [vR 212, vI 44]) (rest := []) rc_32_22 rfl rfl rfl (Nat.le_of_ble_eq_true rfl) (g_recv s0_212 rfl) ?_
    refine GO.imp h (fun v I5 h => ?_)
    obtain ⟨rfl, h⟩ := h
    show GO S0 32 25 [vR 212, vR q1] [] I5 K
    refine G_loadR rc_32_25 rfl ?_
    refine G_const rc_32_26 (by decide) ?_
    refine G_loadR rc_32_27 rfl ?_
    refine G_const rc_32_28 (by decide) ?_
    refine G_const rc_32_29 (by decide) ?_
    refine G_const rc_32_30 (by decide) ?_
    refine G_call (as := [vR 212, vI 3, vI 0, vI 40]) (rest := [vI 1, vR q1]) rc_32_32 rfl rfl rfl (Nat.le_of_ble_eq_true rfl) (g_recv s0_212 rfl) ?_
    refine GO.imp h (fun v I6 h => ?_)
    obtain ⟨y7, rfl, h⟩ := h
    show GO S0 32 35 [vR 212, vR q1] [vI y7, vI 1, vR q1] I6 K
    refine G_ast rc_32_35 f1 (by decide) (by decide) (Or.inl rfl) ?_
    show GO S0 32 36 [vR 212, vR q1] [] (iup I6 q1 1 y7) K
    have h := h _ rfl
    generalize iup I6 q1 1 y7 = I8 at h ⊢
    refine G_loadR rc_32_36 rfl ?_
    refine G_const rc_32_37 (by decide) ?_
    refine G_call (as := [vR 212, vI 64]) (rest := []) rc_32_39 rfl rfl rfl (Nat.le_of_ble_eq_true rfl) (g_recv s0_212 rfl) ?_
    refine GO.imp h (fun v I9 h => ?_)
    obtain ⟨rfl, h⟩ := h
    show GO S0 32 42 [vR 212, vR q1] [] I9 K
    refine G_loadR rc_32_42 rfl ?_
    refine G_const rc_32_43 (by decide) ?_
    refine G_loadR rc_32_44 rfl ?_
    refine G_const rc_32_45 (by decide) ?_
    refine G_const rc_32_46 (by decide) ?_
    refine G_const rc_32_47 (by decide) ?_
    refine G_call (as := [vR 212, vI 3, vI 0, vI 600]) (rest := [vI 2, vR q1]) rc_32_50 rfl rfl rfl (Nat.le_of_ble_eq_true rfl) (g_recv s0_212 rfl) ?_
    refine GO.imp h (fun v I10 h => ?_)
    obtain ⟨y11, rfl, h⟩ := h
    show GO S0 32 53 [vR 212, vR q1] [vI y11, vI 2, vR q1] I10 K
    refine G_ast rc_32_53 f1 (by decide) (by decide) (Or.inl rfl) ?_
    show GO S0 32 54 [vR 212, vR q1] [] (iup I10 q1 2 y11) K
    have h := h _ rfl
    generalize iup I10 q1 2 y11 = I12 at h ⊢
    refine G_loadR rc_32_54 rfl ?_
    refine G_const rc_32_55 (by decide) ?_
    refine G_call (as := [vR 212, vI 45]) (rest := []) rc_32_57 rfl rfl rfl (Nat.le_of_ble_eq_true rfl) (g_recv s0_212 rfl) ?_
    refine GO.imp h (fun v I13 h => ?_)
    obtain ⟨rfl, h⟩ := h
    show GO S0 32 60 [vR 212, vR q1] [] I13 K
    refine G_loadR rc_32_60 rfl ?_
    refine G_const rc_32_61 (by decide) ?_
    refine G_loadR rc_32_62 rfl ?_
    refine G_const rc_32_63 (by decide) ?_
    refine G_loadR rc_32_64 rfl ?_
    refine G_const rc_32_65 (by decide) ?_
    refine G_ald rc_32_66 f1 (by decide) (by decide) ?_
    show GO S0 32 67 [vR 212, vR q1] [vI (I13 q1 2), vI 3, vR 212, vI 3, vR q1] I13 K
    refine G_const rc_32_67 (by decide) ?_
    refine G_call (as := [vR 212, vI 3, vI (I13 q1 2), vI 600]) (rest := [vI 3, vR q1]) rc_32_70 rfl rfl rfl (Nat.le_of_ble_eq_true rfl) (g_recv s0_212 rfl) ?_
    refine GO.imp h (fun v I14 h => ?_)
    obtain ⟨y15, rfl, h⟩ := h
    show GO S0 32 73 [vR 212, vR q1] [vI y15, vI 3, vR q1] I14 K
    refine G_ast rc_32_73 f1 (by decide) (by decide) (Or.inl rfl) ?_
    show GO S0 32 74 [vR 212, vR q1] [] (iup I14 q1 3 y15) K
    have h := h _ rfl
    generalize iup I14 q1 3 y15 = I16 at h ⊢
    refine G_loadR rc_32_74 rfl ?_
    refine G_const rc_32_75 (by decide) ?_
    refine G_call (as := [vR 212, vI 47]) (rest := []) rc_32_77 rfl rfl rfl (Nat.le_of_ble_eq_true rfl) (g_recv s0_212 rfl) ?_
    refine GO.imp h (fun v I17 h => ?_)
    obtain ⟨rfl, h⟩ := h
    show GO S0 32 80 [vR 212, vR q1] [] I17 K
    refine G_loadR rc_32_80 rfl ?_
    refine G_const rc_32_81 (by decide) ?_
    refine G_loadR rc_32_82 rfl ?_
    refine G_const rc_32_83 (by decide) ?_
    refine G_const rc_32_84 (by decide) ?_
    refine G_const rc_32_85 (by decide) ?_
    refine G_call (as := [vR 212, vI 3, vI 0, vI 60]) (rest := [vI 4, vR q1]) rc_32_87 rfl rfl rfl (Nat.le_of_ble_eq_true rfl) (g_recv s0_212 rfl) ?_
    refine GO.imp h (fun v I18 h => ?_)
    obtain ⟨y19, rfl, h⟩ := h
    show GO S0 32 90 [vR 212, vR q1] [vI y19, vI 4, vR q1] I18 K
    refine G_ast rc_32_90 f1 (by decide) (by decide) (Or.inl rfl) ?_
    show GO S0 32 91 [vR 212, vR q1] [] (iup I18 q1 4 y19) K
    have h := h _ rfl
    generalize iup I18 q1 4 y19 = I20 at h ⊢
    refine G_loadR rc_32_91 rfl ?_
    refine G_const rc_32_92 (by decide) ?_
    refine G_loadR rc_32_93 rfl ?_
    refine G_const rc_32_94 (by decide) ?_
    refine G_call (as := [vR 212, vI 100]) (rest := [vI 5, vR q1]) rc_32_96 rfl rfl rfl (Nat.le_of_ble_eq_true rfl) (g_recv s0_212 rfl) ?_
    refine GO.imp h (fun v I21 h => ?_)
    obtain ⟨y22, rfl, h⟩ := h
    show GO S0 32 99 [vR 212, vR q1] [vI y22, vI 5, vR q1] I21 K
    refine G_ast rc_32_99 f1 (by decide) (by decide) (Or.inl rfl) ?_
    show GO S0 32 100 [vR 212, vR q1] [] (iup I21 q1 5 y22) K
    have h := h _ rfl
    generalize iup I21 q1 5 y22 = I23 at h ⊢
    refine G_loadR rc_32_100 rfl ?_
    refine G_const rc_32_101 (by decide) ?_
    refine G_loadR rc_32_103 rfl ?_
    refine G_const rc_32_104 (by decide) ?_
    refine G_call (as := [vR 212, vI 117]) (rest := [vI 6, vR q1]) rc_32_106 rfl rfl rfl (Nat.le_of_ble_eq_true rfl) (g_recv s0_212 rfl) ?_
    refine GO.imp h (fun v I24 h => ?_)
    obtain ⟨y25, rfl, h⟩ := h
    show GO S0 32 109 [vR 212, vR q1] [vI y25, vI 6, vR q1] I24 K
    refine G_ast rc_32_109 f1 (by decide) (by decide) (Or.inl rfl) ?_
    show GO S0 32 110 [vR 212, vR q1] [] (iup I24 q1 6 y25) K
    have h := h _ rfl
    generalize iup I24 q1 6 y25 = I26 at h ⊢
    exact G_ret0 rc_32_110 h
  · rw [if_neg c1] at h
    show GO S0 32 7 [vR 212, vR q1] [] I K
    exact G_ret0 rc_32_7 h
/-! 33: RoundSlack$Reader.number(III)I -/
def D33_102 (x1 : Int) (x2 : Int) (x3 : Int) (x4 : Int) (x5 : Int) (x6 : Int) (I : IM) (K : Option AV → IM → Prop) : Prop :=
  CALL S0 36 [vR 212, vI x4] I (fun v I1 => v = none ∧ K (some (vI x5)) I1)
set_option maxRecDepth 10000 in
theorem g33_102 (x1 : Int) (x2 : Int) (x3 : Int) (x4 : Int) (x5 : Int) (x6 : Int) (I : IM) (K : Option AV → IM → Prop) (h : D33_102 x1 x2 x3 x4 x5 x6 I K) : GO S0 33 102 [vR 212, vI x1, vI x2, vI x3, vI x4, vI x5, vI x6] [] I K := by
  unfold D33_102 at h
  refine G_loadR rc_33_102 rfl ?_
  refine G_loadI rc_33_103 rfl ?_
  refine G_call (as := [vR 212, vI x4]) (rest := []) rc_33_105 rfl rfl rfl (Nat.le_of_ble_eq_true rfl) (g_recv s0_212 rfl) ?_
  refine GO.imp h (fun v I1 h => ?_)
  obtain ⟨rfl, h⟩ := h
  show GO S0 33 108 [vR 212, vI x1, vI x2, vI x3, vI x4, vI x5, vI x6] [] I1 K
  refine G_loadI rc_33_108 rfl ?_
  exact G_retI rc_33_110 (Or.inl rfl) h
def D33_81 (x1 : Int) (x2 : Int) (x3 : Int) (x4 : Int) (x5 : Int) (x6 : Int) (I : IM) (K : Option AV → IM → Prop) : Prop :=
  (if I 212 1 = x4 then (D33_102 x1 x2 x3 x4 x5 x6 I K) else ((if x5 < x2 then (D33_102 x1 x2 x3 x4 x5 x6 I K) else ((if x5 ≤ x3 then (K (some (vI x5)) I) else (D33_102 x1 x2 x3 x4 x5 x6 I K))))))
set_option maxRecDepth 10000 in
theorem g33_81 (x1 : Int) (x2 : Int) (x3 : Int) (x4 : Int) (x5 : Int) (x6 : Int) (I : IM) (K : Option AV → IM → Prop) (h : D33_81 x1 x2 x3 x4 x5 x6 I K) : GO S0 33 81 [vR 212, vI x1, vI x2, vI x3, vI x4, vI x5, vI x6] [] I K := by
  unfold D33_81 at h
  refine G_loadR rc_33_81 rfl ?_
  refine G_getI rc_33_82 s0_212 (by decide) ?_
  show GO S0 33 85 [vR 212, vI x1, vI x2, vI x3, vI x4, vI x5, vI x6] [vI (I 212 1)] I K
  refine G_loadI rc_33_85 rfl ?_
  refine G_i2 (C := I 212 1 = x4) rc_33_87 rfl (fun c1 => ?_) (fun c1 => ?_)
  · rw [if_pos c1] at h
    show GO S0 33 102 [vR 212, vI x1, vI x2, vI x3, vI x4, vI x5, vI x6] [] I K
    exact g33_102 x1 x2 x3 x4 x5 x6 I K h
  · rw [if_neg c1] at h
    show GO S0 33 90 [vR 212, vI x1, vI x2, vI x3, vI x4, vI x5, vI x6] [] I K
    refine G_loadI rc_33_90 rfl ?_
    refine G_loadI rc_33_92 rfl ?_
    refine G_i2 (C := x5 < x2) rc_33_93 rfl (fun c2 => ?_) (fun c2 => ?_)
    · rw [if_pos c2] at h
      show GO S0 33 102 [vR 212, vI x1, vI x2, vI x3, vI x4, vI x5, vI x6] [] I K
      exact g33_102 x1 x2 x3 x4 x5 x6 I K h
    · rw [if_neg c2] at h
      show GO S0 33 96 [vR 212, vI x1, vI x2, vI x3, vI x4, vI x5, vI x6] [] I K
      refine G_loadI rc_33_96 rfl ?_
      refine G_loadI rc_33_98 rfl ?_
      refine G_i2 (C := x5 ≤ x3) rc_33_99 rfl (fun c3 => ?_) (fun c3 => ?_)
      · rw [if_pos c3] at h
        show GO S0 33 108 [vR 212, vI x1, vI x2, vI x3, vI x4, vI x5, vI x6] [] I K
        refine G_loadI rc_33_108 rfl ?_
        exact G_retI rc_33_110 (Or.inl rfl) h
      · rw [if_neg c3] at h
        show GO S0 33 102 [vR 212, vI x1, vI x2, vI x3, vI x4, vI x5, vI x6] [] I K
        exact g33_102 x1 x2 x3 x4 x5 x6 I K h
def D33_12 (x1 : Int) (x2 : Int) (x3 : Int) (x4 : Int) (x5 : Int) (x6 : Int) (I : IM) (K : Option AV → IM → Prop) : Prop :=
  (if x1 ≤ x6 then (D33_81 x1 x2 x3 x4 x5 x6 I K) else ((if I 212 2 = -1 then (CALL S0 34 [vR 208, vI (I 212 1)] I (fun v I3 => ∃ y4 : Int, v = some (vI y4) ∧ CALL S0 35 [vI y4] I3 (fun v I5 => ∃ y6 : Int, v = some (vI y6) ∧ (if y6 = 0 then (D33_81 x1 x2 x3 x4 x5 x6 I5 K) else ((inR (x5 * 10)) ∧ CALL S0 34 [vR 208, vI (I5 212 1)] I5 (fun v I9 => ∃ y10 : Int, v = some (vI y10) ∧ (inR ((x5 * 10) + y10)) ∧ (inR (((x5 * 10) + y10) - 48)) ∧ (inR ((I9 212 1) + 1)) ∧ ∀ I14 : IM, I14 = iup I9 212 1 ((I9 212 1) + 1) → (inR (x6 + 1)) ∧ GO S0 33 12 [vR 212, vI x1, vI x2, vI x3, vI x4, vI (((x5 * 10) + y10) - 48), vI (x6 + 1)] [] I14 K)))))) else (D33_81 x1 x2 x3 x4 x5 x6 I K))))
set_option maxRecDepth 10000 in
theorem g33_12 (x1 : Int) (x2 : Int) (x3 : Int) (x4 : Int) (x5 : Int) (x6 : Int) (I : IM) (K : Option AV → IM → Prop) (h : D33_12 x1 x2 x3 x4 x5 x6 I K) : GO S0 33 12 [vR 212, vI x1, vI x2, vI x3, vI x4, vI x5, vI x6] [] I K := by
  unfold D33_12 at h
  refine G_loadI rc_33_12 rfl ?_
  refine G_loadI rc_33_14 rfl ?_
  refine G_i2 (C := x1 ≤ x6) rc_33_15 rfl (fun c1 => ?_) (fun c1 => ?_)
  · rw [if_pos c1] at h
    show GO S0 33 81 [vR 212, vI x1, vI x2, vI x3, vI x4, vI x5, vI x6] [] I K
    exact g33_81 x1 x2 x3 x4 x5 x6 I K h
  · rw [if_neg c1] at h
    show GO S0 33 18 [vR 212, vI x1, vI x2, vI x3, vI x4, vI x5, vI x6] [] I K
    refine G_loadR rc_33_18 rfl ?_
    refine G_getI rc_33_19 s0_212 (by decide) ?_
    show GO S0 33 22 [vR 212, vI x1, vI x2, vI x3, vI x4, vI x5, vI x6] [vI (I 212 2)] I K
    refine G_const rc_33_22 (by decide) ?_
    refine G_i2 (C := ¬ I 212 2 = -1) rc_33_23 rfl (fun c2 => ?_) (fun c2 => ?_)
    · rw [if_neg c2] at h
      show GO S0 33 81 [vR 212, vI x1, vI x2, vI x3, vI x4, vI x5, vI x6] [] I K
      exact g33_81 x1 x2 x3 x4 x5 x6 I K h
    · rw [if_pos (Classical.not_not.mp c2)] at h
      show GO S0 33 26 [vR 212, vI x1, vI x2, vI x3, vI x4, vI x5, vI x6] [] I K
      refine G_loadR rc_33_26 rfl ?_
      refine G_getR rc_33_27 s0_212 (by decide) rfl (by decide) ?_
      show GO S0 33 30 [vR 212, vI x1, vI x2, vI x3, vI x4, vI x5, vI x6] [vR 208] I K
      refine G_loadR rc_33_30 rfl ?_
      refine G_getI rc_33_31 s0_212 (by decide) ?_
      show GO S0 33 34 [vR 212, vI x1, vI x2, vI x3, vI x4, vI x5, vI x6] [vI (I 212 1), vR 208] I K
      refine G_call (as := [vR 208, vI (I 212 1)]) (rest := []) rc_33_34 rfl rfl rfl (Nat.le_of_ble_eq_true rfl) (g_recv s0_208 rfl) ?_
      refine GO.imp h (fun v I3 h => ?_)
      obtain ⟨y4, rfl, h⟩ := h
      show GO S0 33 37 [vR 212, vI x1, vI x2, vI x3, vI x4, vI x5, vI x6] [vI y4] I3 K
      refine G_call (as := [vI y4]) (rest := []) rc_33_37 rfl rfl rfl (Nat.le_of_ble_eq_true rfl) rfl ?_
      refine GO.imp h (fun v I5 h => ?_)
      obtain ⟨y6, rfl, h⟩ := h
      show GO S0 33 40 [vR 212, vI x1, vI x2, vI x3, vI x4, vI x5, vI x6] [vI y6] I5 K
      refine G_i1 (C := y6 = 0) rc_33_40 rfl (fun c7 => ?_) (fun c7 => ?_)
      · rw [if_pos c7] at h
        show GO S0 33 81 [vR 212, vI x1, vI x2, vI x3, vI x4, vI x5, vI x6] [] I5 K
        exact g33_81 x1 x2 x3 x4 x5 x6 I5 K h
      · rw [if_neg c7] at h
        show GO S0 33 43 [vR 212, vI x1, vI x2, vI x3, vI x4, vI x5, vI x6] [] I5 K
        refine G_loadI rc_33_43 rfl ?_
        refine G_const rc_33_45 (by decide) ?_
        obtain ⟨c8, h⟩ := h
        refine G_bop (z := x5 * 10) rc_33_47 (if_pos c8) ?_
        show GO S0 33 48 [vR 212, vI x1, vI x2, vI x3, vI x4, vI x5, vI x6] [vI (x5 * 10)] I5 K
        refine G_loadR rc_33_48 rfl ?_
        refine G_getR rc_33_49 s0_212 (by decide) rfl (by decide) ?_
        show GO S0 33 52 [vR 212, vI x1, vI x2, vI x3, vI x4, vI x5, vI x6] [vR 208, vI (x5 * 10)] I5 K
        refine G_loadR rc_33_52 rfl ?_
        refine G_getI rc_33_53 s0_212 (by decide) ?_
        show GO S0 33 56 [vR 212, vI x1, vI x2, vI x3, vI x4, vI x5, vI x6] [vI (I5 212 1), vR 208, vI (x5 * 10)] I5 K
        refine G_call (as := [vR 208, vI (I5 212 1)]) (rest := [vI (x5 * 10)]) rc_33_56 rfl rfl rfl (Nat.le_of_ble_eq_true rfl) (g_recv s0_208 rfl) ?_
        refine GO.imp h (fun v I9 h => ?_)
        obtain ⟨y10, rfl, h⟩ := h
        show GO S0 33 59 [vR 212, vI x1, vI x2, vI x3, vI x4, vI x5, vI x6] [vI y10, vI (x5 * 10)] I9 K
        obtain ⟨c11, h⟩ := h
        refine G_bop (z := (x5 * 10) + y10) rc_33_59 (if_pos c11) ?_
        show GO S0 33 60 [vR 212, vI x1, vI x2, vI x3, vI x4, vI x5, vI x6] [vI ((x5 * 10) + y10)] I9 K
        refine G_const rc_33_60 (by decide) ?_
        obtain ⟨c12, h⟩ := h
        refine G_bop (z := ((x5 * 10) + y10) - 48) rc_33_62 (if_pos c12) ?_
        show GO S0 33 63 [vR 212, vI x1, vI x2, vI x3, vI x4, vI x5, vI x6] [vI (((x5 * 10) + y10) - 48)] I9 K
        refine G_storeI rc_33_63 (Nat.le_of_ble_eq_true rfl) ?_
        show GO S0 33 65 [vR 212, vI x1, vI x2, vI x3, vI x4, vI (((x5 * 10) + y10) - 48), vI x6] [] I9 K
        refine G_loadR rc_33_65 rfl ?_
        refine G_dupR rc_33_66 ?_
        refine G_getI rc_33_67 s0_212 (by decide) ?_
        show GO S0 33 70 [vR 212, vI x1, vI x2, vI x3, vI x4, vI (((x5 * 10) + y10) - 48), vI x6] [vI (I9 212 1), vR 212] I9 K
        refine G_const rc_33_70 (by decide) ?_
        obtain ⟨c13, h⟩ := h
        refine G_bop (z := (I9 212 1) + 1) rc_33_71 (if_pos c13) ?_
        show GO S0 33 72 [vR 212, vI x1, vI x2, vI x3, vI x4, vI (((x5 * 10) + y10) - 48), vI x6] [vI ((I9 212 1) + 1), vR 212] I9 K
        refine G_putI rc_33_72 s0_212 (by decide) (Or.inl rfl) ?_
        show GO S0 33 75 [vR 212, vI x1, vI x2, vI x3, vI x4, vI (((x5 * 10) + y10) - 48), vI x6] [] (iup I9 212 1 ((I9 212 1) + 1)) K
        have h := h _ rfl
        generalize iup I9 212 1 ((I9 212 1) + 1) = I14 at h ⊢
        obtain ⟨c15, h⟩ := h
        refine G_iinc rc_33_75 rfl c15 ?_
        show GO S0 33 78 [vR 212, vI x1, vI x2, vI x3, vI x4, vI (((x5 * 10) + y10) - 48), vI (x6 + 1)] [] I14 K
        refine G_goto rc_33_78 ?_
        show GO S0 33 12 [vR 212, vI x1, vI x2, vI x3, vI x4, vI (((x5 * 10) + y10) - 48), vI (x6 + 1)] [] I14 K
        exact h
def D33_0 (x1 : Int) (x2 : Int) (x3 : Int) (I : IM) (K : Option AV → IM → Prop) : Prop :=
  GO S0 33 12 [vR 212, vI x1, vI x2, vI x3, vI (I 212 1), vI 0, vI 0] [] I K
set_option maxRecDepth 10000 in
theorem g33_0 (x1 : Int) (x2 : Int) (x3 : Int) (I : IM) (K : Option AV → IM → Prop) (h : D33_0 x1 x2 x3 I K) : GO S0 33 0 [vR 212, vI x1, vI x2, vI x3, vU, vU, vU] [] I K := by
  unfold D33_0 at h
  refine G_loadR rc_33_0 rfl ?_
  refine G_getI rc_33_1 s0_212 (by decide) ?_
  show GO S0 33 4 [vR 212, vI x1, vI x2, vI x3, vU, vU, vU] [vI (I 212 1)] I K
  refine G_storeI rc_33_4 (Nat.le_of_ble_eq_true rfl) ?_
  show GO S0 33 6 [vR 212, vI x1, vI x2, vI x3, vI (I 212 1), vU, vU] [] I K
  refine G_const rc_33_6 (by decide) ?_
  refine G_storeI rc_33_7 (Nat.le_of_ble_eq_true rfl) ?_
  show GO S0 33 9 [vR 212, vI x1, vI x2, vI x3, vI (I 212 1), vI 0, vU] [] I K
  refine G_const rc_33_9 (by decide) ?_
  refine G_storeI rc_33_10 (Nat.le_of_ble_eq_true rfl) ?_
  show GO S0 33 12 [vR 212, vI x1, vI x2, vI x3, vI (I 212 1), vI 0, vI 0] [] I K
  exact h
/-! 34: RoundSlack$Text.at(I)I -/
def D34_0 (r0 : Nat) (x1 : Int) (I : IM) (K : Option AV → IM → Prop) : Prop :=
  (if x1 < 0 then (K (some (vI (-1))) I) else ((if I r0 1 ≤ x1 then (K (some (vI (-1))) I) else ((0 ≤ x1 ∧ x1 < txn r0) ∧ K (some (vI (I (r0 + 1) (x1).toNat))) I))))
set_option maxRecDepth 10000 in
theorem g34_0 (r0 : Nat) (h0 : isTx r0) (x1 : Int) (I : IM) (K : Option AV → IM → Prop) (h : D34_0 r0 x1 I K) : GO S0 34 0 [vR r0, vI x1] [] I K := by
  unfold D34_0 at h
  refine G_loadI rc_34_0 rfl ?_
  refine G_i1 (C := x1 < 0) rc_34_1 rfl (fun c1 => ?_) (fun c1 => ?_)
  · rw [if_pos c1] at h
    show GO S0 34 21 [vR r0, vI x1] [] I K
    refine G_const rc_34_21 (by decide) ?_
    exact G_retI rc_34_22 (Or.inl rfl) h
  · rw [if_neg c1] at h
    show GO S0 34 4 [vR r0, vI x1] [] I K
    refine G_loadI rc_34_4 rfl ?_
    refine G_loadR rc_34_5 rfl ?_
    refine G_getI rc_34_6 (tx_0 h0) (by decide) ?_
    show GO S0 34 9 [vR r0, vI x1] [vI (I r0 1), vI x1] I K
    refine G_i2 (C := I r0 1 ≤ x1) rc_34_9 rfl (fun c2 => ?_) (fun c2 => ?_)
    · rw [if_pos c2] at h
      show GO S0 34 21 [vR r0, vI x1] [] I K
      refine G_const rc_34_21 (by decide) ?_
      exact G_retI rc_34_22 (Or.inl rfl) h
    · rw [if_neg c2] at h
      show GO S0 34 12 [vR r0, vI x1] [] I K
      refine G_loadR rc_34_12 rfl ?_
      refine G_getR rc_34_13 (tx_0 h0) (by decide) rfl (by have := tx_lt h0; omega) ?_
      show GO S0 34 16 [vR r0, vI x1] [vR (r0 + 1)] I K
      refine G_loadI rc_34_16 rfl ?_
      obtain ⟨c3, h⟩ := h
      refine G_ald rc_34_17 (tx_1 h0) (by omega) (by omega) ?_
      show GO S0 34 18 [vR r0, vI x1] [vI (I (r0 + 1) (x1).toNat)] I K
      refine G_goto rc_34_18 ?_
      show GO S0 34 22 [vR r0, vI x1] [vI (I (r0 + 1) (x1).toNat)] I K
      exact G_retI rc_34_22 (Or.inl rfl) h
/-! 35: RoundSlack$Reader.isFigure(I)Z -/
def D35_0 (x0 : Int) (I : IM) (K : Option AV → IM → Prop) : Prop :=
  (if x0 < 48 then (K (some (vI 0)) I) else ((if (57 : Int) < x0 then (K (some (vI 0)) I) else (K (some (vI 1)) I))))
set_option maxRecDepth 10000 in
theorem g35_0 (x0 : Int) (I : IM) (K : Option AV → IM → Prop) (h : D35_0 x0 I K) : GO S0 35 0 [vI x0] [] I K := by
  unfold D35_0 at h
  refine G_loadI rc_35_0 rfl ?_
  refine G_const rc_35_1 (by decide) ?_
  refine G_i2 (C := x0 < 48) rc_35_3 rfl (fun c1 => ?_) (fun c1 => ?_)
  · rw [if_pos c1] at h
    show GO S0 35 16 [vI x0] [] I K
    refine G_const rc_35_16 (by decide) ?_
    exact G_retI rc_35_17 (Or.inr (by decide)) h
  · rw [if_neg c1] at h
    show GO S0 35 6 [vI x0] [] I K
    refine G_loadI rc_35_6 rfl ?_
    refine G_const rc_35_7 (by decide) ?_
    refine G_i2 (C := (57 : Int) < x0) rc_35_9 rfl (fun c2 => ?_) (fun c2 => ?_)
    · rw [if_pos c2] at h
      show GO S0 35 16 [vI x0] [] I K
      refine G_const rc_35_16 (by decide) ?_
      exact G_retI rc_35_17 (Or.inr (by decide)) h
    · rw [if_neg c2] at h
      show GO S0 35 12 [vI x0] [] I K
      refine G_const rc_35_12 (by decide) ?_
      refine G_goto rc_35_13 ?_
      show GO S0 35 17 [vI x0] [vI 1] I K
      exact G_retI rc_35_17 (Or.inr (by decide)) h
/-! 36: RoundSlack$Reader.failAt(I)V -/
def D36_0 (x1 : Int) (I : IM) (K : Option AV → IM → Prop) : Prop :=
  (if I 212 2 = -1 then (∀ I2 : IM, I2 = iup I 212 2 x1 → K none I2) else (K none I))
set_option maxRecDepth 10000 in
theorem g36_0 (x1 : Int) (I : IM) (K : Option AV → IM → Prop) (h : D36_0 x1 I K) : GO S0 36 0 [vR 212, vI x1] [] I K := by
  unfold D36_0 at h
  refine G_loadR rc_36_0 rfl ?_
  refine G_getI rc_36_1 s0_212 (by decide) ?_
  show GO S0 36 4 [vR 212, vI x1] [vI (I 212 2)] I K
  refine G_const rc_36_4 (by decide) ?_
  refine G_i2 (C := ¬ I 212 2 = -1) rc_36_5 rfl (fun c1 => ?_) (fun c1 => ?_)
  · rw [if_neg c1] at h
    show GO S0 36 13 [vR 212, vI x1] [] I K
    exact G_ret0 rc_36_13 h
  · rw [if_pos (Classical.not_not.mp c1)] at h
    show GO S0 36 8 [vR 212, vI x1] [] I K
    refine G_loadR rc_36_8 rfl ?_
    refine G_loadI rc_36_9 rfl ?_
    refine G_putI rc_36_10 s0_212 (by decide) (Or.inl rfl) ?_
    show GO S0 36 13 [vR 212, vI x1] [] (iup I 212 2 x1) K
    have h := h _ rfl
    generalize iup I 212 2 x1 = I2 at h ⊢
    exact G_ret0 rc_36_13 h
/-! 37: RoundSlack$Reader.pass(I)V -/
def D37_0 (x1 : Int) (I : IM) (K : Option AV → IM → Prop) : Prop :=
  CALL S0 38 [vR 212, vI x1] I (fun v I1 => ∃ y2 : Int, v = some (vI y2) ∧ (if y2 = 0 then (CALL S0 36 [vR 212, vI (I1 212 1)] I1 (fun v I4 => v = none ∧ K none I4)) else ((inR ((I1 212 1) + 1)) ∧ ∀ I6 : IM, I6 = iup I1 212 1 ((I1 212 1) + 1) → K none I6)))
set_option maxRecDepth 10000 in
theorem g37_0 (x1 : Int) (I : IM) (K : Option AV → IM → Prop) (h : D37_0 x1 I K) : GO S0 37 0 [vR 212, vI x1] [] I K := by
  unfold D37_0 at h
  refine G_loadR rc_37_0 rfl ?_
  refine G_loadI rc_37_1 rfl ?_
  refine G_call (as := [vR 212, vI x1]) (rest := []) rc_37_2 rfl rfl rfl (Nat.le_of_ble_eq_true rfl) (g_recv s0_212 rfl) ?_
  refine GO.imp h (fun v I1 h => ?_)
  obtain ⟨y2, rfl, h⟩ := h
  show GO S0 37 5 [vR 212, vI x1] [vI y2] I1 K
  refine G_i1 (C := y2 = 0) rc_37_5 rfl (fun c3 => ?_) (fun c3 => ?_)
  · rw [if_pos c3] at h
    show GO S0 37 21 [vR 212, vI x1] [] I1 K
    refine G_loadR rc_37_21 rfl ?_
    refine G_loadR rc_37_22 rfl ?_
    refine G_getI rc_37_23 s0_212 (by decide) ?_
    show GO S0 37 26 [vR 212, vI x1] [vI (I1 212 1), vR 212] I1 K
    refine G_call (as := [vR 212, vI (I1 212 1)]) (rest := []) rc_37_26 rfl rfl rfl (Nat.le_of_ble_eq_true rfl) (g_recv s0_212 rfl) ?_
    refine GO.imp h (fun v I4 h => ?_)
    obtain ⟨rfl, h⟩ := h
    show GO S0 37 29 [vR 212, vI x1] [] I4 K
    exact G_ret0 rc_37_29 h
  · rw [if_neg c3] at h
    show GO S0 37 8 [vR 212, vI x1] [] I1 K
    refine G_loadR rc_37_8 rfl ?_
    refine G_dupR rc_37_9 ?_
    refine G_getI rc_37_10 s0_212 (by decide) ?_
    show GO S0 37 13 [vR 212, vI x1] [vI (I1 212 1), vR 212] I1 K
    refine G_const rc_37_13 (by decide) ?_
    obtain ⟨c5, h⟩ := h
    refine G_bop (z := (I1 212 1) + 1) rc_37_14 (if_pos c5) ?_
    show GO S0 37 15 [vR 212, vI x1] [vI ((I1 212 1) + 1), vR 212] I1 K
    refine G_putI rc_37_15 s0_212 (by decide) (Or.inl rfl) ?_
    show GO S0 37 18 [vR 212, vI x1] [] (iup I1 212 1 ((I1 212 1) + 1)) K
    have h := h _ rfl
    generalize iup I1 212 1 ((I1 212 1) + 1) = I6 at h ⊢
    refine G_goto rc_37_18 ?_
    show GO S0 37 29 [vR 212, vI x1] [] I6 K
    exact G_ret0 rc_37_29 h
/-! 38: RoundSlack$Reader.sees(I)Z -/
def D38_0 (x1 : Int) (I : IM) (K : Option AV → IM → Prop) : Prop :=
  (if I 212 2 = -1 then (CALL S0 34 [vR 208, vI (I 212 1)] I (fun v I2 => ∃ y3 : Int, v = some (vI y3) ∧ (if y3 = x1 then (K (some (vI 1)) I2) else (K (some (vI 0)) I2)))) else (K (some (vI 0)) I))
set_option maxRecDepth 10000 in
theorem g38_0 (x1 : Int) (I : IM) (K : Option AV → IM → Prop) (h : D38_0 x1 I K) : GO S0 38 0 [vR 212, vI x1] [] I K := by
  unfold D38_0 at h
  refine G_loadR rc_38_0 rfl ?_
  refine G_getI rc_38_1 s0_212 (by decide) ?_
  show GO S0 38 4 [vR 212, vI x1] [vI (I 212 2)] I K
  refine G_const rc_38_4 (by decide) ?_
  refine G_i2 (C := ¬ I 212 2 = -1) rc_38_5 rfl (fun c1 => ?_) (fun c1 => ?_)
  · rw [if_neg c1] at h
    show GO S0 38 27 [vR 212, vI x1] [] I K
    refine G_const rc_38_27 (by decide) ?_
    exact G_retI rc_38_28 (Or.inr (by decide)) h
  · rw [if_pos (Classical.not_not.mp c1)] at h
    show GO S0 38 8 [vR 212, vI x1] [] I K
    refine G_loadR rc_38_8 rfl ?_
    refine G_getR rc_38_9 s0_212 (by decide) rfl (by decide) ?_
    show GO S0 38 12 [vR 212, vI x1] [vR 208] I K
    refine G_loadR rc_38_12 rfl ?_
    refine G_getI rc_38_13 s0_212 (by decide) ?_
    show GO S0 38 16 [vR 212, vI x1] [vI (I 212 1), vR 208] I K
    refine G_call (as := [vR 208, vI (I 212 1)]) (rest := []) rc_38_16 rfl rfl rfl (Nat.le_of_ble_eq_true rfl) (g_recv s0_208 rfl) ?_
    refine GO.imp h (fun v I2 h => ?_)
    obtain ⟨y3, rfl, h⟩ := h
    show GO S0 38 19 [vR 212, vI x1] [vI y3] I2 K
    refine G_loadI rc_38_19 rfl ?_
    refine G_i2 (C := ¬ y3 = x1) rc_38_20 rfl (fun c4 => ?_) (fun c4 => ?_)
    · rw [if_neg c4] at h
      show GO S0 38 27 [vR 212, vI x1] [] I2 K
      refine G_const rc_38_27 (by decide) ?_
      exact G_retI rc_38_28 (Or.inr (by decide)) h
    · rw [if_pos (Classical.not_not.mp c4)] at h
      show GO S0 38 23 [vR 212, vI x1] [] I2 K
      refine G_const rc_38_23 (by decide) ?_
      refine G_goto rc_38_24 ?_
      show GO S0 38 28 [vR 212, vI x1] [vI 1] I2 K
      exact G_retI rc_38_28 (Or.inr (by decide)) h
/-! 39: RoundSlack$Reader.readLoad(I)I -/
def D39_0 (x1 : Int) (I : IM) (K : Option AV → IM → Prop) : Prop :=
  CALL S0 38 [vR 212, vI x1] I (fun v I1 => ∃ y2 : Int, v = some (vI y2) ∧ (if y2 = 0 then (K (some (vI 0)) I1) else ((inR ((I1 212 1) + 1)) ∧ ∀ I5 : IM, I5 = iup I1 212 1 ((I1 212 1) + 1) → CALL S0 33 [vR 212, vI 3, vI 0, vI 50] I5 (fun v I6 => ∃ y7 : Int, v = some (vI y7) ∧ K (some (vI y7)) I6))))
set_option maxRecDepth 10000 in
theorem g39_0 (x1 : Int) (I : IM) (K : Option AV → IM → Prop) (h : D39_0 x1 I K) : GO S0 39 0 [vR 212, vI x1] [] I K := by
  unfold D39_0 at h
  refine G_loadR rc_39_0 rfl ?_
  refine G_loadI rc_39_1 rfl ?_
  refine G_call (as := [vR 212, vI x1]) (rest := []) rc_39_2 rfl rfl rfl (Nat.le_of_ble_eq_true rfl) (g_recv s0_212 rfl) ?_
  refine GO.imp h (fun v I1 h => ?_)
  obtain ⟨y2, rfl, h⟩ := h
  show GO S0 39 5 [vR 212, vI x1] [vI y2] I1 K
  refine G_i1 (C := ¬ y2 = 0) rc_39_5 rfl (fun c3 => ?_) (fun c3 => ?_)
  · rw [if_neg c3] at h
    show GO S0 39 10 [vR 212, vI x1] [] I1 K
    refine G_loadR rc_39_10 rfl ?_
    refine G_dupR rc_39_11 ?_
    refine G_getI rc_39_12 s0_212 (by decide) ?_
    show GO S0 39 15 [vR 212, vI x1] [vI (I1 212 1), vR 212] I1 K
    refine G_const rc_39_15 (by decide) ?_
    obtain ⟨c4, h⟩ := h
    refine G_bop (z := (I1 212 1) + 1) rc_39_16 (if_pos c4) ?_
    show GO S0 39 17 [vR 212, vI x1] [vI ((I1 212 1) + 1), vR 212] I1 K
    refine G_putI rc_39_17 s0_212 (by decide) (Or.inl rfl) ?_
    show GO S0 39 20 [vR 212, vI x1] [] (iup I1 212 1 ((I1 212 1) + 1)) K
    have h := h _ rfl
    generalize iup I1 212 1 ((I1 212 1) + 1) = I5 at h ⊢
    refine G_loadR rc_39_20 rfl ?_
    refine G_const rc_39_21 (by decide) ?_
    refine G_const rc_39_22 (by decide) ?_
    refine G_const rc_39_23 (by decide) ?_
    refine G_call (as := [vR 212, vI 3, vI 0, vI 50]) (rest := []) rc_39_25 rfl rfl rfl (Nat.le_of_ble_eq_true rfl) (g_recv s0_212 rfl) ?_
    refine GO.imp h (fun v I6 h => ?_)
    obtain ⟨y7, rfl, h⟩ := h
    show GO S0 39 28 [vR 212, vI x1] [vI y7] I6 K
    exact G_retI rc_39_28 (Or.inl rfl) h
  · rw [if_pos (Classical.not_not.mp c3)] at h
    show GO S0 39 8 [vR 212, vI x1] [] I1 K
    refine G_const rc_39_8 (by decide) ?_
    exact G_retI rc_39_9 (Or.inl rfl) h
/-! 40: RoundSlack$Reader.isAtEnd()Z -/
def D40_0 (I : IM) (K : Option AV → IM → Prop) : Prop :=
  (if I 212 1 < I 208 1 then (K (some (vI 0)) I) else (K (some (vI 1)) I))
set_option maxRecDepth 10000 in
theorem g40_0 (I : IM) (K : Option AV → IM → Prop) (h : D40_0 I K) : GO S0 40 0 [vR 212] [] I K := by
  unfold D40_0 at h
  refine G_loadR rc_40_0 rfl ?_
  refine G_getI rc_40_1 s0_212 (by decide) ?_
  show GO S0 40 4 [vR 212] [vI (I 212 1)] I K
  refine G_loadR rc_40_4 rfl ?_
  refine G_getR rc_40_5 s0_212 (by decide) rfl (by decide) ?_
  show GO S0 40 8 [vR 212] [vR 208, vI (I 212 1)] I K
  refine G_getI rc_40_8 s0_208 (by decide) ?_
  show GO S0 40 11 [vR 212] [vI (I 208 1), vI (I 212 1)] I K
  refine G_i2 (C := I 212 1 < I 208 1) rc_40_11 rfl (fun c1 => ?_) (fun c1 => ?_)
  · rw [if_pos c1] at h
    show GO S0 40 18 [vR 212] [] I K
    refine G_const rc_40_18 (by decide) ?_
    exact G_retI rc_40_19 (Or.inr (by decide)) h
  · rw [if_neg c1] at h
    show GO S0 40 14 [vR 212] [] I K
    refine G_const rc_40_14 (by decide) ?_
    refine G_goto rc_40_15 ?_
    show GO S0 40 19 [vR 212] [vI 1] I K
    exact G_retI rc_40_19 (Or.inr (by decide)) h
/-! 41: RoundSlack.plan()I -/
def D41_0 (I : IM) (K : Option AV → IM → Prop) : Prop :=
  CALL S0 42 [vR 212, vR 71, vI (I 1 0)] I (fun v I1 => ∃ y2 : Int, v = some (vI y2) ∧ ∀ I3 : IM, I3 = iup I1 208 1 0 → (if (0 : Int) ≤ y2 then (CALL S0 46 [vR 193, vR 71] I3 (fun v I5 => ∃ y6 : Int, v = some (vI y6) ∧ (if y6 = -1 then (K (some (vI (-7))) I5) else (CALL S0 53 [vR 29, vR 71] I5 (fun v I8 => v = none ∧ CALL S0 17 [vR 78] I8 (fun v I9 => v = none ∧ K (some (vI y2)) I9)))))) else (K (some (vI y2)) I3)))
set_option maxRecDepth 10000 in
theorem g41_0 (I : IM) (K : Option AV → IM → Prop) (h : D41_0 I K) : GO S0 41 0 [vR 0, vU] [] I K := by
  unfold D41_0 at h
  refine G_loadR rc_41_0 rfl ?_
  refine G_getR rc_41_1 s0_0 (by decide) rfl (by decide) ?_
  show GO S0 41 4 [vR 0, vU] [vR 212] I K
  refine G_loadR rc_41_4 rfl ?_
  refine G_getR rc_41_5 s0_0 (by decide) rfl (by decide) ?_
  show GO S0 41 8 [vR 0, vU] [vR 71, vR 212] I K
  refine G_loadR rc_41_8 rfl ?_
  refine G_getR rc_41_9 s0_0 (by decide) rfl (by decide) ?_
  show GO S0 41 12 [vR 0, vU] [vR 1, vR 71, vR 212] I K
  refine G_getI rc_41_12 s0_1 (by decide) ?_
  show GO S0 41 15 [vR 0, vU] [vI (I 1 0), vR 71, vR 212] I K
  refine G_call (as := [vR 212, vR 71, vI (I 1 0)]) (rest := []) rc_41_15 rfl rfl rfl (Nat.le_of_ble_eq_true rfl) (g_recv s0_212 rfl) ?_
  refine GO.imp h (fun v I1 h => ?_)
  obtain ⟨y2, rfl, h⟩ := h
  show GO S0 41 18 [vR 0, vU] [vI y2] I1 K
  refine G_storeI rc_41_18 (Nat.le_of_ble_eq_true rfl) ?_
  show GO S0 41 19 [vR 0, vI y2] [] I1 K
  refine G_loadR rc_41_19 rfl ?_
  refine G_getR rc_41_20 s0_0 (by decide) rfl (by decide) ?_
  show GO S0 41 23 [vR 0, vI y2] [vR 208] I1 K
  refine G_const rc_41_23 (by decide) ?_
  refine G_putI rc_41_24 s0_208 (by decide) (Or.inl rfl) ?_
  show GO S0 41 27 [vR 0, vI y2] [] (iup I1 208 1 0) K
  have h := h _ rfl
  generalize iup I1 208 1 0 = I3 at h ⊢
  refine G_loadI rc_41_27 rfl ?_
  refine G_i1 (C := (0 : Int) ≤ y2) rc_41_28 rfl (fun c4 => ?_) (fun c4 => ?_)
  · rw [if_pos c4] at h
    show GO S0 41 33 [vR 0, vI y2] [] I3 K
    refine G_loadR rc_41_33 rfl ?_
    refine G_getR rc_41_34 s0_0 (by decide) rfl (by decide) ?_
    show GO S0 41 37 [vR 0, vI y2] [vR 193] I3 K
    refine G_loadR rc_41_37 rfl ?_
    refine G_getR rc_41_38 s0_0 (by decide) rfl (by decide) ?_
    show GO S0 41 41 [vR 0, vI y2] [vR 71, vR 193] I3 K
    refine G_call (as := [vR 193, vR 71]) (rest := []) rc_41_41 rfl rfl rfl (Nat.le_of_ble_eq_true rfl) (g_recv s0_193 rfl) ?_
    refine GO.imp h (fun v I5 h => ?_)
    obtain ⟨y6, rfl, h⟩ := h
    show GO S0 41 44 [vR 0, vI y2] [vI y6] I5 K
    refine G_const rc_41_44 (by decide) ?_
    refine G_i2 (C := ¬ y6 = -1) rc_41_45 rfl (fun c7 => ?_) (fun c7 => ?_)
    · rw [if_neg c7] at h
      show GO S0 41 51 [vR 0, vI y2] [] I5 K
      refine G_loadR rc_41_51 rfl ?_
      refine G_getR rc_41_52 s0_0 (by decide) rfl (by decide) ?_
      show GO S0 41 55 [vR 0, vI y2] [vR 29] I5 K
      refine G_loadR rc_41_55 rfl ?_
      refine G_getR rc_41_56 s0_0 (by decide) rfl (by decide) ?_
      show GO S0 41 59 [vR 0, vI y2] [vR 71, vR 29] I5 K
      refine G_call (as := [vR 29, vR 71]) (rest := []) rc_41_59 rfl rfl rfl (Nat.le_of_ble_eq_true rfl) (g_recv s0_29 rfl) ?_
      refine GO.imp h (fun v I8 h => ?_)
      obtain ⟨rfl, h⟩ := h
      show GO S0 41 62 [vR 0, vI y2] [] I8 K
      refine G_loadR rc_41_62 rfl ?_
      refine G_getR rc_41_63 s0_0 (by decide) rfl (by decide) ?_
      show GO S0 41 66 [vR 0, vI y2] [vR 78] I8 K
      refine G_call (as := [vR 78]) (rest := []) rc_41_66 rfl rfl rfl (Nat.le_of_ble_eq_true rfl) (g_recv s0_78 rfl) ?_
      refine GO.imp h (fun v I9 h => ?_)
      obtain ⟨rfl, h⟩ := h
      show GO S0 41 69 [vR 0, vI y2] [] I9 K
      refine G_loadI rc_41_69 rfl ?_
      exact G_retI rc_41_70 (Or.inl rfl) h
    · rw [if_pos (Classical.not_not.mp c7)] at h
      show GO S0 41 48 [vR 0, vI y2] [] I5 K
      refine G_const rc_41_48 (by decide) ?_
      exact G_retI rc_41_50 (Or.inl rfl) h
  · rw [if_neg c4] at h
    show GO S0 41 31 [vR 0, vI y2] [] I3 K
    refine G_loadI rc_41_31 rfl ?_
    exact G_retI rc_41_32 (Or.inl rfl) h
/-! 42: RoundSlack$Reader.readPlan(LRoundSlack$Rounds;I)I -/
def D42_89 (r1 : Nat) (x2 : Int) (x3 : Int) (x4 : Int) (x5 : Int) (I : IM) (K : Option AV → IM → Prop) : Prop :=
  (if I 212 2 = -1 then (CALL S0 15 [vR r1] I (fun v I3 => ∃ y4 : Int, v = some (vI y4) ∧ K (some (vI y4)) I3)) else ((inR ((-100) - (I 212 2))) ∧ K (some (vI ((-100) - (I 212 2)))) I))
set_option maxRecDepth 10000 in
theorem g42_89 (r1 : Nat) (h1 : isRd r1) (x2 : Int) (x3 : Int) (x4 : Int) (x5 : Int) (I : IM) (K : Option AV → IM → Prop) (h : D42_89 r1 x2 x3 x4 x5 I K) : GO S0 42 89 [vR 212, vR r1, vI x2, vI x3, vI x4, vI x5] [] I K := by
  unfold D42_89 at h
  refine G_loadR rc_42_89 rfl ?_
  refine G_getI rc_42_90 s0_212 (by decide) ?_
  show GO S0 42 93 [vR 212, vR r1, vI x2, vI x3, vI x4, vI x5] [vI (I 212 2)] I K
  refine G_const rc_42_93 (by decide) ?_
  refine G_i2 (C := ¬ I 212 2 = -1) rc_42_94 rfl (fun c1 => ?_) (fun c1 => ?_)
  · rw [if_neg c1] at h
    show GO S0 42 104 [vR 212, vR r1, vI x2, vI x3, vI x4, vI x5] [] I K
    refine G_const rc_42_104 (by decide) ?_
    refine G_loadR rc_42_106 rfl ?_
    refine G_getI rc_42_107 s0_212 (by decide) ?_
    show GO S0 42 110 [vR 212, vR r1, vI x2, vI x3, vI x4, vI x5] [vI (I 212 2), vI (-100)] I K
    obtain ⟨c2, h⟩ := h
    refine G_bop (z := (-100) - (I 212 2)) rc_42_110 (if_pos c2) ?_
    show GO S0 42 111 [vR 212, vR r1, vI x2, vI x3, vI x4, vI x5] [vI ((-100) - (I 212 2))] I K
    exact G_retI rc_42_111 (Or.inl rfl) h
  · rw [if_pos (Classical.not_not.mp c1)] at h
    show GO S0 42 97 [vR 212, vR r1, vI x2, vI x3, vI x4, vI x5] [] I K
    refine G_loadR rc_42_97 rfl ?_
    refine G_call (as := [vR r1]) (rest := []) rc_42_98 rfl rfl rfl (Nat.le_of_ble_eq_true rfl) (g_recv (rd_0 h1) rfl) ?_
    refine GO.imp h (fun v I3 h => ?_)
    obtain ⟨y4, rfl, h⟩ := h
    show GO S0 42 101 [vR 212, vR r1, vI x2, vI x3, vI x4, vI x5] [vI y4] I3 K
    refine G_goto rc_42_101 ?_
    show GO S0 42 111 [vR 212, vR r1, vI x2, vI x3, vI x4, vI x5] [vI y4] I3 K
    exact G_retI rc_42_111 (Or.inl rfl) h
def D42_70 (r1 : Nat) (x2 : Int) (x3 : Int) (x4 : Int) (x5 : Int) (t0 : Int) (I : IM) (K : Option AV → IM → Prop) : Prop :=
  (if t0 = 0 then ((inR (x5 + 1)) ∧ GO S0 42 16 [vR 212, vR r1, vI x2, vI x3, vI t0, vI (x5 + 1)] [] I K) else (CALL S0 37 [vR 212, vI 59] I (fun v I3 => v = none ∧ (inR (x5 + 1)) ∧ GO S0 42 16 [vR 212, vR r1, vI x2, vI x3, vI t0, vI (x5 + 1)] [] I3 K)))
set_option maxRecDepth 10000 in
theorem g42_70 (r1 : Nat) (h1 : isRd r1) (x2 : Int) (x3 : Int) (x4 : Int) (x5 : Int) (t0 : Int) (I : IM) (K : Option AV → IM → Prop) (h : D42_70 r1 x2 x3 x4 x5 t0 I K) : GO S0 42 70 [vR 212, vR r1, vI x2, vI x3, vI x4, vI x5] [vI t0] I K := by
  unfold D42_70 at h
  refine G_storeI rc_42_70 (Nat.le_of_ble_eq_true rfl) ?_
  show GO S0 42 72 [vR 212, vR r1, vI x2, vI x3, vI t0, vI x5] [] I K
  refine G_loadI rc_42_72 rfl ?_
  refine G_i1 (C := t0 = 0) rc_42_74 rfl (fun c1 => ?_) (fun c1 => ?_)
  · rw [if_pos c1] at h
    show GO S0 42 83 [vR 212, vR r1, vI x2, vI x3, vI t0, vI x5] [] I K
    obtain ⟨c2, h⟩ := h
    refine G_iinc rc_42_83 rfl c2 ?_
    show GO S0 42 86 [vR 212, vR r1, vI x2, vI x3, vI t0, vI (x5 + 1)] [] I K
    refine G_goto rc_42_86 ?_
    show GO S0 42 16 [vR 212, vR r1, vI x2, vI x3, vI t0, vI (x5 + 1)] [] I K
    exact h
  · rw [if_neg c1] at h
    show GO S0 42 77 [vR 212, vR r1, vI x2, vI x3, vI t0, vI x5] [] I K
    refine G_loadR rc_42_77 rfl ?_
    refine G_const rc_42_78 (by decide) ?_
    refine G_call (as := [vR 212, vI 59]) (rest := []) rc_42_80 rfl rfl rfl (Nat.le_of_ble_eq_true rfl) (g_recv s0_212 rfl) ?_
    refine GO.imp h (fun v I3 h => ?_)
    obtain ⟨rfl, h⟩ := h
    show GO S0 42 83 [vR 212, vR r1, vI x2, vI x3, vI t0, vI x5] [] I3 K
    obtain ⟨c4, h⟩ := h
    refine G_iinc rc_42_83 rfl c4 ?_
    show GO S0 42 86 [vR 212, vR r1, vI x2, vI x3, vI t0, vI (x5 + 1)] [] I3 K
    refine G_goto rc_42_86 ?_
    show GO S0 42 16 [vR 212, vR r1, vI x2, vI x3, vI t0, vI (x5 + 1)] [] I3 K
    exact h
def D42_69 (r1 : Nat) (x2 : Int) (x3 : Int) (x4 : Int) (x5 : Int) (I : IM) (K : Option AV → IM → Prop) : Prop :=
  D42_70 r1 x2 x3 x4 x5 0 I K
set_option maxRecDepth 10000 in
theorem g42_69 (r1 : Nat) (h1 : isRd r1) (x2 : Int) (x3 : Int) (x4 : Int) (x5 : Int) (I : IM) (K : Option AV → IM → Prop) (h : D42_69 r1 x2 x3 x4 x5 I K) : GO S0 42 69 [vR 212, vR r1, vI x2, vI x3, vI x4, vI x5] [] I K := by
  unfold D42_69 at h
  refine G_const rc_42_69 (by decide) ?_
  exact g42_70 r1 h1 x2 x3 x4 x5 0 I K h
def D42_16 (r1 : Nat) (x2 : Int) (x3 : Int) (x4 : Int) (x5 : Int) (I : IM) (K : Option AV → IM → Prop) : Prop :=
  (if (4 : Int) < x5 then (D42_89 r1 x2 x3 x4 x5 I K) else ((if x4 = 0 then (D42_89 r1 x2 x3 x4 x5 I K) else ((inR (x3 + 1)) ∧ CALL S0 33 [vR 212, vI 1, vI (x3 + 1), vI 3] I (fun v I4 => ∃ y5 : Int, v = some (vI y5) ∧ CALL S0 37 [vR 212, vI 58] I4 (fun v I6 => v = none ∧ CALL S0 44 [vR 212, vR r1, vI y5, vI x2] I6 (fun v I7 => v = none ∧ (if I7 212 2 = -1 then (CALL S0 40 [vR 212] I7 (fun v I9 => ∃ y10 : Int, v = some (vI y10) ∧ (if y10 = 0 then (D42_70 r1 x2 y5 x4 x5 1 I9 K) else (D42_69 r1 x2 y5 x4 x5 I9 K)))) else (D42_69 r1 x2 y5 x4 x5 I7 K)))))))))
set_option maxRecDepth 10000 in
theorem g42_16 (r1 : Nat) (h1 : isRd r1) (x2 : Int) (x3 : Int) (x4 : Int) (x5 : Int) (I : IM) (K : Option AV → IM → Prop) (h : D42_16 r1 x2 x3 x4 x5 I K) : GO S0 42 16 [vR 212, vR r1, vI x2, vI x3, vI x4, vI x5] [] I K := by
  unfold D42_16 at h
  refine G_loadI rc_42_16 rfl ?_
  refine G_const rc_42_18 (by decide) ?_
  refine G_i2 (C := (4 : Int) < x5) rc_42_19 rfl (fun c1 => ?_) (fun c1 => ?_)
  · rw [if_pos c1] at h
    show GO S0 42 89 [vR 212, vR r1, vI x2, vI x3, vI x4, vI x5] [] I K
    exact g42_89 r1 h1 x2 x3 x4 x5 I K h
  · rw [if_neg c1] at h
    show GO S0 42 22 [vR 212, vR r1, vI x2, vI x3, vI x4, vI x5] [] I K
    refine G_loadI rc_42_22 rfl ?_
    refine G_i1 (C := x4 = 0) rc_42_24 rfl (fun c2 => ?_) (fun c2 => ?_)
    · rw [if_pos c2] at h
      show GO S0 42 89 [vR 212, vR r1, vI x2, vI x3, vI x4, vI x5] [] I K
      exact g42_89 r1 h1 x2 x3 x4 x5 I K h
    · rw [if_neg c2] at h
      show GO S0 42 27 [vR 212, vR r1, vI x2, vI x3, vI x4, vI x5] [] I K
      refine G_loadR rc_42_27 rfl ?_
      refine G_const rc_42_28 (by decide) ?_
      refine G_loadI rc_42_29 rfl ?_
      refine G_const rc_42_30 (by decide) ?_
      obtain ⟨c3, h⟩ := h
      refine G_bop (z := x3 + 1) rc_42_31 (if_pos c3) ?_
      show GO S0 42 32 [vR 212, vR r1, vI x2, vI x3, vI x4, vI x5] [vI (x3 + 1), vI 1, vR 212] I K
      refine G_const rc_42_32 (by decide) ?_
      refine G_call (as := [vR 212, vI 1, vI (x3 + 1), vI 3]) (rest := []) rc_42_33 rfl rfl rfl (Nat.le_of_ble_eq_true rfl) (g_recv s0_212 rfl) ?_
      refine GO.imp h (fun v I4 h => ?_)
      obtain ⟨y5, rfl, h⟩ := h
      show GO S0 42 36 [vR 212, vR r1, vI x2, vI x3, vI x4, vI x5] [vI y5] I4 K
      refine G_storeI rc_42_36 (Nat.le_of_ble_eq_true rfl) ?_
      show GO S0 42 37 [vR 212, vR r1, vI x2, vI y5, vI x4, vI x5] [] I4 K
      refine G_loadR rc_42_37 rfl ?_
      refine G_const rc_42_38 (by decide) ?_
      refine G_call (as := [vR 212, vI 58]) (rest := []) rc_42_40 rfl rfl rfl (Nat.le_of_ble_eq_true rfl) (g_recv s0_212 rfl) ?_
      refine GO.imp h (fun v I6 h => ?_)
      obtain ⟨rfl, h⟩ := h
      show GO S0 42 43 [vR 212, vR r1, vI x2, vI y5, vI x4, vI x5] [] I6 K
      refine G_loadR rc_42_43 rfl ?_
      refine G_loadR rc_42_44 rfl ?_
      refine G_loadI rc_42_45 rfl ?_
      refine G_loadI rc_42_46 rfl ?_
      refine G_call (as := [vR 212, vR r1, vI y5, vI x2]) (rest := []) rc_42_47 rfl rfl rfl (Nat.le_of_ble_eq_true rfl) (g_recv s0_212 rfl) ?_
      refine GO.imp h (fun v I7 h => ?_)
      obtain ⟨rfl, h⟩ := h
      show GO S0 42 50 [vR 212, vR r1, vI x2, vI y5, vI x4, vI x5] [] I7 K
      refine G_loadR rc_42_50 rfl ?_
      refine G_getI rc_42_51 s0_212 (by decide) ?_
      show GO S0 42 54 [vR 212, vR r1, vI x2, vI y5, vI x4, vI x5] [vI (I7 212 2)] I7 K
      refine G_const rc_42_54 (by decide) ?_
      refine G_i2 (C := ¬ I7 212 2 = -1) rc_42_55 rfl (fun c8 => ?_) (fun c8 => ?_)
      · rw [if_neg c8] at h
        show GO S0 42 69 [vR 212, vR r1, vI x2, vI y5, vI x4, vI x5] [] I7 K
        exact g42_69 r1 h1 x2 y5 x4 x5 I7 K h
      · rw [if_pos (Classical.not_not.mp c8)] at h
        show GO S0 42 58 [vR 212, vR r1, vI x2, vI y5, vI x4, vI x5] [] I7 K
        refine G_loadR rc_42_58 rfl ?_
        refine G_call (as := [vR 212]) (rest := []) rc_42_59 rfl rfl rfl (Nat.le_of_ble_eq_true rfl) (g_recv s0_212 rfl) ?_
        refine GO.imp h (fun v I9 h => ?_)
        obtain ⟨y10, rfl, h⟩ := h
        show GO S0 42 62 [vR 212, vR r1, vI x2, vI y5, vI x4, vI x5] [vI y10] I9 K
        refine G_i1 (C := ¬ y10 = 0) rc_42_62 rfl (fun c11 => ?_) (fun c11 => ?_)
        · rw [if_neg c11] at h
          show GO S0 42 69 [vR 212, vR r1, vI x2, vI y5, vI x4, vI x5] [] I9 K
          exact g42_69 r1 h1 x2 y5 x4 x5 I9 K h
        · rw [if_pos (Classical.not_not.mp c11)] at h
          show GO S0 42 65 [vR 212, vR r1, vI x2, vI y5, vI x4, vI x5] [] I9 K
          refine G_const rc_42_65 (by decide) ?_
          refine G_goto rc_42_66 ?_
          show GO S0 42 70 [vR 212, vR r1, vI x2, vI y5, vI x4, vI x5] [vI 1] I9 K
          exact g42_70 r1 h1 x2 y5 x4 x5 1 I9 K h
def D42_0 (r1 : Nat) (x2 : Int) (I : IM) (K : Option AV → IM → Prop) : Prop :=
  CALL S0 31 [vR 212] I (fun v I1 => v = none ∧ CALL S0 43 [vR r1] I1 (fun v I2 => v = none ∧ GO S0 42 16 [vR 212, vR r1, vI x2, vI (-1), vI 1, vI 0] [] I2 K))
set_option maxRecDepth 10000 in
theorem g42_0 (r1 : Nat) (h1 : isRd r1) (x2 : Int) (I : IM) (K : Option AV → IM → Prop) (h : D42_0 r1 x2 I K) : GO S0 42 0 [vR 212, vR r1, vI x2, vU, vU, vU] [] I K := by
  unfold D42_0 at h
  refine G_loadR rc_42_0 rfl ?_
  refine G_call (as := [vR 212]) (rest := []) rc_42_1 rfl rfl rfl (Nat.le_of_ble_eq_true rfl) (g_recv s0_212 rfl) ?_
  refine GO.imp h (fun v I1 h => ?_)
  obtain ⟨rfl, h⟩ := h
  show GO S0 42 4 [vR 212, vR r1, vI x2, vU, vU, vU] [] I1 K
  refine G_loadR rc_42_4 rfl ?_
  refine G_call (as := [vR r1]) (rest := []) rc_42_5 rfl rfl rfl (Nat.le_of_ble_eq_true rfl) (g_recv (rd_0 h1) rfl) ?_
  refine GO.imp h (fun v I2 h => ?_)
  obtain ⟨rfl, h⟩ := h
  show GO S0 42 8 [vR 212, vR r1, vI x2, vU, vU, vU] [] I2 K
  refine G_const rc_42_8 (by decide) ?_
  refine G_storeI rc_42_9 (Nat.le_of_ble_eq_true rfl) ?_
  show GO S0 42 10 [vR 212, vR r1, vI x2, vI (-1), vU, vU] [] I2 K
  refine G_const rc_42_10 (by decide) ?_
  refine G_storeI rc_42_11 (Nat.le_of_ble_eq_true rfl) ?_
  show GO S0 42 13 [vR 212, vR r1, vI x2, vI (-1), vI 1, vU] [] I2 K
  refine G_const rc_42_13 (by decide) ?_
  refine G_storeI rc_42_14 (Nat.le_of_ble_eq_true rfl) ?_
  show GO S0 42 16 [vR 212, vR r1, vI x2, vI (-1), vI 1, vI 0] [] I2 K
  exact h
/-! 43: RoundSlack$Rounds.clearAll()V -/
def D43_2 (r0 : Nat) (x1 : Int) (I : IM) (K : Option AV → IM → Prop) : Prop :=
  (if (4 : Int) ≤ x1 then (K none I) else ((0 ≤ x1 ∧ x1 < 4) ∧ ∀ I3 : IM, I3 = iup I (r0 + 1) (x1).toNat 0 → (inR (x1 + 1)) ∧ GO S0 43 2 [vR r0, vI (x1 + 1)] [] I3 K))
set_option maxRecDepth 10000 in
theorem g43_2 (r0 : Nat) (h0 : isRd r0) (x1 : Int) (I : IM) (K : Option AV → IM → Prop) (h : D43_2 r0 x1 I K) : GO S0 43 2 [vR r0, vI x1] [] I K := by
  unfold D43_2 at h
  refine G_loadI rc_43_2 rfl ?_
  refine G_const rc_43_3 (by decide) ?_
  refine G_i2 (C := (4 : Int) ≤ x1) rc_43_4 rfl (fun c1 => ?_) (fun c1 => ?_)
  · rw [if_pos c1] at h
    show GO S0 43 20 [vR r0, vI x1] [] I K
    exact G_ret0 rc_43_20 h
  · rw [if_neg c1] at h
    show GO S0 43 7 [vR r0, vI x1] [] I K
    refine G_loadR rc_43_7 rfl ?_
    refine G_getR rc_43_8 (rd_0 h0) (by decide) rfl (by have := rd_lt h0; omega) ?_
    show GO S0 43 11 [vR r0, vI x1] [vR (r0 + 1)] I K
    refine G_loadI rc_43_11 rfl ?_
    refine G_const rc_43_12 (by decide) ?_
    obtain ⟨c2, h⟩ := h
    refine G_ast rc_43_13 (rd_1 h0) (by omega) (by omega) (Or.inl rfl) ?_
    show GO S0 43 14 [vR r0, vI x1] [] (iup I (r0 + 1) (x1).toNat 0) K
    have h := h _ rfl
    generalize iup I (r0 + 1) (x1).toNat 0 = I3 at h ⊢
    obtain ⟨c4, h⟩ := h
    refine G_iinc rc_43_14 rfl c4 ?_
    show GO S0 43 17 [vR r0, vI (x1 + 1)] [] I3 K
    refine G_goto rc_43_17 ?_
    show GO S0 43 2 [vR r0, vI (x1 + 1)] [] I3 K
    exact h
def D43_0 (r0 : Nat) (I : IM) (K : Option AV → IM → Prop) : Prop :=
  GO S0 43 2 [vR r0, vI 0] [] I K
set_option maxRecDepth 10000 in
theorem g43_0 (r0 : Nat) (h0 : isRd r0) (I : IM) (K : Option AV → IM → Prop) (h : D43_0 r0 I K) : GO S0 43 0 [vR r0, vU] [] I K := by
  unfold D43_0 at h
  refine G_const rc_43_0 (by decide) ?_
  refine G_storeI rc_43_1 (Nat.le_of_ble_eq_true rfl) ?_
  show GO S0 43 2 [vR r0, vI 0] [] I K
  exact h
/-! 44: RoundSlack$Reader.readRound(LRoundSlack$Rounds;II)V -/
def D44_96 (r1 : Nat) (x2 : Int) (x3 : Int) (x4 : Int) (x5 : Int) (x6 : Int) (x7 : Int) (I : IM) (K : Option AV → IM → Prop) : Prop :=
  (if x4 = 0 then ((inR (x5 + 1)) ∧ GO S0 44 18 [vR 212, vR r1, vI x2, vI x3, vI x4, vI (x5 + 1), vI x6, vI x7] [] I K) else (CALL S0 37 [vR 212, vI 44] I (fun v I3 => v = none ∧ (inR (x5 + 1)) ∧ GO S0 44 18 [vR 212, vR r1, vI x2, vI x3, vI x4, vI (x5 + 1), vI x6, vI x7] [] I3 K)))
set_option maxRecDepth 10000 in
theorem g44_96 (r1 : Nat) (h1 : isRd r1) (x2 : Int) (x3 : Int) (x4 : Int) (x5 : Int) (x6 : Int) (x7 : Int) (I : IM) (K : Option AV → IM → Prop) (h : D44_96 r1 x2 x3 x4 x5 x6 x7 I K) : GO S0 44 96 [vR 212, vR r1, vI x2, vI x3, vI x4, vI x5, vI x6, vI x7] [] I K := by
  unfold D44_96 at h
  refine G_loadI rc_44_96 rfl ?_
  refine G_i1 (C := x4 = 0) rc_44_98 rfl (fun c1 => ?_) (fun c1 => ?_)
  · rw [if_pos c1] at h
    show GO S0 44 107 [vR 212, vR r1, vI x2, vI x3, vI x4, vI x5, vI x6, vI x7] [] I K
    obtain ⟨c2, h⟩ := h
    refine G_iinc rc_44_107 rfl c2 ?_
    show GO S0 44 110 [vR 212, vR r1, vI x2, vI x3, vI x4, vI (x5 + 1), vI x6, vI x7] [] I K
    refine G_goto rc_44_110 ?_
    show GO S0 44 18 [vR 212, vR r1, vI x2, vI x3, vI x4, vI (x5 + 1), vI x6, vI x7] [] I K
    exact h
  · rw [if_neg c1] at h
    show GO S0 44 101 [vR 212, vR r1, vI x2, vI x3, vI x4, vI x5, vI x6, vI x7] [] I K
    refine G_loadR rc_44_101 rfl ?_
    refine G_const rc_44_102 (by decide) ?_
    refine G_call (as := [vR 212, vI 44]) (rest := []) rc_44_104 rfl rfl rfl (Nat.le_of_ble_eq_true rfl) (g_recv s0_212 rfl) ?_
    refine GO.imp h (fun v I3 h => ?_)
    obtain ⟨rfl, h⟩ := h
    show GO S0 44 107 [vR 212, vR r1, vI x2, vI x3, vI x4, vI x5, vI x6, vI x7] [] I3 K
    obtain ⟨c4, h⟩ := h
    refine G_iinc rc_44_107 rfl c4 ?_
    show GO S0 44 110 [vR 212, vR r1, vI x2, vI x3, vI x4, vI (x5 + 1), vI x6, vI x7] [] I3 K
    refine G_goto rc_44_110 ?_
    show GO S0 44 18 [vR 212, vR r1, vI x2, vI x3, vI x4, vI (x5 + 1), vI x6, vI x7] [] I3 K
    exact h
def D44_64 (r1 : Nat) (x2 : Int) (x3 : Int) (x4 : Int) (x5 : Int) (x6 : Int) (x7 : Int) (I : IM) (K : Option AV → IM → Prop) : Prop :=
  (if I 212 2 = -1 then ((0 ≤ x2 ∧ x2 < 4) ∧ CALL S0 45 [vR r1, vI x7, vI x2, vI (I (r1 + 1) (x2).toNat)] I (fun v I3 => v = none ∧ CALL S0 38 [vR 212, vI 44] I3 (fun v I4 => ∃ y5 : Int, v = some (vI y5) ∧ D44_96 r1 x2 x3 y5 x5 x6 x7 I4 K))) else (D44_96 r1 x2 x3 0 x5 x6 x7 I K))
set_option maxRecDepth 10000 in
theorem g44_64 (r1 : Nat) (h1 : isRd r1) (x2 : Int) (x3 : Int) (x4 : Int) (x5 : Int) (x6 : Int) (x7 : Int) (I : IM) (K : Option AV → IM → Prop) (h : D44_64 r1 x2 x3 x4 x5 x6 x7 I K) : GO S0 44 64 [vR 212, vR r1, vI x2, vI x3, vI x4, vI x5, vI x6, vI x7] [] I K := by
  unfold D44_64 at h
  refine G_const rc_44_64 (by decide) ?_
  refine G_storeI rc_44_65 (Nat.le_of_ble_eq_true rfl) ?_
  show GO S0 44 67 [vR 212, vR r1, vI x2, vI x3, vI 0, vI x5, vI x6, vI x7] [] I K
  refine G_loadR rc_44_67 rfl ?_
  refine G_getI rc_44_68 s0_212 (by decide) ?_
  show GO S0 44 71 [vR 212, vR r1, vI x2, vI x3, vI 0, vI x5, vI x6, vI x7] [vI (I 212 2)] I K
  refine G_const rc_44_71 (by decide) ?_
  refine G_i2 (C := ¬ I 212 2 = -1) rc_44_72 rfl (fun c1 => ?_) (fun c1 => ?_)
  · rw [if_neg c1] at h
    show GO S0 44 96 [vR 212, vR r1, vI x2, vI x3, vI 0, vI x5, vI x6, vI x7] [] I K
    exact g44_96 r1 h1 x2 x3 0 x5 x6 x7 I K h
  · rw [if_pos (Classical.not_not.mp c1)] at h
    show GO S0 44 75 [vR 212, vR r1, vI x2, vI x3, vI 0, vI x5, vI x6, vI x7] [] I K
    refine G_loadR rc_44_75 rfl ?_
    refine G_loadI rc_44_76 rfl ?_
    refine G_loadI rc_44_78 rfl ?_
    refine G_loadR rc_44_79 rfl ?_
    refine G_getR rc_44_80 (rd_0 h1) (by decide) rfl (by have := rd_lt h1; omega) ?_
    show GO S0 44 83 [vR 212, vR r1, vI x2, vI x3, vI 0, vI x5, vI x6, vI x7] [vR (r1 + 1), vI x2, vI x7, vR r1] I K
    refine G_loadI rc_44_83 rfl ?_
    obtain ⟨c2, h⟩ := h
    refine G_ald rc_44_84 (rd_1 h1) (by omega) (by omega) ?_
    show GO S0 44 85 [vR 212, vR r1, vI x2, vI x3, vI 0, vI x5, vI x6, vI x7] [vI (I (r1 + 1) (x2).toNat), vI x2, vI x7, vR r1] I K
    refine G_call (as := [vR r1, vI x7, vI x2, vI (I (r1 + 1) (x2).toNat)]) (rest := []) rc_44_85 rfl rfl rfl (Nat.le_of_ble_eq_true rfl) (g_recv (rd_0 h1) rfl) ?_
    refine GO.imp h (fun v I3 h => ?_)
    obtain ⟨rfl, h⟩ := h
    show GO S0 44 88 [vR 212, vR r1, vI x2, vI x3, vI 0, vI x5, vI x6, vI x7] [] I3 K
    refine G_loadR rc_44_88 rfl ?_
    refine G_const rc_44_89 (by decide) ?_
    refine G_call (as := [vR 212, vI 44]) (rest := []) rc_44_91 rfl rfl rfl (Nat.le_of_ble_eq_true rfl) (g_recv s0_212 rfl) ?_
    refine GO.imp h (fun v I4 h => ?_)
    obtain ⟨y5, rfl, h⟩ := h
    show GO S0 44 94 [vR 212, vR r1, vI x2, vI x3, vI 0, vI x5, vI x6, vI x7] [vI y5] I4 K
    refine G_storeI rc_44_94 (Nat.le_of_ble_eq_true rfl) ?_
    show GO S0 44 96 [vR 212, vR r1, vI x2, vI x3, vI y5, vI x5, vI x6, vI x7] [] I4 K
    exact g44_96 r1 h1 x2 x3 y5 x5 x6 x7 I4 K h
def D44_18 (r1 : Nat) (x2 : Int) (x3 : Int) (x4 : Int) (x5 : Int) (u6 : AV) (u7 : AV) (I : IM) (K : Option AV → IM → Prop) : Prop :=
  (if (160 : Int) ≤ x5 then (K none I) else ((if x4 = 0 then (K none I) else ((inR (x3 - 1)) ∧ CALL S0 33 [vR 212, vI 2, vI 0, vI (x3 - 1)] I (fun v I4 => ∃ y5 : Int, v = some (vI y5) ∧ CALL S0 22 [vR r1, vI y5] I4 (fun v I6 => ∃ y7 : Int, v = some (vI y7) ∧ (if y7 = -1 then (D44_64 r1 x2 x3 x4 x5 (I 212 1) y5 I6 K) else (CALL S0 36 [vR 212, vI (I 212 1)] I6 (fun v I9 => v = none ∧ D44_64 r1 x2 x3 x4 x5 (I 212 1) y5 I9 K)))))))))
set_option maxRecDepth 10000 in
theorem g44_18 (r1 : Nat) (h1 : isRd r1) (x2 : Int) (x3 : Int) (x4 : Int) (x5 : Int) (u6 : AV) (u7 : AV) (I : IM) (K : Option AV → IM → Prop) (h : D44_18 r1 x2 x3 x4 x5 u6 u7 I K) : GO S0 44 18 [vR 212, vR r1, vI x2, vI x3, vI x4, vI x5, u6, u7] [] I K := by
  unfold D44_18 at h
  refine G_loadI rc_44_18 rfl ?_
  refine G_const rc_44_20 (by decide) ?_
  refine G_i2 (C := (160 : Int) ≤ x5) rc_44_23 rfl (fun c1 => ?_) (fun c1 => ?_)
  · rw [if_pos c1] at h
    show GO S0 44 113 [vR 212, vR r1, vI x2, vI x3, vI x4, vI x5, u6, u7] [] I K
    exact G_ret0 rc_44_113 h
  · rw [if_neg c1] at h
    show GO S0 44 26 [vR 212, vR r1, vI x2, vI x3, vI x4, vI x5, u6, u7] [] I K
    refine G_loadI rc_44_26 rfl ?_
    refine G_i1 (C := x4 = 0) rc_44_28 rfl (fun c2 => ?_) (fun c2 => ?_)
    · rw [if_pos c2] at h
      show GO S0 44 113 [vR 212, vR r1, vI x2, vI x3, vI x4, vI x5, u6, u7] [] I K
      exact G_ret0 rc_44_113 h
    · rw [if_neg c2] at h
      show GO S0 44 31 [vR 212, vR r1, vI x2, vI x3, vI x4, vI x5, u6, u7] [] I K
      refine G_loadR rc_44_31 rfl ?_
      refine G_getI rc_44_32 s0_212 (by decide) ?_
      show GO S0 44 35 [vR 212, vR r1, vI x2, vI x3, vI x4, vI x5, u6, u7] [vI (I 212 1)] I K
      refine G_storeI rc_44_35 (Nat.le_of_ble_eq_true rfl) ?_
      show GO S0 44 37 [vR 212, vR r1, vI x2, vI x3, vI x4, vI x5, vI (I 212 1), u7] [] I K
      refine G_loadR rc_44_37 rfl ?_
      refine G_const rc_44_38 (by decide) ?_
      refine G_const rc_44_39 (by decide) ?_
      refine G_loadI rc_44_40 rfl ?_
      refine G_const rc_44_41 (by decide) ?_
      obtain ⟨c3, h⟩ := h
      refine G_bop (z := x3 - 1) rc_44_42 (if_pos c3) ?_
      show GO S0 44 43 [vR 212, vR r1, vI x2, vI x3, vI x4, vI x5, vI (I 212 1), u7] [vI (x3 - 1), vI 0, vI 2, vR 212] I K
      refine G_call (as := [vR 212, vI 2, vI 0, vI (x3 - 1)]) (rest := []) rc_44_43 rfl rfl rfl (Nat.le_of_ble_eq_true rfl) (g_recv s0_212 rfl) ?_
      refine GO.imp h (fun v I4 h => ?_)
      obtain ⟨y5, rfl, h⟩ := h
      show GO S0 44 46 [vR 212, vR r1, vI x2, vI x3, vI x4, vI x5, vI (I 212 1), u7] [vI y5] I4 K
      refine G_storeI rc_44_46 (Nat.le_of_ble_eq_true rfl) ?_
      show GO S0 44 48 [vR 212, vR r1, vI x2, vI x3, vI x4, vI x5, vI (I 212 1), vI y5] [] I4 K
      refine G_loadR rc_44_48 rfl ?_
      refine G_loadI rc_44_49 rfl ?_
      refine G_call (as := [vR r1, vI y5]) (rest := []) rc_44_51 rfl rfl rfl (Nat.le_of_ble_eq_true rfl) (g_recv (rd_0 h1) rfl) ?_
      refine GO.imp h (fun v I6 h => ?_)
      obtain ⟨y7, rfl, h⟩ := h
      show GO S0 44 54 [vR 212, vR r1, vI x2, vI x3, vI x4, vI x5, vI (I 212 1), vI y5] [vI y7] I6 K
      refine G_const rc_44_54 (by decide) ?_
      refine G_i2 (C := y7 = -1) rc_44_55 rfl (fun c8 => ?_) (fun c8 => ?_)
      · rw [if_pos c8] at h
        show GO S0 44 64 [vR 212, vR r1, vI x2, vI x3, vI x4, vI x5, vI (I 212 1), vI y5] [] I6 K
        exact g44_64 r1 h1 x2 x3 x4 x5 (I 212 1) y5 I6 K h
      · rw [if_neg c8] at h
        show GO S0 44 58 [vR 212, vR r1, vI x2, vI x3, vI x4, vI x5, vI (I 212 1), vI y5] [] I6 K
        refine G_loadR rc_44_58 rfl ?_
        refine G_loadI rc_44_59 rfl ?_
        refine G_call (as := [vR 212, vI (I 212 1)]) (rest := []) rc_44_61 rfl rfl rfl (Nat.le_of_ble_eq_true rfl) (g_recv s0_212 rfl) ?_
        refine GO.imp h (fun v I9 h => ?_)
        obtain ⟨rfl, h⟩ := h
        show GO S0 44 64 [vR 212, vR r1, vI x2, vI x3, vI x4, vI x5, vI (I 212 1), vI y5] [] I9 K
        exact g44_64 r1 h1 x2 x3 x4 x5 (I 212 1) y5 I9 K h
def D44_0 (r1 : Nat) (x2 : Int) (x3 : Int) (I : IM) (K : Option AV → IM → Prop) : Prop :=
  (if I 212 2 = -1 then (GO S0 44 18 [vR 212, vR r1, vI x2, vI x3, vI 1, vI 0, vU, vU] [] I K) else (GO S0 44 18 [vR 212, vR r1, vI x2, vI x3, vI 0, vI 0, vU, vU] [] I K))
set_option maxRecDepth 10000 in
theorem g44_0 (r1 : Nat) (h1 : isRd r1) (x2 : Int) (x3 : Int) (I : IM) (K : Option AV → IM → Prop) (h : D44_0 r1 x2 x3 I K) : GO S0 44 0 [vR 212, vR r1, vI x2, vI x3, vU, vU, vU, vU] [] I K := by
  unfold D44_0 at h
  refine G_loadR rc_44_0 rfl ?_
  refine G_getI rc_44_1 s0_212 (by decide) ?_
  show GO S0 44 4 [vR 212, vR r1, vI x2, vI x3, vU, vU, vU, vU] [vI (I 212 2)] I K
  refine G_const rc_44_4 (by decide) ?_
  refine G_i2 (C := ¬ I 212 2 = -1) rc_44_5 rfl (fun c1 => ?_) (fun c1 => ?_)
  · rw [if_neg c1] at h
    show GO S0 44 12 [vR 212, vR r1, vI x2, vI x3, vU, vU, vU, vU] [] I K
    refine G_const rc_44_12 (by decide) ?_
    refine G_storeI rc_44_13 (Nat.le_of_ble_eq_true rfl) ?_
    show GO S0 44 15 [vR 212, vR r1, vI x2, vI x3, vI 0, vU, vU, vU] [] I K
    refine G_const rc_44_15 (by decide) ?_
    refine G_storeI rc_44_16 (Nat.le_of_ble_eq_true rfl) ?_
    show GO S0 44 18 [vR 212, vR r1, vI x2, vI x3, vI 0, vI 0, vU, vU] [] I K
    exact h
  · rw [if_pos (Classical.not_not.mp c1)] at h
    show GO S0 44 8 [vR 212, vR r1, vI x2, vI x3, vU, vU, vU, vU] [] I K
    refine G_const rc_44_8 (by decide) ?_
    refine G_goto rc_44_9 ?_
    show GO S0 44 13 [vR 212, vR r1, vI x2, vI x3, vU, vU, vU, vU] [vI 1] I K
    refine G_storeI rc_44_13 (Nat.le_of_ble_eq_true rfl) ?_
    show GO S0 44 15 [vR 212, vR r1, vI x2, vI x3, vI 1, vU, vU, vU] [] I K
    refine G_const rc_44_15 (by decide) ?_
    refine G_storeI rc_44_16 (Nat.le_of_ble_eq_true rfl) ?_
    show GO S0 44 18 [vR 212, vR r1, vI x2, vI x3, vI 1, vI 0, vU, vU] [] I K
    exact h
/-! 45: RoundSlack$Rounds.insert(III)V -/
def D45_42 (r0 : Nat) (x1 : Int) (x2 : Int) (x3 : Int) (q4 : Nat) (x5 : Int) (I : IM) (K : Option AV → IM → Prop) : Prop :=
  (if x5 ≤ x3 then ((0 ≤ x3 ∧ x3 < 12) ∧ ∀ I3 : IM, I3 = iup I q4 (x3).toNat x1 → (0 ≤ x2 ∧ x2 < 4) ∧ (inR ((I3 (r0 + 1) (x2).toNat) + 1)) ∧ ∀ I6 : IM, I6 = iup I3 (r0 + 1) (x2).toNat ((I3 (r0 + 1) (x2).toNat) + 1) → K none I6) else ((inR (x5 - 1)) ∧ (0 ≤ x5 - 1 ∧ x5 - 1 < 12) ∧ (0 ≤ x5 ∧ x5 < 12) ∧ ∀ I10 : IM, I10 = iup I q4 (x5).toNat (I q4 (x5 - 1).toNat) → (inR (x5 + (-1))) ∧ GO S0 45 42 [vR r0, vI x1, vI x2, vI x3, vR q4, vI (x5 + (-1))] [] I10 K))
set_option maxRecDepth 10000 in
theorem g45_42 (r0 : Nat) (h0 : isRd r0) (x1 : Int) (x2 : Int) (x3 : Int) (q4 : Nat) (x5 : Int) (f4 : S0[q4]? = some (100, 12, [])) (I : IM) (K : Option AV → IM → Prop) (h : D45_42 r0 x1 x2 x3 q4 x5 I K) : GO S0 45 42 [vR r0, vI x1, vI x2, vI x3, vR q4, vI x5] [] I K := by
  unfold D45_42 at h
  refine G_loadI rc_45_42 rfl ?_
  refine G_loadI rc_45_44 rfl ?_
  refine G_i2 (C := x5 ≤ x3) rc_45_45 rfl (fun c1 => ?_) (fun c1 => ?_)
  · rw [if_pos c1] at h
    show GO S0 45 66 [vR r0, vI x1, vI x2, vI x3, vR q4, vI x5] [] I K
    refine G_loadR rc_45_66 rfl ?_
    refine G_loadI rc_45_68 rfl ?_
    refine G_loadI rc_45_69 rfl ?_
    obtain ⟨c2, h⟩ := h
    refine G_ast rc_45_70 f4 (by omega) (by omega) (Or.inl rfl) ?_
    show GO S0 45 71 [vR r0, vI x1, vI x2, vI x3, vR q4, vI x5] [] (iup I q4 (x3).toNat x1) K
    have h := h _ rfl
    generalize iup I q4 (x3).toNat x1 = I3 at h ⊢
    refine G_loadR rc_45_71 rfl ?_
    refine G_getR rc_45_72 (rd_0 h0) (by decide) rfl (by have := rd_lt h0; omega) ?_
    show GO S0 45 75 [vR r0, vI x1, vI x2, vI x3, vR q4, vI x5] [vR (r0 + 1)] I3 K
    refine G_loadI rc_45_75 rfl ?_
    refine G_dup2 rc_45_76 ?_
    obtain ⟨c4, h⟩ := h
    refine G_ald rc_45_77 (rd_1 h0) (by omega) (by omega) ?_
    show GO S0 45 78 [vR r0, vI x1, vI x2, vI x3, vR q4, vI x5] [vI (I3 (r0 + 1) (x2).toNat), vI x2, vR (r0 + 1)] I3 K
    refine G_const rc_45_78 (by decide) ?_
    obtain ⟨c5, h⟩ := h
    refine G_bop (z := (I3 (r0 + 1) (x2).toNat) + 1) rc_45_79 (if_pos c5) ?_
    show GO S0 45 80 [vR r0, vI x1, vI x2, vI x3, vR q4, vI x5] [vI ((I3 (r0 + 1) (x2).toNat) + 1), vI x2, vR (r0 + 1)] I3 K
    refine G_ast rc_45_80 (rd_1 h0) (by omega) (by omega) (Or.inl rfl) ?_
    show GO S0 45 81 [vR r0, vI x1, vI x2, vI x3, vR q4, vI x5] [] (iup I3 (r0 + 1) (x2).toNat ((I3 (r0 + 1) (x2).toNat) + 1)) K
    have h := h _ rfl
    generalize iup I3 (r0 + 1) (x2).toNat ((I3 (r0 + 1) (x2).toNat) + 1) = I6 at h ⊢
    exact G_ret0 rc_45_81 h
  · rw [if_neg c1] at h
    show GO S0 45 48 [vR r0, vI x1, vI x2, vI x3, vR q4, vI x5] [] I K
    refine G_loadR rc_45_48 rfl ?_
    refine G_loadI rc_45_50 rfl ?_
    refine G_loadR rc_45_52 rfl ?_
    refine G_loadI rc_45_54 rfl ?_
    refine G_const rc_45_56 (by decide) ?_
    obtain ⟨c7, h⟩ := h
    refine G_bop (z := x5 - 1) rc_45_57 (if_pos c7) ?_
    show GO S0 45 58 [vR r0, vI x1, vI x2, vI x3, vR q4, vI x5] [vI (x5 - 1), vR q4, vI x5, vR q4] I K
    obtain ⟨c8, h⟩ := h
    refine G_ald rc_45_58 f4 (by omega) (by omega) ?_
    show GO S0 45 59 [vR r0, vI x1, vI x2, vI x3, vR q4, vI x5] [vI (I q4 (x5 - 1).toNat), vI x5, vR q4] I K
    obtain ⟨c9, h⟩ := h
    refine G_ast rc_45_59 f4 (by omega) (by omega) (Or.inl rfl) ?_
    show GO S0 45 60 [vR r0, vI x1, vI x2, vI x3, vR q4, vI x5] [] (iup I q4 (x5).toNat (I q4 (x5 - 1).toNat)) K
    have h := h _ rfl
    generalize iup I q4 (x5).toNat (I q4 (x5 - 1).toNat) = I10 at h ⊢
    obtain ⟨c11, h⟩ := h
    refine G_iinc rc_45_60 rfl c11 ?_
    show GO S0 45 63 [vR r0, vI x1, vI x2, vI x3, vR q4, vI (x5 + (-1))] [] I10 K
    refine G_goto rc_45_63 ?_
    show GO S0 45 42 [vR r0, vI x1, vI x2, vI x3, vR q4, vI (x5 + (-1))] [] I10 K
    exact h
def D45_0 (r0 : Nat) (x1 : Int) (x2 : Int) (x3 : Int) (I : IM) (K : Option AV → IM → Prop) : Prop :=
  (0 ≤ x2 ∧ x2 < 4) ∧ (if (12 : Int) ≤ I (r0 + 1) (x2).toNat then (K none I) else ((if x3 < 0 then (K none I) else ((if x3 ≤ I (r0 + 1) (x2).toNat then (GO S0 45 42 [vR r0, vI x1, vI x2, vI x3, vR (r0 + 3 + (x2).toNat), vI (I (r0 + 1) (x2).toNat)] [] I K) else (K none I))))))
set_option maxRecDepth 10000 in
theorem g45_0 (r0 : Nat) (h0 : isRd r0) (x1 : Int) (x2 : Int) (x3 : Int) (I : IM) (K : Option AV → IM → Prop) (h : D45_0 r0 x1 x2 x3 I K) : GO S0 45 0 [vR r0, vI x1, vI x2, vI x3, vU, vU] [] I K := by
  unfold D45_0 at h
  refine G_loadR rc_45_0 rfl ?_
  refine G_getR rc_45_1 (rd_0 h0) (by decide) rfl (by have := rd_lt h0; omega) ?_
  show GO S0 45 4 [vR r0, vI x1, vI x2, vI x3, vU, vU] [vR (r0 + 1)] I K
  refine G_loadI rc_45_4 rfl ?_
  obtain ⟨c1, h⟩ := h
  refine G_ald rc_45_5 (rd_1 h0) (by omega) (by omega) ?_
  show GO S0 45 6 [vR r0, vI x1, vI x2, vI x3, vU, vU] [vI (I (r0 + 1) (x2).toNat)] I K
  refine G_const rc_45_6 (by decide) ?_
  refine G_i2 (C := (12 : Int) ≤ I (r0 + 1) (x2).toNat) rc_45_8 rfl (fun c2 => ?_) (fun c2 => ?_)
  · rw [if_pos c2] at h
    show GO S0 45 25 [vR r0, vI x1, vI x2, vI x3, vU, vU] [] I K
    exact G_ret0 rc_45_25 h
  · rw [if_neg c2] at h
    show GO S0 45 11 [vR r0, vI x1, vI x2, vI x3, vU, vU] [] I K
    refine G_loadI rc_45_11 rfl ?_
    refine G_i1 (C := x3 < 0) rc_45_12 rfl (fun c3 => ?_) (fun c3 => ?_)
    · rw [if_pos c3] at h
      show GO S0 45 25 [vR r0, vI x1, vI x2, vI x3, vU, vU] [] I K
      exact G_ret0 rc_45_25 h
    · rw [if_neg c3] at h
      show GO S0 45 15 [vR r0, vI x1, vI x2, vI x3, vU, vU] [] I K
      refine G_loadI rc_45_15 rfl ?_
      refine G_loadR rc_45_16 rfl ?_
      refine G_getR rc_45_17 (rd_0 h0) (by decide) rfl (by have := rd_lt h0; omega) ?_
      show GO S0 45 20 [vR r0, vI x1, vI x2, vI x3, vU, vU] [vR (r0 + 1), vI x3] I K
      refine G_loadI rc_45_20 rfl ?_
      refine G_ald rc_45_21 (rd_1 h0) (by omega) (by omega) ?_
      show GO S0 45 22 [vR r0, vI x1, vI x2, vI x3, vU, vU] [vI (I (r0 + 1) (x2).toNat), vI x3] I K
      refine G_i2 (C := x3 ≤ I (r0 + 1) (x2).toNat) rc_45_22 rfl (fun c4 => ?_) (fun c4 => ?_)
      · rw [if_pos c4] at h
        show GO S0 45 26 [vR r0, vI x1, vI x2, vI x3, vU, vU] [] I K
        refine G_loadR rc_45_26 rfl ?_
        refine G_getR rc_45_27 (rd_0 h0) (by decide) rfl (by have := rd_lt h0; omega) ?_
        show GO S0 45 30 [vR r0, vI x1, vI x2, vI x3, vU, vU] [vR (r0 + 2)] I K
        refine G_loadI rc_45_30 rfl ?_
        refine G_aldR rc_45_31 (rd_2 h0) (Or.inl rfl) (by omega) (by omega) (rd_row (i := (x2).toNat) (by omega)) (by have := rd_lt h0; omega) ?_
        show GO S0 45 32 [vR r0, vI x1, vI x2, vI x3, vU, vU] [vR (r0 + 3 + (x2).toNat)] I K
        refine G_storeR rc_45_32 (Nat.le_of_ble_eq_true rfl) ?_
        show GO S0 45 34 [vR r0, vI x1, vI x2, vI x3, vR (r0 + 3 + (x2).toNat), vU] [] I K
        refine G_loadR rc_45_34 rfl ?_
        refine G_getR rc_45_35 (rd_0 h0) (by decide) rfl (by have := rd_lt h0; omega) ?_
        show GO S0 45 38 [vR r0, vI x1, vI x2, vI x3, vR (r0 + 3 + (x2).toNat), vU] [vR (r0 + 1)] I K
        refine G_loadI rc_45_38 rfl ?_
        refine G_ald rc_45_39 (rd_1 h0) (by omega) (by omega) ?_
        show GO S0 45 40 [vR r0, vI x1, vI x2, vI x3, vR (r0 + 3 + (x2).toNat), vU] [vI (I (r0 + 1) (x2).toNat)] I K
        refine G_storeI rc_45_40 (Nat.le_of_ble_eq_true rfl) ?_
        show GO S0 45 42 [vR r0, vI x1, vI x2, vI x3, vR (r0 + 3 + (x2).toNat), vI (I (r0 + 1) (x2).toNat)] [] I K
        exact h
      · rw [if_neg c4] at h
        show GO S0 45 25 [vR r0, vI x1, vI x2, vI x3, vU, vU] [] I K
        exact G_ret0 rc_45_25 h
/-! 46: RoundSlack$Judge.costOfAll(LRoundSlack$Rounds;)I -/
def D46_44 (r1 : Nat) (x2 : Int) (x3 : Int) (x4 : Int) (I : IM) (K : Option AV → IM → Prop) : Prop :=
  (if I 1 0 ≤ x4 then (K (some (vI x2)) I) else ((if iandF (ishrF x3 x4) 1 = 0 then ((0 ≤ x4 ∧ x4 < 13) ∧ (inR (x2 + (I 9 (x4).toNat))) ∧ (inR (x4 + 1)) ∧ GO S0 46 44 [vR 193, vR r1, vI (x2 + (I 9 (x4).toNat)), vI x3, vI (x4 + 1)] [] I K) else ((inR (x4 + 1)) ∧ GO S0 46 44 [vR 193, vR r1, vI x2, vI x3, vI (x4 + 1)] [] I K))))
set_option maxRecDepth 10000 in
theorem g46_44 (r1 : Nat) (h1 : isRd r1) (x2 : Int) (x3 : Int) (x4 : Int) (I : IM) (K : Option AV → IM → Prop) (h : D46_44 r1 x2 x3 x4 I K) : GO S0 46 44 [vR 193, vR r1, vI x2, vI x3, vI x4] [] I K := by
  unfold D46_44 at h
  refine G_loadI rc_46_44 rfl ?_
  refine G_loadR rc_46_46 rfl ?_
  refine G_getR rc_46_47 s0_193 (by decide) rfl (by decide) ?_
  show GO S0 46 50 [vR 193, vR r1, vI x2, vI x3, vI x4] [vR 1, vI x4] I K
  refine G_getI rc_46_50 s0_1 (by decide) ?_
  show GO S0 46 53 [vR 193, vR r1, vI x2, vI x3, vI x4] [vI (I 1 0), vI x4] I K
  refine G_i2 (C := I 1 0 ≤ x4) rc_46_53 rfl (fun c1 => ?_) (fun c1 => ?_)
  · rw [if_pos c1] at h
    show GO S0 46 84 [vR 193, vR r1, vI x2, vI x3, vI x4] [] I K
    refine G_loadI rc_46_84 rfl ?_
    exact G_retI rc_46_85 (Or.inl rfl) h
  · rw [if_neg c1] at h
    show GO S0 46 56 [vR 193, vR r1, vI x2, vI x3, vI x4] [] I K
    refine G_loadI rc_46_56 rfl ?_
    refine G_loadI rc_46_57 rfl ?_
    refine G_bop (z := ishrF x3 x4) rc_46_59 rfl ?_
    show GO S0 46 60 [vR 193, vR r1, vI x2, vI x3, vI x4] [vI (ishrF x3 x4)] I K
    refine G_const rc_46_60 (by decide) ?_
    refine G_bop (z := iandF (ishrF x3 x4) 1) rc_46_61 rfl ?_
    show GO S0 46 62 [vR 193, vR r1, vI x2, vI x3, vI x4] [vI (iandF (ishrF x3 x4) 1)] I K
    refine G_i1 (C := ¬ iandF (ishrF x3 x4) 1 = 0) rc_46_62 rfl (fun c2 => ?_) (fun c2 => ?_)
    · rw [if_neg c2] at h
      show GO S0 46 78 [vR 193, vR r1, vI x2, vI x3, vI x4] [] I K
      obtain ⟨c3, h⟩ := h
      refine G_iinc rc_46_78 rfl c3 ?_
      show GO S0 46 81 [vR 193, vR r1, vI x2, vI x3, vI (x4 + 1)] [] I K
      refine G_goto rc_46_81 ?_
      show GO S0 46 44 [vR 193, vR r1, vI x2, vI x3, vI (x4 + 1)] [] I K
      exact h
    · rw [if_pos (Classical.not_not.mp c2)] at h
      show GO S0 46 65 [vR 193, vR r1, vI x2, vI x3, vI x4] [] I K
      refine G_loadI rc_46_65 rfl ?_
      refine G_loadR rc_46_66 rfl ?_
      refine G_getR rc_46_67 s0_193 (by decide) rfl (by decide) ?_
      show GO S0 46 70 [vR 193, vR r1, vI x2, vI x3, vI x4] [vR 1, vI x2] I K
      refine G_getR rc_46_70 s0_1 (by decide) rfl (by decide) ?_
      show GO S0 46 73 [vR 193, vR r1, vI x2, vI x3, vI x4] [vR 9, vI x2] I K
      refine G_loadI rc_46_73 rfl ?_
      obtain ⟨c4, h⟩ := h
      refine G_ald rc_46_75 s0_9 (by omega) (by omega) ?_
      show GO S0 46 76 [vR 193, vR r1, vI x2, vI x3, vI x4] [vI (I 9 (x4).toNat), vI x2] I K
      obtain ⟨c5, h⟩ := h
      refine G_bop (z := x2 + (I 9 (x4).toNat)) rc_46_76 (if_pos c5) ?_
      show GO S0 46 77 [vR 193, vR r1, vI x2, vI x3, vI x4] [vI (x2 + (I 9 (x4).toNat))] I K
      refine G_storeI rc_46_77 (Nat.le_of_ble_eq_true rfl) ?_
      show GO S0 46 78 [vR 193, vR r1, vI (x2 + (I 9 (x4).toNat)), vI x3, vI x4] [] I K
      obtain ⟨c6, h⟩ := h
      refine G_iinc rc_46_78 rfl c6 ?_
      show GO S0 46 81 [vR 193, vR r1, vI (x2 + (I 9 (x4).toNat)), vI x3, vI (x4 + 1)] [] I K
      refine G_goto rc_46_81 ?_
      show GO S0 46 44 [vR 193, vR r1, vI (x2 + (I 9 (x4).toNat)), vI x3, vI (x4 + 1)] [] I K
      exact h
def D46_4 (r1 : Nat) (x2 : Int) (x3 : Int) (u4 : AV) (I : IM) (K : Option AV → IM → Prop) : Prop :=
  (if (4 : Int) ≤ x3 then (CALL S0 52 [vR r1] I (fun v I2 => ∃ y3 : Int, v = some (vI y3) ∧ GO S0 46 44 [vR 193, vR r1, vI x2, vI y3, vI 0] [] I2 K)) else (CALL S0 47 [vR 193, vR r1, vI x3] I (fun v I4 => ∃ y5 : Int, v = some (vI y5) ∧ (if y5 = -1 then (K (some (vI (-1))) I4) else ((inR (x2 + y5)) ∧ (inR (x3 + 1)) ∧ GO S0 46 4 [vR 193, vR r1, vI (x2 + y5), vI (x3 + 1), vI y5] [] I4 K)))))
set_option maxRecDepth 10000 in
theorem g46_4 (r1 : Nat) (h1 : isRd r1) (x2 : Int) (x3 : Int) (u4 : AV) (I : IM) (K : Option AV → IM → Prop) (h : D46_4 r1 x2 x3 u4 I K) : GO S0 46 4 [vR 193, vR r1, vI x2, vI x3, u4] [] I K := by
  unfold D46_4 at h
  refine G_loadI rc_46_4 rfl ?_
  refine G_const rc_46_5 (by decide) ?_
  refine G_i2 (C := (4 : Int) ≤ x3) rc_46_6 rfl (fun c1 => ?_) (fun c1 => ?_)
  · rw [if_pos c1] at h
    show GO S0 46 36 [vR 193, vR r1, vI x2, vI x3, u4] [] I K
    refine G_loadR rc_46_36 rfl ?_
    refine G_call (as := [vR r1]) (rest := []) rc_46_37 rfl rfl rfl (Nat.le_of_ble_eq_true rfl) (g_recv (rd_0 h1) rfl) ?_
    refine GO.imp h (fun v I2 h => ?_)
    obtain ⟨y3, rfl, h⟩ := h
    show GO S0 46 40 [vR 193, vR r1, vI x2, vI x3, u4] [vI y3] I2 K
    refine G_storeI rc_46_40 (Nat.le_of_ble_eq_true rfl) ?_
    show GO S0 46 41 [vR 193, vR r1, vI x2, vI y3, u4] [] I2 K
    refine G_const rc_46_41 (by decide) ?_
    refine G_storeI rc_46_42 (Nat.le_of_ble_eq_true rfl) ?_
    show GO S0 46 44 [vR 193, vR r1, vI x2, vI y3, vI 0] [] I2 K
    exact h
  · rw [if_neg c1] at h
    show GO S0 46 9 [vR 193, vR r1, vI x2, vI x3, u4] [] I K
    refine G_loadR rc_46_9 rfl ?_
    refine G_loadR rc_46_10 rfl ?_
    refine G_loadI rc_46_11 rfl ?_
    refine G_call (as := [vR 193, vR r1, vI x3]) (rest := []) rc_46_12 rfl rfl rfl (Nat.le_of_ble_eq_true rfl) (g_recv s0_193 rfl) ?_
    refine GO.imp h (fun v I4 h => ?_)
    obtain ⟨y5, rfl, h⟩ := h
    show GO S0 46 15 [vR 193, vR r1, vI x2, vI x3, u4] [vI y5] I4 K
    refine G_storeI rc_46_15 (Nat.le_of_ble_eq_true rfl) ?_
    show GO S0 46 17 [vR 193, vR r1, vI x2, vI x3, vI y5] [] I4 K
    refine G_loadI rc_46_17 rfl ?_
    refine G_const rc_46_19 (by decide) ?_
    refine G_i2 (C := ¬ y5 = -1) rc_46_20 rfl (fun c6 => ?_) (fun c6 => ?_)
    · rw [if_neg c6] at h
      show GO S0 46 25 [vR 193, vR r1, vI x2, vI x3, vI y5] [] I4 K
      refine G_loadI rc_46_25 rfl ?_
      refine G_loadI rc_46_26 rfl ?_
      obtain ⟨c7, h⟩ := h
      refine G_bop (z := x2 + y5) rc_46_28 (if_pos c7) ?_
      show GO S0 46 29 [vR 193, vR r1, vI x2, vI x3, vI y5] [vI (x2 + y5)] I4 K
      refine G_storeI rc_46_29 (Nat.le_of_ble_eq_true rfl) ?_
      show GO S0 46 30 [vR 193, vR r1, vI (x2 + y5), vI x3, vI y5] [] I4 K
      obtain ⟨c8, h⟩ := h
      refine G_iinc rc_46_30 rfl c8 ?_
      show GO S0 46 33 [vR 193, vR r1, vI (x2 + y5), vI (x3 + 1), vI y5] [] I4 K
      refine G_goto rc_46_33 ?_
      show GO S0 46 4 [vR 193, vR r1, vI (x2 + y5), vI (x3 + 1), vI y5] [] I4 K
      exact h
    · rw [if_pos (Classical.not_not.mp c6)] at h
      show GO S0 46 23 [vR 193, vR r1, vI x2, vI x3, vI y5] [] I4 K
      refine G_const rc_46_23 (by decide) ?_
      exact G_retI rc_46_24 (Or.inl rfl) h
def D46_0 (r1 : Nat) (I : IM) (K : Option AV → IM → Prop) : Prop :=
  GO S0 46 4 [vR 193, vR r1, vI 0, vI 0, vU] [] I K
set_option maxRecDepth 10000 in
theorem g46_0 (r1 : Nat) (h1 : isRd r1) (I : IM) (K : Option AV → IM → Prop) (h : D46_0 r1 I K) : GO S0 46 0 [vR 193, vR r1, vU, vU, vU] [] I K := by
  unfold D46_0 at h
  refine G_const rc_46_0 (by decide) ?_
  refine G_storeI rc_46_1 (Nat.le_of_ble_eq_true rfl) ?_
  show GO S0 46 2 [vR 193, vR r1, vI 0, vU, vU] [] I K
  refine G_const rc_46_2 (by decide) ?_
  refine G_storeI rc_46_3 (Nat.le_of_ble_eq_true rfl) ?_
  show GO S0 46 4 [vR 193, vR r1, vI 0, vI 0, vU] [] I K
  exact h
/-! 47: RoundSlack$Judge.costOf(LRoundSlack$Rounds;I)I -/
def D47_0 (r1 : Nat) (x2 : Int) (I : IM) (K : Option AV → IM → Prop) : Prop :=
  (0 ≤ x2 ∧ x2 < 4) ∧ (if I (r1 + 1) (x2).toNat = 0 then (K (some (vI 0)) I) else (CALL S0 48 [vR 193, vR r1, vI x2, vI (-1), vI (-1)] I (fun v I3 => v = none ∧ CALL S0 51 [vR 193, vI x2] I3 (fun v I4 => ∃ y5 : Int, v = some (vI y5) ∧ K (some (vI y5)) I4))))
set_option maxRecDepth 10000 in
theorem g47_0 (r1 : Nat) (h1 : isRd r1) (x2 : Int) (I : IM) (K : Option AV → IM → Prop) (h : D47_0 r1 x2 I K) : GO S0 47 0 [vR 193, vR r1, vI x2] [] I K := by
  unfold D47_0 at h
  refine G_loadR rc_47_0 rfl ?_
  refine G_getR rc_47_1 (rd_0 h1) (by decide) rfl (by have := rd_lt h1; omega) ?_
  show GO S0 47 4 [vR 193, vR r1, vI x2] [vR (r1 + 1)] I K
  refine G_loadI rc_47_4 rfl ?_
  obtain ⟨c1, h⟩ := h
  refine G_ald rc_47_5 (rd_1 h1) (by omega) (by omega) ?_
  show GO S0 47 6 [vR 193, vR r1, vI x2] [vI (I (r1 + 1) (x2).toNat)] I K
  refine G_i1 (C := ¬ I (r1 + 1) (x2).toNat = 0) rc_47_6 rfl (fun c2 => ?_) (fun c2 => ?_)
  · rw [if_neg c2] at h
    show GO S0 47 11 [vR 193, vR r1, vI x2] [] I K
    refine G_loadR rc_47_11 rfl ?_
    refine G_loadR rc_47_12 rfl ?_
    refine G_loadI rc_47_13 rfl ?_
    refine G_const rc_47_14 (by decide) ?_
    refine G_const rc_47_15 (by decide) ?_
    refine G_call (as := [vR 193, vR r1, vI x2, vI (-1), vI (-1)]) (rest := []) rc_47_16 rfl rfl rfl (Nat.le_of_ble_eq_true rfl) (g_recv s0_193 rfl) ?_
    refine GO.imp h (fun v I3 h => ?_)
    obtain ⟨rfl, h⟩ := h
    show GO S0 47 19 [vR 193, vR r1, vI x2] [] I3 K
    refine G_loadR rc_47_19 rfl ?_
    refine G_loadI rc_47_20 rfl ?_
    refine G_call (as := [vR 193, vI x2]) (rest := []) rc_47_21 rfl rfl rfl (Nat.le_of_ble_eq_true rfl) (g_recv s0_193 rfl) ?_
    refine GO.imp h (fun v I4 h => ?_)
    obtain ⟨y5, rfl, h⟩ := h
    show GO S0 47 24 [vR 193, vR r1, vI x2] [vI y5] I4 K
    exact G_retI rc_47_24 (Or.inl rfl) h
  · rw [if_pos (Classical.not_not.mp c2)] at h
    show GO S0 47 9 [vR 193, vR r1, vI x2] [] I K
    refine G_const rc_47_9 (by decide) ?_
    exact G_retI rc_47_10 (Or.inl rfl) h
/-! 48: RoundSlack$Judge.goRound(LRoundSlack$Rounds;III)V -/
def D48_130 (r1 : Nat) (x2 : Int) (x3 : Int) (x4 : Int) (q5 : Nat) (x6 : Int) (x7 : Int) (I : IM) (K : Option AV → IM → Prop) : Prop :=
  (0 ≤ x2 ∧ x2 < 4) ∧ CALL S0 50 [vR 192, vI 12, vI (I 27 (x2).toNat)] I (fun v I2 => v = none ∧ K none I2)
set_option maxRecDepth 10000 in
theorem g48_130 (r1 : Nat) (h1 : isRd r1) (x2 : Int) (x3 : Int) (x4 : Int) (q5 : Nat) (x6 : Int) (x7 : Int) (f5 : S0[q5]? = some (100, 12, [])) (I : IM) (K : Option AV → IM → Prop) (h : D48_130 r1 x2 x3 x4 q5 x6 x7 I K) : GO S0 48 130 [vR 193, vR r1, vI x2, vI x3, vI x4, vR q5, vI x6, vI x7] [] I K := by
  unfold D48_130 at h
  refine G_loadR rc_48_130 rfl ?_
  refine G_getR rc_48_131 s0_193 (by decide) rfl (by decide) ?_
  show GO S0 48 134 [vR 193, vR r1, vI x2, vI x3, vI x4, vR q5, vI x6, vI x7] [vR 192] I K
  refine G_const rc_48_134 (by decide) ?_
  refine G_loadR rc_48_136 rfl ?_
  refine G_getR rc_48_137 s0_193 (by decide) rfl (by decide) ?_
  show GO S0 48 140 [vR 193, vR r1, vI x2, vI x3, vI x4, vR q5, vI x6, vI x7] [vR 24, vI 12, vR 192] I K
  refine G_getR rc_48_140 s0_24 (by decide) rfl (by decide) ?_
  show GO S0 48 143 [vR 193, vR r1, vI x2, vI x3, vI x4, vR q5, vI x6, vI x7] [vR 27, vI 12, vR 192] I K
  refine G_loadI rc_48_143 rfl ?_
  obtain ⟨c1, h⟩ := h
  refine G_ald rc_48_144 s0_27 (by omega) (by omega) ?_
  show GO S0 48 145 [vR 193, vR r1, vI x2, vI x3, vI x4, vR q5, vI x6, vI x7] [vI (I 27 (x2).toNat), vI 12, vR 192] I K
  refine G_call (as := [vR 192, vI 12, vI (I 27 (x2).toNat)]) (rest := []) rc_48_145 rfl rfl rfl (Nat.le_of_ble_eq_true rfl) (g_recv s0_192 rfl) ?_
  refine GO.imp h (fun v I2 h => ?_)
  obtain ⟨rfl, h⟩ := h
  show GO S0 48 148 [vR 193, vR r1, vI x2, vI x3, vI x4, vR q5, vI x6, vI x7] [] I2 K
  exact G_ret0 rc_48_148 h
def D48_92 (r1 : Nat) (x2 : Int) (x3 : Int) (x4 : Int) (q5 : Nat) (x6 : Int) (x7 : Int) (I : IM) (K : Option AV → IM → Prop) : Prop :=
  (if x6 ≤ x7 then ((inR (x7 + 1)) ∧ GO S0 48 46 [vR 193, vR r1, vI x2, vI x3, vI x4, vR q5, vI x6, vI (x7 + 1)] [] I K) else ((0 ≤ x7 ∧ x7 < 12) ∧ (0 ≤ I q5 (x7).toNat ∧ I q5 (x7).toNat < 13) ∧ CALL S0 50 [vR 192, vI (I q5 (x7).toNat), vI (I 5 (I q5 (x7).toNat).toNat)] I (fun v I5 => v = none ∧ (inR (x7 + 1)) ∧ GO S0 48 46 [vR 193, vR r1, vI x2, vI x3, vI x4, vR q5, vI x6, vI (x7 + 1)] [] I5 K)))
set_option maxRecDepth 10000 in
theorem g48_92 (r1 : Nat) (h1 : isRd r1) (x2 : Int) (x3 : Int) (x4 : Int) (q5 : Nat) (x6 : Int) (x7 : Int) (f5 : S0[q5]? = some (100, 12, [])) (I : IM) (K : Option AV → IM → Prop) (h : D48_92 r1 x2 x3 x4 q5 x6 x7 I K) : GO S0 48 92 [vR 193, vR r1, vI x2, vI x3, vI x4, vR q5, vI x6, vI x7] [] I K := by
  unfold D48_92 at h
  refine G_loadI rc_48_92 rfl ?_
  refine G_loadI rc_48_94 rfl ?_
  refine G_i2 (C := x6 ≤ x7) rc_48_96 rfl (fun c1 => ?_) (fun c1 => ?_)
  · rw [if_pos c1] at h
    show GO S0 48 124 [vR 193, vR r1, vI x2, vI x3, vI x4, vR q5, vI x6, vI x7] [] I K
    obtain ⟨c2, h⟩ := h
    refine G_iinc rc_48_124 rfl c2 ?_
    show GO S0 48 127 [vR 193, vR r1, vI x2, vI x3, vI x4, vR q5, vI x6, vI (x7 + 1)] [] I K
    refine G_goto rc_48_127 ?_
    show GO S0 48 46 [vR 193, vR r1, vI x2, vI x3, vI x4, vR q5, vI x6, vI (x7 + 1)] [] I K
    exact h
  · rw [if_neg c1] at h
    show GO S0 48 99 [vR 193, vR r1, vI x2, vI x3, vI x4, vR q5, vI x6, vI x7] [] I K
    refine G_loadR rc_48_99 rfl ?_
    refine G_getR rc_48_100 s0_193 (by decide) rfl (by decide) ?_
    show GO S0 48 103 [vR 193, vR r1, vI x2, vI x3, vI x4, vR q5, vI x6, vI x7] [vR 192] I K
    refine G_loadR rc_48_103 rfl ?_
    refine G_loadI rc_48_105 rfl ?_
    obtain ⟨c3, h⟩ := h
    refine G_ald rc_48_107 f5 (by omega) (by omega) ?_
    show GO S0 48 108 [vR 193, vR r1, vI x2, vI x3, vI x4, vR q5, vI x6, vI x7] [vI (I q5 (x7).toNat), vR 192] I K
    refine G_loadR rc_48_108 rfl ?_
    refine G_getR rc_48_109 s0_193 (by decide) rfl (by decide) ?_
    show GO S0 48 112 [vR 193, vR r1, vI x2, vI x3, vI x4, vR q5, vI x6, vI x7] [vR 1, vI (I q5 (x7).toNat), vR 192] I K
    refine G_getR rc_48_112 s0_1 (by decide) rfl (by decide) ?_
    show GO S0 48 115 [vR 193, vR r1, vI x2, vI x3, vI x4, vR q5, vI x6, vI x7] [vR 5, vI (I q5 (x7).toNat), vR 192] I K
    refine G_loadR rc_48_115 rfl ?_
    refine G_loadI rc_48_117 rfl ?_
    refine G_ald rc_48_119 f5 (by omega) (by omega) ?_
    show GO S0 48 120 [vR 193, vR r1, vI x2, vI x3, vI x4, vR q5, vI x6, vI x7] [vI (I q5 (x7).toNat), vR 5, vI (I q5 (x7).toNat), vR 192] I K
    obtain ⟨c4, h⟩ := h
    refine G_ald rc_48_120 s0_5 (by omega) (by omega) ?_
    show GO S0 48 121 [vR 193, vR r1, vI x2, vI x3, vI x4, vR q5, vI x6, vI x7] [vI (I 5 (I q5 (x7).toNat).toNat), vI (I q5 (x7).toNat), vR 192] I K
    refine G_call (as := [vR 192, vI (I q5 (x7).toNat), vI (I 5 (I q5 (x7).toNat).toNat)]) (rest := []) rc_48_121 rfl rfl rfl (Nat.le_of_ble_eq_true rfl) (g_recv s0_192 rfl) ?_
    refine GO.imp h (fun v I5 h => ?_)
    obtain ⟨rfl, h⟩ := h
    show GO S0 48 124 [vR 193, vR r1, vI x2, vI x3, vI x4, vR q5, vI x6, vI x7] [] I5 K
    obtain ⟨c6, h⟩ := h
    refine G_iinc rc_48_124 rfl c6 ?_
    show GO S0 48 127 [vR 193, vR r1, vI x2, vI x3, vI x4, vR q5, vI x6, vI (x7 + 1)] [] I5 K
    refine G_goto rc_48_127 ?_
    show GO S0 48 46 [vR 193, vR r1, vI x2, vI x3, vI x4, vR q5, vI x6, vI (x7 + 1)] [] I5 K
    exact h
def D48_46 (r1 : Nat) (x2 : Int) (x3 : Int) (x4 : Int) (q5 : Nat) (x6 : Int) (x7 : Int) (I : IM) (K : Option AV → IM → Prop) : Prop :=
  (if x6 < x7 then (D48_130 r1 x2 x3 x4 q5 x6 x7 I K) else ((if I 192 9 = 0 then (D48_130 r1 x2 x3 x4 q5 x6 x7 I K) else ((if x7 = x4 then ((if x3 = -1 then (D48_92 r1 x2 x3 x4 q5 x6 x7 I K) else ((0 ≤ x3 ∧ x3 < 13) ∧ CALL S0 50 [vR 192, vI x3, vI (I 5 (x3).toNat)] I (fun v I6 => v = none ∧ D48_92 r1 x2 x3 x4 q5 x6 x7 I6 K)))) else (D48_92 r1 x2 x3 x4 q5 x6 x7 I K))))))
set_option maxRecDepth 10000 in
theorem g48_46 (r1 : Nat) (h1 : isRd r1) (x2 : Int) (x3 : Int) (x4 : Int) (q5 : Nat) (x6 : Int) (x7 : Int) (f5 : S0[q5]? = some (100, 12, [])) (I : IM) (K : Option AV → IM → Prop) (h : D48_46 r1 x2 x3 x4 q5 x6 x7 I K) : GO S0 48 46 [vR 193, vR r1, vI x2, vI x3, vI x4, vR q5, vI x6, vI x7] [] I K := by
  unfold D48_46 at h
  refine G_loadI rc_48_46 rfl ?_
  refine G_loadI rc_48_48 rfl ?_
  refine G_i2 (C := x6 < x7) rc_48_50 rfl (fun c1 => ?_) (fun c1 => ?_)
  · rw [if_pos c1] at h
    show GO S0 48 130 [vR 193, vR r1, vI x2, vI x3, vI x4, vR q5, vI x6, vI x7] [] I K
    exact g48_130 r1 h1 x2 x3 x4 q5 x6 x7 f5 I K h
  · rw [if_neg c1] at h
    show GO S0 48 53 [vR 193, vR r1, vI x2, vI x3, vI x4, vR q5, vI x6, vI x7] [] I K
    refine G_loadR rc_48_53 rfl ?_
    refine G_getR rc_48_54 s0_193 (by decide) rfl (by decide) ?_
    show GO S0 48 57 [vR 193, vR r1, vI x2, vI x3, vI x4, vR q5, vI x6, vI x7] [vR 192] I K
    refine G_getI rc_48_57 s0_192 (by decide) ?_
    show GO S0 48 60 [vR 193, vR r1, vI x2, vI x3, vI x4, vR q5, vI x6, vI x7] [vI (I 192 9)] I K
    refine G_i1 (C := I 192 9 = 0) rc_48_60 rfl (fun c2 => ?_) (fun c2 => ?_)
    · rw [if_pos c2] at h
      show GO S0 48 130 [vR 193, vR r1, vI x2, vI x3, vI x4, vR q5, vI x6, vI x7] [] I K
      exact g48_130 r1 h1 x2 x3 x4 q5 x6 x7 f5 I K h
    · rw [if_neg c2] at h
      show GO S0 48 63 [vR 193, vR r1, vI x2, vI x3, vI x4, vR q5, vI x6, vI x7] [] I K
      refine G_loadI rc_48_63 rfl ?_
      refine G_loadI rc_48_65 rfl ?_
      refine G_i2 (C := ¬ x7 = x4) rc_48_67 rfl (fun c3 => ?_) (fun c3 => ?_)
      · rw [if_neg c3] at h
        show GO S0 48 92 [vR 193, vR r1, vI x2, vI x3, vI x4, vR q5, vI x6, vI x7] [] I K
        exact g48_92 r1 h1 x2 x3 x4 q5 x6 x7 f5 I K h
      · rw [if_pos (Classical.not_not.mp c3)] at h
        show GO S0 48 70 [vR 193, vR r1, vI x2, vI x3, vI x4, vR q5, vI x6, vI x7] [] I K
        refine G_loadI rc_48_70 rfl ?_
        refine G_const rc_48_71 (by decide) ?_
        refine G_i2 (C := x3 = -1) rc_48_72 rfl (fun c4 => ?_) (fun c4 => ?_)
        · rw [if_pos c4] at h
          show GO S0 48 92 [vR 193, vR r1, vI x2, vI x3, vI x4, vR q5, vI x6, vI x7] [] I K
          exact g48_92 r1 h1 x2 x3 x4 q5 x6 x7 f5 I K h
        · rw [if_neg c4] at h
          show GO S0 48 75 [vR 193, vR r1, vI x2, vI x3, vI x4, vR q5, vI x6, vI x7] [] I K
          refine G_loadR rc_48_75 rfl ?_
          refine G_getR rc_48_76 s0_193 (by decide) rfl (by decide) ?_
          show GO S0 48 79 [vR 193, vR r1, vI x2, vI x3, vI x4, vR q5, vI x6, vI x7] [vR 192] I K
          refine G_loadI rc_48_79 rfl ?_
          refine G_loadR rc_48_80 rfl ?_
          refine G_getR rc_48_81 s0_193 (by decide) rfl (by decide) ?_
          show GO S0 48 84 [vR 193, vR r1, vI x2, vI x3, vI x4, vR q5, vI x6, vI x7] [vR 1, vI x3, vR 192] I K
          refine G_getR rc_48_84 s0_1 (by decide) rfl (by decide) ?_
          show GO S0 48 87 [vR 193, vR r1, vI x2, vI x3, vI x4, vR q5, vI x6, vI x7] [vR 5, vI x3, vR 192] I K
          refine G_loadI rc_48_87 rfl ?_
          obtain ⟨c5, h⟩ := h
          refine G_ald rc_48_88 s0_5 (by omega) (by omega) ?_
          show GO S0 48 89 [vR 193, vR r1, vI x2, vI x3, vI x4, vR q5, vI x6, vI x7] [vI (I 5 (x3).toNat), vI x3, vR 192] I K
          refine G_call (as := [vR 192, vI x3, vI (I 5 (x3).toNat)]) (rest := []) rc_48_89 rfl rfl rfl (Nat.le_of_ble_eq_true rfl) (g_recv s0_192 rfl) ?_
          refine GO.imp h (fun v I6 h => ?_)
          obtain ⟨rfl, h⟩ := h
          show GO S0 48 92 [vR 193, vR r1, vI x2, vI x3, vI x4, vR q5, vI x6, vI x7] [] I6 K
          exact g48_92 r1 h1 x2 x3 x4 q5 x6 x7 f5 I6 K h
def D48_0 (r1 : Nat) (x2 : Int) (x3 : Int) (x4 : Int) (I : IM) (K : Option AV → IM → Prop) : Prop :=
  (0 ≤ x2 ∧ x2 < 4) ∧ CALL S0 49 [vR 192, vI 12, vI (I 26 (x2).toNat), vI (I 27 (x2).toNat)] I (fun v I2 => v = none ∧ GO S0 48 46 [vR 193, vR r1, vI x2, vI x3, vI x4, vR (r1 + 3 + (x2).toNat), vI (I (r1 + 1) (x2).toNat), vI 0] [] I2 K)
set_option maxRecDepth 10000 in
theorem g48_0 (r1 : Nat) (h1 : isRd r1) (x2 : Int) (x3 : Int) (x4 : Int) (I : IM) (K : Option AV → IM → Prop) (h : D48_0 r1 x2 x3 x4 I K) : GO S0 48 0 [vR 193, vR r1, vI x2, vI x3, vI x4, vU, vU, vU] [] I K := by
  unfold D48_0 at h
  refine G_loadR rc_48_0 rfl ?_
  refine G_getR rc_48_1 (rd_0 h1) (by decide) rfl (by have := rd_lt h1; omega) ?_
  show GO S0 48 4 [vR 193, vR r1, vI x2, vI x3, vI x4, vU, vU, vU] [vR (r1 + 2)] I K
  refine G_loadI rc_48_4 rfl ?_
  obtain ⟨c1, h⟩ := h
  refine G_aldR rc_48_5 (rd_2 h1) (Or.inl rfl) (by omega) (by omega) (rd_row (i := (x2).toNat) (by omega)) (by have := rd_lt h1; omega) ?_
  show GO S0 48 6 [vR 193, vR r1, vI x2, vI x3, vI x4, vU, vU, vU] [vR (r1 + 3 + (x2).toNat)] I K
  refine G_storeR rc_48_6 (Nat.le_of_ble_eq_true rfl) ?_
  show GO S0 48 8 [vR 193, vR r1, vI x2, vI x3, vI x4, vR (r1 + 3 + (x2).toNat), vU, vU] [] I K
  refine G_loadR rc_48_8 rfl ?_
  refine G_getR rc_48_9 (rd_0 h1) (by decide) rfl (by have := rd_lt h1; omega) ?_
  show GO S0 48 12 [vR 193, vR r1, vI x2, vI x3, vI x4, vR (r1 + 3 + (x2).toNat), vU, vU] [vR (r1 + 1)] I K
  refine G_loadI rc_48_12 rfl ?_
  refine G_ald rc_48_13 (rd_1 h1) (by omega) (by omega) ?_
  show GO S0 48 14 [vR 193, vR r1, vI x2, vI x3, vI x4, vR (r1 + 3 + (x2).toNat), vU, vU] [vI (I (r1 + 1) (x2).toNat)] I K
  refine G_storeI rc_48_14 (Nat.le_of_ble_eq_true rfl) ?_
  show GO S0 48 16 [vR 193, vR r1, vI x2, vI x3, vI x4, vR (r1 + 3 + (x2).toNat), vI (I (r1 + 1) (x2).toNat), vU] [] I K
  refine G_loadR rc_48_16 rfl ?_
  refine G_getR rc_48_17 s0_193 (by decide) rfl (by decide) ?_
  show GO S0 48 20 [vR 193, vR r1, vI x2, vI x3, vI x4, vR (r1 + 3 + (x2).toNat), vI (I (r1 + 1) (x2).toNat), vU] [vR 192] I K
  refine G_const rc_48_20 (by decide) ?_
  refine G_loadR rc_48_22 rfl ?_
  refine G_getR rc_48_23 s0_193 (by decide) rfl (by decide) ?_
  show GO S0 48 26 [vR 193, vR r1, vI x2, vI x3, vI x4, vR (r1 + 3 + (x2).toNat), vI (I (r1 + 1) (x2).toNat), vU] [vR 24, vI 12, vR 192] I K
  refine G_getR rc_48_26 s0_24 (by decide) rfl (by decide) ?_
  show GO S0 48 29 [vR 193, vR r1, vI x2, vI x3, vI x4, vR (r1 + 3 + (x2).toNat), vI (I (r1 + 1) (x2).toNat), vU] [vR 26, vI 12, vR 192] I K
  refine G_loadI rc_48_29 rfl ?_
  refine G_ald rc_48_30 s0_26 (by omega) (by omega) ?_
  show GO S0 48 31 [vR 193, vR r1, vI x2, vI x3, vI x4, vR (r1 + 3 + (x2).toNat), vI (I (r1 + 1) (x2).toNat), vU] [vI (I 26 (x2).toNat), vI 12, vR 192] I K
  refine G_loadR rc_48_31 rfl ?_
  refine G_getR rc_48_32 s0_193 (by decide) rfl (by decide) ?_
  show GO S0 48 35 [vR 193, vR r1, vI x2, vI x3, vI x4, vR (r1 + 3 + (x2).toNat), vI (I (r1 + 1) (x2).toNat), vU] [vR 24, vI (I 26 (x2).toNat), vI 12, vR 192] I K
  refine G_getR rc_48_35 s0_24 (by decide) rfl (by decide) ?_
  show GO S0 48 38 [vR 193, vR r1, vI x2, vI x3, vI x4, vR (r1 + 3 + (x2).toNat), vI (I (r1 + 1) (x2).toNat), vU] [vR 27, vI (I 26 (x2).toNat), vI 12, vR 192] I K
  refine G_loadI rc_48_38 rfl ?_
  refine G_ald rc_48_39 s0_27 (by omega) (by omega) ?_
  show GO S0 48 40 [vR 193, vR r1, vI x2, vI x3, vI x4, vR (r1 + 3 + (x2).toNat), vI (I (r1 + 1) (x2).toNat), vU] [vI (I 27 (x2).toNat), vI (I 26 (x2).toNat), vI 12, vR 192] I K
  refine G_call (as := [vR 192, vI 12, vI (I 26 (x2).toNat), vI (I 27 (x2).toNat)]) (rest := []) rc_48_40 rfl rfl rfl (Nat.le_of_ble_eq_true rfl) (g_recv s0_192 rfl) ?_
  refine GO.imp h (fun v I2 h => ?_)
  obtain ⟨rfl, h⟩ := h
  show GO S0 48 43 [vR 193, vR r1, vI x2, vI x3, vI x4, vR (r1 + 3 + (x2).toNat), vI (I (r1 + 1) (x2).toNat), vU] [] I2 K
  refine G_const rc_48_43 (by decide) ?_
  refine G_storeI rc_48_44 (Nat.le_of_ble_eq_true rfl) ?_
  show GO S0 48 46 [vR 193, vR r1, vI x2, vI x3, vI x4, vR (r1 + 3 + (x2).toNat), vI (I (r1 + 1) (x2).toNat), vI 0] [] I2 K
  exact h
/-! 49: RoundSlack$Piece.beginAt(III)V -/
def D49_0 (x1 : Int) (x2 : Int) (x3 : Int) (I : IM) (K : Option AV → IM → Prop) : Prop :=
  ∀ I1 : IM, I1 = iup I 192 1 x1 → ∀ I2 : IM, I2 = iup I1 192 2 x2 → ∀ I3 : IM, I3 = iup I2 192 3 x3 → (0 ≤ x1 ∧ x1 < 13) ∧ ∀ I5 : IM, I5 = iup I3 192 6 (I3 6 (x1).toNat) → ∀ I6 : IM, I6 = iup I5 192 7 0 → ∀ I7 : IM, I7 = iup I6 192 4 (I6 7 (x1).toNat) → ∀ I8 : IM, I8 = iup I7 192 5 (I7 8 (x1).toNat) → (if I8 192 4 ≤ I8 192 5 then (∀ I10 : IM, I10 = iup I8 192 8 (I8 192 5) → ∀ I11 : IM, I11 = iup I10 192 9 1 → K none I11) else (∀ I12 : IM, I12 = iup I8 192 8 (I8 192 4) → ∀ I13 : IM, I13 = iup I12 192 9 1 → K none I13))
set_option maxRecDepth 10000 in
theorem g49_0 (x1 : Int) (x2 : Int) (x3 : Int) (I : IM) (K : Option AV → IM → Prop) (h : D49_0 x1 x2 x3 I K) : GO S0 49 0 [vR 192, vI x1, vI x2, vI x3] [] I K := by
  unfold D49_0 at h
  refine G_loadR rc_49_0 rfl ?_
  refine G_loadI rc_49_1 rfl ?_
  refine G_putI rc_49_2 s0_192 (by decide) (Or.inl rfl) ?_
  show GO S0 49 5 [vR 192, vI x1, vI x2, vI x3] [] (iup I 192 1 x1) K
  have h := h _ rfl
  generalize iup I 192 1 x1 = I1 at h ⊢
  refine G_loadR rc_49_5 rfl ?_
  refine G_loadI rc_49_6 rfl ?_
  refine G_putI rc_49_7 s0_192 (by decide) (Or.inl rfl) ?_
  show GO S0 49 10 [vR 192, vI x1, vI x2, vI x3] [] (iup I1 192 2 x2) K
  have h := h _ rfl
  generalize iup I1 192 2 x2 = I2 at h ⊢
  refine G_loadR rc_49_10 rfl ?_
  refine G_loadI rc_49_11 rfl ?_
  refine G_putI rc_49_12 s0_192 (by decide) (Or.inl rfl) ?_
  show GO S0 49 15 [vR 192, vI x1, vI x2, vI x3] [] (iup I2 192 3 x3) K
  have h := h _ rfl
  generalize iup I2 192 3 x3 = I3 at h ⊢
  refine G_loadR rc_49_15 rfl ?_
  refine G_loadR rc_49_16 rfl ?_
  refine G_getR rc_49_17 s0_192 (by decide) rfl (by decide) ?_
  show GO S0 49 20 [vR 192, vI x1, vI x2, vI x3] [vR 1, vR 192] I3 K
  refine G_getR rc_49_20 s0_1 (by decide) rfl (by decide) ?_
  show GO S0 49 23 [vR 192, vI x1, vI x2, vI x3] [vR 6, vR 192] I3 K
  refine G_loadI rc_49_23 rfl ?_
  obtain ⟨c4, h⟩ := h
  refine G_ald rc_49_24 s0_6 (by omega) (by omega) ?_
  show GO S0 49 25 [vR 192, vI x1, vI x2, vI x3] [vI (I3 6 (x1).toNat), vR 192] I3 K
  refine G_putI rc_49_25 s0_192 (by decide) (Or.inl rfl) ?_
  show GO S0 49 28 [vR 192, vI x1, vI x2, vI x3] [] (iup I3 192 6 (I3 6 (x1).toNat)) K
  have h := h _ rfl
  generalize iup I3 192 6 (I3 6 (x1).toNat) = I5 at h ⊢
  refine G_loadR rc_49_28 rfl ?_
  refine G_const rc_49_29 (by decide) ?_
  refine G_putI rc_49_30 s0_192 (by decide) (Or.inl rfl) ?_
  show GO S0 49 33 [vR 192, vI x1, vI x2, vI x3] [] (iup I5 192 7 0) K
  have h := h _ rfl
  generalize iup I5 192 7 0 = I6 at h ⊢
  refine G_loadR rc_49_33 rfl ?_
  refine G_loadR rc_49_34 rfl ?_
  refine G_getR rc_49_35 s0_192 (by decide) rfl (by decide) ?_
  show GO S0 49 38 [vR 192, vI x1, vI x2, vI x3] [vR 1, vR 192] I6 K
  refine G_getR rc_49_38 s0_1 (by decide) rfl (by decide) ?_
  show GO S0 49 41 [vR 192, vI x1, vI x2, vI x3] [vR 7, vR 192] I6 K
  refine G_loadI rc_49_41 rfl ?_
  refine G_ald rc_49_42 s0_7 (by omega) (by omega) ?_
  show GO S0 49 43 [vR 192, vI x1, vI x2, vI x3] [vI (I6 7 (x1).toNat), vR 192] I6 K
  refine G_putI rc_49_43 s0_192 (by decide) (Or.inl rfl) ?_
  show GO S0 49 46 [vR 192, vI x1, vI x2, vI x3] [] (iup I6 192 4 (I6 7 (x1).toNat)) K
  have h := h _ rfl
  generalize iup I6 192 4 (I6 7 (x1).toNat) = I7 at h ⊢
  refine G_loadR rc_49_46 rfl ?_
  refine G_loadR rc_49_47 rfl ?_
  refine G_getR rc_49_48 s0_192 (by decide) rfl (by decide) ?_
  show GO S0 49 51 [vR 192, vI x1, vI x2, vI x3] [vR 1, vR 192] I7 K
  refine G_getR rc_49_51 s0_1 (by decide) rfl (by decide) ?_
  show GO S0 49 54 [vR 192, vI x1, vI x2, vI x3] [vR 8, vR 192] I7 K
  refine G_loadI rc_49_54 rfl ?_
  refine G_ald rc_49_55 s0_8 (by omega) (by omega) ?_
  show GO S0 49 56 [vR 192, vI x1, vI x2, vI x3] [vI (I7 8 (x1).toNat), vR 192] I7 K
  refine G_putI rc_49_56 s0_192 (by decide) (Or.inl rfl) ?_
  show GO S0 49 59 [vR 192, vI x1, vI x2, vI x3] [] (iup I7 192 5 (I7 8 (x1).toNat)) K
  have h := h _ rfl
  generalize iup I7 192 5 (I7 8 (x1).toNat) = I8 at h ⊢
  refine G_loadR rc_49_59 rfl ?_
  refine G_loadR rc_49_60 rfl ?_
  refine G_getI rc_49_61 s0_192 (by decide) ?_
  show GO S0 49 64 [vR 192, vI x1, vI x2, vI x3] [vI (I8 192 4), vR 192] I8 K
  refine G_loadR rc_49_64 rfl ?_
  refine G_getI rc_49_65 s0_192 (by decide) ?_
  show GO S0 49 68 [vR 192, vI x1, vI x2, vI x3] [vI (I8 192 5), vI (I8 192 4), vR 192] I8 K
  refine G_i2 (C := I8 192 4 ≤ I8 192 5) rc_49_68 rfl (fun c9 => ?_) (fun c9 => ?_)
  · rw [if_pos c9] at h
    show GO S0 49 78 [vR 192, vI x1, vI x2, vI x3] [vR 192] I8 K
    refine G_loadR rc_49_78 rfl ?_
    refine G_getI rc_49_79 s0_192 (by decide) ?_
    show GO S0 49 82 [vR 192, vI x1, vI x2, vI x3] [vI (I8 192 5), vR 192] I8 K
    refine G_putI rc_49_82 s0_192 (by decide) (Or.inl rfl) ?_
    show GO S0 49 85 [vR 192, vI x1, vI x2, vI x3] [] (iup I8 192 8 (I8 192 5)) K
    have h := h _ rfl
    generalize iup I8 192 8 (I8 192 5) = I10 at h ⊢
    refine G_loadR rc_49_85 rfl ?_
    refine G_const rc_49_86 (by decide) ?_
    refine G_putI rc_49_87 s0_192 (by decide) (Or.inr (by decide)) ?_
    show GO S0 49 90 [vR 192, vI x1, vI x2, vI x3] [] (iup I10 192 9 1) K
    have h := h _ rfl
    generalize iup I10 192 9 1 = I11 at h ⊢
    exact G_ret0 rc_49_90 h
  · rw [if_neg c9] at h
    show GO S0 49 71 [vR 192, vI x1, vI x2, vI x3] [vR 192] I8 K
    refine G_loadR rc_49_71 rfl ?_
    refine G_getI rc_49_72 s0_192 (by decide) ?_
    show GO S0 49 75 [vR 192, vI x1, vI x2, vI x3] [vI (I8 192 4), vR 192] I8 K
    refine G_goto rc_49_75 ?_
    show GO S0 49 82 [vR 192, vI x1, vI x2, vI x3] [vI (I8 192 4), vR 192] I8 K
    refine G_putI rc_49_82 s0_192 (by decide) (Or.inl rfl) ?_
    show GO S0 49 85 [vR 192, vI x1, vI x2, vI x3] [] (iup I8 192 8 (I8 192 4)) K
    have h := h _ rfl
    generalize iup I8 192 8 (I8 192 4) = I12 at h ⊢
    refine G_loadR rc_49_85 rfl ?_
    refine G_const rc_49_86 (by decide) ?_
    refine G_putI rc_49_87 s0_192 (by decide) (Or.inr (by decide)) ?_
    show GO S0 49 90 [vR 192, vI x1, vI x2, vI x3] [] (iup I12 192 9 1) K
    have h := h _ rfl
    generalize iup I12 192 9 1 = I13 at h ⊢
    exact G_ret0 rc_49_90 h
/-! 50: RoundSlack$Piece.goOn(II)V -/
def D50_244 (x1 : Int) (x2 : Int) (x3 : Int) (x4 : Int) (x5 : Int) (x6 : Int) (x7 : Int) (x8 : Int) (x9 : Int) (x10 : Int) (t1 : Int) (I : IM) (K : Option AV → IM → Prop) : Prop :=
  ∀ I1 : IM, I1 = iup I 192 8 t1 → (inR ((I1 192 4) + x5)) ∧ ∀ I3 : IM, I3 = iup I1 192 4 ((I1 192 4) + x5) → (inR ((I3 192 5) + x6)) ∧ ∀ I5 : IM, I5 = iup I3 192 5 ((I3 192 5) + x6) → ∀ I6 : IM, I6 = iup I5 192 1 x1 → K none I6
set_option maxRecDepth 10000 in
theorem g50_244 (x1 : Int) (x2 : Int) (x3 : Int) (x4 : Int) (x5 : Int) (x6 : Int) (x7 : Int) (x8 : Int) (x9 : Int) (x10 : Int) (t1 : Int) (I : IM) (K : Option AV → IM → Prop) (h : D50_244 x1 x2 x3 x4 x5 x6 x7 x8 x9 x10 t1 I K) : GO S0 50 244 [vR 192, vI x1, vI x2, vI x3, vI x4, vI x5, vI x6, vI x7, vI x8, vI x9, vI x10] [vI t1, vR 192] I K := by
  unfold D50_244 at h
  refine G_putI rc_50_244 s0_192 (by decide) (Or.inl rfl) ?_
  show GO S0 50 247 [vR 192, vI x1, vI x2, vI x3, vI x4, vI x5, vI x6, vI x7, vI x8, vI x9, vI x10] [] (iup I 192 8 t1) K
  have h := h _ rfl
  generalize iup I 192 8 t1 = I1 at h ⊢
  refine G_loadR rc_50_247 rfl ?_
  refine G_dupR rc_50_248 ?_
  refine G_getI rc_50_249 s0_192 (by decide) ?_
  show GO S0 50 252 [vR 192, vI x1, vI x2, vI x3, vI x4, vI x5, vI x6, vI x7, vI x8, vI x9, vI x10] [vI (I1 192 4), vR 192] I1 K
  refine G_loadI rc_50_252 rfl ?_
  obtain ⟨c2, h⟩ := h
  refine G_bop (z := (I1 192 4) + x5) rc_50_254 (if_pos c2) ?_
  show GO S0 50 255 [vR 192, vI x1, vI x2, vI x3, vI x4, vI x5, vI x6, vI x7, vI x8, vI x9, vI x10] [vI ((I1 192 4) + x5), vR 192] I1 K
  refine G_putI rc_50_255 s0_192 (by decide) (Or.inl rfl) ?_
  show GO S0 50 258 [vR 192, vI x1, vI x2, vI x3, vI x4, vI x5, vI x6, vI x7, vI x8, vI x9, vI x10] [] (iup I1 192 4 ((I1 192 4) + x5)) K
  have h := h _ rfl
  generalize iup I1 192 4 ((I1 192 4) + x5) = I3 at h ⊢
  refine G_loadR rc_50_258 rfl ?_
  refine G_dupR rc_50_259 ?_
  refine G_getI rc_50_260 s0_192 (by decide) ?_
  show GO S0 50 263 [vR 192, vI x1, vI x2, vI x3, vI x4, vI x5, vI x6, vI x7, vI x8, vI x9, vI x10] [vI (I3 192 5), vR 192] I3 K
  refine G_loadI rc_50_263 rfl ?_
  obtain ⟨c4, h⟩ := h
  refine G_bop (z := (I3 192 5) + x6) rc_50_265 (if_pos c4) ?_
  show GO S0 50 266 [vR 192, vI x1, vI x2, vI x3, vI x4, vI x5, vI x6, vI x7, vI x8, vI x9, vI x10] [vI ((I3 192 5) + x6), vR 192] I3 K
  refine G_putI rc_50_266 s0_192 (by decide) (Or.inl rfl) ?_
  show GO S0 50 269 [vR 192, vI x1, vI x2, vI x3, vI x4, vI x5, vI x6, vI x7, vI x8, vI x9, vI x10] [] (iup I3 192 5 ((I3 192 5) + x6)) K
  have h := h _ rfl
  generalize iup I3 192 5 ((I3 192 5) + x6) = I5 at h ⊢
  refine G_loadR rc_50_269 rfl ?_
  refine G_loadI rc_50_270 rfl ?_
  refine G_putI rc_50_271 s0_192 (by decide) (Or.inl rfl) ?_
  show GO S0 50 274 [vR 192, vI x1, vI x2, vI x3, vI x4, vI x5, vI x6, vI x7, vI x8, vI x9, vI x10] [] (iup I5 192 1 x1) K
  have h := h _ rfl
  generalize iup I5 192 1 x1 = I6 at h ⊢
  exact G_ret0 rc_50_274 h
def D50_226 (x1 : Int) (x2 : Int) (x3 : Int) (x4 : Int) (x5 : Int) (x6 : Int) (x7 : Int) (x8 : Int) (x9 : Int) (u10 : AV) (t0 : Int) (t1 : Int) (I : IM) (K : Option AV → IM → Prop) : Prop :=
  (inR (t0 + t1)) ∧ (if x9 ≤ t0 + t1 then (D50_244 x1 x2 x3 x4 x5 x6 x7 x8 x9 (t0 + t1) (t0 + t1) I K) else (D50_244 x1 x2 x3 x4 x5 x6 x7 x8 x9 (t0 + t1) x9 I K))
set_option maxRecDepth 10000 in
theorem g50_226 (x1 : Int) (x2 : Int) (x3 : Int) (x4 : Int) (x5 : Int) (x6 : Int) (x7 : Int) (x8 : Int) (x9 : Int) (u10 : AV) (t0 : Int) (t1 : Int) (I : IM) (K : Option AV → IM → Prop) (h : D50_226 x1 x2 x3 x4 x5 x6 x7 x8 x9 u10 t0 t1 I K) : GO S0 50 226 [vR 192, vI x1, vI x2, vI x3, vI x4, vI x5, vI x6, vI x7, vI x8, vI x9, u10] [vI t1, vI t0] I K := by
  unfold D50_226 at h
  obtain ⟨c1, h⟩ := h
  refine G_bop (z := t0 + t1) rc_50_226 (if_pos c1) ?_
  show GO S0 50 227 [vR 192, vI x1, vI x2, vI x3, vI x4, vI x5, vI x6, vI x7, vI x8, vI x9, u10] [vI (t0 + t1)] I K
  refine G_storeI rc_50_227 (Nat.le_of_ble_eq_true rfl) ?_
  show GO S0 50 229 [vR 192, vI x1, vI x2, vI x3, vI x4, vI x5, vI x6, vI x7, vI x8, vI x9, vI (t0 + t1)] [] I K
  refine G_loadR rc_50_229 rfl ?_
  refine G_loadI rc_50_230 rfl ?_
  refine G_loadI rc_50_232 rfl ?_
  refine G_i2 (C := x9 ≤ t0 + t1) rc_50_234 rfl (fun c2 => ?_) (fun c2 => ?_)
  · rw [if_pos c2] at h
    show GO S0 50 242 [vR 192, vI x1, vI x2, vI x3, vI x4, vI x5, vI x6, vI x7, vI x8, vI x9, vI (t0 + t1)] [vR 192] I K
    refine G_loadI rc_50_242 rfl ?_
    exact g50_244 x1 x2 x3 x4 x5 x6 x7 x8 x9 (t0 + t1) (t0 + t1) I K h
  · rw [if_neg c2] at h
    show GO S0 50 237 [vR 192, vI x1, vI x2, vI x3, vI x4, vI x5, vI x6, vI x7, vI x8, vI x9, vI (t0 + t1)] [vR 192] I K
    refine G_loadI rc_50_237 rfl ?_
    refine G_goto rc_50_239 ?_
    show GO S0 50 244 [vR 192, vI x1, vI x2, vI x3, vI x4, vI x5, vI x6, vI x7, vI x8, vI x9, vI (t0 + t1)] [vI x9, vR 192] I K
    exact g50_244 x1 x2 x3 x4 x5 x6 x7 x8 x9 (t0 + t1) x9 I K h
def D50_189 (x1 : Int) (x2 : Int) (x3 : Int) (x4 : Int) (x5 : Int) (x6 : Int) (x7 : Int) (x8 : Int) (u9 : AV) (u10 : AV) (I : IM) (K : Option AV → IM → Prop) : Prop :=
  (inR ((I 192 7) + x3)) ∧ ∀ I2 : IM, I2 = iup I 192 7 ((I 192 7) + x3) → (inR ((I2 192 8) + x5)) ∧ (if x5 ≤ x6 then (D50_226 x1 x2 x3 x4 x5 x6 x7 x8 ((I2 192 8) + x5) (u10) (I2 192 5) x6 I2 K) else (D50_226 x1 x2 x3 x4 x5 x6 x7 x8 ((I2 192 8) + x5) (u10) (I2 192 5) x5 I2 K))
set_option maxRecDepth 10000 in
theorem g50_189 (x1 : Int) (x2 : Int) (x3 : Int) (x4 : Int) (x5 : Int) (x6 : Int) (x7 : Int) (x8 : Int) (u9 : AV) (u10 : AV) (I : IM) (K : Option AV → IM → Prop) (h : D50_189 x1 x2 x3 x4 x5 x6 x7 x8 u9 u10 I K) : GO S0 50 189 [vR 192, vI x1, vI x2, vI x3, vI x4, vI x5, vI x6, vI x7, vI x8, u9, u10] [] I K := by
  unfold D50_189 at h
  refine G_loadR rc_50_189 rfl ?_
  refine G_dupR rc_50_190 ?_
  refine G_getI rc_50_191 s0_192 (by decide) ?_
  show GO S0 50 194 [vR 192, vI x1, vI x2, vI x3, vI x4, vI x5, vI x6, vI x7, vI x8, u9, u10] [vI (I 192 7), vR 192] I K
  refine G_loadI rc_50_194 rfl ?_
  obtain ⟨c1, h⟩ := h
  refine G_bop (z := (I 192 7) + x3) rc_50_195 (if_pos c1) ?_
  show GO S0 50 196 [vR 192, vI x1, vI x2, vI x3, vI x4, vI x5, vI x6, vI x7, vI x8, u9, u10] [vI ((I 192 7) + x3), vR 192] I K
  refine G_putI rc_50_196 s0_192 (by decide) (Or.inl rfl) ?_
  show GO S0 50 199 [vR 192, vI x1, vI x2, vI x3, vI x4, vI x5, vI x6, vI x7, vI x8, u9, u10] [] (iup I 192 7 ((I 192 7) + x3)) K
  have h := h _ rfl
  generalize iup I 192 7 ((I 192 7) + x3) = I2 at h ⊢
  refine G_loadR rc_50_199 rfl ?_
  refine G_getI rc_50_200 s0_192 (by decide) ?_
  show GO S0 50 203 [vR 192, vI x1, vI x2, vI x3, vI x4, vI x5, vI x6, vI x7, vI x8, u9, u10] [vI (I2 192 8)] I2 K
  refine G_loadI rc_50_203 rfl ?_
  obtain ⟨c3, h⟩ := h
  refine G_bop (z := (I2 192 8) + x5) rc_50_205 (if_pos c3) ?_
  show GO S0 50 206 [vR 192, vI x1, vI x2, vI x3, vI x4, vI x5, vI x6, vI x7, vI x8, u9, u10] [vI ((I2 192 8) + x5)] I2 K
  refine G_storeI rc_50_206 (Nat.le_of_ble_eq_true rfl) ?_
  show GO S0 50 208 [vR 192, vI x1, vI x2, vI x3, vI x4, vI x5, vI x6, vI x7, vI x8, vI ((I2 192 8) + x5), u10] [] I2 K
  refine G_loadR rc_50_208 rfl ?_
  refine G_getI rc_50_209 s0_192 (by decide) ?_
  show GO S0 50 212 [vR 192, vI x1, vI x2, vI x3, vI x4, vI x5, vI x6, vI x7, vI x8, vI ((I2 192 8) + x5), u10] [vI (I2 192 5)] I2 K
  refine G_loadI rc_50_212 rfl ?_
  refine G_loadI rc_50_214 rfl ?_
  refine G_i2 (C := x5 ≤ x6) rc_50_216 rfl (fun c4 => ?_) (fun c4 => ?_)
  · rw [if_pos c4] at h
    show GO S0 50 224 [vR 192, vI x1, vI x2, vI x3, vI x4, vI x5, vI x6, vI x7, vI x8, vI ((I2 192 8) + x5), u10] [vI (I2 192 5)] I2 K
    refine G_loadI rc_50_224 rfl ?_
    exact g50_226 x1 x2 x3 x4 x5 x6 x7 x8 ((I2 192 8) + x5) (u10) (I2 192 5) x6 I2 K h
  · rw [if_neg c4] at h
    show GO S0 50 219 [vR 192, vI x1, vI x2, vI x3, vI x4, vI x5, vI x6, vI x7, vI x8, vI ((I2 192 8) + x5), u10] [vI (I2 192 5)] I2 K
    refine G_loadI rc_50_219 rfl ?_
    refine G_goto rc_50_221 ?_
    show GO S0 50 226 [vR 192, vI x1, vI x2, vI x3, vI x4, vI x5, vI x6, vI x7, vI x8, vI ((I2 192 8) + x5), u10] [vI x5, vI (I2 192 5)] I2 K
    exact g50_226 x1 x2 x3 x4 x5 x6 x7 x8 ((I2 192 8) + x5) (u10) (I2 192 5) x5 I2 K h
def D50_170 (x1 : Int) (x2 : Int) (x3 : Int) (x4 : Int) (x5 : Int) (x6 : Int) (x7 : Int) (x8 : Int) (u9 : AV) (u10 : AV) (t1 : Int) (I : IM) (K : Option AV → IM → Prop) : Prop :=
  ∀ I1 : IM, I1 = iup I 192 3 t1 → (0 ≤ x1 ∧ x1 < 13) ∧ (inR (x7 + (I1 6 (x1).toNat))) ∧ ∀ I4 : IM, I4 = iup I1 192 6 (x7 + (I1 6 (x1).toNat)) → D50_189 x1 x2 x3 x4 x5 x6 x7 x8 (u9) (u10) I4 K
set_option maxRecDepth 10000 in
theorem g50_170 (x1 : Int) (x2 : Int) (x3 : Int) (x4 : Int) (x5 : Int) (x6 : Int) (x7 : Int) (x8 : Int) (u9 : AV) (u10 : AV) (t1 : Int) (I : IM) (K : Option AV → IM → Prop) (h : D50_170 x1 x2 x3 x4 x5 x6 x7 x8 u9 u10 t1 I K) : GO S0 50 170 [vR 192, vI x1, vI x2, vI x3, vI x4, vI x5, vI x6, vI x7, vI x8, u9, u10] [vI t1, vR 192] I K := by
  unfold D50_170 at h
  refine G_putI rc_50_170 s0_192 (by decide) (Or.inl rfl) ?_
  show GO S0 50 173 [vR 192, vI x1, vI x2, vI x3, vI x4, vI x5, vI x6, vI x7, vI x8, u9, u10] [] (iup I 192 3 t1) K
  have h := h _ rfl
  generalize iup I 192 3 t1 = I1 at h ⊢
  refine G_loadR rc_50_173 rfl ?_
  refine G_loadI rc_50_174 rfl ?_
  refine G_loadR rc_50_176 rfl ?_
  refine G_getR rc_50_177 s0_192 (by decide) rfl (by decide) ?_
  show GO S0 50 180 [vR 192, vI x1, vI x2, vI x3, vI x4, vI x5, vI x6, vI x7, vI x8, u9, u10] [vR 1, vI x7, vR 192] I1 K
  refine G_getR rc_50_180 s0_1 (by decide) rfl (by decide) ?_
  show GO S0 50 183 [vR 192, vI x1, vI x2, vI x3, vI x4, vI x5, vI x6, vI x7, vI x8, u9, u10] [vR 6, vI x7, vR 192] I1 K
  refine G_loadI rc_50_183 rfl ?_
  obtain ⟨c2, h⟩ := h
  refine G_ald rc_50_184 s0_6 (by omega) (by omega) ?_
  show GO S0 50 185 [vR 192, vI x1, vI x2, vI x3, vI x4, vI x5, vI x6, vI x7, vI x8, u9, u10] [vI (I1 6 (x1).toNat), vI x7, vR 192] I1 K
  obtain ⟨c3, h⟩ := h
  refine G_bop (z := x7 + (I1 6 (x1).toNat)) rc_50_185 (if_pos c3) ?_
  show GO S0 50 186 [vR 192, vI x1, vI x2, vI x3, vI x4, vI x5, vI x6, vI x7, vI x8, u9, u10] [vI (x7 + (I1 6 (x1).toNat)), vR 192] I1 K
  refine G_putI rc_50_186 s0_192 (by decide) (Or.inl rfl) ?_
  show GO S0 50 189 [vR 192, vI x1, vI x2, vI x3, vI x4, vI x5, vI x6, vI x7, vI x8, u9, u10] [] (iup I1 192 6 (x7 + (I1 6 (x1).toNat))) K
  have h := h _ rfl
  generalize iup I1 192 6 (x7 + (I1 6 (x1).toNat)) = I4 at h ⊢
  exact g50_189 x1 x2 x3 x4 x5 x6 x7 x8 (u9) (u10) I4 K h
def D50_144 (x1 : Int) (x2 : Int) (x3 : Int) (x4 : Int) (x5 : Int) (x6 : Int) (x7 : Int) (x8 : Int) (u9 : AV) (u10 : AV) (t1 : Int) (I : IM) (K : Option AV → IM → Prop) : Prop :=
  ∀ I1 : IM, I1 = iup I 192 2 t1 → (inR (x2 - x7)) ∧ (if I1 192 3 ≤ x2 - x7 then (D50_170 x1 x2 x3 x4 x5 x6 x7 x8 (u9) (u10) (I1 192 3) I1 K) else (D50_170 x1 x2 x3 x4 x5 x6 x7 x8 (u9) (u10) (x2 - x7) I1 K))
set_option maxRecDepth 10000 in
theorem g50_144 (x1 : Int) (x2 : Int) (x3 : Int) (x4 : Int) (x5 : Int) (x6 : Int) (x7 : Int) (x8 : Int) (u9 : AV) (u10 : AV) (t1 : Int) (I : IM) (K : Option AV → IM → Prop) (h : D50_144 x1 x2 x3 x4 x5 x6 x7 x8 u9 u10 t1 I K) : GO S0 50 144 [vR 192, vI x1, vI x2, vI x3, vI x4, vI x5, vI x6, vI x7, vI x8, u9, u10] [vI t1, vR 192] I K := by
  unfold D50_144 at h
  refine G_putI rc_50_144 s0_192 (by decide) (Or.inl rfl) ?_
  show GO S0 50 147 [vR 192, vI x1, vI x2, vI x3, vI x4, vI x5, vI x6, vI x7, vI x8, u9, u10] [] (iup I 192 2 t1) K
  have h := h _ rfl
  generalize iup I 192 2 t1 = I1 at h ⊢
  refine G_loadR rc_50_147 rfl ?_
  refine G_loadI rc_50_148 rfl ?_
  refine G_loadI rc_50_149 rfl ?_
  obtain ⟨c2, h⟩ := h
  refine G_bop (z := x2 - x7) rc_50_151 (if_pos c2) ?_
  show GO S0 50 152 [vR 192, vI x1, vI x2, vI x3, vI x4, vI x5, vI x6, vI x7, vI x8, u9, u10] [vI (x2 - x7), vR 192] I1 K
  refine G_loadR rc_50_152 rfl ?_
  refine G_getI rc_50_153 s0_192 (by decide) ?_
  show GO S0 50 156 [vR 192, vI x1, vI x2, vI x3, vI x4, vI x5, vI x6, vI x7, vI x8, u9, u10] [vI (I1 192 3), vI (x2 - x7), vR 192] I1 K
  refine G_i2 (C := I1 192 3 ≤ x2 - x7) rc_50_156 rfl (fun c3 => ?_) (fun c3 => ?_)
  · rw [if_pos c3] at h
    show GO S0 50 166 [vR 192, vI x1, vI x2, vI x3, vI x4, vI x5, vI x6, vI x7, vI x8, u9, u10] [vR 192] I1 K
    refine G_loadR rc_50_166 rfl ?_
    refine G_getI rc_50_167 s0_192 (by decide) ?_
    show GO S0 50 170 [vR 192, vI x1, vI x2, vI x3, vI x4, vI x5, vI x6, vI x7, vI x8, u9, u10] [vI (I1 192 3), vR 192] I1 K
    exact g50_170 x1 x2 x3 x4 x5 x6 x7 x8 (u9) (u10) (I1 192 3) I1 K h
  · rw [if_neg c3] at h
    show GO S0 50 159 [vR 192, vI x1, vI x2, vI x3, vI x4, vI x5, vI x6, vI x7, vI x8, u9, u10] [vR 192] I1 K
    refine G_loadI rc_50_159 rfl ?_
    refine G_loadI rc_50_160 rfl ?_
    refine G_bop (z := x2 - x7) rc_50_162 (if_pos c2) ?_
    show GO S0 50 163 [vR 192, vI x1, vI x2, vI x3, vI x4, vI x5, vI x6, vI x7, vI x8, u9, u10] [vI (x2 - x7), vR 192] I1 K
    refine G_goto rc_50_163 ?_
    show GO S0 50 170 [vR 192, vI x1, vI x2, vI x3, vI x4, vI x5, vI x6, vI x7, vI x8, u9, u10] [vI (x2 - x7), vR 192] I1 K
    exact g50_170 x1 x2 x3 x4 x5 x6 x7 x8 (u9) (u10) (x2 - x7) I1 K h
def D50_72 (x1 : Int) (x2 : Int) (x3 : Int) (x4 : Int) (x5 : Int) (x6 : Int) (x7 : Int) (u8 : AV) (u9 : AV) (u10 : AV) (I : IM) (K : Option AV → IM → Prop) : Prop :=
  (inR (x4 - x7)) ∧ (inR ((x4 - x7) - (I 192 3))) ∧ (if (x4 - x7) - (I 192 3) ≤ 0 then ((if x4 - x7 ≤ I 192 2 then (D50_144 x1 x2 x3 x4 x5 x6 x7 ((x4 - x7) - (I 192 3)) (u9) (u10) (I 192 2) I K) else (D50_144 x1 x2 x3 x4 x5 x6 x7 ((x4 - x7) - (I 192 3)) (u9) (u10) (x4 - x7) I K))) else (∀ I5 : IM, I5 = iup I 192 2 (I 192 3) → (inR (x7 + ((x4 - x7) - (I 192 3)))) ∧ (0 ≤ x1 ∧ x1 < 13) ∧ (inR ((x7 + ((x4 - x7) - (I 192 3))) + (I5 6 (x1).toNat))) ∧ ∀ I9 : IM, I9 = iup I5 192 6 ((x7 + ((x4 - x7) - (I 192 3))) + (I5 6 (x1).toNat)) → D50_189 x1 x2 x3 x4 x5 x6 x7 ((x4 - x7) - (I 192 3)) (u9) (u10) I9 K))
set_option maxRecDepth 10000 in
theorem g50_72 (x1 : Int) (x2 : Int) (x3 : Int) (x4 : Int) (x5 : Int) (x6 : Int) (x7 : Int) (u8 : AV) (u9 : AV) (u10 : AV) (I : IM) (K : Option AV → IM → Prop) (h : D50_72 x1 x2 x3 x4 x5 x6 x7 u8 u9 u10 I K) : GO S0 50 72 [vR 192, vI x1, vI x2, vI x3, vI x4, vI x5, vI x6, vI x7, u8, u9, u10] [] I K := by
  unfold D50_72 at h
  refine G_loadI rc_50_72 rfl ?_
  refine G_loadI rc_50_74 rfl ?_
  obtain ⟨c1, h⟩ := h
  refine G_bop (z := x4 - x7) rc_50_76 (if_pos c1) ?_
  show GO S0 50 77 [vR 192, vI x1, vI x2, vI x3, vI x4, vI x5, vI x6, vI x7, u8, u9, u10] [vI (x4 - x7)] I K
  refine G_loadR rc_50_77 rfl ?_
  refine G_getI rc_50_78 s0_192 (by decide) ?_
  show GO S0 50 81 [vR 192, vI x1, vI x2, vI x3, vI x4, vI x5, vI x6, vI x7, u8, u9, u10] [vI (I 192 3), vI (x4 - x7)] I K
  obtain ⟨c2, h⟩ := h
  refine G_bop (z := (x4 - x7) - (I 192 3)) rc_50_81 (if_pos c2) ?_
  show GO S0 50 82 [vR 192, vI x1, vI x2, vI x3, vI x4, vI x5, vI x6, vI x7, u8, u9, u10] [vI ((x4 - x7) - (I 192 3))] I K
  refine G_storeI rc_50_82 (Nat.le_of_ble_eq_true rfl) ?_
  show GO S0 50 84 [vR 192, vI x1, vI x2, vI x3, vI x4, vI x5, vI x6, vI x7, vI ((x4 - x7) - (I 192 3)), u9, u10] [] I K
  refine G_loadI rc_50_84 rfl ?_
  refine G_i1 (C := (x4 - x7) - (I 192 3) ≤ 0) rc_50_86 rfl (fun c3 => ?_) (fun c3 => ?_)
  · rw [if_pos c3] at h
    show GO S0 50 119 [vR 192, vI x1, vI x2, vI x3, vI x4, vI x5, vI x6, vI x7, vI ((x4 - x7) - (I 192 3)), u9, u10] [] I K
    refine G_loadR rc_50_119 rfl ?_
    refine G_loadI rc_50_120 rfl ?_
    refine G_loadI rc_50_122 rfl ?_
    refine G_bop (z := x4 - x7) rc_50_124 (if_pos c1) ?_
    show GO S0 50 125 [vR 192, vI x1, vI x2, vI x3, vI x4, vI x5, vI x6, vI x7, vI ((x4 - x7) - (I 192 3)), u9, u10] [vI (x4 - x7), vR 192] I K
    refine G_loadR rc_50_125 rfl ?_
    refine G_getI rc_50_126 s0_192 (by decide) ?_
    show GO S0 50 129 [vR 192, vI x1, vI x2, vI x3, vI x4, vI x5, vI x6, vI x7, vI ((x4 - x7) - (I 192 3)), u9, u10] [vI (I 192 2), vI (x4 - x7), vR 192] I K
    refine G_i2 (C := x4 - x7 ≤ I 192 2) rc_50_129 rfl (fun c4 => ?_) (fun c4 => ?_)
    · rw [if_pos c4] at h
      show GO S0 50 140 [vR 192, vI x1, vI x2, vI x3, vI x4, vI x5, vI x6, vI x7, vI ((x4 - x7) - (I 192 3)), u9, u10] [vR 192] I K
      refine G_loadR rc_50_140 rfl ?_
      refine G_getI rc_50_141 s0_192 (by decide) ?_
      show GO S0 50 144 [vR 192, vI x1, vI x2, vI x3, vI x4, vI x5, vI x6, vI x7, vI ((x4 - x7) - (I 192 3)), u9, u10] [vI (I 192 2), vR 192] I K
      exact g50_144 x1 x2 x3 x4 x5 x6 x7 ((x4 - x7) - (I 192 3)) (u9) (u10) (I 192 2) I K h
    · rw [if_neg c4] at h
      show GO S0 50 132 [vR 192, vI x1, vI x2, vI x3, vI x4, vI x5, vI x6, vI x7, vI ((x4 - x7) - (I 192 3)), u9, u10] [vR 192] I K
      refine G_loadI rc_50_132 rfl ?_
      refine G_loadI rc_50_134 rfl ?_
      refine G_bop (z := x4 - x7) rc_50_136 (if_pos c1) ?_
      show GO S0 50 137 [vR 192, vI x1, vI x2, vI x3, vI x4, vI x5, vI x6, vI x7, vI ((x4 - x7) - (I 192 3)), u9, u10] [vI (x4 - x7), vR 192] I K
      refine G_goto rc_50_137 ?_
      show GO S0 50 144 [vR 192, vI x1, vI x2, vI x3, vI x4, vI x5, vI x6, vI x7, vI ((x4 - x7) - (I 192 3)), u9, u10] [vI (x4 - x7), vR 192] I K
      exact g50_144 x1 x2 x3 x4 x5 x6 x7 ((x4 - x7) - (I 192 3)) (u9) (u10) (x4 - x7) I K h
  · rw [if_neg c3] at h
    show GO S0 50 89 [vR 192, vI x1, vI x2, vI x3, vI x4, vI x5, vI x6, vI x7, vI ((x4 - x7) - (I 192 3)), u9, u10] [] I K
    refine G_loadR rc_50_89 rfl ?_
    refine G_loadR rc_50_90 rfl ?_
    refine G_getI rc_50_91 s0_192 (by decide) ?_
    show GO S0 50 94 [vR 192, vI x1, vI x2, vI x3, vI x4, vI x5, vI x6, vI x7, vI ((x4 - x7) - (I 192 3)), u9, u10] [vI (I 192 3), vR 192] I K
    refine G_putI rc_50_94 s0_192 (by decide) (Or.inl rfl) ?_
    show GO S0 50 97 [vR 192, vI x1, vI x2, vI x3, vI x4, vI x5, vI x6, vI x7, vI ((x4 - x7) - (I 192 3)), u9, u10] [] (iup I 192 2 (I 192 3)) K
    have h := h _ rfl
    generalize iup I 192 2 (I 192 3) = I5 at h ⊢
    refine G_loadR rc_50_97 rfl ?_
    refine G_loadI rc_50_98 rfl ?_
    refine G_loadI rc_50_100 rfl ?_
    obtain ⟨c6, h⟩ := h
    refine G_bop (z := x7 + ((x4 - x7) - (I 192 3))) rc_50_102 (if_pos c6) ?_
    show GO S0 50 103 [vR 192, vI x1, vI x2, vI x3, vI x4, vI x5, vI x6, vI x7, vI ((x4 - x7) - (I 192 3)), u9, u10] [vI (x7 + ((x4 - x7) - (I 192 3))), vR 192] I5 K
    refine G_loadR rc_50_103 rfl ?_
    refine G_getR rc_50_104 s0_192 (by decide) rfl (by decide) ?_
    show GO S0 50 107 [vR 192, vI x1, vI x2, vI x3, vI x4, vI x5, vI x6, vI x7, vI ((x4 - x7) - (I 192 3)), u9, u10] [vR 1, vI (x7 + ((x4 - x7) - (I 192 3))), vR 192] I5 K
    refine G_getR rc_50_107 s0_1 (by decide) rfl (by decide) ?_
    show GO S0 50 110 [vR 192, vI x1, vI x2, vI x3, vI x4, vI x5, vI x6, vI x7, vI ((x4 - x7) - (I 192 3)), u9, u10] [vR 6, vI (x7 + ((x4 - x7) - (I 192 3))), vR 192] I5 K
    refine G_loadI rc_50_110 rfl ?_
    obtain ⟨c7, h⟩ := h
    refine G_ald rc_50_111 s0_6 (by omega) (by omega) ?_
    show GO S0 50 112 [vR 192, vI x1, vI x2, vI x3, vI x4, vI x5, vI x6, vI x7, vI ((x4 - x7) - (I 192 3)), u9, u10] [vI (I5 6 (x1).toNat), vI (x7 + ((x4 - x7) - (I 192 3))), vR 192] I5 K
    obtain ⟨c8, h⟩ := h
    refine G_bop (z := (x7 + ((x4 - x7) - (I 192 3))) + (I5 6 (x1).toNat)) rc_50_112 (if_pos c8) ?_
    show GO S0 50 113 [vR 192, vI x1, vI x2, vI x3, vI x4, vI x5, vI x6, vI x7, vI ((x4 - x7) - (I 192 3)), u9, u10] [vI ((x7 + ((x4 - x7) - (I 192 3))) + (I5 6 (x1).toNat)), vR 192] I5 K
    refine G_putI rc_50_113 s0_192 (by decide) (Or.inl rfl) ?_
    show GO S0 50 116 [vR 192, vI x1, vI x2, vI x3, vI x4, vI x5, vI x6, vI x7, vI ((x4 - x7) - (I 192 3)), u9, u10] [] (iup I5 192 6 ((x7 + ((x4 - x7) - (I 192 3))) + (I5 6 (x1).toNat))) K
    have h := h _ rfl
    generalize iup I5 192 6 ((x7 + ((x4 - x7) - (I 192 3))) + (I5 6 (x1).toNat)) = I9 at h ⊢
    refine G_goto rc_50_116 ?_
    show GO S0 50 189 [vR 192, vI x1, vI x2, vI x3, vI x4, vI x5, vI x6, vI x7, vI ((x4 - x7) - (I 192 3)), u9, u10] [] I9 K
    exact g50_189 x1 x2 x3 x4 x5 x6 x7 ((x4 - x7) - (I 192 3)) (u9) (u10) I9 K h
def D50_0 (x1 : Int) (x2 : Int) (I : IM) (K : Option AV → IM → Prop) : Prop :=
  (0 ≤ I 192 1 ∧ I 192 1 < 13) ∧ (0 ≤ x1 ∧ x1 < 13) ∧ (inR ((I 192 6) + (I (1 + 10 + (I 192 1).toNat) (x1).toNat))) ∧ (inR ((I 192 2) + ((I 192 6) + (I (1 + 10 + (I 192 1).toNat) (x1).toNat)))) ∧ (if (I 192 2) + ((I 192 6) + (I (1 + 10 + (I 192 1).toNat) (x1).toNat)) ≤ x2 then (D50_72 x1 x2 (I (1 + 10 + (I 192 1).toNat) (x1).toNat) (I 4 (x1).toNat) (I 7 (x1).toNat) (I 8 (x1).toNat) ((I 192 6) + (I (1 + 10 + (I 192 1).toNat) (x1).toNat)) (vU) (vU) (vU) I K) else (∀ I6 : IM, I6 = iup I 192 9 0 → D50_72 x1 x2 (I (1 + 10 + (I 192 1).toNat) (x1).toNat) (I 4 (x1).toNat) (I 7 (x1).toNat) (I 8 (x1).toNat) ((I 192 6) + (I (1 + 10 + (I 192 1).toNat) (x1).toNat)) (vU) (vU) (vU) I6 K))
set_option maxRecDepth 10000 in
theorem g50_0 (x1 : Int) (x2 : Int) (I : IM) (K : Option AV → IM → Prop) (h : D50_0 x1 x2 I K) : GO S0 50 0 [vR 192, vI x1, vI x2, vU, vU, vU, vU, vU, vU, vU, vU] [] I K := by
  unfold D50_0 at h
  refine G_loadR rc_50_0 rfl ?_
  refine G_getR rc_50_1 s0_192 (by decide) rfl (by decide) ?_
  show GO S0 50 4 [vR 192, vI x1, vI x2, vU, vU, vU, vU, vU, vU, vU, vU] [vR 1] I K
  refine G_getR rc_50_4 s0_1 (by decide) rfl (by decide) ?_
  show GO S0 50 7 [vR 192, vI x1, vI x2, vU, vU, vU, vU, vU, vU, vU, vU] [vR 10] I K
  refine G_loadR rc_50_7 rfl ?_
  refine G_getI rc_50_8 s0_192 (by decide) ?_
  show GO S0 50 11 [vR 192, vI x1, vI x2, vU, vU, vU, vU, vU, vU, vU, vU] [vI (I 192 1), vR 10] I K
  obtain ⟨c1, h⟩ := h
  refine G_aldR rc_50_11 s0_10 (Or.inl rfl) (by omega) (by omega) (lrow (b := 11) (n := 13) (i := (I 192 1).toNat) rfl (by omega)) (by omega) ?_
  show GO S0 50 12 [vR 192, vI x1, vI x2, vU, vU, vU, vU, vU, vU, vU, vU] [vR (1 + 10 + (I 192 1).toNat)] I K
  refine G_loadI rc_50_12 rfl ?_
  obtain ⟨c2, h⟩ := h
  refine G_ald rc_50_13 (bk_10 (r := 1) (i := (I 192 1).toNat) (by first | exact Or.inl rfl | exact Or.inr rfl) (by omega)) (by omega) (by omega) ?_
  show GO S0 50 14 [vR 192, vI x1, vI x2, vU, vU, vU, vU, vU, vU, vU, vU] [vI (I (1 + 10 + (I 192 1).toNat) (x1).toNat)] I K
  refine G_storeI rc_50_14 (Nat.le_of_ble_eq_true rfl) ?_
  show GO S0 50 15 [vR 192, vI x1, vI x2, vI (I (1 + 10 + (I 192 1).toNat) (x1).toNat), vU, vU, vU, vU, vU, vU, vU] [] I K
  refine G_loadR rc_50_15 rfl ?_
  refine G_getR rc_50_16 s0_192 (by decide) rfl (by decide) ?_
  show GO S0 50 19 [vR 192, vI x1, vI x2, vI (I (1 + 10 + (I 192 1).toNat) (x1).toNat), vU, vU, vU, vU, vU, vU, vU] [vR 1] I K
  refine G_getR rc_50_19 s0_1 (by decide) rfl (by decide) ?_
  show GO S0 50 22 [vR 192, vI x1, vI x2, vI (I (1 + 10 + (I 192 1).toNat) (x1).toNat), vU, vU, vU, vU, vU, vU, vU] [vR 4] I K
  refine G_loadI rc_50_22 rfl ?_
  refine G_ald rc_50_23 s0_4 (by omega) (by omega) ?_
  show GO S0 50 24 [vR 192, vI x1, vI x2, vI (I (1 + 10 + (I 192 1).toNat) (x1).toNat), vU, vU, vU, vU, vU, vU, vU] [vI (I 4 (x1).toNat)] I K
  refine G_storeI rc_50_24 (Nat.le_of_ble_eq_true rfl) ?_
  show GO S0 50 26 [vR 192, vI x1, vI x2, vI (I (1 + 10 + (I 192 1).toNat) (x1).toNat), vI (I 4 (x1).toNat), vU, vU, vU, vU, vU, vU] [] I K
  refine G_loadR rc_50_26 rfl ?_
  refine G_getR rc_50_27 s0_192 (by decide) rfl (by decide) ?_
  show GO S0 50 30 [vR 192, vI x1, vI x2, vI (I (1 + 10 + (I 192 1).toNat) (x1).toNat), vI (I 4 (x1).toNat), vU, vU, vU, vU, vU, vU] [vR 1] I K
  refine G_getR rc_50_30 s0_1 (by decide) rfl (by decide) ?_
  show GO S0 50 33 [vR 192, vI x1, vI x2, vI (I (1 + 10 + (I 192 1).toNat) (x1).toNat), vI (I 4 (x1).toNat), vU, vU, vU, vU, vU, vU] [vR 7] I K
  refine G_loadI rc_50_33 rfl ?_
  refine G_ald rc_50_34 s0_7 (by omega) (by omega) ?_
  show GO S0 50 35 [vR 192, vI x1, vI x2, vI (I (1 + 10 + (I 192 1).toNat) (x1).toNat), vI (I 4 (x1).toNat), vU, vU, vU, vU, vU, vU] [vI (I 7 (x1).toNat)] I K
  refine G_storeI rc_50_35 (Nat.le_of_ble_eq_true rfl) ?_
  show GO S0 50 37 [vR 192, vI x1, vI x2, vI (I (1 + 10 + (I 192 1).toNat) (x1).toNat), vI (I 4 (x1).toNat), vI (I 7 (x1).toNat), vU, vU, vU, vU, vU] [] I K
  refine G_loadR rc_50_37 rfl ?_
  refine G_getR rc_50_38 s0_192 (by decide) rfl (by decide) ?_
  show GO S0 50 41 [vR 192, vI x1, vI x2, vI (I (1 + 10 + (I 192 1).toNat) (x1).toNat), vI (I 4 (x1).toNat), vI (I 7 (x1).toNat), vU, vU, vU, vU, vU] [vR 1] I K
  refine G_getR rc_50_41 s0_1 (by decide) rfl (by decide) ?_
  show GO S0 50 44 [vR 192, vI x1, vI x2, vI (I (1 + 10 + (I 192 1).toNat) (x1).toNat), vI (I 4 (x1).toNat), vI (I 7 (x1).toNat), vU, vU, vU, vU, vU] [vR 8] I K
  refine G_loadI rc_50_44 rfl ?_
  refine G_ald rc_50_45 s0_8 (by omega) (by omega) ?_
  show GO S0 50 46 [vR 192, vI x1, vI x2, vI (I (1 + 10 + (I 192 1).toNat) (x1).toNat), vI (I 4 (x1).toNat), vI (I 7 (x1).toNat), vU, vU, vU, vU, vU] [vI (I 8 (x1).toNat)] I K
  refine G_storeI rc_50_46 (Nat.le_of_ble_eq_true rfl) ?_
  show GO S0 50 48 [vR 192, vI x1, vI x2, vI (I (1 + 10 + (I 192 1).toNat) (x1).toNat), vI (I 4 (x1).toNat), vI (I 7 (x1).toNat), vI (I 8 (x1).toNat), vU, vU, vU, vU] [] I K
  refine G_loadR rc_50_48 rfl ?_
  refine G_getI rc_50_49 s0_192 (by decide) ?_
  show GO S0 50 52 [vR 192, vI x1, vI x2, vI (I (1 + 10 + (I 192 1).toNat) (x1).toNat), vI (I 4 (x1).toNat), vI (I 7 (x1).toNat), vI (I 8 (x1).toNat), vU, vU, vU, vU] [vI (I 192 6)] I K
  refine G_loadI rc_50_52 rfl ?_
  obtain ⟨c3, h⟩ := h
  refine G_bop (z := (I 192 6) + (I (1 + 10 + (I 192 1).toNat) (x1).toNat)) rc_50_53 (if_pos c3) ?_
  show GO S0 50 54 [vR 192, vI x1, vI x2, vI (I (1 + 10 + (I 192 1).toNat) (x1).toNat), vI (I 4 (x1).toNat), vI (I 7 (x1).toNat), vI (I 8 (x1).toNat), vU, vU, vU, vU] [vI ((I 192 6) + (I (1 + 10 + (I 192 1).toNat) (x1).toNat))] I K
  refine G_storeI rc_50_54 (Nat.le_of_ble_eq_true rfl) ?_
  show GO S0 50 56 [vR 192, vI x1, vI x2, vI (I (1 + 10 + (I 192 1).toNat) (x1).toNat), vI (I 4 (x1).toNat), vI (I 7 (x1).toNat), vI (I 8 (x1).toNat), vI ((I 192 6) + (I (1 + 10 + (I 192 1).toNat) (x1).toNat)), vU, vU, vU] [] I K
  refine G_loadR rc_50_56 rfl ?_
  refine G_getI rc_50_57 s0_192 (by decide) ?_
  show GO S0 50 60 [vR 192, vI x1, vI x2, vI (I (1 + 10 + (I 192 1).toNat) (x1).toNat), vI (I 4 (x1).toNat), vI (I 7 (x1).toNat), vI (I 8 (x1).toNat), vI ((I 192 6) + (I (1 + 10 + (I 192 1).toNat) (x1).toNat)), vU, vU, vU] [vI (I 192 2)] I K
  refine G_loadI rc_50_60 rfl ?_
  obtain ⟨c4, h⟩ := h
  refine G_bop (z := (I 192 2) + ((I 192 6) + (I (1 + 10 + (I 192 1).toNat) (x1).toNat))) rc_50_62 (if_pos c4) ?_
  show GO S0 50 63 [vR 192, vI x1, vI x2, vI (I (1 + 10 + (I 192 1).toNat) (x1).toNat), vI (I 4 (x1).toNat), vI (I 7 (x1).toNat), vI (I 8 (x1).toNat), vI ((I 192 6) + (I (1 + 10 + (I 192 1).toNat) (x1).toNat)), vU, vU, vU] [vI ((I 192 2) + ((I 192 6) + (I (1 + 10 + (I 192 1).toNat) (x1).toNat)))] I K
  refine G_loadI rc_50_63 rfl ?_
  refine G_i2 (C := (I 192 2) + ((I 192 6) + (I (1 + 10 + (I 192 1).toNat) (x1).toNat)) ≤ x2) rc_50_64 rfl (fun c5 => ?_) (fun c5 => ?_)
  · rw [if_pos c5] at h
    show GO S0 50 72 [vR 192, vI x1, vI x2, vI (I (1 + 10 + (I 192 1).toNat) (x1).toNat), vI (I 4 (x1).toNat), vI (I 7 (x1).toNat), vI (I 8 (x1).toNat), vI ((I 192 6) + (I (1 + 10 + (I 192 1).toNat) (x1).toNat)), vU, vU, vU] [] I K
    exact g50_72 x1 x2 (I (1 + 10 + (I 192 1).toNat) (x1).toNat) (I 4 (x1).toNat) (I 7 (x1).toNat) (I 8 (x1).toNat) ((I 192 6) + (I (1 + 10 + (I 192 1).toNat) (x1).toNat)) (vU) (vU) (vU) I K h
  · rw [if_neg c5] at h
    show GO S0 50 67 [vR 192, vI x1, vI x2, vI (I (1 + 10 + (I 192 1).toNat) (x1).toNat), vI (I 4 (x1).toNat), vI (I 7 (x1).toNat), vI (I 8 (x1).toNat), vI ((I 192 6) + (I (1 + 10 + (I 192 1).toNat) (x1).toNat)), vU, vU, vU] [] I K
    refine G_loadR rc_50_67 rfl ?_
    refine G_const rc_50_68 (by decide) ?_
    refine G_putI rc_50_69 s0_192 (by decide) (Or.inr (by decide)) ?_
    show GO S0 50 72 [vR 192, vI x1, vI x2, vI (I (1 + 10 + (I 192 1).toNat) (x1).toNat), vI (I 4 (x1).toNat), vI (I 7 (x1).toNat), vI (I 8 (x1).toNat), vI ((I 192 6) + (I (1 + 10 + (I 192 1).toNat) (x1).toNat)), vU, vU, vU] [] (iup I 192 9 0) K
    have h := h _ rfl
    generalize iup I 192 9 0 = I6 at h ⊢
    exact g50_72 x1 x2 (I (1 + 10 + (I 192 1).toNat) (x1).toNat) (I 4 (x1).toNat) (I 7 (x1).toNat) (I 8 (x1).toNat) ((I 192 6) + (I (1 + 10 + (I 192 1).toNat) (x1).toNat)) (vU) (vU) (vU) I6 K h
/-! 51: RoundSlack$Judge.costOfPart(I)I -/
def D51_0 (x1 : Int) (I : IM) (K : Option AV → IM → Prop) : Prop :=
  (if I 192 9 = 0 then (K (some (vI (-1))) I) else ((0 ≤ x1 ∧ x1 < 4) ∧ (if I 192 8 ≤ I 25 (x1).toNat then ((inR ((I 28 0) * (I 192 7))) ∧ (inR ((I 28 2) + ((I 28 0) * (I 192 7)))) ∧ (inR ((I 28 1) * (I 192 6))) ∧ (inR (((I 28 2) + ((I 28 0) * (I 192 7))) + ((I 28 1) * (I 192 6)))) ∧ K (some (vI (((I 28 2) + ((I 28 0) * (I 192 7))) + ((I 28 1) * (I 192 6))))) I) else (K (some (vI (-1))) I))))
set_option maxRecDepth 10000 in
theorem g51_0 (x1 : Int) (I : IM) (K : Option AV → IM → Prop) (h : D51_0 x1 I K) : GO S0 51 0 [vR 193, vI x1] [] I K := by
  unfold D51_0 at h
  refine G_loadR rc_51_0 rfl ?_
  refine G_getR rc_51_1 s0_193 (by decide) rfl (by decide) ?_
  show GO S0 51 4 [vR 193, vI x1] [vR 192] I K
  refine G_getI rc_51_4 s0_192 (by decide) ?_
  show GO S0 51 7 [vR 193, vI x1] [vI (I 192 9)] I K
  refine G_i1 (C := I 192 9 = 0) rc_51_7 rfl (fun c1 => ?_) (fun c1 => ?_)
  · rw [if_pos c1] at h
    show GO S0 51 29 [vR 193, vI x1] [] I K
    refine G_const rc_51_29 (by decide) ?_
    exact G_retI rc_51_30 (Or.inl rfl) h
  · rw [if_neg c1] at h
    show GO S0 51 10 [vR 193, vI x1] [] I K
    refine G_loadR rc_51_10 rfl ?_
    refine G_getR rc_51_11 s0_193 (by decide) rfl (by decide) ?_
    show GO S0 51 14 [vR 193, vI x1] [vR 192] I K
    refine G_getI rc_51_14 s0_192 (by decide) ?_
    show GO S0 51 17 [vR 193, vI x1] [vI (I 192 8)] I K
    refine G_loadR rc_51_17 rfl ?_
    refine G_getR rc_51_18 s0_193 (by decide) rfl (by decide) ?_
    show GO S0 51 21 [vR 193, vI x1] [vR 24, vI (I 192 8)] I K
    refine G_getR rc_51_21 s0_24 (by decide) rfl (by decide) ?_
    show GO S0 51 24 [vR 193, vI x1] [vR 25, vI (I 192 8)] I K
    refine G_loadI rc_51_24 rfl ?_
    obtain ⟨c2, h⟩ := h
    refine G_ald rc_51_25 s0_25 (by omega) (by omega) ?_
    show GO S0 51 26 [vR 193, vI x1] [vI (I 25 (x1).toNat), vI (I 192 8)] I K
    refine G_i2 (C := I 192 8 ≤ I 25 (x1).toNat) rc_51_26 rfl (fun c3 => ?_) (fun c3 => ?_)
    · rw [if_pos c3] at h
      show GO S0 51 31 [vR 193, vI x1] [] I K
      refine G_loadR rc_51_31 rfl ?_
      refine G_getR rc_51_32 s0_193 (by decide) rfl (by decide) ?_
      show GO S0 51 35 [vR 193, vI x1] [vR 24] I K
      refine G_getR rc_51_35 s0_24 (by decide) rfl (by decide) ?_
      show GO S0 51 38 [vR 193, vI x1] [vR 28] I K
      refine G_const rc_51_38 (by decide) ?_
      refine G_ald rc_51_39 s0_28 (by decide) (by decide) ?_
      show GO S0 51 40 [vR 193, vI x1] [vI (I 28 2)] I K
      refine G_loadR rc_51_40 rfl ?_
      refine G_getR rc_51_41 s0_193 (by decide) rfl (by decide) ?_
      show GO S0 51 44 [vR 193, vI x1] [vR 24, vI (I 28 2)] I K
      refine G_getR rc_51_44 s0_24 (by decide) rfl (by decide) ?_
      show GO S0 51 47 [vR 193, vI x1] [vR 28, vI (I 28 2)] I K
      refine G_const rc_51_47 (by decide) ?_
      refine G_ald rc_51_48 s0_28 (by decide) (by decide) ?_
      show GO S0 51 49 [vR 193, vI x1] [vI (I 28 0), vI (I 28 2)] I K
      refine G_loadR rc_51_49 rfl ?_
      refine G_getR rc_51_50 s0_193 (by decide) rfl (by decide) ?_
      show GO S0 51 53 [vR 193, vI x1] [vR 192, vI (I 28 0), vI (I 28 2)] I K
      refine G_getI rc_51_53 s0_192 (by decide) ?_
      show GO S0 51 56 [vR 193, vI x1] [vI (I 192 7), vI (I 28 0), vI (I 28 2)] I K
      obtain ⟨c4, h⟩ := h
      refine G_bop (z := (I 28 0) * (I 192 7)) rc_51_56 (if_pos c4) ?_
      show GO S0 51 57 [vR 193, vI x1] [vI ((I 28 0) * (I 192 7)), vI (I 28 2)] I K
      obtain ⟨c5, h⟩ := h
      refine G_bop (z := (I 28 2) + ((I 28 0) * (I 192 7))) rc_51_57 (if_pos c5) ?_
      show GO S0 51 58 [vR 193, vI x1] [vI ((I 28 2) + ((I 28 0) * (I 192 7)))] I K
      refine G_loadR rc_51_58 rfl ?_
      refine G_getR rc_51_59 s0_193 (by decide) rfl (by decide) ?_
      show GO S0 51 62 [vR 193, vI x1] [vR 24, vI ((I 28 2) + ((I 28 0) * (I 192 7)))] I K
      refine G_getR rc_51_62 s0_24 (by decide) rfl (by decide) ?_
      show GO S0 51 65 [vR 193, vI x1] [vR 28, vI ((I 28 2) + ((I 28 0) * (I 192 7)))] I K
      refine G_const rc_51_65 (by decide) ?_
      refine G_ald rc_51_66 s0_28 (by decide) (by decide) ?_
      show GO S0 51 67 [vR 193, vI x1] [vI (I 28 1), vI ((I 28 2) + ((I 28 0) * (I 192 7)))] I K
      refine G_loadR rc_51_67 rfl ?_
      refine G_getR rc_51_68 s0_193 (by decide) rfl (by decide) ?_
      show GO S0 51 71 [vR 193, vI x1] [vR 192, vI (I 28 1), vI ((I 28 2) + ((I 28 0) * (I 192 7)))] I K
      refine G_getI rc_51_71 s0_192 (by decide) ?_
      show GO S0 51 74 [vR 193, vI x1] [vI (I 192 6), vI (I 28 1), vI ((I 28 2) + ((I 28 0) * (I 192 7)))] I K
      obtain ⟨c6, h⟩ := h
      refine G_bop (z := (I 28 1) * (I 192 6)) rc_51_74 (if_pos c6) ?_
      show GO S0 51 75 [vR 193, vI x1] [vI ((I 28 1) * (I 192 6)), vI ((I 28 2) + ((I 28 0) * (I 192 7)))] I K
      obtain ⟨c7, h⟩ := h
      refine G_bop (z := ((I 28 2) + ((I 28 0) * (I 192 7))) + ((I 28 1) * (I 192 6))) rc_51_75 (if_pos c7) ?_
      show GO S0 51 76 [vR 193, vI x1] [vI (((I 28 2) + ((I 28 0) * (I 192 7))) + ((I 28 1) * (I 192 6)))] I K
      exact G_retI rc_51_76 (Or.inl rfl) h
    · rw [if_neg c3] at h
      show GO S0 51 29 [vR 193, vI x1] [] I K
      refine G_const rc_51_29 (by decide) ?_
      exact G_retI rc_51_30 (Or.inl rfl) h
/-! 52: RoundSlack$Rounds.bits()I -/
def D52_11 (r0 : Nat) (x1 : Int) (x2 : Int) (x3 : Int) (I : IM) (K : Option AV → IM → Prop) : Prop :=
  (0 ≤ x2 ∧ x2 < 4) ∧ (if I (r0 + 1) (x2).toNat ≤ x3 then ((inR (x2 + 1)) ∧ GO S0 52 4 [vR r0, vI x1, vI (x2 + 1), vI x3] [] I K) else ((0 ≤ x3 ∧ x3 < 12) ∧ (inR (x3 + 1)) ∧ GO S0 52 11 [vR r0, vI (iorF x1 (ishlF 1 (I (r0 + 3 + (x2).toNat) (x3).toNat))), vI x2, vI (x3 + 1)] [] I K))
set_option maxRecDepth 10000 in
theorem g52_11 (r0 : Nat) (h0 : isRd r0) (x1 : Int) (x2 : Int) (x3 : Int) (I : IM) (K : Option AV → IM → Prop) (h : D52_11 r0 x1 x2 x3 I K) : GO S0 52 11 [vR r0, vI x1, vI x2, vI x3] [] I K := by
  unfold D52_11 at h
  refine G_loadI rc_52_11 rfl ?_
  refine G_loadR rc_52_12 rfl ?_
  refine G_getR rc_52_13 (rd_0 h0) (by decide) rfl (by have := rd_lt h0; omega) ?_
  show GO S0 52 16 [vR r0, vI x1, vI x2, vI x3] [vR (r0 + 1), vI x3] I K
  refine G_loadI rc_52_16 rfl ?_
  obtain ⟨c1, h⟩ := h
  refine G_ald rc_52_17 (rd_1 h0) (by omega) (by omega) ?_
  show GO S0 52 18 [vR r0, vI x1, vI x2, vI x3] [vI (I (r0 + 1) (x2).toNat), vI x3] I K
  refine G_i2 (C := I (r0 + 1) (x2).toNat ≤ x3) rc_52_18 rfl (fun c2 => ?_) (fun c2 => ?_)
  · rw [if_pos c2] at h
    show GO S0 52 40 [vR r0, vI x1, vI x2, vI x3] [] I K
    obtain ⟨c3, h⟩ := h
    refine G_iinc rc_52_40 rfl c3 ?_
    show GO S0 52 43 [vR r0, vI x1, vI (x2 + 1), vI x3] [] I K
    refine G_goto rc_52_43 ?_
    show GO S0 52 4 [vR r0, vI x1, vI (x2 + 1), vI x3] [] I K
    exact h
  · rw [if_neg c2] at h
    show GO S0 52 21 [vR r0, vI x1, vI x2, vI x3] [] I K
    refine G_loadI rc_52_21 rfl ?_
    refine G_const rc_52_22 (by decide) ?_
    refine G_loadR rc_52_23 rfl ?_
    refine G_getR rc_52_24 (rd_0 h0) (by decide) rfl (by have := rd_lt h0; omega) ?_
    show GO S0 52 27 [vR r0, vI x1, vI x2, vI x3] [vR (r0 + 2), vI 1, vI x1] I K
    refine G_loadI rc_52_27 rfl ?_
    refine G_aldR rc_52_28 (rd_2 h0) (Or.inl rfl) (by omega) (by omega) (rd_row (i := (x2).toNat) (by omega)) (by have := rd_lt h0; omega) ?_
    show GO S0 52 29 [vR r0, vI x1, vI x2, vI x3] [vR (r0 + 3 + (x2).toNat), vI 1, vI x1] I K
    refine G_loadI rc_52_29 rfl ?_
    obtain ⟨c4, h⟩ := h
    refine G_ald rc_52_30 (rd_3 (i := (x2).toNat) h0 (by omega)) (by omega) (by omega) ?_
    show GO S0 52 31 [vR r0, vI x1, vI x2, vI x3] [vI (I (r0 + 3 + (x2).toNat) (x3).toNat), vI 1, vI x1] I K
    refine G_bop (z := ishlF 1 (I (r0 + 3 + (x2).toNat) (x3).toNat)) rc_52_31 rfl ?_
    show GO S0 52 32 [vR r0, vI x1, vI x2, vI x3] [vI (ishlF 1 (I (r0 + 3 + (x2).toNat) (x3).toNat)), vI x1] I K
    refine G_bop (z := iorF x1 (ishlF 1 (I (r0 + 3 + (x2).toNat) (x3).toNat))) rc_52_32 rfl ?_
    show GO S0 52 33 [vR r0, vI x1, vI x2, vI x3] [vI (iorF x1 (ishlF 1 (I (r0 + 3 + (x2).toNat) (x3).toNat)))] I K
    refine G_storeI rc_52_33 (Nat.le_of_ble_eq_true rfl) ?_
    show GO S0 52 34 [vR r0, vI (iorF x1 (ishlF 1 (I (r0 + 3 + (x2).toNat) (x3).toNat))), vI x2, vI x3] [] I K
    obtain ⟨c5, h⟩ := h
    refine G_iinc rc_52_34 rfl c5 ?_
    show GO S0 52 37 [vR r0, vI (iorF x1 (ishlF 1 (I (r0 + 3 + (x2).toNat) (x3).toNat))), vI x2, vI (x3 + 1)] [] I K
    refine G_goto rc_52_37 ?_
    show GO S0 52 11 [vR r0, vI (iorF x1 (ishlF 1 (I (r0 + 3 + (x2).toNat) (x3).toNat))), vI x2, vI (x3 + 1)] [] I K
    exact h
def D52_4 (r0 : Nat) (x1 : Int) (x2 : Int) (u3 : AV) (I : IM) (K : Option AV → IM → Prop) : Prop :=
  (if (4 : Int) ≤ x2 then (K (some (vI x1)) I) else (GO S0 52 11 [vR r0, vI x1, vI x2, vI 0] [] I K))
set_option maxRecDepth 10000 in
theorem g52_4 (r0 : Nat) (h0 : isRd r0) (x1 : Int) (x2 : Int) (u3 : AV) (I : IM) (K : Option AV → IM → Prop) (h : D52_4 r0 x1 x2 u3 I K) : GO S0 52 4 [vR r0, vI x1, vI x2, u3] [] I K := by
  unfold D52_4 at h
  refine G_loadI rc_52_4 rfl ?_
  refine G_const rc_52_5 (by decide) ?_
  refine G_i2 (C := (4 : Int) ≤ x2) rc_52_6 rfl (fun c1 => ?_) (fun c1 => ?_)
  · rw [if_pos c1] at h
    show GO S0 52 46 [vR r0, vI x1, vI x2, u3] [] I K
    refine G_loadI rc_52_46 rfl ?_
    exact G_retI rc_52_47 (Or.inl rfl) h
  · rw [if_neg c1] at h
    show GO S0 52 9 [vR r0, vI x1, vI x2, u3] [] I K
    refine G_const rc_52_9 (by decide) ?_
    refine G_storeI rc_52_10 (Nat.le_of_ble_eq_true rfl) ?_
    show GO S0 52 11 [vR r0, vI x1, vI x2, vI 0] [] I K
    exact h
def D52_0 (r0 : Nat) (I : IM) (K : Option AV → IM → Prop) : Prop :=
  GO S0 52 4 [vR r0, vI 0, vI 0, vU] [] I K
set_option maxRecDepth 10000 in
theorem g52_0 (r0 : Nat) (h0 : isRd r0) (I : IM) (K : Option AV → IM → Prop) (h : D52_0 r0 I K) : GO S0 52 0 [vR r0, vU, vU, vU] [] I K := by
  unfold D52_0 at h
  refine G_const rc_52_0 (by decide) ?_
  refine G_storeI rc_52_1 (Nat.le_of_ble_eq_true rfl) ?_
  show GO S0 52 2 [vR r0, vI 0, vU, vU] [] I K
  refine G_const rc_52_2 (by decide) ?_
  refine G_storeI rc_52_3 (Nat.le_of_ble_eq_true rfl) ?_
  show GO S0 52 4 [vR r0, vI 0, vI 0, vU] [] I K
  exact h
/-! 53: RoundSlack$Rounds.copyFrom(LRoundSlack$Rounds;)V -/
def D53_2 (r0 : Nat) (r1 : Nat) (x2 : Int) (I : IM) (K : Option AV → IM → Prop) : Prop :=
  (if (4 : Int) ≤ x2 then (K none I) else ((0 ≤ x2 ∧ x2 < 4) ∧ ∀ I3 : IM, I3 = iup I (r0 + 1) (x2).toNat (I (r1 + 1) (x2).toNat) → ((0 : Int) ≤ 0 ∧ (0 : Int) ≤ 0 ∧ (0 : Int) ≤ I3 (r0 + 1) (x2).toNat ∧ 0 + I3 (r0 + 1) (x2).toNat ≤ (12 : Int) ∧ 0 + I3 (r0 + 1) (x2).toNat ≤ (12 : Int)) ∧ ∀ I5 : IM, I5 = icp I3 (r1 + 3 + (x2).toNat) 0 (r0 + 3 + (x2).toNat) 0 (I3 (r0 + 1) (x2).toNat).toNat → (inR (x2 + 1)) ∧ GO S0 53 2 [vR r0, vR r1, vI (x2 + 1)] [] I5 K))
set_option maxRecDepth 10000 in
theorem g53_2 (r0 : Nat) (r1 : Nat) (h0 : isRd r0) (h1 : isRd r1) (x2 : Int) (I : IM) (K : Option AV → IM → Prop) (h : D53_2 r0 r1 x2 I K) : GO S0 53 2 [vR r0, vR r1, vI x2] [] I K := by
  unfold D53_2 at h
  refine G_loadI rc_53_2 rfl ?_
  refine G_const rc_53_3 (by decide) ?_
  refine G_i2 (C := (4 : Int) ≤ x2) rc_53_4 rfl (fun c1 => ?_) (fun c1 => ?_)
  · rw [if_pos c1] at h
    show GO S0 53 48 [vR r0, vR r1, vI x2] [] I K
    exact G_ret0 rc_53_48 h
  · rw [if_neg c1] at h
    show GO S0 53 7 [vR r0, vR r1, vI x2] [] I K
    refine G_loadR rc_53_7 rfl ?_
    refine G_getR rc_53_8 (rd_0 h0) (by decide) rfl (by have := rd_lt h0; omega) ?_
    show GO S0 53 11 [vR r0, vR r1, vI x2] [vR (r0 + 1)] I K
    refine G_loadI rc_53_11 rfl ?_
    refine G_loadR rc_53_12 rfl ?_
    refine G_getR rc_53_13 (rd_0 h1) (by decide) rfl (by have := rd_lt h1; omega) ?_
    show GO S0 53 16 [vR r0, vR r1, vI x2] [vR (r1 + 1), vI x2, vR (r0 + 1)] I K
    refine G_loadI rc_53_16 rfl ?_
    obtain ⟨c2, h⟩ := h
    refine G_ald rc_53_17 (rd_1 h1) (by omega) (by omega) ?_
    show GO S0 53 18 [vR r0, vR r1, vI x2] [vI (I (r1 + 1) (x2).toNat), vI x2, vR (r0 + 1)] I K
    refine G_ast rc_53_18 (rd_1 h0) (by omega) (by omega) (Or.inl rfl) ?_
    show GO S0 53 19 [vR r0, vR r1, vI x2] [] (iup I (r0 + 1) (x2).toNat (I (r1 + 1) (x2).toNat)) K
    have h := h _ rfl
    generalize iup I (r0 + 1) (x2).toNat (I (r1 + 1) (x2).toNat) = I3 at h ⊢
    refine G_loadR rc_53_19 rfl ?_
    refine G_getR rc_53_20 (rd_0 h1) (by decide) rfl (by have := rd_lt h1; omega) ?_
    show GO S0 53 23 [vR r0, vR r1, vI x2] [vR (r1 + 2)] I3 K
    refine G_loadI rc_53_23 rfl ?_
    refine G_aldR rc_53_24 (rd_2 h1) (Or.inl rfl) (by omega) (by omega) (rd_row (i := (x2).toNat) (by omega)) (by have := rd_lt h1; omega) ?_
    show GO S0 53 25 [vR r0, vR r1, vI x2] [vR (r1 + 3 + (x2).toNat)] I3 K
    refine G_const rc_53_25 (by decide) ?_
    refine G_loadR rc_53_26 rfl ?_
    refine G_getR rc_53_27 (rd_0 h0) (by decide) rfl (by have := rd_lt h0; omega) ?_
    show GO S0 53 30 [vR r0, vR r1, vI x2] [vR (r0 + 2), vI 0, vR (r1 + 3 + (x2).toNat)] I3 K
    refine G_loadI rc_53_30 rfl ?_
    refine G_aldR rc_53_31 (rd_2 h0) (Or.inl rfl) (by omega) (by omega) (rd_row (i := (x2).toNat) (by omega)) (by have := rd_lt h0; omega) ?_
    show GO S0 53 32 [vR r0, vR r1, vI x2] [vR (r0 + 3 + (x2).toNat), vI 0, vR (r1 + 3 + (x2).toNat)] I3 K
    refine G_const rc_53_32 (by decide) ?_
    refine G_loadR rc_53_33 rfl ?_
    refine G_getR rc_53_34 (rd_0 h0) (by decide) rfl (by have := rd_lt h0; omega) ?_
    show GO S0 53 37 [vR r0, vR r1, vI x2] [vR (r0 + 1), vI 0, vR (r0 + 3 + (x2).toNat), vI 0, vR (r1 + 3 + (x2).toNat)] I3 K
    refine G_loadI rc_53_37 rfl ?_
    refine G_ald rc_53_38 (rd_1 h0) (by omega) (by omega) ?_
    show GO S0 53 39 [vR r0, vR r1, vI x2] [vI (I3 (r0 + 1) (x2).toNat), vI 0, vR (r0 + 3 + (x2).toNat), vI 0, vR (r1 + 3 + (x2).toNat)] I3 K
    obtain ⟨c4, h⟩ := h
    refine G_copy rc_53_39 (rd_3 (i := (x2).toNat) h1 (by omega)) (rd_3 (i := (x2).toNat) h0 (by omega)) (by omega) (by omega) (by omega) (by omega) (by omega) (Nat.le_of_ble_eq_true rfl) ?_
    show GO S0 53 42 [vR r0, vR r1, vI x2] [] (icp I3 (r1 + 3 + (x2).toNat) 0 (r0 + 3 + (x2).toNat) 0 (I3 (r0 + 1) (x2).toNat).toNat) K
    have h := h _ rfl
    generalize icp I3 (r1 + 3 + (x2).toNat) 0 (r0 + 3 + (x2).toNat) 0 (I3 (r0 + 1) (x2).toNat).toNat = I5 at h ⊢
    show GO S0 53 42 [vR r0, vR r1, vI x2] [] I5 K
    obtain ⟨c6, h⟩ := h
    refine G_iinc rc_53_42 rfl c6 ?_
    show GO S0 53 45 [vR r0, vR r1, vI (x2 + 1)] [] I5 K
    refine G_goto rc_53_45 ?_
    show GO S0 53 2 [vR r0, vR r1, vI (x2 + 1)] [] I5 K
    exact h
def D53_0 (r0 : Nat) (r1 : Nat) (I : IM) (K : Option AV → IM → Prop) : Prop :=
  GO S0 53 2 [vR r0, vR r1, vI 0] [] I K
set_option maxRecDepth 10000 in
theorem g53_0 (r0 : Nat) (r1 : Nat) (h0 : isRd r0) (h1 : isRd r1) (I : IM) (K : Option AV → IM → Prop) (h : D53_0 r0 r1 I K) : GO S0 53 0 [vR r0, vR r1, vU] [] I K := by
  unfold D53_0 at h
  refine G_const rc_53_0 (by decide) ?_
  refine G_storeI rc_53_1 (Nat.le_of_ble_eq_true rfl) ?_
  show GO S0 53 2 [vR r0, vR r1, vI 0] [] I K
  exact h
/-! 54: RoundSlack.spell()I -/
def D54_83 (x1 : Int) (x2 : Int) (x3 : Int) (t1 : Int) (I : IM) (K : Option AV → IM → Prop) : Prop :=
  CALL S0 27 [vR 210, vI t1] I (fun v I1 => ∃ y2 : Int, v = some (vI y2) ∧ (0 ≤ x1 ∧ x1 < 4) ∧ (0 ≤ x3 ∧ x3 < 12) ∧ CALL S0 55 [vR 210, vI (I1 (29 + 3 + (x1).toNat) (x3).toNat)] I1 (fun v I5 => v = none ∧ (inR (x3 + 1)) ∧ GO S0 54 51 [vR 0, vI x1, vI x2, vI (x3 + 1)] [] I5 K))
set_option maxRecDepth 10000 in
theorem g54_83 (x1 : Int) (x2 : Int) (x3 : Int) (t1 : Int) (I : IM) (K : Option AV → IM → Prop) (h : D54_83 x1 x2 x3 t1 I K) : GO S0 54 83 [vR 0, vI x1, vI x2, vI x3] [vI t1, vR 210] I K := by
  unfold D54_83 at h
  refine G_call (as := [vR 210, vI t1]) (rest := []) rc_54_83 rfl rfl rfl (Nat.le_of_ble_eq_true rfl) (g_recv s0_210 rfl) ?_
  refine GO.imp h (fun v I1 h => ?_)
  obtain ⟨y2, rfl, h⟩ := h
  show GO S0 54 86 [vR 0, vI x1, vI x2, vI x3] [vI y2] I1 K
  refine G_pop rc_54_86 ?_
  refine G_loadR rc_54_87 rfl ?_
  refine G_getR rc_54_88 s0_0 (by decide) rfl (by decide) ?_
  show GO S0 54 91 [vR 0, vI x1, vI x2, vI x3] [vR 210] I1 K
  refine G_loadR rc_54_91 rfl ?_
  refine G_getR rc_54_92 s0_0 (by decide) rfl (by decide) ?_
  show GO S0 54 95 [vR 0, vI x1, vI x2, vI x3] [vR 29, vR 210] I1 K
  refine G_getR rc_54_95 s0_29 (by decide) rfl (by decide) ?_
  show GO S0 54 98 [vR 0, vI x1, vI x2, vI x3] [vR 31, vR 210] I1 K
  refine G_loadI rc_54_98 rfl ?_
  obtain ⟨c3, h⟩ := h
  refine G_aldR rc_54_99 s0_31 (Or.inl rfl) (by omega) (by omega) (rd_row (r := 29) (i := (x1).toNat) (by omega)) (by omega) ?_
  show GO S0 54 100 [vR 0, vI x1, vI x2, vI x3] [vR (29 + 3 + (x1).toNat), vR 210] I1 K
  refine G_loadI rc_54_100 rfl ?_
  obtain ⟨c4, h⟩ := h
  refine G_ald rc_54_101 (rd_3 (r := 29) (i := (x1).toNat) (by unfold isRd; decide) (by omega)) (by omega) (by omega) ?_
  show GO S0 54 102 [vR 0, vI x1, vI x2, vI x3] [vI (I1 (29 + 3 + (x1).toNat) (x3).toNat), vR 210] I1 K
  refine G_call (as := [vR 210, vI (I1 (29 + 3 + (x1).toNat) (x3).toNat)]) (rest := []) rc_54_102 rfl rfl rfl (Nat.le_of_ble_eq_true rfl) (g_recv s0_210 rfl) ?_
  refine GO.imp h (fun v I5 h => ?_)
  obtain ⟨rfl, h⟩ := h
  show GO S0 54 105 [vR 0, vI x1, vI x2, vI x3] [] I5 K
  obtain ⟨c6, h⟩ := h
  refine G_iinc rc_54_105 rfl c6 ?_
  show GO S0 54 108 [vR 0, vI x1, vI x2, vI (x3 + 1)] [] I5 K
  refine G_goto rc_54_108 ?_
  show GO S0 54 51 [vR 0, vI x1, vI x2, vI (x3 + 1)] [] I5 K
  exact h
def D54_68 (x1 : Int) (x2 : Int) (x3 : Int) (I : IM) (K : Option AV → IM → Prop) : Prop :=
  (if x3 = 0 then (D54_83 x1 x2 x3 58 I K) else (D54_83 x1 x2 x3 44 I K))
set_option maxRecDepth 10000 in
theorem g54_68 (x1 : Int) (x2 : Int) (x3 : Int) (I : IM) (K : Option AV → IM → Prop) (h : D54_68 x1 x2 x3 I K) : GO S0 54 68 [vR 0, vI x1, vI x2, vI x3] [] I K := by
  unfold D54_68 at h
  refine G_loadR rc_54_68 rfl ?_
  refine G_getR rc_54_69 s0_0 (by decide) rfl (by decide) ?_
  show GO S0 54 72 [vR 0, vI x1, vI x2, vI x3] [vR 210] I K
  refine G_loadI rc_54_72 rfl ?_
  refine G_i1 (C := ¬ x3 = 0) rc_54_73 rfl (fun c1 => ?_) (fun c1 => ?_)
  · rw [if_neg c1] at h
    show GO S0 54 81 [vR 0, vI x1, vI x2, vI x3] [vR 210] I K
    refine G_const rc_54_81 (by decide) ?_
    exact g54_83 x1 x2 x3 44 I K h
  · rw [if_pos (Classical.not_not.mp c1)] at h
    show GO S0 54 76 [vR 0, vI x1, vI x2, vI x3] [vR 210] I K
    refine G_const rc_54_76 (by decide) ?_
    refine G_goto rc_54_78 ?_
    show GO S0 54 83 [vR 0, vI x1, vI x2, vI x3] [vI 58, vR 210] I K
    exact g54_83 x1 x2 x3 58 I K h
def D54_51 (x1 : Int) (x2 : Int) (x3 : Int) (I : IM) (K : Option AV → IM → Prop) : Prop :=
  (if x2 ≤ x3 then ((inR (x1 + 1)) ∧ GO S0 54 10 [vR 0, vI (x1 + 1), vI x2, vI x3] [] I K) else ((if x3 = 0 then (CALL S0 55 [vR 210, vI x1] I (fun v I4 => v = none ∧ D54_68 x1 x2 x3 I4 K)) else (D54_68 x1 x2 x3 I K))))
set_option maxRecDepth 10000 in
theorem g54_51 (x1 : Int) (x2 : Int) (x3 : Int) (I : IM) (K : Option AV → IM → Prop) (h : D54_51 x1 x2 x3 I K) : GO S0 54 51 [vR 0, vI x1, vI x2, vI x3] [] I K := by
  unfold D54_51 at h
  refine G_loadI rc_54_51 rfl ?_
  refine G_loadI rc_54_52 rfl ?_
  refine G_i2 (C := x2 ≤ x3) rc_54_53 rfl (fun c1 => ?_) (fun c1 => ?_)
  · rw [if_pos c1] at h
    show GO S0 54 111 [vR 0, vI x1, vI x2, vI x3] [] I K
    obtain ⟨c2, h⟩ := h
    refine G_iinc rc_54_111 rfl c2 ?_
    show GO S0 54 114 [vR 0, vI (x1 + 1), vI x2, vI x3] [] I K
    refine G_goto rc_54_114 ?_
    show GO S0 54 10 [vR 0, vI (x1 + 1), vI x2, vI x3] [] I K
    exact h
  · rw [if_neg c1] at h
    show GO S0 54 56 [vR 0, vI x1, vI x2, vI x3] [] I K
    refine G_loadI rc_54_56 rfl ?_
    refine G_i1 (C := ¬ x3 = 0) rc_54_57 rfl (fun c3 => ?_) (fun c3 => ?_)
    · rw [if_neg c3] at h
      show GO S0 54 68 [vR 0, vI x1, vI x2, vI x3] [] I K
      exact g54_68 x1 x2 x3 I K h
    · rw [if_pos (Classical.not_not.mp c3)] at h
      show GO S0 54 60 [vR 0, vI x1, vI x2, vI x3] [] I K
      refine G_loadR rc_54_60 rfl ?_
      refine G_getR rc_54_61 s0_0 (by decide) rfl (by decide) ?_
      show GO S0 54 64 [vR 0, vI x1, vI x2, vI x3] [vR 210] I K
      refine G_loadI rc_54_64 rfl ?_
      refine G_call (as := [vR 210, vI x1]) (rest := []) rc_54_65 rfl rfl rfl (Nat.le_of_ble_eq_true rfl) (g_recv s0_210 rfl) ?_
      refine GO.imp h (fun v I4 h => ?_)
      obtain ⟨rfl, h⟩ := h
      show GO S0 54 68 [vR 0, vI x1, vI x2, vI x3] [] I4 K
      exact g54_68 x1 x2 x3 I4 K h
def D54_10 (x1 : Int) (u2 : AV) (u3 : AV) (I : IM) (K : Option AV → IM → Prop) : Prop :=
  (if (4 : Int) ≤ x1 then (K (some (vI (I 210 1))) I) else ((0 ≤ x1 ∧ x1 < 4) ∧ (if I 30 (x1).toNat ≤ 0 then (GO S0 54 51 [vR 0, vI x1, vI (I 30 (x1).toNat), vI 0] [] I K) else ((if I 210 1 ≤ 0 then (GO S0 54 51 [vR 0, vI x1, vI (I 30 (x1).toNat), vI 0] [] I K) else (CALL S0 27 [vR 210, vI 59] I (fun v I5 => ∃ y6 : Int, v = some (vI y6) ∧ GO S0 54 51 [vR 0, vI x1, vI (I 30 (x1).toNat), vI 0] [] I5 K)))))))
set_option maxRecDepth 10000 in
theorem g54_10 (x1 : Int) (u2 : AV) (u3 : AV) (I : IM) (K : Option AV → IM → Prop) (h : D54_10 x1 u2 u3 I K) : GO S0 54 10 [vR 0, vI x1, u2, u3] [] I K := by
  unfold D54_10 at h
  refine G_loadI rc_54_10 rfl ?_
  refine G_const rc_54_11 (by decide) ?_
  refine G_i2 (C := (4 : Int) ≤ x1) rc_54_12 rfl (fun c1 => ?_) (fun c1 => ?_)
  · rw [if_pos c1] at h
    show GO S0 54 117 [vR 0, vI x1, u2, u3] [] I K
    refine G_loadR rc_54_117 rfl ?_
    refine G_getR rc_54_118 s0_0 (by decide) rfl (by decide) ?_
    show GO S0 54 121 [vR 0, vI x1, u2, u3] [vR 210] I K
    refine G_getI rc_54_121 s0_210 (by decide) ?_
    show GO S0 54 124 [vR 0, vI x1, u2, u3] [vI (I 210 1)] I K
    exact G_retI rc_54_124 (Or.inl rfl) h
  · rw [if_neg c1] at h
    show GO S0 54 15 [vR 0, vI x1, u2, u3] [] I K
    refine G_loadR rc_54_15 rfl ?_
    refine G_getR rc_54_16 s0_0 (by decide) rfl (by decide) ?_
    show GO S0 54 19 [vR 0, vI x1, u2, u3] [vR 29] I K
    refine G_getR rc_54_19 s0_29 (by decide) rfl (by decide) ?_
    show GO S0 54 22 [vR 0, vI x1, u2, u3] [vR 30] I K
    refine G_loadI rc_54_22 rfl ?_
    obtain ⟨c2, h⟩ := h
    refine G_ald rc_54_23 s0_30 (by omega) (by omega) ?_
    show GO S0 54 24 [vR 0, vI x1, u2, u3] [vI (I 30 (x1).toNat)] I K
    refine G_storeI rc_54_24 (Nat.le_of_ble_eq_true rfl) ?_
    show GO S0 54 25 [vR 0, vI x1, vI (I 30 (x1).toNat), u3] [] I K
    refine G_loadI rc_54_25 rfl ?_
    refine G_i1 (C := I 30 (x1).toNat ≤ 0) rc_54_26 rfl (fun c3 => ?_) (fun c3 => ?_)
    · rw [if_pos c3] at h
      show GO S0 54 49 [vR 0, vI x1, vI (I 30 (x1).toNat), u3] [] I K
      refine G_const rc_54_49 (by decide) ?_
      refine G_storeI rc_54_50 (Nat.le_of_ble_eq_true rfl) ?_
      show GO S0 54 51 [vR 0, vI x1, vI (I 30 (x1).toNat), vI 0] [] I K
      exact h
    · rw [if_neg c3] at h
      show GO S0 54 29 [vR 0, vI x1, vI (I 30 (x1).toNat), u3] [] I K
      refine G_loadR rc_54_29 rfl ?_
      refine G_getR rc_54_30 s0_0 (by decide) rfl (by decide) ?_
      show GO S0 54 33 [vR 0, vI x1, vI (I 30 (x1).toNat), u3] [vR 210] I K
      refine G_getI rc_54_33 s0_210 (by decide) ?_
      show GO S0 54 36 [vR 0, vI x1, vI (I 30 (x1).toNat), u3] [vI (I 210 1)] I K
      refine G_i1 (C := I 210 1 ≤ 0) rc_54_36 rfl (fun c4 => ?_) (fun c4 => ?_)
      · rw [if_pos c4] at h
        show GO S0 54 49 [vR 0, vI x1, vI (I 30 (x1).toNat), u3] [] I K
        refine G_const rc_54_49 (by decide) ?_
        refine G_storeI rc_54_50 (Nat.le_of_ble_eq_true rfl) ?_
        show GO S0 54 51 [vR 0, vI x1, vI (I 30 (x1).toNat), vI 0] [] I K
        exact h
      · rw [if_neg c4] at h
        show GO S0 54 39 [vR 0, vI x1, vI (I 30 (x1).toNat), u3] [] I K
        refine G_loadR rc_54_39 rfl ?_
        refine G_getR rc_54_40 s0_0 (by decide) rfl (by decide) ?_
        show GO S0 54 43 [vR 0, vI x1, vI (I 30 (x1).toNat), u3] [vR 210] I K
        refine G_const rc_54_43 (by decide) ?_
        refine G_call (as := [vR 210, vI 59]) (rest := []) rc_54_45 rfl rfl rfl (Nat.le_of_ble_eq_true rfl) (g_recv s0_210 rfl) ?_
        refine GO.imp h (fun v I5 h => ?_)
        obtain ⟨y6, rfl, h⟩ := h
        show GO S0 54 48 [vR 0, vI x1, vI (I 30 (x1).toNat), u3] [vI y6] I5 K
        refine G_pop rc_54_48 ?_
        refine G_const rc_54_49 (by decide) ?_
        refine G_storeI rc_54_50 (Nat.le_of_ble_eq_true rfl) ?_
        show GO S0 54 51 [vR 0, vI x1, vI (I 30 (x1).toNat), vI 0] [] I5 K
        exact h
def D54_0 (I : IM) (K : Option AV → IM → Prop) : Prop :=
  ∀ I1 : IM, I1 = iup I 210 1 0 → GO S0 54 10 [vR 0, vI 0, vU, vU] [] I1 K
set_option maxRecDepth 10000 in
theorem g54_0 (I : IM) (K : Option AV → IM → Prop) (h : D54_0 I K) : GO S0 54 0 [vR 0, vU, vU, vU] [] I K := by
  unfold D54_0 at h
  refine G_loadR rc_54_0 rfl ?_
  refine G_getR rc_54_1 s0_0 (by decide) rfl (by decide) ?_
  show GO S0 54 4 [vR 0, vU, vU, vU] [vR 210] I K
  refine G_const rc_54_4 (by decide) ?_
  refine G_putI rc_54_5 s0_210 (by decide) (Or.inl rfl) ?_
  show GO S0 54 8 [vR 0, vU, vU, vU] [] (iup I 210 1 0) K
  have h := h _ rfl
  generalize iup I 210 1 0 = I1 at h ⊢
  refine G_const rc_54_8 (by decide) ?_
  refine G_storeI rc_54_9 (Nat.le_of_ble_eq_true rfl) ?_
  show GO S0 54 10 [vR 0, vI 0, vU, vU] [] I1 K
  exact h
/-! 55: RoundSlack$Text.addNumber(I)V -/
def D55_18 (r0 : Nat) (x1 : Int) (I : IM) (K : Option AV → IM → Prop) : Prop :=
  (inR (Int.tdiv x1 10)) ∧ (inR (48 + (Int.tmod x1 10))) ∧ CALL S0 27 [vR r0, vI (48 + (Int.tmod x1 10))] I (fun v I3 => ∃ y4 : Int, v = some (vI y4) ∧ K none I3)
set_option maxRecDepth 10000 in
theorem g55_18 (r0 : Nat) (h0 : isTx r0) (x1 : Int) (I : IM) (K : Option AV → IM → Prop) (h : D55_18 r0 x1 I K) : GO S0 55 18 [vR r0, vI x1] [] I K := by
  unfold D55_18 at h
  refine G_loadR rc_55_18 rfl ?_
  refine G_const rc_55_19 (by decide) ?_
  refine G_loadI rc_55_21 rfl ?_
  refine G_const rc_55_22 (by decide) ?_
  obtain ⟨c1, h⟩ := h
  refine G_bop (z := Int.tmod x1 10) rc_55_24 (show (if (10 : Int) ≠ 0 ∧ inR (Int.tdiv x1 10) then some (Int.tmod x1 10) else none) = some (Int.tmod x1 10) from if_pos ⟨by decide, c1⟩) ?_
  show GO S0 55 25 [vR r0, vI x1] [vI (Int.tmod x1 10), vI 48, vR r0] I K
  obtain ⟨c2, h⟩ := h
  refine G_bop (z := 48 + (Int.tmod x1 10)) rc_55_25 (if_pos c2) ?_
  show GO S0 55 26 [vR r0, vI x1] [vI (48 + (Int.tmod x1 10)), vR r0] I K
  refine G_call (as := [vR r0, vI (48 + (Int.tmod x1 10))]) (rest := []) rc_55_26 rfl rfl rfl (Nat.le_of_ble_eq_true rfl) (g_recv (tx_0 h0) rfl) ?_
  refine GO.imp h (fun v I3 h => ?_)
  obtain ⟨y4, rfl, h⟩ := h
  show GO S0 55 29 [vR r0, vI x1] [vI y4] I3 K
  refine G_pop rc_55_29 ?_
  exact G_ret0 rc_55_30 h
def D55_0 (r0 : Nat) (x1 : Int) (I : IM) (K : Option AV → IM → Prop) : Prop :=
  (if x1 < 10 then (D55_18 r0 x1 I K) else ((inR (Int.tdiv x1 10)) ∧ (inR (48 + (Int.tdiv x1 10))) ∧ CALL S0 27 [vR r0, vI (48 + (Int.tdiv x1 10))] I (fun v I4 => ∃ y5 : Int, v = some (vI y5) ∧ D55_18 r0 x1 I4 K)))
set_option maxRecDepth 10000 in
theorem g55_0 (r0 : Nat) (h0 : isTx r0) (x1 : Int) (I : IM) (K : Option AV → IM → Prop) (h : D55_0 r0 x1 I K) : GO S0 55 0 [vR r0, vI x1] [] I K := by
  unfold D55_0 at h
  refine G_loadI rc_55_0 rfl ?_
  refine G_const rc_55_1 (by decide) ?_
  refine G_i2 (C := x1 < 10) rc_55_3 rfl (fun c1 => ?_) (fun c1 => ?_)
  · rw [if_pos c1] at h
    show GO S0 55 18 [vR r0, vI x1] [] I K
    exact g55_18 r0 h0 x1 I K h
  · rw [if_neg c1] at h
    show GO S0 55 6 [vR r0, vI x1] [] I K
    refine G_loadR rc_55_6 rfl ?_
    refine G_const rc_55_7 (by decide) ?_
    refine G_loadI rc_55_9 rfl ?_
    refine G_const rc_55_10 (by decide) ?_
    obtain ⟨c2, h⟩ := h
    refine G_bop (z := Int.tdiv x1 10) rc_55_12 (show (if (10 : Int) ≠ 0 ∧ inR (Int.tdiv x1 10) then some (Int.tdiv x1 10) else none) = some (Int.tdiv x1 10) from if_pos ⟨by decide, c2⟩) ?_
    show GO S0 55 13 [vR r0, vI x1] [vI (Int.tdiv x1 10), vI 48, vR r0] I K
    obtain ⟨c3, h⟩ := h
    refine G_bop (z := 48 + (Int.tdiv x1 10)) rc_55_13 (if_pos c3) ?_
    show GO S0 55 14 [vR r0, vI x1] [vI (48 + (Int.tdiv x1 10)), vR r0] I K
    refine G_call (as := [vR r0, vI (48 + (Int.tdiv x1 10))]) (rest := []) rc_55_14 rfl rfl rfl (Nat.le_of_ble_eq_true rfl) (g_recv (tx_0 h0) rfl) ?_
    refine GO.imp h (fun v I4 h => ?_)
    obtain ⟨y5, rfl, h⟩ := h
    show GO S0 55 17 [vR r0, vI x1] [vI y5] I4 K
    refine G_pop rc_55_17 ?_
    exact g55_18 r0 h0 x1 I4 K h
/-! 56: RoundSlack.paper(I)I -/
def D56_0 (x1 : Int) (I : IM) (K : Option AV → IM → Prop) : Prop :=
  CALL S0 34 [vR 210, vI x1] I (fun v I1 => ∃ y2 : Int, v = some (vI y2) ∧ K (some (vI y2)) I1)
set_option maxRecDepth 10000 in
theorem g56_0 (x1 : Int) (I : IM) (K : Option AV → IM → Prop) (h : D56_0 x1 I K) : GO S0 56 0 [vR 0, vI x1] [] I K := by
  unfold D56_0 at h
  refine G_loadR rc_56_0 rfl ?_
  refine G_getR rc_56_1 s0_0 (by decide) rfl (by decide) ?_
  show GO S0 56 4 [vR 0, vI x1] [vR 210] I K
  refine G_loadI rc_56_4 rfl ?_
  refine G_call (as := [vR 210, vI x1]) (rest := []) rc_56_5 rfl rfl rfl (Nat.le_of_ble_eq_true rfl) (g_recv s0_210 rfl) ?_
  refine GO.imp h (fun v I1 h => ?_)
  obtain ⟨y2, rfl, h⟩ := h
  show GO S0 56 8 [vR 0, vI x1] [vI y2] I1 K
  exact G_retI rc_56_8 (Or.inl rfl) h
/-! 57: RoundSlack.way(II)I -/
def D57_46 (x1 : Int) (x2 : Int) (t1 : Int) (I : IM) (K : Option AV → IM → Prop) : Prop :=
  (0 ≤ t1 ∧ t1 < 13) ∧ (if x2 = -1 then (K (some (vI (I (1 + 10 + (t1).toNat) 12))) I) else ((0 ≤ x2 ∧ x2 < 13) ∧ K (some (vI (I (1 + 10 + (t1).toNat) (x2).toNat))) I))
set_option maxRecDepth 10000 in
theorem g57_46 (x1 : Int) (x2 : Int) (t1 : Int) (I : IM) (K : Option AV → IM → Prop) (h : D57_46 x1 x2 t1 I K) : GO S0 57 46 [vR 0, vI x1, vI x2] [vI t1, vR 10] I K := by
  unfold D57_46 at h
  obtain ⟨c1, h⟩ := h
  refine G_aldR rc_57_46 s0_10 (Or.inl rfl) (by omega) (by omega) (lrow (b := 11) (n := 13) (i := (t1).toNat) rfl (by omega)) (by omega) ?_
  show GO S0 57 47 [vR 0, vI x1, vI x2] [vR (1 + 10 + (t1).toNat)] I K
  refine G_loadI rc_57_47 rfl ?_
  refine G_const rc_57_48 (by decide) ?_
  refine G_i2 (C := ¬ x2 = -1) rc_57_49 rfl (fun c2 => ?_) (fun c2 => ?_)
  · rw [if_neg c2] at h
    show GO S0 57 57 [vR 0, vI x1, vI x2] [vR (1 + 10 + (t1).toNat)] I K
    refine G_loadI rc_57_57 rfl ?_
    obtain ⟨c3, h⟩ := h
    refine G_ald rc_57_58 (bk_10 (r := 1) (i := (t1).toNat) (by first | exact Or.inl rfl | exact Or.inr rfl) (by omega)) (by omega) (by omega) ?_
    show GO S0 57 59 [vR 0, vI x1, vI x2] [vI (I (1 + 10 + (t1).toNat) (x2).toNat)] I K
    exact G_retI rc_57_59 (Or.inl rfl) h
  · rw [if_pos (Classical.not_not.mp c2)] at h
    show GO S0 57 52 [vR 0, vI x1, vI x2] [vR (1 + 10 + (t1).toNat)] I K
    refine G_const rc_57_52 (by decide) ?_
    refine G_goto rc_57_54 ?_
    show GO S0 57 58 [vR 0, vI x1, vI x2] [vI 12, vR (1 + 10 + (t1).toNat)] I K
    refine G_ald rc_57_58 (bk_10 (r := 1) (i := (t1).toNat) (by first | exact Or.inl rfl | exact Or.inr rfl) (by omega)) (by decide) (by decide) ?_
    show GO S0 57 59 [vR 0, vI x1, vI x2] [vI (I (1 + 10 + (t1).toNat) 12)] I K
    exact G_retI rc_57_59 (Or.inl rfl) h
def D57_28 (x1 : Int) (x2 : Int) (I : IM) (K : Option AV → IM → Prop) : Prop :=
  (if x1 = -1 then (D57_46 x1 x2 12 I K) else (D57_46 x1 x2 x1 I K))
set_option maxRecDepth 10000 in
theorem g57_28 (x1 : Int) (x2 : Int) (I : IM) (K : Option AV → IM → Prop) (h : D57_28 x1 x2 I K) : GO S0 57 28 [vR 0, vI x1, vI x2] [] I K := by
  unfold D57_28 at h
  refine G_loadR rc_57_28 rfl ?_
  refine G_getR rc_57_29 s0_0 (by decide) rfl (by decide) ?_
  show GO S0 57 32 [vR 0, vI x1, vI x2] [vR 1] I K
  refine G_getR rc_57_32 s0_1 (by decide) rfl (by decide) ?_
  show GO S0 57 35 [vR 0, vI x1, vI x2] [vR 10] I K
  refine G_loadI rc_57_35 rfl ?_
  refine G_const rc_57_36 (by decide) ?_
  refine G_i2 (C := ¬ x1 = -1) rc_57_37 rfl (fun c1 => ?_) (fun c1 => ?_)
  · rw [if_neg c1] at h
    show GO S0 57 45 [vR 0, vI x1, vI x2] [vR 10] I K
    refine G_loadI rc_57_45 rfl ?_
    exact g57_46 x1 x2 x1 I K h
  · rw [if_pos (Classical.not_not.mp c1)] at h
    show GO S0 57 40 [vR 0, vI x1, vI x2] [vR 10] I K
    refine G_const rc_57_40 (by decide) ?_
    refine G_goto rc_57_42 ?_
    show GO S0 57 46 [vR 0, vI x1, vI x2] [vI 12, vR 10] I K
    exact g57_46 x1 x2 12 I K h
def D57_13 (x1 : Int) (x2 : Int) (I : IM) (K : Option AV → IM → Prop) : Prop :=
  (if x2 = -1 then (D57_28 x1 x2 I K) else (CALL S0 21 [vR 0, vI x2] I (fun v I2 => ∃ y3 : Int, v = some (vI y3) ∧ (if y3 = 0 then (K (some (vI (-1))) I2) else (D57_28 x1 x2 I2 K)))))
set_option maxRecDepth 10000 in
theorem g57_13 (x1 : Int) (x2 : Int) (I : IM) (K : Option AV → IM → Prop) (h : D57_13 x1 x2 I K) : GO S0 57 13 [vR 0, vI x1, vI x2] [] I K := by
  unfold D57_13 at h
  refine G_loadI rc_57_13 rfl ?_
  refine G_const rc_57_14 (by decide) ?_
  refine G_i2 (C := x2 = -1) rc_57_15 rfl (fun c1 => ?_) (fun c1 => ?_)
  · rw [if_pos c1] at h
    show GO S0 57 28 [vR 0, vI x1, vI x2] [] I K
    exact g57_28 x1 x2 I K h
  · rw [if_neg c1] at h
    show GO S0 57 18 [vR 0, vI x1, vI x2] [] I K
    refine G_loadR rc_57_18 rfl ?_
    refine G_loadI rc_57_19 rfl ?_
    refine G_call (as := [vR 0, vI x2]) (rest := []) rc_57_20 rfl rfl rfl (Nat.le_of_ble_eq_true rfl) (g_recv s0_0 rfl) ?_
    refine GO.imp h (fun v I2 h => ?_)
    obtain ⟨y3, rfl, h⟩ := h
    show GO S0 57 23 [vR 0, vI x1, vI x2] [vI y3] I2 K
    refine G_i1 (C := ¬ y3 = 0) rc_57_23 rfl (fun c4 => ?_) (fun c4 => ?_)
    · rw [if_neg c4] at h
      show GO S0 57 28 [vR 0, vI x1, vI x2] [] I2 K
      exact g57_28 x1 x2 I2 K h
    · rw [if_pos (Classical.not_not.mp c4)] at h
      show GO S0 57 26 [vR 0, vI x1, vI x2] [] I2 K
      refine G_const rc_57_26 (by decide) ?_
      exact G_retI rc_57_27 (Or.inl rfl) h
def D57_0 (x1 : Int) (x2 : Int) (I : IM) (K : Option AV → IM → Prop) : Prop :=
  (if x1 = -1 then (D57_13 x1 x2 I K) else (CALL S0 21 [vR 0, vI x1] I (fun v I2 => ∃ y3 : Int, v = some (vI y3) ∧ (if y3 = 0 then (K (some (vI (-1))) I2) else (D57_13 x1 x2 I2 K)))))
set_option maxRecDepth 10000 in
theorem g57_0 (x1 : Int) (x2 : Int) (I : IM) (K : Option AV → IM → Prop) (h : D57_0 x1 x2 I K) : GO S0 57 0 [vR 0, vI x1, vI x2] [] I K := by
  unfold D57_0 at h
  refine G_loadI rc_57_0 rfl ?_
  refine G_const rc_57_1 (by decide) ?_
  refine G_i2 (C := x1 = -1) rc_57_2 rfl (fun c1 => ?_) (fun c1 => ?_)
  · rw [if_pos c1] at h
    show GO S0 57 13 [vR 0, vI x1, vI x2] [] I K
    exact g57_13 x1 x2 I K h
  · rw [if_neg c1] at h
    show GO S0 57 5 [vR 0, vI x1, vI x2] [] I K
    refine G_loadR rc_57_5 rfl ?_
    refine G_loadI rc_57_6 rfl ?_
    refine G_call (as := [vR 0, vI x1]) (rest := []) rc_57_7 rfl rfl rfl (Nat.le_of_ble_eq_true rfl) (g_recv s0_0 rfl) ?_
    refine GO.imp h (fun v I2 h => ?_)
    obtain ⟨y3, rfl, h⟩ := h
    show GO S0 57 10 [vR 0, vI x1, vI x2] [vI y3] I2 K
    refine G_i1 (C := y3 = 0) rc_57_10 rfl (fun c4 => ?_) (fun c4 => ?_)
    · rw [if_pos c4] at h
      show GO S0 57 26 [vR 0, vI x1, vI x2] [] I2 K
      refine G_const rc_57_26 (by decide) ?_
      exact G_retI rc_57_27 (Or.inl rfl) h
    · rw [if_neg c4] at h
      show GO S0 57 13 [vR 0, vI x1, vI x2] [] I2 K
      exact g57_13 x1 x2 I2 K h
/-! 58: RoundSlack.of(II)I -/
def D58_0 (x1 : Int) (x2 : Int) (I : IM) (K : Option AV → IM → Prop) : Prop :=
  CALL S0 21 [vR 0, vI x1] I (fun v I1 => ∃ y2 : Int, v = some (vI y2) ∧ (if y2 = 0 then (K (some (vI (-1))) I1) else ((if x2 = 0 then ((0 ≤ x1 ∧ x1 < 13) ∧ K (some (vI (I1 2 (x1).toNat))) I1) else (if x2 = 1 then ((0 ≤ x1 ∧ x1 < 13) ∧ K (some (vI (I1 3 (x1).toNat))) I1) else (if x2 = 2 then ((0 ≤ x1 ∧ x1 < 13) ∧ K (some (vI (I1 4 (x1).toNat))) I1) else (if x2 = 3 then ((0 ≤ x1 ∧ x1 < 13) ∧ K (some (vI (I1 5 (x1).toNat))) I1) else (if x2 = 4 then ((0 ≤ x1 ∧ x1 < 13) ∧ K (some (vI (I1 6 (x1).toNat))) I1) else (if x2 = 5 then ((0 ≤ x1 ∧ x1 < 13) ∧ K (some (vI (I1 7 (x1).toNat))) I1) else (if x2 = 6 then ((0 ≤ x1 ∧ x1 < 13) ∧ K (some (vI (I1 8 (x1).toNat))) I1) else (if x2 = 7 then ((0 ≤ x1 ∧ x1 < 13) ∧ K (some (vI (I1 9 (x1).toNat))) I1) else (if x2 = 8 then (CALL S0 22 [vR 29, vI x1] I1 (fun v I21 => ∃ y22 : Int, v = some (vI y22) ∧ CALL S0 59 [vI y22] I21 (fun v I23 => ∃ y24 : Int, v = some (vI y24) ∧ K (some (vI y24)) I23))) else (if x2 = 9 then (CALL S0 60 [vR 29, vI x1] I1 (fun v I26 => ∃ y27 : Int, v = some (vI y27) ∧ CALL S0 59 [vI y27] I26 (fun v I28 => ∃ y29 : Int, v = some (vI y29) ∧ K (some (vI y29)) I28))) else (K (some (vI (-1))) I1))))))))))))))
set_option maxRecDepth 10000 in
theorem g58_0 (x1 : Int) (x2 : Int) (I : IM) (K : Option AV → IM → Prop) (h : D58_0 x1 x2 I K) : GO S0 58 0 [vR 0, vI x1, vI x2] [] I K := by
  unfold D58_0 at h
  refine G_loadR rc_58_0 rfl ?_
  refine G_loadI rc_58_1 rfl ?_
  refine G_call (as := [vR 0, vI x1]) (rest := []) rc_58_2 rfl rfl rfl (Nat.le_of_ble_eq_true rfl) (g_recv s0_0 rfl) ?_
  refine GO.imp h (fun v I1 h => ?_)
  obtain ⟨y2, rfl, h⟩ := h
  show GO S0 58 5 [vR 0, vI x1, vI x2] [vI y2] I1 K
  refine G_i1 (C := ¬ y2 = 0) rc_58_5 rfl (fun c3 => ?_) (fun c3 => ?_)
  · rw [if_neg c3] at h
    show GO S0 58 10 [vR 0, vI x1, vI x2] [] I1 K
    refine G_loadI rc_58_10 rfl ?_
    refine G_switch rc_58_11 ?_
    show GO S0 58 (if x2 = 0 then 64 else if x2 = 1 then 74 else if x2 = 2 then 84 else if x2 = 3 then 94 else if x2 = 4 then 104 else if x2 = 5 then 114 else if x2 = 6 then 124 else if x2 = 7 then 134 else if x2 = 8 then 144 else if x2 = 9 then 156 else 168) [vR 0, vI x1, vI x2] [] I1 K
    by_cases c4 : x2 = 0
    · rw [if_pos c4] at h
      rw [if_pos c4]
      show GO S0 58 64 [vR 0, vI x1, vI x2] [] I1 K
      refine G_loadR rc_58_64 rfl ?_
      refine G_getR rc_58_65 s0_0 (by decide) rfl (by decide) ?_
      show GO S0 58 68 [vR 0, vI x1, vI x2] [vR 1] I1 K
      refine G_getR rc_58_68 s0_1 (by decide) rfl (by decide) ?_
      show GO S0 58 71 [vR 0, vI x1, vI x2] [vR 2] I1 K
      refine G_loadI rc_58_71 rfl ?_
      obtain ⟨c5, h⟩ := h
      refine G_ald rc_58_72 s0_2 (by omega) (by omega) ?_
      show GO S0 58 73 [vR 0, vI x1, vI x2] [vI (I1 2 (x1).toNat)] I1 K
      exact G_retI rc_58_73 (Or.inl rfl) h
    · rw [if_neg c4] at h
      rw [if_neg c4]
      by_cases c6 : x2 = 1
      · rw [if_pos c6] at h
        rw [if_pos c6]
        show GO S0 58 74 [vR 0, vI x1, vI x2] [] I1 K
        refine G_loadR rc_58_74 rfl ?_
        refine G_getR rc_58_75 s0_0 (by decide) rfl (by decide) ?_
        show GO S0 58 78 [vR 0, vI x1, vI x2] [vR 1] I1 K
        refine G_getR rc_58_78 s0_1 (by decide) rfl (by decide) ?_
        show GO S0 58 81 [vR 0, vI x1, vI x2] [vR 3] I1 K
        refine G_loadI rc_58_81 rfl ?_
        obtain ⟨c7, h⟩ := h
        refine G_ald rc_58_82 s0_3 (by omega) (by omega) ?_
        show GO S0 58 83 [vR 0, vI x1, vI x2] [vI (I1 3 (x1).toNat)] I1 K
        exact G_retI rc_58_83 (Or.inl rfl) h
      · rw [if_neg c6] at h
        rw [if_neg c6]
        by_cases c8 : x2 = 2
        · rw [if_pos c8] at h
          rw [if_pos c8]
          show GO S0 58 84 [vR 0, vI x1, vI x2] [] I1 K
          refine G_loadR rc_58_84 rfl ?_
          refine G_getR rc_58_85 s0_0 (by decide) rfl (by decide) ?_
          show GO S0 58 88 [vR 0, vI x1, vI x2] [vR 1] I1 K
          refine G_getR rc_58_88 s0_1 (by decide) rfl (by decide) ?_
          show GO S0 58 91 [vR 0, vI x1, vI x2] [vR 4] I1 K
          refine G_loadI rc_58_91 rfl ?_
          obtain ⟨c9, h⟩ := h
          refine G_ald rc_58_92 s0_4 (by omega) (by omega) ?_
          show GO S0 58 93 [vR 0, vI x1, vI x2] [vI (I1 4 (x1).toNat)] I1 K
          exact G_retI rc_58_93 (Or.inl rfl) h
        · rw [if_neg c8] at h
          rw [if_neg c8]
          by_cases c10 : x2 = 3
          · rw [if_pos c10] at h
            rw [if_pos c10]
            show GO S0 58 94 [vR 0, vI x1, vI x2] [] I1 K
            refine G_loadR rc_58_94 rfl ?_
            refine G_getR rc_58_95 s0_0 (by decide) rfl (by decide) ?_
            show GO S0 58 98 [vR 0, vI x1, vI x2] [vR 1] I1 K
            refine G_getR rc_58_98 s0_1 (by decide) rfl (by decide) ?_
            show GO S0 58 101 [vR 0, vI x1, vI x2] [vR 5] I1 K
            refine G_loadI rc_58_101 rfl ?_
            obtain ⟨c11, h⟩ := h
            refine G_ald rc_58_102 s0_5 (by omega) (by omega) ?_
            show GO S0 58 103 [vR 0, vI x1, vI x2] [vI (I1 5 (x1).toNat)] I1 K
            exact G_retI rc_58_103 (Or.inl rfl) h
          · rw [if_neg c10] at h
            rw [if_neg c10]
            by_cases c12 : x2 = 4
            · rw [if_pos c12] at h
              rw [if_pos c12]
              show GO S0 58 104 [vR 0, vI x1, vI x2] [] I1 K
              refine G_loadR rc_58_104 rfl ?_
              refine G_getR rc_58_105 s0_0 (by decide) rfl (by decide) ?_
              show GO S0 58 108 [vR 0, vI x1, vI x2] [vR 1] I1 K
              refine G_getR rc_58_108 s0_1 (by decide) rfl (by decide) ?_
              show GO S0 58 111 [vR 0, vI x1, vI x2] [vR 6] I1 K
              refine G_loadI rc_58_111 rfl ?_
              obtain ⟨c13, h⟩ := h
              refine G_ald rc_58_112 s0_6 (by omega) (by omega) ?_
              show GO S0 58 113 [vR 0, vI x1, vI x2] [vI (I1 6 (x1).toNat)] I1 K
              exact G_retI rc_58_113 (Or.inl rfl) h
            · rw [if_neg c12] at h
              rw [if_neg c12]
              by_cases c14 : x2 = 5
              · rw [if_pos c14] at h
                rw [if_pos c14]
                show GO S0 58 114 [vR 0, vI x1, vI x2] [] I1 K
                refine G_loadR rc_58_114 rfl ?_
                refine G_getR rc_58_115 s0_0 (by decide) rfl (by decide) ?_
                show GO S0 58 118 [vR 0, vI x1, vI x2] [vR 1] I1 K
                refine G_getR rc_58_118 s0_1 (by decide) rfl (by decide) ?_
                show GO S0 58 121 [vR 0, vI x1, vI x2] [vR 7] I1 K
                refine G_loadI rc_58_121 rfl ?_
                obtain ⟨c15, h⟩ := h
                refine G_ald rc_58_122 s0_7 (by omega) (by omega) ?_
                show GO S0 58 123 [vR 0, vI x1, vI x2] [vI (I1 7 (x1).toNat)] I1 K
                exact G_retI rc_58_123 (Or.inl rfl) h
              · rw [if_neg c14] at h
                rw [if_neg c14]
                by_cases c16 : x2 = 6
                · rw [if_pos c16] at h
                  rw [if_pos c16]
                  show GO S0 58 124 [vR 0, vI x1, vI x2] [] I1 K
                  refine G_loadR rc_58_124 rfl ?_
                  refine G_getR rc_58_125 s0_0 (by decide) rfl (by decide) ?_
                  show GO S0 58 128 [vR 0, vI x1, vI x2] [vR 1] I1 K
                  refine G_getR rc_58_128 s0_1 (by decide) rfl (by decide) ?_
                  show GO S0 58 131 [vR 0, vI x1, vI x2] [vR 8] I1 K
                  refine G_loadI rc_58_131 rfl ?_
                  obtain ⟨c17, h⟩ := h
                  refine G_ald rc_58_132 s0_8 (by omega) (by omega) ?_
                  show GO S0 58 133 [vR 0, vI x1, vI x2] [vI (I1 8 (x1).toNat)] I1 K
                  exact G_retI rc_58_133 (Or.inl rfl) h
                · rw [if_neg c16] at h
                  rw [if_neg c16]
                  by_cases c18 : x2 = 7
                  · rw [if_pos c18] at h
                    rw [if_pos c18]
                    show GO S0 58 134 [vR 0, vI x1, vI x2] [] I1 K
                    refine G_loadR rc_58_134 rfl ?_
                    refine G_getR rc_58_135 s0_0 (by decide) rfl (by decide) ?_
                    show GO S0 58 138 [vR 0, vI x1, vI x2] [vR 1] I1 K
                    refine G_getR rc_58_138 s0_1 (by decide) rfl (by decide) ?_
                    show GO S0 58 141 [vR 0, vI x1, vI x2] [vR 9] I1 K
                    refine G_loadI rc_58_141 rfl ?_
                    obtain ⟨c19, h⟩ := h
                    refine G_ald rc_58_142 s0_9 (by omega) (by omega) ?_
                    show GO S0 58 143 [vR 0, vI x1, vI x2] [vI (I1 9 (x1).toNat)] I1 K
                    exact G_retI rc_58_143 (Or.inl rfl) h
                  · rw [if_neg c18] at h
                    rw [if_neg c18]
                    by_cases c20 : x2 = 8
                    · rw [if_pos c20] at h
                      rw [if_pos c20]
                      show GO S0 58 144 [vR 0, vI x1, vI x2] [] I1 K
                      refine G_loadR rc_58_144 rfl ?_
                      refine G_getR rc_58_145 s0_0 (by decide) rfl (by decide) ?_
                      show GO S0 58 148 [vR 0, vI x1, vI x2] [vR 29] I1 K
                      refine G_loadI rc_58_148 rfl ?_
                      refine G_call (as := [vR 29, vI x1]) (rest := []) rc_58_149 rfl rfl rfl (Nat.le_of_ble_eq_true rfl) (g_recv s0_29 rfl) ?_
                      refine GO.imp h (fun v I21 h => ?_)
                      obtain ⟨y22, rfl, h⟩ := h
                      show GO S0 58 152 [vR 0, vI x1, vI x2] [vI y22] I21 K
                      refine G_call (as := [vI y22]) (rest := []) rc_58_152 rfl rfl rfl (Nat.le_of_ble_eq_true rfl) rfl ?_
                      refine GO.imp h (fun v I23 h => ?_)
                      obtain ⟨y24, rfl, h⟩ := h
                      show GO S0 58 155 [vR 0, vI x1, vI x2] [vI y24] I23 K
                      exact G_retI rc_58_155 (Or.inl rfl) h
                    · rw [if_neg c20] at h
                      rw [if_neg c20]
                      by_cases c25 : x2 = 9
                      · rw [if_pos c25] at h
                        rw [if_pos c25]
                        show GO S0 58 156 [vR 0, vI x1, vI x2] [] I1 K
                        refine G_loadR rc_58_156 rfl ?_
                        refine G_getR rc_58_157 s0_0 (by decide) rfl (by decide) ?_
                        show GO S0 58 160 [vR 0, vI x1, vI x2] [vR 29] I1 K
                        refine G_loadI rc_58_160 rfl ?_
                        refine G_call (as := [vR 29, vI x1]) (rest := []) rc_58_161 rfl rfl rfl (Nat.le_of_ble_eq_true rfl) (g_recv s0_29 rfl) ?_
                        refine GO.imp h (fun v I26 h => ?_)
                        obtain ⟨y27, rfl, h⟩ := h
                        show GO S0 58 164 [vR 0, vI x1, vI x2] [vI y27] I26 K
                        refine G_call (as := [vI y27]) (rest := []) rc_58_164 rfl rfl rfl (Nat.le_of_ble_eq_true rfl) rfl ?_
                        refine GO.imp h (fun v I28 h => ?_)
                        obtain ⟨y29, rfl, h⟩ := h
                        show GO S0 58 167 [vR 0, vI x1, vI x2] [vI y29] I28 K
                        exact G_retI rc_58_167 (Or.inl rfl) h
                      · rw [if_neg c25] at h
                        rw [if_neg c25]
                        show GO S0 58 168 [vR 0, vI x1, vI x2] [] I1 K
                        refine G_const rc_58_168 (by decide) ?_
                        exact G_retI rc_58_169 (Or.inl rfl) h
  · rw [if_pos (Classical.not_not.mp c3)] at h
    show GO S0 58 8 [vR 0, vI x1, vI x2] [] I1 K
    refine G_const rc_58_8 (by decide) ?_
    exact G_retI rc_58_9 (Or.inl rfl) h
/-! 59: RoundSlack.orLacking(I)I -/
def D59_0 (x0 : Int) (I : IM) (K : Option AV → IM → Prop) : Prop :=
  (if x0 = -1 then (K (some (vI (-5))) I) else (K (some (vI x0)) I))
set_option maxRecDepth 10000 in
theorem g59_0 (x0 : Int) (I : IM) (K : Option AV → IM → Prop) (h : D59_0 x0 I K) : GO S0 59 0 [vI x0] [] I K := by
  unfold D59_0 at h
  refine G_loadI rc_59_0 rfl ?_
  refine G_const rc_59_1 (by decide) ?_
  refine G_i2 (C := ¬ x0 = -1) rc_59_2 rfl (fun c1 => ?_) (fun c1 => ?_)
  · rw [if_neg c1] at h
    show GO S0 59 10 [vI x0] [] I K
    refine G_loadI rc_59_10 rfl ?_
    exact G_retI rc_59_11 (Or.inl rfl) h
  · rw [if_pos (Classical.not_not.mp c1)] at h
    show GO S0 59 5 [vI x0] [] I K
    refine G_const rc_59_5 (by decide) ?_
    refine G_goto rc_59_7 ?_
    show GO S0 59 11 [vI x0] [vI (-5)] I K
    exact G_retI rc_59_11 (Or.inl rfl) h
