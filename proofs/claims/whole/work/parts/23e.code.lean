/-! 213: RoundSlackModel.crosses(IIII)V -/
def D213_129 (x1 : Int) (x2 : Int) (x3 : Int) (x4 : Int) (x5 : Int) (x6 : Int) (x7 : Int) (I : IM) (K : Option AV → IM → Prop) : Prop :=
  (if x5 ≤ x7 then (K none I) else ((inR (x4 + x7)) ∧ (0 ≤ x7 ∧ x7 < 12) ∧ CALL S0 157 [vR 242, vI x2, vI (x4 + x7), vI (I 248 (x7).toNat)] I (fun v I4 => v = none ∧ (inR (x7 + 1)) ∧ GO S0 213 129 [vR 237, vI x1, vI x2, vI x3, vI x4, vI x5, vI x6, vI (x7 + 1)] [] I4 K)))
set_option maxRecDepth 10000 in
theorem g213_129 (x1 : Int) (x2 : Int) (x3 : Int) (x4 : Int) (x5 : Int) (x6 : Int) (x7 : Int) (I : IM) (K : Option AV → IM → Prop) (h : D213_129 x1 x2 x3 x4 x5 x6 x7 I K) : GO S0 213 129 [vR 237, vI x1, vI x2, vI x3, vI x4, vI x5, vI x6, vI x7] [] I K := by
  unfold D213_129 at h
  refine G_loadI rc_213_129 rfl ?_
  refine G_loadI rc_213_131 rfl ?_
  refine G_i2 (C := x5 ≤ x7) rc_213_133 rfl (fun c1 => ?_) (fun c1 => ?_)
  · rw [if_pos c1] at h
    show GO S0 213 162 [vR 237, vI x1, vI x2, vI x3, vI x4, vI x5, vI x6, vI x7] [] I K
    exact G_ret0 rc_213_162 h
  · rw [if_neg c1] at h
    show GO S0 213 136 [vR 237, vI x1, vI x2, vI x3, vI x4, vI x5, vI x6, vI x7] [] I K
    refine G_loadR rc_213_136 rfl ?_
    refine G_getR rc_213_137 s0_237 (by decide) rfl (by decide) ?_
    show GO S0 213 140 [vR 237, vI x1, vI x2, vI x3, vI x4, vI x5, vI x6, vI x7] [vR 242] I K
    refine G_loadI rc_213_140 rfl ?_
    refine G_loadI rc_213_141 rfl ?_
    refine G_loadI rc_213_143 rfl ?_
    obtain ⟨c2, h⟩ := h
    refine G_bop (z := x4 + x7) rc_213_145 (if_pos c2) ?_
    show GO S0 213 146 [vR 237, vI x1, vI x2, vI x3, vI x4, vI x5, vI x6, vI x7] [vI (x4 + x7), vI x2, vR 242] I K
    refine G_loadR rc_213_146 rfl ?_
    refine G_getR rc_213_147 s0_237 (by decide) rfl (by decide) ?_
    show GO S0 213 150 [vR 237, vI x1, vI x2, vI x3, vI x4, vI x5, vI x6, vI x7] [vR 248, vI (x4 + x7), vI x2, vR 242] I K
    refine G_loadI rc_213_150 rfl ?_
    obtain ⟨c3, h⟩ := h
    refine G_ald rc_213_152 s0_248 (by omega) (by omega) ?_
    show GO S0 213 153 [vR 237, vI x1, vI x2, vI x3, vI x4, vI x5, vI x6, vI x7] [vI (I 248 (x7).toNat), vI (x4 + x7), vI x2, vR 242] I K
    refine G_call (as := [vR 242, vI x2, vI (x4 + x7), vI (I 248 (x7).toNat)]) (rest := []) rc_213_153 rfl rfl rfl (Nat.le_of_ble_eq_true rfl) rfl ?_
    refine GO.imp h (fun v I4 h => ?_)
    obtain ⟨rfl, h⟩ := h
    show GO S0 213 156 [vR 237, vI x1, vI x2, vI x3, vI x4, vI x5, vI x6, vI x7] [] I4 K
    obtain ⟨c5, h⟩ := h
    refine G_iinc rc_213_156 rfl c5 ?_
    show GO S0 213 159 [vR 237, vI x1, vI x2, vI x3, vI x4, vI x5, vI x6, vI (x7 + 1)] [] I4 K
    refine G_goto rc_213_159 ?_
    show GO S0 213 129 [vR 237, vI x1, vI x2, vI x3, vI x4, vI x5, vI x6, vI (x7 + 1)] [] I4 K
    exact h
def D213_76 (x1 : Int) (x2 : Int) (x3 : Int) (x4 : Int) (x5 : Int) (x6 : Int) (x7 : Int) (I : IM) (K : Option AV → IM → Prop) : Prop :=
  (if x6 ≤ x7 then ((inR (13 * x2)) ∧ (0 ≤ 13 * x2 ∧ 13 * x2 < 52) ∧ ∀ I4 : IM, I4 = iup I 242 (13 * x2).toNat x4 → GO S0 213 129 [vR 237, vI x1, vI x2, vI x3, vI x4, vI x5, vI x6, vI 0] [] I4 K) else ((inR (x3 + x7)) ∧ (inR (x4 + x7)) ∧ CALL S0 162 [vR 237, vR 242, vI x2, vI (x4 + x7)] I (fun v I7 => ∃ y8 : Int, v = some (vI y8) ∧ CALL S0 157 [vR 242, vI x1, vI (x3 + x7), vI y8] I7 (fun v I9 => v = none ∧ (inR (x7 + 1)) ∧ GO S0 213 76 [vR 237, vI x1, vI x2, vI x3, vI x4, vI x5, vI x6, vI (x7 + 1)] [] I9 K))))
set_option maxRecDepth 10000 in
theorem g213_76 (x1 : Int) (x2 : Int) (x3 : Int) (x4 : Int) (x5 : Int) (x6 : Int) (x7 : Int) (I : IM) (K : Option AV → IM → Prop) (h : D213_76 x1 x2 x3 x4 x5 x6 x7 I K) : GO S0 213 76 [vR 237, vI x1, vI x2, vI x3, vI x4, vI x5, vI x6, vI x7] [] I K := by
  unfold D213_76 at h
  refine G_loadI rc_213_76 rfl ?_
  refine G_loadI rc_213_78 rfl ?_
  refine G_i2 (C := x6 ≤ x7) rc_213_80 rfl (fun c1 => ?_) (fun c1 => ?_)
  · rw [if_pos c1] at h
    show GO S0 213 115 [vR 237, vI x1, vI x2, vI x3, vI x4, vI x5, vI x6, vI x7] [] I K
    refine G_loadR rc_213_115 rfl ?_
    refine G_getR rc_213_116 s0_237 (by decide) rfl (by decide) ?_
    show GO S0 213 119 [vR 237, vI x1, vI x2, vI x3, vI x4, vI x5, vI x6, vI x7] [vR 242] I K
    refine G_const rc_213_119 (by decide) ?_
    refine G_loadI rc_213_121 rfl ?_
    obtain ⟨c2, h⟩ := h
    refine G_bop (z := 13 * x2) rc_213_122 (if_pos c2) ?_
    show GO S0 213 123 [vR 237, vI x1, vI x2, vI x3, vI x4, vI x5, vI x6, vI x7] [vI (13 * x2), vR 242] I K
    refine G_loadI rc_213_123 rfl ?_
    obtain ⟨c3, h⟩ := h
    refine G_ast rc_213_125 s0_242 (by omega) (by omega) (Or.inl rfl) ?_
    show GO S0 213 126 [vR 237, vI x1, vI x2, vI x3, vI x4, vI x5, vI x6, vI x7] [] (iup I 242 (13 * x2).toNat x4) K
    have h := h _ rfl
    generalize iup I 242 (13 * x2).toNat x4 = I4 at h ⊢
    refine G_const rc_213_126 (by decide) ?_
    refine G_storeI rc_213_127 (Nat.le_of_ble_eq_true rfl) ?_
    show GO S0 213 129 [vR 237, vI x1, vI x2, vI x3, vI x4, vI x5, vI x6, vI 0] [] I4 K
    exact h
  · rw [if_neg c1] at h
    show GO S0 213 83 [vR 237, vI x1, vI x2, vI x3, vI x4, vI x5, vI x6, vI x7] [] I K
    refine G_loadR rc_213_83 rfl ?_
    refine G_getR rc_213_84 s0_237 (by decide) rfl (by decide) ?_
    show GO S0 213 87 [vR 237, vI x1, vI x2, vI x3, vI x4, vI x5, vI x6, vI x7] [vR 242] I K
    refine G_loadI rc_213_87 rfl ?_
    refine G_loadI rc_213_88 rfl ?_
    refine G_loadI rc_213_89 rfl ?_
    obtain ⟨c5, h⟩ := h
    refine G_bop (z := x3 + x7) rc_213_91 (if_pos c5) ?_
    show GO S0 213 92 [vR 237, vI x1, vI x2, vI x3, vI x4, vI x5, vI x6, vI x7] [vI (x3 + x7), vI x1, vR 242] I K
    refine G_loadR rc_213_92 rfl ?_
    refine G_loadR rc_213_93 rfl ?_
    refine G_getR rc_213_94 s0_237 (by decide) rfl (by decide) ?_
    show GO S0 213 97 [vR 237, vI x1, vI x2, vI x3, vI x4, vI x5, vI x6, vI x7] [vR 242, vR 237, vI (x3 + x7), vI x1, vR 242] I K
    refine G_loadI rc_213_97 rfl ?_
    refine G_loadI rc_213_98 rfl ?_
    refine G_loadI rc_213_100 rfl ?_
    obtain ⟨c6, h⟩ := h
    refine G_bop (z := x4 + x7) rc_213_102 (if_pos c6) ?_
    show GO S0 213 103 [vR 237, vI x1, vI x2, vI x3, vI x4, vI x5, vI x6, vI x7] [vI (x4 + x7), vI x2, vR 242, vR 237, vI (x3 + x7), vI x1, vR 242] I K
    refine G_call (as := [vR 237, vR 242, vI x2, vI (x4 + x7)]) (rest := [vI (x3 + x7), vI x1, vR 242]) rc_213_103 rfl rfl rfl (Nat.le_of_ble_eq_true rfl) (g_recv s0_237 rfl) ?_
    refine GO.imp h (fun v I7 h => ?_)
    obtain ⟨y8, rfl, h⟩ := h
    show GO S0 213 106 [vR 237, vI x1, vI x2, vI x3, vI x4, vI x5, vI x6, vI x7] [vI y8, vI (x3 + x7), vI x1, vR 242] I7 K
    refine G_call (as := [vR 242, vI x1, vI (x3 + x7), vI y8]) (rest := []) rc_213_106 rfl rfl rfl (Nat.le_of_ble_eq_true rfl) rfl ?_
    refine GO.imp h (fun v I9 h => ?_)
    obtain ⟨rfl, h⟩ := h
    show GO S0 213 109 [vR 237, vI x1, vI x2, vI x3, vI x4, vI x5, vI x6, vI x7] [] I9 K
    obtain ⟨c10, h⟩ := h
    refine G_iinc rc_213_109 rfl c10 ?_
    show GO S0 213 112 [vR 237, vI x1, vI x2, vI x3, vI x4, vI x5, vI x6, vI (x7 + 1)] [] I9 K
    refine G_goto rc_213_112 ?_
    show GO S0 213 76 [vR 237, vI x1, vI x2, vI x3, vI x4, vI x5, vI x6, vI (x7 + 1)] [] I9 K
    exact h
def D213_16 (x1 : Int) (x2 : Int) (x3 : Int) (x4 : Int) (x5 : Int) (x6 : Int) (u7 : AV) (I : IM) (K : Option AV → IM → Prop) : Prop :=
  (if x5 ≤ x6 then ((inR (13 * x1)) ∧ (0 ≤ 13 * x1 ∧ 13 * x1 < 52) ∧ ∀ I4 : IM, I4 = iup I 242 (13 * x1).toNat x3 → CALL S0 156 [vR 237, vR 242, vI x2] I4 (fun v I5 => ∃ y6 : Int, v = some (vI y6) ∧ (inR (y6 - x4)) ∧ GO S0 213 76 [vR 237, vI x1, vI x2, vI x3, vI x4, vI x5, vI (y6 - x4), vI 0] [] I5 K)) else ((inR (x3 + x6)) ∧ CALL S0 162 [vR 237, vR 242, vI x1, vI (x3 + x6)] I (fun v I9 => ∃ y10 : Int, v = some (vI y10) ∧ (0 ≤ x6 ∧ x6 < 12) ∧ ∀ I12 : IM, I12 = iup I9 248 (x6).toNat y10 → (inR (x6 + 1)) ∧ GO S0 213 16 [vR 237, vI x1, vI x2, vI x3, vI x4, vI x5, vI (x6 + 1), u7] [] I12 K)))
set_option maxRecDepth 10000 in
theorem g213_16 (x1 : Int) (x2 : Int) (x3 : Int) (x4 : Int) (x5 : Int) (x6 : Int) (u7 : AV) (I : IM) (K : Option AV → IM → Prop) (h : D213_16 x1 x2 x3 x4 x5 x6 u7 I K) : GO S0 213 16 [vR 237, vI x1, vI x2, vI x3, vI x4, vI x5, vI x6, u7] [] I K := by
  unfold D213_16 at h
  refine G_loadI rc_213_16 rfl ?_
  refine G_loadI rc_213_18 rfl ?_
  refine G_i2 (C := x5 ≤ x6) rc_213_20 rfl (fun c1 => ?_) (fun c1 => ?_)
  · rw [if_pos c1] at h
    show GO S0 213 49 [vR 237, vI x1, vI x2, vI x3, vI x4, vI x5, vI x6, u7] [] I K
    refine G_loadR rc_213_49 rfl ?_
    refine G_getR rc_213_50 s0_237 (by decide) rfl (by decide) ?_
    show GO S0 213 53 [vR 237, vI x1, vI x2, vI x3, vI x4, vI x5, vI x6, u7] [vR 242] I K
    refine G_const rc_213_53 (by decide) ?_
    refine G_loadI rc_213_55 rfl ?_
    obtain ⟨c2, h⟩ := h
    refine G_bop (z := 13 * x1) rc_213_56 (if_pos c2) ?_
    show GO S0 213 57 [vR 237, vI x1, vI x2, vI x3, vI x4, vI x5, vI x6, u7] [vI (13 * x1), vR 242] I K
    refine G_loadI rc_213_57 rfl ?_
    obtain ⟨c3, h⟩ := h
    refine G_ast rc_213_58 s0_242 (by omega) (by omega) (Or.inl rfl) ?_
    show GO S0 213 59 [vR 237, vI x1, vI x2, vI x3, vI x4, vI x5, vI x6, u7] [] (iup I 242 (13 * x1).toNat x3) K
    have h := h _ rfl
    generalize iup I 242 (13 * x1).toNat x3 = I4 at h ⊢
    refine G_loadR rc_213_59 rfl ?_
    refine G_loadR rc_213_60 rfl ?_
    refine G_getR rc_213_61 s0_237 (by decide) rfl (by decide) ?_
    show GO S0 213 64 [vR 237, vI x1, vI x2, vI x3, vI x4, vI x5, vI x6, u7] [vR 242, vR 237] I4 K
    refine G_loadI rc_213_64 rfl ?_
    refine G_call (as := [vR 237, vR 242, vI x2]) (rest := []) rc_213_65 rfl rfl rfl (Nat.le_of_ble_eq_true rfl) (g_recv s0_237 rfl) ?_
    refine GO.imp h (fun v I5 h => ?_)
    obtain ⟨y6, rfl, h⟩ := h
    show GO S0 213 68 [vR 237, vI x1, vI x2, vI x3, vI x4, vI x5, vI x6, u7] [vI y6] I5 K
    refine G_loadI rc_213_68 rfl ?_
    obtain ⟨c7, h⟩ := h
    refine G_bop (z := y6 - x4) rc_213_70 (if_pos c7) ?_
    show GO S0 213 71 [vR 237, vI x1, vI x2, vI x3, vI x4, vI x5, vI x6, u7] [vI (y6 - x4)] I5 K
    refine G_storeI rc_213_71 (Nat.le_of_ble_eq_true rfl) ?_
    show GO S0 213 73 [vR 237, vI x1, vI x2, vI x3, vI x4, vI x5, vI (y6 - x4), u7] [] I5 K
    refine G_const rc_213_73 (by decide) ?_
    refine G_storeI rc_213_74 (Nat.le_of_ble_eq_true rfl) ?_
    show GO S0 213 76 [vR 237, vI x1, vI x2, vI x3, vI x4, vI x5, vI (y6 - x4), vI 0] [] I5 K
    exact h
  · rw [if_neg c1] at h
    show GO S0 213 23 [vR 237, vI x1, vI x2, vI x3, vI x4, vI x5, vI x6, u7] [] I K
    refine G_loadR rc_213_23 rfl ?_
    refine G_getR rc_213_24 s0_237 (by decide) rfl (by decide) ?_
    show GO S0 213 27 [vR 237, vI x1, vI x2, vI x3, vI x4, vI x5, vI x6, u7] [vR 248] I K
    refine G_loadI rc_213_27 rfl ?_
    refine G_loadR rc_213_29 rfl ?_
    refine G_loadR rc_213_30 rfl ?_
    refine G_getR rc_213_31 s0_237 (by decide) rfl (by decide) ?_
    show GO S0 213 34 [vR 237, vI x1, vI x2, vI x3, vI x4, vI x5, vI x6, u7] [vR 242, vR 237, vI x6, vR 248] I K
    refine G_loadI rc_213_34 rfl ?_
    refine G_loadI rc_213_35 rfl ?_
    refine G_loadI rc_213_36 rfl ?_
    obtain ⟨c8, h⟩ := h
    refine G_bop (z := x3 + x6) rc_213_38 (if_pos c8) ?_
    show GO S0 213 39 [vR 237, vI x1, vI x2, vI x3, vI x4, vI x5, vI x6, u7] [vI (x3 + x6), vI x1, vR 242, vR 237, vI x6, vR 248] I K
    refine G_call (as := [vR 237, vR 242, vI x1, vI (x3 + x6)]) (rest := [vI x6, vR 248]) rc_213_39 rfl rfl rfl (Nat.le_of_ble_eq_true rfl) (g_recv s0_237 rfl) ?_
    refine GO.imp h (fun v I9 h => ?_)
    obtain ⟨y10, rfl, h⟩ := h
    show GO S0 213 42 [vR 237, vI x1, vI x2, vI x3, vI x4, vI x5, vI x6, u7] [vI y10, vI x6, vR 248] I9 K
    obtain ⟨c11, h⟩ := h
    refine G_ast rc_213_42 s0_248 (by omega) (by omega) (Or.inl rfl) ?_
    show GO S0 213 43 [vR 237, vI x1, vI x2, vI x3, vI x4, vI x5, vI x6, u7] [] (iup I9 248 (x6).toNat y10) K
    have h := h _ rfl
    generalize iup I9 248 (x6).toNat y10 = I12 at h ⊢
    obtain ⟨c13, h⟩ := h
    refine G_iinc rc_213_43 rfl c13 ?_
    show GO S0 213 46 [vR 237, vI x1, vI x2, vI x3, vI x4, vI x5, vI (x6 + 1), u7] [] I12 K
    refine G_goto rc_213_46 ?_
    show GO S0 213 16 [vR 237, vI x1, vI x2, vI x3, vI x4, vI x5, vI (x6 + 1), u7] [] I12 K
    exact h
def D213_0 (x1 : Int) (x2 : Int) (x3 : Int) (x4 : Int) (I : IM) (K : Option AV → IM → Prop) : Prop :=
  CALL S0 156 [vR 237, vR 242, vI x1] I (fun v I1 => ∃ y2 : Int, v = some (vI y2) ∧ (inR (y2 - x3)) ∧ GO S0 213 16 [vR 237, vI x1, vI x2, vI x3, vI x4, vI (y2 - x3), vI 0, vU] [] I1 K)
set_option maxRecDepth 10000 in
theorem g213_0 (x1 : Int) (x2 : Int) (x3 : Int) (x4 : Int) (I : IM) (K : Option AV → IM → Prop) (h : D213_0 x1 x2 x3 x4 I K) : GO S0 213 0 [vR 237, vI x1, vI x2, vI x3, vI x4, vU, vU, vU] [] I K := by
  unfold D213_0 at h
  refine G_loadR rc_213_0 rfl ?_
  refine G_loadR rc_213_1 rfl ?_
  refine G_getR rc_213_2 s0_237 (by decide) rfl (by decide) ?_
  show GO S0 213 5 [vR 237, vI x1, vI x2, vI x3, vI x4, vU, vU, vU] [vR 242, vR 237] I K
  refine G_loadI rc_213_5 rfl ?_
  refine G_call (as := [vR 237, vR 242, vI x1]) (rest := []) rc_213_6 rfl rfl rfl (Nat.le_of_ble_eq_true rfl) (g_recv s0_237 rfl) ?_
  refine GO.imp h (fun v I1 h => ?_)
  obtain ⟨y2, rfl, h⟩ := h
  show GO S0 213 9 [vR 237, vI x1, vI x2, vI x3, vI x4, vU, vU, vU] [vI y2] I1 K
  refine G_loadI rc_213_9 rfl ?_
  obtain ⟨c3, h⟩ := h
  refine G_bop (z := y2 - x3) rc_213_10 (if_pos c3) ?_
  show GO S0 213 11 [vR 237, vI x1, vI x2, vI x3, vI x4, vU, vU, vU] [vI (y2 - x3)] I1 K
  refine G_storeI rc_213_11 (Nat.le_of_ble_eq_true rfl) ?_
  show GO S0 213 13 [vR 237, vI x1, vI x2, vI x3, vI x4, vI (y2 - x3), vU, vU] [] I1 K
  refine G_const rc_213_13 (by decide) ?_
  refine G_storeI rc_213_14 (Nat.le_of_ble_eq_true rfl) ?_
  show GO S0 213 16 [vR 237, vI x1, vI x2, vI x3, vI x4, vI (y2 - x3), vI 0, vU] [] I1 K
  exact h
/-! 214: RoundSlackModel.turns(III)V -/
def D214_36 (x1 : Int) (x2 : Int) (x3 : Int) (x4 : Int) (I : IM) (K : Option AV → IM → Prop) : Prop :=
  (if x3 < x4 then (K none I) else ((inR (13 * x1)) ∧ (inR ((13 * x1) + 1)) ∧ (inR (((13 * x1) + 1) + x4)) ∧ (inR (x2 + x3)) ∧ (inR ((x2 + x3) - x4)) ∧ (0 ≤ (x2 + x3) - x4 ∧ (x2 + x3) - x4 < 12) ∧ (0 ≤ ((13 * x1) + 1) + x4 ∧ ((13 * x1) + 1) + x4 < 52) ∧ ∀ I9 : IM, I9 = iup I 242 (((13 * x1) + 1) + x4).toNat (I 248 ((x2 + x3) - x4).toNat) → (inR (x4 + 1)) ∧ GO S0 214 36 [vR 237, vI x1, vI x2, vI x3, vI (x4 + 1)] [] I9 K))
set_option maxRecDepth 10000 in
theorem g214_36 (x1 : Int) (x2 : Int) (x3 : Int) (x4 : Int) (I : IM) (K : Option AV → IM → Prop) (h : D214_36 x1 x2 x3 x4 I K) : GO S0 214 36 [vR 237, vI x1, vI x2, vI x3, vI x4] [] I K := by
  unfold D214_36 at h
  refine G_loadI rc_214_36 rfl ?_
  refine G_loadI rc_214_38 rfl ?_
  refine G_i2 (C := x3 < x4) rc_214_39 rfl (fun c1 => ?_) (fun c1 => ?_)
  · rw [if_pos c1] at h
    show GO S0 214 73 [vR 237, vI x1, vI x2, vI x3, vI x4] [] I K
    exact G_ret0 rc_214_73 h
  · rw [if_neg c1] at h
    show GO S0 214 42 [vR 237, vI x1, vI x2, vI x3, vI x4] [] I K
    refine G_loadR rc_214_42 rfl ?_
    refine G_getR rc_214_43 s0_237 (by decide) rfl (by decide) ?_
    show GO S0 214 46 [vR 237, vI x1, vI x2, vI x3, vI x4] [vR 242] I K
    refine G_const rc_214_46 (by decide) ?_
    refine G_loadI rc_214_48 rfl ?_
    obtain ⟨c2, h⟩ := h
    refine G_bop (z := 13 * x1) rc_214_49 (if_pos c2) ?_
    show GO S0 214 50 [vR 237, vI x1, vI x2, vI x3, vI x4] [vI (13 * x1), vR 242] I K
    refine G_const rc_214_50 (by decide) ?_
    obtain ⟨c3, h⟩ := h
    refine G_bop (z := (13 * x1) + 1) rc_214_51 (if_pos c3) ?_
    show GO S0 214 52 [vR 237, vI x1, vI x2, vI x3, vI x4] [vI ((13 * x1) + 1), vR 242] I K
    refine G_loadI rc_214_52 rfl ?_
    obtain ⟨c4, h⟩ := h
    refine G_bop (z := ((13 * x1) + 1) + x4) rc_214_54 (if_pos c4) ?_
    show GO S0 214 55 [vR 237, vI x1, vI x2, vI x3, vI x4] [vI (((13 * x1) + 1) + x4), vR 242] I K
    refine G_loadR rc_214_55 rfl ?_
    refine G_getR rc_214_56 s0_237 (by decide) rfl (by decide) ?_
    show GO S0 214 59 [vR 237, vI x1, vI x2, vI x3, vI x4] [vR 248, vI (((13 * x1) + 1) + x4), vR 242] I K
    refine G_loadI rc_214_59 rfl ?_
    refine G_loadI rc_214_60 rfl ?_
    obtain ⟨c5, h⟩ := h
    refine G_bop (z := x2 + x3) rc_214_61 (if_pos c5) ?_
    show GO S0 214 62 [vR 237, vI x1, vI x2, vI x3, vI x4] [vI (x2 + x3), vR 248, vI (((13 * x1) + 1) + x4), vR 242] I K
    refine G_loadI rc_214_62 rfl ?_
    obtain ⟨c6, h⟩ := h
    refine G_bop (z := (x2 + x3) - x4) rc_214_64 (if_pos c6) ?_
    show GO S0 214 65 [vR 237, vI x1, vI x2, vI x3, vI x4] [vI ((x2 + x3) - x4), vR 248, vI (((13 * x1) + 1) + x4), vR 242] I K
    obtain ⟨c7, h⟩ := h
    refine G_ald rc_214_65 s0_248 (by omega) (by omega) ?_
    show GO S0 214 66 [vR 237, vI x1, vI x2, vI x3, vI x4] [vI (I 248 ((x2 + x3) - x4).toNat), vI (((13 * x1) + 1) + x4), vR 242] I K
    obtain ⟨c8, h⟩ := h
    refine G_ast rc_214_66 s0_242 (by omega) (by omega) (Or.inl rfl) ?_
    show GO S0 214 67 [vR 237, vI x1, vI x2, vI x3, vI x4] [] (iup I 242 (((13 * x1) + 1) + x4).toNat (I 248 ((x2 + x3) - x4).toNat)) K
    have h := h _ rfl
    generalize iup I 242 (((13 * x1) + 1) + x4).toNat (I 248 ((x2 + x3) - x4).toNat) = I9 at h ⊢
    obtain ⟨c10, h⟩ := h
    refine G_iinc rc_214_67 rfl c10 ?_
    show GO S0 214 70 [vR 237, vI x1, vI x2, vI x3, vI (x4 + 1)] [] I9 K
    refine G_goto rc_214_70 ?_
    show GO S0 214 36 [vR 237, vI x1, vI x2, vI x3, vI (x4 + 1)] [] I9 K
    exact h
def D214_3 (x1 : Int) (x2 : Int) (x3 : Int) (x4 : Int) (I : IM) (K : Option AV → IM → Prop) : Prop :=
  (if x3 < x4 then (GO S0 214 36 [vR 237, vI x1, vI x2, vI x3, vI x2] [] I K) else (CALL S0 162 [vR 237, vR 242, vI x1, vI x4] I (fun v I2 => ∃ y3 : Int, v = some (vI y3) ∧ (0 ≤ x4 ∧ x4 < 12) ∧ ∀ I5 : IM, I5 = iup I2 248 (x4).toNat y3 → (inR (x4 + 1)) ∧ GO S0 214 3 [vR 237, vI x1, vI x2, vI x3, vI (x4 + 1)] [] I5 K)))
set_option maxRecDepth 10000 in
theorem g214_3 (x1 : Int) (x2 : Int) (x3 : Int) (x4 : Int) (I : IM) (K : Option AV → IM → Prop) (h : D214_3 x1 x2 x3 x4 I K) : GO S0 214 3 [vR 237, vI x1, vI x2, vI x3, vI x4] [] I K := by
  unfold D214_3 at h
  refine G_loadI rc_214_3 rfl ?_
  refine G_loadI rc_214_5 rfl ?_
  refine G_i2 (C := x3 < x4) rc_214_6 rfl (fun c1 => ?_) (fun c1 => ?_)
  · rw [if_pos c1] at h
    show GO S0 214 33 [vR 237, vI x1, vI x2, vI x3, vI x4] [] I K
    refine G_loadI rc_214_33 rfl ?_
    refine G_storeI rc_214_34 (Nat.le_of_ble_eq_true rfl) ?_
    show GO S0 214 36 [vR 237, vI x1, vI x2, vI x3, vI x2] [] I K
    exact h
  · rw [if_neg c1] at h
    show GO S0 214 9 [vR 237, vI x1, vI x2, vI x3, vI x4] [] I K
    refine G_loadR rc_214_9 rfl ?_
    refine G_getR rc_214_10 s0_237 (by decide) rfl (by decide) ?_
    show GO S0 214 13 [vR 237, vI x1, vI x2, vI x3, vI x4] [vR 248] I K
    refine G_loadI rc_214_13 rfl ?_
    refine G_loadR rc_214_15 rfl ?_
    refine G_loadR rc_214_16 rfl ?_
    refine G_getR rc_214_17 s0_237 (by decide) rfl (by decide) ?_
    show GO S0 214 20 [vR 237, vI x1, vI x2, vI x3, vI x4] [vR 242, vR 237, vI x4, vR 248] I K
    refine G_loadI rc_214_20 rfl ?_
    refine G_loadI rc_214_21 rfl ?_
    refine G_call (as := [vR 237, vR 242, vI x1, vI x4]) (rest := [vI x4, vR 248]) rc_214_23 rfl rfl rfl (Nat.le_of_ble_eq_true rfl) (g_recv s0_237 rfl) ?_
    refine GO.imp h (fun v I2 h => ?_)
    obtain ⟨y3, rfl, h⟩ := h
    show GO S0 214 26 [vR 237, vI x1, vI x2, vI x3, vI x4] [vI y3, vI x4, vR 248] I2 K
    obtain ⟨c4, h⟩ := h
    refine G_ast rc_214_26 s0_248 (by omega) (by omega) (Or.inl rfl) ?_
    show GO S0 214 27 [vR 237, vI x1, vI x2, vI x3, vI x4] [] (iup I2 248 (x4).toNat y3) K
    have h := h _ rfl
    generalize iup I2 248 (x4).toNat y3 = I5 at h ⊢
    obtain ⟨c6, h⟩ := h
    refine G_iinc rc_214_27 rfl c6 ?_
    show GO S0 214 30 [vR 237, vI x1, vI x2, vI x3, vI (x4 + 1)] [] I5 K
    refine G_goto rc_214_30 ?_
    show GO S0 214 3 [vR 237, vI x1, vI x2, vI x3, vI (x4 + 1)] [] I5 K
    exact h
def D214_0 (x1 : Int) (x2 : Int) (x3 : Int) (I : IM) (K : Option AV → IM → Prop) : Prop :=
  GO S0 214 3 [vR 237, vI x1, vI x2, vI x3, vI x2] [] I K
set_option maxRecDepth 10000 in
theorem g214_0 (x1 : Int) (x2 : Int) (x3 : Int) (I : IM) (K : Option AV → IM → Prop) (h : D214_0 x1 x2 x3 I K) : GO S0 214 0 [vR 237, vI x1, vI x2, vI x3, vU] [] I K := by
  unfold D214_0 at h
  refine G_loadI rc_214_0 rfl ?_
  refine G_storeI rc_214_1 (Nat.le_of_ble_eq_true rfl) ?_
  show GO S0 214 3 [vR 237, vI x1, vI x2, vI x3, vI x2] [] I K
  exact h
/-! 215: RoundSlackModel.isOtherwise()Z -/
def D215_35 (x1 : Int) (x2 : Int) (I : IM) (K : Option AV → IM → Prop) : Prop :=
  (inR (13 * x1)) ∧ (0 ≤ 13 * x1 ∧ 13 * x1 < 52) ∧ (if I 242 (13 * x1).toNat ≤ x2 then ((inR (x1 + 1)) ∧ GO S0 215 2 [vR 237, vI (x1 + 1), vI x2] [] I K) else (CALL S0 162 [vR 237, vR 242, vI x1, vI x2] I (fun v I5 => ∃ y6 : Int, v = some (vI y6) ∧ (inR (114 + (13 * x1))) ∧ (inR ((114 + (13 * x1)) + 1)) ∧ (inR (((114 + (13 * x1)) + 1) + x2)) ∧ (0 ≤ ((114 + (13 * x1)) + 1) + x2 ∧ ((114 + (13 * x1)) + 1) + x2 < 166) ∧ (if y6 = I5 238 (((114 + (13 * x1)) + 1) + x2).toNat then ((inR (x2 + 1)) ∧ GO S0 215 35 [vR 237, vI x1, vI (x2 + 1)] [] I5 K) else (K (some (vI 1)) I5)))))
set_option maxRecDepth 10000 in
theorem g215_35 (x1 : Int) (x2 : Int) (I : IM) (K : Option AV → IM → Prop) (h : D215_35 x1 x2 I K) : GO S0 215 35 [vR 237, vI x1, vI x2] [] I K := by
  unfold D215_35 at h
  refine G_loadI rc_215_35 rfl ?_
  refine G_loadR rc_215_36 rfl ?_
  refine G_getR rc_215_37 s0_237 (by decide) rfl (by decide) ?_
  show GO S0 215 40 [vR 237, vI x1, vI x2] [vR 242, vI x2] I K
  refine G_const rc_215_40 (by decide) ?_
  refine G_loadI rc_215_42 rfl ?_
  obtain ⟨c1, h⟩ := h
  refine G_bop (z := 13 * x1) rc_215_43 (if_pos c1) ?_
  show GO S0 215 44 [vR 237, vI x1, vI x2] [vI (13 * x1), vR 242, vI x2] I K
  obtain ⟨c2, h⟩ := h
  refine G_ald rc_215_44 s0_242 (by omega) (by omega) ?_
  show GO S0 215 45 [vR 237, vI x1, vI x2] [vI (I 242 (13 * x1).toNat), vI x2] I K
  refine G_i2 (C := I 242 (13 * x1).toNat ≤ x2) rc_215_45 rfl (fun c3 => ?_) (fun c3 => ?_)
  · rw [if_pos c3] at h
    show GO S0 215 85 [vR 237, vI x1, vI x2] [] I K
    obtain ⟨c4, h⟩ := h
    refine G_iinc rc_215_85 rfl c4 ?_
    show GO S0 215 88 [vR 237, vI (x1 + 1), vI x2] [] I K
    refine G_goto rc_215_88 ?_
    show GO S0 215 2 [vR 237, vI (x1 + 1), vI x2] [] I K
    exact h
  · rw [if_neg c3] at h
    show GO S0 215 48 [vR 237, vI x1, vI x2] [] I K
    refine G_loadR rc_215_48 rfl ?_
    refine G_loadR rc_215_49 rfl ?_
    refine G_getR rc_215_50 s0_237 (by decide) rfl (by decide) ?_
    show GO S0 215 53 [vR 237, vI x1, vI x2] [vR 242, vR 237] I K
    refine G_loadI rc_215_53 rfl ?_
    refine G_loadI rc_215_54 rfl ?_
    refine G_call (as := [vR 237, vR 242, vI x1, vI x2]) (rest := []) rc_215_55 rfl rfl rfl (Nat.le_of_ble_eq_true rfl) (g_recv s0_237 rfl) ?_
    refine GO.imp h (fun v I5 h => ?_)
    obtain ⟨y6, rfl, h⟩ := h
    show GO S0 215 58 [vR 237, vI x1, vI x2] [vI y6] I5 K
    refine G_loadR rc_215_58 rfl ?_
    refine G_getR rc_215_59 s0_237 (by decide) rfl (by decide) ?_
    show GO S0 215 62 [vR 237, vI x1, vI x2] [vR 238, vI y6] I5 K
    refine G_const rc_215_62 (by decide) ?_
    refine G_const rc_215_64 (by decide) ?_
    refine G_loadI rc_215_66 rfl ?_
    refine G_bop (z := 13 * x1) rc_215_67 (if_pos c1) ?_
    show GO S0 215 68 [vR 237, vI x1, vI x2] [vI (13 * x1), vI 114, vR 238, vI y6] I5 K
    obtain ⟨c7, h⟩ := h
    refine G_bop (z := 114 + (13 * x1)) rc_215_68 (if_pos c7) ?_
    show GO S0 215 69 [vR 237, vI x1, vI x2] [vI (114 + (13 * x1)), vR 238, vI y6] I5 K
    refine G_const rc_215_69 (by decide) ?_
    obtain ⟨c8, h⟩ := h
    refine G_bop (z := (114 + (13 * x1)) + 1) rc_215_70 (if_pos c8) ?_
    show GO S0 215 71 [vR 237, vI x1, vI x2] [vI ((114 + (13 * x1)) + 1), vR 238, vI y6] I5 K
    refine G_loadI rc_215_71 rfl ?_
    obtain ⟨c9, h⟩ := h
    refine G_bop (z := ((114 + (13 * x1)) + 1) + x2) rc_215_72 (if_pos c9) ?_
    show GO S0 215 73 [vR 237, vI x1, vI x2] [vI (((114 + (13 * x1)) + 1) + x2), vR 238, vI y6] I5 K
    obtain ⟨c10, h⟩ := h
    refine G_ald rc_215_73 s0_238 (by omega) (by omega) ?_
    show GO S0 215 74 [vR 237, vI x1, vI x2] [vI (I5 238 (((114 + (13 * x1)) + 1) + x2).toNat), vI y6] I5 K
    refine G_i2 (C := y6 = I5 238 (((114 + (13 * x1)) + 1) + x2).toNat) rc_215_74 rfl (fun c11 => ?_) (fun c11 => ?_)
    · rw [if_pos c11] at h
      show GO S0 215 79 [vR 237, vI x1, vI x2] [] I5 K
      obtain ⟨c12, h⟩ := h
      refine G_iinc rc_215_79 rfl c12 ?_
      show GO S0 215 82 [vR 237, vI x1, vI (x2 + 1)] [] I5 K
      refine G_goto rc_215_82 ?_
      show GO S0 215 35 [vR 237, vI x1, vI (x2 + 1)] [] I5 K
      exact h
    · rw [if_neg c11] at h
      show GO S0 215 77 [vR 237, vI x1, vI x2] [] I5 K
      refine G_const rc_215_77 (by decide) ?_
      exact G_retI rc_215_78 (Or.inr (by decide)) h
def D215_2 (x1 : Int) (u2 : AV) (I : IM) (K : Option AV → IM → Prop) : Prop :=
  (if (4 : Int) ≤ x1 then (K (some (vI 0)) I) else ((inR (13 * x1)) ∧ (0 ≤ 13 * x1 ∧ 13 * x1 < 52) ∧ (inR (114 + (13 * x1))) ∧ (0 ≤ 114 + (13 * x1) ∧ 114 + (13 * x1) < 166) ∧ (if I 242 (13 * x1).toNat = I 238 (114 + (13 * x1)).toNat then (GO S0 215 35 [vR 237, vI x1, vI 0] [] I K) else (K (some (vI 1)) I))))
set_option maxRecDepth 10000 in
theorem g215_2 (x1 : Int) (u2 : AV) (I : IM) (K : Option AV → IM → Prop) (h : D215_2 x1 u2 I K) : GO S0 215 2 [vR 237, vI x1, u2] [] I K := by
  unfold D215_2 at h
  refine G_loadI rc_215_2 rfl ?_
  refine G_const rc_215_3 (by decide) ?_
  refine G_i2 (C := (4 : Int) ≤ x1) rc_215_4 rfl (fun c1 => ?_) (fun c1 => ?_)
  · rw [if_pos c1] at h
    show GO S0 215 91 [vR 237, vI x1, u2] [] I K
    refine G_const rc_215_91 (by decide) ?_
    exact G_retI rc_215_92 (Or.inr (by decide)) h
  · rw [if_neg c1] at h
    show GO S0 215 7 [vR 237, vI x1, u2] [] I K
    refine G_loadR rc_215_7 rfl ?_
    refine G_getR rc_215_8 s0_237 (by decide) rfl (by decide) ?_
    show GO S0 215 11 [vR 237, vI x1, u2] [vR 242] I K
    refine G_const rc_215_11 (by decide) ?_
    refine G_loadI rc_215_13 rfl ?_
    obtain ⟨c2, h⟩ := h
    refine G_bop (z := 13 * x1) rc_215_14 (if_pos c2) ?_
    show GO S0 215 15 [vR 237, vI x1, u2] [vI (13 * x1), vR 242] I K
    obtain ⟨c3, h⟩ := h
    refine G_ald rc_215_15 s0_242 (by omega) (by omega) ?_
    show GO S0 215 16 [vR 237, vI x1, u2] [vI (I 242 (13 * x1).toNat)] I K
    refine G_loadR rc_215_16 rfl ?_
    refine G_getR rc_215_17 s0_237 (by decide) rfl (by decide) ?_
    show GO S0 215 20 [vR 237, vI x1, u2] [vR 238, vI (I 242 (13 * x1).toNat)] I K
    refine G_const rc_215_20 (by decide) ?_
    refine G_const rc_215_22 (by decide) ?_
    refine G_loadI rc_215_24 rfl ?_
    refine G_bop (z := 13 * x1) rc_215_25 (if_pos c2) ?_
    show GO S0 215 26 [vR 237, vI x1, u2] [vI (13 * x1), vI 114, vR 238, vI (I 242 (13 * x1).toNat)] I K
    obtain ⟨c4, h⟩ := h
    refine G_bop (z := 114 + (13 * x1)) rc_215_26 (if_pos c4) ?_
    show GO S0 215 27 [vR 237, vI x1, u2] [vI (114 + (13 * x1)), vR 238, vI (I 242 (13 * x1).toNat)] I K
    obtain ⟨c5, h⟩ := h
    refine G_ald rc_215_27 s0_238 (by omega) (by omega) ?_
    show GO S0 215 28 [vR 237, vI x1, u2] [vI (I 238 (114 + (13 * x1)).toNat), vI (I 242 (13 * x1).toNat)] I K
    refine G_i2 (C := I 242 (13 * x1).toNat = I 238 (114 + (13 * x1)).toNat) rc_215_28 rfl (fun c6 => ?_) (fun c6 => ?_)
    · rw [if_pos c6] at h
      show GO S0 215 33 [vR 237, vI x1, u2] [] I K
      refine G_const rc_215_33 (by decide) ?_
      refine G_storeI rc_215_34 (Nat.le_of_ble_eq_true rfl) ?_
      show GO S0 215 35 [vR 237, vI x1, vI 0] [] I K
      exact h
    · rw [if_neg c6] at h
      show GO S0 215 31 [vR 237, vI x1, u2] [] I K
      refine G_const rc_215_31 (by decide) ?_
      exact G_retI rc_215_32 (Or.inr (by decide)) h
def D215_0 (I : IM) (K : Option AV → IM → Prop) : Prop :=
  GO S0 215 2 [vR 237, vI 0, vU] [] I K
set_option maxRecDepth 10000 in
theorem g215_0 (I : IM) (K : Option AV → IM → Prop) (h : D215_0 I K) : GO S0 215 0 [vR 237, vU, vU] [] I K := by
  unfold D215_0 at h
  refine G_const rc_215_0 (by decide) ?_
  refine G_storeI rc_215_1 (Nat.le_of_ble_eq_true rfl) ?_
  show GO S0 215 2 [vR 237, vI 0, vU] [] I K
  exact h
/-! 216: RoundSlackModel.gain(IIII)J -/
def D216_0 (x1 : Int) (x2 : Int) (x3 : Int) (x4 : Int) (I : IM) (K : Option AV → IM → Prop) : Prop :=
  CALL S0 209 [vR 237, vI x1, vI x2, vI x3, vI x4] I (fun v I1 => ∃ y2 : Int, v = some (vI y2) ∧ (if y2 = 0 then (K (some (vL (-9223372036854775808))) I1) else (CALL S0 211 [vR 237, vI x1, vI x2, vI x3, vI x4] I1 (fun v I4 => ∃ y5 : Int, v = some (vI y5) ∧ (if y5 = 0 then (K (some (vL (-9223372036854775808))) I4) else (CALL S0 217 [vR 237] I4 (fun v I7 => ∃ y8 : Int, v = some (vI y8) ∧ K (some (vL y8)) I7)))))))
set_option maxRecDepth 10000 in
theorem g216_0 (x1 : Int) (x2 : Int) (x3 : Int) (x4 : Int) (I : IM) (K : Option AV → IM → Prop) (h : D216_0 x1 x2 x3 x4 I K) : GO S0 216 0 [vR 237, vI x1, vI x2, vI x3, vI x4] [] I K := by
  unfold D216_0 at h
  refine G_loadR rc_216_0 rfl ?_
  refine G_loadI rc_216_1 rfl ?_
  refine G_loadI rc_216_2 rfl ?_
  refine G_loadI rc_216_3 rfl ?_
  refine G_loadI rc_216_4 rfl ?_
  refine G_call (as := [vR 237, vI x1, vI x2, vI x3, vI x4]) (rest := []) rc_216_6 rfl rfl rfl (Nat.le_of_ble_eq_true rfl) (g_recv s0_237 rfl) ?_
  refine GO.imp h (fun v I1 h => ?_)
  obtain ⟨y2, rfl, h⟩ := h
  show GO S0 216 9 [vR 237, vI x1, vI x2, vI x3, vI x4] [vI y2] I1 K
  refine G_i1 (C := y2 = 0) rc_216_9 rfl (fun c3 => ?_) (fun c3 => ?_)
  · rw [if_pos c3] at h
    show GO S0 216 32 [vR 237, vI x1, vI x2, vI x3, vI x4] [] I1 K
    refine G_lconst rc_216_32 (by decide) ?_
    exact G_retL rc_216_35 h
  · rw [if_neg c3] at h
    show GO S0 216 12 [vR 237, vI x1, vI x2, vI x3, vI x4] [] I1 K
    refine G_loadR rc_216_12 rfl ?_
    refine G_loadI rc_216_13 rfl ?_
    refine G_loadI rc_216_14 rfl ?_
    refine G_loadI rc_216_15 rfl ?_
    refine G_loadI rc_216_16 rfl ?_
    refine G_call (as := [vR 237, vI x1, vI x2, vI x3, vI x4]) (rest := []) rc_216_18 rfl rfl rfl (Nat.le_of_ble_eq_true rfl) (g_recv s0_237 rfl) ?_
    refine GO.imp h (fun v I4 h => ?_)
    obtain ⟨y5, rfl, h⟩ := h
    show GO S0 216 21 [vR 237, vI x1, vI x2, vI x3, vI x4] [vI y5] I4 K
    refine G_i1 (C := y5 = 0) rc_216_21 rfl (fun c6 => ?_) (fun c6 => ?_)
    · rw [if_pos c6] at h
      show GO S0 216 32 [vR 237, vI x1, vI x2, vI x3, vI x4] [] I4 K
      refine G_lconst rc_216_32 (by decide) ?_
      exact G_retL rc_216_35 h
    · rw [if_neg c6] at h
      show GO S0 216 24 [vR 237, vI x1, vI x2, vI x3, vI x4] [] I4 K
      refine G_loadR rc_216_24 rfl ?_
      refine G_call (as := [vR 237]) (rest := []) rc_216_25 rfl rfl rfl (Nat.le_of_ble_eq_true rfl) (g_recv s0_237 rfl) ?_
      refine GO.imp h (fun v I7 h => ?_)
      obtain ⟨y8, rfl, h⟩ := h
      show GO S0 216 28 [vR 237, vI x1, vI x2, vI x3, vI x4] [vI y8] I7 K
      refine G_i2l rc_216_28 ?_
      refine G_goto rc_216_29 ?_
      show GO S0 216 35 [vR 237, vI x1, vI x2, vI x3, vI x4] [vL y8] I7 K
      exact G_retL rc_216_35 h
/-! 217: RoundSlackModel.gained()I -/
def D217_0 (I : IM) (K : Option AV → IM → Prop) : Prop :=
  CALL S0 183 [vR 237] I (fun v I1 => v = none ∧ CALL S0 194 [vR 237, vR 241] I1 (fun v I2 => ∃ y3 : Int, v = some (vI y3) ∧ CALL S0 194 [vR 237, vR 242] I2 (fun v I4 => ∃ y5 : Int, v = some (vI y5) ∧ (inR (y3 - y5)) ∧ K (some (vI (y3 - y5))) I4)))
set_option maxRecDepth 10000 in
theorem g217_0 (I : IM) (K : Option AV → IM → Prop) (h : D217_0 I K) : GO S0 217 0 [vR 237] [] I K := by
  unfold D217_0 at h
  refine G_loadR rc_217_0 rfl ?_
  refine G_call (as := [vR 237]) (rest := []) rc_217_1 rfl rfl rfl (Nat.le_of_ble_eq_true rfl) (g_recv s0_237 rfl) ?_
  refine GO.imp h (fun v I1 h => ?_)
  obtain ⟨rfl, h⟩ := h
  show GO S0 217 4 [vR 237] [] I1 K
  refine G_loadR rc_217_4 rfl ?_
  refine G_loadR rc_217_5 rfl ?_
  refine G_getR rc_217_6 s0_237 (by decide) rfl (by decide) ?_
  show GO S0 217 9 [vR 237] [vR 241, vR 237] I1 K
  refine G_call (as := [vR 237, vR 241]) (rest := []) rc_217_9 rfl rfl rfl (Nat.le_of_ble_eq_true rfl) (g_recv s0_237 rfl) ?_
  refine GO.imp h (fun v I2 h => ?_)
  obtain ⟨y3, rfl, h⟩ := h
  show GO S0 217 12 [vR 237] [vI y3] I2 K
  refine G_loadR rc_217_12 rfl ?_
  refine G_loadR rc_217_13 rfl ?_
  refine G_getR rc_217_14 s0_237 (by decide) rfl (by decide) ?_
  show GO S0 217 17 [vR 237] [vR 242, vR 237, vI y3] I2 K
  refine G_call (as := [vR 237, vR 242]) (rest := [vI y3]) rc_217_17 rfl rfl rfl (Nat.le_of_ble_eq_true rfl) (g_recv s0_237 rfl) ?_
  refine GO.imp h (fun v I4 h => ?_)
  obtain ⟨y5, rfl, h⟩ := h
  show GO S0 217 20 [vR 237] [vI y5, vI y3] I4 K
  obtain ⟨c6, h⟩ := h
  refine G_bop (z := y3 - y5) rc_217_20 (if_pos c6) ?_
  show GO S0 217 21 [vR 237] [vI (y3 - y5)] I4 K
  exact G_retI rc_217_21 (Or.inl rfl) h
/-! 218: RoundSlackModel.move(IIII)I -/
def D218_0 (x1 : Int) (x2 : Int) (x3 : Int) (x4 : Int) (I : IM) (K : Option AV → IM → Prop) : Prop :=
  CALL S0 209 [vR 237, vI x1, vI x2, vI x3, vI x4] I (fun v I1 => ∃ y2 : Int, v = some (vI y2) ∧ (if y2 = 0 then (K (some (vI (-1))) I1) else (CALL S0 212 [vR 237, vI x1, vI x2, vI x3, vI x4] I1 (fun v I4 => v = none ∧ CALL S0 215 [vR 237] I4 (fun v I5 => ∃ y6 : Int, v = some (vI y6) ∧ (if y6 = 0 then (K (some (vI (-3))) I5) else (CALL S0 158 [vR 237, vR 242] I5 (fun v I8 => ∃ y9 : Int, v = some (vI y9) ∧ (if y9 = 0 then (K (some (vI (-7))) I8) else (CALL S0 202 [vR 237] I8 (fun v I11 => v = none ∧ CALL S0 170 [vR 237] I11 (fun v I12 => v = none ∧ CALL S0 203 [vR 237] I12 (fun v I13 => v = none ∧ K (some (vI 1)) I13)))))))))))))
set_option maxRecDepth 10000 in
theorem g218_0 (x1 : Int) (x2 : Int) (x3 : Int) (x4 : Int) (I : IM) (K : Option AV → IM → Prop) (h : D218_0 x1 x2 x3 x4 I K) : GO S0 218 0 [vR 237, vI x1, vI x2, vI x3, vI x4] [] I K := by
  unfold D218_0 at h
  refine G_loadR rc_218_0 rfl ?_
  refine G_loadI rc_218_1 rfl ?_
  refine G_loadI rc_218_2 rfl ?_
  refine G_loadI rc_218_3 rfl ?_
  refine G_loadI rc_218_4 rfl ?_
  refine G_call (as := [vR 237, vI x1, vI x2, vI x3, vI x4]) (rest := []) rc_218_6 rfl rfl rfl (Nat.le_of_ble_eq_true rfl) (g_recv s0_237 rfl) ?_
  refine GO.imp h (fun v I1 h => ?_)
  obtain ⟨y2, rfl, h⟩ := h
  show GO S0 218 9 [vR 237, vI x1, vI x2, vI x3, vI x4] [vI y2] I1 K
  refine G_i1 (C := ¬ y2 = 0) rc_218_9 rfl (fun c3 => ?_) (fun c3 => ?_)
  · rw [if_neg c3] at h
    show GO S0 218 14 [vR 237, vI x1, vI x2, vI x3, vI x4] [] I1 K
    refine G_loadR rc_218_14 rfl ?_
    refine G_loadI rc_218_15 rfl ?_
    refine G_loadI rc_218_16 rfl ?_
    refine G_loadI rc_218_17 rfl ?_
    refine G_loadI rc_218_18 rfl ?_
    refine G_call (as := [vR 237, vI x1, vI x2, vI x3, vI x4]) (rest := []) rc_218_20 rfl rfl rfl (Nat.le_of_ble_eq_true rfl) (g_recv s0_237 rfl) ?_
    refine GO.imp h (fun v I4 h => ?_)
    obtain ⟨rfl, h⟩ := h
    show GO S0 218 23 [vR 237, vI x1, vI x2, vI x3, vI x4] [] I4 K
    refine G_loadR rc_218_23 rfl ?_
    refine G_call (as := [vR 237]) (rest := []) rc_218_24 rfl rfl rfl (Nat.le_of_ble_eq_true rfl) (g_recv s0_237 rfl) ?_
    refine GO.imp h (fun v I5 h => ?_)
    obtain ⟨y6, rfl, h⟩ := h
    show GO S0 218 27 [vR 237, vI x1, vI x2, vI x3, vI x4] [vI y6] I5 K
    refine G_i1 (C := ¬ y6 = 0) rc_218_27 rfl (fun c7 => ?_) (fun c7 => ?_)
    · rw [if_neg c7] at h
      show GO S0 218 33 [vR 237, vI x1, vI x2, vI x3, vI x4] [] I5 K
      refine G_loadR rc_218_33 rfl ?_
      refine G_loadR rc_218_34 rfl ?_
      refine G_getR rc_218_35 s0_237 (by decide) rfl (by decide) ?_
      show GO S0 218 38 [vR 237, vI x1, vI x2, vI x3, vI x4] [vR 242, vR 237] I5 K
      refine G_call (as := [vR 237, vR 242]) (rest := []) rc_218_38 rfl rfl rfl (Nat.le_of_ble_eq_true rfl) (g_recv s0_237 rfl) ?_
      refine GO.imp h (fun v I8 h => ?_)
      obtain ⟨y9, rfl, h⟩ := h
      show GO S0 218 41 [vR 237, vI x1, vI x2, vI x3, vI x4] [vI y9] I8 K
      refine G_i1 (C := ¬ y9 = 0) rc_218_41 rfl (fun c10 => ?_) (fun c10 => ?_)
      · rw [if_neg c10] at h
        show GO S0 218 47 [vR 237, vI x1, vI x2, vI x3, vI x4] [] I8 K
        refine G_loadR rc_218_47 rfl ?_
        refine G_call (as := [vR 237]) (rest := []) rc_218_48 rfl rfl rfl (Nat.le_of_ble_eq_true rfl) (g_recv s0_237 rfl) ?_
        refine GO.imp h (fun v I11 h => ?_)
        obtain ⟨rfl, h⟩ := h
        show GO S0 218 51 [vR 237, vI x1, vI x2, vI x3, vI x4] [] I11 K
        refine G_loadR rc_218_51 rfl ?_
        refine G_call (as := [vR 237]) (rest := []) rc_218_52 rfl rfl rfl (Nat.le_of_ble_eq_true rfl) (g_recv s0_237 rfl) ?_
        refine GO.imp h (fun v I12 h => ?_)
        obtain ⟨rfl, h⟩ := h
        show GO S0 218 55 [vR 237, vI x1, vI x2, vI x3, vI x4] [] I12 K
        refine G_loadR rc_218_55 rfl ?_
        refine G_call (as := [vR 237]) (rest := []) rc_218_56 rfl rfl rfl (Nat.le_of_ble_eq_true rfl) (g_recv s0_237 rfl) ?_
        refine GO.imp h (fun v I13 h => ?_)
        obtain ⟨rfl, h⟩ := h
        show GO S0 218 59 [vR 237, vI x1, vI x2, vI x3, vI x4] [] I13 K
        refine G_const rc_218_59 (by decide) ?_
        exact G_retI rc_218_60 (Or.inl rfl) h
      · rw [if_pos (Classical.not_not.mp c10)] at h
        show GO S0 218 44 [vR 237, vI x1, vI x2, vI x3, vI x4] [] I8 K
        refine G_const rc_218_44 (by decide) ?_
        exact G_retI rc_218_46 (Or.inl rfl) h
    · rw [if_pos (Classical.not_not.mp c7)] at h
      show GO S0 218 30 [vR 237, vI x1, vI x2, vI x3, vI x4] [] I5 K
      refine G_const rc_218_30 (by decide) ?_
      exact G_retI rc_218_32 (Or.inl rfl) h
  · rw [if_pos (Classical.not_not.mp c3)] at h
    show GO S0 218 12 [vR 237, vI x1, vI x2, vI x3, vI x4] [] I1 K
    refine G_const rc_218_12 (by decide) ?_
    exact G_retI rc_218_13 (Or.inl rfl) h
/-! 219: RoundSlackModel.best(II)I -/
def D219_0 (x1 : Int) (x2 : Int) (I : IM) (K : Option AV → IM → Prop) : Prop :=
  CALL S0 130 [vI x1, vI 0, vI 3] I (fun v I1 => ∃ y2 : Int, v = some (vI y2) ∧ (if y2 = 0 then (K (some (vI (-1))) I1) else (CALL S0 130 [vI x2, vI 0, vI 3] I1 (fun v I4 => ∃ y5 : Int, v = some (vI y5) ∧ (if y5 = 0 then (K (some (vI (-1))) I4) else (CALL S0 220 [vR 237, vI x1] I4 (fun v I7 => v = none ∧ (if I7 237 25 = 0 then (K (some (vI (-5))) I7) else ((if x2 = 0 then (K (some (vI (I7 237 22))) I7) else ((if x2 = 1 then (K (some (vI (I7 237 23))) I7) else ((if x2 = 2 then (K (some (vI (I7 237 24))) I7) else (K (some (vI (I7 237 25))) I7)))))))))))))))
set_option maxRecDepth 10000 in
theorem g219_0 (x1 : Int) (x2 : Int) (I : IM) (K : Option AV → IM → Prop) (h : D219_0 x1 x2 I K) : GO S0 219 0 [vR 237, vI x1, vI x2] [] I K := by
  unfold D219_0 at h
  refine G_loadI rc_219_0 rfl ?_
  refine G_const rc_219_1 (by decide) ?_
  refine G_const rc_219_2 (by decide) ?_
  refine G_call (as := [vI x1, vI 0, vI 3]) (rest := []) rc_219_3 rfl rfl rfl (Nat.le_of_ble_eq_true rfl) rfl ?_
  refine GO.imp h (fun v I1 h => ?_)
  obtain ⟨y2, rfl, h⟩ := h
  show GO S0 219 6 [vR 237, vI x1, vI x2] [vI y2] I1 K
  refine G_i1 (C := y2 = 0) rc_219_6 rfl (fun c3 => ?_) (fun c3 => ?_)
  · rw [if_pos c3] at h
    show GO S0 219 18 [vR 237, vI x1, vI x2] [] I1 K
    refine G_const rc_219_18 (by decide) ?_
    exact G_retI rc_219_19 (Or.inl rfl) h
  · rw [if_neg c3] at h
    show GO S0 219 9 [vR 237, vI x1, vI x2] [] I1 K
    refine G_loadI rc_219_9 rfl ?_
    refine G_const rc_219_10 (by decide) ?_
    refine G_const rc_219_11 (by decide) ?_
    refine G_call (as := [vI x2, vI 0, vI 3]) (rest := []) rc_219_12 rfl rfl rfl (Nat.le_of_ble_eq_true rfl) rfl ?_
    refine GO.imp h (fun v I4 h => ?_)
    obtain ⟨y5, rfl, h⟩ := h
    show GO S0 219 15 [vR 237, vI x1, vI x2] [vI y5] I4 K
    refine G_i1 (C := ¬ y5 = 0) rc_219_15 rfl (fun c6 => ?_) (fun c6 => ?_)
    · rw [if_neg c6] at h
      show GO S0 219 20 [vR 237, vI x1, vI x2] [] I4 K
      refine G_loadR rc_219_20 rfl ?_
      refine G_loadI rc_219_21 rfl ?_
      refine G_call (as := [vR 237, vI x1]) (rest := []) rc_219_22 rfl rfl rfl (Nat.le_of_ble_eq_true rfl) (g_recv s0_237 rfl) ?_
      refine GO.imp h (fun v I7 h => ?_)
      obtain ⟨rfl, h⟩ := h
      show GO S0 219 25 [vR 237, vI x1, vI x2] [] I7 K
      refine G_loadR rc_219_25 rfl ?_
      refine G_getI rc_219_26 s0_237 (by decide) ?_
      show GO S0 219 29 [vR 237, vI x1, vI x2] [vI (I7 237 25)] I7 K
      refine G_i1 (C := ¬ I7 237 25 = 0) rc_219_29 rfl (fun c8 => ?_) (fun c8 => ?_)
      · rw [if_neg c8] at h
        show GO S0 219 37 [vR 237, vI x1, vI x2] [] I7 K
        refine G_loadI rc_219_37 rfl ?_
        refine G_i1 (C := ¬ x2 = 0) rc_219_38 rfl (fun c9 => ?_) (fun c9 => ?_)
        · rw [if_neg c9] at h
          show GO S0 219 48 [vR 237, vI x1, vI x2] [] I7 K
          refine G_loadI rc_219_48 rfl ?_
          refine G_const rc_219_49 (by decide) ?_
          refine G_i2 (C := ¬ x2 = 1) rc_219_50 rfl (fun c10 => ?_) (fun c10 => ?_)
          · rw [if_neg c10] at h
            show GO S0 219 60 [vR 237, vI x1, vI x2] [] I7 K
            refine G_loadI rc_219_60 rfl ?_
            refine G_const rc_219_61 (by decide) ?_
            refine G_i2 (C := ¬ x2 = 2) rc_219_62 rfl (fun c11 => ?_) (fun c11 => ?_)
            · rw [if_neg c11] at h
              show GO S0 219 72 [vR 237, vI x1, vI x2] [] I7 K
              refine G_loadR rc_219_72 rfl ?_
              refine G_getI rc_219_73 s0_237 (by decide) ?_
              show GO S0 219 76 [vR 237, vI x1, vI x2] [vI (I7 237 25)] I7 K
              exact G_retI rc_219_76 (Or.inl rfl) h
            · rw [if_pos (Classical.not_not.mp c11)] at h
              show GO S0 219 65 [vR 237, vI x1, vI x2] [] I7 K
              refine G_loadR rc_219_65 rfl ?_
              refine G_getI rc_219_66 s0_237 (by decide) ?_
              show GO S0 219 69 [vR 237, vI x1, vI x2] [vI (I7 237 24)] I7 K
              refine G_goto rc_219_69 ?_
              show GO S0 219 76 [vR 237, vI x1, vI x2] [vI (I7 237 24)] I7 K
              exact G_retI rc_219_76 (Or.inl rfl) h
          · rw [if_pos (Classical.not_not.mp c10)] at h
            show GO S0 219 53 [vR 237, vI x1, vI x2] [] I7 K
            refine G_loadR rc_219_53 rfl ?_
            refine G_getI rc_219_54 s0_237 (by decide) ?_
            show GO S0 219 57 [vR 237, vI x1, vI x2] [vI (I7 237 23)] I7 K
            refine G_goto rc_219_57 ?_
            show GO S0 219 76 [vR 237, vI x1, vI x2] [vI (I7 237 23)] I7 K
            exact G_retI rc_219_76 (Or.inl rfl) h
        · rw [if_pos (Classical.not_not.mp c9)] at h
          show GO S0 219 41 [vR 237, vI x1, vI x2] [] I7 K
          refine G_loadR rc_219_41 rfl ?_
          refine G_getI rc_219_42 s0_237 (by decide) ?_
          show GO S0 219 45 [vR 237, vI x1, vI x2] [vI (I7 237 22)] I7 K
          refine G_goto rc_219_45 ?_
          show GO S0 219 76 [vR 237, vI x1, vI x2] [vI (I7 237 22)] I7 K
          exact G_retI rc_219_76 (Or.inl rfl) h
      · rw [if_pos (Classical.not_not.mp c8)] at h
        show GO S0 219 32 [vR 237, vI x1, vI x2] [] I7 K
        refine G_const rc_219_32 (by decide) ?_
        refine G_goto rc_219_34 ?_
        show GO S0 219 76 [vR 237, vI x1, vI x2] [vI (-5)] I7 K
        exact G_retI rc_219_76 (Or.inl rfl) h
    · rw [if_pos (Classical.not_not.mp c6)] at h
      show GO S0 219 18 [vR 237, vI x1, vI x2] [] I4 K
      refine G_const rc_219_18 (by decide) ?_
      exact G_retI rc_219_19 (Or.inl rfl) h
/-! 220: RoundSlackModel.goesOver(I)V -/
def D220_58 (x1 : Int) (x2 : Int) (x3 : Int) (x4 : Int) (x5 : Int) (I : IM) (K : Option AV → IM → Prop) : Prop :=
  (if x2 < x5 then ((inR (x4 + 1)) ∧ GO S0 220 48 [vR 237, vI x1, vI x2, vI x3, vI (x4 + 1), vI x5] [] I K) else (CALL S0 221 [vR 237, vI x1, vI x3, vI x4, vI x5] I (fun v I3 => v = none ∧ (inR (x5 + 1)) ∧ GO S0 220 58 [vR 237, vI x1, vI x2, vI x3, vI x4, vI (x5 + 1)] [] I3 K)))
set_option maxRecDepth 10000 in
theorem g220_58 (x1 : Int) (x2 : Int) (x3 : Int) (x4 : Int) (x5 : Int) (I : IM) (K : Option AV → IM → Prop) (h : D220_58 x1 x2 x3 x4 x5 I K) : GO S0 220 58 [vR 237, vI x1, vI x2, vI x3, vI x4, vI x5] [] I K := by
  unfold D220_58 at h
  refine G_loadI rc_220_58 rfl ?_
  refine G_loadI rc_220_60 rfl ?_
  refine G_i2 (C := x2 < x5) rc_220_61 rfl (fun c1 => ?_) (fun c1 => ?_)
  · rw [if_pos c1] at h
    show GO S0 220 80 [vR 237, vI x1, vI x2, vI x3, vI x4, vI x5] [] I K
    obtain ⟨c2, h⟩ := h
    refine G_iinc rc_220_80 rfl c2 ?_
    show GO S0 220 83 [vR 237, vI x1, vI x2, vI x3, vI (x4 + 1), vI x5] [] I K
    refine G_goto rc_220_83 ?_
    show GO S0 220 48 [vR 237, vI x1, vI x2, vI x3, vI (x4 + 1), vI x5] [] I K
    exact h
  · rw [if_neg c1] at h
    show GO S0 220 64 [vR 237, vI x1, vI x2, vI x3, vI x4, vI x5] [] I K
    refine G_loadR rc_220_64 rfl ?_
    refine G_loadI rc_220_65 rfl ?_
    refine G_loadI rc_220_66 rfl ?_
    refine G_loadI rc_220_67 rfl ?_
    refine G_loadI rc_220_69 rfl ?_
    refine G_call (as := [vR 237, vI x1, vI x3, vI x4, vI x5]) (rest := []) rc_220_71 rfl rfl rfl (Nat.le_of_ble_eq_true rfl) (g_recv s0_237 rfl) ?_
    refine GO.imp h (fun v I3 h => ?_)
    obtain ⟨rfl, h⟩ := h
    show GO S0 220 74 [vR 237, vI x1, vI x2, vI x3, vI x4, vI x5] [] I3 K
    obtain ⟨c4, h⟩ := h
    refine G_iinc rc_220_74 rfl c4 ?_
    show GO S0 220 77 [vR 237, vI x1, vI x2, vI x3, vI x4, vI (x5 + 1)] [] I3 K
    refine G_goto rc_220_77 ?_
    show GO S0 220 58 [vR 237, vI x1, vI x2, vI x3, vI x4, vI (x5 + 1)] [] I3 K
    exact h
def D220_48 (x1 : Int) (x2 : Int) (x3 : Int) (x4 : Int) (u5 : AV) (I : IM) (K : Option AV → IM → Prop) : Prop :=
  (if (12 : Int) ≤ x4 then ((inR (x3 + 1)) ∧ GO S0 220 39 [vR 237, vI x1, vI x2, vI (x3 + 1), vI x4, u5] [] I K) else (GO S0 220 58 [vR 237, vI x1, vI x2, vI x3, vI x4, vI 0] [] I K))
set_option maxRecDepth 10000 in
theorem g220_48 (x1 : Int) (x2 : Int) (x3 : Int) (x4 : Int) (u5 : AV) (I : IM) (K : Option AV → IM → Prop) (h : D220_48 x1 x2 x3 x4 u5 I K) : GO S0 220 48 [vR 237, vI x1, vI x2, vI x3, vI x4, u5] [] I K := by
  unfold D220_48 at h
  refine G_loadI rc_220_48 rfl ?_
  refine G_const rc_220_50 (by decide) ?_
  refine G_i2 (C := (12 : Int) ≤ x4) rc_220_52 rfl (fun c1 => ?_) (fun c1 => ?_)
  · rw [if_pos c1] at h
    show GO S0 220 86 [vR 237, vI x1, vI x2, vI x3, vI x4, u5] [] I K
    obtain ⟨c2, h⟩ := h
    refine G_iinc rc_220_86 rfl c2 ?_
    show GO S0 220 89 [vR 237, vI x1, vI x2, vI (x3 + 1), vI x4, u5] [] I K
    refine G_goto rc_220_89 ?_
    show GO S0 220 39 [vR 237, vI x1, vI x2, vI (x3 + 1), vI x4, u5] [] I K
    exact h
  · rw [if_neg c1] at h
    show GO S0 220 55 [vR 237, vI x1, vI x2, vI x3, vI x4, u5] [] I K
    refine G_const rc_220_55 (by decide) ?_
    refine G_storeI rc_220_56 (Nat.le_of_ble_eq_true rfl) ?_
    show GO S0 220 58 [vR 237, vI x1, vI x2, vI x3, vI x4, vI 0] [] I K
    exact h
def D220_39 (x1 : Int) (x2 : Int) (x3 : Int) (u4 : AV) (u5 : AV) (I : IM) (K : Option AV → IM → Prop) : Prop :=
  (if (12 : Int) ≤ x3 then (K none I) else (GO S0 220 48 [vR 237, vI x1, vI x2, vI x3, vI 0, u5] [] I K))
set_option maxRecDepth 10000 in
theorem g220_39 (x1 : Int) (x2 : Int) (x3 : Int) (u4 : AV) (u5 : AV) (I : IM) (K : Option AV → IM → Prop) (h : D220_39 x1 x2 x3 u4 u5 I K) : GO S0 220 39 [vR 237, vI x1, vI x2, vI x3, u4, u5] [] I K := by
  unfold D220_39 at h
  refine G_loadI rc_220_39 rfl ?_
  refine G_const rc_220_40 (by decide) ?_
  refine G_i2 (C := (12 : Int) ≤ x3) rc_220_42 rfl (fun c1 => ?_) (fun c1 => ?_)
  · rw [if_pos c1] at h
    show GO S0 220 92 [vR 237, vI x1, vI x2, vI x3, u4, u5] [] I K
    exact G_ret0 rc_220_92 h
  · rw [if_neg c1] at h
    show GO S0 220 45 [vR 237, vI x1, vI x2, vI x3, u4, u5] [] I K
    refine G_const rc_220_45 (by decide) ?_
    refine G_storeI rc_220_46 (Nat.le_of_ble_eq_true rfl) ?_
    show GO S0 220 48 [vR 237, vI x1, vI x2, vI x3, vI 0, u5] [] I K
    exact h
def D220_19 (x1 : Int) (u2 : AV) (u3 : AV) (u4 : AV) (u5 : AV) (I : IM) (K : Option AV → IM → Prop) : Prop :=
  GO S0 220 39 [vR 237, vI x1, vI 12, vI 0, u4, u5] [] I K
set_option maxRecDepth 10000 in
theorem g220_19 (x1 : Int) (u2 : AV) (u3 : AV) (u4 : AV) (u5 : AV) (I : IM) (K : Option AV → IM → Prop) (h : D220_19 x1 u2 u3 u4 u5 I K) : GO S0 220 19 [vR 237, vI x1, u2, u3, u4, u5] [] I K := by
  unfold D220_19 at h
  refine G_const rc_220_19 (by decide) ?_
  refine G_goto rc_220_21 ?_
  show GO S0 220 36 [vR 237, vI x1, u2, u3, u4, u5] [vI 12] I K
  refine G_storeI rc_220_36 (Nat.le_of_ble_eq_true rfl) ?_
  show GO S0 220 37 [vR 237, vI x1, vI 12, u3, u4, u5] [] I K
  refine G_const rc_220_37 (by decide) ?_
  refine G_storeI rc_220_38 (Nat.le_of_ble_eq_true rfl) ?_
  show GO S0 220 39 [vR 237, vI x1, vI 12, vI 0, u4, u5] [] I K
  exact h
def D220_0 (x1 : Int) (I : IM) (K : Option AV → IM → Prop) : Prop :=
  ∀ I1 : IM, I1 = iup I 237 25 0 → ∀ I2 : IM, I2 = iup I1 237 26 0 → (if x1 = 0 then (D220_19 x1 (vU) (vU) (vU) (vU) I2 K) else ((if x1 = 3 then (D220_19 x1 (vU) (vU) (vU) (vU) I2 K) else ((if x1 = 1 then (GO S0 220 39 [vR 237, vI x1, vI 0, vI 0, vU, vU] [] I2 K) else (GO S0 220 39 [vR 237, vI x1, vI 208, vI 0, vU, vU] [] I2 K))))))
set_option maxRecDepth 10000 in
theorem g220_0 (x1 : Int) (I : IM) (K : Option AV → IM → Prop) (h : D220_0 x1 I K) : GO S0 220 0 [vR 237, vI x1, vU, vU, vU, vU] [] I K := by
  unfold D220_0 at h
  refine G_loadR rc_220_0 rfl ?_
  refine G_const rc_220_1 (by decide) ?_
  refine G_putI rc_220_2 s0_237 (by decide) (Or.inl rfl) ?_
  show GO S0 220 5 [vR 237, vI x1, vU, vU, vU, vU] [] (iup I 237 25 0) K
  have h := h _ rfl
  generalize iup I 237 25 0 = I1 at h ⊢
  refine G_loadR rc_220_5 rfl ?_
  refine G_const rc_220_6 (by decide) ?_
  refine G_putI rc_220_7 s0_237 (by decide) (Or.inl rfl) ?_
  show GO S0 220 10 [vR 237, vI x1, vU, vU, vU, vU] [] (iup I1 237 26 0) K
  have h := h _ rfl
  generalize iup I1 237 26 0 = I2 at h ⊢
  refine G_loadI rc_220_10 rfl ?_
  refine G_i1 (C := x1 = 0) rc_220_11 rfl (fun c3 => ?_) (fun c3 => ?_)
  · rw [if_pos c3] at h
    show GO S0 220 19 [vR 237, vI x1, vU, vU, vU, vU] [] I2 K
    exact g220_19 x1 (vU) (vU) (vU) (vU) I2 K h
  · rw [if_neg c3] at h
    show GO S0 220 14 [vR 237, vI x1, vU, vU, vU, vU] [] I2 K
    refine G_loadI rc_220_14 rfl ?_
    refine G_const rc_220_15 (by decide) ?_
    refine G_i2 (C := ¬ x1 = 3) rc_220_16 rfl (fun c4 => ?_) (fun c4 => ?_)
    · rw [if_neg c4] at h
      show GO S0 220 24 [vR 237, vI x1, vU, vU, vU, vU] [] I2 K
      refine G_loadI rc_220_24 rfl ?_
      refine G_const rc_220_25 (by decide) ?_
      refine G_i2 (C := ¬ x1 = 1) rc_220_26 rfl (fun c5 => ?_) (fun c5 => ?_)
      · rw [if_neg c5] at h
        show GO S0 220 33 [vR 237, vI x1, vU, vU, vU, vU] [] I2 K
        refine G_const rc_220_33 (by decide) ?_
        refine G_storeI rc_220_36 (Nat.le_of_ble_eq_true rfl) ?_
        show GO S0 220 37 [vR 237, vI x1, vI 208, vU, vU, vU] [] I2 K
        refine G_const rc_220_37 (by decide) ?_
        refine G_storeI rc_220_38 (Nat.le_of_ble_eq_true rfl) ?_
        show GO S0 220 39 [vR 237, vI x1, vI 208, vI 0, vU, vU] [] I2 K
        exact h
      · rw [if_pos (Classical.not_not.mp c5)] at h
        show GO S0 220 29 [vR 237, vI x1, vU, vU, vU, vU] [] I2 K
        refine G_const rc_220_29 (by decide) ?_
        refine G_goto rc_220_30 ?_
        show GO S0 220 36 [vR 237, vI x1, vU, vU, vU, vU] [vI 0] I2 K
        refine G_storeI rc_220_36 (Nat.le_of_ble_eq_true rfl) ?_
        show GO S0 220 37 [vR 237, vI x1, vI 0, vU, vU, vU] [] I2 K
        refine G_const rc_220_37 (by decide) ?_
        refine G_storeI rc_220_38 (Nat.le_of_ble_eq_true rfl) ?_
        show GO S0 220 39 [vR 237, vI x1, vI 0, vI 0, vU, vU] [] I2 K
        exact h
    · rw [if_pos (Classical.not_not.mp c4)] at h
      show GO S0 220 19 [vR 237, vI x1, vU, vU, vU, vU] [] I2 K
      exact g220_19 x1 (vU) (vU) (vU) (vU) I2 K h
/-! 221: RoundSlackModel.goesBy(IIII)V -/
def D221_0 (x1 : Int) (x2 : Int) (x3 : Int) (x4 : Int) (I : IM) (K : Option AV → IM → Prop) : Prop :=
  CALL S0 209 [vR 237, vI x1, vI x2, vI x3, vI x4] I (fun v I1 => ∃ y2 : Int, v = some (vI y2) ∧ (if y2 = 0 then (K none I1) else (CALL S0 211 [vR 237, vI x1, vI x2, vI x3, vI x4] I1 (fun v I4 => ∃ y5 : Int, v = some (vI y5) ∧ (if y5 = 0 then (K none I4) else ((inR ((I4 237 26) + 1)) ∧ ∀ I8 : IM, I8 = iup I4 237 26 ((I4 237 26) + 1) → CALL S0 217 [vR 237] I8 (fun v I9 => ∃ y10 : Int, v = some (vI y10) ∧ (if I9 237 25 < y10 then (∀ I12 : IM, I12 = iup I9 237 22 x2 → ∀ I13 : IM, I13 = iup I12 237 23 x3 → ∀ I14 : IM, I14 = iup I13 237 24 x4 → ∀ I15 : IM, I15 = iup I14 237 25 y10 → K none I15) else (K none I9)))))))))
set_option maxRecDepth 10000 in
theorem g221_0 (x1 : Int) (x2 : Int) (x3 : Int) (x4 : Int) (I : IM) (K : Option AV → IM → Prop) (h : D221_0 x1 x2 x3 x4 I K) : GO S0 221 0 [vR 237, vI x1, vI x2, vI x3, vI x4, vU] [] I K := by
  unfold D221_0 at h
  refine G_loadR rc_221_0 rfl ?_
  refine G_loadI rc_221_1 rfl ?_
  refine G_loadI rc_221_2 rfl ?_
  refine G_loadI rc_221_3 rfl ?_
  refine G_loadI rc_221_4 rfl ?_
  refine G_call (as := [vR 237, vI x1, vI x2, vI x3, vI x4]) (rest := []) rc_221_6 rfl rfl rfl (Nat.le_of_ble_eq_true rfl) (g_recv s0_237 rfl) ?_
  refine GO.imp h (fun v I1 h => ?_)
  obtain ⟨y2, rfl, h⟩ := h
  show GO S0 221 9 [vR 237, vI x1, vI x2, vI x3, vI x4, vU] [vI y2] I1 K
  refine G_i1 (C := y2 = 0) rc_221_9 rfl (fun c3 => ?_) (fun c3 => ?_)
  · rw [if_pos c3] at h
    show GO S0 221 24 [vR 237, vI x1, vI x2, vI x3, vI x4, vU] [] I1 K
    exact G_ret0 rc_221_24 h
  · rw [if_neg c3] at h
    show GO S0 221 12 [vR 237, vI x1, vI x2, vI x3, vI x4, vU] [] I1 K
    refine G_loadR rc_221_12 rfl ?_
    refine G_loadI rc_221_13 rfl ?_
    refine G_loadI rc_221_14 rfl ?_
    refine G_loadI rc_221_15 rfl ?_
    refine G_loadI rc_221_16 rfl ?_
    refine G_call (as := [vR 237, vI x1, vI x2, vI x3, vI x4]) (rest := []) rc_221_18 rfl rfl rfl (Nat.le_of_ble_eq_true rfl) (g_recv s0_237 rfl) ?_
    refine GO.imp h (fun v I4 h => ?_)
    obtain ⟨y5, rfl, h⟩ := h
    show GO S0 221 21 [vR 237, vI x1, vI x2, vI x3, vI x4, vU] [vI y5] I4 K
    refine G_i1 (C := ¬ y5 = 0) rc_221_21 rfl (fun c6 => ?_) (fun c6 => ?_)
    · rw [if_neg c6] at h
      show GO S0 221 25 [vR 237, vI x1, vI x2, vI x3, vI x4, vU] [] I4 K
      refine G_loadR rc_221_25 rfl ?_
      refine G_dupR rc_221_26 ?_
      refine G_getI rc_221_27 s0_237 (by decide) ?_
      show GO S0 221 30 [vR 237, vI x1, vI x2, vI x3, vI x4, vU] [vI (I4 237 26), vR 237] I4 K
      refine G_const rc_221_30 (by decide) ?_
      obtain ⟨c7, h⟩ := h
      refine G_bop (z := (I4 237 26) + 1) rc_221_31 (if_pos c7) ?_
      show GO S0 221 32 [vR 237, vI x1, vI x2, vI x3, vI x4, vU] [vI ((I4 237 26) + 1), vR 237] I4 K
      refine G_putI rc_221_32 s0_237 (by decide) (Or.inl rfl) ?_
      show GO S0 221 35 [vR 237, vI x1, vI x2, vI x3, vI x4, vU] [] (iup I4 237 26 ((I4 237 26) + 1)) K
      have h := h _ rfl
      generalize iup I4 237 26 ((I4 237 26) + 1) = I8 at h ⊢
      refine G_loadR rc_221_35 rfl ?_
      refine G_call (as := [vR 237]) (rest := []) rc_221_36 rfl rfl rfl (Nat.le_of_ble_eq_true rfl) (g_recv s0_237 rfl) ?_
      refine GO.imp h (fun v I9 h => ?_)
      obtain ⟨y10, rfl, h⟩ := h
      show GO S0 221 39 [vR 237, vI x1, vI x2, vI x3, vI x4, vU] [vI y10] I9 K
      refine G_storeI rc_221_39 (Nat.le_of_ble_eq_true rfl) ?_
      show GO S0 221 41 [vR 237, vI x1, vI x2, vI x3, vI x4, vI y10] [] I9 K
      refine G_loadI rc_221_41 rfl ?_
      refine G_loadR rc_221_43 rfl ?_
      refine G_getI rc_221_44 s0_237 (by decide) ?_
      show GO S0 221 47 [vR 237, vI x1, vI x2, vI x3, vI x4, vI y10] [vI (I9 237 25), vI y10] I9 K
      refine G_i2 (C := I9 237 25 < y10) rc_221_47 rfl (fun c11 => ?_) (fun c11 => ?_)
      · rw [if_pos c11] at h
        show GO S0 221 51 [vR 237, vI x1, vI x2, vI x3, vI x4, vI y10] [] I9 K
        refine G_loadR rc_221_51 rfl ?_
        refine G_loadI rc_221_52 rfl ?_
        refine G_putI rc_221_53 s0_237 (by decide) (Or.inl rfl) ?_
        show GO S0 221 56 [vR 237, vI x1, vI x2, vI x3, vI x4, vI y10] [] (iup I9 237 22 x2) K
        have h := h _ rfl
        generalize iup I9 237 22 x2 = I12 at h ⊢
        refine G_loadR rc_221_56 rfl ?_
        refine G_loadI rc_221_57 rfl ?_
        refine G_putI rc_221_58 s0_237 (by decide) (Or.inl rfl) ?_
        show GO S0 221 61 [vR 237, vI x1, vI x2, vI x3, vI x4, vI y10] [] (iup I12 237 23 x3) K
        have h := h _ rfl
        generalize iup I12 237 23 x3 = I13 at h ⊢
        refine G_loadR rc_221_61 rfl ?_
        refine G_loadI rc_221_62 rfl ?_
        refine G_putI rc_221_64 s0_237 (by decide) (Or.inl rfl) ?_
        show GO S0 221 67 [vR 237, vI x1, vI x2, vI x3, vI x4, vI y10] [] (iup I13 237 24 x4) K
        have h := h _ rfl
        generalize iup I13 237 24 x4 = I14 at h ⊢
        refine G_loadR rc_221_67 rfl ?_
        refine G_loadI rc_221_68 rfl ?_
        refine G_putI rc_221_70 s0_237 (by decide) (Or.inl rfl) ?_
        show GO S0 221 73 [vR 237, vI x1, vI x2, vI x3, vI x4, vI y10] [] (iup I14 237 25 y10) K
        have h := h _ rfl
        generalize iup I14 237 25 y10 = I15 at h ⊢
        exact G_ret0 rc_221_73 h
      · rw [if_neg c11] at h
        show GO S0 221 50 [vR 237, vI x1, vI x2, vI x3, vI x4, vI y10] [] I9 K
        exact G_ret0 rc_221_50 h
    · rw [if_pos (Classical.not_not.mp c6)] at h
      show GO S0 221 24 [vR 237, vI x1, vI x2, vI x3, vI x4, vU] [] I4 K
      exact G_ret0 rc_221_24 h
/-! 222: RoundSlackModel.many(I)I -/
def D222_0 (x1 : Int) (I : IM) (K : Option AV → IM → Prop) : Prop :=
  CALL S0 130 [vI x1, vI 0, vI 3] I (fun v I1 => ∃ y2 : Int, v = some (vI y2) ∧ (if y2 = 0 then (K (some (vI (-1))) I1) else (CALL S0 220 [vR 237, vI x1] I1 (fun v I4 => v = none ∧ K (some (vI (I4 237 26))) I4))))
set_option maxRecDepth 10000 in
theorem g222_0 (x1 : Int) (I : IM) (K : Option AV → IM → Prop) (h : D222_0 x1 I K) : GO S0 222 0 [vR 237, vI x1] [] I K := by
  unfold D222_0 at h
  refine G_loadI rc_222_0 rfl ?_
  refine G_const rc_222_1 (by decide) ?_
  refine G_const rc_222_2 (by decide) ?_
  refine G_call (as := [vI x1, vI 0, vI 3]) (rest := []) rc_222_3 rfl rfl rfl (Nat.le_of_ble_eq_true rfl) rfl ?_
  refine GO.imp h (fun v I1 h => ?_)
  obtain ⟨y2, rfl, h⟩ := h
  show GO S0 222 6 [vR 237, vI x1] [vI y2] I1 K
  refine G_i1 (C := ¬ y2 = 0) rc_222_6 rfl (fun c3 => ?_) (fun c3 => ?_)
  · rw [if_neg c3] at h
    show GO S0 222 11 [vR 237, vI x1] [] I1 K
    refine G_loadR rc_222_11 rfl ?_
    refine G_loadI rc_222_12 rfl ?_
    refine G_call (as := [vR 237, vI x1]) (rest := []) rc_222_13 rfl rfl rfl (Nat.le_of_ble_eq_true rfl) (g_recv s0_237 rfl) ?_
    refine GO.imp h (fun v I4 h => ?_)
    obtain ⟨rfl, h⟩ := h
    show GO S0 222 16 [vR 237, vI x1] [] I4 K
    refine G_loadR rc_222_16 rfl ?_
    refine G_getI rc_222_17 s0_237 (by decide) ?_
    show GO S0 222 20 [vR 237, vI x1] [vI (I4 237 26)] I4 K
    exact G_retI rc_222_20 (Or.inl rfl) h
  · rw [if_pos (Classical.not_not.mp c3)] at h
    show GO S0 222 9 [vR 237, vI x1] [] I1 K
    refine G_const rc_222_9 (by decide) ?_
    exact G_retI rc_222_10 (Or.inl rfl) h
/-! 223: RoundSlackModel.descent(I)I -/
def D223_0 (x1 : Int) (I : IM) (K : Option AV → IM → Prop) : Prop :=
  CALL S0 130 [vI x1, vI 1, vI 40] I (fun v I1 => ∃ y2 : Int, v = some (vI y2) ∧ (if y2 = 0 then (K (some (vI (-2))) I1) else (CALL S0 202 [vR 237] I1 (fun v I4 => v = none ∧ CALL S0 224 [vR 237, vI x1] I4 (fun v I5 => ∃ y6 : Int, v = some (vI y6) ∧ (if y6 ≤ 0 then (K (some (vI y6)) I5) else (CALL S0 203 [vR 237] I5 (fun v I8 => v = none ∧ K (some (vI y6)) I8))))))))
set_option maxRecDepth 10000 in
theorem g223_0 (x1 : Int) (I : IM) (K : Option AV → IM → Prop) (h : D223_0 x1 I K) : GO S0 223 0 [vR 237, vI x1, vU] [] I K := by
  unfold D223_0 at h
  refine G_loadI rc_223_0 rfl ?_
  refine G_const rc_223_1 (by decide) ?_
  refine G_const rc_223_2 (by decide) ?_
  refine G_call (as := [vI x1, vI 1, vI 40]) (rest := []) rc_223_4 rfl rfl rfl (Nat.le_of_ble_eq_true rfl) rfl ?_
  refine GO.imp h (fun v I1 h => ?_)
  obtain ⟨y2, rfl, h⟩ := h
  show GO S0 223 7 [vR 237, vI x1, vU] [vI y2] I1 K
  refine G_i1 (C := ¬ y2 = 0) rc_223_7 rfl (fun c3 => ?_) (fun c3 => ?_)
  · rw [if_neg c3] at h
    show GO S0 223 13 [vR 237, vI x1, vU] [] I1 K
    refine G_loadR rc_223_13 rfl ?_
    refine G_call (as := [vR 237]) (rest := []) rc_223_14 rfl rfl rfl (Nat.le_of_ble_eq_true rfl) (g_recv s0_237 rfl) ?_
    refine GO.imp h (fun v I4 h => ?_)
    obtain ⟨rfl, h⟩ := h
    show GO S0 223 17 [vR 237, vI x1, vU] [] I4 K
    refine G_loadR rc_223_17 rfl ?_
    refine G_loadI rc_223_18 rfl ?_
    refine G_call (as := [vR 237, vI x1]) (rest := []) rc_223_19 rfl rfl rfl (Nat.le_of_ble_eq_true rfl) (g_recv s0_237 rfl) ?_
    refine GO.imp h (fun v I5 h => ?_)
    obtain ⟨y6, rfl, h⟩ := h
    show GO S0 223 22 [vR 237, vI x1, vU] [vI y6] I5 K
    refine G_storeI rc_223_22 (Nat.le_of_ble_eq_true rfl) ?_
    show GO S0 223 23 [vR 237, vI x1, vI y6] [] I5 K
    refine G_loadI rc_223_23 rfl ?_
    refine G_i1 (C := y6 ≤ 0) rc_223_24 rfl (fun c7 => ?_) (fun c7 => ?_)
    · rw [if_pos c7] at h
      show GO S0 223 31 [vR 237, vI x1, vI y6] [] I5 K
      refine G_loadI rc_223_31 rfl ?_
      exact G_retI rc_223_32 (Or.inl rfl) h
    · rw [if_neg c7] at h
      show GO S0 223 27 [vR 237, vI x1, vI y6] [] I5 K
      refine G_loadR rc_223_27 rfl ?_
      refine G_call (as := [vR 237]) (rest := []) rc_223_28 rfl rfl rfl (Nat.le_of_ble_eq_true rfl) (g_recv s0_237 rfl) ?_
      refine GO.imp h (fun v I8 h => ?_)
      obtain ⟨rfl, h⟩ := h
      show GO S0 223 31 [vR 237, vI x1, vI y6] [] I8 K
      refine G_loadI rc_223_31 rfl ?_
      exact G_retI rc_223_32 (Or.inl rfl) h
  · rw [if_pos (Classical.not_not.mp c3)] at h
    show GO S0 223 10 [vR 237, vI x1, vU] [] I1 K
    refine G_const rc_223_10 (by decide) ?_
    exact G_retI rc_223_12 (Or.inl rfl) h
/-! 224: RoundSlackModel.descends(I)I -/
def D224_4 (x1 : Int) (x2 : Int) (x3 : Int) (I : IM) (K : Option AV → IM → Prop) : Prop :=
  (if x1 ≤ x2 then (K (some (vI x2)) I) else ((if (4 : Int) ≤ x3 then (K (some (vI x2)) I) else (CALL S0 220 [vR 237, vI x3] I (fun v I3 => v = none ∧ (inR (x3 + 1)) ∧ (if I3 237 25 = 0 then (GO S0 224 4 [vR 237, vI x1, vI x2, vI (x3 + 1)] [] I3 K) else ((inR ((x3 + 1) - 1)) ∧ CALL S0 212 [vR 237, vI ((x3 + 1) - 1), vI (I3 237 22), vI (I3 237 23), vI (I3 237 24)] I3 (fun v I7 => v = none ∧ CALL S0 170 [vR 237] I7 (fun v I8 => v = none ∧ (inR (x2 + 1)) ∧ GO S0 224 4 [vR 237, vI x1, vI (x2 + 1), vI 0] [] I8 K)))))))))
set_option maxRecDepth 10000 in
theorem g224_4 (x1 : Int) (x2 : Int) (x3 : Int) (I : IM) (K : Option AV → IM → Prop) (h : D224_4 x1 x2 x3 I K) : GO S0 224 4 [vR 237, vI x1, vI x2, vI x3] [] I K := by
  unfold D224_4 at h
  refine G_loadI rc_224_4 rfl ?_
  refine G_loadI rc_224_5 rfl ?_
  refine G_i2 (C := x1 ≤ x2) rc_224_6 rfl (fun c1 => ?_) (fun c1 => ?_)
  · rw [if_pos c1] at h
    show GO S0 224 63 [vR 237, vI x1, vI x2, vI x3] [] I K
    refine G_loadI rc_224_63 rfl ?_
    exact G_retI rc_224_64 (Or.inl rfl) h
  · rw [if_neg c1] at h
    show GO S0 224 9 [vR 237, vI x1, vI x2, vI x3] [] I K
    refine G_loadI rc_224_9 rfl ?_
    refine G_const rc_224_10 (by decide) ?_
    refine G_i2 (C := (4 : Int) ≤ x3) rc_224_11 rfl (fun c2 => ?_) (fun c2 => ?_)
    · rw [if_pos c2] at h
      show GO S0 224 63 [vR 237, vI x1, vI x2, vI x3] [] I K
      refine G_loadI rc_224_63 rfl ?_
      exact G_retI rc_224_64 (Or.inl rfl) h
    · rw [if_neg c2] at h
      show GO S0 224 14 [vR 237, vI x1, vI x2, vI x3] [] I K
      refine G_loadR rc_224_14 rfl ?_
      refine G_loadI rc_224_15 rfl ?_
      refine G_call (as := [vR 237, vI x3]) (rest := []) rc_224_16 rfl rfl rfl (Nat.le_of_ble_eq_true rfl) (g_recv s0_237 rfl) ?_
      refine GO.imp h (fun v I3 h => ?_)
      obtain ⟨rfl, h⟩ := h
      show GO S0 224 19 [vR 237, vI x1, vI x2, vI x3] [] I3 K
      obtain ⟨c4, h⟩ := h
      refine G_iinc rc_224_19 rfl c4 ?_
      show GO S0 224 22 [vR 237, vI x1, vI x2, vI (x3 + 1)] [] I3 K
      refine G_loadR rc_224_22 rfl ?_
      refine G_getI rc_224_23 s0_237 (by decide) ?_
      show GO S0 224 26 [vR 237, vI x1, vI x2, vI (x3 + 1)] [vI (I3 237 25)] I3 K
      refine G_i1 (C := ¬ I3 237 25 = 0) rc_224_26 rfl (fun c5 => ?_) (fun c5 => ?_)
      · rw [if_neg c5] at h
        show GO S0 224 32 [vR 237, vI x1, vI x2, vI (x3 + 1)] [] I3 K
        refine G_loadR rc_224_32 rfl ?_
        refine G_loadI rc_224_33 rfl ?_
        refine G_const rc_224_34 (by decide) ?_
        obtain ⟨c6, h⟩ := h
        refine G_bop (z := (x3 + 1) - 1) rc_224_35 (if_pos c6) ?_
        show GO S0 224 36 [vR 237, vI x1, vI x2, vI (x3 + 1)] [vI ((x3 + 1) - 1), vR 237] I3 K
        refine G_loadR rc_224_36 rfl ?_
        refine G_getI rc_224_37 s0_237 (by decide) ?_
        show GO S0 224 40 [vR 237, vI x1, vI x2, vI (x3 + 1)] [vI (I3 237 22), vI ((x3 + 1) - 1), vR 237] I3 K
        refine G_loadR rc_224_40 rfl ?_
        refine G_getI rc_224_41 s0_237 (by decide) ?_
        show GO S0 224 44 [vR 237, vI x1, vI x2, vI (x3 + 1)] [vI (I3 237 23), vI (I3 237 22), vI ((x3 + 1) - 1), vR 237] I3 K
        refine G_loadR rc_224_44 rfl ?_
        refine G_getI rc_224_45 s0_237 (by decide) ?_
        show GO S0 224 48 [vR 237, vI x1, vI x2, vI (x3 + 1)] [vI (I3 237 24), vI (I3 237 23), vI (I3 237 22), vI ((x3 + 1) - 1), vR 237] I3 K
        refine G_call (as := [vR 237, vI ((x3 + 1) - 1), vI (I3 237 22), vI (I3 237 23), vI (I3 237 24)]) (rest := []) rc_224_48 rfl rfl rfl (Nat.le_of_ble_eq_true rfl) (g_recv s0_237 rfl) ?_
        refine GO.imp h (fun v I7 h => ?_)
        obtain ⟨rfl, h⟩ := h
        show GO S0 224 51 [vR 237, vI x1, vI x2, vI (x3 + 1)] [] I7 K
        refine G_loadR rc_224_51 rfl ?_
        refine G_call (as := [vR 237]) (rest := []) rc_224_52 rfl rfl rfl (Nat.le_of_ble_eq_true rfl) (g_recv s0_237 rfl) ?_
        refine GO.imp h (fun v I8 h => ?_)
        obtain ⟨rfl, h⟩ := h
        show GO S0 224 55 [vR 237, vI x1, vI x2, vI (x3 + 1)] [] I8 K
        obtain ⟨c9, h⟩ := h
        refine G_iinc rc_224_55 rfl c9 ?_
        show GO S0 224 58 [vR 237, vI x1, vI (x2 + 1), vI (x3 + 1)] [] I8 K
        refine G_const rc_224_58 (by decide) ?_
        refine G_storeI rc_224_59 (Nat.le_of_ble_eq_true rfl) ?_
        show GO S0 224 60 [vR 237, vI x1, vI (x2 + 1), vI 0] [] I8 K
        refine G_goto rc_224_60 ?_
        show GO S0 224 4 [vR 237, vI x1, vI (x2 + 1), vI 0] [] I8 K
        exact h
      · rw [if_pos (Classical.not_not.mp c5)] at h
        show GO S0 224 29 [vR 237, vI x1, vI x2, vI (x3 + 1)] [] I3 K
        refine G_goto rc_224_29 ?_
        show GO S0 224 4 [vR 237, vI x1, vI x2, vI (x3 + 1)] [] I3 K
        exact h
def D224_0 (x1 : Int) (I : IM) (K : Option AV → IM → Prop) : Prop :=
  GO S0 224 4 [vR 237, vI x1, vI 0, vI 0] [] I K
set_option maxRecDepth 10000 in
theorem g224_0 (x1 : Int) (I : IM) (K : Option AV → IM → Prop) (h : D224_0 x1 I K) : GO S0 224 0 [vR 237, vI x1, vU, vU] [] I K := by
  unfold D224_0 at h
  refine G_const rc_224_0 (by decide) ?_
  refine G_storeI rc_224_1 (Nat.le_of_ble_eq_true rfl) ?_
  show GO S0 224 2 [vR 237, vI x1, vI 0, vU] [] I K
  refine G_const rc_224_2 (by decide) ?_
  refine G_storeI rc_224_3 (Nat.le_of_ble_eq_true rfl) ?_
  show GO S0 224 4 [vR 237, vI x1, vI 0, vI 0] [] I K
  exact h
/-! 225: RoundSlackModel.priced(II)I -/
def D225_0 (x1 : Int) (x2 : Int) (I : IM) (K : Option AV → IM → Prop) : Prop :=
  CALL S0 137 [vR 237, vI x1] I (fun v I1 => ∃ y2 : Int, v = some (vI y2) ∧ (if y2 = 0 then (K (some (vI (-1))) I1) else (CALL S0 142 [vI x2] I1 (fun v I4 => ∃ y5 : Int, v = some (vI y5) ∧ (if y5 = 0 then (K (some (vI (-1))) I4) else (CALL S0 138 [vR 237, vI x1] I4 (fun v I7 => ∃ y8 : Int, v = some (vI y8) ∧ (if y8 = 0 then (K (some (vI (-3))) I7) else (CALL S0 226 [vR 237, vI x1, vI x2] I7 (fun v I10 => v = none ∧ (if (0 : Int) ≤ I10 237 27 then (K (some (vI (I10 237 28))) I10) else (K (some (vI (-5))) I10))))))))))))
set_option maxRecDepth 10000 in
theorem g225_0 (x1 : Int) (x2 : Int) (I : IM) (K : Option AV → IM → Prop) (h : D225_0 x1 x2 I K) : GO S0 225 0 [vR 237, vI x1, vI x2] [] I K := by
  unfold D225_0 at h
  refine G_loadR rc_225_0 rfl ?_
  refine G_loadI rc_225_1 rfl ?_
  refine G_call (as := [vR 237, vI x1]) (rest := []) rc_225_2 rfl rfl rfl (Nat.le_of_ble_eq_true rfl) (g_recv s0_237 rfl) ?_
  refine GO.imp h (fun v I1 h => ?_)
  obtain ⟨y2, rfl, h⟩ := h
  show GO S0 225 5 [vR 237, vI x1, vI x2] [vI y2] I1 K
  refine G_i1 (C := y2 = 0) rc_225_5 rfl (fun c3 => ?_) (fun c3 => ?_)
  · rw [if_pos c3] at h
    show GO S0 225 15 [vR 237, vI x1, vI x2] [] I1 K
    refine G_const rc_225_15 (by decide) ?_
    exact G_retI rc_225_16 (Or.inl rfl) h
  · rw [if_neg c3] at h
    show GO S0 225 8 [vR 237, vI x1, vI x2] [] I1 K
    refine G_loadI rc_225_8 rfl ?_
    refine G_call (as := [vI x2]) (rest := []) rc_225_9 rfl rfl rfl (Nat.le_of_ble_eq_true rfl) rfl ?_
    refine GO.imp h (fun v I4 h => ?_)
    obtain ⟨y5, rfl, h⟩ := h
    show GO S0 225 12 [vR 237, vI x1, vI x2] [vI y5] I4 K
    refine G_i1 (C := ¬ y5 = 0) rc_225_12 rfl (fun c6 => ?_) (fun c6 => ?_)
    · rw [if_neg c6] at h
      show GO S0 225 17 [vR 237, vI x1, vI x2] [] I4 K
      refine G_loadR rc_225_17 rfl ?_
      refine G_loadI rc_225_18 rfl ?_
      refine G_call (as := [vR 237, vI x1]) (rest := []) rc_225_19 rfl rfl rfl (Nat.le_of_ble_eq_true rfl) (g_recv s0_237 rfl) ?_
      refine GO.imp h (fun v I7 h => ?_)
      obtain ⟨y8, rfl, h⟩ := h
      show GO S0 225 22 [vR 237, vI x1, vI x2] [vI y8] I7 K
      refine G_i1 (C := ¬ y8 = 0) rc_225_22 rfl (fun c9 => ?_) (fun c9 => ?_)
      · rw [if_neg c9] at h
        show GO S0 225 28 [vR 237, vI x1, vI x2] [] I7 K
        refine G_loadR rc_225_28 rfl ?_
        refine G_loadI rc_225_29 rfl ?_
        refine G_loadI rc_225_30 rfl ?_
        refine G_call (as := [vR 237, vI x1, vI x2]) (rest := []) rc_225_31 rfl rfl rfl (Nat.le_of_ble_eq_true rfl) (g_recv s0_237 rfl) ?_
        refine GO.imp h (fun v I10 h => ?_)
        obtain ⟨rfl, h⟩ := h
        show GO S0 225 34 [vR 237, vI x1, vI x2] [] I10 K
        refine G_loadR rc_225_34 rfl ?_
        refine G_getI rc_225_35 s0_237 (by decide) ?_
        show GO S0 225 38 [vR 237, vI x1, vI x2] [vI (I10 237 27)] I10 K
        refine G_i1 (C := (0 : Int) ≤ I10 237 27) rc_225_38 rfl (fun c11 => ?_) (fun c11 => ?_)
        · rw [if_pos c11] at h
          show GO S0 225 46 [vR 237, vI x1, vI x2] [] I10 K
          refine G_loadR rc_225_46 rfl ?_
          refine G_getI rc_225_47 s0_237 (by decide) ?_
          show GO S0 225 50 [vR 237, vI x1, vI x2] [vI (I10 237 28)] I10 K
          exact G_retI rc_225_50 (Or.inl rfl) h
        · rw [if_neg c11] at h
          show GO S0 225 41 [vR 237, vI x1, vI x2] [] I10 K
          refine G_const rc_225_41 (by decide) ?_
          refine G_goto rc_225_43 ?_
          show GO S0 225 50 [vR 237, vI x1, vI x2] [vI (-5)] I10 K
          exact G_retI rc_225_50 (Or.inl rfl) h
      · rw [if_pos (Classical.not_not.mp c9)] at h
        show GO S0 225 25 [vR 237, vI x1, vI x2] [] I7 K
        refine G_const rc_225_25 (by decide) ?_
        exact G_retI rc_225_27 (Or.inl rfl) h
    · rw [if_pos (Classical.not_not.mp c6)] at h
      show GO S0 225 15 [vR 237, vI x1, vI x2] [] I4 K
      refine G_const rc_225_15 (by decide) ?_
      exact G_retI rc_225_16 (Or.inl rfl) h
/-! 226: RoundSlackModel.prices(II)V -/
def D226_63 (x1 : Int) (x2 : Int) (x3 : Int) (x4 : Int) (I : IM) (K : Option AV → IM → Prop) : Prop :=
  ∀ I1 : IM, I1 = iup I 237 27 x3 → ∀ I2 : IM, I2 = iup I1 237 28 x4 → (inR (x3 + 1)) ∧ GO S0 226 15 [vR 237, vI x1, vI x2, vI (x3 + 1), vI x4] [] I2 K
set_option maxRecDepth 10000 in
theorem g226_63 (x1 : Int) (x2 : Int) (x3 : Int) (x4 : Int) (I : IM) (K : Option AV → IM → Prop) (h : D226_63 x1 x2 x3 x4 I K) : GO S0 226 63 [vR 237, vI x1, vI x2, vI x3, vI x4] [] I K := by
  unfold D226_63 at h
  refine G_loadR rc_226_63 rfl ?_
  refine G_loadI rc_226_64 rfl ?_
  refine G_putI rc_226_65 s0_237 (by decide) (Or.inl rfl) ?_
  show GO S0 226 68 [vR 237, vI x1, vI x2, vI x3, vI x4] [] (iup I 237 27 x3) K
  have h := h _ rfl
  generalize iup I 237 27 x3 = I1 at h ⊢
  refine G_loadR rc_226_68 rfl ?_
  refine G_loadI rc_226_69 rfl ?_
  refine G_putI rc_226_71 s0_237 (by decide) (Or.inl rfl) ?_
  show GO S0 226 74 [vR 237, vI x1, vI x2, vI x3, vI x4] [] (iup I1 237 28 x4) K
  have h := h _ rfl
  generalize iup I1 237 28 x4 = I2 at h ⊢
  obtain ⟨c3, h⟩ := h
  refine G_iinc rc_226_74 rfl c3 ?_
  show GO S0 226 77 [vR 237, vI x1, vI x2, vI (x3 + 1), vI x4] [] I2 K
  refine G_goto rc_226_77 ?_
  show GO S0 226 15 [vR 237, vI x1, vI x2, vI (x3 + 1), vI x4] [] I2 K
  exact h
def D226_15 (x1 : Int) (x2 : Int) (x3 : Int) (u4 : AV) (I : IM) (K : Option AV → IM → Prop) : Prop :=
  CALL S0 132 [vR 237, vI x2] I (fun v I1 => ∃ y2 : Int, v = some (vI y2) ∧ (if y2 < x3 then (K none I1) else (CALL S0 200 [vR 237, vI x1, vI x2, vI x3] I1 (fun v I4 => ∃ y5 : Int, v = some (vI y5) ∧ (if y5 = 0 then ((inR (x3 + 1)) ∧ GO S0 226 15 [vR 237, vI x1, vI x2, vI (x3 + 1), u4] [] I4 K) else (CALL S0 205 [vR 237, vI x2] I4 (fun v I7 => ∃ y8 : Int, v = some (vI y8) ∧ (if I7 237 27 < 0 then (D226_63 x1 x2 x3 y8 I7 K) else ((if y8 < I7 237 28 then (D226_63 x1 x2 x3 y8 I7 K) else ((inR (x3 + 1)) ∧ GO S0 226 15 [vR 237, vI x1, vI x2, vI (x3 + 1), vI y8] [] I7 K)))))))))))
set_option maxRecDepth 10000 in
theorem g226_15 (x1 : Int) (x2 : Int) (x3 : Int) (u4 : AV) (I : IM) (K : Option AV → IM → Prop) (h : D226_15 x1 x2 x3 u4 I K) : GO S0 226 15 [vR 237, vI x1, vI x2, vI x3, u4] [] I K := by
  unfold D226_15 at h
  refine G_loadI rc_226_15 rfl ?_
  refine G_loadR rc_226_16 rfl ?_
  refine G_loadI rc_226_17 rfl ?_
  refine G_call (as := [vR 237, vI x2]) (rest := [vI x3]) rc_226_18 rfl rfl rfl (Nat.le_of_ble_eq_true rfl) (g_recv s0_237 rfl) ?_
  refine GO.imp h (fun v I1 h => ?_)
  obtain ⟨y2, rfl, h⟩ := h
  show GO S0 226 21 [vR 237, vI x1, vI x2, vI x3, u4] [vI y2, vI x3] I1 K
  refine G_i2 (C := y2 < x3) rc_226_21 rfl (fun c3 => ?_) (fun c3 => ?_)
  · rw [if_pos c3] at h
    show GO S0 226 80 [vR 237, vI x1, vI x2, vI x3, u4] [] I1 K
    exact G_ret0 rc_226_80 h
  · rw [if_neg c3] at h
    show GO S0 226 24 [vR 237, vI x1, vI x2, vI x3, u4] [] I1 K
    refine G_loadR rc_226_24 rfl ?_
    refine G_loadI rc_226_25 rfl ?_
    refine G_loadI rc_226_26 rfl ?_
    refine G_loadI rc_226_27 rfl ?_
    refine G_call (as := [vR 237, vI x1, vI x2, vI x3]) (rest := []) rc_226_28 rfl rfl rfl (Nat.le_of_ble_eq_true rfl) (g_recv s0_237 rfl) ?_
    refine GO.imp h (fun v I4 h => ?_)
    obtain ⟨y5, rfl, h⟩ := h
    show GO S0 226 31 [vR 237, vI x1, vI x2, vI x3, u4] [vI y5] I4 K
    refine G_i1 (C := ¬ y5 = 0) rc_226_31 rfl (fun c6 => ?_) (fun c6 => ?_)
    · rw [if_neg c6] at h
      show GO S0 226 37 [vR 237, vI x1, vI x2, vI x3, u4] [] I4 K
      refine G_loadR rc_226_37 rfl ?_
      refine G_loadI rc_226_38 rfl ?_
      refine G_call (as := [vR 237, vI x2]) (rest := []) rc_226_39 rfl rfl rfl (Nat.le_of_ble_eq_true rfl) (g_recv s0_237 rfl) ?_
      refine GO.imp h (fun v I7 h => ?_)
      obtain ⟨y8, rfl, h⟩ := h
      show GO S0 226 42 [vR 237, vI x1, vI x2, vI x3, u4] [vI y8] I7 K
      refine G_storeI rc_226_42 (Nat.le_of_ble_eq_true rfl) ?_
      show GO S0 226 44 [vR 237, vI x1, vI x2, vI x3, vI y8] [] I7 K
      refine G_loadR rc_226_44 rfl ?_
      refine G_getI rc_226_45 s0_237 (by decide) ?_
      show GO S0 226 48 [vR 237, vI x1, vI x2, vI x3, vI y8] [vI (I7 237 27)] I7 K
      refine G_i1 (C := I7 237 27 < 0) rc_226_48 rfl (fun c9 => ?_) (fun c9 => ?_)
      · rw [if_pos c9] at h
        show GO S0 226 63 [vR 237, vI x1, vI x2, vI x3, vI y8] [] I7 K
        exact g226_63 x1 x2 x3 y8 I7 K h
      · rw [if_neg c9] at h
        show GO S0 226 51 [vR 237, vI x1, vI x2, vI x3, vI y8] [] I7 K
        refine G_loadI rc_226_51 rfl ?_
        refine G_loadR rc_226_53 rfl ?_
        refine G_getI rc_226_54 s0_237 (by decide) ?_
        show GO S0 226 57 [vR 237, vI x1, vI x2, vI x3, vI y8] [vI (I7 237 28), vI y8] I7 K
        refine G_i2 (C := y8 < I7 237 28) rc_226_57 rfl (fun c10 => ?_) (fun c10 => ?_)
        · rw [if_pos c10] at h
          show GO S0 226 63 [vR 237, vI x1, vI x2, vI x3, vI y8] [] I7 K
          exact g226_63 x1 x2 x3 y8 I7 K h
        · rw [if_neg c10] at h
          show GO S0 226 60 [vR 237, vI x1, vI x2, vI x3, vI y8] [] I7 K
          refine G_goto rc_226_60 ?_
          show GO S0 226 74 [vR 237, vI x1, vI x2, vI x3, vI y8] [] I7 K
          obtain ⟨c11, h⟩ := h
          refine G_iinc rc_226_74 rfl c11 ?_
          show GO S0 226 77 [vR 237, vI x1, vI x2, vI (x3 + 1), vI y8] [] I7 K
          refine G_goto rc_226_77 ?_
          show GO S0 226 15 [vR 237, vI x1, vI x2, vI (x3 + 1), vI y8] [] I7 K
          exact h
    · rw [if_pos (Classical.not_not.mp c6)] at h
      show GO S0 226 34 [vR 237, vI x1, vI x2, vI x3, u4] [] I4 K
      refine G_goto rc_226_34 ?_
      show GO S0 226 74 [vR 237, vI x1, vI x2, vI x3, u4] [] I4 K
      obtain ⟨c12, h⟩ := h
      refine G_iinc rc_226_74 rfl c12 ?_
      show GO S0 226 77 [vR 237, vI x1, vI x2, vI (x3 + 1), u4] [] I4 K
      refine G_goto rc_226_77 ?_
      show GO S0 226 15 [vR 237, vI x1, vI x2, vI (x3 + 1), u4] [] I4 K
      exact h
def D226_0 (x1 : Int) (x2 : Int) (I : IM) (K : Option AV → IM → Prop) : Prop :=
  ∀ I1 : IM, I1 = iup I 237 27 (-5) → ∀ I2 : IM, I2 = iup I1 237 28 100000 → GO S0 226 15 [vR 237, vI x1, vI x2, vI 0, vU] [] I2 K
set_option maxRecDepth 10000 in
theorem g226_0 (x1 : Int) (x2 : Int) (I : IM) (K : Option AV → IM → Prop) (h : D226_0 x1 x2 I K) : GO S0 226 0 [vR 237, vI x1, vI x2, vU, vU] [] I K := by
  unfold D226_0 at h
  refine G_loadR rc_226_0 rfl ?_
  refine G_const rc_226_1 (by decide) ?_
  refine G_putI rc_226_3 s0_237 (by decide) (Or.inl rfl) ?_
  show GO S0 226 6 [vR 237, vI x1, vI x2, vU, vU] [] (iup I 237 27 (-5)) K
  have h := h _ rfl
  generalize iup I 237 27 (-5) = I1 at h ⊢
  refine G_loadR rc_226_6 rfl ?_
  refine G_const rc_226_7 (by decide) ?_
  refine G_putI rc_226_10 s0_237 (by decide) (Or.inl rfl) ?_
  show GO S0 226 13 [vR 237, vI x1, vI x2, vU, vU] [] (iup I1 237 28 100000) K
  have h := h _ rfl
  generalize iup I1 237 28 100000 = I2 at h ⊢
  refine G_const rc_226_13 (by decide) ?_
  refine G_storeI rc_226_14 (Nat.le_of_ble_eq_true rfl) ?_
  show GO S0 226 15 [vR 237, vI x1, vI x2, vI 0, vU] [] I2 K
  exact h
/-! 227: RoundSlackModel.placed(II)I -/
def D227_0 (x1 : Int) (x2 : Int) (I : IM) (K : Option AV → IM → Prop) : Prop :=
  CALL S0 137 [vR 237, vI x1] I (fun v I1 => ∃ y2 : Int, v = some (vI y2) ∧ (if y2 = 0 then (K (some (vI (-1))) I1) else (CALL S0 142 [vI x2] I1 (fun v I4 => ∃ y5 : Int, v = some (vI y5) ∧ (if y5 = 0 then (K (some (vI (-1))) I4) else (CALL S0 138 [vR 237, vI x1] I4 (fun v I7 => ∃ y8 : Int, v = some (vI y8) ∧ (if y8 = 0 then (K (some (vI (-3))) I7) else (CALL S0 226 [vR 237, vI x1, vI x2] I7 (fun v I10 => v = none ∧ K (some (vI (I10 237 27))) I10))))))))))
set_option maxRecDepth 10000 in
theorem g227_0 (x1 : Int) (x2 : Int) (I : IM) (K : Option AV → IM → Prop) (h : D227_0 x1 x2 I K) : GO S0 227 0 [vR 237, vI x1, vI x2] [] I K := by
  unfold D227_0 at h
  refine G_loadR rc_227_0 rfl ?_
  refine G_loadI rc_227_1 rfl ?_
  refine G_call (as := [vR 237, vI x1]) (rest := []) rc_227_2 rfl rfl rfl (Nat.le_of_ble_eq_true rfl) (g_recv s0_237 rfl) ?_
  refine GO.imp h (fun v I1 h => ?_)
  obtain ⟨y2, rfl, h⟩ := h
  show GO S0 227 5 [vR 237, vI x1, vI x2] [vI y2] I1 K
  refine G_i1 (C := y2 = 0) rc_227_5 rfl (fun c3 => ?_) (fun c3 => ?_)
  · rw [if_pos c3] at h
    show GO S0 227 15 [vR 237, vI x1, vI x2] [] I1 K
    refine G_const rc_227_15 (by decide) ?_
    exact G_retI rc_227_16 (Or.inl rfl) h
  · rw [if_neg c3] at h
    show GO S0 227 8 [vR 237, vI x1, vI x2] [] I1 K
    refine G_loadI rc_227_8 rfl ?_
    refine G_call (as := [vI x2]) (rest := []) rc_227_9 rfl rfl rfl (Nat.le_of_ble_eq_true rfl) rfl ?_
    refine GO.imp h (fun v I4 h => ?_)
    obtain ⟨y5, rfl, h⟩ := h
    show GO S0 227 12 [vR 237, vI x1, vI x2] [vI y5] I4 K
    refine G_i1 (C := ¬ y5 = 0) rc_227_12 rfl (fun c6 => ?_) (fun c6 => ?_)
    · rw [if_neg c6] at h
      show GO S0 227 17 [vR 237, vI x1, vI x2] [] I4 K
      refine G_loadR rc_227_17 rfl ?_
      refine G_loadI rc_227_18 rfl ?_
      refine G_call (as := [vR 237, vI x1]) (rest := []) rc_227_19 rfl rfl rfl (Nat.le_of_ble_eq_true rfl) (g_recv s0_237 rfl) ?_
      refine GO.imp h (fun v I7 h => ?_)
      obtain ⟨y8, rfl, h⟩ := h
      show GO S0 227 22 [vR 237, vI x1, vI x2] [vI y8] I7 K
      refine G_i1 (C := ¬ y8 = 0) rc_227_22 rfl (fun c9 => ?_) (fun c9 => ?_)
      · rw [if_neg c9] at h
        show GO S0 227 28 [vR 237, vI x1, vI x2] [] I7 K
        refine G_loadR rc_227_28 rfl ?_
        refine G_loadI rc_227_29 rfl ?_
        refine G_loadI rc_227_30 rfl ?_
        refine G_call (as := [vR 237, vI x1, vI x2]) (rest := []) rc_227_31 rfl rfl rfl (Nat.le_of_ble_eq_true rfl) (g_recv s0_237 rfl) ?_
        refine GO.imp h (fun v I10 h => ?_)
        obtain ⟨rfl, h⟩ := h
        show GO S0 227 34 [vR 237, vI x1, vI x2] [] I10 K
        refine G_loadR rc_227_34 rfl ?_
        refine G_getI rc_227_35 s0_237 (by decide) ?_
        show GO S0 227 38 [vR 237, vI x1, vI x2] [vI (I10 237 27)] I10 K
        exact G_retI rc_227_38 (Or.inl rfl) h
      · rw [if_pos (Classical.not_not.mp c9)] at h
        show GO S0 227 25 [vR 237, vI x1, vI x2] [] I7 K
        refine G_const rc_227_25 (by decide) ?_
        exact G_retI rc_227_27 (Or.inl rfl) h
    · rw [if_pos (Classical.not_not.mp c6)] at h
      show GO S0 227 15 [vR 237, vI x1, vI x2] [] I4 K
      refine G_const rc_227_15 (by decide) ?_
      exact G_retI rc_227_16 (Or.inl rfl) h
/-! 228: RoundSlackModel.regret(II)I -/
def D228_0 (x1 : Int) (x2 : Int) (I : IM) (K : Option AV → IM → Prop) : Prop :=
  CALL S0 137 [vR 237, vI x1] I (fun v I1 => ∃ y2 : Int, v = some (vI y2) ∧ (if y2 = 0 then (K (some (vI (-1))) I1) else (CALL S0 130 [vI x2, vI 1, vI 4] I1 (fun v I4 => ∃ y5 : Int, v = some (vI y5) ∧ (if y5 = 0 then (K (some (vI (-2))) I4) else (CALL S0 138 [vR 237, vI x1] I4 (fun v I7 => ∃ y8 : Int, v = some (vI y8) ∧ (if y8 = 0 then (K (some (vI (-3))) I7) else (CALL S0 229 [vR 237, vI x1, vI x2] I7 (fun v I10 => ∃ y11 : Int, v = some (vI y11) ∧ K (some (vI y11)) I10))))))))))
set_option maxRecDepth 10000 in
theorem g228_0 (x1 : Int) (x2 : Int) (I : IM) (K : Option AV → IM → Prop) (h : D228_0 x1 x2 I K) : GO S0 228 0 [vR 237, vI x1, vI x2] [] I K := by
  unfold D228_0 at h
  refine G_loadR rc_228_0 rfl ?_
  refine G_loadI rc_228_1 rfl ?_
  refine G_call (as := [vR 237, vI x1]) (rest := []) rc_228_2 rfl rfl rfl (Nat.le_of_ble_eq_true rfl) (g_recv s0_237 rfl) ?_
  refine GO.imp h (fun v I1 h => ?_)
  obtain ⟨y2, rfl, h⟩ := h
  show GO S0 228 5 [vR 237, vI x1, vI x2] [vI y2] I1 K
  refine G_i1 (C := ¬ y2 = 0) rc_228_5 rfl (fun c3 => ?_) (fun c3 => ?_)
  · rw [if_neg c3] at h
    show GO S0 228 10 [vR 237, vI x1, vI x2] [] I1 K
    refine G_loadI rc_228_10 rfl ?_
    refine G_const rc_228_11 (by decide) ?_
    refine G_const rc_228_12 (by decide) ?_
    refine G_call (as := [vI x2, vI 1, vI 4]) (rest := []) rc_228_13 rfl rfl rfl (Nat.le_of_ble_eq_true rfl) rfl ?_
    refine GO.imp h (fun v I4 h => ?_)
    obtain ⟨y5, rfl, h⟩ := h
    show GO S0 228 16 [vR 237, vI x1, vI x2] [vI y5] I4 K
    refine G_i1 (C := ¬ y5 = 0) rc_228_16 rfl (fun c6 => ?_) (fun c6 => ?_)
    · rw [if_neg c6] at h
      show GO S0 228 22 [vR 237, vI x1, vI x2] [] I4 K
      refine G_loadR rc_228_22 rfl ?_
      refine G_loadI rc_228_23 rfl ?_
      refine G_call (as := [vR 237, vI x1]) (rest := []) rc_228_24 rfl rfl rfl (Nat.le_of_ble_eq_true rfl) (g_recv s0_237 rfl) ?_
      refine GO.imp h (fun v I7 h => ?_)
      obtain ⟨y8, rfl, h⟩ := h
      show GO S0 228 27 [vR 237, vI x1, vI x2] [vI y8] I7 K
      refine G_i1 (C := y8 = 0) rc_228_27 rfl (fun c9 => ?_) (fun c9 => ?_)
      · rw [if_pos c9] at h
        show GO S0 228 39 [vR 237, vI x1, vI x2] [] I7 K
        refine G_const rc_228_39 (by decide) ?_
        exact G_retI rc_228_41 (Or.inl rfl) h
      · rw [if_neg c9] at h
        show GO S0 228 30 [vR 237, vI x1, vI x2] [] I7 K
        refine G_loadR rc_228_30 rfl ?_
        refine G_loadI rc_228_31 rfl ?_
        refine G_loadI rc_228_32 rfl ?_
        refine G_call (as := [vR 237, vI x1, vI x2]) (rest := []) rc_228_33 rfl rfl rfl (Nat.le_of_ble_eq_true rfl) (g_recv s0_237 rfl) ?_
        refine GO.imp h (fun v I10 h => ?_)
        obtain ⟨y11, rfl, h⟩ := h
        show GO S0 228 36 [vR 237, vI x1, vI x2] [vI y11] I10 K
        refine G_goto rc_228_36 ?_
        show GO S0 228 41 [vR 237, vI x1, vI x2] [vI y11] I10 K
        exact G_retI rc_228_41 (Or.inl rfl) h
    · rw [if_pos (Classical.not_not.mp c6)] at h
      show GO S0 228 19 [vR 237, vI x1, vI x2] [] I4 K
      refine G_const rc_228_19 (by decide) ?_
      exact G_retI rc_228_21 (Or.inl rfl) h
  · rw [if_pos (Classical.not_not.mp c3)] at h
    show GO S0 228 8 [vR 237, vI x1, vI x2] [] I1 K
    refine G_const rc_228_8 (by decide) ?_
    exact G_retI rc_228_9 (Or.inl rfl) h
/-! 229: RoundSlackModel.regretOf(II)I -/
def D229_10 (x1 : Int) (x2 : Int) (x3 : Int) (x4 : Int) (I : IM) (K : Option AV → IM → Prop) : Prop :=
  (if x2 ≤ x4 then (K (some (vI x3)) I) else ((0 ≤ x4 ∧ x4 < 4) ∧ (inR ((I 249 (x4).toNat) - (I 249 0))) ∧ (inR (x3 + ((I 249 (x4).toNat) - (I 249 0)))) ∧ (inR (x4 + 1)) ∧ GO S0 229 10 [vR 237, vI x1, vI x2, vI (x3 + ((I 249 (x4).toNat) - (I 249 0))), vI (x4 + 1)] [] I K))
set_option maxRecDepth 10000 in
theorem g229_10 (x1 : Int) (x2 : Int) (x3 : Int) (x4 : Int) (I : IM) (K : Option AV → IM → Prop) (h : D229_10 x1 x2 x3 x4 I K) : GO S0 229 10 [vR 237, vI x1, vI x2, vI x3, vI x4] [] I K := by
  unfold D229_10 at h
  refine G_loadI rc_229_10 rfl ?_
  refine G_loadI rc_229_12 rfl ?_
  refine G_i2 (C := x2 ≤ x4) rc_229_13 rfl (fun c1 => ?_) (fun c1 => ?_)
  · rw [if_pos c1] at h
    show GO S0 229 39 [vR 237, vI x1, vI x2, vI x3, vI x4] [] I K
    refine G_loadI rc_229_39 rfl ?_
    exact G_retI rc_229_40 (Or.inl rfl) h
  · rw [if_neg c1] at h
    show GO S0 229 16 [vR 237, vI x1, vI x2, vI x3, vI x4] [] I K
    refine G_loadI rc_229_16 rfl ?_
    refine G_loadR rc_229_17 rfl ?_
    refine G_getR rc_229_18 s0_237 (by decide) rfl (by decide) ?_
    show GO S0 229 21 [vR 237, vI x1, vI x2, vI x3, vI x4] [vR 249, vI x3] I K
    refine G_loadI rc_229_21 rfl ?_
    obtain ⟨c2, h⟩ := h
    refine G_ald rc_229_23 s0_249 (by omega) (by omega) ?_
    show GO S0 229 24 [vR 237, vI x1, vI x2, vI x3, vI x4] [vI (I 249 (x4).toNat), vI x3] I K
    refine G_loadR rc_229_24 rfl ?_
    refine G_getR rc_229_25 s0_237 (by decide) rfl (by decide) ?_
    show GO S0 229 28 [vR 237, vI x1, vI x2, vI x3, vI x4] [vR 249, vI (I 249 (x4).toNat), vI x3] I K
    refine G_const rc_229_28 (by decide) ?_
    refine G_ald rc_229_29 s0_249 (by decide) (by decide) ?_
    show GO S0 229 30 [vR 237, vI x1, vI x2, vI x3, vI x4] [vI (I 249 0), vI (I 249 (x4).toNat), vI x3] I K
    obtain ⟨c3, h⟩ := h
    refine G_bop (z := (I 249 (x4).toNat) - (I 249 0)) rc_229_30 (if_pos c3) ?_
    show GO S0 229 31 [vR 237, vI x1, vI x2, vI x3, vI x4] [vI ((I 249 (x4).toNat) - (I 249 0)), vI x3] I K
    obtain ⟨c4, h⟩ := h
    refine G_bop (z := x3 + ((I 249 (x4).toNat) - (I 249 0))) rc_229_31 (if_pos c4) ?_
    show GO S0 229 32 [vR 237, vI x1, vI x2, vI x3, vI x4] [vI (x3 + ((I 249 (x4).toNat) - (I 249 0)))] I K
    refine G_storeI rc_229_32 (Nat.le_of_ble_eq_true rfl) ?_
    show GO S0 229 33 [vR 237, vI x1, vI x2, vI (x3 + ((I 249 (x4).toNat) - (I 249 0))), vI x4] [] I K
    obtain ⟨c5, h⟩ := h
    refine G_iinc rc_229_33 rfl c5 ?_
    show GO S0 229 36 [vR 237, vI x1, vI x2, vI (x3 + ((I 249 (x4).toNat) - (I 249 0))), vI (x4 + 1)] [] I K
    refine G_goto rc_229_36 ?_
    show GO S0 229 10 [vR 237, vI x1, vI x2, vI (x3 + ((I 249 (x4).toNat) - (I 249 0))), vI (x4 + 1)] [] I K
    exact h
def D229_0 (x1 : Int) (x2 : Int) (I : IM) (K : Option AV → IM → Prop) : Prop :=
  CALL S0 230 [vR 237, vI x1] I (fun v I1 => v = none ∧ GO S0 229 10 [vR 237, vI x1, vI x2, vI 0, vI 1] [] I1 K)
set_option maxRecDepth 10000 in
theorem g229_0 (x1 : Int) (x2 : Int) (I : IM) (K : Option AV → IM → Prop) (h : D229_0 x1 x2 I K) : GO S0 229 0 [vR 237, vI x1, vI x2, vU, vU] [] I K := by
  unfold D229_0 at h
  refine G_loadR rc_229_0 rfl ?_
  refine G_loadI rc_229_1 rfl ?_
  refine G_call (as := [vR 237, vI x1]) (rest := []) rc_229_2 rfl rfl rfl (Nat.le_of_ble_eq_true rfl) (g_recv s0_237 rfl) ?_
  refine GO.imp h (fun v I1 h => ?_)
  obtain ⟨rfl, h⟩ := h
  show GO S0 229 5 [vR 237, vI x1, vI x2, vU, vU] [] I1 K
  refine G_const rc_229_5 (by decide) ?_
  refine G_storeI rc_229_6 (Nat.le_of_ble_eq_true rfl) ?_
  show GO S0 229 7 [vR 237, vI x1, vI x2, vI 0, vU] [] I1 K
  refine G_const rc_229_7 (by decide) ?_
  refine G_storeI rc_229_8 (Nat.le_of_ble_eq_true rfl) ?_
  show GO S0 229 10 [vR 237, vI x1, vI x2, vI 0, vI 1] [] I1 K
  exact h
/-! 230: RoundSlackModel.sorts(I)V -/
def D230_112 (x1 : Int) (x2 : Int) (x3 : Int) (I : IM) (K : Option AV → IM → Prop) : Prop :=
  (0 ≤ x3 ∧ x3 < 4) ∧ ∀ I2 : IM, I2 = iup I 249 (x3).toNat (I 237 28) → (inR (x2 + 1)) ∧ GO S0 230 14 [vR 237, vI x1, vI (x2 + 1), vI x3] [] I2 K
set_option maxRecDepth 10000 in
theorem g230_112 (x1 : Int) (x2 : Int) (x3 : Int) (I : IM) (K : Option AV → IM → Prop) (h : D230_112 x1 x2 x3 I K) : GO S0 230 112 [vR 237, vI x1, vI x2, vI x3] [] I K := by
  unfold D230_112 at h
  refine G_loadR rc_230_112 rfl ?_
  refine G_getR rc_230_113 s0_237 (by decide) rfl (by decide) ?_
  show GO S0 230 116 [vR 237, vI x1, vI x2, vI x3] [vR 249] I K
  refine G_loadI rc_230_116 rfl ?_
  refine G_loadR rc_230_117 rfl ?_
  refine G_getI rc_230_118 s0_237 (by decide) ?_
  show GO S0 230 121 [vR 237, vI x1, vI x2, vI x3] [vI (I 237 28), vI x3, vR 249] I K
  obtain ⟨c1, h⟩ := h
  refine G_ast rc_230_121 s0_249 (by omega) (by omega) (Or.inl rfl) ?_
  show GO S0 230 122 [vR 237, vI x1, vI x2, vI x3] [] (iup I 249 (x3).toNat (I 237 28)) K
  have h := h _ rfl
  generalize iup I 249 (x3).toNat (I 237 28) = I2 at h ⊢
  obtain ⟨c3, h⟩ := h
  refine G_iinc rc_230_122 rfl c3 ?_
  show GO S0 230 125 [vR 237, vI x1, vI (x2 + 1), vI x3] [] I2 K
  refine G_goto rc_230_125 ?_
  show GO S0 230 14 [vR 237, vI x1, vI (x2 + 1), vI x3] [] I2 K
  exact h
def D230_73 (x1 : Int) (x2 : Int) (x3 : Int) (I : IM) (K : Option AV → IM → Prop) : Prop :=
  (if x3 ≤ 0 then (D230_112 x1 x2 x3 I K) else ((inR (x3 - 1)) ∧ (0 ≤ x3 - 1 ∧ x3 - 1 < 4) ∧ (if I 249 (x3 - 1).toNat ≤ I 237 28 then (D230_112 x1 x2 x3 I K) else ((0 ≤ x3 ∧ x3 < 4) ∧ ∀ I6 : IM, I6 = iup I 249 (x3).toNat (I 249 (x3 - 1).toNat) → (inR (x3 + (-1))) ∧ GO S0 230 73 [vR 237, vI x1, vI x2, vI (x3 + (-1))] [] I6 K))))
set_option maxRecDepth 10000 in
theorem g230_73 (x1 : Int) (x2 : Int) (x3 : Int) (I : IM) (K : Option AV → IM → Prop) (h : D230_73 x1 x2 x3 I K) : GO S0 230 73 [vR 237, vI x1, vI x2, vI x3] [] I K := by
  unfold D230_73 at h
  refine G_loadI rc_230_73 rfl ?_
  refine G_i1 (C := x3 ≤ 0) rc_230_74 rfl (fun c1 => ?_) (fun c1 => ?_)
  · rw [if_pos c1] at h
    show GO S0 230 112 [vR 237, vI x1, vI x2, vI x3] [] I K
    exact g230_112 x1 x2 x3 I K h
  · rw [if_neg c1] at h
    show GO S0 230 77 [vR 237, vI x1, vI x2, vI x3] [] I K
    refine G_loadR rc_230_77 rfl ?_
    refine G_getR rc_230_78 s0_237 (by decide) rfl (by decide) ?_
    show GO S0 230 81 [vR 237, vI x1, vI x2, vI x3] [vR 249] I K
    refine G_loadI rc_230_81 rfl ?_
    refine G_const rc_230_82 (by decide) ?_
    obtain ⟨c2, h⟩ := h
    refine G_bop (z := x3 - 1) rc_230_83 (if_pos c2) ?_
    show GO S0 230 84 [vR 237, vI x1, vI x2, vI x3] [vI (x3 - 1), vR 249] I K
    obtain ⟨c3, h⟩ := h
    refine G_ald rc_230_84 s0_249 (by omega) (by omega) ?_
    show GO S0 230 85 [vR 237, vI x1, vI x2, vI x3] [vI (I 249 (x3 - 1).toNat)] I K
    refine G_loadR rc_230_85 rfl ?_
    refine G_getI rc_230_86 s0_237 (by decide) ?_
    show GO S0 230 89 [vR 237, vI x1, vI x2, vI x3] [vI (I 237 28), vI (I 249 (x3 - 1).toNat)] I K
    refine G_i2 (C := I 249 (x3 - 1).toNat ≤ I 237 28) rc_230_89 rfl (fun c4 => ?_) (fun c4 => ?_)
    · rw [if_pos c4] at h
      show GO S0 230 112 [vR 237, vI x1, vI x2, vI x3] [] I K
      exact g230_112 x1 x2 x3 I K h
    · rw [if_neg c4] at h
      show GO S0 230 92 [vR 237, vI x1, vI x2, vI x3] [] I K
      refine G_loadR rc_230_92 rfl ?_
      refine G_getR rc_230_93 s0_237 (by decide) rfl (by decide) ?_
      show GO S0 230 96 [vR 237, vI x1, vI x2, vI x3] [vR 249] I K
      refine G_loadI rc_230_96 rfl ?_
      refine G_loadR rc_230_97 rfl ?_
      refine G_getR rc_230_98 s0_237 (by decide) rfl (by decide) ?_
      show GO S0 230 101 [vR 237, vI x1, vI x2, vI x3] [vR 249, vI x3, vR 249] I K
      refine G_loadI rc_230_101 rfl ?_
      refine G_const rc_230_102 (by decide) ?_
      refine G_bop (z := x3 - 1) rc_230_103 (if_pos c2) ?_
      show GO S0 230 104 [vR 237, vI x1, vI x2, vI x3] [vI (x3 - 1), vR 249, vI x3, vR 249] I K
      refine G_ald rc_230_104 s0_249 (by omega) (by omega) ?_
      show GO S0 230 105 [vR 237, vI x1, vI x2, vI x3] [vI (I 249 (x3 - 1).toNat), vI x3, vR 249] I K
      obtain ⟨c5, h⟩ := h
      refine G_ast rc_230_105 s0_249 (by omega) (by omega) (Or.inl rfl) ?_
      show GO S0 230 106 [vR 237, vI x1, vI x2, vI x3] [] (iup I 249 (x3).toNat (I 249 (x3 - 1).toNat)) K
      have h := h _ rfl
      generalize iup I 249 (x3).toNat (I 249 (x3 - 1).toNat) = I6 at h ⊢
      obtain ⟨c7, h⟩ := h
      refine G_iinc rc_230_106 rfl c7 ?_
      show GO S0 230 109 [vR 237, vI x1, vI x2, vI (x3 + (-1))] [] I6 K
      refine G_goto rc_230_109 ?_
      show GO S0 230 73 [vR 237, vI x1, vI x2, vI (x3 + (-1))] [] I6 K
      exact h
def D230_50 (x1 : Int) (x2 : Int) (u3 : AV) (I : IM) (K : Option AV → IM → Prop) : Prop :=
  ∀ I1 : IM, I1 = iup I 237 31 x2 → ∀ I2 : IM, I2 = iup I1 237 30 (I1 237 28) → ∀ I3 : IM, I3 = iup I2 237 32 (I2 237 27) → GO S0 230 73 [vR 237, vI x1, vI x2, vI x2] [] I3 K
set_option maxRecDepth 10000 in
theorem g230_50 (x1 : Int) (x2 : Int) (u3 : AV) (I : IM) (K : Option AV → IM → Prop) (h : D230_50 x1 x2 u3 I K) : GO S0 230 50 [vR 237, vI x1, vI x2, u3] [] I K := by
  unfold D230_50 at h
  refine G_loadR rc_230_50 rfl ?_
  refine G_loadI rc_230_51 rfl ?_
  refine G_putI rc_230_52 s0_237 (by decide) (Or.inl rfl) ?_
  show GO S0 230 55 [vR 237, vI x1, vI x2, u3] [] (iup I 237 31 x2) K
  have h := h _ rfl
  generalize iup I 237 31 x2 = I1 at h ⊢
  refine G_loadR rc_230_55 rfl ?_
  refine G_loadR rc_230_56 rfl ?_
  refine G_getI rc_230_57 s0_237 (by decide) ?_
  show GO S0 230 60 [vR 237, vI x1, vI x2, u3] [vI (I1 237 28), vR 237] I1 K
  refine G_putI rc_230_60 s0_237 (by decide) (Or.inl rfl) ?_
  show GO S0 230 63 [vR 237, vI x1, vI x2, u3] [] (iup I1 237 30 (I1 237 28)) K
  have h := h _ rfl
  generalize iup I1 237 30 (I1 237 28) = I2 at h ⊢
  refine G_loadR rc_230_63 rfl ?_
  refine G_loadR rc_230_64 rfl ?_
  refine G_getI rc_230_65 s0_237 (by decide) ?_
  show GO S0 230 68 [vR 237, vI x1, vI x2, u3] [vI (I2 237 27), vR 237] I2 K
  refine G_putI rc_230_68 s0_237 (by decide) (Or.inl rfl) ?_
  show GO S0 230 71 [vR 237, vI x1, vI x2, u3] [] (iup I2 237 32 (I2 237 27)) K
  have h := h _ rfl
  generalize iup I2 237 32 (I2 237 27) = I3 at h ⊢
  refine G_loadI rc_230_71 rfl ?_
  refine G_storeI rc_230_72 (Nat.le_of_ble_eq_true rfl) ?_
  show GO S0 230 73 [vR 237, vI x1, vI x2, vI x2] [] I3 K
  exact h
def D230_14 (x1 : Int) (x2 : Int) (u3 : AV) (I : IM) (K : Option AV → IM → Prop) : Prop :=
  (if (4 : Int) ≤ x2 then (K none I) else (CALL S0 226 [vR 237, vI x1, vI x2] I (fun v I2 => v = none ∧ (if I2 237 27 < 0 then (GO S0 230 73 [vR 237, vI x1, vI x2, vI x2] [] I2 K) else ((if I2 237 31 < 0 then (D230_50 x1 x2 (u3) I2 K) else ((if I2 237 30 ≤ I2 237 28 then (GO S0 230 73 [vR 237, vI x1, vI x2, vI x2] [] I2 K) else (D230_50 x1 x2 (u3) I2 K)))))))))
set_option maxRecDepth 10000 in
theorem g230_14 (x1 : Int) (x2 : Int) (u3 : AV) (I : IM) (K : Option AV → IM → Prop) (h : D230_14 x1 x2 u3 I K) : GO S0 230 14 [vR 237, vI x1, vI x2, u3] [] I K := by
  unfold D230_14 at h
  refine G_loadI rc_230_14 rfl ?_
  refine G_const rc_230_15 (by decide) ?_
  refine G_i2 (C := (4 : Int) ≤ x2) rc_230_16 rfl (fun c1 => ?_) (fun c1 => ?_)
  · rw [if_pos c1] at h
    show GO S0 230 128 [vR 237, vI x1, vI x2, u3] [] I K
    exact G_ret0 rc_230_128 h
  · rw [if_neg c1] at h
    show GO S0 230 19 [vR 237, vI x1, vI x2, u3] [] I K
    refine G_loadR rc_230_19 rfl ?_
    refine G_loadI rc_230_20 rfl ?_
    refine G_loadI rc_230_21 rfl ?_
    refine G_call (as := [vR 237, vI x1, vI x2]) (rest := []) rc_230_22 rfl rfl rfl (Nat.le_of_ble_eq_true rfl) (g_recv s0_237 rfl) ?_
    refine GO.imp h (fun v I2 h => ?_)
    obtain ⟨rfl, h⟩ := h
    show GO S0 230 25 [vR 237, vI x1, vI x2, u3] [] I2 K
    refine G_loadR rc_230_25 rfl ?_
    refine G_getI rc_230_26 s0_237 (by decide) ?_
    show GO S0 230 29 [vR 237, vI x1, vI x2, u3] [vI (I2 237 27)] I2 K
    refine G_i1 (C := I2 237 27 < 0) rc_230_29 rfl (fun c3 => ?_) (fun c3 => ?_)
    · rw [if_pos c3] at h
      show GO S0 230 71 [vR 237, vI x1, vI x2, u3] [] I2 K
      refine G_loadI rc_230_71 rfl ?_
      refine G_storeI rc_230_72 (Nat.le_of_ble_eq_true rfl) ?_
      show GO S0 230 73 [vR 237, vI x1, vI x2, vI x2] [] I2 K
      exact h
    · rw [if_neg c3] at h
      show GO S0 230 32 [vR 237, vI x1, vI x2, u3] [] I2 K
      refine G_loadR rc_230_32 rfl ?_
      refine G_getI rc_230_33 s0_237 (by decide) ?_
      show GO S0 230 36 [vR 237, vI x1, vI x2, u3] [vI (I2 237 31)] I2 K
      refine G_i1 (C := I2 237 31 < 0) rc_230_36 rfl (fun c4 => ?_) (fun c4 => ?_)
      · rw [if_pos c4] at h
        show GO S0 230 50 [vR 237, vI x1, vI x2, u3] [] I2 K
        exact g230_50 x1 x2 (u3) I2 K h
      · rw [if_neg c4] at h
        show GO S0 230 39 [vR 237, vI x1, vI x2, u3] [] I2 K
        refine G_loadR rc_230_39 rfl ?_
        refine G_getI rc_230_40 s0_237 (by decide) ?_
        show GO S0 230 43 [vR 237, vI x1, vI x2, u3] [vI (I2 237 28)] I2 K
        refine G_loadR rc_230_43 rfl ?_
        refine G_getI rc_230_44 s0_237 (by decide) ?_
        show GO S0 230 47 [vR 237, vI x1, vI x2, u3] [vI (I2 237 30), vI (I2 237 28)] I2 K
        refine G_i2 (C := I2 237 30 ≤ I2 237 28) rc_230_47 rfl (fun c5 => ?_) (fun c5 => ?_)
        · rw [if_pos c5] at h
          show GO S0 230 71 [vR 237, vI x1, vI x2, u3] [] I2 K
          refine G_loadI rc_230_71 rfl ?_
          refine G_storeI rc_230_72 (Nat.le_of_ble_eq_true rfl) ?_
          show GO S0 230 73 [vR 237, vI x1, vI x2, vI x2] [] I2 K
          exact h
        · rw [if_neg c5] at h
          show GO S0 230 50 [vR 237, vI x1, vI x2, u3] [] I2 K
          exact g230_50 x1 x2 (u3) I2 K h
def D230_0 (x1 : Int) (I : IM) (K : Option AV → IM → Prop) : Prop :=
  ∀ I1 : IM, I1 = iup I 237 31 (-1) → ∀ I2 : IM, I2 = iup I1 237 30 100000 → GO S0 230 14 [vR 237, vI x1, vI 0, vU] [] I2 K
set_option maxRecDepth 10000 in
theorem g230_0 (x1 : Int) (I : IM) (K : Option AV → IM → Prop) (h : D230_0 x1 I K) : GO S0 230 0 [vR 237, vI x1, vU, vU] [] I K := by
  unfold D230_0 at h
  refine G_loadR rc_230_0 rfl ?_
  refine G_const rc_230_1 (by decide) ?_
  refine G_putI rc_230_2 s0_237 (by decide) (Or.inl rfl) ?_
  show GO S0 230 5 [vR 237, vI x1, vU, vU] [] (iup I 237 31 (-1)) K
  have h := h _ rfl
  generalize iup I 237 31 (-1) = I1 at h ⊢
  refine G_loadR rc_230_5 rfl ?_
  refine G_const rc_230_6 (by decide) ?_
  refine G_putI rc_230_9 s0_237 (by decide) (Or.inl rfl) ?_
  show GO S0 230 12 [vR 237, vI x1, vU, vU] [] (iup I1 237 30 100000) K
  have h := h _ rfl
  generalize iup I1 237 30 100000 = I2 at h ⊢
  refine G_const rc_230_12 (by decide) ?_
  refine G_storeI rc_230_13 (Nat.le_of_ble_eq_true rfl) ?_
  show GO S0 230 14 [vR 237, vI x1, vI 0, vU] [] I2 K
  exact h
/-! 231: RoundSlackModel.first(I)I -/
def D231_0 (x1 : Int) (I : IM) (K : Option AV → IM → Prop) : Prop :=
  CALL S0 130 [vI x1, vI 1, vI 4] I (fun v I1 => ∃ y2 : Int, v = some (vI y2) ∧ (if y2 = 0 then (K (some (vI (-2))) I1) else (CALL S0 232 [vR 237, vI x1] I1 (fun v I4 => ∃ y5 : Int, v = some (vI y5) ∧ K (some (vI y5)) I4))))
set_option maxRecDepth 10000 in
theorem g231_0 (x1 : Int) (I : IM) (K : Option AV → IM → Prop) (h : D231_0 x1 I K) : GO S0 231 0 [vR 237, vI x1] [] I K := by
  unfold D231_0 at h
  refine G_loadI rc_231_0 rfl ?_
  refine G_const rc_231_1 (by decide) ?_
  refine G_const rc_231_2 (by decide) ?_
  refine G_call (as := [vI x1, vI 1, vI 4]) (rest := []) rc_231_3 rfl rfl rfl (Nat.le_of_ble_eq_true rfl) rfl ?_
  refine GO.imp h (fun v I1 h => ?_)
  obtain ⟨y2, rfl, h⟩ := h
  show GO S0 231 6 [vR 237, vI x1] [vI y2] I1 K
  refine G_i1 (C := y2 = 0) rc_231_6 rfl (fun c3 => ?_) (fun c3 => ?_)
  · rw [if_pos c3] at h
    show GO S0 231 17 [vR 237, vI x1] [] I1 K
    refine G_const rc_231_17 (by decide) ?_
    exact G_retI rc_231_19 (Or.inl rfl) h
  · rw [if_neg c3] at h
    show GO S0 231 9 [vR 237, vI x1] [] I1 K
    refine G_loadR rc_231_9 rfl ?_
    refine G_loadI rc_231_10 rfl ?_
    refine G_call (as := [vR 237, vI x1]) (rest := []) rc_231_11 rfl rfl rfl (Nat.le_of_ble_eq_true rfl) (g_recv s0_237 rfl) ?_
    refine GO.imp h (fun v I4 h => ?_)
    obtain ⟨y5, rfl, h⟩ := h
    show GO S0 231 14 [vR 237, vI x1] [vI y5] I4 K
    refine G_goto rc_231_14 ?_
    show GO S0 231 19 [vR 237, vI x1] [vI y5] I4 K
    exact G_retI rc_231_19 (Or.inl rfl) h
/-! 232: RoundSlackModel.firstOf(I)I -/
def D232_78 (x1 : Int) (x2 : Int) (x3 : Int) (x4 : Int) (x5 : Int) (x6 : Int) (I : IM) (K : Option AV → IM → Prop) : Prop :=
  (inR (x5 + 1)) ∧ GO S0 232 11 [vR 237, vI x1, vI x5, vI x6, vI (I 237 30), vI (x5 + 1), vI x6] [] I K
set_option maxRecDepth 10000 in
theorem g232_78 (x1 : Int) (x2 : Int) (x3 : Int) (x4 : Int) (x5 : Int) (x6 : Int) (I : IM) (K : Option AV → IM → Prop) (h : D232_78 x1 x2 x3 x4 x5 x6 I K) : GO S0 232 78 [vR 237, vI x1, vI x2, vI x3, vI x4, vI x5, vI x6] [] I K := by
  unfold D232_78 at h
  refine G_loadI rc_232_78 rfl ?_
  refine G_storeI rc_232_80 (Nat.le_of_ble_eq_true rfl) ?_
  show GO S0 232 81 [vR 237, vI x1, vI x5, vI x3, vI x4, vI x5, vI x6] [] I K
  refine G_loadI rc_232_81 rfl ?_
  refine G_storeI rc_232_83 (Nat.le_of_ble_eq_true rfl) ?_
  show GO S0 232 84 [vR 237, vI x1, vI x5, vI x6, vI x4, vI x5, vI x6] [] I K
  refine G_loadR rc_232_84 rfl ?_
  refine G_getI rc_232_85 s0_237 (by decide) ?_
  show GO S0 232 88 [vR 237, vI x1, vI x5, vI x6, vI x4, vI x5, vI x6] [vI (I 237 30)] I K
  refine G_storeI rc_232_88 (Nat.le_of_ble_eq_true rfl) ?_
  show GO S0 232 90 [vR 237, vI x1, vI x5, vI x6, vI (I 237 30), vI x5, vI x6] [] I K
  obtain ⟨c1, h⟩ := h
  refine G_iinc rc_232_90 rfl c1 ?_
  show GO S0 232 93 [vR 237, vI x1, vI x5, vI x6, vI (I 237 30), vI (x5 + 1), vI x6] [] I K
  refine G_goto rc_232_93 ?_
  show GO S0 232 11 [vR 237, vI x1, vI x5, vI x6, vI (I 237 30), vI (x5 + 1), vI x6] [] I K
  exact h
def D232_11 (x1 : Int) (x2 : Int) (x3 : Int) (x4 : Int) (x5 : Int) (u6 : AV) (I : IM) (K : Option AV → IM → Prop) : Prop :=
  (if I 238 5 ≤ x5 then (K (some (vI x2)) I) else (CALL S0 138 [vR 237, vI x5] I (fun v I2 => ∃ y3 : Int, v = some (vI y3) ∧ (if y3 = 0 then ((inR (x5 + 1)) ∧ GO S0 232 11 [vR 237, vI x1, vI x2, vI x3, vI x4, vI (x5 + 1), u6] [] I2 K) else (CALL S0 229 [vR 237, vI x5, vI x1] I2 (fun v I5 => ∃ y6 : Int, v = some (vI y6) ∧ (if I5 237 31 < 0 then ((inR (x5 + 1)) ∧ GO S0 232 11 [vR 237, vI x1, vI x2, vI x3, vI x4, vI (x5 + 1), vI y6] [] I5 K) else ((if x2 < 0 then (D232_78 x1 x2 x3 x4 x5 y6 I5 K) else ((if y6 < x3 then ((inR (x5 + 1)) ∧ GO S0 232 11 [vR 237, vI x1, vI x2, vI x3, vI x4, vI (x5 + 1), vI y6] [] I5 K) else ((if y6 = x3 then ((if I5 237 30 < x4 then (D232_78 x1 x2 x3 x4 x5 y6 I5 K) else ((inR (x5 + 1)) ∧ GO S0 232 11 [vR 237, vI x1, vI x2, vI x3, vI x4, vI (x5 + 1), vI y6] [] I5 K))) else (D232_78 x1 x2 x3 x4 x5 y6 I5 K))))))))))))))
set_option maxRecDepth 10000 in
theorem g232_11 (x1 : Int) (x2 : Int) (x3 : Int) (x4 : Int) (x5 : Int) (u6 : AV) (I : IM) (K : Option AV → IM → Prop) (h : D232_11 x1 x2 x3 x4 x5 u6 I K) : GO S0 232 11 [vR 237, vI x1, vI x2, vI x3, vI x4, vI x5, u6] [] I K := by
  unfold D232_11 at h
  refine G_loadI rc_232_11 rfl ?_
  refine G_loadR rc_232_13 rfl ?_
  refine G_getR rc_232_14 s0_237 (by decide) rfl (by decide) ?_
  show GO S0 232 17 [vR 237, vI x1, vI x2, vI x3, vI x4, vI x5, u6] [vR 238, vI x5] I K
  refine G_const rc_232_17 (by decide) ?_
  refine G_ald rc_232_18 s0_238 (by decide) (by decide) ?_
  show GO S0 232 19 [vR 237, vI x1, vI x2, vI x3, vI x4, vI x5, u6] [vI (I 238 5), vI x5] I K
  refine G_i2 (C := I 238 5 ≤ x5) rc_232_19 rfl (fun c1 => ?_) (fun c1 => ?_)
  · rw [if_pos c1] at h
    show GO S0 232 96 [vR 237, vI x1, vI x2, vI x3, vI x4, vI x5, u6] [] I K
    refine G_loadI rc_232_96 rfl ?_
    exact G_retI rc_232_97 (Or.inl rfl) h
  · rw [if_neg c1] at h
    show GO S0 232 22 [vR 237, vI x1, vI x2, vI x3, vI x4, vI x5, u6] [] I K
    refine G_loadR rc_232_22 rfl ?_
    refine G_loadI rc_232_23 rfl ?_
    refine G_call (as := [vR 237, vI x5]) (rest := []) rc_232_25 rfl rfl rfl (Nat.le_of_ble_eq_true rfl) (g_recv s0_237 rfl) ?_
    refine GO.imp h (fun v I2 h => ?_)
    obtain ⟨y3, rfl, h⟩ := h
    show GO S0 232 28 [vR 237, vI x1, vI x2, vI x3, vI x4, vI x5, u6] [vI y3] I2 K
    refine G_i1 (C := ¬ y3 = 0) rc_232_28 rfl (fun c4 => ?_) (fun c4 => ?_)
    · rw [if_neg c4] at h
      show GO S0 232 34 [vR 237, vI x1, vI x2, vI x3, vI x4, vI x5, u6] [] I2 K
      refine G_loadR rc_232_34 rfl ?_
      refine G_loadI rc_232_35 rfl ?_
      refine G_loadI rc_232_37 rfl ?_
      refine G_call (as := [vR 237, vI x5, vI x1]) (rest := []) rc_232_38 rfl rfl rfl (Nat.le_of_ble_eq_true rfl) (g_recv s0_237 rfl) ?_
      refine GO.imp h (fun v I5 h => ?_)
      obtain ⟨y6, rfl, h⟩ := h
      show GO S0 232 41 [vR 237, vI x1, vI x2, vI x3, vI x4, vI x5, u6] [vI y6] I5 K
      refine G_storeI rc_232_41 (Nat.le_of_ble_eq_true rfl) ?_
      show GO S0 232 43 [vR 237, vI x1, vI x2, vI x3, vI x4, vI x5, vI y6] [] I5 K
      refine G_loadR rc_232_43 rfl ?_
      refine G_getI rc_232_44 s0_237 (by decide) ?_
      show GO S0 232 47 [vR 237, vI x1, vI x2, vI x3, vI x4, vI x5, vI y6] [vI (I5 237 31)] I5 K
      refine G_i1 (C := I5 237 31 < 0) rc_232_47 rfl (fun c7 => ?_) (fun c7 => ?_)
      · rw [if_pos c7] at h
        show GO S0 232 90 [vR 237, vI x1, vI x2, vI x3, vI x4, vI x5, vI y6] [] I5 K
        obtain ⟨c8, h⟩ := h
        refine G_iinc rc_232_90 rfl c8 ?_
        show GO S0 232 93 [vR 237, vI x1, vI x2, vI x3, vI x4, vI (x5 + 1), vI y6] [] I5 K
        refine G_goto rc_232_93 ?_
        show GO S0 232 11 [vR 237, vI x1, vI x2, vI x3, vI x4, vI (x5 + 1), vI y6] [] I5 K
        exact h
      · rw [if_neg c7] at h
        show GO S0 232 50 [vR 237, vI x1, vI x2, vI x3, vI x4, vI x5, vI y6] [] I5 K
        refine G_loadI rc_232_50 rfl ?_
        refine G_i1 (C := x2 < 0) rc_232_51 rfl (fun c9 => ?_) (fun c9 => ?_)
        · rw [if_pos c9] at h
          show GO S0 232 78 [vR 237, vI x1, vI x2, vI x3, vI x4, vI x5, vI y6] [] I5 K
          exact g232_78 x1 x2 x3 x4 x5 y6 I5 K h
        · rw [if_neg c9] at h
          show GO S0 232 54 [vR 237, vI x1, vI x2, vI x3, vI x4, vI x5, vI y6] [] I5 K
          refine G_loadI rc_232_54 rfl ?_
          refine G_loadI rc_232_56 rfl ?_
          refine G_i2 (C := y6 < x3) rc_232_57 rfl (fun c10 => ?_) (fun c10 => ?_)
          · rw [if_pos c10] at h
            show GO S0 232 90 [vR 237, vI x1, vI x2, vI x3, vI x4, vI x5, vI y6] [] I5 K
            obtain ⟨c11, h⟩ := h
            refine G_iinc rc_232_90 rfl c11 ?_
            show GO S0 232 93 [vR 237, vI x1, vI x2, vI x3, vI x4, vI (x5 + 1), vI y6] [] I5 K
            refine G_goto rc_232_93 ?_
            show GO S0 232 11 [vR 237, vI x1, vI x2, vI x3, vI x4, vI (x5 + 1), vI y6] [] I5 K
            exact h
          · rw [if_neg c10] at h
            show GO S0 232 60 [vR 237, vI x1, vI x2, vI x3, vI x4, vI x5, vI y6] [] I5 K
            refine G_loadI rc_232_60 rfl ?_
            refine G_loadI rc_232_62 rfl ?_
            refine G_i2 (C := ¬ y6 = x3) rc_232_63 rfl (fun c12 => ?_) (fun c12 => ?_)
            · rw [if_neg c12] at h
              show GO S0 232 78 [vR 237, vI x1, vI x2, vI x3, vI x4, vI x5, vI y6] [] I5 K
              exact g232_78 x1 x2 x3 x4 x5 y6 I5 K h
            · rw [if_pos (Classical.not_not.mp c12)] at h
              show GO S0 232 66 [vR 237, vI x1, vI x2, vI x3, vI x4, vI x5, vI y6] [] I5 K
              refine G_loadR rc_232_66 rfl ?_
              refine G_getI rc_232_67 s0_237 (by decide) ?_
              show GO S0 232 70 [vR 237, vI x1, vI x2, vI x3, vI x4, vI x5, vI y6] [vI (I5 237 30)] I5 K
              refine G_loadI rc_232_70 rfl ?_
              refine G_i2 (C := I5 237 30 < x4) rc_232_72 rfl (fun c13 => ?_) (fun c13 => ?_)
              · rw [if_pos c13] at h
                show GO S0 232 78 [vR 237, vI x1, vI x2, vI x3, vI x4, vI x5, vI y6] [] I5 K
                exact g232_78 x1 x2 x3 x4 x5 y6 I5 K h
              · rw [if_neg c13] at h
                show GO S0 232 75 [vR 237, vI x1, vI x2, vI x3, vI x4, vI x5, vI y6] [] I5 K
                refine G_goto rc_232_75 ?_
                show GO S0 232 90 [vR 237, vI x1, vI x2, vI x3, vI x4, vI x5, vI y6] [] I5 K
                obtain ⟨c14, h⟩ := h
                refine G_iinc rc_232_90 rfl c14 ?_
                show GO S0 232 93 [vR 237, vI x1, vI x2, vI x3, vI x4, vI (x5 + 1), vI y6] [] I5 K
                refine G_goto rc_232_93 ?_
                show GO S0 232 11 [vR 237, vI x1, vI x2, vI x3, vI x4, vI (x5 + 1), vI y6] [] I5 K
                exact h
    · rw [if_pos (Classical.not_not.mp c4)] at h
      show GO S0 232 31 [vR 237, vI x1, vI x2, vI x3, vI x4, vI x5, u6] [] I2 K
      refine G_goto rc_232_31 ?_
      show GO S0 232 90 [vR 237, vI x1, vI x2, vI x3, vI x4, vI x5, u6] [] I2 K
      obtain ⟨c15, h⟩ := h
      refine G_iinc rc_232_90 rfl c15 ?_
      show GO S0 232 93 [vR 237, vI x1, vI x2, vI x3, vI x4, vI (x5 + 1), u6] [] I2 K
      refine G_goto rc_232_93 ?_
      show GO S0 232 11 [vR 237, vI x1, vI x2, vI x3, vI x4, vI (x5 + 1), u6] [] I2 K
      exact h
def D232_0 (x1 : Int) (I : IM) (K : Option AV → IM → Prop) : Prop :=
  GO S0 232 11 [vR 237, vI x1, vI (-5), vI 0, vI 0, vI 0, vU] [] I K
set_option maxRecDepth 10000 in
theorem g232_0 (x1 : Int) (I : IM) (K : Option AV → IM → Prop) (h : D232_0 x1 I K) : GO S0 232 0 [vR 237, vI x1, vU, vU, vU, vU, vU] [] I K := by
  unfold D232_0 at h
  refine G_const rc_232_0 (by decide) ?_
  refine G_storeI rc_232_2 (Nat.le_of_ble_eq_true rfl) ?_
  show GO S0 232 3 [vR 237, vI x1, vI (-5), vU, vU, vU, vU] [] I K
  refine G_const rc_232_3 (by decide) ?_
  refine G_storeI rc_232_4 (Nat.le_of_ble_eq_true rfl) ?_
  show GO S0 232 5 [vR 237, vI x1, vI (-5), vI 0, vU, vU, vU] [] I K
  refine G_const rc_232_5 (by decide) ?_
  refine G_storeI rc_232_6 (Nat.le_of_ble_eq_true rfl) ?_
  show GO S0 232 8 [vR 237, vI x1, vI (-5), vI 0, vI 0, vU, vU] [] I K
  refine G_const rc_232_8 (by decide) ?_
  refine G_storeI rc_232_9 (Nat.le_of_ble_eq_true rfl) ?_
  show GO S0 232 11 [vR 237, vI x1, vI (-5), vI 0, vI 0, vI 0, vU] [] I K
  exact h
/-! 233: RoundSlackModel.fill(I)I -/
def D233_0 (x1 : Int) (I : IM) (K : Option AV → IM → Prop) : Prop :=
  CALL S0 130 [vI x1, vI 1, vI 4] I (fun v I1 => ∃ y2 : Int, v = some (vI y2) ∧ (if y2 = 0 then (K (some (vI (-2))) I1) else (CALL S0 202 [vR 237] I1 (fun v I4 => v = none ∧ CALL S0 234 [vR 237, vI x1] I4 (fun v I5 => ∃ y6 : Int, v = some (vI y6) ∧ (if y6 ≤ 0 then (K (some (vI y6)) I5) else (CALL S0 203 [vR 237] I5 (fun v I8 => v = none ∧ K (some (vI y6)) I8))))))))
set_option maxRecDepth 10000 in
theorem g233_0 (x1 : Int) (I : IM) (K : Option AV → IM → Prop) (h : D233_0 x1 I K) : GO S0 233 0 [vR 237, vI x1, vU] [] I K := by
  unfold D233_0 at h
  refine G_loadI rc_233_0 rfl ?_
  refine G_const rc_233_1 (by decide) ?_
  refine G_const rc_233_2 (by decide) ?_
  refine G_call (as := [vI x1, vI 1, vI 4]) (rest := []) rc_233_3 rfl rfl rfl (Nat.le_of_ble_eq_true rfl) rfl ?_
  refine GO.imp h (fun v I1 h => ?_)
  obtain ⟨y2, rfl, h⟩ := h
  show GO S0 233 6 [vR 237, vI x1, vU] [vI y2] I1 K
  refine G_i1 (C := ¬ y2 = 0) rc_233_6 rfl (fun c3 => ?_) (fun c3 => ?_)
  · rw [if_neg c3] at h
    show GO S0 233 12 [vR 237, vI x1, vU] [] I1 K
    refine G_loadR rc_233_12 rfl ?_
    refine G_call (as := [vR 237]) (rest := []) rc_233_13 rfl rfl rfl (Nat.le_of_ble_eq_true rfl) (g_recv s0_237 rfl) ?_
    refine GO.imp h (fun v I4 h => ?_)
    obtain ⟨rfl, h⟩ := h
    show GO S0 233 16 [vR 237, vI x1, vU] [] I4 K
    refine G_loadR rc_233_16 rfl ?_
    refine G_loadI rc_233_17 rfl ?_
    refine G_call (as := [vR 237, vI x1]) (rest := []) rc_233_18 rfl rfl rfl (Nat.le_of_ble_eq_true rfl) (g_recv s0_237 rfl) ?_
    refine GO.imp h (fun v I5 h => ?_)
    obtain ⟨y6, rfl, h⟩ := h
    show GO S0 233 21 [vR 237, vI x1, vU] [vI y6] I5 K
    refine G_storeI rc_233_21 (Nat.le_of_ble_eq_true rfl) ?_
    show GO S0 233 22 [vR 237, vI x1, vI y6] [] I5 K
    refine G_loadI rc_233_22 rfl ?_
    refine G_i1 (C := y6 ≤ 0) rc_233_23 rfl (fun c7 => ?_) (fun c7 => ?_)
    · rw [if_pos c7] at h
      show GO S0 233 30 [vR 237, vI x1, vI y6] [] I5 K
      refine G_loadI rc_233_30 rfl ?_
      exact G_retI rc_233_31 (Or.inl rfl) h
    · rw [if_neg c7] at h
      show GO S0 233 26 [vR 237, vI x1, vI y6] [] I5 K
      refine G_loadR rc_233_26 rfl ?_
      refine G_call (as := [vR 237]) (rest := []) rc_233_27 rfl rfl rfl (Nat.le_of_ble_eq_true rfl) (g_recv s0_237 rfl) ?_
      refine GO.imp h (fun v I8 h => ?_)
      obtain ⟨rfl, h⟩ := h
      show GO S0 233 30 [vR 237, vI x1, vI y6] [] I8 K
      refine G_loadI rc_233_30 rfl ?_
      exact G_retI rc_233_31 (Or.inl rfl) h
  · rw [if_pos (Classical.not_not.mp c3)] at h
    show GO S0 233 9 [vR 237, vI x1, vU] [] I1 K
    refine G_const rc_233_9 (by decide) ?_
    exact G_retI rc_233_11 (Or.inl rfl) h
/-! 234: RoundSlackModel.fills(I)I -/
def D234_8 (x1 : Int) (x2 : Int) (x3 : Int) (I : IM) (K : Option AV → IM → Prop) : Prop :=
  (if x3 < 0 then (K (some (vI x2)) I) else (CALL S0 230 [vR 237, vI x3] I (fun v I2 => v = none ∧ CALL S0 201 [vR 237] I2 (fun v I3 => v = none ∧ CALL S0 157 [vR 242, vI (I3 237 31), vI (I3 237 32), vI x3] I3 (fun v I4 => v = none ∧ CALL S0 170 [vR 237] I4 (fun v I5 => v = none ∧ (inR (x2 + 1)) ∧ CALL S0 232 [vR 237, vI x1] I5 (fun v I7 => ∃ y8 : Int, v = some (vI y8) ∧ GO S0 234 8 [vR 237, vI x1, vI (x2 + 1), vI y8] [] I7 K)))))))
set_option maxRecDepth 10000 in
theorem g234_8 (x1 : Int) (x2 : Int) (x3 : Int) (I : IM) (K : Option AV → IM → Prop) (h : D234_8 x1 x2 x3 I K) : GO S0 234 8 [vR 237, vI x1, vI x2, vI x3] [] I K := by
  unfold D234_8 at h
  refine G_loadI rc_234_8 rfl ?_
  refine G_i1 (C := x3 < 0) rc_234_9 rfl (fun c1 => ?_) (fun c1 => ?_)
  · rw [if_pos c1] at h
    show GO S0 234 53 [vR 237, vI x1, vI x2, vI x3] [] I K
    refine G_loadI rc_234_53 rfl ?_
    exact G_retI rc_234_54 (Or.inl rfl) h
  · rw [if_neg c1] at h
    show GO S0 234 12 [vR 237, vI x1, vI x2, vI x3] [] I K
    refine G_loadR rc_234_12 rfl ?_
    refine G_loadI rc_234_13 rfl ?_
    refine G_call (as := [vR 237, vI x3]) (rest := []) rc_234_14 rfl rfl rfl (Nat.le_of_ble_eq_true rfl) (g_recv s0_237 rfl) ?_
    refine GO.imp h (fun v I2 h => ?_)
    obtain ⟨rfl, h⟩ := h
    show GO S0 234 17 [vR 237, vI x1, vI x2, vI x3] [] I2 K
    refine G_loadR rc_234_17 rfl ?_
    refine G_call (as := [vR 237]) (rest := []) rc_234_18 rfl rfl rfl (Nat.le_of_ble_eq_true rfl) (g_recv s0_237 rfl) ?_
    refine GO.imp h (fun v I3 h => ?_)
    obtain ⟨rfl, h⟩ := h
    show GO S0 234 21 [vR 237, vI x1, vI x2, vI x3] [] I3 K
    refine G_loadR rc_234_21 rfl ?_
    refine G_getR rc_234_22 s0_237 (by decide) rfl (by decide) ?_
    show GO S0 234 25 [vR 237, vI x1, vI x2, vI x3] [vR 242] I3 K
    refine G_loadR rc_234_25 rfl ?_
    refine G_getI rc_234_26 s0_237 (by decide) ?_
    show GO S0 234 29 [vR 237, vI x1, vI x2, vI x3] [vI (I3 237 31), vR 242] I3 K
    refine G_loadR rc_234_29 rfl ?_
    refine G_getI rc_234_30 s0_237 (by decide) ?_
    show GO S0 234 33 [vR 237, vI x1, vI x2, vI x3] [vI (I3 237 32), vI (I3 237 31), vR 242] I3 K
    refine G_loadI rc_234_33 rfl ?_
    refine G_call (as := [vR 242, vI (I3 237 31), vI (I3 237 32), vI x3]) (rest := []) rc_234_34 rfl rfl rfl (Nat.le_of_ble_eq_true rfl) rfl ?_
    refine GO.imp h (fun v I4 h => ?_)
    obtain ⟨rfl, h⟩ := h
    show GO S0 234 37 [vR 237, vI x1, vI x2, vI x3] [] I4 K
    refine G_loadR rc_234_37 rfl ?_
    refine G_call (as := [vR 237]) (rest := []) rc_234_38 rfl rfl rfl (Nat.le_of_ble_eq_true rfl) (g_recv s0_237 rfl) ?_
    refine GO.imp h (fun v I5 h => ?_)
    obtain ⟨rfl, h⟩ := h
    show GO S0 234 41 [vR 237, vI x1, vI x2, vI x3] [] I5 K
    obtain ⟨c6, h⟩ := h
    refine G_iinc rc_234_41 rfl c6 ?_
    show GO S0 234 44 [vR 237, vI x1, vI (x2 + 1), vI x3] [] I5 K
    refine G_loadR rc_234_44 rfl ?_
    refine G_loadI rc_234_45 rfl ?_
    refine G_call (as := [vR 237, vI x1]) (rest := []) rc_234_46 rfl rfl rfl (Nat.le_of_ble_eq_true rfl) (g_recv s0_237 rfl) ?_
    refine GO.imp h (fun v I7 h => ?_)
    obtain ⟨y8, rfl, h⟩ := h
    show GO S0 234 49 [vR 237, vI x1, vI (x2 + 1), vI x3] [vI y8] I7 K
    refine G_storeI rc_234_49 (Nat.le_of_ble_eq_true rfl) ?_
    show GO S0 234 50 [vR 237, vI x1, vI (x2 + 1), vI y8] [] I7 K
    refine G_goto rc_234_50 ?_
    show GO S0 234 8 [vR 237, vI x1, vI (x2 + 1), vI y8] [] I7 K
    exact h
def D234_0 (x1 : Int) (I : IM) (K : Option AV → IM → Prop) : Prop :=
  CALL S0 232 [vR 237, vI x1] I (fun v I1 => ∃ y2 : Int, v = some (vI y2) ∧ GO S0 234 8 [vR 237, vI x1, vI 0, vI y2] [] I1 K)
set_option maxRecDepth 10000 in
theorem g234_0 (x1 : Int) (I : IM) (K : Option AV → IM → Prop) (h : D234_0 x1 I K) : GO S0 234 0 [vR 237, vI x1, vU, vU] [] I K := by
  unfold D234_0 at h
  refine G_const rc_234_0 (by decide) ?_
  refine G_storeI rc_234_1 (Nat.le_of_ble_eq_true rfl) ?_
  show GO S0 234 2 [vR 237, vI x1, vI 0, vU] [] I K
  refine G_loadR rc_234_2 rfl ?_
  refine G_loadI rc_234_3 rfl ?_
  refine G_call (as := [vR 237, vI x1]) (rest := []) rc_234_4 rfl rfl rfl (Nat.le_of_ble_eq_true rfl) (g_recv s0_237 rfl) ?_
  refine GO.imp h (fun v I1 h => ?_)
  obtain ⟨y2, rfl, h⟩ := h
  show GO S0 234 7 [vR 237, vI x1, vI 0, vU] [vI y2] I1 K
  refine G_storeI rc_234_7 (Nat.le_of_ble_eq_true rfl) ?_
  show GO S0 234 8 [vR 237, vI x1, vI 0, vI y2] [] I1 K
  exact h
/-! 235: RoundSlackModel.ruin(II)I -/
def D235_0 (x1 : Int) (x2 : Int) (I : IM) (K : Option AV → IM → Prop) : Prop :=
  CALL S0 137 [vR 237, vI x1] I (fun v I1 => ∃ y2 : Int, v = some (vI y2) ∧ (if y2 = 0 then (K (some (vI (-1))) I1) else (CALL S0 130 [vI x2, vI 1, vI 12] I1 (fun v I4 => ∃ y5 : Int, v = some (vI y5) ∧ (if y5 = 0 then (K (some (vI (-2))) I4) else (CALL S0 202 [vR 237] I4 (fun v I7 => v = none ∧ CALL S0 236 [vR 237, vI x1, vI x2] I7 (fun v I8 => ∃ y9 : Int, v = some (vI y9) ∧ (if y9 ≤ 0 then (K (some (vI y9)) I8) else (CALL S0 203 [vR 237] I8 (fun v I11 => v = none ∧ K (some (vI y9)) I11)))))))))))
set_option maxRecDepth 10000 in
theorem g235_0 (x1 : Int) (x2 : Int) (I : IM) (K : Option AV → IM → Prop) (h : D235_0 x1 x2 I K) : GO S0 235 0 [vR 237, vI x1, vI x2, vU] [] I K := by
  unfold D235_0 at h
  refine G_loadR rc_235_0 rfl ?_
  refine G_loadI rc_235_1 rfl ?_
  refine G_call (as := [vR 237, vI x1]) (rest := []) rc_235_2 rfl rfl rfl (Nat.le_of_ble_eq_true rfl) (g_recv s0_237 rfl) ?_
  refine GO.imp h (fun v I1 h => ?_)
  obtain ⟨y2, rfl, h⟩ := h
  show GO S0 235 5 [vR 237, vI x1, vI x2, vU] [vI y2] I1 K
  refine G_i1 (C := ¬ y2 = 0) rc_235_5 rfl (fun c3 => ?_) (fun c3 => ?_)
  · rw [if_neg c3] at h
    show GO S0 235 10 [vR 237, vI x1, vI x2, vU] [] I1 K
    refine G_loadI rc_235_10 rfl ?_
    refine G_const rc_235_11 (by decide) ?_
    refine G_const rc_235_12 (by decide) ?_
    refine G_call (as := [vI x2, vI 1, vI 12]) (rest := []) rc_235_14 rfl rfl rfl (Nat.le_of_ble_eq_true rfl) rfl ?_
    refine GO.imp h (fun v I4 h => ?_)
    obtain ⟨y5, rfl, h⟩ := h
    show GO S0 235 17 [vR 237, vI x1, vI x2, vU] [vI y5] I4 K
    refine G_i1 (C := ¬ y5 = 0) rc_235_17 rfl (fun c6 => ?_) (fun c6 => ?_)
    · rw [if_neg c6] at h
      show GO S0 235 23 [vR 237, vI x1, vI x2, vU] [] I4 K
      refine G_loadR rc_235_23 rfl ?_
      refine G_call (as := [vR 237]) (rest := []) rc_235_24 rfl rfl rfl (Nat.le_of_ble_eq_true rfl) (g_recv s0_237 rfl) ?_
      refine GO.imp h (fun v I7 h => ?_)
      obtain ⟨rfl, h⟩ := h
      show GO S0 235 27 [vR 237, vI x1, vI x2, vU] [] I7 K
      refine G_loadR rc_235_27 rfl ?_
      refine G_loadI rc_235_28 rfl ?_
      refine G_loadI rc_235_29 rfl ?_
      refine G_call (as := [vR 237, vI x1, vI x2]) (rest := []) rc_235_30 rfl rfl rfl (Nat.le_of_ble_eq_true rfl) (g_recv s0_237 rfl) ?_
      refine GO.imp h (fun v I8 h => ?_)
      obtain ⟨y9, rfl, h⟩ := h
      show GO S0 235 33 [vR 237, vI x1, vI x2, vU] [vI y9] I8 K
      refine G_storeI rc_235_33 (Nat.le_of_ble_eq_true rfl) ?_
      show GO S0 235 34 [vR 237, vI x1, vI x2, vI y9] [] I8 K
      refine G_loadI rc_235_34 rfl ?_
      refine G_i1 (C := y9 ≤ 0) rc_235_35 rfl (fun c10 => ?_) (fun c10 => ?_)
      · rw [if_pos c10] at h
        show GO S0 235 42 [vR 237, vI x1, vI x2, vI y9] [] I8 K
        refine G_loadI rc_235_42 rfl ?_
        exact G_retI rc_235_43 (Or.inl rfl) h
      · rw [if_neg c10] at h
        show GO S0 235 38 [vR 237, vI x1, vI x2, vI y9] [] I8 K
        refine G_loadR rc_235_38 rfl ?_
        refine G_call (as := [vR 237]) (rest := []) rc_235_39 rfl rfl rfl (Nat.le_of_ble_eq_true rfl) (g_recv s0_237 rfl) ?_
        refine GO.imp h (fun v I11 h => ?_)
        obtain ⟨rfl, h⟩ := h
        show GO S0 235 42 [vR 237, vI x1, vI x2, vI y9] [] I11 K
        refine G_loadI rc_235_42 rfl ?_
        exact G_retI rc_235_43 (Or.inl rfl) h
    · rw [if_pos (Classical.not_not.mp c6)] at h
      show GO S0 235 20 [vR 237, vI x1, vI x2, vU] [] I4 K
      refine G_const rc_235_20 (by decide) ?_
      exact G_retI rc_235_22 (Or.inl rfl) h
  · rw [if_pos (Classical.not_not.mp c3)] at h
    show GO S0 235 8 [vR 237, vI x1, vI x2, vU] [] I1 K
    refine G_const rc_235_8 (by decide) ?_
    exact G_retI rc_235_9 (Or.inl rfl) h
/-! 236: RoundSlackModel.ruins(II)I -/
def D236_9 (x1 : Int) (x2 : Int) (x3 : Int) (x4 : Int) (I : IM) (K : Option AV → IM → Prop) : Prop :=
  (if x2 ≤ x3 then (K (some (vI x3)) I) else ((if x4 < 0 then (K (some (vI x3)) I) else (CALL S0 201 [vR 237] I (fun v I3 => v = none ∧ CALL S0 139 [vR 237, vI x4] I3 (fun v I4 => ∃ y5 : Int, v = some (vI y5) ∧ CALL S0 177 [vR 237, vI x4] I4 (fun v I6 => ∃ y7 : Int, v = some (vI y7) ∧ CALL S0 207 [vR 242, vI y5, vI y7] I6 (fun v I8 => v = none ∧ CALL S0 170 [vR 237] I8 (fun v I9 => v = none ∧ (inR (x3 + 1)) ∧ CALL S0 237 [vR 237, vI x1] I9 (fun v I11 => ∃ y12 : Int, v = some (vI y12) ∧ GO S0 236 9 [vR 237, vI x1, vI x2, vI (x3 + 1), vI y12] [] I11 K))))))))))
set_option maxRecDepth 10000 in
theorem g236_9 (x1 : Int) (x2 : Int) (x3 : Int) (x4 : Int) (I : IM) (K : Option AV → IM → Prop) (h : D236_9 x1 x2 x3 x4 I K) : GO S0 236 9 [vR 237, vI x1, vI x2, vI x3, vI x4] [] I K := by
  unfold D236_9 at h
  refine G_loadI rc_236_9 rfl ?_
  refine G_loadI rc_236_10 rfl ?_
  refine G_i2 (C := x2 ≤ x3) rc_236_11 rfl (fun c1 => ?_) (fun c1 => ?_)
  · rw [if_pos c1] at h
    show GO S0 236 59 [vR 237, vI x1, vI x2, vI x3, vI x4] [] I K
    refine G_loadI rc_236_59 rfl ?_
    exact G_retI rc_236_60 (Or.inl rfl) h
  · rw [if_neg c1] at h
    show GO S0 236 14 [vR 237, vI x1, vI x2, vI x3, vI x4] [] I K
    refine G_loadI rc_236_14 rfl ?_
    refine G_i1 (C := x4 < 0) rc_236_16 rfl (fun c2 => ?_) (fun c2 => ?_)
    · rw [if_pos c2] at h
      show GO S0 236 59 [vR 237, vI x1, vI x2, vI x3, vI x4] [] I K
      refine G_loadI rc_236_59 rfl ?_
      exact G_retI rc_236_60 (Or.inl rfl) h
    · rw [if_neg c2] at h
      show GO S0 236 19 [vR 237, vI x1, vI x2, vI x3, vI x4] [] I K
      refine G_loadR rc_236_19 rfl ?_
      refine G_call (as := [vR 237]) (rest := []) rc_236_20 rfl rfl rfl (Nat.le_of_ble_eq_true rfl) (g_recv s0_237 rfl) ?_
      refine GO.imp h (fun v I3 h => ?_)
      obtain ⟨rfl, h⟩ := h
      show GO S0 236 23 [vR 237, vI x1, vI x2, vI x3, vI x4] [] I3 K
      refine G_loadR rc_236_23 rfl ?_
      refine G_getR rc_236_24 s0_237 (by decide) rfl (by decide) ?_
      show GO S0 236 27 [vR 237, vI x1, vI x2, vI x3, vI x4] [vR 242] I3 K
      refine G_loadR rc_236_27 rfl ?_
      refine G_loadI rc_236_28 rfl ?_
      refine G_call (as := [vR 237, vI x4]) (rest := [vR 242]) rc_236_30 rfl rfl rfl (Nat.le_of_ble_eq_true rfl) (g_recv s0_237 rfl) ?_
      refine GO.imp h (fun v I4 h => ?_)
      obtain ⟨y5, rfl, h⟩ := h
      show GO S0 236 33 [vR 237, vI x1, vI x2, vI x3, vI x4] [vI y5, vR 242] I4 K
      refine G_loadR rc_236_33 rfl ?_
      refine G_loadI rc_236_34 rfl ?_
      refine G_call (as := [vR 237, vI x4]) (rest := [vI y5, vR 242]) rc_236_36 rfl rfl rfl (Nat.le_of_ble_eq_true rfl) (g_recv s0_237 rfl) ?_
      refine GO.imp h (fun v I6 h => ?_)
      obtain ⟨y7, rfl, h⟩ := h
      show GO S0 236 39 [vR 237, vI x1, vI x2, vI x3, vI x4] [vI y7, vI y5, vR 242] I6 K
      refine G_call (as := [vR 242, vI y5, vI y7]) (rest := []) rc_236_39 rfl rfl rfl (Nat.le_of_ble_eq_true rfl) rfl ?_
      refine GO.imp h (fun v I8 h => ?_)
      obtain ⟨rfl, h⟩ := h
      show GO S0 236 42 [vR 237, vI x1, vI x2, vI x3, vI x4] [] I8 K
      refine G_loadR rc_236_42 rfl ?_
      refine G_call (as := [vR 237]) (rest := []) rc_236_43 rfl rfl rfl (Nat.le_of_ble_eq_true rfl) (g_recv s0_237 rfl) ?_
      refine GO.imp h (fun v I9 h => ?_)
      obtain ⟨rfl, h⟩ := h
      show GO S0 236 46 [vR 237, vI x1, vI x2, vI x3, vI x4] [] I9 K
      obtain ⟨c10, h⟩ := h
      refine G_iinc rc_236_46 rfl c10 ?_
      show GO S0 236 49 [vR 237, vI x1, vI x2, vI (x3 + 1), vI x4] [] I9 K
      refine G_loadR rc_236_49 rfl ?_
      refine G_loadI rc_236_50 rfl ?_
      refine G_call (as := [vR 237, vI x1]) (rest := []) rc_236_51 rfl rfl rfl (Nat.le_of_ble_eq_true rfl) (g_recv s0_237 rfl) ?_
      refine GO.imp h (fun v I11 h => ?_)
      obtain ⟨y12, rfl, h⟩ := h
      show GO S0 236 54 [vR 237, vI x1, vI x2, vI (x3 + 1), vI x4] [vI y12] I11 K
      refine G_storeI rc_236_54 (Nat.le_of_ble_eq_true rfl) ?_
      show GO S0 236 56 [vR 237, vI x1, vI x2, vI (x3 + 1), vI y12] [] I11 K
      refine G_goto rc_236_56 ?_
      show GO S0 236 9 [vR 237, vI x1, vI x2, vI (x3 + 1), vI y12] [] I11 K
      exact h
def D236_0 (x1 : Int) (x2 : Int) (I : IM) (K : Option AV → IM → Prop) : Prop :=
  CALL S0 237 [vR 237, vI x1] I (fun v I1 => ∃ y2 : Int, v = some (vI y2) ∧ GO S0 236 9 [vR 237, vI x1, vI x2, vI 0, vI y2] [] I1 K)
set_option maxRecDepth 10000 in
theorem g236_0 (x1 : Int) (x2 : Int) (I : IM) (K : Option AV → IM → Prop) (h : D236_0 x1 x2 I K) : GO S0 236 0 [vR 237, vI x1, vI x2, vU, vU] [] I K := by
  unfold D236_0 at h
  refine G_const rc_236_0 (by decide) ?_
  refine G_storeI rc_236_1 (Nat.le_of_ble_eq_true rfl) ?_
  show GO S0 236 2 [vR 237, vI x1, vI x2, vI 0, vU] [] I K
  refine G_loadR rc_236_2 rfl ?_
  refine G_loadI rc_236_3 rfl ?_
  refine G_call (as := [vR 237, vI x1]) (rest := []) rc_236_4 rfl rfl rfl (Nat.le_of_ble_eq_true rfl) (g_recv s0_237 rfl) ?_
  refine GO.imp h (fun v I1 h => ?_)
  obtain ⟨y2, rfl, h⟩ := h
  show GO S0 236 7 [vR 237, vI x1, vI x2, vI 0, vU] [vI y2] I1 K
  refine G_storeI rc_236_7 (Nat.le_of_ble_eq_true rfl) ?_
  show GO S0 236 9 [vR 237, vI x1, vI x2, vI 0, vI y2] [] I1 K
  exact h
/-! 237: RoundSlackModel.nearest(I)I -/
def D237_4 (x1 : Int) (x2 : Int) (x3 : Int) (I : IM) (K : Option AV → IM → Prop) : Prop :=
  (if I 238 5 ≤ x3 then (K (some (vI x2)) I) else (CALL S0 138 [vR 237, vI x3] I (fun v I2 => ∃ y3 : Int, v = some (vI y3) ∧ (if y3 = 0 then ((if x2 < 0 then ((inR (x3 + 1)) ∧ GO S0 237 4 [vR 237, vI x1, vI x3, vI (x3 + 1)] [] I2 K) else (CALL S0 166 [vR 237, vI x3, vI x1] I2 (fun v I8 => ∃ y9 : Int, v = some (vI y9) ∧ CALL S0 166 [vR 237, vI x2, vI x1] I8 (fun v I10 => ∃ y11 : Int, v = some (vI y11) ∧ (if y11 ≤ y9 then ((inR (x3 + 1)) ∧ GO S0 237 4 [vR 237, vI x1, vI x2, vI (x3 + 1)] [] I10 K) else ((inR (x3 + 1)) ∧ GO S0 237 4 [vR 237, vI x1, vI x3, vI (x3 + 1)] [] I10 K))))))) else ((inR (x3 + 1)) ∧ GO S0 237 4 [vR 237, vI x1, vI x2, vI (x3 + 1)] [] I2 K)))))
set_option maxRecDepth 10000 in
theorem g237_4 (x1 : Int) (x2 : Int) (x3 : Int) (I : IM) (K : Option AV → IM → Prop) (h : D237_4 x1 x2 x3 I K) : GO S0 237 4 [vR 237, vI x1, vI x2, vI x3] [] I K := by
  unfold D237_4 at h
  refine G_loadI rc_237_4 rfl ?_
  refine G_loadR rc_237_5 rfl ?_
  refine G_getR rc_237_6 s0_237 (by decide) rfl (by decide) ?_
  show GO S0 237 9 [vR 237, vI x1, vI x2, vI x3] [vR 238, vI x3] I K
  refine G_const rc_237_9 (by decide) ?_
  refine G_ald rc_237_10 s0_238 (by decide) (by decide) ?_
  show GO S0 237 11 [vR 237, vI x1, vI x2, vI x3] [vI (I 238 5), vI x3] I K
  refine G_i2 (C := I 238 5 ≤ x3) rc_237_11 rfl (fun c1 => ?_) (fun c1 => ?_)
  · rw [if_pos c1] at h
    show GO S0 237 49 [vR 237, vI x1, vI x2, vI x3] [] I K
    refine G_loadI rc_237_49 rfl ?_
    exact G_retI rc_237_50 (Or.inl rfl) h
  · rw [if_neg c1] at h
    show GO S0 237 14 [vR 237, vI x1, vI x2, vI x3] [] I K
    refine G_loadR rc_237_14 rfl ?_
    refine G_loadI rc_237_15 rfl ?_
    refine G_call (as := [vR 237, vI x3]) (rest := []) rc_237_16 rfl rfl rfl (Nat.le_of_ble_eq_true rfl) (g_recv s0_237 rfl) ?_
    refine GO.imp h (fun v I2 h => ?_)
    obtain ⟨y3, rfl, h⟩ := h
    show GO S0 237 19 [vR 237, vI x1, vI x2, vI x3] [vI y3] I2 K
    refine G_i1 (C := ¬ y3 = 0) rc_237_19 rfl (fun c4 => ?_) (fun c4 => ?_)
    · rw [if_neg c4] at h
      show GO S0 237 43 [vR 237, vI x1, vI x2, vI x3] [] I2 K
      obtain ⟨c5, h⟩ := h
      refine G_iinc rc_237_43 rfl c5 ?_
      show GO S0 237 46 [vR 237, vI x1, vI x2, vI (x3 + 1)] [] I2 K
      refine G_goto rc_237_46 ?_
      show GO S0 237 4 [vR 237, vI x1, vI x2, vI (x3 + 1)] [] I2 K
      exact h
    · rw [if_pos (Classical.not_not.mp c4)] at h
      show GO S0 237 22 [vR 237, vI x1, vI x2, vI x3] [] I2 K
      refine G_loadI rc_237_22 rfl ?_
      refine G_i1 (C := x2 < 0) rc_237_23 rfl (fun c6 => ?_) (fun c6 => ?_)
      · rw [if_pos c6] at h
        show GO S0 237 41 [vR 237, vI x1, vI x2, vI x3] [] I2 K
        refine G_loadI rc_237_41 rfl ?_
        refine G_storeI rc_237_42 (Nat.le_of_ble_eq_true rfl) ?_
        show GO S0 237 43 [vR 237, vI x1, vI x3, vI x3] [] I2 K
        obtain ⟨c7, h⟩ := h
        refine G_iinc rc_237_43 rfl c7 ?_
        show GO S0 237 46 [vR 237, vI x1, vI x3, vI (x3 + 1)] [] I2 K
        refine G_goto rc_237_46 ?_
        show GO S0 237 4 [vR 237, vI x1, vI x3, vI (x3 + 1)] [] I2 K
        exact h
      · rw [if_neg c6] at h
        show GO S0 237 26 [vR 237, vI x1, vI x2, vI x3] [] I2 K
        refine G_loadR rc_237_26 rfl ?_
        refine G_loadI rc_237_27 rfl ?_
        refine G_loadI rc_237_28 rfl ?_
        refine G_call (as := [vR 237, vI x3, vI x1]) (rest := []) rc_237_29 rfl rfl rfl (Nat.le_of_ble_eq_true rfl) (g_recv s0_237 rfl) ?_
        refine GO.imp h (fun v I8 h => ?_)
        obtain ⟨y9, rfl, h⟩ := h
        show GO S0 237 32 [vR 237, vI x1, vI x2, vI x3] [vI y9] I8 K
        refine G_loadR rc_237_32 rfl ?_
        refine G_loadI rc_237_33 rfl ?_
        refine G_loadI rc_237_34 rfl ?_
        refine G_call (as := [vR 237, vI x2, vI x1]) (rest := [vI y9]) rc_237_35 rfl rfl rfl (Nat.le_of_ble_eq_true rfl) (g_recv s0_237 rfl) ?_
        refine GO.imp h (fun v I10 h => ?_)
        obtain ⟨y11, rfl, h⟩ := h
        show GO S0 237 38 [vR 237, vI x1, vI x2, vI x3] [vI y11, vI y9] I10 K
        refine G_i2 (C := y11 ≤ y9) rc_237_38 rfl (fun c12 => ?_) (fun c12 => ?_)
        · rw [if_pos c12] at h
          show GO S0 237 43 [vR 237, vI x1, vI x2, vI x3] [] I10 K
          obtain ⟨c13, h⟩ := h
          refine G_iinc rc_237_43 rfl c13 ?_
          show GO S0 237 46 [vR 237, vI x1, vI x2, vI (x3 + 1)] [] I10 K
          refine G_goto rc_237_46 ?_
          show GO S0 237 4 [vR 237, vI x1, vI x2, vI (x3 + 1)] [] I10 K
          exact h
        · rw [if_neg c12] at h
          show GO S0 237 41 [vR 237, vI x1, vI x2, vI x3] [] I10 K
          refine G_loadI rc_237_41 rfl ?_
          refine G_storeI rc_237_42 (Nat.le_of_ble_eq_true rfl) ?_
          show GO S0 237 43 [vR 237, vI x1, vI x3, vI x3] [] I10 K
          obtain ⟨c14, h⟩ := h
          refine G_iinc rc_237_43 rfl c14 ?_
          show GO S0 237 46 [vR 237, vI x1, vI x3, vI (x3 + 1)] [] I10 K
          refine G_goto rc_237_46 ?_
          show GO S0 237 4 [vR 237, vI x1, vI x3, vI (x3 + 1)] [] I10 K
          exact h
def D237_0 (x1 : Int) (I : IM) (K : Option AV → IM → Prop) : Prop :=
  GO S0 237 4 [vR 237, vI x1, vI (-1), vI 0] [] I K
set_option maxRecDepth 10000 in
theorem g237_0 (x1 : Int) (I : IM) (K : Option AV → IM → Prop) (h : D237_0 x1 I K) : GO S0 237 0 [vR 237, vI x1, vU, vU] [] I K := by
  unfold D237_0 at h
  refine G_const rc_237_0 (by decide) ?_
  refine G_storeI rc_237_1 (Nat.le_of_ble_eq_true rfl) ?_
  show GO S0 237 2 [vR 237, vI x1, vI (-1), vU] [] I K
  refine G_const rc_237_2 (by decide) ?_
  refine G_storeI rc_237_3 (Nat.le_of_ble_eq_true rfl) ?_
  show GO S0 237 4 [vR 237, vI x1, vI (-1), vI 0] [] I K
  exact h
/-! 238: RoundSlackModel.again(III)I -/
def D238_89 (x1 : Int) (x2 : Int) (x3 : Int) (x4 : Int) (x5 : Int) (I : IM) (K : Option AV → IM → Prop) : Prop :=
  K (some (vI ((if 0 < x5 then x5 else 0)))) I
set_option maxRecDepth 10000 in
theorem g238_89 (x1 : Int) (x2 : Int) (x3 : Int) (x4 : Int) (x5 : Int) (I : IM) (K : Option AV → IM → Prop) (h : D238_89 x1 x2 x3 x4 x5 I K) : GO S0 238 89 [vR 237, vI x1, vI x2, vI x3, vI x4, vI x5] [] I K := by
  unfold D238_89 at h
  refine G_const rc_238_89 (by decide) ?_
  refine G_loadI rc_238_90 rfl ?_
  refine G_max rc_238_92 (Nat.le_of_ble_eq_true rfl) ?_
  show GO S0 238 95 [vR 237, vI x1, vI x2, vI x3, vI x4, vI x5] [vI ((if 0 < x5 then x5 else 0))] I K
  exact G_retI rc_238_95 (Or.inl rfl) h
def D238_0 (x1 : Int) (x2 : Int) (x3 : Int) (I : IM) (K : Option AV → IM → Prop) : Prop :=
  CALL S0 137 [vR 237, vI x1] I (fun v I1 => ∃ y2 : Int, v = some (vI y2) ∧ (if y2 = 0 then (K (some (vI (-1))) I1) else (CALL S0 130 [vI x2, vI 1, vI 12] I1 (fun v I4 => ∃ y5 : Int, v = some (vI y5) ∧ (if y5 = 0 then (K (some (vI (-2))) I4) else (CALL S0 130 [vI x3, vI 1, vI 4] I4 (fun v I7 => ∃ y8 : Int, v = some (vI y8) ∧ (if y8 = 0 then (K (some (vI (-2))) I7) else (CALL S0 202 [vR 237] I7 (fun v I10 => v = none ∧ CALL S0 193 [vR 237, vI (-1)] I10 (fun v I11 => ∃ y12 : Int, v = some (vI y12) ∧ CALL S0 236 [vR 237, vI x1, vI x2] I11 (fun v I13 => ∃ y14 : Int, v = some (vI y14) ∧ CALL S0 234 [vR 237, vI x3] I13 (fun v I15 => ∃ y16 : Int, v = some (vI y16) ∧ CALL S0 224 [vR 237, vI 40] I15 (fun v I17 => ∃ y18 : Int, v = some (vI y18) ∧ CALL S0 193 [vR 237, vI (-1)] I17 (fun v I19 => ∃ y20 : Int, v = some (vI y20) ∧ (inR (y12 - y20)) ∧ (if y12 - y20 ≤ 0 then (CALL S0 239 [vR 237] I19 (fun v I23 => v = none ∧ D238_89 x1 x2 x3 y12 (y12 - y20) I23 K)) else (CALL S0 203 [vR 237] I19 (fun v I24 => v = none ∧ D238_89 x1 x2 x3 y12 (y12 - y20) I24 K))))))))))))))))))
set_option maxRecDepth 10000 in
theorem g238_0 (x1 : Int) (x2 : Int) (x3 : Int) (I : IM) (K : Option AV → IM → Prop) (h : D238_0 x1 x2 x3 I K) : GO S0 238 0 [vR 237, vI x1, vI x2, vI x3, vU, vU] [] I K := by
  unfold D238_0 at h
  refine G_loadR rc_238_0 rfl ?_
  refine G_loadI rc_238_1 rfl ?_
  refine G_call (as := [vR 237, vI x1]) (rest := []) rc_238_2 rfl rfl rfl (Nat.le_of_ble_eq_true rfl) (g_recv s0_237 rfl) ?_
  refine GO.imp h (fun v I1 h => ?_)
  obtain ⟨y2, rfl, h⟩ := h
  show GO S0 238 5 [vR 237, vI x1, vI x2, vI x3, vU, vU] [vI y2] I1 K
  refine G_i1 (C := ¬ y2 = 0) rc_238_5 rfl (fun c3 => ?_) (fun c3 => ?_)
  · rw [if_neg c3] at h
    show GO S0 238 10 [vR 237, vI x1, vI x2, vI x3, vU, vU] [] I1 K
    refine G_loadI rc_238_10 rfl ?_
    refine G_const rc_238_11 (by decide) ?_
    refine G_const rc_238_12 (by decide) ?_
    refine G_call (as := [vI x2, vI 1, vI 12]) (rest := []) rc_238_14 rfl rfl rfl (Nat.le_of_ble_eq_true rfl) rfl ?_
    refine GO.imp h (fun v I4 h => ?_)
    obtain ⟨y5, rfl, h⟩ := h
    show GO S0 238 17 [vR 237, vI x1, vI x2, vI x3, vU, vU] [vI y5] I4 K
    refine G_i1 (C := y5 = 0) rc_238_17 rfl (fun c6 => ?_) (fun c6 => ?_)
    · rw [if_pos c6] at h
      show GO S0 238 29 [vR 237, vI x1, vI x2, vI x3, vU, vU] [] I4 K
      refine G_const rc_238_29 (by decide) ?_
      exact G_retI rc_238_31 (Or.inl rfl) h
    · rw [if_neg c6] at h
      show GO S0 238 20 [vR 237, vI x1, vI x2, vI x3, vU, vU] [] I4 K
      refine G_loadI rc_238_20 rfl ?_
      refine G_const rc_238_21 (by decide) ?_
      refine G_const rc_238_22 (by decide) ?_
      refine G_call (as := [vI x3, vI 1, vI 4]) (rest := []) rc_238_23 rfl rfl rfl (Nat.le_of_ble_eq_true rfl) rfl ?_
      refine GO.imp h (fun v I7 h => ?_)
      obtain ⟨y8, rfl, h⟩ := h
      show GO S0 238 26 [vR 237, vI x1, vI x2, vI x3, vU, vU] [vI y8] I7 K
      refine G_i1 (C := ¬ y8 = 0) rc_238_26 rfl (fun c9 => ?_) (fun c9 => ?_)
      · rw [if_neg c9] at h
        show GO S0 238 32 [vR 237, vI x1, vI x2, vI x3, vU, vU] [] I7 K
        refine G_loadR rc_238_32 rfl ?_
        refine G_call (as := [vR 237]) (rest := []) rc_238_33 rfl rfl rfl (Nat.le_of_ble_eq_true rfl) (g_recv s0_237 rfl) ?_
        refine GO.imp h (fun v I10 h => ?_)
        obtain ⟨rfl, h⟩ := h
        show GO S0 238 36 [vR 237, vI x1, vI x2, vI x3, vU, vU] [] I10 K
        refine G_loadR rc_238_36 rfl ?_
        refine G_const rc_238_37 (by decide) ?_
        refine G_call (as := [vR 237, vI (-1)]) (rest := []) rc_238_38 rfl rfl rfl (Nat.le_of_ble_eq_true rfl) (g_recv s0_237 rfl) ?_
        refine GO.imp h (fun v I11 h => ?_)
        obtain ⟨y12, rfl, h⟩ := h
        show GO S0 238 41 [vR 237, vI x1, vI x2, vI x3, vU, vU] [vI y12] I11 K
        refine G_storeI rc_238_41 (Nat.le_of_ble_eq_true rfl) ?_
        show GO S0 238 43 [vR 237, vI x1, vI x2, vI x3, vI y12, vU] [] I11 K
        refine G_loadR rc_238_43 rfl ?_
        refine G_loadI rc_238_44 rfl ?_
        refine G_loadI rc_238_45 rfl ?_
        refine G_call (as := [vR 237, vI x1, vI x2]) (rest := []) rc_238_46 rfl rfl rfl (Nat.le_of_ble_eq_true rfl) (g_recv s0_237 rfl) ?_
        refine GO.imp h (fun v I13 h => ?_)
        obtain ⟨y14, rfl, h⟩ := h
        show GO S0 238 49 [vR 237, vI x1, vI x2, vI x3, vI y12, vU] [vI y14] I13 K
        refine G_pop rc_238_49 ?_
        refine G_loadR rc_238_50 rfl ?_
        refine G_loadI rc_238_51 rfl ?_
        refine G_call (as := [vR 237, vI x3]) (rest := []) rc_238_52 rfl rfl rfl (Nat.le_of_ble_eq_true rfl) (g_recv s0_237 rfl) ?_
        refine GO.imp h (fun v I15 h => ?_)
        obtain ⟨y16, rfl, h⟩ := h
        show GO S0 238 55 [vR 237, vI x1, vI x2, vI x3, vI y12, vU] [vI y16] I15 K
        refine G_pop rc_238_55 ?_
        refine G_loadR rc_238_56 rfl ?_
        refine G_const rc_238_57 (by decide) ?_
        refine G_call (as := [vR 237, vI 40]) (rest := []) rc_238_59 rfl rfl rfl (Nat.le_of_ble_eq_true rfl) (g_recv s0_237 rfl) ?_
        refine GO.imp h (fun v I17 h => ?_)
        obtain ⟨y18, rfl, h⟩ := h
        show GO S0 238 62 [vR 237, vI x1, vI x2, vI x3, vI y12, vU] [vI y18] I17 K
        refine G_pop rc_238_62 ?_
        refine G_loadI rc_238_63 rfl ?_
        refine G_loadR rc_238_65 rfl ?_
        refine G_const rc_238_66 (by decide) ?_
        refine G_call (as := [vR 237, vI (-1)]) (rest := [vI y12]) rc_238_67 rfl rfl rfl (Nat.le_of_ble_eq_true rfl) (g_recv s0_237 rfl) ?_
        refine GO.imp h (fun v I19 h => ?_)
        obtain ⟨y20, rfl, h⟩ := h
        show GO S0 238 70 [vR 237, vI x1, vI x2, vI x3, vI y12, vU] [vI y20, vI y12] I19 K
        obtain ⟨c21, h⟩ := h
        refine G_bop (z := y12 - y20) rc_238_70 (if_pos c21) ?_
        show GO S0 238 71 [vR 237, vI x1, vI x2, vI x3, vI y12, vU] [vI (y12 - y20)] I19 K
        refine G_storeI rc_238_71 (Nat.le_of_ble_eq_true rfl) ?_
        show GO S0 238 73 [vR 237, vI x1, vI x2, vI x3, vI y12, vI (y12 - y20)] [] I19 K
        refine G_loadI rc_238_73 rfl ?_
        refine G_i1 (C := y12 - y20 ≤ 0) rc_238_75 rfl (fun c22 => ?_) (fun c22 => ?_)
        · rw [if_pos c22] at h
          show GO S0 238 85 [vR 237, vI x1, vI x2, vI x3, vI y12, vI (y12 - y20)] [] I19 K
          refine G_loadR rc_238_85 rfl ?_
          refine G_call (as := [vR 237]) (rest := []) rc_238_86 rfl rfl rfl (Nat.le_of_ble_eq_true rfl) (g_recv s0_237 rfl) ?_
          refine GO.imp h (fun v I23 h => ?_)
          obtain ⟨rfl, h⟩ := h
          show GO S0 238 89 [vR 237, vI x1, vI x2, vI x3, vI y12, vI (y12 - y20)] [] I23 K
          exact g238_89 x1 x2 x3 y12 (y12 - y20) I23 K h
        · rw [if_neg c22] at h
          show GO S0 238 78 [vR 237, vI x1, vI x2, vI x3, vI y12, vI (y12 - y20)] [] I19 K
          refine G_loadR rc_238_78 rfl ?_
          refine G_call (as := [vR 237]) (rest := []) rc_238_79 rfl rfl rfl (Nat.le_of_ble_eq_true rfl) (g_recv s0_237 rfl) ?_
          refine GO.imp h (fun v I24 h => ?_)
          obtain ⟨rfl, h⟩ := h
          show GO S0 238 82 [vR 237, vI x1, vI x2, vI x3, vI y12, vI (y12 - y20)] [] I24 K
          refine G_goto rc_238_82 ?_
          show GO S0 238 89 [vR 237, vI x1, vI x2, vI x3, vI y12, vI (y12 - y20)] [] I24 K
          exact g238_89 x1 x2 x3 y12 (y12 - y20) I24 K h
      · rw [if_pos (Classical.not_not.mp c9)] at h
        show GO S0 238 29 [vR 237, vI x1, vI x2, vI x3, vU, vU] [] I7 K
        refine G_const rc_238_29 (by decide) ?_
        exact G_retI rc_238_31 (Or.inl rfl) h
  · rw [if_pos (Classical.not_not.mp c3)] at h
    show GO S0 238 8 [vR 237, vI x1, vI x2, vI x3, vU, vU] [] I1 K
    refine G_const rc_238_8 (by decide) ?_
    exact G_retI rc_238_9 (Or.inl rfl) h
/-! 239: RoundSlackModel.marksBack()V -/
def D239_2 (x1 : Int) (I : IM) (K : Option AV → IM → Prop) : Prop :=
  (if (52 : Int) ≤ x1 then (K none I) else ((inR (114 + x1)) ∧ (0 ≤ x1 ∧ x1 < 52) ∧ (0 ≤ 114 + x1 ∧ 114 + x1 < 166) ∧ ∀ I5 : IM, I5 = iup I 238 (114 + x1).toNat (I 247 (x1).toNat) → (inR (x1 + 1)) ∧ GO S0 239 2 [vR 237, vI (x1 + 1)] [] I5 K))
set_option maxRecDepth 10000 in
theorem g239_2 (x1 : Int) (I : IM) (K : Option AV → IM → Prop) (h : D239_2 x1 I K) : GO S0 239 2 [vR 237, vI x1] [] I K := by
  unfold D239_2 at h
  refine G_loadI rc_239_2 rfl ?_
  refine G_const rc_239_3 (by decide) ?_
  refine G_i2 (C := (52 : Int) ≤ x1) rc_239_5 rfl (fun c1 => ?_) (fun c1 => ?_)
  · rw [if_pos c1] at h
    show GO S0 239 29 [vR 237, vI x1] [] I K
    exact G_ret0 rc_239_29 h
  · rw [if_neg c1] at h
    show GO S0 239 8 [vR 237, vI x1] [] I K
    refine G_loadR rc_239_8 rfl ?_
    refine G_getR rc_239_9 s0_237 (by decide) rfl (by decide) ?_
    show GO S0 239 12 [vR 237, vI x1] [vR 238] I K
    refine G_const rc_239_12 (by decide) ?_
    refine G_loadI rc_239_14 rfl ?_
    obtain ⟨c2, h⟩ := h
    refine G_bop (z := 114 + x1) rc_239_15 (if_pos c2) ?_
    show GO S0 239 16 [vR 237, vI x1] [vI (114 + x1), vR 238] I K
    refine G_loadR rc_239_16 rfl ?_
    refine G_getR rc_239_17 s0_237 (by decide) rfl (by decide) ?_
    show GO S0 239 20 [vR 237, vI x1] [vR 247, vI (114 + x1), vR 238] I K
    refine G_loadI rc_239_20 rfl ?_
    obtain ⟨c3, h⟩ := h
    refine G_ald rc_239_21 s0_247 (by omega) (by omega) ?_
    show GO S0 239 22 [vR 237, vI x1] [vI (I 247 (x1).toNat), vI (114 + x1), vR 238] I K
    obtain ⟨c4, h⟩ := h
    refine G_ast rc_239_22 s0_238 (by omega) (by omega) (Or.inl rfl) ?_
    show GO S0 239 23 [vR 237, vI x1] [] (iup I 238 (114 + x1).toNat (I 247 (x1).toNat)) K
    have h := h _ rfl
    generalize iup I 238 (114 + x1).toNat (I 247 (x1).toNat) = I5 at h ⊢
    obtain ⟨c6, h⟩ := h
    refine G_iinc rc_239_23 rfl c6 ?_
    show GO S0 239 26 [vR 237, vI (x1 + 1)] [] I5 K
    refine G_goto rc_239_26 ?_
    show GO S0 239 2 [vR 237, vI (x1 + 1)] [] I5 K
    exact h
def D239_0 (I : IM) (K : Option AV → IM → Prop) : Prop :=
  GO S0 239 2 [vR 237, vI 0] [] I K
set_option maxRecDepth 10000 in
theorem g239_0 (I : IM) (K : Option AV → IM → Prop) (h : D239_0 I K) : GO S0 239 0 [vR 237, vU] [] I K := by
  unfold D239_0 at h
  refine G_const rc_239_0 (by decide) ?_
  refine G_storeI rc_239_1 (Nat.le_of_ble_eq_true rfl) ?_
  show GO S0 239 2 [vR 237, vI 0] [] I K
  exact h
/-! 240: RoundSlackModel.told(I)I -/
def D240_144 (x1 : Int) (t0 : Int) (t1 : Int) (I : IM) (K : Option AV → IM → Prop) : Prop :=
  CALL S0 132 [vR 237, vI 3] I (fun v I1 => ∃ y2 : Int, v = some (vI y2) ∧ (if y2 ≤ 0 then (K (some (vI (iorF (iorF t0 t1) 0))) I1) else (K (some (vI (iorF (iorF t0 t1) 8))) I1)))
set_option maxRecDepth 10000 in
theorem g240_144 (x1 : Int) (t0 : Int) (t1 : Int) (I : IM) (K : Option AV → IM → Prop) (h : D240_144 x1 t0 t1 I K) : GO S0 240 144 [vR 237, vI x1] [vI t1, vI t0] I K := by
  unfold D240_144 at h
  refine G_bop (z := iorF t0 t1) rc_240_144 rfl ?_
  show GO S0 240 145 [vR 237, vI x1] [vI (iorF t0 t1)] I K
  refine G_loadR rc_240_145 rfl ?_
  refine G_const rc_240_146 (by decide) ?_
  refine G_call (as := [vR 237, vI 3]) (rest := [vI (iorF t0 t1)]) rc_240_147 rfl rfl rfl (Nat.le_of_ble_eq_true rfl) (g_recv s0_237 rfl) ?_
  refine GO.imp h (fun v I1 h => ?_)
  obtain ⟨y2, rfl, h⟩ := h
  show GO S0 240 150 [vR 237, vI x1] [vI y2, vI (iorF t0 t1)] I1 K
  refine G_i1 (C := y2 ≤ 0) rc_240_150 rfl (fun c3 => ?_) (fun c3 => ?_)
  · rw [if_pos c3] at h
    show GO S0 240 158 [vR 237, vI x1] [vI (iorF t0 t1)] I1 K
    refine G_const rc_240_158 (by decide) ?_
    refine G_bop (z := iorF (iorF t0 t1) 0) rc_240_159 rfl ?_
    show GO S0 240 160 [vR 237, vI x1] [vI (iorF (iorF t0 t1) 0)] I1 K
    exact G_retI rc_240_160 (Or.inl rfl) h
  · rw [if_neg c3] at h
    show GO S0 240 153 [vR 237, vI x1] [vI (iorF t0 t1)] I1 K
    refine G_const rc_240_153 (by decide) ?_
    refine G_goto rc_240_155 ?_
    show GO S0 240 159 [vR 237, vI x1] [vI 8, vI (iorF t0 t1)] I1 K
    refine G_bop (z := iorF (iorF t0 t1) 8) rc_240_159 rfl ?_
    show GO S0 240 160 [vR 237, vI x1] [vI (iorF (iorF t0 t1) 8)] I1 K
    exact G_retI rc_240_160 (Or.inl rfl) h
def D240_130 (x1 : Int) (t0 : Int) (t1 : Int) (I : IM) (K : Option AV → IM → Prop) : Prop :=
  CALL S0 132 [vR 237, vI 2] I (fun v I1 => ∃ y2 : Int, v = some (vI y2) ∧ (if y2 ≤ 0 then (D240_144 x1 (iorF t0 t1) 0 I1 K) else (D240_144 x1 (iorF t0 t1) 4 I1 K)))
set_option maxRecDepth 10000 in
theorem g240_130 (x1 : Int) (t0 : Int) (t1 : Int) (I : IM) (K : Option AV → IM → Prop) (h : D240_130 x1 t0 t1 I K) : GO S0 240 130 [vR 237, vI x1] [vI t1, vI t0] I K := by
  unfold D240_130 at h
  refine G_bop (z := iorF t0 t1) rc_240_130 rfl ?_
  show GO S0 240 131 [vR 237, vI x1] [vI (iorF t0 t1)] I K
  refine G_loadR rc_240_131 rfl ?_
  refine G_const rc_240_132 (by decide) ?_
  refine G_call (as := [vR 237, vI 2]) (rest := [vI (iorF t0 t1)]) rc_240_133 rfl rfl rfl (Nat.le_of_ble_eq_true rfl) (g_recv s0_237 rfl) ?_
  refine GO.imp h (fun v I1 h => ?_)
  obtain ⟨y2, rfl, h⟩ := h
  show GO S0 240 136 [vR 237, vI x1] [vI y2, vI (iorF t0 t1)] I1 K
  refine G_i1 (C := y2 ≤ 0) rc_240_136 rfl (fun c3 => ?_) (fun c3 => ?_)
  · rw [if_pos c3] at h
    show GO S0 240 143 [vR 237, vI x1] [vI (iorF t0 t1)] I1 K
    refine G_const rc_240_143 (by decide) ?_
    exact g240_144 x1 (iorF t0 t1) 0 I1 K h
  · rw [if_neg c3] at h
    show GO S0 240 139 [vR 237, vI x1] [vI (iorF t0 t1)] I1 K
    refine G_const rc_240_139 (by decide) ?_
    refine G_goto rc_240_140 ?_
    show GO S0 240 144 [vR 237, vI x1] [vI 4, vI (iorF t0 t1)] I1 K
    exact g240_144 x1 (iorF t0 t1) 4 I1 K h
def D240_117 (x1 : Int) (t0 : Int) (I : IM) (K : Option AV → IM → Prop) : Prop :=
  CALL S0 132 [vR 237, vI 1] I (fun v I1 => ∃ y2 : Int, v = some (vI y2) ∧ (if y2 ≤ 0 then (D240_130 x1 t0 0 I1 K) else (D240_130 x1 t0 2 I1 K)))
set_option maxRecDepth 10000 in
theorem g240_117 (x1 : Int) (t0 : Int) (I : IM) (K : Option AV → IM → Prop) (h : D240_117 x1 t0 I K) : GO S0 240 117 [vR 237, vI x1] [vI t0] I K := by
  unfold D240_117 at h
  refine G_loadR rc_240_117 rfl ?_
  refine G_const rc_240_118 (by decide) ?_
  refine G_call (as := [vR 237, vI 1]) (rest := [vI t0]) rc_240_119 rfl rfl rfl (Nat.le_of_ble_eq_true rfl) (g_recv s0_237 rfl) ?_
  refine GO.imp h (fun v I1 h => ?_)
  obtain ⟨y2, rfl, h⟩ := h
  show GO S0 240 122 [vR 237, vI x1] [vI y2, vI t0] I1 K
  refine G_i1 (C := y2 ≤ 0) rc_240_122 rfl (fun c3 => ?_) (fun c3 => ?_)
  · rw [if_pos c3] at h
    show GO S0 240 129 [vR 237, vI x1] [vI t0] I1 K
    refine G_const rc_240_129 (by decide) ?_
    exact g240_130 x1 t0 0 I1 K h
  · rw [if_neg c3] at h
    show GO S0 240 125 [vR 237, vI x1] [vI t0] I1 K
    refine G_const rc_240_125 (by decide) ?_
    refine G_goto rc_240_126 ?_
    show GO S0 240 130 [vR 237, vI x1] [vI 2, vI t0] I1 K
    exact g240_130 x1 t0 2 I1 K h
def D240_0 (x1 : Int) (I : IM) (K : Option AV → IM → Prop) : Prop :=
  CALL S0 130 [vI x1, vI 20, vI 31] I (fun v I1 => ∃ y2 : Int, v = some (vI y2) ∧ (if y2 = 0 then ((if x1 = 0 then (K (some (vI (I1 238 5))) I1) else (if x1 = 1 then (CALL S0 241 [vR 237] I1 (fun v I6 => ∃ y7 : Int, v = some (vI y7) ∧ K (some (vI y7)) I6)) else (if x1 = 2 then (CALL S0 132 [vR 237, vI 0] I1 (fun v I9 => ∃ y10 : Int, v = some (vI y10) ∧ (if y10 ≤ 0 then (D240_117 x1 0 I9 K) else (D240_117 x1 1 I9 K)))) else (if x1 = 3 then (K (some (vI (I1 237 4))) I1) else (if x1 = 4 then (K (some (vI (I1 237 16))) I1) else (if x1 = 5 then (K (some (vI (I1 237 18))) I1) else (if x1 = 6 then ((inR (2 + x1)) ∧ (inR ((2 + x1) - 6)) ∧ (0 ≤ (2 + x1) - 6 ∧ (2 + x1) - 6 < 166) ∧ K (some (vI (I1 238 ((2 + x1) - 6).toNat))) I1) else (if x1 = 7 then ((inR (2 + x1)) ∧ (inR ((2 + x1) - 6)) ∧ (0 ≤ (2 + x1) - 6 ∧ (2 + x1) - 6 < 166) ∧ K (some (vI (I1 238 ((2 + x1) - 6).toNat))) I1) else (if x1 = 8 then ((inR (2 + x1)) ∧ (inR ((2 + x1) - 6)) ∧ (0 ≤ (2 + x1) - 6 ∧ (2 + x1) - 6 < 166) ∧ K (some (vI (I1 238 ((2 + x1) - 6).toNat))) I1) else (if x1 = 9 then ((inR (0 + x1)) ∧ (inR ((0 + x1) - 9)) ∧ (0 ≤ (0 + x1) - 9 ∧ (0 + x1) - 9 < 166) ∧ K (some (vI (I1 238 ((0 + x1) - 9).toNat))) I1) else (if x1 = 10 then ((inR (0 + x1)) ∧ (inR ((0 + x1) - 9)) ∧ (0 ≤ (0 + x1) - 9 ∧ (0 + x1) - 9 < 166) ∧ K (some (vI (I1 238 ((0 + x1) - 9).toNat))) I1) else (K (some (vI (-1))) I1))))))))))))) else ((inR (Int.tdiv x1 4)) ∧ (inR (3 * (Int.tmod x1 4))) ∧ (inR (102 + (3 * (Int.tmod x1 4)))) ∧ (inR (x1 - 20)) ∧ (inR (Int.tdiv (x1 - 20) 4)) ∧ (inR ((102 + (3 * (Int.tmod x1 4))) + (Int.tdiv (x1 - 20) 4))) ∧ (0 ≤ (102 + (3 * (Int.tmod x1 4))) + (Int.tdiv (x1 - 20) 4) ∧ (102 + (3 * (Int.tmod x1 4))) + (Int.tdiv (x1 - 20) 4) < 166) ∧ K (some (vI (I1 238 ((102 + (3 * (Int.tmod x1 4))) + (Int.tdiv (x1 - 20) 4)).toNat))) I1)))
set_option maxRecDepth 10000 in
theorem g240_0 (x1 : Int) (I : IM) (K : Option AV → IM → Prop) (h : D240_0 x1 I K) : GO S0 240 0 [vR 237, vI x1] [] I K := by
  unfold D240_0 at h
  refine G_loadI rc_240_0 rfl ?_
  refine G_const rc_240_1 (by decide) ?_
  refine G_const rc_240_3 (by decide) ?_
  refine G_call (as := [vI x1, vI 20, vI 31]) (rest := []) rc_240_5 rfl rfl rfl (Nat.le_of_ble_eq_true rfl) rfl ?_
  refine GO.imp h (fun v I1 h => ?_)
  obtain ⟨y2, rfl, h⟩ := h
  show GO S0 240 8 [vR 237, vI x1] [vI y2] I1 K
  refine G_i1 (C := y2 = 0) rc_240_8 rfl (fun c3 => ?_) (fun c3 => ?_)
  · rw [if_pos c3] at h
    show GO S0 240 32 [vR 237, vI x1] [] I1 K
    refine G_loadI rc_240_32 rfl ?_
    refine G_switch rc_240_33 ?_
    show GO S0 240 (if x1 = 0 then 92 else if x1 = 1 then 99 else if x1 = 2 then 104 else if x1 = 3 then 161 else if x1 = 4 then 166 else if x1 = 5 then 171 else if x1 = 6 then 176 else if x1 = 7 then 176 else if x1 = 8 then 176 else if x1 = 9 then 188 else if x1 = 10 then 188 else 200) [vR 237, vI x1] [] I1 K
    by_cases c4 : x1 = 0
    · rw [if_pos c4] at h
      rw [if_pos c4]
      show GO S0 240 92 [vR 237, vI x1] [] I1 K
      refine G_loadR rc_240_92 rfl ?_
      refine G_getR rc_240_93 s0_237 (by decide) rfl (by decide) ?_
      show GO S0 240 96 [vR 237, vI x1] [vR 238] I1 K
      refine G_const rc_240_96 (by decide) ?_
      refine G_ald rc_240_97 s0_238 (by decide) (by decide) ?_
      show GO S0 240 98 [vR 237, vI x1] [vI (I1 238 5)] I1 K
      exact G_retI rc_240_98 (Or.inl rfl) h
    · rw [if_neg c4] at h
      rw [if_neg c4]
      by_cases c5 : x1 = 1
      · rw [if_pos c5] at h
        rw [if_pos c5]
        show GO S0 240 99 [vR 237, vI x1] [] I1 K
        refine G_loadR rc_240_99 rfl ?_
        refine G_call (as := [vR 237]) (rest := []) rc_240_100 rfl rfl rfl (Nat.le_of_ble_eq_true rfl) (g_recv s0_237 rfl) ?_
        refine GO.imp h (fun v I6 h => ?_)
        obtain ⟨y7, rfl, h⟩ := h
        show GO S0 240 103 [vR 237, vI x1] [vI y7] I6 K
        exact G_retI rc_240_103 (Or.inl rfl) h
      · rw [if_neg c5] at h
        rw [if_neg c5]
        by_cases c8 : x1 = 2
        · rw [if_pos c8] at h
          rw [if_pos c8]
          show GO S0 240 104 [vR 237, vI x1] [] I1 K
          refine G_loadR rc_240_104 rfl ?_
          refine G_const rc_240_105 (by decide) ?_
          refine G_call (as := [vR 237, vI 0]) (rest := []) rc_240_106 rfl rfl rfl (Nat.le_of_ble_eq_true rfl) (g_recv s0_237 rfl) ?_
          refine GO.imp h (fun v I9 h => ?_)
          obtain ⟨y10, rfl, h⟩ := h
          show GO S0 240 109 [vR 237, vI x1] [vI y10] I9 K
          refine G_i1 (C := y10 ≤ 0) rc_240_109 rfl (fun c11 => ?_) (fun c11 => ?_)
          · rw [if_pos c11] at h
            show GO S0 240 116 [vR 237, vI x1] [] I9 K
            refine G_const rc_240_116 (by decide) ?_
            exact g240_117 x1 0 I9 K h
          · rw [if_neg c11] at h
            show GO S0 240 112 [vR 237, vI x1] [] I9 K
            refine G_const rc_240_112 (by decide) ?_
            refine G_goto rc_240_113 ?_
            show GO S0 240 117 [vR 237, vI x1] [vI 1] I9 K
            exact g240_117 x1 1 I9 K h
        · rw [if_neg c8] at h
          rw [if_neg c8]
          by_cases c12 : x1 = 3
          · rw [if_pos c12] at h
            rw [if_pos c12]
            show GO S0 240 161 [vR 237, vI x1] [] I1 K
            refine G_loadR rc_240_161 rfl ?_
            refine G_getI rc_240_162 s0_237 (by decide) ?_
            show GO S0 240 165 [vR 237, vI x1] [vI (I1 237 4)] I1 K
            exact G_retI rc_240_165 (Or.inl rfl) h
          · rw [if_neg c12] at h
            rw [if_neg c12]
            by_cases c13 : x1 = 4
            · rw [if_pos c13] at h
              rw [if_pos c13]
              show GO S0 240 166 [vR 237, vI x1] [] I1 K
              refine G_loadR rc_240_166 rfl ?_
              refine G_getI rc_240_167 s0_237 (by decide) ?_
              show GO S0 240 170 [vR 237, vI x1] [vI (I1 237 16)] I1 K
              exact G_retI rc_240_170 (Or.inl rfl) h
            · rw [if_neg c13] at h
              rw [if_neg c13]
              by_cases c14 : x1 = 5
              · rw [if_pos c14] at h
                rw [if_pos c14]
                show GO S0 240 171 [vR 237, vI x1] [] I1 K
                refine G_loadR rc_240_171 rfl ?_
                refine G_getI rc_240_172 s0_237 (by decide) ?_
                show GO S0 240 175 [vR 237, vI x1] [vI (I1 237 18)] I1 K
                exact G_retI rc_240_175 (Or.inl rfl) h
              · rw [if_neg c14] at h
                rw [if_neg c14]
                by_cases c15 : x1 = 6
                · rw [if_pos c15] at h
                  rw [if_pos c15]
                  show GO S0 240 176 [vR 237, vI x1] [] I1 K
                  refine G_loadR rc_240_176 rfl ?_
                  refine G_getR rc_240_177 s0_237 (by decide) rfl (by decide) ?_
                  show GO S0 240 180 [vR 237, vI x1] [vR 238] I1 K
                  refine G_const rc_240_180 (by decide) ?_
                  refine G_loadI rc_240_181 rfl ?_
                  obtain ⟨c16, h⟩ := h
                  refine G_bop (z := 2 + x1) rc_240_182 (if_pos c16) ?_
                  show GO S0 240 183 [vR 237, vI x1] [vI (2 + x1), vR 238] I1 K
                  refine G_const rc_240_183 (by decide) ?_
                  obtain ⟨c17, h⟩ := h
                  refine G_bop (z := (2 + x1) - 6) rc_240_185 (if_pos c17) ?_
                  show GO S0 240 186 [vR 237, vI x1] [vI ((2 + x1) - 6), vR 238] I1 K
                  obtain ⟨c18, h⟩ := h
                  refine G_ald rc_240_186 s0_238 (by omega) (by omega) ?_
                  show GO S0 240 187 [vR 237, vI x1] [vI (I1 238 ((2 + x1) - 6).toNat)] I1 K
                  exact G_retI rc_240_187 (Or.inl rfl) h
                · rw [if_neg c15] at h
                  rw [if_neg c15]
                  by_cases c19 : x1 = 7
                  · rw [if_pos c19] at h
                    rw [if_pos c19]
                    show GO S0 240 176 [vR 237, vI x1] [] I1 K
                    refine G_loadR rc_240_176 rfl ?_
                    refine G_getR rc_240_177 s0_237 (by decide) rfl (by decide) ?_
                    show GO S0 240 180 [vR 237, vI x1] [vR 238] I1 K
                    refine G_const rc_240_180 (by decide) ?_
                    refine G_loadI rc_240_181 rfl ?_
                    obtain ⟨c20, h⟩ := h
                    refine G_bop (z := 2 + x1) rc_240_182 (if_pos c20) ?_
                    show GO S0 240 183 [vR 237, vI x1] [vI (2 + x1), vR 238] I1 K
                    refine G_const rc_240_183 (by decide) ?_
                    obtain ⟨c21, h⟩ := h
                    refine G_bop (z := (2 + x1) - 6) rc_240_185 (if_pos c21) ?_
                    show GO S0 240 186 [vR 237, vI x1] [vI ((2 + x1) - 6), vR 238] I1 K
                    obtain ⟨c22, h⟩ := h
                    refine G_ald rc_240_186 s0_238 (by omega) (by omega) ?_
                    show GO S0 240 187 [vR 237, vI x1] [vI (I1 238 ((2 + x1) - 6).toNat)] I1 K
                    exact G_retI rc_240_187 (Or.inl rfl) h
                  · rw [if_neg c19] at h
                    rw [if_neg c19]
                    by_cases c23 : x1 = 8
                    · rw [if_pos c23] at h
                      rw [if_pos c23]
                      show GO S0 240 176 [vR 237, vI x1] [] I1 K
                      refine G_loadR rc_240_176 rfl ?_
                      refine G_getR rc_240_177 s0_237 (by decide) rfl (by decide) ?_
                      show GO S0 240 180 [vR 237, vI x1] [vR 238] I1 K
                      refine G_const rc_240_180 (by decide) ?_
                      refine G_loadI rc_240_181 rfl ?_
                      obtain ⟨c24, h⟩ := h
                      refine G_bop (z := 2 + x1) rc_240_182 (if_pos c24) ?_
                      show GO S0 240 183 [vR 237, vI x1] [vI (2 + x1), vR 238] I1 K
                      refine G_const rc_240_183 (by decide) ?_
                      obtain ⟨c25, h⟩ := h
                      refine G_bop (z := (2 + x1) - 6) rc_240_185 (if_pos c25) ?_
                      show GO S0 240 186 [vR 237, vI x1] [vI ((2 + x1) - 6), vR 238] I1 K
                      obtain ⟨c26, h⟩ := h
                      refine G_ald rc_240_186 s0_238 (by omega) (by omega) ?_
                      show GO S0 240 187 [vR 237, vI x1] [vI (I1 238 ((2 + x1) - 6).toNat)] I1 K
                      exact G_retI rc_240_187 (Or.inl rfl) h
                    · rw [if_neg c23] at h
                      rw [if_neg c23]
                      by_cases c27 : x1 = 9
                      · rw [if_pos c27] at h
                        rw [if_pos c27]
                        show GO S0 240 188 [vR 237, vI x1] [] I1 K
                        refine G_loadR rc_240_188 rfl ?_
                        refine G_getR rc_240_189 s0_237 (by decide) rfl (by decide) ?_
                        show GO S0 240 192 [vR 237, vI x1] [vR 238] I1 K
                        refine G_const rc_240_192 (by decide) ?_
                        refine G_loadI rc_240_193 rfl ?_
                        obtain ⟨c28, h⟩ := h
                        refine G_bop (z := 0 + x1) rc_240_194 (if_pos c28) ?_
                        show GO S0 240 195 [vR 237, vI x1] [vI (0 + x1), vR 238] I1 K
                        refine G_const rc_240_195 (by decide) ?_
                        obtain ⟨c29, h⟩ := h
                        refine G_bop (z := (0 + x1) - 9) rc_240_197 (if_pos c29) ?_
                        show GO S0 240 198 [vR 237, vI x1] [vI ((0 + x1) - 9), vR 238] I1 K
                        obtain ⟨c30, h⟩ := h
                        refine G_ald rc_240_198 s0_238 (by omega) (by omega) ?_
                        show GO S0 240 199 [vR 237, vI x1] [vI (I1 238 ((0 + x1) - 9).toNat)] I1 K
                        exact G_retI rc_240_199 (Or.inl rfl) h
                      · rw [if_neg c27] at h
                        rw [if_neg c27]
                        by_cases c31 : x1 = 10
                        · rw [if_pos c31] at h
                          rw [if_pos c31]
                          show GO S0 240 188 [vR 237, vI x1] [] I1 K
                          refine G_loadR rc_240_188 rfl ?_
                          refine G_getR rc_240_189 s0_237 (by decide) rfl (by decide) ?_
                          show GO S0 240 192 [vR 237, vI x1] [vR 238] I1 K
                          refine G_const rc_240_192 (by decide) ?_
                          refine G_loadI rc_240_193 rfl ?_
                          obtain ⟨c32, h⟩ := h
                          refine G_bop (z := 0 + x1) rc_240_194 (if_pos c32) ?_
                          show GO S0 240 195 [vR 237, vI x1] [vI (0 + x1), vR 238] I1 K
                          refine G_const rc_240_195 (by decide) ?_
                          obtain ⟨c33, h⟩ := h
                          refine G_bop (z := (0 + x1) - 9) rc_240_197 (if_pos c33) ?_
                          show GO S0 240 198 [vR 237, vI x1] [vI ((0 + x1) - 9), vR 238] I1 K
                          obtain ⟨c34, h⟩ := h
                          refine G_ald rc_240_198 s0_238 (by omega) (by omega) ?_
                          show GO S0 240 199 [vR 237, vI x1] [vI (I1 238 ((0 + x1) - 9).toNat)] I1 K
                          exact G_retI rc_240_199 (Or.inl rfl) h
                        · rw [if_neg c31] at h
                          rw [if_neg c31]
                          show GO S0 240 200 [vR 237, vI x1] [] I1 K
                          refine G_const rc_240_200 (by decide) ?_
                          exact G_retI rc_240_201 (Or.inl rfl) h
  · rw [if_neg c3] at h
    show GO S0 240 11 [vR 237, vI x1] [] I1 K
    refine G_loadR rc_240_11 rfl ?_
    refine G_getR rc_240_12 s0_237 (by decide) rfl (by decide) ?_
    show GO S0 240 15 [vR 237, vI x1] [vR 238] I1 K
    refine G_const rc_240_15 (by decide) ?_
    refine G_const rc_240_17 (by decide) ?_
    refine G_loadI rc_240_18 rfl ?_
    refine G_const rc_240_19 (by decide) ?_
    obtain ⟨c35, h⟩ := h
    refine G_bop (z := Int.tmod x1 4) rc_240_20 (show (if (4 : Int) ≠ 0 ∧ inR (Int.tdiv x1 4) then some (Int.tmod x1 4) else none) = some (Int.tmod x1 4) from if_pos ⟨by decide, c35⟩) ?_
    show GO S0 240 21 [vR 237, vI x1] [vI (Int.tmod x1 4), vI 3, vI 102, vR 238] I1 K
    obtain ⟨c36, h⟩ := h
    refine G_bop (z := 3 * (Int.tmod x1 4)) rc_240_21 (if_pos c36) ?_
    show GO S0 240 22 [vR 237, vI x1] [vI (3 * (Int.tmod x1 4)), vI 102, vR 238] I1 K
    obtain ⟨c37, h⟩ := h
    refine G_bop (z := 102 + (3 * (Int.tmod x1 4))) rc_240_22 (if_pos c37) ?_
    show GO S0 240 23 [vR 237, vI x1] [vI (102 + (3 * (Int.tmod x1 4))), vR 238] I1 K
    refine G_loadI rc_240_23 rfl ?_
    refine G_const rc_240_24 (by decide) ?_
    obtain ⟨c38, h⟩ := h
    refine G_bop (z := x1 - 20) rc_240_26 (if_pos c38) ?_
    show GO S0 240 27 [vR 237, vI x1] [vI (x1 - 20), vI (102 + (3 * (Int.tmod x1 4))), vR 238] I1 K
    refine G_const rc_240_27 (by decide) ?_
    obtain ⟨c39, h⟩ := h
    refine G_bop (z := Int.tdiv (x1 - 20) 4) rc_240_28 (show (if (4 : Int) ≠ 0 ∧ inR (Int.tdiv (x1 - 20) 4) then some (Int.tdiv (x1 - 20) 4) else none) = some (Int.tdiv (x1 - 20) 4) from if_pos ⟨by decide, c39⟩) ?_
    show GO S0 240 29 [vR 237, vI x1] [vI (Int.tdiv (x1 - 20) 4), vI (102 + (3 * (Int.tmod x1 4))), vR 238] I1 K
    obtain ⟨c40, h⟩ := h
    refine G_bop (z := (102 + (3 * (Int.tmod x1 4))) + (Int.tdiv (x1 - 20) 4)) rc_240_29 (if_pos c40) ?_
    show GO S0 240 30 [vR 237, vI x1] [vI ((102 + (3 * (Int.tmod x1 4))) + (Int.tdiv (x1 - 20) 4)), vR 238] I1 K
    obtain ⟨c41, h⟩ := h
    refine G_ald rc_240_30 s0_238 (by omega) (by omega) ?_
    show GO S0 240 31 [vR 237, vI x1] [vI (I1 238 ((102 + (3 * (Int.tmod x1 4))) + (Int.tdiv (x1 - 20) 4)).toNat)] I1 K
    exact G_retI rc_240_31 (Or.inl rfl) h
/-! 241: RoundSlackModel.leftMany()I -/
def D241_0 (I : IM) (K : Option AV → IM → Prop) : Prop :=
  CALL S0 132 [vR 237, vI 0] I (fun v I1 => ∃ y2 : Int, v = some (vI y2) ∧ (inR ((I 238 5) - y2)) ∧ CALL S0 132 [vR 237, vI 1] I1 (fun v I4 => ∃ y5 : Int, v = some (vI y5) ∧ (inR (((I 238 5) - y2) - y5)) ∧ CALL S0 132 [vR 237, vI 2] I4 (fun v I7 => ∃ y8 : Int, v = some (vI y8) ∧ (inR ((((I 238 5) - y2) - y5) - y8)) ∧ CALL S0 132 [vR 237, vI 3] I7 (fun v I10 => ∃ y11 : Int, v = some (vI y11) ∧ (inR (((((I 238 5) - y2) - y5) - y8) - y11)) ∧ K (some (vI (((((I 238 5) - y2) - y5) - y8) - y11))) I10))))
set_option maxRecDepth 10000 in
theorem g241_0 (I : IM) (K : Option AV → IM → Prop) (h : D241_0 I K) : GO S0 241 0 [vR 237] [] I K := by
  unfold D241_0 at h
  refine G_loadR rc_241_0 rfl ?_
  refine G_getR rc_241_1 s0_237 (by decide) rfl (by decide) ?_
  show GO S0 241 4 [vR 237] [vR 238] I K
  refine G_const rc_241_4 (by decide) ?_
  refine G_ald rc_241_5 s0_238 (by decide) (by decide) ?_
  show GO S0 241 6 [vR 237] [vI (I 238 5)] I K
  refine G_loadR rc_241_6 rfl ?_
  refine G_const rc_241_7 (by decide) ?_
  refine G_call (as := [vR 237, vI 0]) (rest := [vI (I 238 5)]) rc_241_8 rfl rfl rfl (Nat.le_of_ble_eq_true rfl) (g_recv s0_237 rfl) ?_
  refine GO.imp h (fun v I1 h => ?_)
  obtain ⟨y2, rfl, h⟩ := h
  show GO S0 241 11 [vR 237] [vI y2, vI (I 238 5)] I1 K
  obtain ⟨c3, h⟩ := h
  refine G_bop (z := (I 238 5) - y2) rc_241_11 (if_pos c3) ?_
  show GO S0 241 12 [vR 237] [vI ((I 238 5) - y2)] I1 K
  refine G_loadR rc_241_12 rfl ?_
  refine G_const rc_241_13 (by decide) ?_
  refine G_call (as := [vR 237, vI 1]) (rest := [vI ((I 238 5) - y2)]) rc_241_14 rfl rfl rfl (Nat.le_of_ble_eq_true rfl) (g_recv s0_237 rfl) ?_
  refine GO.imp h (fun v I4 h => ?_)
  obtain ⟨y5, rfl, h⟩ := h
  show GO S0 241 17 [vR 237] [vI y5, vI ((I 238 5) - y2)] I4 K
  obtain ⟨c6, h⟩ := h
  refine G_bop (z := ((I 238 5) - y2) - y5) rc_241_17 (if_pos c6) ?_
  show GO S0 241 18 [vR 237] [vI (((I 238 5) - y2) - y5)] I4 K
  refine G_loadR rc_241_18 rfl ?_
  refine G_const rc_241_19 (by decide) ?_
  refine G_call (as := [vR 237, vI 2]) (rest := [vI (((I 238 5) - y2) - y5)]) rc_241_20 rfl rfl rfl (Nat.le_of_ble_eq_true rfl) (g_recv s0_237 rfl) ?_
  refine GO.imp h (fun v I7 h => ?_)
  obtain ⟨y8, rfl, h⟩ := h
  show GO S0 241 23 [vR 237] [vI y8, vI (((I 238 5) - y2) - y5)] I7 K
  obtain ⟨c9, h⟩ := h
  refine G_bop (z := (((I 238 5) - y2) - y5) - y8) rc_241_23 (if_pos c9) ?_
  show GO S0 241 24 [vR 237] [vI ((((I 238 5) - y2) - y5) - y8)] I7 K
  refine G_loadR rc_241_24 rfl ?_
  refine G_const rc_241_25 (by decide) ?_
  refine G_call (as := [vR 237, vI 3]) (rest := [vI ((((I 238 5) - y2) - y5) - y8)]) rc_241_26 rfl rfl rfl (Nat.le_of_ble_eq_true rfl) (g_recv s0_237 rfl) ?_
  refine GO.imp h (fun v I10 h => ?_)
  obtain ⟨y11, rfl, h⟩ := h
  show GO S0 241 29 [vR 237] [vI y11, vI ((((I 238 5) - y2) - y5) - y8)] I10 K
  obtain ⟨c12, h⟩ := h
  refine G_bop (z := ((((I 238 5) - y2) - y5) - y8) - y11) rc_241_29 (if_pos c12) ?_
  show GO S0 241 30 [vR 237] [vI (((((I 238 5) - y2) - y5) - y8) - y11)] I10 K
  exact G_retI rc_241_30 (Or.inl rfl) h
/-! 242: RoundSlackModel.row(II)I -/
def D242_34 (x1 : Int) (x2 : Int) (x3 : Int) (I : IM) (K : Option AV → IM → Prop) : Prop :=
  (if x2 ≤ x3 then (K (some (vI 1)) I) else ((inR (40 * x1)) ∧ (inR ((40 * x1) + x3)) ∧ (0 ≤ (40 * x1) + x3 ∧ (40 * x1) + x3 < 160) ∧ ∀ I5 : IM, I5 = iup I 251 ((40 * x1) + x3).toNat 0 → (inR (x3 + 1)) ∧ GO S0 242 34 [vR 237, vI x1, vI x2, vI (x3 + 1)] [] I5 K))
set_option maxRecDepth 10000 in
theorem g242_34 (x1 : Int) (x2 : Int) (x3 : Int) (I : IM) (K : Option AV → IM → Prop) (h : D242_34 x1 x2 x3 I K) : GO S0 242 34 [vR 237, vI x1, vI x2, vI x3] [] I K := by
  unfold D242_34 at h
  refine G_loadI rc_242_34 rfl ?_
  refine G_loadI rc_242_35 rfl ?_
  refine G_i2 (C := x2 ≤ x3) rc_242_36 rfl (fun c1 => ?_) (fun c1 => ?_)
  · rw [if_pos c1] at h
    show GO S0 242 57 [vR 237, vI x1, vI x2, vI x3] [] I K
    refine G_const rc_242_57 (by decide) ?_
    exact G_retI rc_242_58 (Or.inl rfl) h
  · rw [if_neg c1] at h
    show GO S0 242 39 [vR 237, vI x1, vI x2, vI x3] [] I K
    refine G_loadR rc_242_39 rfl ?_
    refine G_getR rc_242_40 s0_237 (by decide) rfl (by decide) ?_
    show GO S0 242 43 [vR 237, vI x1, vI x2, vI x3] [vR 251] I K
    refine G_const rc_242_43 (by decide) ?_
    refine G_loadI rc_242_45 rfl ?_
    obtain ⟨c2, h⟩ := h
    refine G_bop (z := 40 * x1) rc_242_46 (if_pos c2) ?_
    show GO S0 242 47 [vR 237, vI x1, vI x2, vI x3] [vI (40 * x1), vR 251] I K
    refine G_loadI rc_242_47 rfl ?_
    obtain ⟨c3, h⟩ := h
    refine G_bop (z := (40 * x1) + x3) rc_242_48 (if_pos c3) ?_
    show GO S0 242 49 [vR 237, vI x1, vI x2, vI x3] [vI ((40 * x1) + x3), vR 251] I K
    refine G_const rc_242_49 (by decide) ?_
    obtain ⟨c4, h⟩ := h
    refine G_ast rc_242_50 s0_251 (by omega) (by omega) (Or.inl rfl) ?_
    show GO S0 242 51 [vR 237, vI x1, vI x2, vI x3] [] (iup I 251 ((40 * x1) + x3).toNat 0) K
    have h := h _ rfl
    generalize iup I 251 ((40 * x1) + x3).toNat 0 = I5 at h ⊢
    obtain ⟨c6, h⟩ := h
    refine G_iinc rc_242_51 rfl c6 ?_
    show GO S0 242 54 [vR 237, vI x1, vI x2, vI (x3 + 1)] [] I5 K
    refine G_goto rc_242_54 ?_
    show GO S0 242 34 [vR 237, vI x1, vI x2, vI (x3 + 1)] [] I5 K
    exact h
def D242_0 (x1 : Int) (x2 : Int) (I : IM) (K : Option AV → IM → Prop) : Prop :=
  CALL S0 243 [vI x1] I (fun v I1 => ∃ y2 : Int, v = some (vI y2) ∧ (if y2 = 0 then (K (some (vI (-1))) I1) else ((if x2 ≤ 40 then ((if (0 : Int) ≤ x2 then ((0 ≤ x1 ∧ x1 < 4) ∧ ∀ I7 : IM, I7 = iup I1 250 (x1).toNat x2 → GO S0 242 34 [vR 237, vI x1, vI x2, vI 0] [] I7 K) else (K (some (vI (-14))) I1))) else (K (some (vI (-2))) I1)))))
set_option maxRecDepth 10000 in
theorem g242_0 (x1 : Int) (x2 : Int) (I : IM) (K : Option AV → IM → Prop) (h : D242_0 x1 x2 I K) : GO S0 242 0 [vR 237, vI x1, vI x2, vU] [] I K := by
  unfold D242_0 at h
  refine G_loadI rc_242_0 rfl ?_
  refine G_call (as := [vI x1]) (rest := []) rc_242_1 rfl rfl rfl (Nat.le_of_ble_eq_true rfl) rfl ?_
  refine GO.imp h (fun v I1 h => ?_)
  obtain ⟨y2, rfl, h⟩ := h
  show GO S0 242 4 [vR 237, vI x1, vI x2, vU] [vI y2] I1 K
  refine G_i1 (C := ¬ y2 = 0) rc_242_4 rfl (fun c3 => ?_) (fun c3 => ?_)
  · rw [if_neg c3] at h
    show GO S0 242 9 [vR 237, vI x1, vI x2, vU] [] I1 K
    refine G_loadI rc_242_9 rfl ?_
    refine G_const rc_242_10 (by decide) ?_
    refine G_i2 (C := x2 ≤ 40) rc_242_12 rfl (fun c4 => ?_) (fun c4 => ?_)
    · rw [if_pos c4] at h
      show GO S0 242 18 [vR 237, vI x1, vI x2, vU] [] I1 K
      refine G_loadI rc_242_18 rfl ?_
      refine G_i1 (C := (0 : Int) ≤ x2) rc_242_19 rfl (fun c5 => ?_) (fun c5 => ?_)
      · rw [if_pos c5] at h
        show GO S0 242 25 [vR 237, vI x1, vI x2, vU] [] I1 K
        refine G_loadR rc_242_25 rfl ?_
        refine G_getR rc_242_26 s0_237 (by decide) rfl (by decide) ?_
        show GO S0 242 29 [vR 237, vI x1, vI x2, vU] [vR 250] I1 K
        refine G_loadI rc_242_29 rfl ?_
        refine G_loadI rc_242_30 rfl ?_
        obtain ⟨c6, h⟩ := h
        refine G_ast rc_242_31 s0_250 (by omega) (by omega) (Or.inl rfl) ?_
        show GO S0 242 32 [vR 237, vI x1, vI x2, vU] [] (iup I1 250 (x1).toNat x2) K
        have h := h _ rfl
        generalize iup I1 250 (x1).toNat x2 = I7 at h ⊢
        refine G_const rc_242_32 (by decide) ?_
        refine G_storeI rc_242_33 (Nat.le_of_ble_eq_true rfl) ?_
        show GO S0 242 34 [vR 237, vI x1, vI x2, vI 0] [] I7 K
        exact h
      · rw [if_neg c5] at h
        show GO S0 242 22 [vR 237, vI x1, vI x2, vU] [] I1 K
        refine G_const rc_242_22 (by decide) ?_
        exact G_retI rc_242_24 (Or.inl rfl) h
    · rw [if_neg c4] at h
      show GO S0 242 15 [vR 237, vI x1, vI x2, vU] [] I1 K
      refine G_const rc_242_15 (by decide) ?_
      exact G_retI rc_242_17 (Or.inl rfl) h
  · rw [if_pos (Classical.not_not.mp c3)] at h
    show GO S0 242 7 [vR 237, vI x1, vI x2, vU] [] I1 K
    refine G_const rc_242_7 (by decide) ?_
    exact G_retI rc_242_8 (Or.inl rfl) h
/-! 243: RoundSlackModel.isRow(I)Z -/
def D243_0 (x0 : Int) (I : IM) (K : Option AV → IM → Prop) : Prop :=
  CALL S0 130 [vI x0, vI 0, vI 3] I (fun v I1 => ∃ y2 : Int, v = some (vI y2) ∧ (y2 = 0 ∨ y2 = 1) ∧ K (some (vI y2)) I1)
set_option maxRecDepth 10000 in
theorem g243_0 (x0 : Int) (I : IM) (K : Option AV → IM → Prop) (h : D243_0 x0 I K) : GO S0 243 0 [vI x0] [] I K := by
  unfold D243_0 at h
  refine G_loadI rc_243_0 rfl ?_
  refine G_const rc_243_1 (by decide) ?_
  refine G_const rc_243_2 (by decide) ?_
  refine G_call (as := [vI x0, vI 0, vI 3]) (rest := []) rc_243_3 rfl rfl rfl (Nat.le_of_ble_eq_true rfl) rfl ?_
  refine GO.imp h (fun v I1 h => ?_)
  obtain ⟨y2, rfl, h⟩ := h
  show GO S0 243 6 [vI x0] [vI y2] I1 K
  obtain ⟨c3, h⟩ := h
  exact G_retI rc_243_6 (Or.inr c3) h
/-! 244: RoundSlackModel.set(III)I -/
def D244_0 (x1 : Int) (x2 : Int) (x3 : Int) (I : IM) (K : Option AV → IM → Prop) : Prop :=
  CALL S0 243 [vI x1] I (fun v I1 => ∃ y2 : Int, v = some (vI y2) ∧ (if y2 = 0 then (K (some (vI (-1))) I1) else ((0 ≤ x1 ∧ x1 < 4) ∧ (if (0 : Int) ≤ I1 250 (x1).toNat then ((inR ((I1 250 (x1).toNat) - 1)) ∧ CALL S0 130 [vI x2, vI 0, vI ((I1 250 (x1).toNat) - 1)] I1 (fun v I7 => ∃ y8 : Int, v = some (vI y8) ∧ (if y8 = 0 then (K (some (vI (-13))) I7) else ((inR (40 * x1)) ∧ (inR ((40 * x1) + x2)) ∧ (0 ≤ (40 * x1) + x2 ∧ (40 * x1) + x2 < 160) ∧ ∀ I13 : IM, I13 = iup I7 251 ((40 * x1) + x2).toNat x3 → K (some (vI 1)) I13)))) else (K (some (vI (-11))) I1)))))
set_option maxRecDepth 10000 in
theorem g244_0 (x1 : Int) (x2 : Int) (x3 : Int) (I : IM) (K : Option AV → IM → Prop) (h : D244_0 x1 x2 x3 I K) : GO S0 244 0 [vR 237, vI x1, vI x2, vI x3] [] I K := by
  unfold D244_0 at h
  refine G_loadI rc_244_0 rfl ?_
  refine G_call (as := [vI x1]) (rest := []) rc_244_1 rfl rfl rfl (Nat.le_of_ble_eq_true rfl) rfl ?_
  refine GO.imp h (fun v I1 h => ?_)
  obtain ⟨y2, rfl, h⟩ := h
  show GO S0 244 4 [vR 237, vI x1, vI x2, vI x3] [vI y2] I1 K
  refine G_i1 (C := ¬ y2 = 0) rc_244_4 rfl (fun c3 => ?_) (fun c3 => ?_)
  · rw [if_neg c3] at h
    show GO S0 244 9 [vR 237, vI x1, vI x2, vI x3] [] I1 K
    refine G_loadR rc_244_9 rfl ?_
    refine G_getR rc_244_10 s0_237 (by decide) rfl (by decide) ?_
    show GO S0 244 13 [vR 237, vI x1, vI x2, vI x3] [vR 250] I1 K
    refine G_loadI rc_244_13 rfl ?_
    obtain ⟨c4, h⟩ := h
    refine G_ald rc_244_14 s0_250 (by omega) (by omega) ?_
    show GO S0 244 15 [vR 237, vI x1, vI x2, vI x3] [vI (I1 250 (x1).toNat)] I1 K
    refine G_i1 (C := (0 : Int) ≤ I1 250 (x1).toNat) rc_244_15 rfl (fun c5 => ?_) (fun c5 => ?_)
    · rw [if_pos c5] at h
      show GO S0 244 21 [vR 237, vI x1, vI x2, vI x3] [] I1 K
      refine G_loadI rc_244_21 rfl ?_
      refine G_const rc_244_22 (by decide) ?_
      refine G_loadR rc_244_23 rfl ?_
      refine G_getR rc_244_24 s0_237 (by decide) rfl (by decide) ?_
      show GO S0 244 27 [vR 237, vI x1, vI x2, vI x3] [vR 250, vI 0, vI x2] I1 K
      refine G_loadI rc_244_27 rfl ?_
      refine G_ald rc_244_28 s0_250 (by omega) (by omega) ?_
      show GO S0 244 29 [vR 237, vI x1, vI x2, vI x3] [vI (I1 250 (x1).toNat), vI 0, vI x2] I1 K
      refine G_const rc_244_29 (by decide) ?_
      obtain ⟨c6, h⟩ := h
      refine G_bop (z := (I1 250 (x1).toNat) - 1) rc_244_30 (if_pos c6) ?_
      show GO S0 244 31 [vR 237, vI x1, vI x2, vI x3] [vI ((I1 250 (x1).toNat) - 1), vI 0, vI x2] I1 K
      refine G_call (as := [vI x2, vI 0, vI ((I1 250 (x1).toNat) - 1)]) (rest := []) rc_244_31 rfl rfl rfl (Nat.le_of_ble_eq_true rfl) rfl ?_
      refine GO.imp h (fun v I7 h => ?_)
      obtain ⟨y8, rfl, h⟩ := h
      show GO S0 244 34 [vR 237, vI x1, vI x2, vI x3] [vI y8] I7 K
      refine G_i1 (C := ¬ y8 = 0) rc_244_34 rfl (fun c9 => ?_) (fun c9 => ?_)
      · rw [if_neg c9] at h
        show GO S0 244 40 [vR 237, vI x1, vI x2, vI x3] [] I7 K
        refine G_loadR rc_244_40 rfl ?_
        refine G_getR rc_244_41 s0_237 (by decide) rfl (by decide) ?_
        show GO S0 244 44 [vR 237, vI x1, vI x2, vI x3] [vR 251] I7 K
        refine G_const rc_244_44 (by decide) ?_
        refine G_loadI rc_244_46 rfl ?_
        obtain ⟨c10, h⟩ := h
        refine G_bop (z := 40 * x1) rc_244_47 (if_pos c10) ?_
        show GO S0 244 48 [vR 237, vI x1, vI x2, vI x3] [vI (40 * x1), vR 251] I7 K
        refine G_loadI rc_244_48 rfl ?_
        obtain ⟨c11, h⟩ := h
        refine G_bop (z := (40 * x1) + x2) rc_244_49 (if_pos c11) ?_
        show GO S0 244 50 [vR 237, vI x1, vI x2, vI x3] [vI ((40 * x1) + x2), vR 251] I7 K
        refine G_loadI rc_244_50 rfl ?_
        obtain ⟨c12, h⟩ := h
        refine G_ast rc_244_51 s0_251 (by omega) (by omega) (Or.inl rfl) ?_
        show GO S0 244 52 [vR 237, vI x1, vI x2, vI x3] [] (iup I7 251 ((40 * x1) + x2).toNat x3) K
        have h := h _ rfl
        generalize iup I7 251 ((40 * x1) + x2).toNat x3 = I13 at h ⊢
        refine G_const rc_244_52 (by decide) ?_
        exact G_retI rc_244_53 (Or.inl rfl) h
      · rw [if_pos (Classical.not_not.mp c9)] at h
        show GO S0 244 37 [vR 237, vI x1, vI x2, vI x3] [] I7 K
        refine G_const rc_244_37 (by decide) ?_
        exact G_retI rc_244_39 (Or.inl rfl) h
    · rw [if_neg c5] at h
      show GO S0 244 18 [vR 237, vI x1, vI x2, vI x3] [] I1 K
      refine G_const rc_244_18 (by decide) ?_
      exact G_retI rc_244_20 (Or.inl rfl) h
  · rw [if_pos (Classical.not_not.mp c3)] at h
    show GO S0 244 7 [vR 237, vI x1, vI x2, vI x3] [] I1 K
    refine G_const rc_244_7 (by decide) ?_
    exact G_retI rc_244_8 (Or.inl rfl) h
/-! 245: RoundSlackModel.get(II)J -/
def D245_0 (x1 : Int) (x2 : Int) (I : IM) (K : Option AV → IM → Prop) : Prop :=
  CALL S0 243 [vI x1] I (fun v I1 => ∃ y2 : Int, v = some (vI y2) ∧ (if y2 = 0 then (K (some (vL (-9223372036854775808))) I1) else ((0 ≤ x1 ∧ x1 < 4) ∧ (inR ((I1 250 (x1).toNat) - 1)) ∧ CALL S0 130 [vI x2, vI 0, vI ((I1 250 (x1).toNat) - 1)] I1 (fun v I6 => ∃ y7 : Int, v = some (vI y7) ∧ (if y7 = 0 then (K (some (vL (-9223372036854775808))) I6) else ((inR (40 * x1)) ∧ (inR ((40 * x1) + x2)) ∧ (0 ≤ (40 * x1) + x2 ∧ (40 * x1) + x2 < 160) ∧ K (some (vL (I6 251 ((40 * x1) + x2).toNat))) I6))))))
set_option maxRecDepth 10000 in
theorem g245_0 (x1 : Int) (x2 : Int) (I : IM) (K : Option AV → IM → Prop) (h : D245_0 x1 x2 I K) : GO S0 245 0 [vR 237, vI x1, vI x2] [] I K := by
  unfold D245_0 at h
  refine G_loadI rc_245_0 rfl ?_
  refine G_call (as := [vI x1]) (rest := []) rc_245_1 rfl rfl rfl (Nat.le_of_ble_eq_true rfl) rfl ?_
  refine GO.imp h (fun v I1 h => ?_)
  obtain ⟨y2, rfl, h⟩ := h
  show GO S0 245 4 [vR 237, vI x1, vI x2] [vI y2] I1 K
  refine G_i1 (C := y2 = 0) rc_245_4 rfl (fun c3 => ?_) (fun c3 => ?_)
  · rw [if_pos c3] at h
    show GO S0 245 38 [vR 237, vI x1, vI x2] [] I1 K
    refine G_lconst rc_245_38 (by decide) ?_
    exact G_retL rc_245_41 h
  · rw [if_neg c3] at h
    show GO S0 245 7 [vR 237, vI x1, vI x2] [] I1 K
    refine G_loadI rc_245_7 rfl ?_
    refine G_const rc_245_8 (by decide) ?_
    refine G_loadR rc_245_9 rfl ?_
    refine G_getR rc_245_10 s0_237 (by decide) rfl (by decide) ?_
    show GO S0 245 13 [vR 237, vI x1, vI x2] [vR 250, vI 0, vI x2] I1 K
    refine G_loadI rc_245_13 rfl ?_
    obtain ⟨c4, h⟩ := h
    refine G_ald rc_245_14 s0_250 (by omega) (by omega) ?_
    show GO S0 245 15 [vR 237, vI x1, vI x2] [vI (I1 250 (x1).toNat), vI 0, vI x2] I1 K
    refine G_const rc_245_15 (by decide) ?_
    obtain ⟨c5, h⟩ := h
    refine G_bop (z := (I1 250 (x1).toNat) - 1) rc_245_16 (if_pos c5) ?_
    show GO S0 245 17 [vR 237, vI x1, vI x2] [vI ((I1 250 (x1).toNat) - 1), vI 0, vI x2] I1 K
    refine G_call (as := [vI x2, vI 0, vI ((I1 250 (x1).toNat) - 1)]) (rest := []) rc_245_17 rfl rfl rfl (Nat.le_of_ble_eq_true rfl) rfl ?_
    refine GO.imp h (fun v I6 h => ?_)
    obtain ⟨y7, rfl, h⟩ := h
    show GO S0 245 20 [vR 237, vI x1, vI x2] [vI y7] I6 K
    refine G_i1 (C := y7 = 0) rc_245_20 rfl (fun c8 => ?_) (fun c8 => ?_)
    · rw [if_pos c8] at h
      show GO S0 245 38 [vR 237, vI x1, vI x2] [] I6 K
      refine G_lconst rc_245_38 (by decide) ?_
      exact G_retL rc_245_41 h
    · rw [if_neg c8] at h
      show GO S0 245 23 [vR 237, vI x1, vI x2] [] I6 K
      refine G_loadR rc_245_23 rfl ?_
      refine G_getR rc_245_24 s0_237 (by decide) rfl (by decide) ?_
      show GO S0 245 27 [vR 237, vI x1, vI x2] [vR 251] I6 K
      refine G_const rc_245_27 (by decide) ?_
      refine G_loadI rc_245_29 rfl ?_
      obtain ⟨c9, h⟩ := h
      refine G_bop (z := 40 * x1) rc_245_30 (if_pos c9) ?_
      show GO S0 245 31 [vR 237, vI x1, vI x2] [vI (40 * x1), vR 251] I6 K
      refine G_loadI rc_245_31 rfl ?_
      obtain ⟨c10, h⟩ := h
      refine G_bop (z := (40 * x1) + x2) rc_245_32 (if_pos c10) ?_
      show GO S0 245 33 [vR 237, vI x1, vI x2] [vI ((40 * x1) + x2), vR 251] I6 K
      obtain ⟨c11, h⟩ := h
      refine G_ald rc_245_33 s0_251 (by omega) (by omega) ?_
      show GO S0 245 34 [vR 237, vI x1, vI x2] [vI (I6 251 ((40 * x1) + x2).toNat)] I6 K
      refine G_i2l rc_245_34 ?_
      refine G_goto rc_245_35 ?_
      show GO S0 245 41 [vR 237, vI x1, vI x2] [vL (I6 251 ((40 * x1) + x2).toNat)] I6 K
      exact G_retL rc_245_41 h
/-! 246: RoundSlackModel.lay(II)I -/
def D246_48 (x1 : Int) (x2 : Int) (x3 : Int) (x4 : Int) (x5 : Int) (I : IM) (K : Option AV → IM → Prop) : Prop :=
  CALL S0 132 [vR 237, vI x4] I (fun v I1 => ∃ y2 : Int, v = some (vI y2) ∧ (if y2 < x5 then ((inR (x4 + 1)) ∧ GO S0 246 39 [vR 237, vI x1, vI x2, vI x3, vI (x4 + 1), vI x5] [] I1 K) else ((0 ≤ x1 ∧ x1 < 4) ∧ (if x3 < I1 250 (x1).toNat then ((inR (40 * x1)) ∧ (inR ((40 * x1) + x3)) ∧ CALL S0 132 [vR 237, vI x4] I1 (fun v I9 => ∃ y10 : Int, v = some (vI y10) ∧ (if y10 ≤ x5 then ((0 ≤ (40 * x1) + x3 ∧ (40 * x1) + x3 < 160) ∧ ∀ I13 : IM, I13 = iup I9 251 ((40 * x1) + x3).toNat (-1) → (inR (x3 + 1)) ∧ (inR (x5 + 1)) ∧ GO S0 246 48 [vR 237, vI x1, vI x2, vI (x3 + 1), vI x4, vI (x5 + 1)] [] I13 K) else ((inR (13 * x4)) ∧ (inR (114 + (13 * x4))) ∧ (inR ((114 + (13 * x4)) + 1)) ∧ (inR (((114 + (13 * x4)) + 1) + x5)) ∧ (0 ≤ ((114 + (13 * x4)) + 1) + x5 ∧ ((114 + (13 * x4)) + 1) + x5 < 166) ∧ (0 ≤ (40 * x1) + x3 ∧ (40 * x1) + x3 < 160) ∧ ∀ I22 : IM, I22 = iup I9 251 ((40 * x1) + x3).toNat (I9 238 (((114 + (13 * x4)) + 1) + x5).toNat) → (inR (x3 + 1)) ∧ (inR (x5 + 1)) ∧ GO S0 246 48 [vR 237, vI x1, vI x2, vI (x3 + 1), vI x4, vI (x5 + 1)] [] I22 K)))) else (K (some (vI (-13))) I1)))))
set_option maxRecDepth 10000 in
theorem g246_48 (x1 : Int) (x2 : Int) (x3 : Int) (x4 : Int) (x5 : Int) (I : IM) (K : Option AV → IM → Prop) (h : D246_48 x1 x2 x3 x4 x5 I K) : GO S0 246 48 [vR 237, vI x1, vI x2, vI x3, vI x4, vI x5] [] I K := by
  unfold D246_48 at h
  refine G_loadI rc_246_48 rfl ?_
  refine G_loadR rc_246_50 rfl ?_
  refine G_loadI rc_246_51 rfl ?_
  refine G_call (as := [vR 237, vI x4]) (rest := [vI x5]) rc_246_53 rfl rfl rfl (Nat.le_of_ble_eq_true rfl) (g_recv s0_237 rfl) ?_
  refine GO.imp h (fun v I1 h => ?_)
  obtain ⟨y2, rfl, h⟩ := h
  show GO S0 246 56 [vR 237, vI x1, vI x2, vI x3, vI x4, vI x5] [vI y2, vI x5] I1 K
  refine G_i2 (C := y2 < x5) rc_246_56 rfl (fun c3 => ?_) (fun c3 => ?_)
  · rw [if_pos c3] at h
    show GO S0 246 125 [vR 237, vI x1, vI x2, vI x3, vI x4, vI x5] [] I1 K
    obtain ⟨c4, h⟩ := h
    refine G_iinc rc_246_125 rfl c4 ?_
    show GO S0 246 128 [vR 237, vI x1, vI x2, vI x3, vI (x4 + 1), vI x5] [] I1 K
    refine G_goto rc_246_128 ?_
    show GO S0 246 39 [vR 237, vI x1, vI x2, vI x3, vI (x4 + 1), vI x5] [] I1 K
    exact h
  · rw [if_neg c3] at h
    show GO S0 246 59 [vR 237, vI x1, vI x2, vI x3, vI x4, vI x5] [] I1 K
    refine G_loadI rc_246_59 rfl ?_
    refine G_loadR rc_246_60 rfl ?_
    refine G_getR rc_246_61 s0_237 (by decide) rfl (by decide) ?_
    show GO S0 246 64 [vR 237, vI x1, vI x2, vI x3, vI x4, vI x5] [vR 250, vI x3] I1 K
    refine G_loadI rc_246_64 rfl ?_
    obtain ⟨c5, h⟩ := h
    refine G_ald rc_246_65 s0_250 (by omega) (by omega) ?_
    show GO S0 246 66 [vR 237, vI x1, vI x2, vI x3, vI x4, vI x5] [vI (I1 250 (x1).toNat), vI x3] I1 K
    refine G_i2 (C := x3 < I1 250 (x1).toNat) rc_246_66 rfl (fun c6 => ?_) (fun c6 => ?_)
    · rw [if_pos c6] at h
      show GO S0 246 72 [vR 237, vI x1, vI x2, vI x3, vI x4, vI x5] [] I1 K
      refine G_loadR rc_246_72 rfl ?_
      refine G_getR rc_246_73 s0_237 (by decide) rfl (by decide) ?_
      show GO S0 246 76 [vR 237, vI x1, vI x2, vI x3, vI x4, vI x5] [vR 251] I1 K
      refine G_const rc_246_76 (by decide) ?_
      refine G_loadI rc_246_78 rfl ?_
      obtain ⟨c7, h⟩ := h
      refine G_bop (z := 40 * x1) rc_246_79 (if_pos c7) ?_
      show GO S0 246 80 [vR 237, vI x1, vI x2, vI x3, vI x4, vI x5] [vI (40 * x1), vR 251] I1 K
      refine G_loadI rc_246_80 rfl ?_
      obtain ⟨c8, h⟩ := h
      refine G_bop (z := (40 * x1) + x3) rc_246_81 (if_pos c8) ?_
      show GO S0 246 82 [vR 237, vI x1, vI x2, vI x3, vI x4, vI x5] [vI ((40 * x1) + x3), vR 251] I1 K
      refine G_loadI rc_246_82 rfl ?_
      refine G_loadR rc_246_84 rfl ?_
      refine G_loadI rc_246_85 rfl ?_
      refine G_call (as := [vR 237, vI x4]) (rest := [vI x5, vI ((40 * x1) + x3), vR 251]) rc_246_87 rfl rfl rfl (Nat.le_of_ble_eq_true rfl) (g_recv s0_237 rfl) ?_
      refine GO.imp h (fun v I9 h => ?_)
      obtain ⟨y10, rfl, h⟩ := h
      show GO S0 246 90 [vR 237, vI x1, vI x2, vI x3, vI x4, vI x5] [vI y10, vI x5, vI ((40 * x1) + x3), vR 251] I9 K
      refine G_i2 (C := y10 ≤ x5) rc_246_90 rfl (fun c11 => ?_) (fun c11 => ?_)
      · rw [if_pos c11] at h
        show GO S0 246 114 [vR 237, vI x1, vI x2, vI x3, vI x4, vI x5] [vI ((40 * x1) + x3), vR 251] I9 K
        refine G_const rc_246_114 (by decide) ?_
        obtain ⟨c12, h⟩ := h
        refine G_ast rc_246_115 s0_251 (by omega) (by omega) (Or.inl rfl) ?_
        show GO S0 246 116 [vR 237, vI x1, vI x2, vI x3, vI x4, vI x5] [] (iup I9 251 ((40 * x1) + x3).toNat (-1)) K
        have h := h _ rfl
        generalize iup I9 251 ((40 * x1) + x3).toNat (-1) = I13 at h ⊢
        obtain ⟨c14, h⟩ := h
        refine G_iinc rc_246_116 rfl c14 ?_
        show GO S0 246 119 [vR 237, vI x1, vI x2, vI (x3 + 1), vI x4, vI x5] [] I13 K
        obtain ⟨c15, h⟩ := h
        refine G_iinc rc_246_119 rfl c15 ?_
        show GO S0 246 122 [vR 237, vI x1, vI x2, vI (x3 + 1), vI x4, vI (x5 + 1)] [] I13 K
        refine G_goto rc_246_122 ?_
        show GO S0 246 48 [vR 237, vI x1, vI x2, vI (x3 + 1), vI x4, vI (x5 + 1)] [] I13 K
        exact h
      · rw [if_neg c11] at h
        show GO S0 246 93 [vR 237, vI x1, vI x2, vI x3, vI x4, vI x5] [vI ((40 * x1) + x3), vR 251] I9 K
        refine G_loadR rc_246_93 rfl ?_
        refine G_getR rc_246_94 s0_237 (by decide) rfl (by decide) ?_
        show GO S0 246 97 [vR 237, vI x1, vI x2, vI x3, vI x4, vI x5] [vR 238, vI ((40 * x1) + x3), vR 251] I9 K
        refine G_const rc_246_97 (by decide) ?_
        refine G_const rc_246_99 (by decide) ?_
        refine G_loadI rc_246_101 rfl ?_
        obtain ⟨c16, h⟩ := h
        refine G_bop (z := 13 * x4) rc_246_103 (if_pos c16) ?_
        show GO S0 246 104 [vR 237, vI x1, vI x2, vI x3, vI x4, vI x5] [vI (13 * x4), vI 114, vR 238, vI ((40 * x1) + x3), vR 251] I9 K
        obtain ⟨c17, h⟩ := h
        refine G_bop (z := 114 + (13 * x4)) rc_246_104 (if_pos c17) ?_
        show GO S0 246 105 [vR 237, vI x1, vI x2, vI x3, vI x4, vI x5] [vI (114 + (13 * x4)), vR 238, vI ((40 * x1) + x3), vR 251] I9 K
        refine G_const rc_246_105 (by decide) ?_
        obtain ⟨c18, h⟩ := h
        refine G_bop (z := (114 + (13 * x4)) + 1) rc_246_106 (if_pos c18) ?_
        show GO S0 246 107 [vR 237, vI x1, vI x2, vI x3, vI x4, vI x5] [vI ((114 + (13 * x4)) + 1), vR 238, vI ((40 * x1) + x3), vR 251] I9 K
        refine G_loadI rc_246_107 rfl ?_
        obtain ⟨c19, h⟩ := h
        refine G_bop (z := ((114 + (13 * x4)) + 1) + x5) rc_246_109 (if_pos c19) ?_
        show GO S0 246 110 [vR 237, vI x1, vI x2, vI x3, vI x4, vI x5] [vI (((114 + (13 * x4)) + 1) + x5), vR 238, vI ((40 * x1) + x3), vR 251] I9 K
        obtain ⟨c20, h⟩ := h
        refine G_ald rc_246_110 s0_238 (by omega) (by omega) ?_
        show GO S0 246 111 [vR 237, vI x1, vI x2, vI x3, vI x4, vI x5] [vI (I9 238 (((114 + (13 * x4)) + 1) + x5).toNat), vI ((40 * x1) + x3), vR 251] I9 K
        refine G_goto rc_246_111 ?_
        show GO S0 246 115 [vR 237, vI x1, vI x2, vI x3, vI x4, vI x5] [vI (I9 238 (((114 + (13 * x4)) + 1) + x5).toNat), vI ((40 * x1) + x3), vR 251] I9 K
        obtain ⟨c21, h⟩ := h
        refine G_ast rc_246_115 s0_251 (by omega) (by omega) (Or.inl rfl) ?_
        show GO S0 246 116 [vR 237, vI x1, vI x2, vI x3, vI x4, vI x5] [] (iup I9 251 ((40 * x1) + x3).toNat (I9 238 (((114 + (13 * x4)) + 1) + x5).toNat)) K
        have h := h _ rfl
        generalize iup I9 251 ((40 * x1) + x3).toNat (I9 238 (((114 + (13 * x4)) + 1) + x5).toNat) = I22 at h ⊢
        obtain ⟨c23, h⟩ := h
        refine G_iinc rc_246_116 rfl c23 ?_
        show GO S0 246 119 [vR 237, vI x1, vI x2, vI (x3 + 1), vI x4, vI x5] [] I22 K
        obtain ⟨c24, h⟩ := h
        refine G_iinc rc_246_119 rfl c24 ?_
        show GO S0 246 122 [vR 237, vI x1, vI x2, vI (x3 + 1), vI x4, vI (x5 + 1)] [] I22 K
        refine G_goto rc_246_122 ?_
        show GO S0 246 48 [vR 237, vI x1, vI x2, vI (x3 + 1), vI x4, vI (x5 + 1)] [] I22 K
        exact h
    · rw [if_neg c6] at h
      show GO S0 246 69 [vR 237, vI x1, vI x2, vI x3, vI x4, vI x5] [] I1 K
      refine G_const rc_246_69 (by decide) ?_
      exact G_retI rc_246_71 (Or.inl rfl) h
def D246_39 (x1 : Int) (x2 : Int) (x3 : Int) (x4 : Int) (u5 : AV) (I : IM) (K : Option AV → IM → Prop) : Prop :=
  (if (4 : Int) ≤ x4 then ((inR (x3 - x2)) ∧ K (some (vI (x3 - x2))) I) else (GO S0 246 48 [vR 237, vI x1, vI x2, vI x3, vI x4, vI 0] [] I K))
set_option maxRecDepth 10000 in
theorem g246_39 (x1 : Int) (x2 : Int) (x3 : Int) (x4 : Int) (u5 : AV) (I : IM) (K : Option AV → IM → Prop) (h : D246_39 x1 x2 x3 x4 u5 I K) : GO S0 246 39 [vR 237, vI x1, vI x2, vI x3, vI x4, u5] [] I K := by
  unfold D246_39 at h
  refine G_loadI rc_246_39 rfl ?_
  refine G_const rc_246_41 (by decide) ?_
  refine G_i2 (C := (4 : Int) ≤ x4) rc_246_42 rfl (fun c1 => ?_) (fun c1 => ?_)
  · rw [if_pos c1] at h
    show GO S0 246 131 [vR 237, vI x1, vI x2, vI x3, vI x4, u5] [] I K
    refine G_loadI rc_246_131 rfl ?_
    refine G_loadI rc_246_132 rfl ?_
    obtain ⟨c2, h⟩ := h
    refine G_bop (z := x3 - x2) rc_246_133 (if_pos c2) ?_
    show GO S0 246 134 [vR 237, vI x1, vI x2, vI x3, vI x4, u5] [vI (x3 - x2)] I K
    exact G_retI rc_246_134 (Or.inl rfl) h
  · rw [if_neg c1] at h
    show GO S0 246 45 [vR 237, vI x1, vI x2, vI x3, vI x4, u5] [] I K
    refine G_const rc_246_45 (by decide) ?_
    refine G_storeI rc_246_46 (Nat.le_of_ble_eq_true rfl) ?_
    show GO S0 246 48 [vR 237, vI x1, vI x2, vI x3, vI x4, vI 0] [] I K
    exact h
def D246_0 (x1 : Int) (x2 : Int) (I : IM) (K : Option AV → IM → Prop) : Prop :=
  CALL S0 243 [vI x1] I (fun v I1 => ∃ y2 : Int, v = some (vI y2) ∧ (if y2 = 0 then (K (some (vI (-1))) I1) else ((0 ≤ x1 ∧ x1 < 4) ∧ (if (0 : Int) ≤ I1 250 (x1).toNat then ((if (0 : Int) ≤ x2 then (GO S0 246 39 [vR 237, vI x1, vI x2, vI x2, vI 0, vU] [] I1 K) else (GO S0 246 39 [vR 237, vI x1, vI x2, vI (I1 250 (x1).toNat), vI 0, vU] [] I1 K))) else (K (some (vI (-11))) I1)))))
set_option maxRecDepth 10000 in
theorem g246_0 (x1 : Int) (x2 : Int) (I : IM) (K : Option AV → IM → Prop) (h : D246_0 x1 x2 I K) : GO S0 246 0 [vR 237, vI x1, vI x2, vU, vU, vU] [] I K := by
  unfold D246_0 at h
  refine G_loadI rc_246_0 rfl ?_
  refine G_call (as := [vI x1]) (rest := []) rc_246_1 rfl rfl rfl (Nat.le_of_ble_eq_true rfl) rfl ?_
  refine GO.imp h (fun v I1 h => ?_)
  obtain ⟨y2, rfl, h⟩ := h
  show GO S0 246 4 [vR 237, vI x1, vI x2, vU, vU, vU] [vI y2] I1 K
  refine G_i1 (C := ¬ y2 = 0) rc_246_4 rfl (fun c3 => ?_) (fun c3 => ?_)
  · rw [if_neg c3] at h
    show GO S0 246 9 [vR 237, vI x1, vI x2, vU, vU, vU] [] I1 K
    refine G_loadR rc_246_9 rfl ?_
    refine G_getR rc_246_10 s0_237 (by decide) rfl (by decide) ?_
    show GO S0 246 13 [vR 237, vI x1, vI x2, vU, vU, vU] [vR 250] I1 K
    refine G_loadI rc_246_13 rfl ?_
    obtain ⟨c4, h⟩ := h
    refine G_ald rc_246_14 s0_250 (by omega) (by omega) ?_
    show GO S0 246 15 [vR 237, vI x1, vI x2, vU, vU, vU] [vI (I1 250 (x1).toNat)] I1 K
    refine G_i1 (C := (0 : Int) ≤ I1 250 (x1).toNat) rc_246_15 rfl (fun c5 => ?_) (fun c5 => ?_)
    · rw [if_pos c5] at h
      show GO S0 246 21 [vR 237, vI x1, vI x2, vU, vU, vU] [] I1 K
      refine G_loadI rc_246_21 rfl ?_
      refine G_i1 (C := (0 : Int) ≤ x2) rc_246_22 rfl (fun c6 => ?_) (fun c6 => ?_)
      · rw [if_pos c6] at h
        show GO S0 246 34 [vR 237, vI x1, vI x2, vU, vU, vU] [] I1 K
        refine G_loadI rc_246_34 rfl ?_
        refine G_storeI rc_246_35 (Nat.le_of_ble_eq_true rfl) ?_
        show GO S0 246 36 [vR 237, vI x1, vI x2, vI x2, vU, vU] [] I1 K
        refine G_const rc_246_36 (by decide) ?_
        refine G_storeI rc_246_37 (Nat.le_of_ble_eq_true rfl) ?_
        show GO S0 246 39 [vR 237, vI x1, vI x2, vI x2, vI 0, vU] [] I1 K
        exact h
      · rw [if_neg c6] at h
        show GO S0 246 25 [vR 237, vI x1, vI x2, vU, vU, vU] [] I1 K
        refine G_loadR rc_246_25 rfl ?_
        refine G_getR rc_246_26 s0_237 (by decide) rfl (by decide) ?_
        show GO S0 246 29 [vR 237, vI x1, vI x2, vU, vU, vU] [vR 250] I1 K
        refine G_loadI rc_246_29 rfl ?_
        refine G_ald rc_246_30 s0_250 (by omega) (by omega) ?_
        show GO S0 246 31 [vR 237, vI x1, vI x2, vU, vU, vU] [vI (I1 250 (x1).toNat)] I1 K
        refine G_goto rc_246_31 ?_
        show GO S0 246 35 [vR 237, vI x1, vI x2, vU, vU, vU] [vI (I1 250 (x1).toNat)] I1 K
        refine G_storeI rc_246_35 (Nat.le_of_ble_eq_true rfl) ?_
        show GO S0 246 36 [vR 237, vI x1, vI x2, vI (I1 250 (x1).toNat), vU, vU] [] I1 K
        refine G_const rc_246_36 (by decide) ?_
        refine G_storeI rc_246_37 (Nat.le_of_ble_eq_true rfl) ?_
        show GO S0 246 39 [vR 237, vI x1, vI x2, vI (I1 250 (x1).toNat), vI 0, vU] [] I1 K
        exact h
    · rw [if_neg c5] at h
      show GO S0 246 18 [vR 237, vI x1, vI x2, vU, vU, vU] [] I1 K
      refine G_const rc_246_18 (by decide) ?_
      exact G_retI rc_246_20 (Or.inl rfl) h
  · rw [if_pos (Classical.not_not.mp c3)] at h
    show GO S0 246 7 [vR 237, vI x1, vI x2, vU, vU, vU] [] I1 K
    refine G_const rc_246_7 (by decide) ?_
    exact G_retI rc_246_8 (Or.inl rfl) h
/-! 247: RoundSlackModel.judge(II)I -/
def D247_48 (x1 : Int) (x2 : Int) (x3 : Int) (x4 : Int) (u5 : AV) (I : IM) (K : Option AV → IM → Prop) : Prop :=
  CALL S0 248 [vR 237, vI x1, vI x2] I (fun v I1 => ∃ y2 : Int, v = some (vI y2) ∧ (if y2 ≤ x4 then (CALL S0 158 [vR 237, vR 242] I1 (fun v I4 => ∃ y5 : Int, v = some (vI y5) ∧ (if y5 = 0 then (K (some (vI (-7))) I4) else (CALL S0 194 [vR 237, vR 242] I4 (fun v I7 => ∃ y8 : Int, v = some (vI y8) ∧ K (some (vI y8)) I7))))) else ((inR (40 * x1)) ∧ (inR ((40 * x1) + x2)) ∧ (inR (((40 * x1) + x2) + x4)) ∧ (0 ≤ ((40 * x1) + x2) + x4 ∧ ((40 * x1) + x2) + x4 < 160) ∧ (if I1 251 (((40 * x1) + x2) + x4).toNat = -1 then ((inR (x3 + 1)) ∧ (inR (x4 + 1)) ∧ GO S0 247 48 [vR 237, vI x1, vI x2, vI (x3 + 1), vI (x4 + 1), vI (I1 251 (((40 * x1) + x2) + x4).toNat)] [] I1 K) else (CALL S0 137 [vR 237, vI (I1 251 (((40 * x1) + x2) + x4).toNat)] I1 (fun v I14 => ∃ y15 : Int, v = some (vI y15) ∧ (if y15 = 0 then (K (some (vI (-2))) I14) else ((if iandF (ishrF (I14 237 19) (I1 251 (((40 * x1) + x2) + x4).toNat)) 1 = 1 then (K (some (vI (-2))) I14) else (∀ I18 : IM, I18 = iup I14 237 19 (iorF (I14 237 19) (ishlF 1 (I1 251 (((40 * x1) + x2) + x4).toNat))) → CALL S0 156 [vR 237, vR 242, vI x3] I18 (fun v I19 => ∃ y20 : Int, v = some (vI y20) ∧ CALL S0 157 [vR 242, vI x3, vI y20, vI (I1 251 (((40 * x1) + x2) + x4).toNat)] I19 (fun v I21 => v = none ∧ (inR (x4 + 1)) ∧ GO S0 247 48 [vR 237, vI x1, vI x2, vI x3, vI (x4 + 1), vI (I1 251 (((40 * x1) + x2) + x4).toNat)] [] I21 K))))))))))))
set_option maxRecDepth 10000 in
theorem g247_48 (x1 : Int) (x2 : Int) (x3 : Int) (x4 : Int) (u5 : AV) (I : IM) (K : Option AV → IM → Prop) (h : D247_48 x1 x2 x3 x4 u5 I K) : GO S0 247 48 [vR 237, vI x1, vI x2, vI x3, vI x4, u5] [] I K := by
  unfold D247_48 at h
  refine G_loadI rc_247_48 rfl ?_
  refine G_loadR rc_247_50 rfl ?_
  refine G_loadI rc_247_51 rfl ?_
  refine G_loadI rc_247_52 rfl ?_
  refine G_call (as := [vR 237, vI x1, vI x2]) (rest := [vI x4]) rc_247_53 rfl rfl rfl (Nat.le_of_ble_eq_true rfl) (g_recv s0_237 rfl) ?_
  refine GO.imp h (fun v I1 h => ?_)
  obtain ⟨y2, rfl, h⟩ := h
  show GO S0 247 56 [vR 237, vI x1, vI x2, vI x3, vI x4, u5] [vI y2, vI x4] I1 K
  refine G_i2 (C := y2 ≤ x4) rc_247_56 rfl (fun c3 => ?_) (fun c3 => ?_)
  · rw [if_pos c3] at h
    show GO S0 247 150 [vR 237, vI x1, vI x2, vI x3, vI x4, u5] [] I1 K
    refine G_loadR rc_247_150 rfl ?_
    refine G_loadR rc_247_151 rfl ?_
    refine G_getR rc_247_152 s0_237 (by decide) rfl (by decide) ?_
    show GO S0 247 155 [vR 237, vI x1, vI x2, vI x3, vI x4, u5] [vR 242, vR 237] I1 K
    refine G_call (as := [vR 237, vR 242]) (rest := []) rc_247_155 rfl rfl rfl (Nat.le_of_ble_eq_true rfl) (g_recv s0_237 rfl) ?_
    refine GO.imp h (fun v I4 h => ?_)
    obtain ⟨y5, rfl, h⟩ := h
    show GO S0 247 158 [vR 237, vI x1, vI x2, vI x3, vI x4, u5] [vI y5] I4 K
    refine G_i1 (C := y5 = 0) rc_247_158 rfl (fun c6 => ?_) (fun c6 => ?_)
    · rw [if_pos c6] at h
      show GO S0 247 172 [vR 237, vI x1, vI x2, vI x3, vI x4, u5] [] I4 K
      refine G_const rc_247_172 (by decide) ?_
      exact G_retI rc_247_174 (Or.inl rfl) h
    · rw [if_neg c6] at h
      show GO S0 247 161 [vR 237, vI x1, vI x2, vI x3, vI x4, u5] [] I4 K
      refine G_loadR rc_247_161 rfl ?_
      refine G_loadR rc_247_162 rfl ?_
      refine G_getR rc_247_163 s0_237 (by decide) rfl (by decide) ?_
      show GO S0 247 166 [vR 237, vI x1, vI x2, vI x3, vI x4, u5] [vR 242, vR 237] I4 K
      refine G_call (as := [vR 237, vR 242]) (rest := []) rc_247_166 rfl rfl rfl (Nat.le_of_ble_eq_true rfl) (g_recv s0_237 rfl) ?_
      refine GO.imp h (fun v I7 h => ?_)
      obtain ⟨y8, rfl, h⟩ := h
      show GO S0 247 169 [vR 237, vI x1, vI x2, vI x3, vI x4, u5] [vI y8] I7 K
      refine G_goto rc_247_169 ?_
      show GO S0 247 174 [vR 237, vI x1, vI x2, vI x3, vI x4, u5] [vI y8] I7 K
      exact G_retI rc_247_174 (Or.inl rfl) h
  · rw [if_neg c3] at h
    show GO S0 247 59 [vR 237, vI x1, vI x2, vI x3, vI x4, u5] [] I1 K
    refine G_loadR rc_247_59 rfl ?_
    refine G_getR rc_247_60 s0_237 (by decide) rfl (by decide) ?_
    show GO S0 247 63 [vR 237, vI x1, vI x2, vI x3, vI x4, u5] [vR 251] I1 K
    refine G_const rc_247_63 (by decide) ?_
    refine G_loadI rc_247_65 rfl ?_
    obtain ⟨c9, h⟩ := h
    refine G_bop (z := 40 * x1) rc_247_66 (if_pos c9) ?_
    show GO S0 247 67 [vR 237, vI x1, vI x2, vI x3, vI x4, u5] [vI (40 * x1), vR 251] I1 K
    refine G_loadI rc_247_67 rfl ?_
    obtain ⟨c10, h⟩ := h
    refine G_bop (z := (40 * x1) + x2) rc_247_68 (if_pos c10) ?_
    show GO S0 247 69 [vR 237, vI x1, vI x2, vI x3, vI x4, u5] [vI ((40 * x1) + x2), vR 251] I1 K
    refine G_loadI rc_247_69 rfl ?_
    obtain ⟨c11, h⟩ := h
    refine G_bop (z := ((40 * x1) + x2) + x4) rc_247_71 (if_pos c11) ?_
    show GO S0 247 72 [vR 237, vI x1, vI x2, vI x3, vI x4, u5] [vI (((40 * x1) + x2) + x4), vR 251] I1 K
    obtain ⟨c12, h⟩ := h
    refine G_ald rc_247_72 s0_251 (by omega) (by omega) ?_
    show GO S0 247 73 [vR 237, vI x1, vI x2, vI x3, vI x4, u5] [vI (I1 251 (((40 * x1) + x2) + x4).toNat)] I1 K
    refine G_storeI rc_247_73 (Nat.le_of_ble_eq_true rfl) ?_
    show GO S0 247 75 [vR 237, vI x1, vI x2, vI x3, vI x4, vI (I1 251 (((40 * x1) + x2) + x4).toNat)] [] I1 K
    refine G_loadI rc_247_75 rfl ?_
    refine G_const rc_247_77 (by decide) ?_
    refine G_i2 (C := ¬ I1 251 (((40 * x1) + x2) + x4).toNat = -1) rc_247_78 rfl (fun c13 => ?_) (fun c13 => ?_)
    · rw [if_neg c13] at h
      show GO S0 247 87 [vR 237, vI x1, vI x2, vI x3, vI x4, vI (I1 251 (((40 * x1) + x2) + x4).toNat)] [] I1 K
      refine G_loadR rc_247_87 rfl ?_
      refine G_loadI rc_247_88 rfl ?_
      refine G_call (as := [vR 237, vI (I1 251 (((40 * x1) + x2) + x4).toNat)]) (rest := []) rc_247_90 rfl rfl rfl (Nat.le_of_ble_eq_true rfl) (g_recv s0_237 rfl) ?_
      refine GO.imp h (fun v I14 h => ?_)
      obtain ⟨y15, rfl, h⟩ := h
      show GO S0 247 93 [vR 237, vI x1, vI x2, vI x3, vI x4, vI (I1 251 (((40 * x1) + x2) + x4).toNat)] [vI y15] I14 K
      refine G_i1 (C := y15 = 0) rc_247_93 rfl (fun c16 => ?_) (fun c16 => ?_)
      · rw [if_pos c16] at h
        show GO S0 247 109 [vR 237, vI x1, vI x2, vI x3, vI x4, vI (I1 251 (((40 * x1) + x2) + x4).toNat)] [] I14 K
        refine G_const rc_247_109 (by decide) ?_
        exact G_retI rc_247_111 (Or.inl rfl) h
      · rw [if_neg c16] at h
        show GO S0 247 96 [vR 237, vI x1, vI x2, vI x3, vI x4, vI (I1 251 (((40 * x1) + x2) + x4).toNat)] [] I14 K
        refine G_loadR rc_247_96 rfl ?_
        refine G_getI rc_247_97 s0_237 (by decide) ?_
        show GO S0 247 100 [vR 237, vI x1, vI x2, vI x3, vI x4, vI (I1 251 (((40 * x1) + x2) + x4).toNat)] [vI (I14 237 19)] I14 K
        refine G_loadI rc_247_100 rfl ?_
        refine G_bop (z := ishrF (I14 237 19) (I1 251 (((40 * x1) + x2) + x4).toNat)) rc_247_102 rfl ?_
        show GO S0 247 103 [vR 237, vI x1, vI x2, vI x3, vI x4, vI (I1 251 (((40 * x1) + x2) + x4).toNat)] [vI (ishrF (I14 237 19) (I1 251 (((40 * x1) + x2) + x4).toNat))] I14 K
        refine G_const rc_247_103 (by decide) ?_
        refine G_bop (z := iandF (ishrF (I14 237 19) (I1 251 (((40 * x1) + x2) + x4).toNat)) 1) rc_247_104 rfl ?_
        show GO S0 247 105 [vR 237, vI x1, vI x2, vI x3, vI x4, vI (I1 251 (((40 * x1) + x2) + x4).toNat)] [vI (iandF (ishrF (I14 237 19) (I1 251 (((40 * x1) + x2) + x4).toNat)) 1)] I14 K
        refine G_const rc_247_105 (by decide) ?_
        refine G_i2 (C := ¬ iandF (ishrF (I14 237 19) (I1 251 (((40 * x1) + x2) + x4).toNat)) 1 = 1) rc_247_106 rfl (fun c17 => ?_) (fun c17 => ?_)
        · rw [if_neg c17] at h
          show GO S0 247 112 [vR 237, vI x1, vI x2, vI x3, vI x4, vI (I1 251 (((40 * x1) + x2) + x4).toNat)] [] I14 K
          refine G_loadR rc_247_112 rfl ?_
          refine G_dupR rc_247_113 ?_
          refine G_getI rc_247_114 s0_237 (by decide) ?_
          show GO S0 247 117 [vR 237, vI x1, vI x2, vI x3, vI x4, vI (I1 251 (((40 * x1) + x2) + x4).toNat)] [vI (I14 237 19), vR 237] I14 K
          refine G_const rc_247_117 (by decide) ?_
          refine G_loadI rc_247_118 rfl ?_
          refine G_bop (z := ishlF 1 (I1 251 (((40 * x1) + x2) + x4).toNat)) rc_247_120 rfl ?_
          show GO S0 247 121 [vR 237, vI x1, vI x2, vI x3, vI x4, vI (I1 251 (((40 * x1) + x2) + x4).toNat)] [vI (ishlF 1 (I1 251 (((40 * x1) + x2) + x4).toNat)), vI (I14 237 19), vR 237] I14 K
          refine G_bop (z := iorF (I14 237 19) (ishlF 1 (I1 251 (((40 * x1) + x2) + x4).toNat))) rc_247_121 rfl ?_
          show GO S0 247 122 [vR 237, vI x1, vI x2, vI x3, vI x4, vI (I1 251 (((40 * x1) + x2) + x4).toNat)] [vI (iorF (I14 237 19) (ishlF 1 (I1 251 (((40 * x1) + x2) + x4).toNat))), vR 237] I14 K
          refine G_putI rc_247_122 s0_237 (by decide) (Or.inl rfl) ?_
          show GO S0 247 125 [vR 237, vI x1, vI x2, vI x3, vI x4, vI (I1 251 (((40 * x1) + x2) + x4).toNat)] [] (iup I14 237 19 (iorF (I14 237 19) (ishlF 1 (I1 251 (((40 * x1) + x2) + x4).toNat)))) K
          have h := h _ rfl
          generalize iup I14 237 19 (iorF (I14 237 19) (ishlF 1 (I1 251 (((40 * x1) + x2) + x4).toNat))) = I18 at h ⊢
          refine G_loadR rc_247_125 rfl ?_
          refine G_getR rc_247_126 s0_237 (by decide) rfl (by decide) ?_
          show GO S0 247 129 [vR 237, vI x1, vI x2, vI x3, vI x4, vI (I1 251 (((40 * x1) + x2) + x4).toNat)] [vR 242] I18 K
          refine G_loadI rc_247_129 rfl ?_
          refine G_loadR rc_247_130 rfl ?_
          refine G_loadR rc_247_131 rfl ?_
          refine G_getR rc_247_132 s0_237 (by decide) rfl (by decide) ?_
          show GO S0 247 135 [vR 237, vI x1, vI x2, vI x3, vI x4, vI (I1 251 (((40 * x1) + x2) + x4).toNat)] [vR 242, vR 237, vI x3, vR 242] I18 K
          refine G_loadI rc_247_135 rfl ?_
          refine G_call (as := [vR 237, vR 242, vI x3]) (rest := [vI x3, vR 242]) rc_247_136 rfl rfl rfl (Nat.le_of_ble_eq_true rfl) (g_recv s0_237 rfl) ?_
          refine GO.imp h (fun v I19 h => ?_)
          obtain ⟨y20, rfl, h⟩ := h
          show GO S0 247 139 [vR 237, vI x1, vI x2, vI x3, vI x4, vI (I1 251 (((40 * x1) + x2) + x4).toNat)] [vI y20, vI x3, vR 242] I19 K
          refine G_loadI rc_247_139 rfl ?_
          refine G_call (as := [vR 242, vI x3, vI y20, vI (I1 251 (((40 * x1) + x2) + x4).toNat)]) (rest := []) rc_247_141 rfl rfl rfl (Nat.le_of_ble_eq_true rfl) rfl ?_
          refine GO.imp h (fun v I21 h => ?_)
          obtain ⟨rfl, h⟩ := h
          show GO S0 247 144 [vR 237, vI x1, vI x2, vI x3, vI x4, vI (I1 251 (((40 * x1) + x2) + x4).toNat)] [] I21 K
          obtain ⟨c22, h⟩ := h
          refine G_iinc rc_247_144 rfl c22 ?_
          show GO S0 247 147 [vR 237, vI x1, vI x2, vI x3, vI (x4 + 1), vI (I1 251 (((40 * x1) + x2) + x4).toNat)] [] I21 K
          refine G_goto rc_247_147 ?_
          show GO S0 247 48 [vR 237, vI x1, vI x2, vI x3, vI (x4 + 1), vI (I1 251 (((40 * x1) + x2) + x4).toNat)] [] I21 K
          exact h
        · rw [if_pos (Classical.not_not.mp c17)] at h
          show GO S0 247 109 [vR 237, vI x1, vI x2, vI x3, vI x4, vI (I1 251 (((40 * x1) + x2) + x4).toNat)] [] I14 K
          refine G_const rc_247_109 (by decide) ?_
          exact G_retI rc_247_111 (Or.inl rfl) h
    · rw [if_pos (Classical.not_not.mp c13)] at h
      show GO S0 247 81 [vR 237, vI x1, vI x2, vI x3, vI x4, vI (I1 251 (((40 * x1) + x2) + x4).toNat)] [] I1 K
      obtain ⟨c23, h⟩ := h
      refine G_iinc rc_247_81 rfl c23 ?_
      show GO S0 247 84 [vR 237, vI x1, vI x2, vI (x3 + 1), vI x4, vI (I1 251 (((40 * x1) + x2) + x4).toNat)] [] I1 K
      refine G_goto rc_247_84 ?_
      show GO S0 247 144 [vR 237, vI x1, vI x2, vI (x3 + 1), vI x4, vI (I1 251 (((40 * x1) + x2) + x4).toNat)] [] I1 K
      obtain ⟨c24, h⟩ := h
      refine G_iinc rc_247_144 rfl c24 ?_
      show GO S0 247 147 [vR 237, vI x1, vI x2, vI (x3 + 1), vI (x4 + 1), vI (I1 251 (((40 * x1) + x2) + x4).toNat)] [] I1 K
      refine G_goto rc_247_147 ?_
      show GO S0 247 48 [vR 237, vI x1, vI x2, vI (x3 + 1), vI (x4 + 1), vI (I1 251 (((40 * x1) + x2) + x4).toNat)] [] I1 K
      exact h
def D247_0 (x1 : Int) (x2 : Int) (I : IM) (K : Option AV → IM → Prop) : Prop :=
  CALL S0 243 [vI x1] I (fun v I1 => ∃ y2 : Int, v = some (vI y2) ∧ (if y2 = 0 then (K (some (vI (-1))) I1) else ((0 ≤ x1 ∧ x1 < 4) ∧ (if I1 250 (x1).toNat < 0 then (K (some (vI (-3))) I1) else ((if x2 < 0 then (K (some (vI (-3))) I1) else (CALL S0 248 [vR 237, vI x1, vI x2] I1 (fun v I7 => ∃ y8 : Int, v = some (vI y8) ∧ (if (0 : Int) ≤ y8 then (CALL S0 153 [vR 237] I7 (fun v I10 => v = none ∧ ∀ I11 : IM, I11 = iup I10 237 19 0 → GO S0 247 48 [vR 237, vI x1, vI x2, vI 0, vI 0, vU] [] I11 K)) else (K (some (vI (-3))) I7))))))))))
set_option maxRecDepth 10000 in
theorem g247_0 (x1 : Int) (x2 : Int) (I : IM) (K : Option AV → IM → Prop) (h : D247_0 x1 x2 I K) : GO S0 247 0 [vR 237, vI x1, vI x2, vU, vU, vU] [] I K := by
  unfold D247_0 at h
  refine G_loadI rc_247_0 rfl ?_
  refine G_call (as := [vI x1]) (rest := []) rc_247_1 rfl rfl rfl (Nat.le_of_ble_eq_true rfl) rfl ?_
  refine GO.imp h (fun v I1 h => ?_)
  obtain ⟨y2, rfl, h⟩ := h
  show GO S0 247 4 [vR 237, vI x1, vI x2, vU, vU, vU] [vI y2] I1 K
  refine G_i1 (C := ¬ y2 = 0) rc_247_4 rfl (fun c3 => ?_) (fun c3 => ?_)
  · rw [if_neg c3] at h
    show GO S0 247 9 [vR 237, vI x1, vI x2, vU, vU, vU] [] I1 K
    refine G_loadR rc_247_9 rfl ?_
    refine G_getR rc_247_10 s0_237 (by decide) rfl (by decide) ?_
    show GO S0 247 13 [vR 237, vI x1, vI x2, vU, vU, vU] [vR 250] I1 K
    refine G_loadI rc_247_13 rfl ?_
    obtain ⟨c4, h⟩ := h
    refine G_ald rc_247_14 s0_250 (by omega) (by omega) ?_
    show GO S0 247 15 [vR 237, vI x1, vI x2, vU, vU, vU] [vI (I1 250 (x1).toNat)] I1 K
    refine G_i1 (C := I1 250 (x1).toNat < 0) rc_247_15 rfl (fun c5 => ?_) (fun c5 => ?_)
    · rw [if_pos c5] at h
      show GO S0 247 31 [vR 237, vI x1, vI x2, vU, vU, vU] [] I1 K
      refine G_const rc_247_31 (by decide) ?_
      exact G_retI rc_247_33 (Or.inl rfl) h
    · rw [if_neg c5] at h
      show GO S0 247 18 [vR 237, vI x1, vI x2, vU, vU, vU] [] I1 K
      refine G_loadI rc_247_18 rfl ?_
      refine G_i1 (C := x2 < 0) rc_247_19 rfl (fun c6 => ?_) (fun c6 => ?_)
      · rw [if_pos c6] at h
        show GO S0 247 31 [vR 237, vI x1, vI x2, vU, vU, vU] [] I1 K
        refine G_const rc_247_31 (by decide) ?_
        exact G_retI rc_247_33 (Or.inl rfl) h
      · rw [if_neg c6] at h
        show GO S0 247 22 [vR 237, vI x1, vI x2, vU, vU, vU] [] I1 K
        refine G_loadR rc_247_22 rfl ?_
        refine G_loadI rc_247_23 rfl ?_
        refine G_loadI rc_247_24 rfl ?_
        refine G_call (as := [vR 237, vI x1, vI x2]) (rest := []) rc_247_25 rfl rfl rfl (Nat.le_of_ble_eq_true rfl) (g_recv s0_237 rfl) ?_
        refine GO.imp h (fun v I7 h => ?_)
        obtain ⟨y8, rfl, h⟩ := h
        show GO S0 247 28 [vR 237, vI x1, vI x2, vU, vU, vU] [vI y8] I7 K
        refine G_i1 (C := (0 : Int) ≤ y8) rc_247_28 rfl (fun c9 => ?_) (fun c9 => ?_)
        · rw [if_pos c9] at h
          show GO S0 247 34 [vR 237, vI x1, vI x2, vU, vU, vU] [] I7 K
          refine G_loadR rc_247_34 rfl ?_
          refine G_call (as := [vR 237]) (rest := []) rc_247_35 rfl rfl rfl (Nat.le_of_ble_eq_true rfl) (g_recv s0_237 rfl) ?_
          refine GO.imp h (fun v I10 h => ?_)
          obtain ⟨rfl, h⟩ := h
          show GO S0 247 38 [vR 237, vI x1, vI x2, vU, vU, vU] [] I10 K
          refine G_loadR rc_247_38 rfl ?_
          refine G_const rc_247_39 (by decide) ?_
          refine G_putI rc_247_40 s0_237 (by decide) (Or.inl rfl) ?_
          show GO S0 247 43 [vR 237, vI x1, vI x2, vU, vU, vU] [] (iup I10 237 19 0) K
          have h := h _ rfl
          generalize iup I10 237 19 0 = I11 at h ⊢
          refine G_const rc_247_43 (by decide) ?_
          refine G_storeI rc_247_44 (Nat.le_of_ble_eq_true rfl) ?_
          show GO S0 247 45 [vR 237, vI x1, vI x2, vI 0, vU, vU] [] I11 K
          refine G_const rc_247_45 (by decide) ?_
          refine G_storeI rc_247_46 (Nat.le_of_ble_eq_true rfl) ?_
          show GO S0 247 48 [vR 237, vI x1, vI x2, vI 0, vI 0, vU] [] I11 K
          exact h
        · rw [if_neg c9] at h
          show GO S0 247 31 [vR 237, vI x1, vI x2, vU, vU, vU] [] I7 K
          refine G_const rc_247_31 (by decide) ?_
          exact G_retI rc_247_33 (Or.inl rfl) h
  · rw [if_pos (Classical.not_not.mp c3)] at h
    show GO S0 247 7 [vR 237, vI x1, vI x2, vU, vU, vU] [] I1 K
    refine G_const rc_247_7 (by decide) ?_
    exact G_retI rc_247_8 (Or.inl rfl) h
/-! 248: RoundSlackModel.toldPlaces(II)I -/
def D248_51 (x1 : Int) (x2 : Int) (x3 : Int) (x4 : Int) (I : IM) (K : Option AV → IM → Prop) : Prop :=
  (if (4 : Int) ≤ x3 then ((inR (x4 - x2)) ∧ K (some (vI (x4 - x2))) I) else (K (some (vI (-1))) I))
set_option maxRecDepth 10000 in
theorem g248_51 (x1 : Int) (x2 : Int) (x3 : Int) (x4 : Int) (I : IM) (K : Option AV → IM → Prop) (h : D248_51 x1 x2 x3 x4 I K) : GO S0 248 51 [vR 237, vI x1, vI x2, vI x3, vI x4] [] I K := by
  unfold D248_51 at h
  refine G_loadI rc_248_51 rfl ?_
  refine G_const rc_248_52 (by decide) ?_
  refine G_i2 (C := (4 : Int) ≤ x3) rc_248_53 rfl (fun c1 => ?_) (fun c1 => ?_)
  · rw [if_pos c1] at h
    show GO S0 248 60 [vR 237, vI x1, vI x2, vI x3, vI x4] [] I K
    refine G_loadI rc_248_60 rfl ?_
    refine G_loadI rc_248_62 rfl ?_
    obtain ⟨c2, h⟩ := h
    refine G_bop (z := x4 - x2) rc_248_63 (if_pos c2) ?_
    show GO S0 248 64 [vR 237, vI x1, vI x2, vI x3, vI x4] [vI (x4 - x2)] I K
    exact G_retI rc_248_64 (Or.inl rfl) h
  · rw [if_neg c1] at h
    show GO S0 248 56 [vR 237, vI x1, vI x2, vI x3, vI x4] [] I K
    refine G_const rc_248_56 (by decide) ?_
    refine G_goto rc_248_57 ?_
    show GO S0 248 64 [vR 237, vI x1, vI x2, vI x3, vI x4] [vI (-1)] I K
    exact G_retI rc_248_64 (Or.inl rfl) h
def D248_5 (x1 : Int) (x2 : Int) (x3 : Int) (x4 : Int) (I : IM) (K : Option AV → IM → Prop) : Prop :=
  (if (4 : Int) ≤ x3 then (D248_51 x1 x2 x3 x4 I K) else ((0 ≤ x1 ∧ x1 < 4) ∧ (if I 250 (x1).toNat ≤ x4 then (D248_51 x1 x2 x3 x4 I K) else ((inR (40 * x1)) ∧ (inR ((40 * x1) + x4)) ∧ (0 ≤ (40 * x1) + x4 ∧ (40 * x1) + x4 < 160) ∧ (if I 251 ((40 * x1) + x4).toNat = -1 then ((inR (x3 + 1)) ∧ (inR (x4 + 1)) ∧ GO S0 248 5 [vR 237, vI x1, vI x2, vI (x3 + 1), vI (x4 + 1)] [] I K) else ((inR (x3 + 0)) ∧ (inR (x4 + 1)) ∧ GO S0 248 5 [vR 237, vI x1, vI x2, vI (x3 + 0), vI (x4 + 1)] [] I K))))))
set_option maxRecDepth 10000 in
theorem g248_5 (x1 : Int) (x2 : Int) (x3 : Int) (x4 : Int) (I : IM) (K : Option AV → IM → Prop) (h : D248_5 x1 x2 x3 x4 I K) : GO S0 248 5 [vR 237, vI x1, vI x2, vI x3, vI x4] [] I K := by
  unfold D248_5 at h
  refine G_loadI rc_248_5 rfl ?_
  refine G_const rc_248_6 (by decide) ?_
  refine G_i2 (C := (4 : Int) ≤ x3) rc_248_7 rfl (fun c1 => ?_) (fun c1 => ?_)
  · rw [if_pos c1] at h
    show GO S0 248 51 [vR 237, vI x1, vI x2, vI x3, vI x4] [] I K
    exact g248_51 x1 x2 x3 x4 I K h
  · rw [if_neg c1] at h
    show GO S0 248 10 [vR 237, vI x1, vI x2, vI x3, vI x4] [] I K
    refine G_loadI rc_248_10 rfl ?_
    refine G_loadR rc_248_12 rfl ?_
    refine G_getR rc_248_13 s0_237 (by decide) rfl (by decide) ?_
    show GO S0 248 16 [vR 237, vI x1, vI x2, vI x3, vI x4] [vR 250, vI x4] I K
    refine G_loadI rc_248_16 rfl ?_
    obtain ⟨c2, h⟩ := h
    refine G_ald rc_248_17 s0_250 (by omega) (by omega) ?_
    show GO S0 248 18 [vR 237, vI x1, vI x2, vI x3, vI x4] [vI (I 250 (x1).toNat), vI x4] I K
    refine G_i2 (C := I 250 (x1).toNat ≤ x4) rc_248_18 rfl (fun c3 => ?_) (fun c3 => ?_)
    · rw [if_pos c3] at h
      show GO S0 248 51 [vR 237, vI x1, vI x2, vI x3, vI x4] [] I K
      exact g248_51 x1 x2 x3 x4 I K h
    · rw [if_neg c3] at h
      show GO S0 248 21 [vR 237, vI x1, vI x2, vI x3, vI x4] [] I K
      refine G_loadI rc_248_21 rfl ?_
      refine G_loadR rc_248_22 rfl ?_
      refine G_getR rc_248_23 s0_237 (by decide) rfl (by decide) ?_
      show GO S0 248 26 [vR 237, vI x1, vI x2, vI x3, vI x4] [vR 251, vI x3] I K
      refine G_const rc_248_26 (by decide) ?_
      refine G_loadI rc_248_28 rfl ?_
      obtain ⟨c4, h⟩ := h
      refine G_bop (z := 40 * x1) rc_248_29 (if_pos c4) ?_
      show GO S0 248 30 [vR 237, vI x1, vI x2, vI x3, vI x4] [vI (40 * x1), vR 251, vI x3] I K
      refine G_loadI rc_248_30 rfl ?_
      obtain ⟨c5, h⟩ := h
      refine G_bop (z := (40 * x1) + x4) rc_248_32 (if_pos c5) ?_
      show GO S0 248 33 [vR 237, vI x1, vI x2, vI x3, vI x4] [vI ((40 * x1) + x4), vR 251, vI x3] I K
      obtain ⟨c6, h⟩ := h
      refine G_ald rc_248_33 s0_251 (by omega) (by omega) ?_
      show GO S0 248 34 [vR 237, vI x1, vI x2, vI x3, vI x4] [vI (I 251 ((40 * x1) + x4).toNat), vI x3] I K
      refine G_const rc_248_34 (by decide) ?_
      refine G_i2 (C := ¬ I 251 ((40 * x1) + x4).toNat = -1) rc_248_35 rfl (fun c7 => ?_) (fun c7 => ?_)
      · rw [if_neg c7] at h
        show GO S0 248 42 [vR 237, vI x1, vI x2, vI x3, vI x4] [vI x3] I K
        refine G_const rc_248_42 (by decide) ?_
        obtain ⟨c8, h⟩ := h
        refine G_bop (z := x3 + 0) rc_248_43 (if_pos c8) ?_
        show GO S0 248 44 [vR 237, vI x1, vI x2, vI x3, vI x4] [vI (x3 + 0)] I K
        refine G_storeI rc_248_44 (Nat.le_of_ble_eq_true rfl) ?_
        show GO S0 248 45 [vR 237, vI x1, vI x2, vI (x3 + 0), vI x4] [] I K
        obtain ⟨c9, h⟩ := h
        refine G_iinc rc_248_45 rfl c9 ?_
        show GO S0 248 48 [vR 237, vI x1, vI x2, vI (x3 + 0), vI (x4 + 1)] [] I K
        refine G_goto rc_248_48 ?_
        show GO S0 248 5 [vR 237, vI x1, vI x2, vI (x3 + 0), vI (x4 + 1)] [] I K
        exact h
      · rw [if_pos (Classical.not_not.mp c7)] at h
        show GO S0 248 38 [vR 237, vI x1, vI x2, vI x3, vI x4] [vI x3] I K
        refine G_const rc_248_38 (by decide) ?_
        refine G_goto rc_248_39 ?_
        show GO S0 248 43 [vR 237, vI x1, vI x2, vI x3, vI x4] [vI 1, vI x3] I K
        obtain ⟨c10, h⟩ := h
        refine G_bop (z := x3 + 1) rc_248_43 (if_pos c10) ?_
        show GO S0 248 44 [vR 237, vI x1, vI x2, vI x3, vI x4] [vI (x3 + 1)] I K
        refine G_storeI rc_248_44 (Nat.le_of_ble_eq_true rfl) ?_
        show GO S0 248 45 [vR 237, vI x1, vI x2, vI (x3 + 1), vI x4] [] I K
        obtain ⟨c11, h⟩ := h
        refine G_iinc rc_248_45 rfl c11 ?_
        show GO S0 248 48 [vR 237, vI x1, vI x2, vI (x3 + 1), vI (x4 + 1)] [] I K
        refine G_goto rc_248_48 ?_
        show GO S0 248 5 [vR 237, vI x1, vI x2, vI (x3 + 1), vI (x4 + 1)] [] I K
        exact h
def D248_0 (x1 : Int) (x2 : Int) (I : IM) (K : Option AV → IM → Prop) : Prop :=
  GO S0 248 5 [vR 237, vI x1, vI x2, vI 0, vI x2] [] I K
set_option maxRecDepth 10000 in
theorem g248_0 (x1 : Int) (x2 : Int) (I : IM) (K : Option AV → IM → Prop) (h : D248_0 x1 x2 I K) : GO S0 248 0 [vR 237, vI x1, vI x2, vU, vU] [] I K := by
  unfold D248_0 at h
  refine G_const rc_248_0 (by decide) ?_
  refine G_storeI rc_248_1 (Nat.le_of_ble_eq_true rfl) ?_
  show GO S0 248 2 [vR 237, vI x1, vI x2, vI 0, vU] [] I K
  refine G_loadI rc_248_2 rfl ?_
  refine G_storeI rc_248_3 (Nat.le_of_ble_eq_true rfl) ?_
  show GO S0 248 5 [vR 237, vI x1, vI x2, vI 0, vI x2] [] I K
  exact h
/-! 249: RoundSlackModel.image()I -/
def D249_2 (x1 : Int) (I : IM) (K : Option AV → IM → Prop) : Prop :=
  (if (166 : Int) ≤ x1 then (∀ I2 : IM, I2 = iup I 237 2 1 → K (some (vI (I2 238 5))) I2) else ((0 ≤ x1 ∧ x1 < 166) ∧ ∀ I4 : IM, I4 = iup I 239 (x1).toNat (I 238 (x1).toNat) → (inR (x1 + 1)) ∧ GO S0 249 2 [vR 237, vI (x1 + 1)] [] I4 K))
set_option maxRecDepth 10000 in
theorem g249_2 (x1 : Int) (I : IM) (K : Option AV → IM → Prop) (h : D249_2 x1 I K) : GO S0 249 2 [vR 237, vI x1] [] I K := by
  unfold D249_2 at h
  refine G_loadI rc_249_2 rfl ?_
  refine G_const rc_249_3 (by decide) ?_
  refine G_i2 (C := (166 : Int) ≤ x1) rc_249_6 rfl (fun c1 => ?_) (fun c1 => ?_)
  · rw [if_pos c1] at h
    show GO S0 249 27 [vR 237, vI x1] [] I K
    refine G_loadR rc_249_27 rfl ?_
    refine G_const rc_249_28 (by decide) ?_
    refine G_putI rc_249_29 s0_237 (by decide) (Or.inr (by decide)) ?_
    show GO S0 249 32 [vR 237, vI x1] [] (iup I 237 2 1) K
    have h := h _ rfl
    generalize iup I 237 2 1 = I2 at h ⊢
    refine G_loadR rc_249_32 rfl ?_
    refine G_getR rc_249_33 s0_237 (by decide) rfl (by decide) ?_
    show GO S0 249 36 [vR 237, vI x1] [vR 238] I2 K
    refine G_const rc_249_36 (by decide) ?_
    refine G_ald rc_249_37 s0_238 (by decide) (by decide) ?_
    show GO S0 249 38 [vR 237, vI x1] [vI (I2 238 5)] I2 K
    exact G_retI rc_249_38 (Or.inl rfl) h
  · rw [if_neg c1] at h
    show GO S0 249 9 [vR 237, vI x1] [] I K
    refine G_loadR rc_249_9 rfl ?_
    refine G_getR rc_249_10 s0_237 (by decide) rfl (by decide) ?_
    show GO S0 249 13 [vR 237, vI x1] [vR 239] I K
    refine G_loadI rc_249_13 rfl ?_
    refine G_loadR rc_249_14 rfl ?_
    refine G_getR rc_249_15 s0_237 (by decide) rfl (by decide) ?_
    show GO S0 249 18 [vR 237, vI x1] [vR 238, vI x1, vR 239] I K
    refine G_loadI rc_249_18 rfl ?_
    obtain ⟨c3, h⟩ := h
    refine G_ald rc_249_19 s0_238 (by omega) (by omega) ?_
    show GO S0 249 20 [vR 237, vI x1] [vI (I 238 (x1).toNat), vI x1, vR 239] I K
    refine G_ast rc_249_20 s0_239 (by omega) (by omega) (Or.inl rfl) ?_
    show GO S0 249 21 [vR 237, vI x1] [] (iup I 239 (x1).toNat (I 238 (x1).toNat)) K
    have h := h _ rfl
    generalize iup I 239 (x1).toNat (I 238 (x1).toNat) = I4 at h ⊢
    obtain ⟨c5, h⟩ := h
    refine G_iinc rc_249_21 rfl c5 ?_
    show GO S0 249 24 [vR 237, vI (x1 + 1)] [] I4 K
    refine G_goto rc_249_24 ?_
    show GO S0 249 2 [vR 237, vI (x1 + 1)] [] I4 K
    exact h
def D249_0 (I : IM) (K : Option AV → IM → Prop) : Prop :=
  GO S0 249 2 [vR 237, vI 0] [] I K
set_option maxRecDepth 10000 in
theorem g249_0 (I : IM) (K : Option AV → IM → Prop) (h : D249_0 I K) : GO S0 249 0 [vR 237, vU] [] I K := by
  unfold D249_0 at h
  refine G_const rc_249_0 (by decide) ?_
  refine G_storeI rc_249_1 (Nat.le_of_ble_eq_true rfl) ?_
  show GO S0 249 2 [vR 237, vI 0] [] I K
  exact h
/-! 250: RoundSlackModel.undo()I -/
def D250_12 (x1 : Int) (I : IM) (K : Option AV → IM → Prop) : Prop :=
  (if (166 : Int) ≤ x1 then (CALL S0 133 [vR 237, vI (I 238 5)] I (fun v I2 => ∃ y3 : Int, v = some (vI y3) ∧ K (some (vI y3)) I2)) else ((0 ≤ x1 ∧ x1 < 166) ∧ ∀ I5 : IM, I5 = iup I 238 (x1).toNat (I 239 (x1).toNat) → (inR (x1 + 1)) ∧ GO S0 250 12 [vR 237, vI (x1 + 1)] [] I5 K))
set_option maxRecDepth 10000 in
theorem g250_12 (x1 : Int) (I : IM) (K : Option AV → IM → Prop) (h : D250_12 x1 I K) : GO S0 250 12 [vR 237, vI x1] [] I K := by
  unfold D250_12 at h
  refine G_loadI rc_250_12 rfl ?_
  refine G_const rc_250_13 (by decide) ?_
  refine G_i2 (C := (166 : Int) ≤ x1) rc_250_16 rfl (fun c1 => ?_) (fun c1 => ?_)
  · rw [if_pos c1] at h
    show GO S0 250 37 [vR 237, vI x1] [] I K
    refine G_loadR rc_250_37 rfl ?_
    refine G_loadR rc_250_38 rfl ?_
    refine G_getR rc_250_39 s0_237 (by decide) rfl (by decide) ?_
    show GO S0 250 42 [vR 237, vI x1] [vR 238, vR 237] I K
    refine G_const rc_250_42 (by decide) ?_
    refine G_ald rc_250_43 s0_238 (by decide) (by decide) ?_
    show GO S0 250 44 [vR 237, vI x1] [vI (I 238 5), vR 237] I K
    refine G_call (as := [vR 237, vI (I 238 5)]) (rest := []) rc_250_44 rfl rfl rfl (Nat.le_of_ble_eq_true rfl) (g_recv s0_237 rfl) ?_
    refine GO.imp h (fun v I2 h => ?_)
    obtain ⟨y3, rfl, h⟩ := h
    show GO S0 250 47 [vR 237, vI x1] [vI y3] I2 K
    exact G_retI rc_250_47 (Or.inl rfl) h
  · rw [if_neg c1] at h
    show GO S0 250 19 [vR 237, vI x1] [] I K
    refine G_loadR rc_250_19 rfl ?_
    refine G_getR rc_250_20 s0_237 (by decide) rfl (by decide) ?_
    show GO S0 250 23 [vR 237, vI x1] [vR 238] I K
    refine G_loadI rc_250_23 rfl ?_
    refine G_loadR rc_250_24 rfl ?_
    refine G_getR rc_250_25 s0_237 (by decide) rfl (by decide) ?_
    show GO S0 250 28 [vR 237, vI x1] [vR 239, vI x1, vR 238] I K
    refine G_loadI rc_250_28 rfl ?_
    obtain ⟨c4, h⟩ := h
    refine G_ald rc_250_29 s0_239 (by omega) (by omega) ?_
    show GO S0 250 30 [vR 237, vI x1] [vI (I 239 (x1).toNat), vI x1, vR 238] I K
    refine G_ast rc_250_30 s0_238 (by omega) (by omega) (Or.inl rfl) ?_
    show GO S0 250 31 [vR 237, vI x1] [] (iup I 238 (x1).toNat (I 239 (x1).toNat)) K
    have h := h _ rfl
    generalize iup I 238 (x1).toNat (I 239 (x1).toNat) = I5 at h ⊢
    obtain ⟨c6, h⟩ := h
    refine G_iinc rc_250_31 rfl c6 ?_
    show GO S0 250 34 [vR 237, vI (x1 + 1)] [] I5 K
    refine G_goto rc_250_34 ?_
    show GO S0 250 12 [vR 237, vI (x1 + 1)] [] I5 K
    exact h
def D250_0 (I : IM) (K : Option AV → IM → Prop) : Prop :=
  (if I 237 2 = 0 then (K (some (vI (-3))) I) else (GO S0 250 12 [vR 237, vI 0] [] I K))
set_option maxRecDepth 10000 in
theorem g250_0 (I : IM) (K : Option AV → IM → Prop) (h : D250_0 I K) : GO S0 250 0 [vR 237, vU] [] I K := by
  unfold D250_0 at h
  refine G_loadR rc_250_0 rfl ?_
  refine G_getI rc_250_1 s0_237 (by decide) ?_
  show GO S0 250 4 [vR 237, vU] [vI (I 237 2)] I K
  refine G_i1 (C := ¬ I 237 2 = 0) rc_250_4 rfl (fun c1 => ?_) (fun c1 => ?_)
  · rw [if_neg c1] at h
    show GO S0 250 10 [vR 237, vU] [] I K
    refine G_const rc_250_10 (by decide) ?_
    refine G_storeI rc_250_11 (Nat.le_of_ble_eq_true rfl) ?_
    show GO S0 250 12 [vR 237, vI 0] [] I K
    exact h
  · rw [if_pos (Classical.not_not.mp c1)] at h
    show GO S0 250 7 [vR 237, vU] [] I K
    refine G_const rc_250_7 (by decide) ?_
    exact G_retI rc_250_9 (Or.inl rfl) h
