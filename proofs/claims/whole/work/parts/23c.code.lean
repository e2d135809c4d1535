/-! 105: RoundSlack$Filling.cheapestVan()I -/
def D105_4 (x1 : Int) (x2 : Int) (I : IM) (K : Option AV → IM → Prop) : Prop :=
  (if (4 : Int) ≤ x2 then (K (some (vI x1)) I) else ((0 ≤ x2 ∧ x2 < 4) ∧ (0 ≤ x1 ∧ x1 < 4) ∧ (if I 205 (x1).toNat ≤ I 205 (x2).toNat then ((inR (x2 + 1)) ∧ GO S0 105 4 [vR 204, vI x1, vI (x2 + 1)] [] I K) else ((inR (x2 + 1)) ∧ GO S0 105 4 [vR 204, vI x2, vI (x2 + 1)] [] I K))))
set_option maxRecDepth 10000 in
theorem g105_4 (x1 : Int) (x2 : Int) (I : IM) (K : Option AV → IM → Prop) (h : D105_4 x1 x2 I K) : GO S0 105 4 [vR 204, vI x1, vI x2] [] I K := by
  unfold D105_4 at h
  refine G_loadI rc_105_4 rfl ?_
  refine G_const rc_105_5 (by decide) ?_
  refine G_i2 (C := (4 : Int) ≤ x2) rc_105_6 rfl (fun c1 => ?_) (fun c1 => ?_)
  · rw [if_pos c1] at h
    show GO S0 105 32 [vR 204, vI x1, vI x2] [] I K
    refine G_loadI rc_105_32 rfl ?_
    exact G_retI rc_105_33 (Or.inl rfl) h
  · rw [if_neg c1] at h
    show GO S0 105 9 [vR 204, vI x1, vI x2] [] I K
    refine G_loadR rc_105_9 rfl ?_
    refine G_getR rc_105_10 s0_204 (by decide) rfl (by decide) ?_
    show GO S0 105 13 [vR 204, vI x1, vI x2] [vR 205] I K
    refine G_loadI rc_105_13 rfl ?_
    obtain ⟨c2, h⟩ := h
    refine G_ald rc_105_14 s0_205 (by omega) (by omega) ?_
    show GO S0 105 15 [vR 204, vI x1, vI x2] [vI (I 205 (x2).toNat)] I K
    refine G_loadR rc_105_15 rfl ?_
    refine G_getR rc_105_16 s0_204 (by decide) rfl (by decide) ?_
    show GO S0 105 19 [vR 204, vI x1, vI x2] [vR 205, vI (I 205 (x2).toNat)] I K
    refine G_loadI rc_105_19 rfl ?_
    obtain ⟨c3, h⟩ := h
    refine G_ald rc_105_20 s0_205 (by omega) (by omega) ?_
    show GO S0 105 21 [vR 204, vI x1, vI x2] [vI (I 205 (x1).toNat), vI (I 205 (x2).toNat)] I K
    refine G_i2 (C := I 205 (x1).toNat ≤ I 205 (x2).toNat) rc_105_21 rfl (fun c4 => ?_) (fun c4 => ?_)
    · rw [if_pos c4] at h
      show GO S0 105 26 [vR 204, vI x1, vI x2] [] I K
      obtain ⟨c5, h⟩ := h
      refine G_iinc rc_105_26 rfl c5 ?_
      show GO S0 105 29 [vR 204, vI x1, vI (x2 + 1)] [] I K
      refine G_goto rc_105_29 ?_
      show GO S0 105 4 [vR 204, vI x1, vI (x2 + 1)] [] I K
      exact h
    · rw [if_neg c4] at h
      show GO S0 105 24 [vR 204, vI x1, vI x2] [] I K
      refine G_loadI rc_105_24 rfl ?_
      refine G_storeI rc_105_25 (Nat.le_of_ble_eq_true rfl) ?_
      show GO S0 105 26 [vR 204, vI x2, vI x2] [] I K
      obtain ⟨c6, h⟩ := h
      refine G_iinc rc_105_26 rfl c6 ?_
      show GO S0 105 29 [vR 204, vI x2, vI (x2 + 1)] [] I K
      refine G_goto rc_105_29 ?_
      show GO S0 105 4 [vR 204, vI x2, vI (x2 + 1)] [] I K
      exact h
def D105_0 (I : IM) (K : Option AV → IM → Prop) : Prop :=
  GO S0 105 4 [vR 204, vI 0, vI 1] [] I K
set_option maxRecDepth 10000 in
theorem g105_0 (I : IM) (K : Option AV → IM → Prop) (h : D105_0 I K) : GO S0 105 0 [vR 204, vU, vU] [] I K := by
  unfold D105_0 at h
  refine G_const rc_105_0 (by decide) ?_
  refine G_storeI rc_105_1 (Nat.le_of_ble_eq_true rfl) ?_
  show GO S0 105 2 [vR 204, vI 0, vU] [] I K
  refine G_const rc_105_2 (by decide) ?_
  refine G_storeI rc_105_3 (Nat.le_of_ble_eq_true rfl) ?_
  show GO S0 105 4 [vR 204, vI 0, vI 1] [] I K
  exact h
/-! 106: RoundSlack.fill(I)I -/
def D106_0 (x1 : Int) (I : IM) (K : Option AV → IM → Prop) : Prop :=
  CALL S0 14 [vI x1, vI 1, vI 4] I (fun v I1 => ∃ y2 : Int, v = some (vI y2) ∧ (if y2 = 0 then (K (some (vI (-2))) I1) else (CALL S0 53 [vR 71, vR 29] I1 (fun v I4 => v = none ∧ CALL S0 107 [vR 204, vI x1] I4 (fun v I5 => ∃ y6 : Int, v = some (vI y6) ∧ (if y6 ≤ 0 then (K (some (vI y6)) I5) else (CALL S0 77 [vR 78, vR 71] I5 (fun v I8 => v = none ∧ K (some (vI y6)) I8))))))))
set_option maxRecDepth 10000 in
theorem g106_0 (x1 : Int) (I : IM) (K : Option AV → IM → Prop) (h : D106_0 x1 I K) : GO S0 106 0 [vR 0, vI x1, vU] [] I K := by
  unfold D106_0 at h
  refine G_loadI rc_106_0 rfl ?_
  refine G_const rc_106_1 (by decide) ?_
  refine G_const rc_106_2 (by decide) ?_
  refine G_call (as := [vI x1, vI 1, vI 4]) (rest := []) rc_106_3 rfl rfl rfl (Nat.le_of_ble_eq_true rfl) rfl ?_
  refine GO.imp h (fun v I1 h => ?_)
  obtain ⟨y2, rfl, h⟩ := h
  show GO S0 106 6 [vR 0, vI x1, vU] [vI y2] I1 K
  refine G_i1 (C := ¬ y2 = 0) rc_106_6 rfl (fun c3 => ?_) (fun c3 => ?_)
  · rw [if_neg c3] at h
    show GO S0 106 12 [vR 0, vI x1, vU] [] I1 K
    refine G_loadR rc_106_12 rfl ?_
    refine G_getR rc_106_13 s0_0 (by decide) rfl (by decide) ?_
    show GO S0 106 16 [vR 0, vI x1, vU] [vR 71] I1 K
    refine G_loadR rc_106_16 rfl ?_
    refine G_getR rc_106_17 s0_0 (by decide) rfl (by decide) ?_
    show GO S0 106 20 [vR 0, vI x1, vU] [vR 29, vR 71] I1 K
    refine G_call (as := [vR 71, vR 29]) (rest := []) rc_106_20 rfl rfl rfl (Nat.le_of_ble_eq_true rfl) (g_recv s0_71 rfl) ?_
    refine GO.imp h (fun v I4 h => ?_)
    obtain ⟨rfl, h⟩ := h
    show GO S0 106 23 [vR 0, vI x1, vU] [] I4 K
    refine G_loadR rc_106_23 rfl ?_
    refine G_getR rc_106_24 s0_0 (by decide) rfl (by decide) ?_
    show GO S0 106 27 [vR 0, vI x1, vU] [vR 204] I4 K
    refine G_loadI rc_106_27 rfl ?_
    refine G_call (as := [vR 204, vI x1]) (rest := []) rc_106_28 rfl rfl rfl (Nat.le_of_ble_eq_true rfl) (g_recv s0_204 rfl) ?_
    refine GO.imp h (fun v I5 h => ?_)
    obtain ⟨y6, rfl, h⟩ := h
    show GO S0 106 31 [vR 0, vI x1, vU] [vI y6] I5 K
    refine G_storeI rc_106_31 (Nat.le_of_ble_eq_true rfl) ?_
    show GO S0 106 32 [vR 0, vI x1, vI y6] [] I5 K
    refine G_loadI rc_106_32 rfl ?_
    refine G_i1 (C := y6 ≤ 0) rc_106_33 rfl (fun c7 => ?_) (fun c7 => ?_)
    · rw [if_pos c7] at h
      show GO S0 106 47 [vR 0, vI x1, vI y6] [] I5 K
      refine G_loadI rc_106_47 rfl ?_
      exact G_retI rc_106_48 (Or.inl rfl) h
    · rw [if_neg c7] at h
      show GO S0 106 36 [vR 0, vI x1, vI y6] [] I5 K
      refine G_loadR rc_106_36 rfl ?_
      refine G_getR rc_106_37 s0_0 (by decide) rfl (by decide) ?_
      show GO S0 106 40 [vR 0, vI x1, vI y6] [vR 78] I5 K
      refine G_loadR rc_106_40 rfl ?_
      refine G_getR rc_106_41 s0_0 (by decide) rfl (by decide) ?_
      show GO S0 106 44 [vR 0, vI x1, vI y6] [vR 71, vR 78] I5 K
      refine G_call (as := [vR 78, vR 71]) (rest := []) rc_106_44 rfl rfl rfl (Nat.le_of_ble_eq_true rfl) (g_recv s0_78 rfl) ?_
      refine GO.imp h (fun v I8 h => ?_)
      obtain ⟨rfl, h⟩ := h
      show GO S0 106 47 [vR 0, vI x1, vI y6] [] I8 K
      refine G_loadI rc_106_47 rfl ?_
      exact G_retI rc_106_48 (Or.inl rfl) h
  · rw [if_pos (Classical.not_not.mp c3)] at h
    show GO S0 106 9 [vR 0, vI x1, vU] [] I1 K
    refine G_const rc_106_9 (by decide) ?_
    exact G_retI rc_106_11 (Or.inl rfl) h
/-! 107: RoundSlack$Filling.fillBy(I)I -/
def D107_7 (x1 : Int) (x2 : Int) (I : IM) (K : Option AV → IM → Prop) : Prop :=
  (if I 204 6 = -1 then (K (some (vI x2)) I) else ((if (12 : Int) ≤ x2 then (K (some (vI x2)) I) else (CALL S0 45 [vR 29, vI (I 204 6), vI (I 204 7), vI (I 204 8)] I (fun v I3 => v = none ∧ (inR (x2 + 1)) ∧ CALL S0 104 [vR 204, vI x1] I3 (fun v I5 => v = none ∧ GO S0 107 7 [vR 204, vI x1, vI (x2 + 1)] [] I5 K))))))
set_option maxRecDepth 10000 in
theorem g107_7 (x1 : Int) (x2 : Int) (I : IM) (K : Option AV → IM → Prop) (h : D107_7 x1 x2 I K) : GO S0 107 7 [vR 204, vI x1, vI x2] [] I K := by
  unfold D107_7 at h
  refine G_loadR rc_107_7 rfl ?_
  refine G_getI rc_107_8 s0_204 (by decide) ?_
  show GO S0 107 11 [vR 204, vI x1, vI x2] [vI (I 204 6)] I K
  refine G_const rc_107_11 (by decide) ?_
  refine G_i2 (C := I 204 6 = -1) rc_107_12 rfl (fun c1 => ?_) (fun c1 => ?_)
  · rw [if_pos c1] at h
    show GO S0 107 51 [vR 204, vI x1, vI x2] [] I K
    refine G_loadI rc_107_51 rfl ?_
    exact G_retI rc_107_52 (Or.inl rfl) h
  · rw [if_neg c1] at h
    show GO S0 107 15 [vR 204, vI x1, vI x2] [] I K
    refine G_loadI rc_107_15 rfl ?_
    refine G_const rc_107_16 (by decide) ?_
    refine G_i2 (C := (12 : Int) ≤ x2) rc_107_18 rfl (fun c2 => ?_) (fun c2 => ?_)
    · rw [if_pos c2] at h
      show GO S0 107 51 [vR 204, vI x1, vI x2] [] I K
      refine G_loadI rc_107_51 rfl ?_
      exact G_retI rc_107_52 (Or.inl rfl) h
    · rw [if_neg c2] at h
      show GO S0 107 21 [vR 204, vI x1, vI x2] [] I K
      refine G_loadR rc_107_21 rfl ?_
      refine G_getR rc_107_22 s0_204 (by decide) rfl (by decide) ?_
      show GO S0 107 25 [vR 204, vI x1, vI x2] [vR 29] I K
      refine G_loadR rc_107_25 rfl ?_
      refine G_getI rc_107_26 s0_204 (by decide) ?_
      show GO S0 107 29 [vR 204, vI x1, vI x2] [vI (I 204 6), vR 29] I K
      refine G_loadR rc_107_29 rfl ?_
      refine G_getI rc_107_30 s0_204 (by decide) ?_
      show GO S0 107 33 [vR 204, vI x1, vI x2] [vI (I 204 7), vI (I 204 6), vR 29] I K
      refine G_loadR rc_107_33 rfl ?_
      refine G_getI rc_107_34 s0_204 (by decide) ?_
      show GO S0 107 37 [vR 204, vI x1, vI x2] [vI (I 204 8), vI (I 204 7), vI (I 204 6), vR 29] I K
      refine G_call (as := [vR 29, vI (I 204 6), vI (I 204 7), vI (I 204 8)]) (rest := []) rc_107_37 rfl rfl rfl (Nat.le_of_ble_eq_true rfl) (g_recv s0_29 rfl) ?_
      refine GO.imp h (fun v I3 h => ?_)
      obtain ⟨rfl, h⟩ := h
      show GO S0 107 40 [vR 204, vI x1, vI x2] [] I3 K
      obtain ⟨c4, h⟩ := h
      refine G_iinc rc_107_40 rfl c4 ?_
      show GO S0 107 43 [vR 204, vI x1, vI (x2 + 1)] [] I3 K
      refine G_loadR rc_107_43 rfl ?_
      refine G_loadI rc_107_44 rfl ?_
      refine G_call (as := [vR 204, vI x1]) (rest := []) rc_107_45 rfl rfl rfl (Nat.le_of_ble_eq_true rfl) (g_recv s0_204 rfl) ?_
      refine GO.imp h (fun v I5 h => ?_)
      obtain ⟨rfl, h⟩ := h
      show GO S0 107 48 [vR 204, vI x1, vI (x2 + 1)] [] I5 K
      refine G_goto rc_107_48 ?_
      show GO S0 107 7 [vR 204, vI x1, vI (x2 + 1)] [] I5 K
      exact h
def D107_0 (x1 : Int) (I : IM) (K : Option AV → IM → Prop) : Prop :=
  CALL S0 104 [vR 204, vI x1] I (fun v I1 => v = none ∧ GO S0 107 7 [vR 204, vI x1, vI 0] [] I1 K)
set_option maxRecDepth 10000 in
theorem g107_0 (x1 : Int) (I : IM) (K : Option AV → IM → Prop) (h : D107_0 x1 I K) : GO S0 107 0 [vR 204, vI x1, vU] [] I K := by
  unfold D107_0 at h
  refine G_const rc_107_0 (by decide) ?_
  refine G_storeI rc_107_1 (Nat.le_of_ble_eq_true rfl) ?_
  show GO S0 107 2 [vR 204, vI x1, vI 0] [] I K
  refine G_loadR rc_107_2 rfl ?_
  refine G_loadI rc_107_3 rfl ?_
  refine G_call (as := [vR 204, vI x1]) (rest := []) rc_107_4 rfl rfl rfl (Nat.le_of_ble_eq_true rfl) (g_recv s0_204 rfl) ?_
  refine GO.imp h (fun v I1 h => ?_)
  obtain ⟨rfl, h⟩ := h
  show GO S0 107 7 [vR 204, vI x1, vI 0] [] I1 K
  exact h
/-! 108: RoundSlack.ruin(II)I -/
def D108_0 (x1 : Int) (x2 : Int) (I : IM) (K : Option AV → IM → Prop) : Prop :=
  CALL S0 21 [vR 0, vI x1] I (fun v I1 => ∃ y2 : Int, v = some (vI y2) ∧ (if y2 = 0 then (K (some (vI (-1))) I1) else (CALL S0 14 [vI x2, vI 1, vI 12] I1 (fun v I4 => ∃ y5 : Int, v = some (vI y5) ∧ (if y5 = 0 then (K (some (vI (-2))) I4) else (CALL S0 53 [vR 71, vR 29] I4 (fun v I7 => v = none ∧ CALL S0 109 [vR 204, vI x1, vI x2] I7 (fun v I8 => ∃ y9 : Int, v = some (vI y9) ∧ (if y9 ≤ 0 then (K (some (vI y9)) I8) else (CALL S0 77 [vR 78, vR 71] I8 (fun v I11 => v = none ∧ K (some (vI y9)) I11)))))))))))
set_option maxRecDepth 10000 in
theorem g108_0 (x1 : Int) (x2 : Int) (I : IM) (K : Option AV → IM → Prop) (h : D108_0 x1 x2 I K) : GO S0 108 0 [vR 0, vI x1, vI x2, vU] [] I K := by
  unfold D108_0 at h
  refine G_loadR rc_108_0 rfl ?_
  refine G_loadI rc_108_1 rfl ?_
  refine G_call (as := [vR 0, vI x1]) (rest := []) rc_108_2 rfl rfl rfl (Nat.le_of_ble_eq_true rfl) (g_recv s0_0 rfl) ?_
  refine GO.imp h (fun v I1 h => ?_)
  obtain ⟨y2, rfl, h⟩ := h
  show GO S0 108 5 [vR 0, vI x1, vI x2, vU] [vI y2] I1 K
  refine G_i1 (C := ¬ y2 = 0) rc_108_5 rfl (fun c3 => ?_) (fun c3 => ?_)
  · rw [if_neg c3] at h
    show GO S0 108 10 [vR 0, vI x1, vI x2, vU] [] I1 K
    refine G_loadI rc_108_10 rfl ?_
    refine G_const rc_108_11 (by decide) ?_
    refine G_const rc_108_12 (by decide) ?_
    refine G_call (as := [vI x2, vI 1, vI 12]) (rest := []) rc_108_14 rfl rfl rfl (Nat.le_of_ble_eq_true rfl) rfl ?_
    refine GO.imp h (fun v I4 h => ?_)
    obtain ⟨y5, rfl, h⟩ := h
    show GO S0 108 17 [vR 0, vI x1, vI x2, vU] [vI y5] I4 K
    refine G_i1 (C := ¬ y5 = 0) rc_108_17 rfl (fun c6 => ?_) (fun c6 => ?_)
    · rw [if_neg c6] at h
      show GO S0 108 23 [vR 0, vI x1, vI x2, vU] [] I4 K
      refine G_loadR rc_108_23 rfl ?_
      refine G_getR rc_108_24 s0_0 (by decide) rfl (by decide) ?_
      show GO S0 108 27 [vR 0, vI x1, vI x2, vU] [vR 71] I4 K
      refine G_loadR rc_108_27 rfl ?_
      refine G_getR rc_108_28 s0_0 (by decide) rfl (by decide) ?_
      show GO S0 108 31 [vR 0, vI x1, vI x2, vU] [vR 29, vR 71] I4 K
      refine G_call (as := [vR 71, vR 29]) (rest := []) rc_108_31 rfl rfl rfl (Nat.le_of_ble_eq_true rfl) (g_recv s0_71 rfl) ?_
      refine GO.imp h (fun v I7 h => ?_)
      obtain ⟨rfl, h⟩ := h
      show GO S0 108 34 [vR 0, vI x1, vI x2, vU] [] I7 K
      refine G_loadR rc_108_34 rfl ?_
      refine G_getR rc_108_35 s0_0 (by decide) rfl (by decide) ?_
      show GO S0 108 38 [vR 0, vI x1, vI x2, vU] [vR 204] I7 K
      refine G_loadI rc_108_38 rfl ?_
      refine G_loadI rc_108_39 rfl ?_
      refine G_call (as := [vR 204, vI x1, vI x2]) (rest := []) rc_108_40 rfl rfl rfl (Nat.le_of_ble_eq_true rfl) (g_recv s0_204 rfl) ?_
      refine GO.imp h (fun v I8 h => ?_)
      obtain ⟨y9, rfl, h⟩ := h
      show GO S0 108 43 [vR 0, vI x1, vI x2, vU] [vI y9] I8 K
      refine G_storeI rc_108_43 (Nat.le_of_ble_eq_true rfl) ?_
      show GO S0 108 44 [vR 0, vI x1, vI x2, vI y9] [] I8 K
      refine G_loadI rc_108_44 rfl ?_
      refine G_i1 (C := y9 ≤ 0) rc_108_45 rfl (fun c10 => ?_) (fun c10 => ?_)
      · rw [if_pos c10] at h
        show GO S0 108 59 [vR 0, vI x1, vI x2, vI y9] [] I8 K
        refine G_loadI rc_108_59 rfl ?_
        exact G_retI rc_108_60 (Or.inl rfl) h
      · rw [if_neg c10] at h
        show GO S0 108 48 [vR 0, vI x1, vI x2, vI y9] [] I8 K
        refine G_loadR rc_108_48 rfl ?_
        refine G_getR rc_108_49 s0_0 (by decide) rfl (by decide) ?_
        show GO S0 108 52 [vR 0, vI x1, vI x2, vI y9] [vR 78] I8 K
        refine G_loadR rc_108_52 rfl ?_
        refine G_getR rc_108_53 s0_0 (by decide) rfl (by decide) ?_
        show GO S0 108 56 [vR 0, vI x1, vI x2, vI y9] [vR 71, vR 78] I8 K
        refine G_call (as := [vR 78, vR 71]) (rest := []) rc_108_56 rfl rfl rfl (Nat.le_of_ble_eq_true rfl) (g_recv s0_78 rfl) ?_
        refine GO.imp h (fun v I11 h => ?_)
        obtain ⟨rfl, h⟩ := h
        show GO S0 108 59 [vR 0, vI x1, vI x2, vI y9] [] I11 K
        refine G_loadI rc_108_59 rfl ?_
        exact G_retI rc_108_60 (Or.inl rfl) h
    · rw [if_pos (Classical.not_not.mp c6)] at h
      show GO S0 108 20 [vR 0, vI x1, vI x2, vU] [] I4 K
      refine G_const rc_108_20 (by decide) ?_
      exact G_retI rc_108_22 (Or.inl rfl) h
  · rw [if_pos (Classical.not_not.mp c3)] at h
    show GO S0 108 8 [vR 0, vI x1, vI x2, vU] [] I1 K
    refine G_const rc_108_8 (by decide) ?_
    exact G_retI rc_108_9 (Or.inl rfl) h
/-! 109: RoundSlack$Filling.ruinAround(II)I -/
def D109_9 (x1 : Int) (x2 : Int) (x3 : Int) (x4 : Int) (I : IM) (K : Option AV → IM → Prop) : Prop :=
  (if x2 ≤ x3 then (K (some (vI x3)) I) else ((if x4 = -1 then (K (some (vI x3)) I) else (CALL S0 80 [vR 29, vI x4] I (fun v I3 => v = none ∧ (inR (x3 + 1)) ∧ CALL S0 110 [vR 204, vI x1] I3 (fun v I5 => ∃ y6 : Int, v = some (vI y6) ∧ GO S0 109 9 [vR 204, vI x1, vI x2, vI (x3 + 1), vI y6] [] I5 K))))))
set_option maxRecDepth 10000 in
theorem g109_9 (x1 : Int) (x2 : Int) (x3 : Int) (x4 : Int) (I : IM) (K : Option AV → IM → Prop) (h : D109_9 x1 x2 x3 x4 I K) : GO S0 109 9 [vR 204, vI x1, vI x2, vI x3, vI x4] [] I K := by
  unfold D109_9 at h
  refine G_loadI rc_109_9 rfl ?_
  refine G_loadI rc_109_10 rfl ?_
  refine G_i2 (C := x2 ≤ x3) rc_109_11 rfl (fun c1 => ?_) (fun c1 => ?_)
  · rw [if_pos c1] at h
    show GO S0 109 42 [vR 204, vI x1, vI x2, vI x3, vI x4] [] I K
    refine G_loadI rc_109_42 rfl ?_
    exact G_retI rc_109_43 (Or.inl rfl) h
  · rw [if_neg c1] at h
    show GO S0 109 14 [vR 204, vI x1, vI x2, vI x3, vI x4] [] I K
    refine G_loadI rc_109_14 rfl ?_
    refine G_const rc_109_16 (by decide) ?_
    refine G_i2 (C := x4 = -1) rc_109_17 rfl (fun c2 => ?_) (fun c2 => ?_)
    · rw [if_pos c2] at h
      show GO S0 109 42 [vR 204, vI x1, vI x2, vI x3, vI x4] [] I K
      refine G_loadI rc_109_42 rfl ?_
      exact G_retI rc_109_43 (Or.inl rfl) h
    · rw [if_neg c2] at h
      show GO S0 109 20 [vR 204, vI x1, vI x2, vI x3, vI x4] [] I K
      refine G_loadR rc_109_20 rfl ?_
      refine G_getR rc_109_21 s0_204 (by decide) rfl (by decide) ?_
      show GO S0 109 24 [vR 204, vI x1, vI x2, vI x3, vI x4] [vR 29] I K
      refine G_loadI rc_109_24 rfl ?_
      refine G_call (as := [vR 29, vI x4]) (rest := []) rc_109_26 rfl rfl rfl (Nat.le_of_ble_eq_true rfl) (g_recv s0_29 rfl) ?_
      refine GO.imp h (fun v I3 h => ?_)
      obtain ⟨rfl, h⟩ := h
      show GO S0 109 29 [vR 204, vI x1, vI x2, vI x3, vI x4] [] I3 K
      obtain ⟨c4, h⟩ := h
      refine G_iinc rc_109_29 rfl c4 ?_
      show GO S0 109 32 [vR 204, vI x1, vI x2, vI (x3 + 1), vI x4] [] I3 K
      refine G_loadR rc_109_32 rfl ?_
      refine G_loadI rc_109_33 rfl ?_
      refine G_call (as := [vR 204, vI x1]) (rest := []) rc_109_34 rfl rfl rfl (Nat.le_of_ble_eq_true rfl) (g_recv s0_204 rfl) ?_
      refine GO.imp h (fun v I5 h => ?_)
      obtain ⟨y6, rfl, h⟩ := h
      show GO S0 109 37 [vR 204, vI x1, vI x2, vI (x3 + 1), vI x4] [vI y6] I5 K
      refine G_storeI rc_109_37 (Nat.le_of_ble_eq_true rfl) ?_
      show GO S0 109 39 [vR 204, vI x1, vI x2, vI (x3 + 1), vI y6] [] I5 K
      refine G_goto rc_109_39 ?_
      show GO S0 109 9 [vR 204, vI x1, vI x2, vI (x3 + 1), vI y6] [] I5 K
      exact h
def D109_0 (x1 : Int) (x2 : Int) (I : IM) (K : Option AV → IM → Prop) : Prop :=
  CALL S0 110 [vR 204, vI x1] I (fun v I1 => ∃ y2 : Int, v = some (vI y2) ∧ GO S0 109 9 [vR 204, vI x1, vI x2, vI 0, vI y2] [] I1 K)
set_option maxRecDepth 10000 in
theorem g109_0 (x1 : Int) (x2 : Int) (I : IM) (K : Option AV → IM → Prop) (h : D109_0 x1 x2 I K) : GO S0 109 0 [vR 204, vI x1, vI x2, vU, vU] [] I K := by
  unfold D109_0 at h
  refine G_const rc_109_0 (by decide) ?_
  refine G_storeI rc_109_1 (Nat.le_of_ble_eq_true rfl) ?_
  show GO S0 109 2 [vR 204, vI x1, vI x2, vI 0, vU] [] I K
  refine G_loadR rc_109_2 rfl ?_
  refine G_loadI rc_109_3 rfl ?_
  refine G_call (as := [vR 204, vI x1]) (rest := []) rc_109_4 rfl rfl rfl (Nat.le_of_ble_eq_true rfl) (g_recv s0_204 rfl) ?_
  refine GO.imp h (fun v I1 h => ?_)
  obtain ⟨y2, rfl, h⟩ := h
  show GO S0 109 7 [vR 204, vI x1, vI x2, vI 0, vU] [vI y2] I1 K
  refine G_storeI rc_109_7 (Nat.le_of_ble_eq_true rfl) ?_
  show GO S0 109 9 [vR 204, vI x1, vI x2, vI 0, vI y2] [] I1 K
  exact h
/-! 110: RoundSlack$Filling.nearestTo(I)I -/
def D110_13 (x1 : Int) (x2 : Int) (x3 : Int) (x4 : Int) (I : IM) (K : Option AV → IM → Prop) : Prop :=
  (if I 1 0 ≤ x4 then (K (some (vI x2)) I) else ((if iandF (ishrF x3 x4) 1 = 1 then ((if x2 = -1 then ((inR (x4 + 1)) ∧ GO S0 110 13 [vR 204, vI x1, vI x4, vI x3, vI (x4 + 1)] [] I K) else ((0 ≤ x1 ∧ x1 < 13) ∧ (0 ≤ x4 ∧ x4 < 13) ∧ (0 ≤ x2 ∧ x2 < 13) ∧ (if I (1 + 10 + (x1).toNat) (x2).toNat ≤ I (1 + 10 + (x1).toNat) (x4).toNat then ((inR (x4 + 1)) ∧ GO S0 110 13 [vR 204, vI x1, vI x2, vI x3, vI (x4 + 1)] [] I K) else ((inR (x4 + 1)) ∧ GO S0 110 13 [vR 204, vI x1, vI x4, vI x3, vI (x4 + 1)] [] I K))))) else ((inR (x4 + 1)) ∧ GO S0 110 13 [vR 204, vI x1, vI x2, vI x3, vI (x4 + 1)] [] I K))))
set_option maxRecDepth 10000 in
theorem g110_13 (x1 : Int) (x2 : Int) (x3 : Int) (x4 : Int) (I : IM) (K : Option AV → IM → Prop) (h : D110_13 x1 x2 x3 x4 I K) : GO S0 110 13 [vR 204, vI x1, vI x2, vI x3, vI x4] [] I K := by
  unfold D110_13 at h
  refine G_loadI rc_110_13 rfl ?_
  refine G_loadR rc_110_15 rfl ?_
  refine G_getR rc_110_16 s0_204 (by decide) rfl (by decide) ?_
  show GO S0 110 19 [vR 204, vI x1, vI x2, vI x3, vI x4] [vR 1, vI x4] I K
  refine G_getI rc_110_19 s0_1 (by decide) ?_
  show GO S0 110 22 [vR 204, vI x1, vI x2, vI x3, vI x4] [vI (I 1 0), vI x4] I K
  refine G_i2 (C := I 1 0 ≤ x4) rc_110_22 rfl (fun c1 => ?_) (fun c1 => ?_)
  · rw [if_pos c1] at h
    show GO S0 110 75 [vR 204, vI x1, vI x2, vI x3, vI x4] [] I K
    refine G_loadI rc_110_75 rfl ?_
    exact G_retI rc_110_76 (Or.inl rfl) h
  · rw [if_neg c1] at h
    show GO S0 110 25 [vR 204, vI x1, vI x2, vI x3, vI x4] [] I K
    refine G_loadI rc_110_25 rfl ?_
    refine G_loadI rc_110_26 rfl ?_
    refine G_bop (z := ishrF x3 x4) rc_110_28 rfl ?_
    show GO S0 110 29 [vR 204, vI x1, vI x2, vI x3, vI x4] [vI (ishrF x3 x4)] I K
    refine G_const rc_110_29 (by decide) ?_
    refine G_bop (z := iandF (ishrF x3 x4) 1) rc_110_30 rfl ?_
    show GO S0 110 31 [vR 204, vI x1, vI x2, vI x3, vI x4] [vI (iandF (ishrF x3 x4) 1)] I K
    refine G_const rc_110_31 (by decide) ?_
    refine G_i2 (C := ¬ iandF (ishrF x3 x4) 1 = 1) rc_110_32 rfl (fun c2 => ?_) (fun c2 => ?_)
    · rw [if_neg c2] at h
      show GO S0 110 69 [vR 204, vI x1, vI x2, vI x3, vI x4] [] I K
      obtain ⟨c3, h⟩ := h
      refine G_iinc rc_110_69 rfl c3 ?_
      show GO S0 110 72 [vR 204, vI x1, vI x2, vI x3, vI (x4 + 1)] [] I K
      refine G_goto rc_110_72 ?_
      show GO S0 110 13 [vR 204, vI x1, vI x2, vI x3, vI (x4 + 1)] [] I K
      exact h
    · rw [if_pos (Classical.not_not.mp c2)] at h
      show GO S0 110 35 [vR 204, vI x1, vI x2, vI x3, vI x4] [] I K
      refine G_loadI rc_110_35 rfl ?_
      refine G_const rc_110_36 (by decide) ?_
      refine G_i2 (C := x2 = -1) rc_110_37 rfl (fun c4 => ?_) (fun c4 => ?_)
      · rw [if_pos c4] at h
        show GO S0 110 66 [vR 204, vI x1, vI x2, vI x3, vI x4] [] I K
        refine G_loadI rc_110_66 rfl ?_
        refine G_storeI rc_110_68 (Nat.le_of_ble_eq_true rfl) ?_
        show GO S0 110 69 [vR 204, vI x1, vI x4, vI x3, vI x4] [] I K
        obtain ⟨c5, h⟩ := h
        refine G_iinc rc_110_69 rfl c5 ?_
        show GO S0 110 72 [vR 204, vI x1, vI x4, vI x3, vI (x4 + 1)] [] I K
        refine G_goto rc_110_72 ?_
        show GO S0 110 13 [vR 204, vI x1, vI x4, vI x3, vI (x4 + 1)] [] I K
        exact h
      · rw [if_neg c4] at h
        show GO S0 110 40 [vR 204, vI x1, vI x2, vI x3, vI x4] [] I K
        refine G_loadR rc_110_40 rfl ?_
        refine G_getR rc_110_41 s0_204 (by decide) rfl (by decide) ?_
        show GO S0 110 44 [vR 204, vI x1, vI x2, vI x3, vI x4] [vR 1] I K
        refine G_getR rc_110_44 s0_1 (by decide) rfl (by decide) ?_
        show GO S0 110 47 [vR 204, vI x1, vI x2, vI x3, vI x4] [vR 10] I K
        refine G_loadI rc_110_47 rfl ?_
        obtain ⟨c6, h⟩ := h
        refine G_aldR rc_110_48 s0_10 (Or.inl rfl) (by omega) (by omega) (lrow (b := 11) (n := 13) (i := (x1).toNat) rfl (by omega)) (by omega) ?_
        show GO S0 110 49 [vR 204, vI x1, vI x2, vI x3, vI x4] [vR (1 + 10 + (x1).toNat)] I K
        refine G_loadI rc_110_49 rfl ?_
        obtain ⟨c7, h⟩ := h
        refine G_ald rc_110_51 (bk_10 (r := 1) (i := (x1).toNat) (by first | exact Or.inl rfl | exact Or.inr rfl) (by omega)) (by omega) (by omega) ?_
        show GO S0 110 52 [vR 204, vI x1, vI x2, vI x3, vI x4] [vI (I (1 + 10 + (x1).toNat) (x4).toNat)] I K
        refine G_loadR rc_110_52 rfl ?_
        refine G_getR rc_110_53 s0_204 (by decide) rfl (by decide) ?_
        show GO S0 110 56 [vR 204, vI x1, vI x2, vI x3, vI x4] [vR 1, vI (I (1 + 10 + (x1).toNat) (x4).toNat)] I K
        refine G_getR rc_110_56 s0_1 (by decide) rfl (by decide) ?_
        show GO S0 110 59 [vR 204, vI x1, vI x2, vI x3, vI x4] [vR 10, vI (I (1 + 10 + (x1).toNat) (x4).toNat)] I K
        refine G_loadI rc_110_59 rfl ?_
        refine G_aldR rc_110_60 s0_10 (Or.inl rfl) (by omega) (by omega) (lrow (b := 11) (n := 13) (i := (x1).toNat) rfl (by omega)) (by omega) ?_
        show GO S0 110 61 [vR 204, vI x1, vI x2, vI x3, vI x4] [vR (1 + 10 + (x1).toNat), vI (I (1 + 10 + (x1).toNat) (x4).toNat)] I K
        refine G_loadI rc_110_61 rfl ?_
        obtain ⟨c8, h⟩ := h
        refine G_ald rc_110_62 (bk_10 (r := 1) (i := (x1).toNat) (by first | exact Or.inl rfl | exact Or.inr rfl) (by omega)) (by omega) (by omega) ?_
        show GO S0 110 63 [vR 204, vI x1, vI x2, vI x3, vI x4] [vI (I (1 + 10 + (x1).toNat) (x2).toNat), vI (I (1 + 10 + (x1).toNat) (x4).toNat)] I K
        refine G_i2 (C := I (1 + 10 + (x1).toNat) (x2).toNat ≤ I (1 + 10 + (x1).toNat) (x4).toNat) rc_110_63 rfl (fun c9 => ?_) (fun c9 => ?_)
        · rw [if_pos c9] at h
          show GO S0 110 69 [vR 204, vI x1, vI x2, vI x3, vI x4] [] I K
          obtain ⟨c10, h⟩ := h
          refine G_iinc rc_110_69 rfl c10 ?_
          show GO S0 110 72 [vR 204, vI x1, vI x2, vI x3, vI (x4 + 1)] [] I K
          refine G_goto rc_110_72 ?_
          show GO S0 110 13 [vR 204, vI x1, vI x2, vI x3, vI (x4 + 1)] [] I K
          exact h
        · rw [if_neg c9] at h
          show GO S0 110 66 [vR 204, vI x1, vI x2, vI x3, vI x4] [] I K
          refine G_loadI rc_110_66 rfl ?_
          refine G_storeI rc_110_68 (Nat.le_of_ble_eq_true rfl) ?_
          show GO S0 110 69 [vR 204, vI x1, vI x4, vI x3, vI x4] [] I K
          obtain ⟨c11, h⟩ := h
          refine G_iinc rc_110_69 rfl c11 ?_
          show GO S0 110 72 [vR 204, vI x1, vI x4, vI x3, vI (x4 + 1)] [] I K
          refine G_goto rc_110_72 ?_
          show GO S0 110 13 [vR 204, vI x1, vI x4, vI x3, vI (x4 + 1)] [] I K
          exact h
def D110_0 (x1 : Int) (I : IM) (K : Option AV → IM → Prop) : Prop :=
  CALL S0 52 [vR 29] I (fun v I1 => ∃ y2 : Int, v = some (vI y2) ∧ GO S0 110 13 [vR 204, vI x1, vI (-1), vI y2, vI 0] [] I1 K)
set_option maxRecDepth 10000 in
theorem g110_0 (x1 : Int) (I : IM) (K : Option AV → IM → Prop) (h : D110_0 x1 I K) : GO S0 110 0 [vR 204, vI x1, vU, vU, vU] [] I K := by
  unfold D110_0 at h
  refine G_const rc_110_0 (by decide) ?_
  refine G_storeI rc_110_1 (Nat.le_of_ble_eq_true rfl) ?_
  show GO S0 110 2 [vR 204, vI x1, vI (-1), vU, vU] [] I K
  refine G_loadR rc_110_2 rfl ?_
  refine G_getR rc_110_3 s0_204 (by decide) rfl (by decide) ?_
  show GO S0 110 6 [vR 204, vI x1, vI (-1), vU, vU] [vR 29] I K
  refine G_call (as := [vR 29]) (rest := []) rc_110_6 rfl rfl rfl (Nat.le_of_ble_eq_true rfl) (g_recv s0_29 rfl) ?_
  refine GO.imp h (fun v I1 h => ?_)
  obtain ⟨y2, rfl, h⟩ := h
  show GO S0 110 9 [vR 204, vI x1, vI (-1), vU, vU] [vI y2] I1 K
  refine G_storeI rc_110_9 (Nat.le_of_ble_eq_true rfl) ?_
  show GO S0 110 10 [vR 204, vI x1, vI (-1), vI y2, vU] [] I1 K
  refine G_const rc_110_10 (by decide) ?_
  refine G_storeI rc_110_11 (Nat.le_of_ble_eq_true rfl) ?_
  show GO S0 110 13 [vR 204, vI x1, vI (-1), vI y2, vI 0] [] I1 K
  exact h
/-! 111: RoundSlack.again(III)I -/
def D111_0 (x1 : Int) (x2 : Int) (x3 : Int) (I : IM) (K : Option AV → IM → Prop) : Prop :=
  CALL S0 21 [vR 0, vI x1] I (fun v I1 => ∃ y2 : Int, v = some (vI y2) ∧ (if y2 = 0 then (K (some (vI (-1))) I1) else (CALL S0 14 [vI x2, vI 1, vI 12] I1 (fun v I4 => ∃ y5 : Int, v = some (vI y5) ∧ (if y5 = 0 then (K (some (vI (-2))) I4) else (CALL S0 14 [vI x3, vI 1, vI 4] I4 (fun v I7 => ∃ y8 : Int, v = some (vI y8) ∧ (if y8 = 0 then (K (some (vI (-2))) I7) else (CALL S0 53 [vR 71, vR 29] I7 (fun v I10 => v = none ∧ CALL S0 46 [vR 193, vR 29] I10 (fun v I11 => ∃ y12 : Int, v = some (vI y12) ∧ CALL S0 109 [vR 204, vI x1, vI x2] I11 (fun v I13 => ∃ y14 : Int, v = some (vI y14) ∧ CALL S0 107 [vR 204, vI x3] I13 (fun v I15 => ∃ y16 : Int, v = some (vI y16) ∧ CALL S0 96 [vR 195, vI 40] I15 (fun v I17 => ∃ y18 : Int, v = some (vI y18) ∧ CALL S0 46 [vR 193, vR 29] I17 (fun v I19 => ∃ y20 : Int, v = some (vI y20) ∧ (inR (y12 - y20)) ∧ (if (0 : Int) < y12 - y20 then (CALL S0 77 [vR 78, vR 71] I19 (fun v I23 => v = none ∧ K (some (vI (y12 - y20))) I23)) else (CALL S0 53 [vR 29, vR 71] I19 (fun v I24 => v = none ∧ K (some (vI 0)) I24))))))))))))))))))
set_option maxRecDepth 10000 in
theorem g111_0 (x1 : Int) (x2 : Int) (x3 : Int) (I : IM) (K : Option AV → IM → Prop) (h : D111_0 x1 x2 x3 I K) : GO S0 111 0 [vR 0, vI x1, vI x2, vI x3, vU, vU] [] I K := by
  unfold D111_0 at h
  refine G_loadR rc_111_0 rfl ?_
  refine G_loadI rc_111_1 rfl ?_
  refine G_call (as := [vR 0, vI x1]) (rest := []) rc_111_2 rfl rfl rfl (Nat.le_of_ble_eq_true rfl) (g_recv s0_0 rfl) ?_
  refine GO.imp h (fun v I1 h => ?_)
  obtain ⟨y2, rfl, h⟩ := h
  show GO S0 111 5 [vR 0, vI x1, vI x2, vI x3, vU, vU] [vI y2] I1 K
  refine G_i1 (C := ¬ y2 = 0) rc_111_5 rfl (fun c3 => ?_) (fun c3 => ?_)
  · rw [if_neg c3] at h
    show GO S0 111 10 [vR 0, vI x1, vI x2, vI x3, vU, vU] [] I1 K
    refine G_loadI rc_111_10 rfl ?_
    refine G_const rc_111_11 (by decide) ?_
    refine G_const rc_111_12 (by decide) ?_
    refine G_call (as := [vI x2, vI 1, vI 12]) (rest := []) rc_111_14 rfl rfl rfl (Nat.le_of_ble_eq_true rfl) rfl ?_
    refine GO.imp h (fun v I4 h => ?_)
    obtain ⟨y5, rfl, h⟩ := h
    show GO S0 111 17 [vR 0, vI x1, vI x2, vI x3, vU, vU] [vI y5] I4 K
    refine G_i1 (C := y5 = 0) rc_111_17 rfl (fun c6 => ?_) (fun c6 => ?_)
    · rw [if_pos c6] at h
      show GO S0 111 29 [vR 0, vI x1, vI x2, vI x3, vU, vU] [] I4 K
      refine G_const rc_111_29 (by decide) ?_
      exact G_retI rc_111_31 (Or.inl rfl) h
    · rw [if_neg c6] at h
      show GO S0 111 20 [vR 0, vI x1, vI x2, vI x3, vU, vU] [] I4 K
      refine G_loadI rc_111_20 rfl ?_
      refine G_const rc_111_21 (by decide) ?_
      refine G_const rc_111_22 (by decide) ?_
      refine G_call (as := [vI x3, vI 1, vI 4]) (rest := []) rc_111_23 rfl rfl rfl (Nat.le_of_ble_eq_true rfl) rfl ?_
      refine GO.imp h (fun v I7 h => ?_)
      obtain ⟨y8, rfl, h⟩ := h
      show GO S0 111 26 [vR 0, vI x1, vI x2, vI x3, vU, vU] [vI y8] I7 K
      refine G_i1 (C := ¬ y8 = 0) rc_111_26 rfl (fun c9 => ?_) (fun c9 => ?_)
      · rw [if_neg c9] at h
        show GO S0 111 32 [vR 0, vI x1, vI x2, vI x3, vU, vU] [] I7 K
        refine G_loadR rc_111_32 rfl ?_
        refine G_getR rc_111_33 s0_0 (by decide) rfl (by decide) ?_
        show GO S0 111 36 [vR 0, vI x1, vI x2, vI x3, vU, vU] [vR 71] I7 K
        refine G_loadR rc_111_36 rfl ?_
        refine G_getR rc_111_37 s0_0 (by decide) rfl (by decide) ?_
        show GO S0 111 40 [vR 0, vI x1, vI x2, vI x3, vU, vU] [vR 29, vR 71] I7 K
        refine G_call (as := [vR 71, vR 29]) (rest := []) rc_111_40 rfl rfl rfl (Nat.le_of_ble_eq_true rfl) (g_recv s0_71 rfl) ?_
        refine GO.imp h (fun v I10 h => ?_)
        obtain ⟨rfl, h⟩ := h
        show GO S0 111 43 [vR 0, vI x1, vI x2, vI x3, vU, vU] [] I10 K
        refine G_loadR rc_111_43 rfl ?_
        refine G_getR rc_111_44 s0_0 (by decide) rfl (by decide) ?_
        show GO S0 111 47 [vR 0, vI x1, vI x2, vI x3, vU, vU] [vR 193] I10 K
        refine G_loadR rc_111_47 rfl ?_
        refine G_getR rc_111_48 s0_0 (by decide) rfl (by decide) ?_
        show GO S0 111 51 [vR 0, vI x1, vI x2, vI x3, vU, vU] [vR 29, vR 193] I10 K
        refine G_call (as := [vR 193, vR 29]) (rest := []) rc_111_51 rfl rfl rfl (Nat.le_of_ble_eq_true rfl) (g_recv s0_193 rfl) ?_
        refine GO.imp h (fun v I11 h => ?_)
        obtain ⟨y12, rfl, h⟩ := h
        show GO S0 111 54 [vR 0, vI x1, vI x2, vI x3, vU, vU] [vI y12] I11 K
        refine G_storeI rc_111_54 (Nat.le_of_ble_eq_true rfl) ?_
        show GO S0 111 56 [vR 0, vI x1, vI x2, vI x3, vI y12, vU] [] I11 K
        refine G_loadR rc_111_56 rfl ?_
        refine G_getR rc_111_57 s0_0 (by decide) rfl (by decide) ?_
        show GO S0 111 60 [vR 0, vI x1, vI x2, vI x3, vI y12, vU] [vR 204] I11 K
        refine G_loadI rc_111_60 rfl ?_
        refine G_loadI rc_111_61 rfl ?_
        refine G_call (as := [vR 204, vI x1, vI x2]) (rest := []) rc_111_62 rfl rfl rfl (Nat.le_of_ble_eq_true rfl) (g_recv s0_204 rfl) ?_
        refine GO.imp h (fun v I13 h => ?_)
        obtain ⟨y14, rfl, h⟩ := h
        show GO S0 111 65 [vR 0, vI x1, vI x2, vI x3, vI y12, vU] [vI y14] I13 K
        refine G_pop rc_111_65 ?_
        refine G_loadR rc_111_66 rfl ?_
        refine G_getR rc_111_67 s0_0 (by decide) rfl (by decide) ?_
        show GO S0 111 70 [vR 0, vI x1, vI x2, vI x3, vI y12, vU] [vR 204] I13 K
        refine G_loadI rc_111_70 rfl ?_
        refine G_call (as := [vR 204, vI x3]) (rest := []) rc_111_71 rfl rfl rfl (Nat.le_of_ble_eq_true rfl) (g_recv s0_204 rfl) ?_
        refine GO.imp h (fun v I15 h => ?_)
        obtain ⟨y16, rfl, h⟩ := h
        show GO S0 111 74 [vR 0, vI x1, vI x2, vI x3, vI y12, vU] [vI y16] I15 K
        refine G_pop rc_111_74 ?_
        refine G_loadR rc_111_75 rfl ?_
        refine G_getR rc_111_76 s0_0 (by decide) rfl (by decide) ?_
        show GO S0 111 79 [vR 0, vI x1, vI x2, vI x3, vI y12, vU] [vR 195] I15 K
        refine G_const rc_111_79 (by decide) ?_
        refine G_call (as := [vR 195, vI 40]) (rest := []) rc_111_81 rfl rfl rfl (Nat.le_of_ble_eq_true rfl) (g_recv s0_195 rfl) ?_
        refine GO.imp h (fun v I17 h => ?_)
        obtain ⟨y18, rfl, h⟩ := h
        show GO S0 111 84 [vR 0, vI x1, vI x2, vI x3, vI y12, vU] [vI y18] I17 K
        refine G_pop rc_111_84 ?_
        refine G_loadI rc_111_85 rfl ?_
        refine G_loadR rc_111_87 rfl ?_
        refine G_getR rc_111_88 s0_0 (by decide) rfl (by decide) ?_
        show GO S0 111 91 [vR 0, vI x1, vI x2, vI x3, vI y12, vU] [vR 193, vI y12] I17 K
        refine G_loadR rc_111_91 rfl ?_
        refine G_getR rc_111_92 s0_0 (by decide) rfl (by decide) ?_
        show GO S0 111 95 [vR 0, vI x1, vI x2, vI x3, vI y12, vU] [vR 29, vR 193, vI y12] I17 K
        refine G_call (as := [vR 193, vR 29]) (rest := [vI y12]) rc_111_95 rfl rfl rfl (Nat.le_of_ble_eq_true rfl) (g_recv s0_193 rfl) ?_
        refine GO.imp h (fun v I19 h => ?_)
        obtain ⟨y20, rfl, h⟩ := h
        show GO S0 111 98 [vR 0, vI x1, vI x2, vI x3, vI y12, vU] [vI y20, vI y12] I19 K
        obtain ⟨c21, h⟩ := h
        refine G_bop (z := y12 - y20) rc_111_98 (if_pos c21) ?_
        show GO S0 111 99 [vR 0, vI x1, vI x2, vI x3, vI y12, vU] [vI (y12 - y20)] I19 K
        refine G_storeI rc_111_99 (Nat.le_of_ble_eq_true rfl) ?_
        show GO S0 111 101 [vR 0, vI x1, vI x2, vI x3, vI y12, vI (y12 - y20)] [] I19 K
        refine G_loadI rc_111_101 rfl ?_
        refine G_i1 (C := (0 : Int) < y12 - y20) rc_111_103 rfl (fun c22 => ?_) (fun c22 => ?_)
        · rw [if_pos c22] at h
          show GO S0 111 119 [vR 0, vI x1, vI x2, vI x3, vI y12, vI (y12 - y20)] [] I19 K
          refine G_loadR rc_111_119 rfl ?_
          refine G_getR rc_111_120 s0_0 (by decide) rfl (by decide) ?_
          show GO S0 111 123 [vR 0, vI x1, vI x2, vI x3, vI y12, vI (y12 - y20)] [vR 78] I19 K
          refine G_loadR rc_111_123 rfl ?_
          refine G_getR rc_111_124 s0_0 (by decide) rfl (by decide) ?_
          show GO S0 111 127 [vR 0, vI x1, vI x2, vI x3, vI y12, vI (y12 - y20)] [vR 71, vR 78] I19 K
          refine G_call (as := [vR 78, vR 71]) (rest := []) rc_111_127 rfl rfl rfl (Nat.le_of_ble_eq_true rfl) (g_recv s0_78 rfl) ?_
          refine GO.imp h (fun v I23 h => ?_)
          obtain ⟨rfl, h⟩ := h
          show GO S0 111 130 [vR 0, vI x1, vI x2, vI x3, vI y12, vI (y12 - y20)] [] I23 K
          refine G_loadI rc_111_130 rfl ?_
          exact G_retI rc_111_132 (Or.inl rfl) h
        · rw [if_neg c22] at h
          show GO S0 111 106 [vR 0, vI x1, vI x2, vI x3, vI y12, vI (y12 - y20)] [] I19 K
          refine G_loadR rc_111_106 rfl ?_
          refine G_getR rc_111_107 s0_0 (by decide) rfl (by decide) ?_
          show GO S0 111 110 [vR 0, vI x1, vI x2, vI x3, vI y12, vI (y12 - y20)] [vR 29] I19 K
          refine G_loadR rc_111_110 rfl ?_
          refine G_getR rc_111_111 s0_0 (by decide) rfl (by decide) ?_
          show GO S0 111 114 [vR 0, vI x1, vI x2, vI x3, vI y12, vI (y12 - y20)] [vR 71, vR 29] I19 K
          refine G_call (as := [vR 29, vR 71]) (rest := []) rc_111_114 rfl rfl rfl (Nat.le_of_ble_eq_true rfl) (g_recv s0_29 rfl) ?_
          refine GO.imp h (fun v I24 h => ?_)
          obtain ⟨rfl, h⟩ := h
          show GO S0 111 117 [vR 0, vI x1, vI x2, vI x3, vI y12, vI (y12 - y20)] [] I24 K
          refine G_const rc_111_117 (by decide) ?_
          exact G_retI rc_111_118 (Or.inl rfl) h
      · rw [if_pos (Classical.not_not.mp c9)] at h
        show GO S0 111 29 [vR 0, vI x1, vI x2, vI x3, vU, vU] [] I7 K
        refine G_const rc_111_29 (by decide) ?_
        exact G_retI rc_111_31 (Or.inl rfl) h
  · rw [if_pos (Classical.not_not.mp c3)] at h
    show GO S0 111 8 [vR 0, vI x1, vI x2, vI x3, vU, vU] [] I1 K
    refine G_const rc_111_8 (by decide) ?_
    exact G_retI rc_111_9 (Or.inl rfl) h
/-! 112: RoundSlack.back()I -/
def D112_0 (I : IM) (K : Option AV → IM → Prop) : Prop :=
  CALL S0 113 [vR 78, vR 29] I (fun v I1 => ∃ y2 : Int, v = some (vI y2) ∧ (if y2 = 0 then (K (some (vI (-3))) I1) else (K (some (vI (I1 78 2))) I1)))
set_option maxRecDepth 10000 in
theorem g112_0 (I : IM) (K : Option AV → IM → Prop) (h : D112_0 I K) : GO S0 112 0 [vR 0] [] I K := by
  unfold D112_0 at h
  refine G_loadR rc_112_0 rfl ?_
  refine G_getR rc_112_1 s0_0 (by decide) rfl (by decide) ?_
  show GO S0 112 4 [vR 0] [vR 78] I K
  refine G_loadR rc_112_4 rfl ?_
  refine G_getR rc_112_5 s0_0 (by decide) rfl (by decide) ?_
  show GO S0 112 8 [vR 0] [vR 29, vR 78] I K
  refine G_call (as := [vR 78, vR 29]) (rest := []) rc_112_8 rfl rfl rfl (Nat.le_of_ble_eq_true rfl) (g_recv s0_78 rfl) ?_
  refine GO.imp h (fun v I1 h => ?_)
  obtain ⟨y2, rfl, h⟩ := h
  show GO S0 112 11 [vR 0] [vI y2] I1 K
  refine G_i1 (C := y2 = 0) rc_112_11 rfl (fun c3 => ?_) (fun c3 => ?_)
  · rw [if_pos c3] at h
    show GO S0 112 24 [vR 0] [] I1 K
    refine G_const rc_112_24 (by decide) ?_
    exact G_retI rc_112_26 (Or.inl rfl) h
  · rw [if_neg c3] at h
    show GO S0 112 14 [vR 0] [] I1 K
    refine G_loadR rc_112_14 rfl ?_
    refine G_getR rc_112_15 s0_0 (by decide) rfl (by decide) ?_
    show GO S0 112 18 [vR 0] [vR 78] I1 K
    refine G_getI rc_112_18 s0_78 (by decide) ?_
    show GO S0 112 21 [vR 0] [vI (I1 78 2)] I1 K
    refine G_goto rc_112_21 ?_
    show GO S0 112 26 [vR 0] [vI (I1 78 2)] I1 K
    exact G_retI rc_112_26 (Or.inl rfl) h
/-! 113: RoundSlack$Steps.takeBack(LRoundSlack$Rounds;)Z -/
def D113_0 (r1 : Nat) (I : IM) (K : Option AV → IM → Prop) : Prop :=
  (if I 78 2 = 0 then (K (some (vI 0)) I) else ((inR ((I 78 2) - 1)) ∧ ∀ I3 : IM, I3 = iup I 78 2 ((I 78 2) - 1) → (inR ((I3 78 1) + 16)) ∧ (inR (((I3 78 1) + 16) - 1)) ∧ (inR (Int.tdiv (((I3 78 1) + 16) - 1) 16)) ∧ ∀ I7 : IM, I7 = iup I3 78 1 (Int.tmod (((I3 78 1) + 16) - 1) 16) → (0 ≤ I7 78 1 ∧ I7 78 1 < 16) ∧ CALL S0 53 [vR r1, vR ((80 + 7 * (I7 78 1).toNat))] I7 (fun v I9 => v = none ∧ K (some (vI 1)) I9)))
set_option maxRecDepth 10000 in
theorem g113_0 (r1 : Nat) (h1 : isRd r1) (I : IM) (K : Option AV → IM → Prop) (h : D113_0 r1 I K) : GO S0 113 0 [vR 78, vR r1] [] I K := by
  unfold D113_0 at h
  refine G_loadR rc_113_0 rfl ?_
  refine G_getI rc_113_1 s0_78 (by decide) ?_
  show GO S0 113 4 [vR 78, vR r1] [vI (I 78 2)] I K
  refine G_i1 (C := ¬ I 78 2 = 0) rc_113_4 rfl (fun c1 => ?_) (fun c1 => ?_)
  · rw [if_neg c1] at h
    show GO S0 113 9 [vR 78, vR r1] [] I K
    refine G_loadR rc_113_9 rfl ?_
    refine G_dupR rc_113_10 ?_
    refine G_getI rc_113_11 s0_78 (by decide) ?_
    show GO S0 113 14 [vR 78, vR r1] [vI (I 78 2), vR 78] I K
    refine G_const rc_113_14 (by decide) ?_
    obtain ⟨c2, h⟩ := h
    refine G_bop (z := (I 78 2) - 1) rc_113_15 (if_pos c2) ?_
    show GO S0 113 16 [vR 78, vR r1] [vI ((I 78 2) - 1), vR 78] I K
    refine G_putI rc_113_16 s0_78 (by decide) (Or.inl rfl) ?_
    show GO S0 113 19 [vR 78, vR r1] [] (iup I 78 2 ((I 78 2) - 1)) K
    have h := h _ rfl
    generalize iup I 78 2 ((I 78 2) - 1) = I3 at h ⊢
    refine G_loadR rc_113_19 rfl ?_
    refine G_loadR rc_113_20 rfl ?_
    refine G_getI rc_113_21 s0_78 (by decide) ?_
    show GO S0 113 24 [vR 78, vR r1] [vI (I3 78 1), vR 78] I3 K
    refine G_const rc_113_24 (by decide) ?_
    obtain ⟨c4, h⟩ := h
    refine G_bop (z := (I3 78 1) + 16) rc_113_26 (if_pos c4) ?_
    show GO S0 113 27 [vR 78, vR r1] [vI ((I3 78 1) + 16), vR 78] I3 K
    refine G_const rc_113_27 (by decide) ?_
    obtain ⟨c5, h⟩ := h
    refine G_bop (z := ((I3 78 1) + 16) - 1) rc_113_28 (if_pos c5) ?_
    show GO S0 113 29 [vR 78, vR r1] [vI (((I3 78 1) + 16) - 1), vR 78] I3 K
    refine G_const rc_113_29 (by decide) ?_
    obtain ⟨c6, h⟩ := h
    refine G_bop (z := Int.tmod (((I3 78 1) + 16) - 1) 16) rc_113_31 (show (if (16 : Int) ≠ 0 ∧ inR (Int.tdiv (((I3 78 1) + 16) - 1) 16) then some (Int.tmod (((I3 78 1) + 16) - 1) 16) else none) = some (Int.tmod (((I3 78 1) + 16) - 1) 16) from if_pos ⟨by decide, c6⟩) ?_
    show GO S0 113 32 [vR 78, vR r1] [vI (Int.tmod (((I3 78 1) + 16) - 1) 16), vR 78] I3 K
    refine G_putI rc_113_32 s0_78 (by decide) (Or.inl rfl) ?_
    show GO S0 113 35 [vR 78, vR r1] [] (iup I3 78 1 (Int.tmod (((I3 78 1) + 16) - 1) 16)) K
    have h := h _ rfl
    generalize iup I3 78 1 (Int.tmod (((I3 78 1) + 16) - 1) 16) = I7 at h ⊢
    refine G_loadR rc_113_35 rfl ?_
    refine G_loadR rc_113_36 rfl ?_
    refine G_getR rc_113_37 s0_78 (by decide) rfl (by decide) ?_
    show GO S0 113 40 [vR 78, vR r1] [vR 79, vR r1] I7 K
    refine G_loadR rc_113_40 rfl ?_
    refine G_getI rc_113_41 s0_78 (by decide) ?_
    show GO S0 113 44 [vR 78, vR r1] [vI (I7 78 1), vR 79, vR r1] I7 K
    obtain ⟨c8, h⟩ := h
    refine G_aldR rc_113_44 s0_79 (Or.inr rfl) (by omega) (by omega) (rw79 (i := (I7 78 1).toNat) (by omega)) (by omega) ?_
    show GO S0 113 45 [vR 78, vR r1] [vR ((80 + 7 * (I7 78 1).toNat)), vR r1] I7 K
    refine G_call (as := [vR r1, vR ((80 + 7 * (I7 78 1).toNat))]) (rest := []) rc_113_45 rfl rfl rfl (Nat.le_of_ble_eq_true rfl) (g_recv (rd_0 h1) rfl) ?_
    refine GO.imp h (fun v I9 h => ?_)
    obtain ⟨rfl, h⟩ := h
    show GO S0 113 48 [vR 78, vR r1] [] I9 K
    refine G_const rc_113_48 (by decide) ?_
    exact G_retI rc_113_49 (Or.inr (by decide)) h
  · rw [if_pos (Classical.not_not.mp c1)] at h
    show GO S0 113 7 [vR 78, vR r1] [] I K
    refine G_const rc_113_7 (by decide) ?_
    exact G_retI rc_113_8 (Or.inr (by decide)) h
/-! 114: RoundSlack.told(I)I -/
def D114_0 (x1 : Int) (I : IM) (K : Option AV → IM → Prop) : Prop :=
  CALL S0 14 [vI x1, vI 20, vI 23] I (fun v I1 => ∃ y2 : Int, v = some (vI y2) ∧ (if y2 = 0 then (CALL S0 14 [vI x1, vI 24, vI 27] I1 (fun v I4 => ∃ y5 : Int, v = some (vI y5) ∧ (if y5 = 0 then (CALL S0 14 [vI x1, vI 28, vI 31] I4 (fun v I7 => ∃ y8 : Int, v = some (vI y8) ∧ (if y8 = 0 then ((if x1 = 0 then (K (some (vI (I7 1 0))) I7) else (if x1 = 1 then (CALL S0 15 [vR 29] I7 (fun v I12 => ∃ y13 : Int, v = some (vI y13) ∧ (inR ((I7 1 0) - y13)) ∧ K (some (vI ((I7 1 0) - y13))) I12)) else (if x1 = 2 then (CALL S0 115 [vR 29] I7 (fun v I16 => ∃ y17 : Int, v = some (vI y17) ∧ K (some (vI y17)) I16)) else (if x1 = 3 then (K (some (vI (I7 78 2))) I7) else (if x1 = 4 then (K (some (vI (I7 208 1))) I7) else (if x1 = 5 then (K (some (vI (I7 210 1))) I7) else (if x1 = 6 then (K (some (vI (I7 28 0))) I7) else (if x1 = 7 then (K (some (vI (I7 28 1))) I7) else (if x1 = 8 then (K (some (vI (I7 28 2))) I7) else (if x1 = 9 then (K (some (vI (I7 2 12))) I7) else (if x1 = 10 then (K (some (vI (I7 3 12))) I7) else (K (some (vI (-1))) I7))))))))))))) else ((inR (x1 - 28)) ∧ (0 ≤ x1 - 28 ∧ x1 - 28 < 4) ∧ K (some (vI (I7 27 (x1 - 28).toNat))) I7)))) else ((inR (x1 - 24)) ∧ (0 ≤ x1 - 24 ∧ x1 - 24 < 4) ∧ K (some (vI (I4 26 (x1 - 24).toNat))) I4)))) else ((inR (x1 - 20)) ∧ (0 ≤ x1 - 20 ∧ x1 - 20 < 4) ∧ K (some (vI (I1 25 (x1 - 20).toNat))) I1)))
set_option maxRecDepth 10000 in
theorem g114_0 (x1 : Int) (I : IM) (K : Option AV → IM → Prop) (h : D114_0 x1 I K) : GO S0 114 0 [vR 0, vI x1] [] I K := by
  unfold D114_0 at h
  refine G_loadI rc_114_0 rfl ?_
  refine G_const rc_114_1 (by decide) ?_
  refine G_const rc_114_3 (by decide) ?_
  refine G_call (as := [vI x1, vI 20, vI 23]) (rest := []) rc_114_5 rfl rfl rfl (Nat.le_of_ble_eq_true rfl) rfl ?_
  refine GO.imp h (fun v I1 h => ?_)
  obtain ⟨y2, rfl, h⟩ := h
  show GO S0 114 8 [vR 0, vI x1] [vI y2] I1 K
  refine G_i1 (C := y2 = 0) rc_114_8 rfl (fun c3 => ?_) (fun c3 => ?_)
  · rw [if_pos c3] at h
    show GO S0 114 24 [vR 0, vI x1] [] I1 K
    refine G_loadI rc_114_24 rfl ?_
    refine G_const rc_114_25 (by decide) ?_
    refine G_const rc_114_27 (by decide) ?_
    refine G_call (as := [vI x1, vI 24, vI 27]) (rest := []) rc_114_29 rfl rfl rfl (Nat.le_of_ble_eq_true rfl) rfl ?_
    refine GO.imp h (fun v I4 h => ?_)
    obtain ⟨y5, rfl, h⟩ := h
    show GO S0 114 32 [vR 0, vI x1] [vI y5] I4 K
    refine G_i1 (C := y5 = 0) rc_114_32 rfl (fun c6 => ?_) (fun c6 => ?_)
    · rw [if_pos c6] at h
      show GO S0 114 48 [vR 0, vI x1] [] I4 K
      refine G_loadI rc_114_48 rfl ?_
      refine G_const rc_114_49 (by decide) ?_
      refine G_const rc_114_51 (by decide) ?_
      refine G_call (as := [vI x1, vI 28, vI 31]) (rest := []) rc_114_53 rfl rfl rfl (Nat.le_of_ble_eq_true rfl) rfl ?_
      refine GO.imp h (fun v I7 h => ?_)
      obtain ⟨y8, rfl, h⟩ := h
      show GO S0 114 56 [vR 0, vI x1] [vI y8] I7 K
      refine G_i1 (C := y8 = 0) rc_114_56 rfl (fun c9 => ?_) (fun c9 => ?_)
      · rw [if_pos c9] at h
        show GO S0 114 72 [vR 0, vI x1] [] I7 K
        refine G_loadI rc_114_72 rfl ?_
        refine G_switch rc_114_73 ?_
        show GO S0 114 (if x1 = 0 then 132 else if x1 = 1 then 140 else if x1 = 2 then 156 else if x1 = 3 then 164 else if x1 = 4 then 172 else if x1 = 5 then 180 else if x1 = 6 then 188 else if x1 = 7 then 198 else if x1 = 8 then 208 else if x1 = 9 then 218 else if x1 = 10 then 229 else 240) [vR 0, vI x1] [] I7 K
        by_cases c10 : x1 = 0
        · rw [if_pos c10] at h
          rw [if_pos c10]
          show GO S0 114 132 [vR 0, vI x1] [] I7 K
          refine G_loadR rc_114_132 rfl ?_
          refine G_getR rc_114_133 s0_0 (by decide) rfl (by decide) ?_
          show GO S0 114 136 [vR 0, vI x1] [vR 1] I7 K
          refine G_getI rc_114_136 s0_1 (by decide) ?_
          show GO S0 114 139 [vR 0, vI x1] [vI (I7 1 0)] I7 K
          exact G_retI rc_114_139 (Or.inl rfl) h
        · rw [if_neg c10] at h
          rw [if_neg c10]
          by_cases c11 : x1 = 1
          · rw [if_pos c11] at h
            rw [if_pos c11]
            show GO S0 114 140 [vR 0, vI x1] [] I7 K
            refine G_loadR rc_114_140 rfl ?_
            refine G_getR rc_114_141 s0_0 (by decide) rfl (by decide) ?_
            show GO S0 114 144 [vR 0, vI x1] [vR 1] I7 K
            refine G_getI rc_114_144 s0_1 (by decide) ?_
            show GO S0 114 147 [vR 0, vI x1] [vI (I7 1 0)] I7 K
            refine G_loadR rc_114_147 rfl ?_
            refine G_getR rc_114_148 s0_0 (by decide) rfl (by decide) ?_
            show GO S0 114 151 [vR 0, vI x1] [vR 29, vI (I7 1 0)] I7 K
            refine G_call (as := [vR 29]) (rest := [vI (I7 1 0)]) rc_114_151 rfl rfl rfl (Nat.le_of_ble_eq_true rfl) (g_recv s0_29 rfl) ?_
            refine GO.imp h (fun v I12 h => ?_)
            obtain ⟨y13, rfl, h⟩ := h
            show GO S0 114 154 [vR 0, vI x1] [vI y13, vI (I7 1 0)] I12 K
            obtain ⟨c14, h⟩ := h
            refine G_bop (z := (I7 1 0) - y13) rc_114_154 (if_pos c14) ?_
            show GO S0 114 155 [vR 0, vI x1] [vI ((I7 1 0) - y13)] I12 K
            exact G_retI rc_114_155 (Or.inl rfl) h
          · rw [if_neg c11] at h
            rw [if_neg c11]
            by_cases c15 : x1 = 2
            · rw [if_pos c15] at h
              rw [if_pos c15]
              show GO S0 114 156 [vR 0, vI x1] [] I7 K
              refine G_loadR rc_114_156 rfl ?_
              refine G_getR rc_114_157 s0_0 (by decide) rfl (by decide) ?_
              show GO S0 114 160 [vR 0, vI x1] [vR 29] I7 K
              refine G_call (as := [vR 29]) (rest := []) rc_114_160 rfl rfl rfl (Nat.le_of_ble_eq_true rfl) (g_recv s0_29 rfl) ?_
              refine GO.imp h (fun v I16 h => ?_)
              obtain ⟨y17, rfl, h⟩ := h
              show GO S0 114 163 [vR 0, vI x1] [vI y17] I16 K
              exact G_retI rc_114_163 (Or.inl rfl) h
            · rw [if_neg c15] at h
              rw [if_neg c15]
              by_cases c18 : x1 = 3
              · rw [if_pos c18] at h
                rw [if_pos c18]
                show GO S0 114 164 [vR 0, vI x1] [] I7 K
                refine G_loadR rc_114_164 rfl ?_
                refine G_getR rc_114_165 s0_0 (by decide) rfl (by decide) ?_
                show GO S0 114 168 [vR 0, vI x1] [vR 78] I7 K
                refine G_getI rc_114_168 s0_78 (by decide) ?_
                show GO S0 114 171 [vR 0, vI x1] [vI (I7 78 2)] I7 K
                exact G_retI rc_114_171 (Or.inl rfl) h
              · rw [if_neg c18] at h
                rw [if_neg c18]
                by_cases c19 : x1 = 4
                · rw [if_pos c19] at h
                  rw [if_pos c19]
                  show GO S0 114 172 [vR 0, vI x1] [] I7 K
                  refine G_loadR rc_114_172 rfl ?_
                  refine G_getR rc_114_173 s0_0 (by decide) rfl (by decide) ?_
                  show GO S0 114 176 [vR 0, vI x1] [vR 208] I7 K
                  refine G_getI rc_114_176 s0_208 (by decide) ?_
                  show GO S0 114 179 [vR 0, vI x1] [vI (I7 208 1)] I7 K
                  exact G_retI rc_114_179 (Or.inl rfl) h
                · rw [if_neg c19] at h
                  rw [if_neg c19]
                  by_cases c20 : x1 = 5
                  · rw [if_pos c20] at h
                    rw [if_pos c20]
                    show GO S0 114 180 [vR 0, vI x1] [] I7 K
                    refine G_loadR rc_114_180 rfl ?_
                    refine G_getR rc_114_181 s0_0 (by decide) rfl (by decide) ?_
                    show GO S0 114 184 [vR 0, vI x1] [vR 210] I7 K
                    refine G_getI rc_114_184 s0_210 (by decide) ?_
                    show GO S0 114 187 [vR 0, vI x1] [vI (I7 210 1)] I7 K
                    exact G_retI rc_114_187 (Or.inl rfl) h
                  · rw [if_neg c20] at h
                    rw [if_neg c20]
                    by_cases c21 : x1 = 6
                    · rw [if_pos c21] at h
                      rw [if_pos c21]
                      show GO S0 114 188 [vR 0, vI x1] [] I7 K
                      refine G_loadR rc_114_188 rfl ?_
                      refine G_getR rc_114_189 s0_0 (by decide) rfl (by decide) ?_
                      show GO S0 114 192 [vR 0, vI x1] [vR 24] I7 K
                      refine G_getR rc_114_192 s0_24 (by decide) rfl (by decide) ?_
                      show GO S0 114 195 [vR 0, vI x1] [vR 28] I7 K
                      refine G_const rc_114_195 (by decide) ?_
                      refine G_ald rc_114_196 s0_28 (by decide) (by decide) ?_
                      show GO S0 114 197 [vR 0, vI x1] [vI (I7 28 0)] I7 K
                      exact G_retI rc_114_197 (Or.inl rfl) h
                    · rw [if_neg c21] at h
                      rw [if_neg c21]
                      by_cases c22 : x1 = 7
                      · rw [if_pos c22] at h
                        rw [if_pos c22]
                        show GO S0 114 198 [vR 0, vI x1] [] I7 K
                        refine G_loadR rc_114_198 rfl ?_
                        refine G_getR rc_114_199 s0_0 (by decide) rfl (by decide) ?_
                        show GO S0 114 202 [vR 0, vI x1] [vR 24] I7 K
                        refine G_getR rc_114_202 s0_24 (by decide) rfl (by decide) ?_
                        show GO S0 114 205 [vR 0, vI x1] [vR 28] I7 K
                        refine G_const rc_114_205 (by decide) ?_
                        refine G_ald rc_114_206 s0_28 (by decide) (by decide) ?_
                        show GO S0 114 207 [vR 0, vI x1] [vI (I7 28 1)] I7 K
                        exact G_retI rc_114_207 (Or.inl rfl) h
                      · rw [if_neg c22] at h
                        rw [if_neg c22]
                        by_cases c23 : x1 = 8
                        · rw [if_pos c23] at h
                          rw [if_pos c23]
                          show GO S0 114 208 [vR 0, vI x1] [] I7 K
                          refine G_loadR rc_114_208 rfl ?_
                          refine G_getR rc_114_209 s0_0 (by decide) rfl (by decide) ?_
                          show GO S0 114 212 [vR 0, vI x1] [vR 24] I7 K
                          refine G_getR rc_114_212 s0_24 (by decide) rfl (by decide) ?_
                          show GO S0 114 215 [vR 0, vI x1] [vR 28] I7 K
                          refine G_const rc_114_215 (by decide) ?_
                          refine G_ald rc_114_216 s0_28 (by decide) (by decide) ?_
                          show GO S0 114 217 [vR 0, vI x1] [vI (I7 28 2)] I7 K
                          exact G_retI rc_114_217 (Or.inl rfl) h
                        · rw [if_neg c23] at h
                          rw [if_neg c23]
                          by_cases c24 : x1 = 9
                          · rw [if_pos c24] at h
                            rw [if_pos c24]
                            show GO S0 114 218 [vR 0, vI x1] [] I7 K
                            refine G_loadR rc_114_218 rfl ?_
                            refine G_getR rc_114_219 s0_0 (by decide) rfl (by decide) ?_
                            show GO S0 114 222 [vR 0, vI x1] [vR 1] I7 K
                            refine G_getR rc_114_222 s0_1 (by decide) rfl (by decide) ?_
                            show GO S0 114 225 [vR 0, vI x1] [vR 2] I7 K
                            refine G_const rc_114_225 (by decide) ?_
                            refine G_ald rc_114_227 s0_2 (by decide) (by decide) ?_
                            show GO S0 114 228 [vR 0, vI x1] [vI (I7 2 12)] I7 K
                            exact G_retI rc_114_228 (Or.inl rfl) h
                          · rw [if_neg c24] at h
                            rw [if_neg c24]
                            by_cases c25 : x1 = 10
                            · rw [if_pos c25] at h
                              rw [if_pos c25]
                              show GO S0 114 229 [vR 0, vI x1] [] I7 K
                              refine G_loadR rc_114_229 rfl ?_
                              refine G_getR rc_114_230 s0_0 (by decide) rfl (by decide) ?_
                              show GO S0 114 233 [vR 0, vI x1] [vR 1] I7 K
                              refine G_getR rc_114_233 s0_1 (by decide) rfl (by decide) ?_
                              show GO S0 114 236 [vR 0, vI x1] [vR 3] I7 K
                              refine G_const rc_114_236 (by decide) ?_
                              refine G_ald rc_114_238 s0_3 (by decide) (by decide) ?_
                              show GO S0 114 239 [vR 0, vI x1] [vI (I7 3 12)] I7 K
                              exact G_retI rc_114_239 (Or.inl rfl) h
                            · rw [if_neg c25] at h
                              rw [if_neg c25]
                              show GO S0 114 240 [vR 0, vI x1] [] I7 K
                              refine G_const rc_114_240 (by decide) ?_
                              exact G_retI rc_114_241 (Or.inl rfl) h
      · rw [if_neg c9] at h
        show GO S0 114 59 [vR 0, vI x1] [] I7 K
        refine G_loadR rc_114_59 rfl ?_
        refine G_getR rc_114_60 s0_0 (by decide) rfl (by decide) ?_
        show GO S0 114 63 [vR 0, vI x1] [vR 24] I7 K
        refine G_getR rc_114_63 s0_24 (by decide) rfl (by decide) ?_
        show GO S0 114 66 [vR 0, vI x1] [vR 27] I7 K
        refine G_loadI rc_114_66 rfl ?_
        refine G_const rc_114_67 (by decide) ?_
        obtain ⟨c26, h⟩ := h
        refine G_bop (z := x1 - 28) rc_114_69 (if_pos c26) ?_
        show GO S0 114 70 [vR 0, vI x1] [vI (x1 - 28), vR 27] I7 K
        obtain ⟨c27, h⟩ := h
        refine G_ald rc_114_70 s0_27 (by omega) (by omega) ?_
        show GO S0 114 71 [vR 0, vI x1] [vI (I7 27 (x1 - 28).toNat)] I7 K
        exact G_retI rc_114_71 (Or.inl rfl) h
    · rw [if_neg c6] at h
      show GO S0 114 35 [vR 0, vI x1] [] I4 K
      refine G_loadR rc_114_35 rfl ?_
      refine G_getR rc_114_36 s0_0 (by decide) rfl (by decide) ?_
      show GO S0 114 39 [vR 0, vI x1] [vR 24] I4 K
      refine G_getR rc_114_39 s0_24 (by decide) rfl (by decide) ?_
      show GO S0 114 42 [vR 0, vI x1] [vR 26] I4 K
      refine G_loadI rc_114_42 rfl ?_
      refine G_const rc_114_43 (by decide) ?_
      obtain ⟨c28, h⟩ := h
      refine G_bop (z := x1 - 24) rc_114_45 (if_pos c28) ?_
      show GO S0 114 46 [vR 0, vI x1] [vI (x1 - 24), vR 26] I4 K
      obtain ⟨c29, h⟩ := h
      refine G_ald rc_114_46 s0_26 (by omega) (by omega) ?_
      show GO S0 114 47 [vR 0, vI x1] [vI (I4 26 (x1 - 24).toNat)] I4 K
      exact G_retI rc_114_47 (Or.inl rfl) h
  · rw [if_neg c3] at h
    show GO S0 114 11 [vR 0, vI x1] [] I1 K
    refine G_loadR rc_114_11 rfl ?_
    refine G_getR rc_114_12 s0_0 (by decide) rfl (by decide) ?_
    show GO S0 114 15 [vR 0, vI x1] [vR 24] I1 K
    refine G_getR rc_114_15 s0_24 (by decide) rfl (by decide) ?_
    show GO S0 114 18 [vR 0, vI x1] [vR 25] I1 K
    refine G_loadI rc_114_18 rfl ?_
    refine G_const rc_114_19 (by decide) ?_
    obtain ⟨c30, h⟩ := h
    refine G_bop (z := x1 - 20) rc_114_21 (if_pos c30) ?_
    show GO S0 114 22 [vR 0, vI x1] [vI (x1 - 20), vR 25] I1 K
    obtain ⟨c31, h⟩ := h
    refine G_ald rc_114_22 s0_25 (by omega) (by omega) ?_
    show GO S0 114 23 [vR 0, vI x1] [vI (I1 25 (x1 - 20).toNat)] I1 K
    exact G_retI rc_114_23 (Or.inl rfl) h
/-! 115: RoundSlack$Rounds.vanBits()I -/
def D115_4 (r0 : Nat) (x1 : Int) (x2 : Int) (I : IM) (K : Option AV → IM → Prop) : Prop :=
  (if (4 : Int) ≤ x2 then (K (some (vI x1)) I) else ((0 ≤ x2 ∧ x2 < 4) ∧ (if I (r0 + 1) (x2).toNat ≤ 0 then ((inR (x2 + 1)) ∧ GO S0 115 4 [vR r0, vI x1, vI (x2 + 1)] [] I K) else ((inR (x2 + 1)) ∧ GO S0 115 4 [vR r0, vI (iorF x1 (ishlF 1 x2)), vI (x2 + 1)] [] I K))))
set_option maxRecDepth 10000 in
theorem g115_4 (r0 : Nat) (h0 : isRd r0) (x1 : Int) (x2 : Int) (I : IM) (K : Option AV → IM → Prop) (h : D115_4 r0 x1 x2 I K) : GO S0 115 4 [vR r0, vI x1, vI x2] [] I K := by
  unfold D115_4 at h
  refine G_loadI rc_115_4 rfl ?_
  refine G_const rc_115_5 (by decide) ?_
  refine G_i2 (C := (4 : Int) ≤ x2) rc_115_6 rfl (fun c1 => ?_) (fun c1 => ?_)
  · rw [if_pos c1] at h
    show GO S0 115 30 [vR r0, vI x1, vI x2] [] I K
    refine G_loadI rc_115_30 rfl ?_
    exact G_retI rc_115_31 (Or.inl rfl) h
  · rw [if_neg c1] at h
    show GO S0 115 9 [vR r0, vI x1, vI x2] [] I K
    refine G_loadR rc_115_9 rfl ?_
    refine G_getR rc_115_10 (rd_0 h0) (by decide) rfl (by have := rd_lt h0; omega) ?_
    show GO S0 115 13 [vR r0, vI x1, vI x2] [vR (r0 + 1)] I K
    refine G_loadI rc_115_13 rfl ?_
    obtain ⟨c2, h⟩ := h
    refine G_ald rc_115_14 (rd_1 h0) (by omega) (by omega) ?_
    show GO S0 115 15 [vR r0, vI x1, vI x2] [vI (I (r0 + 1) (x2).toNat)] I K
    refine G_i1 (C := I (r0 + 1) (x2).toNat ≤ 0) rc_115_15 rfl (fun c3 => ?_) (fun c3 => ?_)
    · rw [if_pos c3] at h
      show GO S0 115 24 [vR r0, vI x1, vI x2] [] I K
      obtain ⟨c4, h⟩ := h
      refine G_iinc rc_115_24 rfl c4 ?_
      show GO S0 115 27 [vR r0, vI x1, vI (x2 + 1)] [] I K
      refine G_goto rc_115_27 ?_
      show GO S0 115 4 [vR r0, vI x1, vI (x2 + 1)] [] I K
      exact h
    · rw [if_neg c3] at h
      show GO S0 115 18 [vR r0, vI x1, vI x2] [] I K
      refine G_loadI rc_115_18 rfl ?_
      refine G_const rc_115_19 (by decide) ?_
      refine G_loadI rc_115_20 rfl ?_
      refine G_bop (z := ishlF 1 x2) rc_115_21 rfl ?_
      show GO S0 115 22 [vR r0, vI x1, vI x2] [vI (ishlF 1 x2), vI x1] I K
      refine G_bop (z := iorF x1 (ishlF 1 x2)) rc_115_22 rfl ?_
      show GO S0 115 23 [vR r0, vI x1, vI x2] [vI (iorF x1 (ishlF 1 x2))] I K
      refine G_storeI rc_115_23 (Nat.le_of_ble_eq_true rfl) ?_
      show GO S0 115 24 [vR r0, vI (iorF x1 (ishlF 1 x2)), vI x2] [] I K
      obtain ⟨c5, h⟩ := h
      refine G_iinc rc_115_24 rfl c5 ?_
      show GO S0 115 27 [vR r0, vI (iorF x1 (ishlF 1 x2)), vI (x2 + 1)] [] I K
      refine G_goto rc_115_27 ?_
      show GO S0 115 4 [vR r0, vI (iorF x1 (ishlF 1 x2)), vI (x2 + 1)] [] I K
      exact h
def D115_0 (r0 : Nat) (I : IM) (K : Option AV → IM → Prop) : Prop :=
  GO S0 115 4 [vR r0, vI 0, vI 0] [] I K
set_option maxRecDepth 10000 in
theorem g115_0 (r0 : Nat) (h0 : isRd r0) (I : IM) (K : Option AV → IM → Prop) (h : D115_0 r0 I K) : GO S0 115 0 [vR r0, vU, vU] [] I K := by
  unfold D115_0 at h
  refine G_const rc_115_0 (by decide) ?_
  refine G_storeI rc_115_1 (Nat.le_of_ble_eq_true rfl) ?_
  show GO S0 115 2 [vR r0, vI 0, vU] [] I K
  refine G_const rc_115_2 (by decide) ?_
  refine G_storeI rc_115_3 (Nat.le_of_ble_eq_true rfl) ?_
  show GO S0 115 4 [vR r0, vI 0, vI 0] [] I K
  exact h
/-! 116: RoundSlack.row(II)I -/
def D116_34 (x1 : Int) (x2 : Int) (x3 : Int) (I : IM) (K : Option AV → IM → Prop) : Prop :=
  (if x2 ≤ x3 then (K (some (vI 1)) I) else ((0 ≤ x1 ∧ x1 < 4) ∧ (0 ≤ x3 ∧ x3 < 40) ∧ ∀ I4 : IM, I4 = iup I (232 + (x1).toNat) (x3).toNat 0 → (inR (x3 + 1)) ∧ GO S0 116 34 [vR 0, vI x1, vI x2, vI (x3 + 1)] [] I4 K))
set_option maxRecDepth 10000 in
theorem g116_34 (x1 : Int) (x2 : Int) (x3 : Int) (I : IM) (K : Option AV → IM → Prop) (h : D116_34 x1 x2 x3 I K) : GO S0 116 34 [vR 0, vI x1, vI x2, vI x3] [] I K := by
  unfold D116_34 at h
  refine G_loadI rc_116_34 rfl ?_
  refine G_loadI rc_116_35 rfl ?_
  refine G_i2 (C := x2 ≤ x3) rc_116_36 rfl (fun c1 => ?_) (fun c1 => ?_)
  · rw [if_pos c1] at h
    show GO S0 116 54 [vR 0, vI x1, vI x2, vI x3] [] I K
    refine G_const rc_116_54 (by decide) ?_
    exact G_retI rc_116_55 (Or.inl rfl) h
  · rw [if_neg c1] at h
    show GO S0 116 39 [vR 0, vI x1, vI x2, vI x3] [] I K
    refine G_loadR rc_116_39 rfl ?_
    refine G_getR rc_116_40 s0_0 (by decide) rfl (by decide) ?_
    show GO S0 116 43 [vR 0, vI x1, vI x2, vI x3] [vR 231] I K
    refine G_loadI rc_116_43 rfl ?_
    obtain ⟨c2, h⟩ := h
    refine G_aldR rc_116_44 s0_231 (Or.inl rfl) (by omega) (by omega) (rw231 (i := (x1).toNat) (by omega)) (by omega) ?_
    show GO S0 116 45 [vR 0, vI x1, vI x2, vI x3] [vR (232 + (x1).toNat)] I K
    refine G_loadI rc_116_45 rfl ?_
    refine G_const rc_116_46 (by decide) ?_
    obtain ⟨c3, h⟩ := h
    refine G_ast rc_116_47 (q231 (i := (x1).toNat) (by omega)) (by omega) (by omega) (Or.inl rfl) ?_
    show GO S0 116 48 [vR 0, vI x1, vI x2, vI x3] [] (iup I (232 + (x1).toNat) (x3).toNat 0) K
    have h := h _ rfl
    generalize iup I (232 + (x1).toNat) (x3).toNat 0 = I4 at h ⊢
    obtain ⟨c5, h⟩ := h
    refine G_iinc rc_116_48 rfl c5 ?_
    show GO S0 116 51 [vR 0, vI x1, vI x2, vI (x3 + 1)] [] I4 K
    refine G_goto rc_116_51 ?_
    show GO S0 116 34 [vR 0, vI x1, vI x2, vI (x3 + 1)] [] I4 K
    exact h
def D116_0 (x1 : Int) (x2 : Int) (I : IM) (K : Option AV → IM → Prop) : Prop :=
  CALL S0 117 [vI x1] I (fun v I1 => ∃ y2 : Int, v = some (vI y2) ∧ (if y2 = 0 then (K (some (vI (-1))) I1) else ((if x2 ≤ 40 then ((if (0 : Int) ≤ x2 then ((0 ≤ x1 ∧ x1 < 4) ∧ ∀ I7 : IM, I7 = iup I1 236 (x1).toNat x2 → GO S0 116 34 [vR 0, vI x1, vI x2, vI 0] [] I7 K) else (K (some (vI (-14))) I1))) else (K (some (vI (-2))) I1)))))
set_option maxRecDepth 10000 in
theorem g116_0 (x1 : Int) (x2 : Int) (I : IM) (K : Option AV → IM → Prop) (h : D116_0 x1 x2 I K) : GO S0 116 0 [vR 0, vI x1, vI x2, vU] [] I K := by
  unfold D116_0 at h
  refine G_loadI rc_116_0 rfl ?_
  refine G_call (as := [vI x1]) (rest := []) rc_116_1 rfl rfl rfl (Nat.le_of_ble_eq_true rfl) rfl ?_
  refine GO.imp h (fun v I1 h => ?_)
  obtain ⟨y2, rfl, h⟩ := h
  show GO S0 116 4 [vR 0, vI x1, vI x2, vU] [vI y2] I1 K
  refine G_i1 (C := ¬ y2 = 0) rc_116_4 rfl (fun c3 => ?_) (fun c3 => ?_)
  · rw [if_neg c3] at h
    show GO S0 116 9 [vR 0, vI x1, vI x2, vU] [] I1 K
    refine G_loadI rc_116_9 rfl ?_
    refine G_const rc_116_10 (by decide) ?_
    refine G_i2 (C := x2 ≤ 40) rc_116_12 rfl (fun c4 => ?_) (fun c4 => ?_)
    · rw [if_pos c4] at h
      show GO S0 116 18 [vR 0, vI x1, vI x2, vU] [] I1 K
      refine G_loadI rc_116_18 rfl ?_
      refine G_i1 (C := (0 : Int) ≤ x2) rc_116_19 rfl (fun c5 => ?_) (fun c5 => ?_)
      · rw [if_pos c5] at h
        show GO S0 116 25 [vR 0, vI x1, vI x2, vU] [] I1 K
        refine G_loadR rc_116_25 rfl ?_
        refine G_getR rc_116_26 s0_0 (by decide) rfl (by decide) ?_
        show GO S0 116 29 [vR 0, vI x1, vI x2, vU] [vR 236] I1 K
        refine G_loadI rc_116_29 rfl ?_
        refine G_loadI rc_116_30 rfl ?_
        obtain ⟨c6, h⟩ := h
        refine G_ast rc_116_31 s0_236 (by omega) (by omega) (Or.inl rfl) ?_
        show GO S0 116 32 [vR 0, vI x1, vI x2, vU] [] (iup I1 236 (x1).toNat x2) K
        have h := h _ rfl
        generalize iup I1 236 (x1).toNat x2 = I7 at h ⊢
        refine G_const rc_116_32 (by decide) ?_
        refine G_storeI rc_116_33 (Nat.le_of_ble_eq_true rfl) ?_
        show GO S0 116 34 [vR 0, vI x1, vI x2, vI 0] [] I7 K
        exact h
      · rw [if_neg c5] at h
        show GO S0 116 22 [vR 0, vI x1, vI x2, vU] [] I1 K
        refine G_const rc_116_22 (by decide) ?_
        exact G_retI rc_116_24 (Or.inl rfl) h
    · rw [if_neg c4] at h
      show GO S0 116 15 [vR 0, vI x1, vI x2, vU] [] I1 K
      refine G_const rc_116_15 (by decide) ?_
      exact G_retI rc_116_17 (Or.inl rfl) h
  · rw [if_pos (Classical.not_not.mp c3)] at h
    show GO S0 116 7 [vR 0, vI x1, vI x2, vU] [] I1 K
    refine G_const rc_116_7 (by decide) ?_
    exact G_retI rc_116_8 (Or.inl rfl) h
/-! 117: RoundSlack.isRow(I)Z -/
def D117_0 (x0 : Int) (I : IM) (K : Option AV → IM → Prop) : Prop :=
  (if x0 < 0 then (K (some (vI 0)) I) else ((if (4 : Int) ≤ x0 then (K (some (vI 0)) I) else (K (some (vI 1)) I))))
set_option maxRecDepth 10000 in
theorem g117_0 (x0 : Int) (I : IM) (K : Option AV → IM → Prop) (h : D117_0 x0 I K) : GO S0 117 0 [vI x0] [] I K := by
  unfold D117_0 at h
  refine G_loadI rc_117_0 rfl ?_
  refine G_i1 (C := x0 < 0) rc_117_1 rfl (fun c1 => ?_) (fun c1 => ?_)
  · rw [if_pos c1] at h
    show GO S0 117 13 [vI x0] [] I K
    refine G_const rc_117_13 (by decide) ?_
    exact G_retI rc_117_14 (Or.inr (by decide)) h
  · rw [if_neg c1] at h
    show GO S0 117 4 [vI x0] [] I K
    refine G_loadI rc_117_4 rfl ?_
    refine G_const rc_117_5 (by decide) ?_
    refine G_i2 (C := (4 : Int) ≤ x0) rc_117_6 rfl (fun c2 => ?_) (fun c2 => ?_)
    · rw [if_pos c2] at h
      show GO S0 117 13 [vI x0] [] I K
      refine G_const rc_117_13 (by decide) ?_
      exact G_retI rc_117_14 (Or.inr (by decide)) h
    · rw [if_neg c2] at h
      show GO S0 117 9 [vI x0] [] I K
      refine G_const rc_117_9 (by decide) ?_
      refine G_goto rc_117_10 ?_
      show GO S0 117 14 [vI x0] [vI 1] I K
      exact G_retI rc_117_14 (Or.inr (by decide)) h
/-! 118: RoundSlack.set(III)I -/
def D118_0 (x1 : Int) (x2 : Int) (x3 : Int) (I : IM) (K : Option AV → IM → Prop) : Prop :=
  CALL S0 117 [vI x1] I (fun v I1 => ∃ y2 : Int, v = some (vI y2) ∧ (if y2 = 0 then (K (some (vI (-1))) I1) else ((0 ≤ x1 ∧ x1 < 4) ∧ (if I1 236 (x1).toNat = -11 then (K (some (vI (-11))) I1) else ((inR ((I1 236 (x1).toNat) - 1)) ∧ CALL S0 14 [vI x2, vI 0, vI ((I1 236 (x1).toNat) - 1)] I1 (fun v I7 => ∃ y8 : Int, v = some (vI y8) ∧ (if y8 = 0 then (K (some (vI (-13))) I7) else ((0 ≤ x2 ∧ x2 < 40) ∧ ∀ I11 : IM, I11 = iup I7 (232 + (x1).toNat) (x2).toNat x3 → K (some (vI 1)) I11))))))))
set_option maxRecDepth 10000 in
theorem g118_0 (x1 : Int) (x2 : Int) (x3 : Int) (I : IM) (K : Option AV → IM → Prop) (h : D118_0 x1 x2 x3 I K) : GO S0 118 0 [vR 0, vI x1, vI x2, vI x3] [] I K := by
  unfold D118_0 at h
  refine G_loadI rc_118_0 rfl ?_
  refine G_call (as := [vI x1]) (rest := []) rc_118_1 rfl rfl rfl (Nat.le_of_ble_eq_true rfl) rfl ?_
  refine GO.imp h (fun v I1 h => ?_)
  obtain ⟨y2, rfl, h⟩ := h
  show GO S0 118 4 [vR 0, vI x1, vI x2, vI x3] [vI y2] I1 K
  refine G_i1 (C := ¬ y2 = 0) rc_118_4 rfl (fun c3 => ?_) (fun c3 => ?_)
  · rw [if_neg c3] at h
    show GO S0 118 9 [vR 0, vI x1, vI x2, vI x3] [] I1 K
    refine G_loadR rc_118_9 rfl ?_
    refine G_getR rc_118_10 s0_0 (by decide) rfl (by decide) ?_
    show GO S0 118 13 [vR 0, vI x1, vI x2, vI x3] [vR 236] I1 K
    refine G_loadI rc_118_13 rfl ?_
    obtain ⟨c4, h⟩ := h
    refine G_ald rc_118_14 s0_236 (by omega) (by omega) ?_
    show GO S0 118 15 [vR 0, vI x1, vI x2, vI x3] [vI (I1 236 (x1).toNat)] I1 K
    refine G_const rc_118_15 (by decide) ?_
    refine G_i2 (C := ¬ I1 236 (x1).toNat = -11) rc_118_17 rfl (fun c5 => ?_) (fun c5 => ?_)
    · rw [if_neg c5] at h
      show GO S0 118 23 [vR 0, vI x1, vI x2, vI x3] [] I1 K
      refine G_loadI rc_118_23 rfl ?_
      refine G_const rc_118_24 (by decide) ?_
      refine G_loadR rc_118_25 rfl ?_
      refine G_getR rc_118_26 s0_0 (by decide) rfl (by decide) ?_
      show GO S0 118 29 [vR 0, vI x1, vI x2, vI x3] [vR 236, vI 0, vI x2] I1 K
      refine G_loadI rc_118_29 rfl ?_
      refine G_ald rc_118_30 s0_236 (by omega) (by omega) ?_
      show GO S0 118 31 [vR 0, vI x1, vI x2, vI x3] [vI (I1 236 (x1).toNat), vI 0, vI x2] I1 K
      refine G_const rc_118_31 (by decide) ?_
      obtain ⟨c6, h⟩ := h
      refine G_bop (z := (I1 236 (x1).toNat) - 1) rc_118_32 (if_pos c6) ?_
      show GO S0 118 33 [vR 0, vI x1, vI x2, vI x3] [vI ((I1 236 (x1).toNat) - 1), vI 0, vI x2] I1 K
      refine G_call (as := [vI x2, vI 0, vI ((I1 236 (x1).toNat) - 1)]) (rest := []) rc_118_33 rfl rfl rfl (Nat.le_of_ble_eq_true rfl) rfl ?_
      refine GO.imp h (fun v I7 h => ?_)
      obtain ⟨y8, rfl, h⟩ := h
      show GO S0 118 36 [vR 0, vI x1, vI x2, vI x3] [vI y8] I7 K
      refine G_i1 (C := ¬ y8 = 0) rc_118_36 rfl (fun c9 => ?_) (fun c9 => ?_)
      · rw [if_neg c9] at h
        show GO S0 118 42 [vR 0, vI x1, vI x2, vI x3] [] I7 K
        refine G_loadR rc_118_42 rfl ?_
        refine G_getR rc_118_43 s0_0 (by decide) rfl (by decide) ?_
        show GO S0 118 46 [vR 0, vI x1, vI x2, vI x3] [vR 231] I7 K
        refine G_loadI rc_118_46 rfl ?_
        refine G_aldR rc_118_47 s0_231 (Or.inl rfl) (by omega) (by omega) (rw231 (i := (x1).toNat) (by omega)) (by omega) ?_
        show GO S0 118 48 [vR 0, vI x1, vI x2, vI x3] [vR (232 + (x1).toNat)] I7 K
        refine G_loadI rc_118_48 rfl ?_
        refine G_loadI rc_118_49 rfl ?_
        obtain ⟨c10, h⟩ := h
        refine G_ast rc_118_50 (q231 (i := (x1).toNat) (by omega)) (by omega) (by omega) (Or.inl rfl) ?_
        show GO S0 118 51 [vR 0, vI x1, vI x2, vI x3] [] (iup I7 (232 + (x1).toNat) (x2).toNat x3) K
        have h := h _ rfl
        generalize iup I7 (232 + (x1).toNat) (x2).toNat x3 = I11 at h ⊢
        refine G_const rc_118_51 (by decide) ?_
        exact G_retI rc_118_52 (Or.inl rfl) h
      · rw [if_pos (Classical.not_not.mp c9)] at h
        show GO S0 118 39 [vR 0, vI x1, vI x2, vI x3] [] I7 K
        refine G_const rc_118_39 (by decide) ?_
        exact G_retI rc_118_41 (Or.inl rfl) h
    · rw [if_pos (Classical.not_not.mp c5)] at h
      show GO S0 118 20 [vR 0, vI x1, vI x2, vI x3] [] I1 K
      refine G_const rc_118_20 (by decide) ?_
      exact G_retI rc_118_22 (Or.inl rfl) h
  · rw [if_pos (Classical.not_not.mp c3)] at h
    show GO S0 118 7 [vR 0, vI x1, vI x2, vI x3] [] I1 K
    refine G_const rc_118_7 (by decide) ?_
    exact G_retI rc_118_8 (Or.inl rfl) h
/-! 119: RoundSlack.get(II)J -/
def D119_0 (x1 : Int) (x2 : Int) (I : IM) (K : Option AV → IM → Prop) : Prop :=
  CALL S0 117 [vI x1] I (fun v I1 => ∃ y2 : Int, v = some (vI y2) ∧ (if y2 = 0 then (K (some (vL (-9223372036854775808))) I1) else ((0 ≤ x1 ∧ x1 < 4) ∧ (inR ((I1 236 (x1).toNat) - 1)) ∧ CALL S0 14 [vI x2, vI 0, vI ((I1 236 (x1).toNat) - 1)] I1 (fun v I6 => ∃ y7 : Int, v = some (vI y7) ∧ (if y7 = 0 then (K (some (vL (-9223372036854775808))) I6) else ((0 ≤ x2 ∧ x2 < 40) ∧ K (some (vL (I6 (232 + (x1).toNat) (x2).toNat))) I6))))))
set_option maxRecDepth 10000 in
theorem g119_0 (x1 : Int) (x2 : Int) (I : IM) (K : Option AV → IM → Prop) (h : D119_0 x1 x2 I K) : GO S0 119 0 [vR 0, vI x1, vI x2] [] I K := by
  unfold D119_0 at h
  refine G_loadI rc_119_0 rfl ?_
  refine G_call (as := [vI x1]) (rest := []) rc_119_1 rfl rfl rfl (Nat.le_of_ble_eq_true rfl) rfl ?_
  refine GO.imp h (fun v I1 h => ?_)
  obtain ⟨y2, rfl, h⟩ := h
  show GO S0 119 4 [vR 0, vI x1, vI x2] [vI y2] I1 K
  refine G_i1 (C := y2 = 0) rc_119_4 rfl (fun c3 => ?_) (fun c3 => ?_)
  · rw [if_pos c3] at h
    show GO S0 119 23 [vR 0, vI x1, vI x2] [] I1 K
    refine G_lconst rc_119_23 (by decide) ?_
    exact G_retL rc_119_26 h
  · rw [if_neg c3] at h
    show GO S0 119 7 [vR 0, vI x1, vI x2] [] I1 K
    refine G_loadI rc_119_7 rfl ?_
    refine G_const rc_119_8 (by decide) ?_
    refine G_loadR rc_119_9 rfl ?_
    refine G_getR rc_119_10 s0_0 (by decide) rfl (by decide) ?_
    show GO S0 119 13 [vR 0, vI x1, vI x2] [vR 236, vI 0, vI x2] I1 K
    refine G_loadI rc_119_13 rfl ?_
    obtain ⟨c4, h⟩ := h
    refine G_ald rc_119_14 s0_236 (by omega) (by omega) ?_
    show GO S0 119 15 [vR 0, vI x1, vI x2] [vI (I1 236 (x1).toNat), vI 0, vI x2] I1 K
    refine G_const rc_119_15 (by decide) ?_
    obtain ⟨c5, h⟩ := h
    refine G_bop (z := (I1 236 (x1).toNat) - 1) rc_119_16 (if_pos c5) ?_
    show GO S0 119 17 [vR 0, vI x1, vI x2] [vI ((I1 236 (x1).toNat) - 1), vI 0, vI x2] I1 K
    refine G_call (as := [vI x2, vI 0, vI ((I1 236 (x1).toNat) - 1)]) (rest := []) rc_119_17 rfl rfl rfl (Nat.le_of_ble_eq_true rfl) rfl ?_
    refine GO.imp h (fun v I6 h => ?_)
    obtain ⟨y7, rfl, h⟩ := h
    show GO S0 119 20 [vR 0, vI x1, vI x2] [vI y7] I6 K
    refine G_i1 (C := ¬ y7 = 0) rc_119_20 rfl (fun c8 => ?_) (fun c8 => ?_)
    · rw [if_neg c8] at h
      show GO S0 119 27 [vR 0, vI x1, vI x2] [] I6 K
      refine G_loadR rc_119_27 rfl ?_
      refine G_getR rc_119_28 s0_0 (by decide) rfl (by decide) ?_
      show GO S0 119 31 [vR 0, vI x1, vI x2] [vR 231] I6 K
      refine G_loadI rc_119_31 rfl ?_
      refine G_aldR rc_119_32 s0_231 (Or.inl rfl) (by omega) (by omega) (rw231 (i := (x1).toNat) (by omega)) (by omega) ?_
      show GO S0 119 33 [vR 0, vI x1, vI x2] [vR (232 + (x1).toNat)] I6 K
      refine G_loadI rc_119_33 rfl ?_
      obtain ⟨c9, h⟩ := h
      refine G_ald rc_119_34 (q231 (i := (x1).toNat) (by omega)) (by omega) (by omega) ?_
      show GO S0 119 35 [vR 0, vI x1, vI x2] [vI (I6 (232 + (x1).toNat) (x2).toNat)] I6 K
      refine G_i2l rc_119_35 ?_
      exact G_retL rc_119_36 h
    · rw [if_pos (Classical.not_not.mp c8)] at h
      show GO S0 119 23 [vR 0, vI x1, vI x2] [] I6 K
      refine G_lconst rc_119_23 (by decide) ?_
      exact G_retL rc_119_26 h
/-! 120: RoundSlack.lay(II)I -/
def D120_56 (x1 : Int) (x2 : Int) (x3 : Int) (x4 : Int) (x5 : Int) (I : IM) (K : Option AV → IM → Prop) : Prop :=
  (0 ≤ x4 ∧ x4 < 4) ∧ (if I 30 (x4).toNat < x5 then ((inR (x4 + 1)) ∧ GO S0 120 47 [vR 0, vI x1, vI x2, vI x3, vI (x4 + 1), vI x5] [] I K) else ((0 ≤ x1 ∧ x1 < 4) ∧ (if x3 < I 236 (x1).toNat then ((if I 30 (x4).toNat ≤ x5 then ((0 ≤ x3 ∧ x3 < 40) ∧ ∀ I8 : IM, I8 = iup I (232 + (x1).toNat) (x3).toNat (-1) → (inR (x3 + 1)) ∧ (inR (x5 + 1)) ∧ GO S0 120 56 [vR 0, vI x1, vI x2, vI (x3 + 1), vI x4, vI (x5 + 1)] [] I8 K) else ((0 ≤ x5 ∧ x5 < 12) ∧ (0 ≤ x3 ∧ x3 < 40) ∧ ∀ I13 : IM, I13 = iup I (232 + (x1).toNat) (x3).toNat (I (29 + 3 + (x4).toNat) (x5).toNat) → (inR (x3 + 1)) ∧ (inR (x5 + 1)) ∧ GO S0 120 56 [vR 0, vI x1, vI x2, vI (x3 + 1), vI x4, vI (x5 + 1)] [] I13 K))) else (K (some (vI (-13))) I))))
set_option maxRecDepth 10000 in
theorem g120_56 (x1 : Int) (x2 : Int) (x3 : Int) (x4 : Int) (x5 : Int) (I : IM) (K : Option AV → IM → Prop) (h : D120_56 x1 x2 x3 x4 x5 I K) : GO S0 120 56 [vR 0, vI x1, vI x2, vI x3, vI x4, vI x5] [] I K := by
  unfold D120_56 at h
  refine G_loadI rc_120_56 rfl ?_
  refine G_loadR rc_120_58 rfl ?_
  refine G_getR rc_120_59 s0_0 (by decide) rfl (by decide) ?_
  show GO S0 120 62 [vR 0, vI x1, vI x2, vI x3, vI x4, vI x5] [vR 29, vI x5] I K
  refine G_getR rc_120_62 s0_29 (by decide) rfl (by decide) ?_
  show GO S0 120 65 [vR 0, vI x1, vI x2, vI x3, vI x4, vI x5] [vR 30, vI x5] I K
  refine G_loadI rc_120_65 rfl ?_
  obtain ⟨c1, h⟩ := h
  refine G_ald rc_120_67 s0_30 (by omega) (by omega) ?_
  show GO S0 120 68 [vR 0, vI x1, vI x2, vI x3, vI x4, vI x5] [vI (I 30 (x4).toNat), vI x5] I K
  refine G_i2 (C := I 30 (x4).toNat < x5) rc_120_68 rfl (fun c2 => ?_) (fun c2 => ?_)
  · rw [if_pos c2] at h
    show GO S0 120 133 [vR 0, vI x1, vI x2, vI x3, vI x4, vI x5] [] I K
    obtain ⟨c3, h⟩ := h
    refine G_iinc rc_120_133 rfl c3 ?_
    show GO S0 120 136 [vR 0, vI x1, vI x2, vI x3, vI (x4 + 1), vI x5] [] I K
    refine G_goto rc_120_136 ?_
    show GO S0 120 47 [vR 0, vI x1, vI x2, vI x3, vI (x4 + 1), vI x5] [] I K
    exact h
  · rw [if_neg c2] at h
    show GO S0 120 71 [vR 0, vI x1, vI x2, vI x3, vI x4, vI x5] [] I K
    refine G_loadI rc_120_71 rfl ?_
    refine G_loadR rc_120_72 rfl ?_
    refine G_getR rc_120_73 s0_0 (by decide) rfl (by decide) ?_
    show GO S0 120 76 [vR 0, vI x1, vI x2, vI x3, vI x4, vI x5] [vR 236, vI x3] I K
    refine G_loadI rc_120_76 rfl ?_
    obtain ⟨c4, h⟩ := h
    refine G_ald rc_120_77 s0_236 (by omega) (by omega) ?_
    show GO S0 120 78 [vR 0, vI x1, vI x2, vI x3, vI x4, vI x5] [vI (I 236 (x1).toNat), vI x3] I K
    refine G_i2 (C := x3 < I 236 (x1).toNat) rc_120_78 rfl (fun c5 => ?_) (fun c5 => ?_)
    · rw [if_pos c5] at h
      show GO S0 120 84 [vR 0, vI x1, vI x2, vI x3, vI x4, vI x5] [] I K
      refine G_loadR rc_120_84 rfl ?_
      refine G_getR rc_120_85 s0_0 (by decide) rfl (by decide) ?_
      show GO S0 120 88 [vR 0, vI x1, vI x2, vI x3, vI x4, vI x5] [vR 231] I K
      refine G_loadI rc_120_88 rfl ?_
      refine G_aldR rc_120_89 s0_231 (Or.inl rfl) (by omega) (by omega) (rw231 (i := (x1).toNat) (by omega)) (by omega) ?_
      show GO S0 120 90 [vR 0, vI x1, vI x2, vI x3, vI x4, vI x5] [vR (232 + (x1).toNat)] I K
      refine G_loadI rc_120_90 rfl ?_
      refine G_loadI rc_120_91 rfl ?_
      refine G_loadR rc_120_93 rfl ?_
      refine G_getR rc_120_94 s0_0 (by decide) rfl (by decide) ?_
      show GO S0 120 97 [vR 0, vI x1, vI x2, vI x3, vI x4, vI x5] [vR 29, vI x5, vI x3, vR (232 + (x1).toNat)] I K
      refine G_getR rc_120_97 s0_29 (by decide) rfl (by decide) ?_
      show GO S0 120 100 [vR 0, vI x1, vI x2, vI x3, vI x4, vI x5] [vR 30, vI x5, vI x3, vR (232 + (x1).toNat)] I K
      refine G_loadI rc_120_100 rfl ?_
      refine G_ald rc_120_102 s0_30 (by omega) (by omega) ?_
      show GO S0 120 103 [vR 0, vI x1, vI x2, vI x3, vI x4, vI x5] [vI (I 30 (x4).toNat), vI x5, vI x3, vR (232 + (x1).toNat)] I K
      refine G_i2 (C := I 30 (x4).toNat ≤ x5) rc_120_103 rfl (fun c6 => ?_) (fun c6 => ?_)
      · rw [if_pos c6] at h
        show GO S0 120 122 [vR 0, vI x1, vI x2, vI x3, vI x4, vI x5] [vI x3, vR (232 + (x1).toNat)] I K
        refine G_const rc_120_122 (by decide) ?_
        obtain ⟨c7, h⟩ := h
        refine G_ast rc_120_123 (q231 (i := (x1).toNat) (by omega)) (by omega) (by omega) (Or.inl rfl) ?_
        show GO S0 120 124 [vR 0, vI x1, vI x2, vI x3, vI x4, vI x5] [] (iup I (232 + (x1).toNat) (x3).toNat (-1)) K
        have h := h _ rfl
        generalize iup I (232 + (x1).toNat) (x3).toNat (-1) = I8 at h ⊢
        obtain ⟨c9, h⟩ := h
        refine G_iinc rc_120_124 rfl c9 ?_
        show GO S0 120 127 [vR 0, vI x1, vI x2, vI (x3 + 1), vI x4, vI x5] [] I8 K
        obtain ⟨c10, h⟩ := h
        refine G_iinc rc_120_127 rfl c10 ?_
        show GO S0 120 130 [vR 0, vI x1, vI x2, vI (x3 + 1), vI x4, vI (x5 + 1)] [] I8 K
        refine G_goto rc_120_130 ?_
        show GO S0 120 56 [vR 0, vI x1, vI x2, vI (x3 + 1), vI x4, vI (x5 + 1)] [] I8 K
        exact h
      · rw [if_neg c6] at h
        show GO S0 120 106 [vR 0, vI x1, vI x2, vI x3, vI x4, vI x5] [vI x3, vR (232 + (x1).toNat)] I K
        refine G_loadR rc_120_106 rfl ?_
        refine G_getR rc_120_107 s0_0 (by decide) rfl (by decide) ?_
        show GO S0 120 110 [vR 0, vI x1, vI x2, vI x3, vI x4, vI x5] [vR 29, vI x3, vR (232 + (x1).toNat)] I K
        refine G_getR rc_120_110 s0_29 (by decide) rfl (by decide) ?_
        show GO S0 120 113 [vR 0, vI x1, vI x2, vI x3, vI x4, vI x5] [vR 31, vI x3, vR (232 + (x1).toNat)] I K
        refine G_loadI rc_120_113 rfl ?_
        refine G_aldR rc_120_115 s0_31 (Or.inl rfl) (by omega) (by omega) (rd_row (r := 29) (i := (x4).toNat) (by omega)) (by omega) ?_
        show GO S0 120 116 [vR 0, vI x1, vI x2, vI x3, vI x4, vI x5] [vR (29 + 3 + (x4).toNat), vI x3, vR (232 + (x1).toNat)] I K
        refine G_loadI rc_120_116 rfl ?_
        obtain ⟨c11, h⟩ := h
        refine G_ald rc_120_118 (rd_3 (r := 29) (i := (x4).toNat) (by unfold isRd; decide) (by omega)) (by omega) (by omega) ?_
        show GO S0 120 119 [vR 0, vI x1, vI x2, vI x3, vI x4, vI x5] [vI (I (29 + 3 + (x4).toNat) (x5).toNat), vI x3, vR (232 + (x1).toNat)] I K
        refine G_goto rc_120_119 ?_
        show GO S0 120 123 [vR 0, vI x1, vI x2, vI x3, vI x4, vI x5] [vI (I (29 + 3 + (x4).toNat) (x5).toNat), vI x3, vR (232 + (x1).toNat)] I K
        obtain ⟨c12, h⟩ := h
        refine G_ast rc_120_123 (q231 (i := (x1).toNat) (by omega)) (by omega) (by omega) (Or.inl rfl) ?_
        show GO S0 120 124 [vR 0, vI x1, vI x2, vI x3, vI x4, vI x5] [] (iup I (232 + (x1).toNat) (x3).toNat (I (29 + 3 + (x4).toNat) (x5).toNat)) K
        have h := h _ rfl
        generalize iup I (232 + (x1).toNat) (x3).toNat (I (29 + 3 + (x4).toNat) (x5).toNat) = I13 at h ⊢
        obtain ⟨c14, h⟩ := h
        refine G_iinc rc_120_124 rfl c14 ?_
        show GO S0 120 127 [vR 0, vI x1, vI x2, vI (x3 + 1), vI x4, vI x5] [] I13 K
        obtain ⟨c15, h⟩ := h
        refine G_iinc rc_120_127 rfl c15 ?_
        show GO S0 120 130 [vR 0, vI x1, vI x2, vI (x3 + 1), vI x4, vI (x5 + 1)] [] I13 K
        refine G_goto rc_120_130 ?_
        show GO S0 120 56 [vR 0, vI x1, vI x2, vI (x3 + 1), vI x4, vI (x5 + 1)] [] I13 K
        exact h
    · rw [if_neg c5] at h
      show GO S0 120 81 [vR 0, vI x1, vI x2, vI x3, vI x4, vI x5] [] I K
      refine G_const rc_120_81 (by decide) ?_
      exact G_retI rc_120_83 (Or.inl rfl) h
def D120_47 (x1 : Int) (x2 : Int) (x3 : Int) (x4 : Int) (u5 : AV) (I : IM) (K : Option AV → IM → Prop) : Prop :=
  (if (4 : Int) ≤ x4 then ((inR (x3 - x2)) ∧ K (some (vI (x3 - x2))) I) else (GO S0 120 56 [vR 0, vI x1, vI x2, vI x3, vI x4, vI 0] [] I K))
set_option maxRecDepth 10000 in
theorem g120_47 (x1 : Int) (x2 : Int) (x3 : Int) (x4 : Int) (u5 : AV) (I : IM) (K : Option AV → IM → Prop) (h : D120_47 x1 x2 x3 x4 u5 I K) : GO S0 120 47 [vR 0, vI x1, vI x2, vI x3, vI x4, u5] [] I K := by
  unfold D120_47 at h
  refine G_loadI rc_120_47 rfl ?_
  refine G_const rc_120_49 (by decide) ?_
  refine G_i2 (C := (4 : Int) ≤ x4) rc_120_50 rfl (fun c1 => ?_) (fun c1 => ?_)
  · rw [if_pos c1] at h
    show GO S0 120 139 [vR 0, vI x1, vI x2, vI x3, vI x4, u5] [] I K
    refine G_loadI rc_120_139 rfl ?_
    refine G_loadI rc_120_140 rfl ?_
    obtain ⟨c2, h⟩ := h
    refine G_bop (z := x3 - x2) rc_120_141 (if_pos c2) ?_
    show GO S0 120 142 [vR 0, vI x1, vI x2, vI x3, vI x4, u5] [vI (x3 - x2)] I K
    exact G_retI rc_120_142 (Or.inl rfl) h
  · rw [if_neg c1] at h
    show GO S0 120 53 [vR 0, vI x1, vI x2, vI x3, vI x4, u5] [] I K
    refine G_const rc_120_53 (by decide) ?_
    refine G_storeI rc_120_54 (Nat.le_of_ble_eq_true rfl) ?_
    show GO S0 120 56 [vR 0, vI x1, vI x2, vI x3, vI x4, vI 0] [] I K
    exact h
def D120_0 (x1 : Int) (x2 : Int) (I : IM) (K : Option AV → IM → Prop) : Prop :=
  CALL S0 117 [vI x1] I (fun v I1 => ∃ y2 : Int, v = some (vI y2) ∧ (if y2 = 0 then (K (some (vI (-1))) I1) else ((0 ≤ x1 ∧ x1 < 4) ∧ (if I1 236 (x1).toNat = -11 then (K (some (vI (-11))) I1) else ((inR ((I1 236 (x1).toNat) - 1)) ∧ CALL S0 14 [vI x2, vI 0, vI ((I1 236 (x1).toNat) - 1)] I1 (fun v I7 => ∃ y8 : Int, v = some (vI y8) ∧ (if y8 = 0 then (K (some (vI (-13))) I7) else (GO S0 120 47 [vR 0, vI x1, vI x2, vI x2, vI 0, vU] [] I7 K))))))))
set_option maxRecDepth 10000 in
theorem g120_0 (x1 : Int) (x2 : Int) (I : IM) (K : Option AV → IM → Prop) (h : D120_0 x1 x2 I K) : GO S0 120 0 [vR 0, vI x1, vI x2, vU, vU, vU] [] I K := by
  unfold D120_0 at h
  refine G_loadI rc_120_0 rfl ?_
  refine G_call (as := [vI x1]) (rest := []) rc_120_1 rfl rfl rfl (Nat.le_of_ble_eq_true rfl) rfl ?_
  refine GO.imp h (fun v I1 h => ?_)
  obtain ⟨y2, rfl, h⟩ := h
  show GO S0 120 4 [vR 0, vI x1, vI x2, vU, vU, vU] [vI y2] I1 K
  refine G_i1 (C := ¬ y2 = 0) rc_120_4 rfl (fun c3 => ?_) (fun c3 => ?_)
  · rw [if_neg c3] at h
    show GO S0 120 9 [vR 0, vI x1, vI x2, vU, vU, vU] [] I1 K
    refine G_loadR rc_120_9 rfl ?_
    refine G_getR rc_120_10 s0_0 (by decide) rfl (by decide) ?_
    show GO S0 120 13 [vR 0, vI x1, vI x2, vU, vU, vU] [vR 236] I1 K
    refine G_loadI rc_120_13 rfl ?_
    obtain ⟨c4, h⟩ := h
    refine G_ald rc_120_14 s0_236 (by omega) (by omega) ?_
    show GO S0 120 15 [vR 0, vI x1, vI x2, vU, vU, vU] [vI (I1 236 (x1).toNat)] I1 K
    refine G_const rc_120_15 (by decide) ?_
    refine G_i2 (C := ¬ I1 236 (x1).toNat = -11) rc_120_17 rfl (fun c5 => ?_) (fun c5 => ?_)
    · rw [if_neg c5] at h
      show GO S0 120 23 [vR 0, vI x1, vI x2, vU, vU, vU] [] I1 K
      refine G_loadI rc_120_23 rfl ?_
      refine G_const rc_120_24 (by decide) ?_
      refine G_loadR rc_120_25 rfl ?_
      refine G_getR rc_120_26 s0_0 (by decide) rfl (by decide) ?_
      show GO S0 120 29 [vR 0, vI x1, vI x2, vU, vU, vU] [vR 236, vI 0, vI x2] I1 K
      refine G_loadI rc_120_29 rfl ?_
      refine G_ald rc_120_30 s0_236 (by omega) (by omega) ?_
      show GO S0 120 31 [vR 0, vI x1, vI x2, vU, vU, vU] [vI (I1 236 (x1).toNat), vI 0, vI x2] I1 K
      refine G_const rc_120_31 (by decide) ?_
      obtain ⟨c6, h⟩ := h
      refine G_bop (z := (I1 236 (x1).toNat) - 1) rc_120_32 (if_pos c6) ?_
      show GO S0 120 33 [vR 0, vI x1, vI x2, vU, vU, vU] [vI ((I1 236 (x1).toNat) - 1), vI 0, vI x2] I1 K
      refine G_call (as := [vI x2, vI 0, vI ((I1 236 (x1).toNat) - 1)]) (rest := []) rc_120_33 rfl rfl rfl (Nat.le_of_ble_eq_true rfl) rfl ?_
      refine GO.imp h (fun v I7 h => ?_)
      obtain ⟨y8, rfl, h⟩ := h
      show GO S0 120 36 [vR 0, vI x1, vI x2, vU, vU, vU] [vI y8] I7 K
      refine G_i1 (C := ¬ y8 = 0) rc_120_36 rfl (fun c9 => ?_) (fun c9 => ?_)
      · rw [if_neg c9] at h
        show GO S0 120 42 [vR 0, vI x1, vI x2, vU, vU, vU] [] I7 K
        refine G_loadI rc_120_42 rfl ?_
        refine G_storeI rc_120_43 (Nat.le_of_ble_eq_true rfl) ?_
        show GO S0 120 44 [vR 0, vI x1, vI x2, vI x2, vU, vU] [] I7 K
        refine G_const rc_120_44 (by decide) ?_
        refine G_storeI rc_120_45 (Nat.le_of_ble_eq_true rfl) ?_
        show GO S0 120 47 [vR 0, vI x1, vI x2, vI x2, vI 0, vU] [] I7 K
        exact h
      · rw [if_pos (Classical.not_not.mp c9)] at h
        show GO S0 120 39 [vR 0, vI x1, vI x2, vU, vU, vU] [] I7 K
        refine G_const rc_120_39 (by decide) ?_
        exact G_retI rc_120_41 (Or.inl rfl) h
    · rw [if_pos (Classical.not_not.mp c5)] at h
      show GO S0 120 20 [vR 0, vI x1, vI x2, vU, vU, vU] [] I1 K
      refine G_const rc_120_20 (by decide) ?_
      exact G_retI rc_120_22 (Or.inl rfl) h
  · rw [if_pos (Classical.not_not.mp c3)] at h
    show GO S0 120 7 [vR 0, vI x1, vI x2, vU, vU, vU] [] I1 K
    refine G_const rc_120_7 (by decide) ?_
    exact G_retI rc_120_8 (Or.inl rfl) h
/-! 121: RoundSlack.judge(II)I -/
def D121_0 (x1 : Int) (x2 : Int) (I : IM) (K : Option AV → IM → Prop) : Prop :=
  CALL S0 117 [vI x1] I (fun v I1 => ∃ y2 : Int, v = some (vI y2) ∧ (if y2 = 0 then (K (some (vI (-1))) I1) else ((if x2 < 0 then (K (some (vI (-3))) I1) else (CALL S0 122 [vR 0, vI x1, vI x2] I1 (fun v I5 => ∃ y6 : Int, v = some (vI y6) ∧ (if y6 = 0 then (K (some (vI (-3))) I5) else (CALL S0 123 [vR 0, vI x1, vI x2] I5 (fun v I8 => ∃ y9 : Int, v = some (vI y9) ∧ (if y9 = 0 then (K (some (vI (-2))) I8) else (CALL S0 46 [vR 193, vR 71] I8 (fun v I11 => ∃ y12 : Int, v = some (vI y12) ∧ (if y12 = -1 then (K (some (vI (-7))) I11) else (K (some (vI y12)) I11))))))))))))))
set_option maxRecDepth 10000 in
theorem g121_0 (x1 : Int) (x2 : Int) (I : IM) (K : Option AV → IM → Prop) (h : D121_0 x1 x2 I K) : GO S0 121 0 [vR 0, vI x1, vI x2, vU] [] I K := by
  unfold D121_0 at h
  refine G_loadI rc_121_0 rfl ?_
  refine G_call (as := [vI x1]) (rest := []) rc_121_1 rfl rfl rfl (Nat.le_of_ble_eq_true rfl) rfl ?_
  refine GO.imp h (fun v I1 h => ?_)
  obtain ⟨y2, rfl, h⟩ := h
  show GO S0 121 4 [vR 0, vI x1, vI x2, vU] [vI y2] I1 K
  refine G_i1 (C := ¬ y2 = 0) rc_121_4 rfl (fun c3 => ?_) (fun c3 => ?_)
  · rw [if_neg c3] at h
    show GO S0 121 9 [vR 0, vI x1, vI x2, vU] [] I1 K
    refine G_loadI rc_121_9 rfl ?_
    refine G_i1 (C := x2 < 0) rc_121_10 rfl (fun c4 => ?_) (fun c4 => ?_)
    · rw [if_pos c4] at h
      show GO S0 121 22 [vR 0, vI x1, vI x2, vU] [] I1 K
      refine G_const rc_121_22 (by decide) ?_
      exact G_retI rc_121_24 (Or.inl rfl) h
    · rw [if_neg c4] at h
      show GO S0 121 13 [vR 0, vI x1, vI x2, vU] [] I1 K
      refine G_loadR rc_121_13 rfl ?_
      refine G_loadI rc_121_14 rfl ?_
      refine G_loadI rc_121_15 rfl ?_
      refine G_call (as := [vR 0, vI x1, vI x2]) (rest := []) rc_121_16 rfl rfl rfl (Nat.le_of_ble_eq_true rfl) (g_recv s0_0 rfl) ?_
      refine GO.imp h (fun v I5 h => ?_)
      obtain ⟨y6, rfl, h⟩ := h
      show GO S0 121 19 [vR 0, vI x1, vI x2, vU] [vI y6] I5 K
      refine G_i1 (C := ¬ y6 = 0) rc_121_19 rfl (fun c7 => ?_) (fun c7 => ?_)
      · rw [if_neg c7] at h
        show GO S0 121 25 [vR 0, vI x1, vI x2, vU] [] I5 K
        refine G_loadR rc_121_25 rfl ?_
        refine G_loadI rc_121_26 rfl ?_
        refine G_loadI rc_121_27 rfl ?_
        refine G_call (as := [vR 0, vI x1, vI x2]) (rest := []) rc_121_28 rfl rfl rfl (Nat.le_of_ble_eq_true rfl) (g_recv s0_0 rfl) ?_
        refine GO.imp h (fun v I8 h => ?_)
        obtain ⟨y9, rfl, h⟩ := h
        show GO S0 121 31 [vR 0, vI x1, vI x2, vU] [vI y9] I8 K
        refine G_i1 (C := ¬ y9 = 0) rc_121_31 rfl (fun c10 => ?_) (fun c10 => ?_)
        · rw [if_neg c10] at h
          show GO S0 121 37 [vR 0, vI x1, vI x2, vU] [] I8 K
          refine G_loadR rc_121_37 rfl ?_
          refine G_getR rc_121_38 s0_0 (by decide) rfl (by decide) ?_
          show GO S0 121 41 [vR 0, vI x1, vI x2, vU] [vR 193] I8 K
          refine G_loadR rc_121_41 rfl ?_
          refine G_getR rc_121_42 s0_0 (by decide) rfl (by decide) ?_
          show GO S0 121 45 [vR 0, vI x1, vI x2, vU] [vR 71, vR 193] I8 K
          refine G_call (as := [vR 193, vR 71]) (rest := []) rc_121_45 rfl rfl rfl (Nat.le_of_ble_eq_true rfl) (g_recv s0_193 rfl) ?_
          refine GO.imp h (fun v I11 h => ?_)
          obtain ⟨y12, rfl, h⟩ := h
          show GO S0 121 48 [vR 0, vI x1, vI x2, vU] [vI y12] I11 K
          refine G_storeI rc_121_48 (Nat.le_of_ble_eq_true rfl) ?_
          show GO S0 121 49 [vR 0, vI x1, vI x2, vI y12] [] I11 K
          refine G_loadI rc_121_49 rfl ?_
          refine G_const rc_121_50 (by decide) ?_
          refine G_i2 (C := ¬ y12 = -1) rc_121_51 rfl (fun c13 => ?_) (fun c13 => ?_)
          · rw [if_neg c13] at h
            show GO S0 121 59 [vR 0, vI x1, vI x2, vI y12] [] I11 K
            refine G_loadI rc_121_59 rfl ?_
            exact G_retI rc_121_60 (Or.inl rfl) h
          · rw [if_pos (Classical.not_not.mp c13)] at h
            show GO S0 121 54 [vR 0, vI x1, vI x2, vI y12] [] I11 K
            refine G_const rc_121_54 (by decide) ?_
            refine G_goto rc_121_56 ?_
            show GO S0 121 60 [vR 0, vI x1, vI x2, vI y12] [vI (-7)] I11 K
            exact G_retI rc_121_60 (Or.inl rfl) h
        · rw [if_pos (Classical.not_not.mp c10)] at h
          show GO S0 121 34 [vR 0, vI x1, vI x2, vU] [] I8 K
          refine G_const rc_121_34 (by decide) ?_
          exact G_retI rc_121_36 (Or.inl rfl) h
      · rw [if_pos (Classical.not_not.mp c7)] at h
        show GO S0 121 22 [vR 0, vI x1, vI x2, vU] [] I5 K
        refine G_const rc_121_22 (by decide) ?_
        exact G_retI rc_121_24 (Or.inl rfl) h
  · rw [if_pos (Classical.not_not.mp c3)] at h
    show GO S0 121 7 [vR 0, vI x1, vI x2, vU] [] I1 K
    refine G_const rc_121_7 (by decide) ?_
    exact G_retI rc_121_8 (Or.inl rfl) h
/-! 122: RoundSlack.endsFourTimes(II)Z -/
def D122_5 (x1 : Int) (x2 : Int) (x3 : Int) (x4 : Int) (I : IM) (K : Option AV → IM → Prop) : Prop :=
  (0 ≤ x1 ∧ x1 < 4) ∧ (if I 236 (x1).toNat ≤ x4 then ((if x3 < 4 then (K (some (vI 0)) I) else (K (some (vI 1)) I))) else ((0 ≤ x4 ∧ x4 < 40) ∧ (if I (232 + (x1).toNat) (x4).toNat = -1 then ((inR (x3 + 1)) ∧ (inR (x4 + 1)) ∧ GO S0 122 5 [vR 0, vI x1, vI x2, vI (x3 + 1), vI (x4 + 1)] [] I K) else ((inR (x4 + 1)) ∧ GO S0 122 5 [vR 0, vI x1, vI x2, vI x3, vI (x4 + 1)] [] I K))))
set_option maxRecDepth 10000 in
theorem g122_5 (x1 : Int) (x2 : Int) (x3 : Int) (x4 : Int) (I : IM) (K : Option AV → IM → Prop) (h : D122_5 x1 x2 x3 x4 I K) : GO S0 122 5 [vR 0, vI x1, vI x2, vI x3, vI x4] [] I K := by
  unfold D122_5 at h
  refine G_loadI rc_122_5 rfl ?_
  refine G_loadR rc_122_7 rfl ?_
  refine G_getR rc_122_8 s0_0 (by decide) rfl (by decide) ?_
  show GO S0 122 11 [vR 0, vI x1, vI x2, vI x3, vI x4] [vR 236, vI x4] I K
  refine G_loadI rc_122_11 rfl ?_
  obtain ⟨c1, h⟩ := h
  refine G_ald rc_122_12 s0_236 (by omega) (by omega) ?_
  show GO S0 122 13 [vR 0, vI x1, vI x2, vI x3, vI x4] [vI (I 236 (x1).toNat), vI x4] I K
  refine G_i2 (C := I 236 (x1).toNat ≤ x4) rc_122_13 rfl (fun c2 => ?_) (fun c2 => ?_)
  · rw [if_pos c2] at h
    show GO S0 122 38 [vR 0, vI x1, vI x2, vI x3, vI x4] [] I K
    refine G_loadI rc_122_38 rfl ?_
    refine G_const rc_122_39 (by decide) ?_
    refine G_i2 (C := x3 < 4) rc_122_40 rfl (fun c3 => ?_) (fun c3 => ?_)
    · rw [if_pos c3] at h
      show GO S0 122 47 [vR 0, vI x1, vI x2, vI x3, vI x4] [] I K
      refine G_const rc_122_47 (by decide) ?_
      exact G_retI rc_122_48 (Or.inr (by decide)) h
    · rw [if_neg c3] at h
      show GO S0 122 43 [vR 0, vI x1, vI x2, vI x3, vI x4] [] I K
      refine G_const rc_122_43 (by decide) ?_
      refine G_goto rc_122_44 ?_
      show GO S0 122 48 [vR 0, vI x1, vI x2, vI x3, vI x4] [vI 1] I K
      exact G_retI rc_122_48 (Or.inr (by decide)) h
  · rw [if_neg c2] at h
    show GO S0 122 16 [vR 0, vI x1, vI x2, vI x3, vI x4] [] I K
    refine G_loadR rc_122_16 rfl ?_
    refine G_getR rc_122_17 s0_0 (by decide) rfl (by decide) ?_
    show GO S0 122 20 [vR 0, vI x1, vI x2, vI x3, vI x4] [vR 231] I K
    refine G_loadI rc_122_20 rfl ?_
    refine G_aldR rc_122_21 s0_231 (Or.inl rfl) (by omega) (by omega) (rw231 (i := (x1).toNat) (by omega)) (by omega) ?_
    show GO S0 122 22 [vR 0, vI x1, vI x2, vI x3, vI x4] [vR (232 + (x1).toNat)] I K
    refine G_loadI rc_122_22 rfl ?_
    obtain ⟨c4, h⟩ := h
    refine G_ald rc_122_24 (q231 (i := (x1).toNat) (by omega)) (by omega) (by omega) ?_
    show GO S0 122 25 [vR 0, vI x1, vI x2, vI x3, vI x4] [vI (I (232 + (x1).toNat) (x4).toNat)] I K
    refine G_const rc_122_25 (by decide) ?_
    refine G_i2 (C := ¬ I (232 + (x1).toNat) (x4).toNat = -1) rc_122_26 rfl (fun c5 => ?_) (fun c5 => ?_)
    · rw [if_neg c5] at h
      show GO S0 122 32 [vR 0, vI x1, vI x2, vI x3, vI x4] [] I K
      obtain ⟨c6, h⟩ := h
      refine G_iinc rc_122_32 rfl c6 ?_
      show GO S0 122 35 [vR 0, vI x1, vI x2, vI x3, vI (x4 + 1)] [] I K
      refine G_goto rc_122_35 ?_
      show GO S0 122 5 [vR 0, vI x1, vI x2, vI x3, vI (x4 + 1)] [] I K
      exact h
    · rw [if_pos (Classical.not_not.mp c5)] at h
      show GO S0 122 29 [vR 0, vI x1, vI x2, vI x3, vI x4] [] I K
      obtain ⟨c7, h⟩ := h
      refine G_iinc rc_122_29 rfl c7 ?_
      show GO S0 122 32 [vR 0, vI x1, vI x2, vI (x3 + 1), vI x4] [] I K
      obtain ⟨c8, h⟩ := h
      refine G_iinc rc_122_32 rfl c8 ?_
      show GO S0 122 35 [vR 0, vI x1, vI x2, vI (x3 + 1), vI (x4 + 1)] [] I K
      refine G_goto rc_122_35 ?_
      show GO S0 122 5 [vR 0, vI x1, vI x2, vI (x3 + 1), vI (x4 + 1)] [] I K
      exact h
def D122_0 (x1 : Int) (x2 : Int) (I : IM) (K : Option AV → IM → Prop) : Prop :=
  GO S0 122 5 [vR 0, vI x1, vI x2, vI 0, vI x2] [] I K
set_option maxRecDepth 10000 in
theorem g122_0 (x1 : Int) (x2 : Int) (I : IM) (K : Option AV → IM → Prop) (h : D122_0 x1 x2 I K) : GO S0 122 0 [vR 0, vI x1, vI x2, vU, vU] [] I K := by
  unfold D122_0 at h
  refine G_const rc_122_0 (by decide) ?_
  refine G_storeI rc_122_1 (Nat.le_of_ble_eq_true rfl) ?_
  show GO S0 122 2 [vR 0, vI x1, vI x2, vI 0, vU] [] I K
  refine G_loadI rc_122_2 rfl ?_
  refine G_storeI rc_122_3 (Nat.le_of_ble_eq_true rfl) ?_
  show GO S0 122 5 [vR 0, vI x1, vI x2, vI 0, vI x2] [] I K
  exact h
/-! 123: RoundSlack.thinkOfRow(II)Z -/
def D123_12 (x1 : Int) (x2 : Int) (x3 : Int) (x4 : Int) (u5 : AV) (I : IM) (K : Option AV → IM → Prop) : Prop :=
  (0 ≤ x1 ∧ x1 < 4) ∧ (if I 236 (x1).toNat ≤ x4 then (K (some (vI 1)) I) else ((if (4 : Int) ≤ x3 then (K (some (vI 1)) I) else ((0 ≤ x4 ∧ x4 < 40) ∧ (if I (232 + (x1).toNat) (x4).toNat = -1 then ((inR (x3 + 1)) ∧ (inR (x4 + 1)) ∧ GO S0 123 12 [vR 0, vI x1, vI x2, vI (x3 + 1), vI (x4 + 1), vI (I (232 + (x1).toNat) (x4).toNat)] [] I K) else (CALL S0 21 [vR 0, vI (I (232 + (x1).toNat) (x4).toNat)] I (fun v I6 => ∃ y7 : Int, v = some (vI y7) ∧ (if y7 = 0 then (K (some (vI 0)) I6) else (CALL S0 22 [vR 71, vI (I (232 + (x1).toNat) (x4).toNat)] I6 (fun v I9 => ∃ y10 : Int, v = some (vI y10) ∧ (if y10 = -1 then ((0 ≤ x3 ∧ x3 < 4) ∧ CALL S0 45 [vR 71, vI (I (232 + (x1).toNat) (x4).toNat), vI x3, vI (I9 72 (x3).toNat)] I9 (fun v I13 => v = none ∧ (inR (x4 + 1)) ∧ GO S0 123 12 [vR 0, vI x1, vI x2, vI x3, vI (x4 + 1), vI (I (232 + (x1).toNat) (x4).toNat)] [] I13 K)) else (K (some (vI 0)) I9))))))))))))
set_option maxRecDepth 10000 in
theorem g123_12 (x1 : Int) (x2 : Int) (x3 : Int) (x4 : Int) (u5 : AV) (I : IM) (K : Option AV → IM → Prop) (h : D123_12 x1 x2 x3 x4 u5 I K) : GO S0 123 12 [vR 0, vI x1, vI x2, vI x3, vI x4, u5] [] I K := by
  unfold D123_12 at h
  refine G_loadI rc_123_12 rfl ?_
  refine G_loadR rc_123_14 rfl ?_
  refine G_getR rc_123_15 s0_0 (by decide) rfl (by decide) ?_
  show GO S0 123 18 [vR 0, vI x1, vI x2, vI x3, vI x4, u5] [vR 236, vI x4] I K
  refine G_loadI rc_123_18 rfl ?_
  obtain ⟨c1, h⟩ := h
  refine G_ald rc_123_19 s0_236 (by omega) (by omega) ?_
  show GO S0 123 20 [vR 0, vI x1, vI x2, vI x3, vI x4, u5] [vI (I 236 (x1).toNat), vI x4] I K
  refine G_i2 (C := I 236 (x1).toNat ≤ x4) rc_123_20 rfl (fun c2 => ?_) (fun c2 => ?_)
  · rw [if_pos c2] at h
    show GO S0 123 100 [vR 0, vI x1, vI x2, vI x3, vI x4, u5] [] I K
    refine G_const rc_123_100 (by decide) ?_
    exact G_retI rc_123_101 (Or.inr (by decide)) h
  · rw [if_neg c2] at h
    show GO S0 123 23 [vR 0, vI x1, vI x2, vI x3, vI x4, u5] [] I K
    refine G_loadI rc_123_23 rfl ?_
    refine G_const rc_123_24 (by decide) ?_
    refine G_i2 (C := (4 : Int) ≤ x3) rc_123_25 rfl (fun c3 => ?_) (fun c3 => ?_)
    · rw [if_pos c3] at h
      show GO S0 123 100 [vR 0, vI x1, vI x2, vI x3, vI x4, u5] [] I K
      refine G_const rc_123_100 (by decide) ?_
      exact G_retI rc_123_101 (Or.inr (by decide)) h
    · rw [if_neg c3] at h
      show GO S0 123 28 [vR 0, vI x1, vI x2, vI x3, vI x4, u5] [] I K
      refine G_loadR rc_123_28 rfl ?_
      refine G_getR rc_123_29 s0_0 (by decide) rfl (by decide) ?_
      show GO S0 123 32 [vR 0, vI x1, vI x2, vI x3, vI x4, u5] [vR 231] I K
      refine G_loadI rc_123_32 rfl ?_
      refine G_aldR rc_123_33 s0_231 (Or.inl rfl) (by omega) (by omega) (rw231 (i := (x1).toNat) (by omega)) (by omega) ?_
      show GO S0 123 34 [vR 0, vI x1, vI x2, vI x3, vI x4, u5] [vR (232 + (x1).toNat)] I K
      refine G_loadI rc_123_34 rfl ?_
      obtain ⟨c4, h⟩ := h
      refine G_ald rc_123_36 (q231 (i := (x1).toNat) (by omega)) (by omega) (by omega) ?_
      show GO S0 123 37 [vR 0, vI x1, vI x2, vI x3, vI x4, u5] [vI (I (232 + (x1).toNat) (x4).toNat)] I K
      refine G_storeI rc_123_37 (Nat.le_of_ble_eq_true rfl) ?_
      show GO S0 123 39 [vR 0, vI x1, vI x2, vI x3, vI x4, vI (I (232 + (x1).toNat) (x4).toNat)] [] I K
      refine G_loadI rc_123_39 rfl ?_
      refine G_const rc_123_41 (by decide) ?_
      refine G_i2 (C := ¬ I (232 + (x1).toNat) (x4).toNat = -1) rc_123_42 rfl (fun c5 => ?_) (fun c5 => ?_)
      · rw [if_neg c5] at h
        show GO S0 123 51 [vR 0, vI x1, vI x2, vI x3, vI x4, vI (I (232 + (x1).toNat) (x4).toNat)] [] I K
        refine G_loadR rc_123_51 rfl ?_
        refine G_loadI rc_123_52 rfl ?_
        refine G_call (as := [vR 0, vI (I (232 + (x1).toNat) (x4).toNat)]) (rest := []) rc_123_54 rfl rfl rfl (Nat.le_of_ble_eq_true rfl) (g_recv s0_0 rfl) ?_
        refine GO.imp h (fun v I6 h => ?_)
        obtain ⟨y7, rfl, h⟩ := h
        show GO S0 123 57 [vR 0, vI x1, vI x2, vI x3, vI x4, vI (I (232 + (x1).toNat) (x4).toNat)] [vI y7] I6 K
        refine G_i1 (C := y7 = 0) rc_123_57 rfl (fun c8 => ?_) (fun c8 => ?_)
        · rw [if_pos c8] at h
          show GO S0 123 73 [vR 0, vI x1, vI x2, vI x3, vI x4, vI (I (232 + (x1).toNat) (x4).toNat)] [] I6 K
          refine G_const rc_123_73 (by decide) ?_
          exact G_retI rc_123_74 (Or.inr (by decide)) h
        · rw [if_neg c8] at h
          show GO S0 123 60 [vR 0, vI x1, vI x2, vI x3, vI x4, vI (I (232 + (x1).toNat) (x4).toNat)] [] I6 K
          refine G_loadR rc_123_60 rfl ?_
          refine G_getR rc_123_61 s0_0 (by decide) rfl (by decide) ?_
          show GO S0 123 64 [vR 0, vI x1, vI x2, vI x3, vI x4, vI (I (232 + (x1).toNat) (x4).toNat)] [vR 71] I6 K
          refine G_loadI rc_123_64 rfl ?_
          refine G_call (as := [vR 71, vI (I (232 + (x1).toNat) (x4).toNat)]) (rest := []) rc_123_66 rfl rfl rfl (Nat.le_of_ble_eq_true rfl) (g_recv s0_71 rfl) ?_
          refine GO.imp h (fun v I9 h => ?_)
          obtain ⟨y10, rfl, h⟩ := h
          show GO S0 123 69 [vR 0, vI x1, vI x2, vI x3, vI x4, vI (I (232 + (x1).toNat) (x4).toNat)] [vI y10] I9 K
          refine G_const rc_123_69 (by decide) ?_
          refine G_i2 (C := y10 = -1) rc_123_70 rfl (fun c11 => ?_) (fun c11 => ?_)
          · rw [if_pos c11] at h
            show GO S0 123 75 [vR 0, vI x1, vI x2, vI x3, vI x4, vI (I (232 + (x1).toNat) (x4).toNat)] [] I9 K
            refine G_loadR rc_123_75 rfl ?_
            refine G_getR rc_123_76 s0_0 (by decide) rfl (by decide) ?_
            show GO S0 123 79 [vR 0, vI x1, vI x2, vI x3, vI x4, vI (I (232 + (x1).toNat) (x4).toNat)] [vR 71] I9 K
            refine G_loadI rc_123_79 rfl ?_
            refine G_loadI rc_123_81 rfl ?_
            refine G_loadR rc_123_82 rfl ?_
            refine G_getR rc_123_83 s0_0 (by decide) rfl (by decide) ?_
            show GO S0 123 86 [vR 0, vI x1, vI x2, vI x3, vI x4, vI (I (232 + (x1).toNat) (x4).toNat)] [vR 71, vI x3, vI (I (232 + (x1).toNat) (x4).toNat), vR 71] I9 K
            refine G_getR rc_123_86 s0_71 (by decide) rfl (by decide) ?_
            show GO S0 123 89 [vR 0, vI x1, vI x2, vI x3, vI x4, vI (I (232 + (x1).toNat) (x4).toNat)] [vR 72, vI x3, vI (I (232 + (x1).toNat) (x4).toNat), vR 71] I9 K
            refine G_loadI rc_123_89 rfl ?_
            obtain ⟨c12, h⟩ := h
            refine G_ald rc_123_90 s0_72 (by omega) (by omega) ?_
            show GO S0 123 91 [vR 0, vI x1, vI x2, vI x3, vI x4, vI (I (232 + (x1).toNat) (x4).toNat)] [vI (I9 72 (x3).toNat), vI x3, vI (I (232 + (x1).toNat) (x4).toNat), vR 71] I9 K
            refine G_call (as := [vR 71, vI (I (232 + (x1).toNat) (x4).toNat), vI x3, vI (I9 72 (x3).toNat)]) (rest := []) rc_123_91 rfl rfl rfl (Nat.le_of_ble_eq_true rfl) (g_recv s0_71 rfl) ?_
            refine GO.imp h (fun v I13 h => ?_)
            obtain ⟨rfl, h⟩ := h
            show GO S0 123 94 [vR 0, vI x1, vI x2, vI x3, vI x4, vI (I (232 + (x1).toNat) (x4).toNat)] [] I13 K
            obtain ⟨c14, h⟩ := h
            refine G_iinc rc_123_94 rfl c14 ?_
            show GO S0 123 97 [vR 0, vI x1, vI x2, vI x3, vI (x4 + 1), vI (I (232 + (x1).toNat) (x4).toNat)] [] I13 K
            refine G_goto rc_123_97 ?_
            show GO S0 123 12 [vR 0, vI x1, vI x2, vI x3, vI (x4 + 1), vI (I (232 + (x1).toNat) (x4).toNat)] [] I13 K
            exact h
          · rw [if_neg c11] at h
            show GO S0 123 73 [vR 0, vI x1, vI x2, vI x3, vI x4, vI (I (232 + (x1).toNat) (x4).toNat)] [] I9 K
            refine G_const rc_123_73 (by decide) ?_
            exact G_retI rc_123_74 (Or.inr (by decide)) h
      · rw [if_pos (Classical.not_not.mp c5)] at h
        show GO S0 123 45 [vR 0, vI x1, vI x2, vI x3, vI x4, vI (I (232 + (x1).toNat) (x4).toNat)] [] I K
        obtain ⟨c15, h⟩ := h
        refine G_iinc rc_123_45 rfl c15 ?_
        show GO S0 123 48 [vR 0, vI x1, vI x2, vI (x3 + 1), vI x4, vI (I (232 + (x1).toNat) (x4).toNat)] [] I K
        refine G_goto rc_123_48 ?_
        show GO S0 123 94 [vR 0, vI x1, vI x2, vI (x3 + 1), vI x4, vI (I (232 + (x1).toNat) (x4).toNat)] [] I K
        obtain ⟨c16, h⟩ := h
        refine G_iinc rc_123_94 rfl c16 ?_
        show GO S0 123 97 [vR 0, vI x1, vI x2, vI (x3 + 1), vI (x4 + 1), vI (I (232 + (x1).toNat) (x4).toNat)] [] I K
        refine G_goto rc_123_97 ?_
        show GO S0 123 12 [vR 0, vI x1, vI x2, vI (x3 + 1), vI (x4 + 1), vI (I (232 + (x1).toNat) (x4).toNat)] [] I K
        exact h
def D123_0 (x1 : Int) (x2 : Int) (I : IM) (K : Option AV → IM → Prop) : Prop :=
  CALL S0 43 [vR 71] I (fun v I1 => v = none ∧ GO S0 123 12 [vR 0, vI x1, vI x2, vI 0, vI x2, vU] [] I1 K)
set_option maxRecDepth 10000 in
theorem g123_0 (x1 : Int) (x2 : Int) (I : IM) (K : Option AV → IM → Prop) (h : D123_0 x1 x2 I K) : GO S0 123 0 [vR 0, vI x1, vI x2, vU, vU, vU] [] I K := by
  unfold D123_0 at h
  refine G_loadR rc_123_0 rfl ?_
  refine G_getR rc_123_1 s0_0 (by decide) rfl (by decide) ?_
  show GO S0 123 4 [vR 0, vI x1, vI x2, vU, vU, vU] [vR 71] I K
  refine G_call (as := [vR 71]) (rest := []) rc_123_4 rfl rfl rfl (Nat.le_of_ble_eq_true rfl) (g_recv s0_71 rfl) ?_
  refine GO.imp h (fun v I1 h => ?_)
  obtain ⟨rfl, h⟩ := h
  show GO S0 123 7 [vR 0, vI x1, vI x2, vU, vU, vU] [] I1 K
  refine G_const rc_123_7 (by decide) ?_
  refine G_storeI rc_123_8 (Nat.le_of_ble_eq_true rfl) ?_
  show GO S0 123 9 [vR 0, vI x1, vI x2, vI 0, vU, vU] [] I1 K
  refine G_loadI rc_123_9 rfl ?_
  refine G_storeI rc_123_10 (Nat.le_of_ble_eq_true rfl) ?_
  show GO S0 123 12 [vR 0, vI x1, vI x2, vI 0, vI x2, vU] [] I1 K
  exact h
/-! 124: RoundSlack.image()I -/
def D124_0 (I : IM) (K : Option AV → IM → Prop) : Prop :=
  CALL S0 125 [vR 36, vR 1] I (fun v I1 => v = none ∧ CALL S0 126 [vR 59, vR 24] I1 (fun v I2 => v = none ∧ CALL S0 53 [vR 64, vR 29] I2 (fun v I3 => v = none ∧ ∀ I4 : IM, I4 = iup I3 0 6 1 → K (some (vI (I4 1 0))) I4)))
set_option maxRecDepth 10000 in
theorem g124_0 (I : IM) (K : Option AV → IM → Prop) (h : D124_0 I K) : GO S0 124 0 [vR 0] [] I K := by
  unfold D124_0 at h
  refine G_loadR rc_124_0 rfl ?_
  refine G_getR rc_124_1 s0_0 (by decide) rfl (by decide) ?_
  show GO S0 124 4 [vR 0] [vR 36] I K
  refine G_loadR rc_124_4 rfl ?_
  refine G_getR rc_124_5 s0_0 (by decide) rfl (by decide) ?_
  show GO S0 124 8 [vR 0] [vR 1, vR 36] I K
  refine G_call (as := [vR 36, vR 1]) (rest := []) rc_124_8 rfl rfl rfl (Nat.le_of_ble_eq_true rfl) (g_recv s0_36 rfl) ?_
  refine GO.imp h (fun v I1 h => ?_)
  obtain ⟨rfl, h⟩ := h
  show GO S0 124 11 [vR 0] [] I1 K
  refine G_loadR rc_124_11 rfl ?_
  refine G_getR rc_124_12 s0_0 (by decide) rfl (by decide) ?_
  show GO S0 124 15 [vR 0] [vR 59] I1 K
  refine G_loadR rc_124_15 rfl ?_
  refine G_getR rc_124_16 s0_0 (by decide) rfl (by decide) ?_
  show GO S0 124 19 [vR 0] [vR 24, vR 59] I1 K
  refine G_call (as := [vR 59, vR 24]) (rest := []) rc_124_19 rfl rfl rfl (Nat.le_of_ble_eq_true rfl) (g_recv s0_59 rfl) ?_
  refine GO.imp h (fun v I2 h => ?_)
  obtain ⟨rfl, h⟩ := h
  show GO S0 124 22 [vR 0] [] I2 K
  refine G_loadR rc_124_22 rfl ?_
  refine G_getR rc_124_23 s0_0 (by decide) rfl (by decide) ?_
  show GO S0 124 26 [vR 0] [vR 64] I2 K
  refine G_loadR rc_124_26 rfl ?_
  refine G_getR rc_124_27 s0_0 (by decide) rfl (by decide) ?_
  show GO S0 124 30 [vR 0] [vR 29, vR 64] I2 K
  refine G_call (as := [vR 64, vR 29]) (rest := []) rc_124_30 rfl rfl rfl (Nat.le_of_ble_eq_true rfl) (g_recv s0_64 rfl) ?_
  refine GO.imp h (fun v I3 h => ?_)
  obtain ⟨rfl, h⟩ := h
  show GO S0 124 33 [vR 0] [] I3 K
  refine G_loadR rc_124_33 rfl ?_
  refine G_const rc_124_34 (by decide) ?_
  refine G_putI rc_124_35 s0_0 (by decide) (Or.inr (by decide)) ?_
  show GO S0 124 38 [vR 0] [] (iup I3 0 6 1) K
  have h := h _ rfl
  generalize iup I3 0 6 1 = I4 at h ⊢
  refine G_loadR rc_124_38 rfl ?_
  refine G_getR rc_124_39 s0_0 (by decide) rfl (by decide) ?_
  show GO S0 124 42 [vR 0] [vR 1] I4 K
  refine G_getI rc_124_42 s0_1 (by decide) ?_
  show GO S0 124 45 [vR 0] [vI (I4 1 0)] I4 K
  exact G_retI rc_124_45 (Or.inl rfl) h
/-! 125: RoundSlack$Book.copyFrom(LRoundSlack$Book;)V -/
def D125_130 (r0 : Nat) (r1 : Nat) (x2 : Int) (I : IM) (K : Option AV → IM → Prop) : Prop :=
  (if (13 : Int) ≤ x2 then (K none I) else ((0 ≤ x2 ∧ x2 < 13) ∧ ((0 : Int) ≤ 0 ∧ (0 : Int) ≤ 0 ∧ (0 : Int) ≤ 13 ∧ 0 + 13 ≤ (13 : Int) ∧ 0 + 13 ≤ (13 : Int)) ∧ ∀ I4 : IM, I4 = icp I (r1 + 10 + (x2).toNat) 0 (r0 + 10 + (x2).toNat) 0 13 → (inR (x2 + 1)) ∧ GO S0 125 130 [vR r0, vR r1, vI (x2 + 1)] [] I4 K))
set_option maxRecDepth 10000 in
theorem g125_130 (r0 : Nat) (r1 : Nat) (h0 : isBk r0) (h1 : isBk r1) (x2 : Int) (I : IM) (K : Option AV → IM → Prop) (h : D125_130 r0 r1 x2 I K) : GO S0 125 130 [vR r0, vR r1, vI x2] [] I K := by
  unfold D125_130 at h
  refine G_loadI rc_125_130 rfl ?_
  refine G_const rc_125_131 (by decide) ?_
  refine G_i2 (C := (13 : Int) ≤ x2) rc_125_133 rfl (fun c1 => ?_) (fun c1 => ?_)
  · rw [if_pos c1] at h
    show GO S0 125 161 [vR r0, vR r1, vI x2] [] I K
    exact G_ret0 rc_125_161 h
  · rw [if_neg c1] at h
    show GO S0 125 136 [vR r0, vR r1, vI x2] [] I K
    refine G_loadR rc_125_136 rfl ?_
    refine G_getR rc_125_137 (bk_0 h1) (by decide) rfl (by have := bk_lt h1; omega) ?_
    show GO S0 125 140 [vR r0, vR r1, vI x2] [vR (r1 + 9)] I K
    refine G_loadI rc_125_140 rfl ?_
    obtain ⟨c2, h⟩ := h
    refine G_aldR rc_125_141 (bk_9 h1) (Or.inl rfl) (by omega) (by omega) (rg_row (b := r1 + 10) (n := 13) (i := (x2).toNat) (by omega)) (by have := bk_lt h1; omega) ?_
    show GO S0 125 142 [vR r0, vR r1, vI x2] [vR (r1 + 10 + (x2).toNat)] I K
    refine G_const rc_125_142 (by decide) ?_
    refine G_loadR rc_125_143 rfl ?_
    refine G_getR rc_125_144 (bk_0 h0) (by decide) rfl (by have := bk_lt h0; omega) ?_
    show GO S0 125 147 [vR r0, vR r1, vI x2] [vR (r0 + 9), vI 0, vR (r1 + 10 + (x2).toNat)] I K
    refine G_loadI rc_125_147 rfl ?_
    refine G_aldR rc_125_148 (bk_9 h0) (Or.inl rfl) (by omega) (by omega) (rg_row (b := r0 + 10) (n := 13) (i := (x2).toNat) (by omega)) (by have := bk_lt h0; omega) ?_
    show GO S0 125 149 [vR r0, vR r1, vI x2] [vR (r0 + 10 + (x2).toNat), vI 0, vR (r1 + 10 + (x2).toNat)] I K
    refine G_const rc_125_149 (by decide) ?_
    refine G_const rc_125_150 (by decide) ?_
    obtain ⟨c3, h⟩ := h
    refine G_copy rc_125_152 (bk_10 (i := (x2).toNat) h1 (by omega)) (bk_10 (i := (x2).toNat) h0 (by omega)) (by omega) (by omega) (by omega) (by omega) (by omega) (Nat.le_of_ble_eq_true rfl) ?_
    show GO S0 125 155 [vR r0, vR r1, vI x2] [] (icp I (r1 + 10 + (x2).toNat) 0 (r0 + 10 + (x2).toNat) 0 13) K
    have h := h _ rfl
    generalize icp I (r1 + 10 + (x2).toNat) 0 (r0 + 10 + (x2).toNat) 0 13 = I4 at h ⊢
    show GO S0 125 155 [vR r0, vR r1, vI x2] [] I4 K
    obtain ⟨c5, h⟩ := h
    refine G_iinc rc_125_155 rfl c5 ?_
    show GO S0 125 158 [vR r0, vR r1, vI (x2 + 1)] [] I4 K
    refine G_goto rc_125_158 ?_
    show GO S0 125 130 [vR r0, vR r1, vI (x2 + 1)] [] I4 K
    exact h
def D125_0 (r0 : Nat) (r1 : Nat) (I : IM) (K : Option AV → IM → Prop) : Prop :=
  ∀ I1 : IM, I1 = iup I r0 0 (I r1 0) → ((0 : Int) ≤ 0 ∧ (0 : Int) ≤ 0 ∧ (0 : Int) ≤ 13 ∧ 0 + 13 ≤ (13 : Int) ∧ 0 + 13 ≤ (13 : Int)) ∧ ∀ I3 : IM, I3 = icp I1 (r1 + 1) 0 (r0 + 1) 0 13 → ∀ I4 : IM, I4 = icp I3 (r1 + 2) 0 (r0 + 2) 0 13 → ∀ I5 : IM, I5 = icp I4 (r1 + 3) 0 (r0 + 3) 0 13 → ∀ I6 : IM, I6 = icp I5 (r1 + 4) 0 (r0 + 4) 0 13 → ∀ I7 : IM, I7 = icp I6 (r1 + 5) 0 (r0 + 5) 0 13 → ∀ I8 : IM, I8 = icp I7 (r1 + 6) 0 (r0 + 6) 0 13 → ∀ I9 : IM, I9 = icp I8 (r1 + 7) 0 (r0 + 7) 0 13 → ∀ I10 : IM, I10 = icp I9 (r1 + 8) 0 (r0 + 8) 0 13 → GO S0 125 130 [vR r0, vR r1, vI 0] [] I10 K
set_option maxRecDepth 10000 in
theorem g125_0 (r0 : Nat) (r1 : Nat) (h0 : isBk r0) (h1 : isBk r1) (I : IM) (K : Option AV → IM → Prop) (h : D125_0 r0 r1 I K) : GO S0 125 0 [vR r0, vR r1, vU] [] I K := by
  unfold D125_0 at h
  refine G_loadR rc_125_0 rfl ?_
  refine G_loadR rc_125_1 rfl ?_
  refine G_getI rc_125_2 (bk_0 h1) (by decide) ?_
  show GO S0 125 5 [vR r0, vR r1, vU] [vI (I r1 0), vR r0] I K
  refine G_putI rc_125_5 (bk_0 h0) (by decide) (Or.inl rfl) ?_
  show GO S0 125 8 [vR r0, vR r1, vU] [] (iup I r0 0 (I r1 0)) K
  have h := h _ rfl
  generalize iup I r0 0 (I r1 0) = I1 at h ⊢
  refine G_loadR rc_125_8 rfl ?_
  refine G_getR rc_125_9 (bk_0 h1) (by decide) rfl (by have := bk_lt h1; omega) ?_
  show GO S0 125 12 [vR r0, vR r1, vU] [vR (r1 + 1)] I1 K
  refine G_const rc_125_12 (by decide) ?_
  refine G_loadR rc_125_13 rfl ?_
  refine G_getR rc_125_14 (bk_0 h0) (by decide) rfl (by have := bk_lt h0; omega) ?_
  show GO S0 125 17 [vR r0, vR r1, vU] [vR (r0 + 1), vI 0, vR (r1 + 1)] I1 K
  refine G_const rc_125_17 (by decide) ?_
  refine G_const rc_125_18 (by decide) ?_
  obtain ⟨c2, h⟩ := h
  refine G_copy rc_125_20 (bk_1 h1) (bk_1 h0) (by omega) (by omega) (by omega) (by omega) (by omega) (Nat.le_of_ble_eq_true rfl) ?_
  show GO S0 125 23 [vR r0, vR r1, vU] [] (icp I1 (r1 + 1) 0 (r0 + 1) 0 13) K
  have h := h _ rfl
  generalize icp I1 (r1 + 1) 0 (r0 + 1) 0 13 = I3 at h ⊢
  show GO S0 125 23 [vR r0, vR r1, vU] [] I3 K
  refine G_loadR rc_125_23 rfl ?_
  refine G_getR rc_125_24 (bk_0 h1) (by decide) rfl (by have := bk_lt h1; omega) ?_
  show GO S0 125 27 [vR r0, vR r1, vU] [vR (r1 + 2)] I3 K
  refine G_const rc_125_27 (by decide) ?_
  refine G_loadR rc_125_28 rfl ?_
  refine G_getR rc_125_29 (bk_0 h0) (by decide) rfl (by have := bk_lt h0; omega) ?_
  show GO S0 125 32 [vR r0, vR r1, vU] [vR (r0 + 2), vI 0, vR (r1 + 2)] I3 K
  refine G_const rc_125_32 (by decide) ?_
  refine G_const rc_125_33 (by decide) ?_
  refine G_copy rc_125_35 (bk_2 h1) (bk_2 h0) (by omega) (by omega) (by omega) (by omega) (by omega) (Nat.le_of_ble_eq_true rfl) ?_
  show GO S0 125 38 [vR r0, vR r1, vU] [] (icp I3 (r1 + 2) 0 (r0 + 2) 0 13) K
  have h := h _ rfl
  generalize icp I3 (r1 + 2) 0 (r0 + 2) 0 13 = I4 at h ⊢
  show GO S0 125 38 [vR r0, vR r1, vU] [] I4 K
  refine G_loadR rc_125_38 rfl ?_
  refine G_getR rc_125_39 (bk_0 h1) (by decide) rfl (by have := bk_lt h1; omega) ?_
  show GO S0 125 42 [vR r0, vR r1, vU] [vR (r1 + 3)] I4 K
  refine G_const rc_125_42 (by decide) ?_
  refine G_loadR rc_125_43 rfl ?_
  refine G_getR rc_125_44 (bk_0 h0) (by decide) rfl (by have := bk_lt h0; omega) ?_
  show GO S0 125 47 [vR r0, vR r1, vU] [vR (r0 + 3), vI 0, vR (r1 + 3)] I4 K
  refine G_const rc_125_47 (by decide) ?_
  refine G_const rc_125_48 (by decide) ?_
  refine G_copy rc_125_50 (bk_3 h1) (bk_3 h0) (by omega) (by omega) (by omega) (by omega) (by omega) (Nat.le_of_ble_eq_true rfl) ?_
  show GO S0 125 53 [vR r0, vR r1, vU] [] (icp I4 (r1 + 3) 0 (r0 + 3) 0 13) K
  have h := h _ rfl
  generalize icp I4 (r1 + 3) 0 (r0 + 3) 0 13 = I5 at h ⊢
  show GO S0 125 53 [vR r0, vR r1, vU] [] I5 K
  refine G_loadR rc_125_53 rfl ?_
  refine G_getR rc_125_54 (bk_0 h1) (by decide) rfl (by have := bk_lt h1; omega) ?_
  show GO S0 125 57 [vR r0, vR r1, vU] [vR (r1 + 4)] I5 K
  refine G_const rc_125_57 (by decide) ?_
  refine G_loadR rc_125_58 rfl ?_
  refine G_getR rc_125_59 (bk_0 h0) (by decide) rfl (by have := bk_lt h0; omega) ?_
  show GO S0 125 62 [vR r0, vR r1, vU] [vR (r0 + 4), vI 0, vR (r1 + 4)] I5 K
  refine G_const rc_125_62 (by decide) ?_
  refine G_const rc_125_63 (by decide) ?_
  refine G_copy rc_125_65 (bk_4 h1) (bk_4 h0) (by omega) (by omega) (by omega) (by omega) (by omega) (Nat.le_of_ble_eq_true rfl) ?_
  show GO S0 125 68 [vR r0, vR r1, vU] [] (icp I5 (r1 + 4) 0 (r0 + 4) 0 13) K
  have h := h _ rfl
  generalize icp I5 (r1 + 4) 0 (r0 + 4) 0 13 = I6 at h ⊢
  show GO S0 125 68 [vR r0, vR r1, vU] [] I6 K
  refine G_loadR rc_125_68 rfl ?_
  refine G_getR rc_125_69 (bk_0 h1) (by decide) rfl (by have := bk_lt h1; omega) ?_
  show GO S0 125 72 [vR r0, vR r1, vU] [vR (r1 + 5)] I6 K
  refine G_const rc_125_72 (by decide) ?_
  refine G_loadR rc_125_73 rfl ?_
  refine G_getR rc_125_74 (bk_0 h0) (by decide) rfl (by have := bk_lt h0; omega) ?_
  show GO S0 125 77 [vR r0, vR r1, vU] [vR (r0 + 5), vI 0, vR (r1 + 5)] I6 K
  refine G_const rc_125_77 (by decide) ?_
  refine G_const rc_125_78 (by decide) ?_
  refine G_copy rc_125_80 (bk_5 h1) (bk_5 h0) (by omega) (by omega) (by omega) (by omega) (by omega) (Nat.le_of_ble_eq_true rfl) ?_
  show GO S0 125 83 [vR r0, vR r1, vU] [] (icp I6 (r1 + 5) 0 (r0 + 5) 0 13) K
  have h := h _ rfl
  generalize icp I6 (r1 + 5) 0 (r0 + 5) 0 13 = I7 at h ⊢
  show GO S0 125 83 [vR r0, vR r1, vU] [] I7 K
  refine G_loadR rc_125_83 rfl ?_
  refine G_getR rc_125_84 (bk_0 h1) (by decide) rfl (by have := bk_lt h1; omega) ?_
  show GO S0 125 87 [vR r0, vR r1, vU] [vR (r1 + 6)] I7 K
  refine G_const rc_125_87 (by decide) ?_
  refine G_loadR rc_125_88 rfl ?_
  refine G_getR rc_125_89 (bk_0 h0) (by decide) rfl (by have := bk_lt h0; omega) ?_
  show GO S0 125 92 [vR r0, vR r1, vU] [vR (r0 + 6), vI 0, vR (r1 + 6)] I7 K
  refine G_const rc_125_92 (by decide) ?_
  refine G_const rc_125_93 (by decide) ?_
  refine G_copy rc_125_95 (bk_6 h1) (bk_6 h0) (by omega) (by omega) (by omega) (by omega) (by omega) (Nat.le_of_ble_eq_true rfl) ?_
  show GO S0 125 98 [vR r0, vR r1, vU] [] (icp I7 (r1 + 6) 0 (r0 + 6) 0 13) K
  have h := h _ rfl
  generalize icp I7 (r1 + 6) 0 (r0 + 6) 0 13 = I8 at h ⊢
  show GO S0 125 98 [vR r0, vR r1, vU] [] I8 K
  refine G_loadR rc_125_98 rfl ?_
  refine G_getR rc_125_99 (bk_0 h1) (by decide) rfl (by have := bk_lt h1; omega) ?_
  show GO S0 125 102 [vR r0, vR r1, vU] [vR (r1 + 7)] I8 K
  refine G_const rc_125_102 (by decide) ?_
  refine G_loadR rc_125_103 rfl ?_
  refine G_getR rc_125_104 (bk_0 h0) (by decide) rfl (by have := bk_lt h0; omega) ?_
  show GO S0 125 107 [vR r0, vR r1, vU] [vR (r0 + 7), vI 0, vR (r1 + 7)] I8 K
  refine G_const rc_125_107 (by decide) ?_
  refine G_const rc_125_108 (by decide) ?_
  refine G_copy rc_125_110 (bk_7 h1) (bk_7 h0) (by omega) (by omega) (by omega) (by omega) (by omega) (Nat.le_of_ble_eq_true rfl) ?_
  show GO S0 125 113 [vR r0, vR r1, vU] [] (icp I8 (r1 + 7) 0 (r0 + 7) 0 13) K
  have h := h _ rfl
  generalize icp I8 (r1 + 7) 0 (r0 + 7) 0 13 = I9 at h ⊢
  show GO S0 125 113 [vR r0, vR r1, vU] [] I9 K
  refine G_loadR rc_125_113 rfl ?_
  refine G_getR rc_125_114 (bk_0 h1) (by decide) rfl (by have := bk_lt h1; omega) ?_
  show GO S0 125 117 [vR r0, vR r1, vU] [vR (r1 + 8)] I9 K
  refine G_const rc_125_117 (by decide) ?_
  refine G_loadR rc_125_118 rfl ?_
  refine G_getR rc_125_119 (bk_0 h0) (by decide) rfl (by have := bk_lt h0; omega) ?_
  show GO S0 125 122 [vR r0, vR r1, vU] [vR (r0 + 8), vI 0, vR (r1 + 8)] I9 K
  refine G_const rc_125_122 (by decide) ?_
  refine G_const rc_125_123 (by decide) ?_
  refine G_copy rc_125_125 (bk_8 h1) (bk_8 h0) (by omega) (by omega) (by omega) (by omega) (by omega) (Nat.le_of_ble_eq_true rfl) ?_
  show GO S0 125 128 [vR r0, vR r1, vU] [] (icp I9 (r1 + 8) 0 (r0 + 8) 0 13) K
  have h := h _ rfl
  generalize icp I9 (r1 + 8) 0 (r0 + 8) 0 13 = I10 at h ⊢
  show GO S0 125 128 [vR r0, vR r1, vU] [] I10 K
  refine G_const rc_125_128 (by decide) ?_
  refine G_storeI rc_125_129 (Nat.le_of_ble_eq_true rfl) ?_
  show GO S0 125 130 [vR r0, vR r1, vI 0] [] I10 K
  exact h
/-! 126: RoundSlack$Fleet.copyFrom(LRoundSlack$Fleet;)V -/
def D126_0 (r0 : Nat) (r1 : Nat) (I : IM) (K : Option AV → IM → Prop) : Prop :=
  ((0 : Int) ≤ 0 ∧ (0 : Int) ≤ 0 ∧ (0 : Int) ≤ 4 ∧ 0 + 4 ≤ (4 : Int) ∧ 0 + 4 ≤ (4 : Int)) ∧ ∀ I2 : IM, I2 = icp I (r1 + 1) 0 (r0 + 1) 0 4 → ∀ I3 : IM, I3 = icp I2 (r1 + 2) 0 (r0 + 2) 0 4 → ∀ I4 : IM, I4 = icp I3 (r1 + 3) 0 (r0 + 3) 0 4 → ((0 : Int) ≤ 0 ∧ (0 : Int) ≤ 0 ∧ (0 : Int) ≤ 3 ∧ 0 + 3 ≤ (3 : Int) ∧ 0 + 3 ≤ (3 : Int)) ∧ ∀ I6 : IM, I6 = icp I4 (r1 + 4) 0 (r0 + 4) 0 3 → K none I6
set_option maxRecDepth 10000 in
theorem g126_0 (r0 : Nat) (r1 : Nat) (h0 : isFl r0) (h1 : isFl r1) (I : IM) (K : Option AV → IM → Prop) (h : D126_0 r0 r1 I K) : GO S0 126 0 [vR r0, vR r1] [] I K := by
  unfold D126_0 at h
  refine G_loadR rc_126_0 rfl ?_
  refine G_getR rc_126_1 (fl_0 h1) (by decide) rfl (by have := fl_lt h1; omega) ?_
  show GO S0 126 4 [vR r0, vR r1] [vR (r1 + 1)] I K
  refine G_const rc_126_4 (by decide) ?_
  refine G_loadR rc_126_5 rfl ?_
  refine G_getR rc_126_6 (fl_0 h0) (by decide) rfl (by have := fl_lt h0; omega) ?_
  show GO S0 126 9 [vR r0, vR r1] [vR (r0 + 1), vI 0, vR (r1 + 1)] I K
  refine G_const rc_126_9 (by decide) ?_
  refine G_const rc_126_10 (by decide) ?_
  obtain ⟨c1, h⟩ := h
  refine G_copy rc_126_11 (fl_1 h1) (fl_1 h0) (by omega) (by omega) (by omega) (by omega) (by omega) (Nat.le_of_ble_eq_true rfl) ?_
  show GO S0 126 14 [vR r0, vR r1] [] (icp I (r1 + 1) 0 (r0 + 1) 0 4) K
  have h := h _ rfl
  generalize icp I (r1 + 1) 0 (r0 + 1) 0 4 = I2 at h ⊢
  show GO S0 126 14 [vR r0, vR r1] [] I2 K
  refine G_loadR rc_126_14 rfl ?_
  refine G_getR rc_126_15 (fl_0 h1) (by decide) rfl (by have := fl_lt h1; omega) ?_
  show GO S0 126 18 [vR r0, vR r1] [vR (r1 + 2)] I2 K
  refine G_const rc_126_18 (by decide) ?_
  refine G_loadR rc_126_19 rfl ?_
  refine G_getR rc_126_20 (fl_0 h0) (by decide) rfl (by have := fl_lt h0; omega) ?_
  show GO S0 126 23 [vR r0, vR r1] [vR (r0 + 2), vI 0, vR (r1 + 2)] I2 K
  refine G_const rc_126_23 (by decide) ?_
  refine G_const rc_126_24 (by decide) ?_
  refine G_copy rc_126_25 (fl_2 h1) (fl_2 h0) (by omega) (by omega) (by omega) (by omega) (by omega) (Nat.le_of_ble_eq_true rfl) ?_
  show GO S0 126 28 [vR r0, vR r1] [] (icp I2 (r1 + 2) 0 (r0 + 2) 0 4) K
  have h := h _ rfl
  generalize icp I2 (r1 + 2) 0 (r0 + 2) 0 4 = I3 at h ⊢
  show GO S0 126 28 [vR r0, vR r1] [] I3 K
  refine G_loadR rc_126_28 rfl ?_
  refine G_getR rc_126_29 (fl_0 h1) (by decide) rfl (by have := fl_lt h1; omega) ?_
  show GO S0 126 32 [vR r0, vR r1] [vR (r1 + 3)] I3 K
  refine G_const rc_126_32 (by decide) ?_
  refine G_loadR rc_126_33 rfl ?_
  refine G_getR rc_126_34 (fl_0 h0) (by decide) rfl (by have := fl_lt h0; omega) ?_
  show GO S0 126 37 [vR r0, vR r1] [vR (r0 + 3), vI 0, vR (r1 + 3)] I3 K
  refine G_const rc_126_37 (by decide) ?_
  refine G_const rc_126_38 (by decide) ?_
  refine G_copy rc_126_39 (fl_3 h1) (fl_3 h0) (by omega) (by omega) (by omega) (by omega) (by omega) (Nat.le_of_ble_eq_true rfl) ?_
  show GO S0 126 42 [vR r0, vR r1] [] (icp I3 (r1 + 3) 0 (r0 + 3) 0 4) K
  have h := h _ rfl
  generalize icp I3 (r1 + 3) 0 (r0 + 3) 0 4 = I4 at h ⊢
  show GO S0 126 42 [vR r0, vR r1] [] I4 K
  refine G_loadR rc_126_42 rfl ?_
  refine G_getR rc_126_43 (fl_0 h1) (by decide) rfl (by have := fl_lt h1; omega) ?_
  show GO S0 126 46 [vR r0, vR r1] [vR (r1 + 4)] I4 K
  refine G_const rc_126_46 (by decide) ?_
  refine G_loadR rc_126_47 rfl ?_
  refine G_getR rc_126_48 (fl_0 h0) (by decide) rfl (by have := fl_lt h0; omega) ?_
  show GO S0 126 51 [vR r0, vR r1] [vR (r0 + 4), vI 0, vR (r1 + 4)] I4 K
  refine G_const rc_126_51 (by decide) ?_
  refine G_const rc_126_52 (by decide) ?_
  obtain ⟨c5, h⟩ := h
  refine G_copy rc_126_53 (fl_4 h1) (fl_4 h0) (by omega) (by omega) (by omega) (by omega) (by omega) (Nat.le_of_ble_eq_true rfl) ?_
  show GO S0 126 56 [vR r0, vR r1] [] (icp I4 (r1 + 4) 0 (r0 + 4) 0 3) K
  have h := h _ rfl
  generalize icp I4 (r1 + 4) 0 (r0 + 4) 0 3 = I6 at h ⊢
  show GO S0 126 56 [vR r0, vR r1] [] I6 K
  exact G_ret0 rc_126_56 h
/-! 127: RoundSlack.undo()I -/
def D127_0 (I : IM) (K : Option AV → IM → Prop) : Prop :=
  (if I 0 6 = 0 then (K (some (vI (-3))) I) else (CALL S0 125 [vR 1, vR 36] I (fun v I2 => v = none ∧ CALL S0 126 [vR 24, vR 59] I2 (fun v I3 => v = none ∧ CALL S0 53 [vR 29, vR 64] I3 (fun v I4 => v = none ∧ CALL S0 17 [vR 78] I4 (fun v I5 => v = none ∧ K (some (vI (I5 1 0))) I5))))))
set_option maxRecDepth 10000 in
theorem g127_0 (I : IM) (K : Option AV → IM → Prop) (h : D127_0 I K) : GO S0 127 0 [vR 0] [] I K := by
  unfold D127_0 at h
  refine G_loadR rc_127_0 rfl ?_
  refine G_getI rc_127_1 s0_0 (by decide) ?_
  show GO S0 127 4 [vR 0] [vI (I 0 6)] I K
  refine G_i1 (C := ¬ I 0 6 = 0) rc_127_4 rfl (fun c1 => ?_) (fun c1 => ?_)
  · rw [if_neg c1] at h
    show GO S0 127 10 [vR 0] [] I K
    refine G_loadR rc_127_10 rfl ?_
    refine G_getR rc_127_11 s0_0 (by decide) rfl (by decide) ?_
    show GO S0 127 14 [vR 0] [vR 1] I K
    refine G_loadR rc_127_14 rfl ?_
    refine G_getR rc_127_15 s0_0 (by decide) rfl (by decide) ?_
    show GO S0 127 18 [vR 0] [vR 36, vR 1] I K
    refine G_call (as := [vR 1, vR 36]) (rest := []) rc_127_18 rfl rfl rfl (Nat.le_of_ble_eq_true rfl) (g_recv s0_1 rfl) ?_
    refine GO.imp h (fun v I2 h => ?_)
    obtain ⟨rfl, h⟩ := h
    show GO S0 127 21 [vR 0] [] I2 K
    refine G_loadR rc_127_21 rfl ?_
    refine G_getR rc_127_22 s0_0 (by decide) rfl (by decide) ?_
    show GO S0 127 25 [vR 0] [vR 24] I2 K
    refine G_loadR rc_127_25 rfl ?_
    refine G_getR rc_127_26 s0_0 (by decide) rfl (by decide) ?_
    show GO S0 127 29 [vR 0] [vR 59, vR 24] I2 K
    refine G_call (as := [vR 24, vR 59]) (rest := []) rc_127_29 rfl rfl rfl (Nat.le_of_ble_eq_true rfl) (g_recv s0_24 rfl) ?_
    refine GO.imp h (fun v I3 h => ?_)
    obtain ⟨rfl, h⟩ := h
    show GO S0 127 32 [vR 0] [] I3 K
    refine G_loadR rc_127_32 rfl ?_
    refine G_getR rc_127_33 s0_0 (by decide) rfl (by decide) ?_
    show GO S0 127 36 [vR 0] [vR 29] I3 K
    refine G_loadR rc_127_36 rfl ?_
    refine G_getR rc_127_37 s0_0 (by decide) rfl (by decide) ?_
    show GO S0 127 40 [vR 0] [vR 64, vR 29] I3 K
    refine G_call (as := [vR 29, vR 64]) (rest := []) rc_127_40 rfl rfl rfl (Nat.le_of_ble_eq_true rfl) (g_recv s0_29 rfl) ?_
    refine GO.imp h (fun v I4 h => ?_)
    obtain ⟨rfl, h⟩ := h
    show GO S0 127 43 [vR 0] [] I4 K
    refine G_loadR rc_127_43 rfl ?_
    refine G_getR rc_127_44 s0_0 (by decide) rfl (by decide) ?_
    show GO S0 127 47 [vR 0] [vR 78] I4 K
    refine G_call (as := [vR 78]) (rest := []) rc_127_47 rfl rfl rfl (Nat.le_of_ble_eq_true rfl) (g_recv s0_78 rfl) ?_
    refine GO.imp h (fun v I5 h => ?_)
    obtain ⟨rfl, h⟩ := h
    show GO S0 127 50 [vR 0] [] I5 K
    refine G_loadR rc_127_50 rfl ?_
    refine G_getR rc_127_51 s0_0 (by decide) rfl (by decide) ?_
    show GO S0 127 54 [vR 0] [vR 1] I5 K
    refine G_getI rc_127_54 s0_1 (by decide) ?_
    show GO S0 127 57 [vR 0] [vI (I5 1 0)] I5 K
    exact G_retI rc_127_57 (Or.inl rfl) h
  · rw [if_pos (Classical.not_not.mp c1)] at h
    show GO S0 127 7 [vR 0] [] I K
    refine G_const rc_127_7 (by decide) ?_
    exact G_retI rc_127_9 (Or.inl rfl) h
/-! 129: RoundSlackModel.depot(II)I -/
def D129_0 (x1 : Int) (x2 : Int) (I : IM) (K : Option AV → IM → Prop) : Prop :=
  CALL S0 130 [vI x1, vI 0, vI 40] I (fun v I1 => ∃ y2 : Int, v = some (vI y2) ∧ (if y2 = 0 then (K (some (vI (-2))) I1) else (CALL S0 130 [vI x2, vI 0, vI 40] I1 (fun v I4 => ∃ y5 : Int, v = some (vI y5) ∧ (if y5 = 0 then (K (some (vI (-2))) I4) else (CALL S0 131 [vR 237] I4 (fun v I7 => ∃ y8 : Int, v = some (vI y8) ∧ (if y8 = 0 then (K (some (vI (-3))) I7) else (∀ I10 : IM, I10 = iup I7 238 0 x1 → ∀ I11 : IM, I11 = iup I10 238 1 x2 → CALL S0 133 [vR 237, vI 1] I11 (fun v I12 => ∃ y13 : Int, v = some (vI y13) ∧ K (some (vI y13)) I12))))))))))
set_option maxRecDepth 10000 in
theorem g129_0 (x1 : Int) (x2 : Int) (I : IM) (K : Option AV → IM → Prop) (h : D129_0 x1 x2 I K) : GO S0 129 0 [vR 237, vI x1, vI x2] [] I K := by
  unfold D129_0 at h
  refine G_loadI rc_129_0 rfl ?_
  refine G_const rc_129_1 (by decide) ?_
  refine G_const rc_129_2 (by decide) ?_
  refine G_call (as := [vI x1, vI 0, vI 40]) (rest := []) rc_129_4 rfl rfl rfl (Nat.le_of_ble_eq_true rfl) rfl ?_
  refine GO.imp h (fun v I1 h => ?_)
  obtain ⟨y2, rfl, h⟩ := h
  show GO S0 129 7 [vR 237, vI x1, vI x2] [vI y2] I1 K
  refine G_i1 (C := y2 = 0) rc_129_7 rfl (fun c3 => ?_) (fun c3 => ?_)
  · rw [if_pos c3] at h
    show GO S0 129 20 [vR 237, vI x1, vI x2] [] I1 K
    refine G_const rc_129_20 (by decide) ?_
    exact G_retI rc_129_22 (Or.inl rfl) h
  · rw [if_neg c3] at h
    show GO S0 129 10 [vR 237, vI x1, vI x2] [] I1 K
    refine G_loadI rc_129_10 rfl ?_
    refine G_const rc_129_11 (by decide) ?_
    refine G_const rc_129_12 (by decide) ?_
    refine G_call (as := [vI x2, vI 0, vI 40]) (rest := []) rc_129_14 rfl rfl rfl (Nat.le_of_ble_eq_true rfl) rfl ?_
    refine GO.imp h (fun v I4 h => ?_)
    obtain ⟨y5, rfl, h⟩ := h
    show GO S0 129 17 [vR 237, vI x1, vI x2] [vI y5] I4 K
    refine G_i1 (C := ¬ y5 = 0) rc_129_17 rfl (fun c6 => ?_) (fun c6 => ?_)
    · rw [if_neg c6] at h
      show GO S0 129 23 [vR 237, vI x1, vI x2] [] I4 K
      refine G_loadR rc_129_23 rfl ?_
      refine G_call (as := [vR 237]) (rest := []) rc_129_24 rfl rfl rfl (Nat.le_of_ble_eq_true rfl) (g_recv s0_237 rfl) ?_
      refine GO.imp h (fun v I7 h => ?_)
      obtain ⟨y8, rfl, h⟩ := h
      show GO S0 129 27 [vR 237, vI x1, vI x2] [vI y8] I7 K
      refine G_i1 (C := ¬ y8 = 0) rc_129_27 rfl (fun c9 => ?_) (fun c9 => ?_)
      · rw [if_neg c9] at h
        show GO S0 129 33 [vR 237, vI x1, vI x2] [] I7 K
        refine G_loadR rc_129_33 rfl ?_
        refine G_getR rc_129_34 s0_237 (by decide) rfl (by decide) ?_
        show GO S0 129 37 [vR 237, vI x1, vI x2] [vR 238] I7 K
        refine G_const rc_129_37 (by decide) ?_
        refine G_loadI rc_129_38 rfl ?_
        refine G_ast rc_129_39 s0_238 (by decide) (by decide) (Or.inl rfl) ?_
        show GO S0 129 40 [vR 237, vI x1, vI x2] [] (iup I7 238 0 x1) K
        have h := h _ rfl
        generalize iup I7 238 0 x1 = I10 at h ⊢
        refine G_loadR rc_129_40 rfl ?_
        refine G_getR rc_129_41 s0_237 (by decide) rfl (by decide) ?_
        show GO S0 129 44 [vR 237, vI x1, vI x2] [vR 238] I10 K
        refine G_const rc_129_44 (by decide) ?_
        refine G_loadI rc_129_45 rfl ?_
        refine G_ast rc_129_46 s0_238 (by decide) (by decide) (Or.inl rfl) ?_
        show GO S0 129 47 [vR 237, vI x1, vI x2] [] (iup I10 238 1 x2) K
        have h := h _ rfl
        generalize iup I10 238 1 x2 = I11 at h ⊢
        refine G_loadR rc_129_47 rfl ?_
        refine G_const rc_129_48 (by decide) ?_
        refine G_call (as := [vR 237, vI 1]) (rest := []) rc_129_49 rfl rfl rfl (Nat.le_of_ble_eq_true rfl) (g_recv s0_237 rfl) ?_
        refine GO.imp h (fun v I12 h => ?_)
        obtain ⟨y13, rfl, h⟩ := h
        show GO S0 129 52 [vR 237, vI x1, vI x2] [vI y13] I12 K
        exact G_retI rc_129_52 (Or.inl rfl) h
      · rw [if_pos (Classical.not_not.mp c9)] at h
        show GO S0 129 30 [vR 237, vI x1, vI x2] [] I7 K
        refine G_const rc_129_30 (by decide) ?_
        exact G_retI rc_129_32 (Or.inl rfl) h
    · rw [if_pos (Classical.not_not.mp c6)] at h
      show GO S0 129 20 [vR 237, vI x1, vI x2] [] I4 K
      refine G_const rc_129_20 (by decide) ?_
      exact G_retI rc_129_22 (Or.inl rfl) h
/-! 130: RoundSlackModel.isIn(III)Z -/
def D130_0 (x0 : Int) (x1 : Int) (x2 : Int) (I : IM) (K : Option AV → IM → Prop) : Prop :=
  (if x0 < x1 then (K (some (vI 0)) I) else ((if x2 < x0 then (K (some (vI 0)) I) else (K (some (vI 1)) I))))
set_option maxRecDepth 10000 in
theorem g130_0 (x0 : Int) (x1 : Int) (x2 : Int) (I : IM) (K : Option AV → IM → Prop) (h : D130_0 x0 x1 x2 I K) : GO S0 130 0 [vI x0, vI x1, vI x2] [] I K := by
  unfold D130_0 at h
  refine G_loadI rc_130_0 rfl ?_
  refine G_loadI rc_130_1 rfl ?_
  refine G_i2 (C := x0 < x1) rc_130_2 rfl (fun c1 => ?_) (fun c1 => ?_)
  · rw [if_pos c1] at h
    show GO S0 130 14 [vI x0, vI x1, vI x2] [] I K
    refine G_const rc_130_14 (by decide) ?_
    exact G_retI rc_130_15 (Or.inr (by decide)) h
  · rw [if_neg c1] at h
    show GO S0 130 5 [vI x0, vI x1, vI x2] [] I K
    refine G_loadI rc_130_5 rfl ?_
    refine G_loadI rc_130_6 rfl ?_
    refine G_i2 (C := x2 < x0) rc_130_7 rfl (fun c2 => ?_) (fun c2 => ?_)
    · rw [if_pos c2] at h
      show GO S0 130 14 [vI x0, vI x1, vI x2] [] I K
      refine G_const rc_130_14 (by decide) ?_
      exact G_retI rc_130_15 (Or.inr (by decide)) h
    · rw [if_neg c2] at h
      show GO S0 130 10 [vI x0, vI x1, vI x2] [] I K
      refine G_const rc_130_10 (by decide) ?_
      refine G_goto rc_130_11 ?_
      show GO S0 130 15 [vI x0, vI x1, vI x2] [vI 1] I K
      exact G_retI rc_130_15 (Or.inr (by decide)) h
/-! 131: RoundSlackModel.isEmpty()Z -/
def D131_0 (I : IM) (K : Option AV → IM → Prop) : Prop :=
  CALL S0 132 [vR 237, vI 0] I (fun v I1 => ∃ y2 : Int, v = some (vI y2) ∧ CALL S0 132 [vR 237, vI 1] I1 (fun v I3 => ∃ y4 : Int, v = some (vI y4) ∧ (inR (y2 + y4)) ∧ CALL S0 132 [vR 237, vI 2] I3 (fun v I6 => ∃ y7 : Int, v = some (vI y7) ∧ (inR ((y2 + y4) + y7)) ∧ CALL S0 132 [vR 237, vI 3] I6 (fun v I9 => ∃ y10 : Int, v = some (vI y10) ∧ (inR (((y2 + y4) + y7) + y10)) ∧ (if ((y2 + y4) + y7) + y10 = 0 then (K (some (vI 1)) I9) else (K (some (vI 0)) I9))))))
set_option maxRecDepth 10000 in
theorem g131_0 (I : IM) (K : Option AV → IM → Prop) (h : D131_0 I K) : GO S0 131 0 [vR 237] [] I K := by
  unfold D131_0 at h
  refine G_loadR rc_131_0 rfl ?_
  refine G_const rc_131_1 (by decide) ?_
  refine G_call (as := [vR 237, vI 0]) (rest := []) rc_131_2 rfl rfl rfl (Nat.le_of_ble_eq_true rfl) (g_recv s0_237 rfl) ?_
  refine GO.imp h (fun v I1 h => ?_)
  obtain ⟨y2, rfl, h⟩ := h
  show GO S0 131 5 [vR 237] [vI y2] I1 K
  refine G_loadR rc_131_5 rfl ?_
  refine G_const rc_131_6 (by decide) ?_
  refine G_call (as := [vR 237, vI 1]) (rest := [vI y2]) rc_131_7 rfl rfl rfl (Nat.le_of_ble_eq_true rfl) (g_recv s0_237 rfl) ?_
  refine GO.imp h (fun v I3 h => ?_)
  obtain ⟨y4, rfl, h⟩ := h
  show GO S0 131 10 [vR 237] [vI y4, vI y2] I3 K
  obtain ⟨c5, h⟩ := h
  refine G_bop (z := y2 + y4) rc_131_10 (if_pos c5) ?_
  show GO S0 131 11 [vR 237] [vI (y2 + y4)] I3 K
  refine G_loadR rc_131_11 rfl ?_
  refine G_const rc_131_12 (by decide) ?_
  refine G_call (as := [vR 237, vI 2]) (rest := [vI (y2 + y4)]) rc_131_13 rfl rfl rfl (Nat.le_of_ble_eq_true rfl) (g_recv s0_237 rfl) ?_
  refine GO.imp h (fun v I6 h => ?_)
  obtain ⟨y7, rfl, h⟩ := h
  show GO S0 131 16 [vR 237] [vI y7, vI (y2 + y4)] I6 K
  obtain ⟨c8, h⟩ := h
  refine G_bop (z := (y2 + y4) + y7) rc_131_16 (if_pos c8) ?_
  show GO S0 131 17 [vR 237] [vI ((y2 + y4) + y7)] I6 K
  refine G_loadR rc_131_17 rfl ?_
  refine G_const rc_131_18 (by decide) ?_
  refine G_call (as := [vR 237, vI 3]) (rest := [vI ((y2 + y4) + y7)]) rc_131_19 rfl rfl rfl (Nat.le_of_ble_eq_true rfl) (g_recv s0_237 rfl) ?_
  refine GO.imp h (fun v I9 h => ?_)
  obtain ⟨y10, rfl, h⟩ := h
  show GO S0 131 22 [vR 237] [vI y10, vI ((y2 + y4) + y7)] I9 K
  obtain ⟨c11, h⟩ := h
  refine G_bop (z := ((y2 + y4) + y7) + y10) rc_131_22 (if_pos c11) ?_
  show GO S0 131 23 [vR 237] [vI (((y2 + y4) + y7) + y10)] I9 K
  refine G_i1 (C := ¬ ((y2 + y4) + y7) + y10 = 0) rc_131_23 rfl (fun c12 => ?_) (fun c12 => ?_)
  · rw [if_neg c12] at h
    show GO S0 131 30 [vR 237] [] I9 K
    refine G_const rc_131_30 (by decide) ?_
    exact G_retI rc_131_31 (Or.inr (by decide)) h
  · rw [if_pos (Classical.not_not.mp c12)] at h
    show GO S0 131 26 [vR 237] [] I9 K
    refine G_const rc_131_26 (by decide) ?_
    refine G_goto rc_131_27 ?_
    show GO S0 131 31 [vR 237] [vI 1] I9 K
    exact G_retI rc_131_31 (Or.inr (by decide)) h
/-! 132: RoundSlackModel.stopsOf(I)I -/
def D132_0 (x1 : Int) (I : IM) (K : Option AV → IM → Prop) : Prop :=
  (inR (13 * x1)) ∧ (inR (114 + (13 * x1))) ∧ (0 ≤ 114 + (13 * x1) ∧ 114 + (13 * x1) < 166) ∧ K (some (vI (I 238 (114 + (13 * x1)).toNat))) I
set_option maxRecDepth 10000 in
theorem g132_0 (x1 : Int) (I : IM) (K : Option AV → IM → Prop) (h : D132_0 x1 I K) : GO S0 132 0 [vR 237, vI x1] [] I K := by
  unfold D132_0 at h
  refine G_loadR rc_132_0 rfl ?_
  refine G_getR rc_132_1 s0_237 (by decide) rfl (by decide) ?_
  show GO S0 132 4 [vR 237, vI x1] [vR 238] I K
  refine G_const rc_132_4 (by decide) ?_
  refine G_const rc_132_6 (by decide) ?_
  refine G_loadI rc_132_8 rfl ?_
  obtain ⟨c1, h⟩ := h
  refine G_bop (z := 13 * x1) rc_132_9 (if_pos c1) ?_
  show GO S0 132 10 [vR 237, vI x1] [vI (13 * x1), vI 114, vR 238] I K
  obtain ⟨c2, h⟩ := h
  refine G_bop (z := 114 + (13 * x1)) rc_132_10 (if_pos c2) ?_
  show GO S0 132 11 [vR 237, vI x1] [vI (114 + (13 * x1)), vR 238] I K
  obtain ⟨c3, h⟩ := h
  refine G_ald rc_132_11 s0_238 (by omega) (by omega) ?_
  show GO S0 132 12 [vR 237, vI x1] [vI (I 238 (114 + (13 * x1)).toNat)] I K
  exact G_retI rc_132_12 (Or.inl rfl) h
/-! 133: RoundSlackModel.forgets(I)I -/
def D133_0 (x1 : Int) (I : IM) (K : Option AV → IM → Prop) : Prop :=
  ∀ I1 : IM, I1 = iup I 237 4 0 → K (some (vI x1)) I1
set_option maxRecDepth 10000 in
theorem g133_0 (x1 : Int) (I : IM) (K : Option AV → IM → Prop) (h : D133_0 x1 I K) : GO S0 133 0 [vR 237, vI x1] [] I K := by
  unfold D133_0 at h
  refine G_loadR rc_133_0 rfl ?_
  refine G_const rc_133_1 (by decide) ?_
  refine G_putI rc_133_2 s0_237 (by decide) (Or.inl rfl) ?_
  show GO S0 133 5 [vR 237, vI x1] [] (iup I 237 4 0) K
  have h := h _ rfl
  generalize iup I 237 4 0 = I1 at h ⊢
  refine G_loadI rc_133_5 rfl ?_
  exact G_retI rc_133_6 (Or.inl rfl) h
/-! 134: RoundSlackModel.order(IIIII)I -/
def D134_0 (x1 : Int) (x2 : Int) (x3 : Int) (x4 : Int) (x5 : Int) (I : IM) (K : Option AV → IM → Prop) : Prop :=
  CALL S0 130 [vI x1, vI 0, vI 40] I (fun v I1 => ∃ y2 : Int, v = some (vI y2) ∧ (if y2 = 0 then (K (some (vI (-2))) I1) else (CALL S0 130 [vI x2, vI 0, vI 40] I1 (fun v I4 => ∃ y5 : Int, v = some (vI y5) ∧ (if y5 = 0 then (K (some (vI (-2))) I4) else (CALL S0 130 [vI x3, vI 0, vI 600] I4 (fun v I7 => ∃ y8 : Int, v = some (vI y8) ∧ (if y8 = 0 then (K (some (vI (-2))) I7) else (CALL S0 130 [vI x4, vI x3, vI 600] I7 (fun v I10 => ∃ y11 : Int, v = some (vI y11) ∧ (if y11 = 0 then (K (some (vI (-2))) I10) else (CALL S0 130 [vI x5, vI 0, vI 60] I10 (fun v I13 => ∃ y14 : Int, v = some (vI y14) ∧ (if y14 = 0 then (K (some (vI (-2))) I13) else ((if I13 238 5 = 12 then (K (some (vI (-4))) I13) else (CALL S0 135 [vR 237, vI x1, vI x2, vI x3, vI x4, vI x5, vI 0, vI 0] I13 (fun v I17 => v = none ∧ (inR ((I17 238 5) - 1)) ∧ CALL S0 133 [vR 237, vI ((I17 238 5) - 1)] I17 (fun v I19 => ∃ y20 : Int, v = some (vI y20) ∧ K (some (vI y20)) I19)))))))))))))))))))
set_option maxRecDepth 10000 in
theorem g134_0 (x1 : Int) (x2 : Int) (x3 : Int) (x4 : Int) (x5 : Int) (I : IM) (K : Option AV → IM → Prop) (h : D134_0 x1 x2 x3 x4 x5 I K) : GO S0 134 0 [vR 237, vI x1, vI x2, vI x3, vI x4, vI x5] [] I K := by
  unfold D134_0 at h
  refine G_loadI rc_134_0 rfl ?_
  refine G_const rc_134_1 (by decide) ?_
  refine G_const rc_134_2 (by decide) ?_
  refine G_call (as := [vI x1, vI 0, vI 40]) (rest := []) rc_134_4 rfl rfl rfl (Nat.le_of_ble_eq_true rfl) rfl ?_
  refine GO.imp h (fun v I1 h => ?_)
  obtain ⟨y2, rfl, h⟩ := h
  show GO S0 134 7 [vR 237, vI x1, vI x2, vI x3, vI x4, vI x5] [vI y2] I1 K
  refine G_i1 (C := y2 = 0) rc_134_7 rfl (fun c3 => ?_) (fun c3 => ?_)
  · rw [if_pos c3] at h
    show GO S0 134 54 [vR 237, vI x1, vI x2, vI x3, vI x4, vI x5] [] I1 K
    refine G_const rc_134_54 (by decide) ?_
    exact G_retI rc_134_56 (Or.inl rfl) h
  · rw [if_neg c3] at h
    show GO S0 134 10 [vR 237, vI x1, vI x2, vI x3, vI x4, vI x5] [] I1 K
    refine G_loadI rc_134_10 rfl ?_
    refine G_const rc_134_11 (by decide) ?_
    refine G_const rc_134_12 (by decide) ?_
    refine G_call (as := [vI x2, vI 0, vI 40]) (rest := []) rc_134_14 rfl rfl rfl (Nat.le_of_ble_eq_true rfl) rfl ?_
    refine GO.imp h (fun v I4 h => ?_)
    obtain ⟨y5, rfl, h⟩ := h
    show GO S0 134 17 [vR 237, vI x1, vI x2, vI x3, vI x4, vI x5] [vI y5] I4 K
    refine G_i1 (C := y5 = 0) rc_134_17 rfl (fun c6 => ?_) (fun c6 => ?_)
    · rw [if_pos c6] at h
      show GO S0 134 54 [vR 237, vI x1, vI x2, vI x3, vI x4, vI x5] [] I4 K
      refine G_const rc_134_54 (by decide) ?_
      exact G_retI rc_134_56 (Or.inl rfl) h
    · rw [if_neg c6] at h
      show GO S0 134 20 [vR 237, vI x1, vI x2, vI x3, vI x4, vI x5] [] I4 K
      refine G_loadI rc_134_20 rfl ?_
      refine G_const rc_134_21 (by decide) ?_
      refine G_const rc_134_22 (by decide) ?_
      refine G_call (as := [vI x3, vI 0, vI 600]) (rest := []) rc_134_25 rfl rfl rfl (Nat.le_of_ble_eq_true rfl) rfl ?_
      refine GO.imp h (fun v I7 h => ?_)
      obtain ⟨y8, rfl, h⟩ := h
      show GO S0 134 28 [vR 237, vI x1, vI x2, vI x3, vI x4, vI x5] [vI y8] I7 K
      refine G_i1 (C := y8 = 0) rc_134_28 rfl (fun c9 => ?_) (fun c9 => ?_)
      · rw [if_pos c9] at h
        show GO S0 134 54 [vR 237, vI x1, vI x2, vI x3, vI x4, vI x5] [] I7 K
        refine G_const rc_134_54 (by decide) ?_
        exact G_retI rc_134_56 (Or.inl rfl) h
      · rw [if_neg c9] at h
        show GO S0 134 31 [vR 237, vI x1, vI x2, vI x3, vI x4, vI x5] [] I7 K
        refine G_loadI rc_134_31 rfl ?_
        refine G_loadI rc_134_33 rfl ?_
        refine G_const rc_134_34 (by decide) ?_
        refine G_call (as := [vI x4, vI x3, vI 600]) (rest := []) rc_134_37 rfl rfl rfl (Nat.le_of_ble_eq_true rfl) rfl ?_
        refine GO.imp h (fun v I10 h => ?_)
        obtain ⟨y11, rfl, h⟩ := h
        show GO S0 134 40 [vR 237, vI x1, vI x2, vI x3, vI x4, vI x5] [vI y11] I10 K
        refine G_i1 (C := y11 = 0) rc_134_40 rfl (fun c12 => ?_) (fun c12 => ?_)
        · rw [if_pos c12] at h
          show GO S0 134 54 [vR 237, vI x1, vI x2, vI x3, vI x4, vI x5] [] I10 K
          refine G_const rc_134_54 (by decide) ?_
          exact G_retI rc_134_56 (Or.inl rfl) h
        · rw [if_neg c12] at h
          show GO S0 134 43 [vR 237, vI x1, vI x2, vI x3, vI x4, vI x5] [] I10 K
          refine G_loadI rc_134_43 rfl ?_
          refine G_const rc_134_45 (by decide) ?_
          refine G_const rc_134_46 (by decide) ?_
          refine G_call (as := [vI x5, vI 0, vI 60]) (rest := []) rc_134_48 rfl rfl rfl (Nat.le_of_ble_eq_true rfl) rfl ?_
          refine GO.imp h (fun v I13 h => ?_)
          obtain ⟨y14, rfl, h⟩ := h
          show GO S0 134 51 [vR 237, vI x1, vI x2, vI x3, vI x4, vI x5] [vI y14] I13 K
          refine G_i1 (C := ¬ y14 = 0) rc_134_51 rfl (fun c15 => ?_) (fun c15 => ?_)
          · rw [if_neg c15] at h
            show GO S0 134 57 [vR 237, vI x1, vI x2, vI x3, vI x4, vI x5] [] I13 K
            refine G_loadR rc_134_57 rfl ?_
            refine G_getR rc_134_58 s0_237 (by decide) rfl (by decide) ?_
            show GO S0 134 61 [vR 237, vI x1, vI x2, vI x3, vI x4, vI x5] [vR 238] I13 K
            refine G_const rc_134_61 (by decide) ?_
            refine G_ald rc_134_62 s0_238 (by decide) (by decide) ?_
            show GO S0 134 63 [vR 237, vI x1, vI x2, vI x3, vI x4, vI x5] [vI (I13 238 5)] I13 K
            refine G_const rc_134_63 (by decide) ?_
            refine G_i2 (C := ¬ I13 238 5 = 12) rc_134_65 rfl (fun c16 => ?_) (fun c16 => ?_)
            · rw [if_neg c16] at h
              show GO S0 134 71 [vR 237, vI x1, vI x2, vI x3, vI x4, vI x5] [] I13 K
              refine G_loadR rc_134_71 rfl ?_
              refine G_loadI rc_134_72 rfl ?_
              refine G_loadI rc_134_73 rfl ?_
              refine G_loadI rc_134_74 rfl ?_
              refine G_loadI rc_134_75 rfl ?_
              refine G_loadI rc_134_77 rfl ?_
              refine G_const rc_134_79 (by decide) ?_
              refine G_const rc_134_80 (by decide) ?_
              refine G_call (as := [vR 237, vI x1, vI x2, vI x3, vI x4, vI x5, vI 0, vI 0]) (rest := []) rc_134_81 rfl rfl rfl (Nat.le_of_ble_eq_true rfl) (g_recv s0_237 rfl) ?_
              refine GO.imp h (fun v I17 h => ?_)
              obtain ⟨rfl, h⟩ := h
              show GO S0 134 84 [vR 237, vI x1, vI x2, vI x3, vI x4, vI x5] [] I17 K
              refine G_loadR rc_134_84 rfl ?_
              refine G_loadR rc_134_85 rfl ?_
              refine G_getR rc_134_86 s0_237 (by decide) rfl (by decide) ?_
              show GO S0 134 89 [vR 237, vI x1, vI x2, vI x3, vI x4, vI x5] [vR 238, vR 237] I17 K
              refine G_const rc_134_89 (by decide) ?_
              refine G_ald rc_134_90 s0_238 (by decide) (by decide) ?_
              show GO S0 134 91 [vR 237, vI x1, vI x2, vI x3, vI x4, vI x5] [vI (I17 238 5), vR 237] I17 K
              refine G_const rc_134_91 (by decide) ?_
              obtain ⟨c18, h⟩ := h
              refine G_bop (z := (I17 238 5) - 1) rc_134_92 (if_pos c18) ?_
              show GO S0 134 93 [vR 237, vI x1, vI x2, vI x3, vI x4, vI x5] [vI ((I17 238 5) - 1), vR 237] I17 K
              refine G_call (as := [vR 237, vI ((I17 238 5) - 1)]) (rest := []) rc_134_93 rfl rfl rfl (Nat.le_of_ble_eq_true rfl) (g_recv s0_237 rfl) ?_
              refine GO.imp h (fun v I19 h => ?_)
              obtain ⟨y20, rfl, h⟩ := h
              show GO S0 134 96 [vR 237, vI x1, vI x2, vI x3, vI x4, vI x5] [vI y20] I19 K
              exact G_retI rc_134_96 (Or.inl rfl) h
            · rw [if_pos (Classical.not_not.mp c16)] at h
              show GO S0 134 68 [vR 237, vI x1, vI x2, vI x3, vI x4, vI x5] [] I13 K
              refine G_const rc_134_68 (by decide) ?_
              exact G_retI rc_134_70 (Or.inl rfl) h
          · rw [if_pos (Classical.not_not.mp c15)] at h
            show GO S0 134 54 [vR 237, vI x1, vI x2, vI x3, vI x4, vI x5] [] I13 K
            refine G_const rc_134_54 (by decide) ?_
            exact G_retI rc_134_56 (Or.inl rfl) h
/-! 135: RoundSlackModel.adds(IIIIIII)V -/
def D135_0 (x1 : Int) (x2 : Int) (x3 : Int) (x4 : Int) (x5 : Int) (x6 : Int) (x7 : Int) (I : IM) (K : Option AV → IM → Prop) : Prop :=
  (inR (8 * (I 238 5))) ∧ (inR (6 + (8 * (I 238 5)))) ∧ (0 ≤ 6 + (8 * (I 238 5)) ∧ 6 + (8 * (I 238 5)) < 166) ∧ ∀ I4 : IM, I4 = iup I 238 (6 + (8 * (I 238 5))).toNat x1 → (inR ((6 + (8 * (I 238 5))) + 1)) ∧ (0 ≤ (6 + (8 * (I 238 5))) + 1 ∧ (6 + (8 * (I 238 5))) + 1 < 166) ∧ ∀ I7 : IM, I7 = iup I4 238 ((6 + (8 * (I 238 5))) + 1).toNat x2 → (inR ((6 + (8 * (I 238 5))) + 2)) ∧ (0 ≤ (6 + (8 * (I 238 5))) + 2 ∧ (6 + (8 * (I 238 5))) + 2 < 166) ∧ ∀ I10 : IM, I10 = iup I7 238 ((6 + (8 * (I 238 5))) + 2).toNat x3 → (inR ((6 + (8 * (I 238 5))) + 3)) ∧ (0 ≤ (6 + (8 * (I 238 5))) + 3 ∧ (6 + (8 * (I 238 5))) + 3 < 166) ∧ ∀ I13 : IM, I13 = iup I10 238 ((6 + (8 * (I 238 5))) + 3).toNat x4 → (inR ((6 + (8 * (I 238 5))) + 4)) ∧ (0 ≤ (6 + (8 * (I 238 5))) + 4 ∧ (6 + (8 * (I 238 5))) + 4 < 166) ∧ ∀ I16 : IM, I16 = iup I13 238 ((6 + (8 * (I 238 5))) + 4).toNat x5 → (inR ((6 + (8 * (I 238 5))) + 5)) ∧ (0 ≤ (6 + (8 * (I 238 5))) + 5 ∧ (6 + (8 * (I 238 5))) + 5 < 166) ∧ ∀ I19 : IM, I19 = iup I16 238 ((6 + (8 * (I 238 5))) + 5).toNat x6 → (inR ((6 + (8 * (I 238 5))) + 6)) ∧ (0 ≤ (6 + (8 * (I 238 5))) + 6 ∧ (6 + (8 * (I 238 5))) + 6 < 166) ∧ ∀ I22 : IM, I22 = iup I19 238 ((6 + (8 * (I 238 5))) + 6).toNat x7 → (inR ((6 + (8 * (I 238 5))) + 7)) ∧ (0 ≤ (6 + (8 * (I 238 5))) + 7 ∧ (6 + (8 * (I 238 5))) + 7 < 166) ∧ ∀ I25 : IM, I25 = iup I22 238 ((6 + (8 * (I 238 5))) + 7).toNat 500 → (inR ((I25 238 5) + 1)) ∧ ∀ I27 : IM, I27 = iup I25 238 5 ((I25 238 5) + 1) → K none I27
set_option maxRecDepth 10000 in
theorem g135_0 (x1 : Int) (x2 : Int) (x3 : Int) (x4 : Int) (x5 : Int) (x6 : Int) (x7 : Int) (I : IM) (K : Option AV → IM → Prop) (h : D135_0 x1 x2 x3 x4 x5 x6 x7 I K) : GO S0 135 0 [vR 237, vI x1, vI x2, vI x3, vI x4, vI x5, vI x6, vI x7, vU] [] I K := by
  unfold D135_0 at h
  refine G_const rc_135_0 (by decide) ?_
  refine G_const rc_135_2 (by decide) ?_
  refine G_loadR rc_135_4 rfl ?_
  refine G_getR rc_135_5 s0_237 (by decide) rfl (by decide) ?_
  show GO S0 135 8 [vR 237, vI x1, vI x2, vI x3, vI x4, vI x5, vI x6, vI x7, vU] [vR 238, vI 8, vI 6] I K
  refine G_const rc_135_8 (by decide) ?_
  refine G_ald rc_135_9 s0_238 (by decide) (by decide) ?_
  show GO S0 135 10 [vR 237, vI x1, vI x2, vI x3, vI x4, vI x5, vI x6, vI x7, vU] [vI (I 238 5), vI 8, vI 6] I K
  obtain ⟨c1, h⟩ := h
  refine G_bop (z := 8 * (I 238 5)) rc_135_10 (if_pos c1) ?_
  show GO S0 135 11 [vR 237, vI x1, vI x2, vI x3, vI x4, vI x5, vI x6, vI x7, vU] [vI (8 * (I 238 5)), vI 6] I K
  obtain ⟨c2, h⟩ := h
  refine G_bop (z := 6 + (8 * (I 238 5))) rc_135_11 (if_pos c2) ?_
  show GO S0 135 12 [vR 237, vI x1, vI x2, vI x3, vI x4, vI x5, vI x6, vI x7, vU] [vI (6 + (8 * (I 238 5)))] I K
  refine G_storeI rc_135_12 (Nat.le_of_ble_eq_true rfl) ?_
  show GO S0 135 14 [vR 237, vI x1, vI x2, vI x3, vI x4, vI x5, vI x6, vI x7, vI (6 + (8 * (I 238 5)))] [] I K
  refine G_loadR rc_135_14 rfl ?_
  refine G_getR rc_135_15 s0_237 (by decide) rfl (by decide) ?_
  show GO S0 135 18 [vR 237, vI x1, vI x2, vI x3, vI x4, vI x5, vI x6, vI x7, vI (6 + (8 * (I 238 5)))] [vR 238] I K
  refine G_loadI rc_135_18 rfl ?_
  refine G_loadI rc_135_20 rfl ?_
  obtain ⟨c3, h⟩ := h
  refine G_ast rc_135_21 s0_238 (by omega) (by omega) (Or.inl rfl) ?_
  show GO S0 135 22 [vR 237, vI x1, vI x2, vI x3, vI x4, vI x5, vI x6, vI x7, vI (6 + (8 * (I 238 5)))] [] (iup I 238 (6 + (8 * (I 238 5))).toNat x1) K
  have h := h _ rfl
  generalize iup I 238 (6 + (8 * (I 238 5))).toNat x1 = I4 at h ⊢
  refine G_loadR rc_135_22 rfl ?_
  refine G_getR rc_135_23 s0_237 (by decide) rfl (by decide) ?_
  show GO S0 135 26 [vR 237, vI x1, vI x2, vI x3, vI x4, vI x5, vI x6, vI x7, vI (6 + (8 * (I 238 5)))] [vR 238] I4 K
  refine G_loadI rc_135_26 rfl ?_
  refine G_const rc_135_28 (by decide) ?_
  obtain ⟨c5, h⟩ := h
  refine G_bop (z := (6 + (8 * (I 238 5))) + 1) rc_135_29 (if_pos c5) ?_
  show GO S0 135 30 [vR 237, vI x1, vI x2, vI x3, vI x4, vI x5, vI x6, vI x7, vI (6 + (8 * (I 238 5)))] [vI ((6 + (8 * (I 238 5))) + 1), vR 238] I4 K
  refine G_loadI rc_135_30 rfl ?_
  obtain ⟨c6, h⟩ := h
  refine G_ast rc_135_31 s0_238 (by omega) (by omega) (Or.inl rfl) ?_
  show GO S0 135 32 [vR 237, vI x1, vI x2, vI x3, vI x4, vI x5, vI x6, vI x7, vI (6 + (8 * (I 238 5)))] [] (iup I4 238 ((6 + (8 * (I 238 5))) + 1).toNat x2) K
  have h := h _ rfl
  generalize iup I4 238 ((6 + (8 * (I 238 5))) + 1).toNat x2 = I7 at h ⊢
  refine G_loadR rc_135_32 rfl ?_
  refine G_getR rc_135_33 s0_237 (by decide) rfl (by decide) ?_
  show GO S0 135 36 [vR 237, vI x1, vI x2, vI x3, vI x4, vI x5, vI x6, vI x7, vI (6 + (8 * (I 238 5)))] [vR 238] I7 K
  refine G_loadI rc_135_36 rfl ?_
  refine G_const rc_135_38 (by decide) ?_
  obtain ⟨c8, h⟩ := h
  refine G_bop (z := (6 + (8 * (I 238 5))) + 2) rc_135_39 (if_pos c8) ?_
  show GO S0 135 40 [vR 237, vI x1, vI x2, vI x3, vI x4, vI x5, vI x6, vI x7, vI (6 + (8 * (I 238 5)))] [vI ((6 + (8 * (I 238 5))) + 2), vR 238] I7 K
  refine G_loadI rc_135_40 rfl ?_
  obtain ⟨c9, h⟩ := h
  refine G_ast rc_135_41 s0_238 (by omega) (by omega) (Or.inl rfl) ?_
  show GO S0 135 42 [vR 237, vI x1, vI x2, vI x3, vI x4, vI x5, vI x6, vI x7, vI (6 + (8 * (I 238 5)))] [] (iup I7 238 ((6 + (8 * (I 238 5))) + 2).toNat x3) K
  have h := h _ rfl
  generalize iup I7 238 ((6 + (8 * (I 238 5))) + 2).toNat x3 = I10 at h ⊢
  refine G_loadR rc_135_42 rfl ?_
  refine G_getR rc_135_43 s0_237 (by decide) rfl (by decide) ?_
  show GO S0 135 46 [vR 237, vI x1, vI x2, vI x3, vI x4, vI x5, vI x6, vI x7, vI (6 + (8 * (I 238 5)))] [vR 238] I10 K
  refine G_loadI rc_135_46 rfl ?_
  refine G_const rc_135_48 (by decide) ?_
  obtain ⟨c11, h⟩ := h
  refine G_bop (z := (6 + (8 * (I 238 5))) + 3) rc_135_49 (if_pos c11) ?_
  show GO S0 135 50 [vR 237, vI x1, vI x2, vI x3, vI x4, vI x5, vI x6, vI x7, vI (6 + (8 * (I 238 5)))] [vI ((6 + (8 * (I 238 5))) + 3), vR 238] I10 K
  refine G_loadI rc_135_50 rfl ?_
  obtain ⟨c12, h⟩ := h
  refine G_ast rc_135_52 s0_238 (by omega) (by omega) (Or.inl rfl) ?_
  show GO S0 135 53 [vR 237, vI x1, vI x2, vI x3, vI x4, vI x5, vI x6, vI x7, vI (6 + (8 * (I 238 5)))] [] (iup I10 238 ((6 + (8 * (I 238 5))) + 3).toNat x4) K
  have h := h _ rfl
  generalize iup I10 238 ((6 + (8 * (I 238 5))) + 3).toNat x4 = I13 at h ⊢
  refine G_loadR rc_135_53 rfl ?_
  refine G_getR rc_135_54 s0_237 (by decide) rfl (by decide) ?_
  show GO S0 135 57 [vR 237, vI x1, vI x2, vI x3, vI x4, vI x5, vI x6, vI x7, vI (6 + (8 * (I 238 5)))] [vR 238] I13 K
  refine G_loadI rc_135_57 rfl ?_
  refine G_const rc_135_59 (by decide) ?_
  obtain ⟨c14, h⟩ := h
  refine G_bop (z := (6 + (8 * (I 238 5))) + 4) rc_135_60 (if_pos c14) ?_
  show GO S0 135 61 [vR 237, vI x1, vI x2, vI x3, vI x4, vI x5, vI x6, vI x7, vI (6 + (8 * (I 238 5)))] [vI ((6 + (8 * (I 238 5))) + 4), vR 238] I13 K
  refine G_loadI rc_135_61 rfl ?_
  obtain ⟨c15, h⟩ := h
  refine G_ast rc_135_63 s0_238 (by omega) (by omega) (Or.inl rfl) ?_
  show GO S0 135 64 [vR 237, vI x1, vI x2, vI x3, vI x4, vI x5, vI x6, vI x7, vI (6 + (8 * (I 238 5)))] [] (iup I13 238 ((6 + (8 * (I 238 5))) + 4).toNat x5) K
  have h := h _ rfl
  generalize iup I13 238 ((6 + (8 * (I 238 5))) + 4).toNat x5 = I16 at h ⊢
  refine G_loadR rc_135_64 rfl ?_
  refine G_getR rc_135_65 s0_237 (by decide) rfl (by decide) ?_
  show GO S0 135 68 [vR 237, vI x1, vI x2, vI x3, vI x4, vI x5, vI x6, vI x7, vI (6 + (8 * (I 238 5)))] [vR 238] I16 K
  refine G_loadI rc_135_68 rfl ?_
  refine G_const rc_135_70 (by decide) ?_
  obtain ⟨c17, h⟩ := h
  refine G_bop (z := (6 + (8 * (I 238 5))) + 5) rc_135_71 (if_pos c17) ?_
  show GO S0 135 72 [vR 237, vI x1, vI x2, vI x3, vI x4, vI x5, vI x6, vI x7, vI (6 + (8 * (I 238 5)))] [vI ((6 + (8 * (I 238 5))) + 5), vR 238] I16 K
  refine G_loadI rc_135_72 rfl ?_
  obtain ⟨c18, h⟩ := h
  refine G_ast rc_135_74 s0_238 (by omega) (by omega) (Or.inl rfl) ?_
  show GO S0 135 75 [vR 237, vI x1, vI x2, vI x3, vI x4, vI x5, vI x6, vI x7, vI (6 + (8 * (I 238 5)))] [] (iup I16 238 ((6 + (8 * (I 238 5))) + 5).toNat x6) K
  have h := h _ rfl
  generalize iup I16 238 ((6 + (8 * (I 238 5))) + 5).toNat x6 = I19 at h ⊢
  refine G_loadR rc_135_75 rfl ?_
  refine G_getR rc_135_76 s0_237 (by decide) rfl (by decide) ?_
  show GO S0 135 79 [vR 237, vI x1, vI x2, vI x3, vI x4, vI x5, vI x6, vI x7, vI (6 + (8 * (I 238 5)))] [vR 238] I19 K
  refine G_loadI rc_135_79 rfl ?_
  refine G_const rc_135_81 (by decide) ?_
  obtain ⟨c20, h⟩ := h
  refine G_bop (z := (6 + (8 * (I 238 5))) + 6) rc_135_83 (if_pos c20) ?_
  show GO S0 135 84 [vR 237, vI x1, vI x2, vI x3, vI x4, vI x5, vI x6, vI x7, vI (6 + (8 * (I 238 5)))] [vI ((6 + (8 * (I 238 5))) + 6), vR 238] I19 K
  refine G_loadI rc_135_84 rfl ?_
  obtain ⟨c21, h⟩ := h
  refine G_ast rc_135_86 s0_238 (by omega) (by omega) (Or.inl rfl) ?_
  show GO S0 135 87 [vR 237, vI x1, vI x2, vI x3, vI x4, vI x5, vI x6, vI x7, vI (6 + (8 * (I 238 5)))] [] (iup I19 238 ((6 + (8 * (I 238 5))) + 6).toNat x7) K
  have h := h _ rfl
  generalize iup I19 238 ((6 + (8 * (I 238 5))) + 6).toNat x7 = I22 at h ⊢
  refine G_loadR rc_135_87 rfl ?_
  refine G_getR rc_135_88 s0_237 (by decide) rfl (by decide) ?_
  show GO S0 135 91 [vR 237, vI x1, vI x2, vI x3, vI x4, vI x5, vI x6, vI x7, vI (6 + (8 * (I 238 5)))] [vR 238] I22 K
  refine G_loadI rc_135_91 rfl ?_
  refine G_const rc_135_93 (by decide) ?_
  obtain ⟨c23, h⟩ := h
  refine G_bop (z := (6 + (8 * (I 238 5))) + 7) rc_135_95 (if_pos c23) ?_
  show GO S0 135 96 [vR 237, vI x1, vI x2, vI x3, vI x4, vI x5, vI x6, vI x7, vI (6 + (8 * (I 238 5)))] [vI ((6 + (8 * (I 238 5))) + 7), vR 238] I22 K
  refine G_const rc_135_96 (by decide) ?_
  obtain ⟨c24, h⟩ := h
  refine G_ast rc_135_99 s0_238 (by omega) (by omega) (Or.inl rfl) ?_
  show GO S0 135 100 [vR 237, vI x1, vI x2, vI x3, vI x4, vI x5, vI x6, vI x7, vI (6 + (8 * (I 238 5)))] [] (iup I22 238 ((6 + (8 * (I 238 5))) + 7).toNat 500) K
  have h := h _ rfl
  generalize iup I22 238 ((6 + (8 * (I 238 5))) + 7).toNat 500 = I25 at h ⊢
  refine G_loadR rc_135_100 rfl ?_
  refine G_getR rc_135_101 s0_237 (by decide) rfl (by decide) ?_
  show GO S0 135 104 [vR 237, vI x1, vI x2, vI x3, vI x4, vI x5, vI x6, vI x7, vI (6 + (8 * (I 238 5)))] [vR 238] I25 K
  refine G_const rc_135_104 (by decide) ?_
  refine G_dup2 rc_135_105 ?_
  refine G_ald rc_135_106 s0_238 (by decide) (by decide) ?_
  show GO S0 135 107 [vR 237, vI x1, vI x2, vI x3, vI x4, vI x5, vI x6, vI x7, vI (6 + (8 * (I 238 5)))] [vI (I25 238 5), vI 5, vR 238] I25 K
  refine G_const rc_135_107 (by decide) ?_
  obtain ⟨c26, h⟩ := h
  refine G_bop (z := (I25 238 5) + 1) rc_135_108 (if_pos c26) ?_
  show GO S0 135 109 [vR 237, vI x1, vI x2, vI x3, vI x4, vI x5, vI x6, vI x7, vI (6 + (8 * (I 238 5)))] [vI ((I25 238 5) + 1), vI 5, vR 238] I25 K
  refine G_ast rc_135_109 s0_238 (by decide) (by decide) (Or.inl rfl) ?_
  show GO S0 135 110 [vR 237, vI x1, vI x2, vI x3, vI x4, vI x5, vI x6, vI x7, vI (6 + (8 * (I 238 5)))] [] (iup I25 238 5 ((I25 238 5) + 1)) K
  have h := h _ rfl
  generalize iup I25 238 5 ((I25 238 5) + 1) = I27 at h ⊢
  exact G_ret0 rc_135_110 h
/-! 136: RoundSlackModel.load(III)I -/
def D136_34 (x1 : Int) (x2 : Int) (x3 : Int) (u4 : AV) (t0 : Int) (t1 : Int) (t2 : Int) (I : IM) (K : Option AV → IM → Prop) : Prop :=
  CALL S0 130 [vI t0, vI t1, vI t2] I (fun v I1 => ∃ y2 : Int, v = some (vI y2) ∧ (if y2 = 0 then (K (some (vI (-2))) I1) else (CALL S0 138 [vR 237, vI x1] I1 (fun v I4 => ∃ y5 : Int, v = some (vI y5) ∧ (if y5 = 0 then (K (some (vI (-3))) I4) else ((inR (5 + x2)) ∧ CALL S0 140 [vR 237, vI x1, vI (5 + x2)] I4 (fun v I8 => ∃ y9 : Int, v = some (vI y9) ∧ (inR (8 * x1)) ∧ (inR (6 + (8 * x1))) ∧ (inR ((6 + (8 * x1)) + 5)) ∧ (inR (((6 + (8 * x1)) + 5) + x2)) ∧ (0 ≤ ((6 + (8 * x1)) + 5) + x2 ∧ ((6 + (8 * x1)) + 5) + x2 < 166) ∧ ∀ I15 : IM, I15 = iup I8 238 (((6 + (8 * x1)) + 5) + x2).toNat x3 → CALL S0 133 [vR 237, vI y9] I15 (fun v I16 => ∃ y17 : Int, v = some (vI y17) ∧ K (some (vI y17)) I16))))))))
set_option maxRecDepth 10000 in
theorem g136_34 (x1 : Int) (x2 : Int) (x3 : Int) (u4 : AV) (t0 : Int) (t1 : Int) (t2 : Int) (I : IM) (K : Option AV → IM → Prop) (h : D136_34 x1 x2 x3 u4 t0 t1 t2 I K) : GO S0 136 34 [vR 237, vI x1, vI x2, vI x3, u4] [vI t2, vI t1, vI t0] I K := by
  unfold D136_34 at h
  refine G_call (as := [vI t0, vI t1, vI t2]) (rest := []) rc_136_34 rfl rfl rfl (Nat.le_of_ble_eq_true rfl) rfl ?_
  refine GO.imp h (fun v I1 h => ?_)
  obtain ⟨y2, rfl, h⟩ := h
  show GO S0 136 37 [vR 237, vI x1, vI x2, vI x3, u4] [vI y2] I1 K
  refine G_i1 (C := ¬ y2 = 0) rc_136_37 rfl (fun c3 => ?_) (fun c3 => ?_)
  · rw [if_neg c3] at h
    show GO S0 136 43 [vR 237, vI x1, vI x2, vI x3, u4] [] I1 K
    refine G_loadR rc_136_43 rfl ?_
    refine G_loadI rc_136_44 rfl ?_
    refine G_call (as := [vR 237, vI x1]) (rest := []) rc_136_45 rfl rfl rfl (Nat.le_of_ble_eq_true rfl) (g_recv s0_237 rfl) ?_
    refine GO.imp h (fun v I4 h => ?_)
    obtain ⟨y5, rfl, h⟩ := h
    show GO S0 136 48 [vR 237, vI x1, vI x2, vI x3, u4] [vI y5] I4 K
    refine G_i1 (C := ¬ y5 = 0) rc_136_48 rfl (fun c6 => ?_) (fun c6 => ?_)
    · rw [if_neg c6] at h
      show GO S0 136 54 [vR 237, vI x1, vI x2, vI x3, u4] [] I4 K
      refine G_loadR rc_136_54 rfl ?_
      refine G_loadI rc_136_55 rfl ?_
      refine G_const rc_136_56 (by decide) ?_
      refine G_loadI rc_136_57 rfl ?_
      obtain ⟨c7, h⟩ := h
      refine G_bop (z := 5 + x2) rc_136_58 (if_pos c7) ?_
      show GO S0 136 59 [vR 237, vI x1, vI x2, vI x3, u4] [vI (5 + x2), vI x1, vR 237] I4 K
      refine G_call (as := [vR 237, vI x1, vI (5 + x2)]) (rest := []) rc_136_59 rfl rfl rfl (Nat.le_of_ble_eq_true rfl) (g_recv s0_237 rfl) ?_
      refine GO.imp h (fun v I8 h => ?_)
      obtain ⟨y9, rfl, h⟩ := h
      show GO S0 136 62 [vR 237, vI x1, vI x2, vI x3, u4] [vI y9] I8 K
      refine G_storeI rc_136_62 (Nat.le_of_ble_eq_true rfl) ?_
      show GO S0 136 64 [vR 237, vI x1, vI x2, vI x3, vI y9] [] I8 K
      refine G_loadR rc_136_64 rfl ?_
      refine G_getR rc_136_65 s0_237 (by decide) rfl (by decide) ?_
      show GO S0 136 68 [vR 237, vI x1, vI x2, vI x3, vI y9] [vR 238] I8 K
      refine G_const rc_136_68 (by decide) ?_
      refine G_const rc_136_70 (by decide) ?_
      refine G_loadI rc_136_72 rfl ?_
      obtain ⟨c10, h⟩ := h
      refine G_bop (z := 8 * x1) rc_136_73 (if_pos c10) ?_
      show GO S0 136 74 [vR 237, vI x1, vI x2, vI x3, vI y9] [vI (8 * x1), vI 6, vR 238] I8 K
      obtain ⟨c11, h⟩ := h
      refine G_bop (z := 6 + (8 * x1)) rc_136_74 (if_pos c11) ?_
      show GO S0 136 75 [vR 237, vI x1, vI x2, vI x3, vI y9] [vI (6 + (8 * x1)), vR 238] I8 K
      refine G_const rc_136_75 (by decide) ?_
      obtain ⟨c12, h⟩ := h
      refine G_bop (z := (6 + (8 * x1)) + 5) rc_136_76 (if_pos c12) ?_
      show GO S0 136 77 [vR 237, vI x1, vI x2, vI x3, vI y9] [vI ((6 + (8 * x1)) + 5), vR 238] I8 K
      refine G_loadI rc_136_77 rfl ?_
      obtain ⟨c13, h⟩ := h
      refine G_bop (z := ((6 + (8 * x1)) + 5) + x2) rc_136_78 (if_pos c13) ?_
      show GO S0 136 79 [vR 237, vI x1, vI x2, vI x3, vI y9] [vI (((6 + (8 * x1)) + 5) + x2), vR 238] I8 K
      refine G_loadI rc_136_79 rfl ?_
      obtain ⟨c14, h⟩ := h
      refine G_ast rc_136_80 s0_238 (by omega) (by omega) (Or.inl rfl) ?_
      show GO S0 136 81 [vR 237, vI x1, vI x2, vI x3, vI y9] [] (iup I8 238 (((6 + (8 * x1)) + 5) + x2).toNat x3) K
      have h := h _ rfl
      generalize iup I8 238 (((6 + (8 * x1)) + 5) + x2).toNat x3 = I15 at h ⊢
      refine G_loadR rc_136_81 rfl ?_
      refine G_loadI rc_136_82 rfl ?_
      refine G_call (as := [vR 237, vI y9]) (rest := []) rc_136_84 rfl rfl rfl (Nat.le_of_ble_eq_true rfl) (g_recv s0_237 rfl) ?_
      refine GO.imp h (fun v I16 h => ?_)
      obtain ⟨y17, rfl, h⟩ := h
      show GO S0 136 87 [vR 237, vI x1, vI x2, vI x3, vI y9] [vI y17] I16 K
      exact G_retI rc_136_87 (Or.inl rfl) h
    · rw [if_pos (Classical.not_not.mp c6)] at h
      show GO S0 136 51 [vR 237, vI x1, vI x2, vI x3, u4] [] I4 K
      refine G_const rc_136_51 (by decide) ?_
      exact G_retI rc_136_53 (Or.inl rfl) h
  · rw [if_pos (Classical.not_not.mp c3)] at h
    show GO S0 136 40 [vR 237, vI x1, vI x2, vI x3, u4] [] I1 K
    refine G_const rc_136_40 (by decide) ?_
    exact G_retI rc_136_42 (Or.inl rfl) h
def D136_0 (x1 : Int) (x2 : Int) (x3 : Int) (I : IM) (K : Option AV → IM → Prop) : Prop :=
  CALL S0 137 [vR 237, vI x1] I (fun v I1 => ∃ y2 : Int, v = some (vI y2) ∧ (if y2 = 0 then (K (some (vI (-1))) I1) else (CALL S0 130 [vI x2, vI 0, vI 2] I1 (fun v I4 => ∃ y5 : Int, v = some (vI y5) ∧ (if y5 = 0 then (K (some (vI (-1))) I4) else ((if x2 = 2 then (D136_34 x1 x2 x3 (vU) x3 0 9999 I4 K) else (D136_34 x1 x2 x3 (vU) x3 0 50 I4 K))))))))
set_option maxRecDepth 10000 in
theorem g136_0 (x1 : Int) (x2 : Int) (x3 : Int) (I : IM) (K : Option AV → IM → Prop) (h : D136_0 x1 x2 x3 I K) : GO S0 136 0 [vR 237, vI x1, vI x2, vI x3, vU] [] I K := by
  unfold D136_0 at h
  refine G_loadR rc_136_0 rfl ?_
  refine G_loadI rc_136_1 rfl ?_
  refine G_call (as := [vR 237, vI x1]) (rest := []) rc_136_2 rfl rfl rfl (Nat.le_of_ble_eq_true rfl) (g_recv s0_237 rfl) ?_
  refine GO.imp h (fun v I1 h => ?_)
  obtain ⟨y2, rfl, h⟩ := h
  show GO S0 136 5 [vR 237, vI x1, vI x2, vI x3, vU] [vI y2] I1 K
  refine G_i1 (C := y2 = 0) rc_136_5 rfl (fun c3 => ?_) (fun c3 => ?_)
  · rw [if_pos c3] at h
    show GO S0 136 17 [vR 237, vI x1, vI x2, vI x3, vU] [] I1 K
    refine G_const rc_136_17 (by decide) ?_
    exact G_retI rc_136_18 (Or.inl rfl) h
  · rw [if_neg c3] at h
    show GO S0 136 8 [vR 237, vI x1, vI x2, vI x3, vU] [] I1 K
    refine G_loadI rc_136_8 rfl ?_
    refine G_const rc_136_9 (by decide) ?_
    refine G_const rc_136_10 (by decide) ?_
    refine G_call (as := [vI x2, vI 0, vI 2]) (rest := []) rc_136_11 rfl rfl rfl (Nat.le_of_ble_eq_true rfl) rfl ?_
    refine GO.imp h (fun v I4 h => ?_)
    obtain ⟨y5, rfl, h⟩ := h
    show GO S0 136 14 [vR 237, vI x1, vI x2, vI x3, vU] [vI y5] I4 K
    refine G_i1 (C := ¬ y5 = 0) rc_136_14 rfl (fun c6 => ?_) (fun c6 => ?_)
    · rw [if_neg c6] at h
      show GO S0 136 19 [vR 237, vI x1, vI x2, vI x3, vU] [] I4 K
      refine G_loadI rc_136_19 rfl ?_
      refine G_const rc_136_20 (by decide) ?_
      refine G_loadI rc_136_21 rfl ?_
      refine G_const rc_136_22 (by decide) ?_
      refine G_i2 (C := ¬ x2 = 2) rc_136_23 rfl (fun c7 => ?_) (fun c7 => ?_)
      · rw [if_neg c7] at h
        show GO S0 136 32 [vR 237, vI x1, vI x2, vI x3, vU] [vI 0, vI x3] I4 K
        refine G_const rc_136_32 (by decide) ?_
        exact g136_34 x1 x2 x3 (vU) x3 0 50 I4 K h
      · rw [if_pos (Classical.not_not.mp c7)] at h
        show GO S0 136 26 [vR 237, vI x1, vI x2, vI x3, vU] [vI 0, vI x3] I4 K
        refine G_const rc_136_26 (by decide) ?_
        refine G_goto rc_136_29 ?_
        show GO S0 136 34 [vR 237, vI x1, vI x2, vI x3, vU] [vI 9999, vI 0, vI x3] I4 K
        exact g136_34 x1 x2 x3 (vU) x3 0 9999 I4 K h
    · rw [if_pos (Classical.not_not.mp c6)] at h
      show GO S0 136 17 [vR 237, vI x1, vI x2, vI x3, vU] [] I4 K
      refine G_const rc_136_17 (by decide) ?_
      exact G_retI rc_136_18 (Or.inl rfl) h
/-! 137: RoundSlackModel.isOrder(I)Z -/
def D137_0 (x1 : Int) (I : IM) (K : Option AV → IM → Prop) : Prop :=
  (inR ((I 238 5) - 1)) ∧ CALL S0 130 [vI x1, vI 0, vI ((I 238 5) - 1)] I (fun v I2 => ∃ y3 : Int, v = some (vI y3) ∧ (y3 = 0 ∨ y3 = 1) ∧ K (some (vI y3)) I2)
set_option maxRecDepth 10000 in
theorem g137_0 (x1 : Int) (I : IM) (K : Option AV → IM → Prop) (h : D137_0 x1 I K) : GO S0 137 0 [vR 237, vI x1] [] I K := by
  unfold D137_0 at h
  refine G_loadI rc_137_0 rfl ?_
  refine G_const rc_137_1 (by decide) ?_
  refine G_loadR rc_137_2 rfl ?_
  refine G_getR rc_137_3 s0_237 (by decide) rfl (by decide) ?_
  show GO S0 137 6 [vR 237, vI x1] [vR 238, vI 0, vI x1] I K
  refine G_const rc_137_6 (by decide) ?_
  refine G_ald rc_137_7 s0_238 (by decide) (by decide) ?_
  show GO S0 137 8 [vR 237, vI x1] [vI (I 238 5), vI 0, vI x1] I K
  refine G_const rc_137_8 (by decide) ?_
  obtain ⟨c1, h⟩ := h
  refine G_bop (z := (I 238 5) - 1) rc_137_9 (if_pos c1) ?_
  show GO S0 137 10 [vR 237, vI x1] [vI ((I 238 5) - 1), vI 0, vI x1] I K
  refine G_call (as := [vI x1, vI 0, vI ((I 238 5) - 1)]) (rest := []) rc_137_10 rfl rfl rfl (Nat.le_of_ble_eq_true rfl) rfl ?_
  refine GO.imp h (fun v I2 h => ?_)
  obtain ⟨y3, rfl, h⟩ := h
  show GO S0 137 13 [vR 237, vI x1] [vI y3] I2 K
  obtain ⟨c4, h⟩ := h
  exact G_retI rc_137_13 (Or.inr c4) h
/-! 138: RoundSlackModel.isLeft(I)Z -/
def D138_0 (x1 : Int) (I : IM) (K : Option AV → IM → Prop) : Prop :=
  CALL S0 139 [vR 237, vI x1] I (fun v I1 => ∃ y2 : Int, v = some (vI y2) ∧ (if (0 : Int) ≤ y2 then (K (some (vI 0)) I1) else (K (some (vI 1)) I1)))
set_option maxRecDepth 10000 in
theorem g138_0 (x1 : Int) (I : IM) (K : Option AV → IM → Prop) (h : D138_0 x1 I K) : GO S0 138 0 [vR 237, vI x1] [] I K := by
  unfold D138_0 at h
  refine G_loadR rc_138_0 rfl ?_
  refine G_loadI rc_138_1 rfl ?_
  refine G_call (as := [vR 237, vI x1]) (rest := []) rc_138_2 rfl rfl rfl (Nat.le_of_ble_eq_true rfl) (g_recv s0_237 rfl) ?_
  refine GO.imp h (fun v I1 h => ?_)
  obtain ⟨y2, rfl, h⟩ := h
  show GO S0 138 5 [vR 237, vI x1] [vI y2] I1 K
  refine G_i1 (C := (0 : Int) ≤ y2) rc_138_5 rfl (fun c3 => ?_) (fun c3 => ?_)
  · rw [if_pos c3] at h
    show GO S0 138 12 [vR 237, vI x1] [] I1 K
    refine G_const rc_138_12 (by decide) ?_
    exact G_retI rc_138_13 (Or.inr (by decide)) h
  · rw [if_neg c3] at h
    show GO S0 138 8 [vR 237, vI x1] [] I1 K
    refine G_const rc_138_8 (by decide) ?_
    refine G_goto rc_138_9 ?_
    show GO S0 138 13 [vR 237, vI x1] [vI 1] I1 K
    exact G_retI rc_138_13 (Or.inr (by decide)) h
/-! 139: RoundSlackModel.vanOf(I)I -/
def D139_9 (x1 : Int) (x2 : Int) (x3 : Int) (I : IM) (K : Option AV → IM → Prop) : Prop :=
  (inR (13 * x2)) ∧ (inR (114 + (13 * x2))) ∧ (0 ≤ 114 + (13 * x2) ∧ 114 + (13 * x2) < 166) ∧ (if I 238 (114 + (13 * x2)).toNat ≤ x3 then ((inR (x2 + 1)) ∧ GO S0 139 2 [vR 237, vI x1, vI (x2 + 1), vI x3] [] I K) else ((inR ((114 + (13 * x2)) + 1)) ∧ (inR (((114 + (13 * x2)) + 1) + x3)) ∧ (0 ≤ ((114 + (13 * x2)) + 1) + x3 ∧ ((114 + (13 * x2)) + 1) + x3 < 166) ∧ (if I 238 (((114 + (13 * x2)) + 1) + x3).toNat = x1 then (K (some (vI x2)) I) else ((inR (x3 + 1)) ∧ GO S0 139 9 [vR 237, vI x1, vI x2, vI (x3 + 1)] [] I K))))
set_option maxRecDepth 10000 in
theorem g139_9 (x1 : Int) (x2 : Int) (x3 : Int) (I : IM) (K : Option AV → IM → Prop) (h : D139_9 x1 x2 x3 I K) : GO S0 139 9 [vR 237, vI x1, vI x2, vI x3] [] I K := by
  unfold D139_9 at h
  refine G_loadI rc_139_9 rfl ?_
  refine G_loadR rc_139_10 rfl ?_
  refine G_getR rc_139_11 s0_237 (by decide) rfl (by decide) ?_
  show GO S0 139 14 [vR 237, vI x1, vI x2, vI x3] [vR 238, vI x3] I K
  refine G_const rc_139_14 (by decide) ?_
  refine G_const rc_139_16 (by decide) ?_
  refine G_loadI rc_139_18 rfl ?_
  obtain ⟨c1, h⟩ := h
  refine G_bop (z := 13 * x2) rc_139_19 (if_pos c1) ?_
  show GO S0 139 20 [vR 237, vI x1, vI x2, vI x3] [vI (13 * x2), vI 114, vR 238, vI x3] I K
  obtain ⟨c2, h⟩ := h
  refine G_bop (z := 114 + (13 * x2)) rc_139_20 (if_pos c2) ?_
  show GO S0 139 21 [vR 237, vI x1, vI x2, vI x3] [vI (114 + (13 * x2)), vR 238, vI x3] I K
  obtain ⟨c3, h⟩ := h
  refine G_ald rc_139_21 s0_238 (by omega) (by omega) ?_
  show GO S0 139 22 [vR 237, vI x1, vI x2, vI x3] [vI (I 238 (114 + (13 * x2)).toNat), vI x3] I K
  refine G_i2 (C := I 238 (114 + (13 * x2)).toNat ≤ x3) rc_139_22 rfl (fun c4 => ?_) (fun c4 => ?_)
  · rw [if_pos c4] at h
    show GO S0 139 53 [vR 237, vI x1, vI x2, vI x3] [] I K
    obtain ⟨c5, h⟩ := h
    refine G_iinc rc_139_53 rfl c5 ?_
    show GO S0 139 56 [vR 237, vI x1, vI (x2 + 1), vI x3] [] I K
    refine G_goto rc_139_56 ?_
    show GO S0 139 2 [vR 237, vI x1, vI (x2 + 1), vI x3] [] I K
    exact h
  · rw [if_neg c4] at h
    show GO S0 139 25 [vR 237, vI x1, vI x2, vI x3] [] I K
    refine G_loadR rc_139_25 rfl ?_
    refine G_getR rc_139_26 s0_237 (by decide) rfl (by decide) ?_
    show GO S0 139 29 [vR 237, vI x1, vI x2, vI x3] [vR 238] I K
    refine G_const rc_139_29 (by decide) ?_
    refine G_const rc_139_31 (by decide) ?_
    refine G_loadI rc_139_33 rfl ?_
    refine G_bop (z := 13 * x2) rc_139_34 (if_pos c1) ?_
    show GO S0 139 35 [vR 237, vI x1, vI x2, vI x3] [vI (13 * x2), vI 114, vR 238] I K
    refine G_bop (z := 114 + (13 * x2)) rc_139_35 (if_pos c2) ?_
    show GO S0 139 36 [vR 237, vI x1, vI x2, vI x3] [vI (114 + (13 * x2)), vR 238] I K
    refine G_const rc_139_36 (by decide) ?_
    obtain ⟨c6, h⟩ := h
    refine G_bop (z := (114 + (13 * x2)) + 1) rc_139_37 (if_pos c6) ?_
    show GO S0 139 38 [vR 237, vI x1, vI x2, vI x3] [vI ((114 + (13 * x2)) + 1), vR 238] I K
    refine G_loadI rc_139_38 rfl ?_
    obtain ⟨c7, h⟩ := h
    refine G_bop (z := ((114 + (13 * x2)) + 1) + x3) rc_139_39 (if_pos c7) ?_
    show GO S0 139 40 [vR 237, vI x1, vI x2, vI x3] [vI (((114 + (13 * x2)) + 1) + x3), vR 238] I K
    obtain ⟨c8, h⟩ := h
    refine G_ald rc_139_40 s0_238 (by omega) (by omega) ?_
    show GO S0 139 41 [vR 237, vI x1, vI x2, vI x3] [vI (I 238 (((114 + (13 * x2)) + 1) + x3).toNat)] I K
    refine G_loadI rc_139_41 rfl ?_
    refine G_i2 (C := ¬ I 238 (((114 + (13 * x2)) + 1) + x3).toNat = x1) rc_139_42 rfl (fun c9 => ?_) (fun c9 => ?_)
    · rw [if_neg c9] at h
      show GO S0 139 47 [vR 237, vI x1, vI x2, vI x3] [] I K
      obtain ⟨c10, h⟩ := h
      refine G_iinc rc_139_47 rfl c10 ?_
      show GO S0 139 50 [vR 237, vI x1, vI x2, vI (x3 + 1)] [] I K
      refine G_goto rc_139_50 ?_
      show GO S0 139 9 [vR 237, vI x1, vI x2, vI (x3 + 1)] [] I K
      exact h
    · rw [if_pos (Classical.not_not.mp c9)] at h
      show GO S0 139 45 [vR 237, vI x1, vI x2, vI x3] [] I K
      refine G_loadI rc_139_45 rfl ?_
      exact G_retI rc_139_46 (Or.inl rfl) h
def D139_2 (x1 : Int) (x2 : Int) (u3 : AV) (I : IM) (K : Option AV → IM → Prop) : Prop :=
  (if (4 : Int) ≤ x2 then (K (some (vI (-1))) I) else (GO S0 139 9 [vR 237, vI x1, vI x2, vI 0] [] I K))
set_option maxRecDepth 10000 in
theorem g139_2 (x1 : Int) (x2 : Int) (u3 : AV) (I : IM) (K : Option AV → IM → Prop) (h : D139_2 x1 x2 u3 I K) : GO S0 139 2 [vR 237, vI x1, vI x2, u3] [] I K := by
  unfold D139_2 at h
  refine G_loadI rc_139_2 rfl ?_
  refine G_const rc_139_3 (by decide) ?_
  refine G_i2 (C := (4 : Int) ≤ x2) rc_139_4 rfl (fun c1 => ?_) (fun c1 => ?_)
  · rw [if_pos c1] at h
    show GO S0 139 59 [vR 237, vI x1, vI x2, u3] [] I K
    refine G_const rc_139_59 (by decide) ?_
    exact G_retI rc_139_60 (Or.inl rfl) h
  · rw [if_neg c1] at h
    show GO S0 139 7 [vR 237, vI x1, vI x2, u3] [] I K
    refine G_const rc_139_7 (by decide) ?_
    refine G_storeI rc_139_8 (Nat.le_of_ble_eq_true rfl) ?_
    show GO S0 139 9 [vR 237, vI x1, vI x2, vI 0] [] I K
    exact h
def D139_0 (x1 : Int) (I : IM) (K : Option AV → IM → Prop) : Prop :=
  GO S0 139 2 [vR 237, vI x1, vI 0, vU] [] I K
set_option maxRecDepth 10000 in
theorem g139_0 (x1 : Int) (I : IM) (K : Option AV → IM → Prop) (h : D139_0 x1 I K) : GO S0 139 0 [vR 237, vI x1, vU, vU] [] I K := by
  unfold D139_0 at h
  refine G_const rc_139_0 (by decide) ?_
  refine G_storeI rc_139_1 (Nat.le_of_ble_eq_true rfl) ?_
  show GO S0 139 2 [vR 237, vI x1, vI 0, vU] [] I K
  exact h
/-! 140: RoundSlackModel.ofOrder(II)I -/
def D140_0 (x1 : Int) (x2 : Int) (I : IM) (K : Option AV → IM → Prop) : Prop :=
  (inR (8 * x1)) ∧ (inR (6 + (8 * x1))) ∧ (inR ((6 + (8 * x1)) + x2)) ∧ (0 ≤ (6 + (8 * x1)) + x2 ∧ (6 + (8 * x1)) + x2 < 166) ∧ K (some (vI (I 238 ((6 + (8 * x1)) + x2).toNat))) I
set_option maxRecDepth 10000 in
theorem g140_0 (x1 : Int) (x2 : Int) (I : IM) (K : Option AV → IM → Prop) (h : D140_0 x1 x2 I K) : GO S0 140 0 [vR 237, vI x1, vI x2] [] I K := by
  unfold D140_0 at h
  refine G_loadR rc_140_0 rfl ?_
  refine G_getR rc_140_1 s0_237 (by decide) rfl (by decide) ?_
  show GO S0 140 4 [vR 237, vI x1, vI x2] [vR 238] I K
  refine G_const rc_140_4 (by decide) ?_
  refine G_const rc_140_6 (by decide) ?_
  refine G_loadI rc_140_8 rfl ?_
  obtain ⟨c1, h⟩ := h
  refine G_bop (z := 8 * x1) rc_140_9 (if_pos c1) ?_
  show GO S0 140 10 [vR 237, vI x1, vI x2] [vI (8 * x1), vI 6, vR 238] I K
  obtain ⟨c2, h⟩ := h
  refine G_bop (z := 6 + (8 * x1)) rc_140_10 (if_pos c2) ?_
  show GO S0 140 11 [vR 237, vI x1, vI x2] [vI (6 + (8 * x1)), vR 238] I K
  refine G_loadI rc_140_11 rfl ?_
  obtain ⟨c3, h⟩ := h
  refine G_bop (z := (6 + (8 * x1)) + x2) rc_140_12 (if_pos c3) ?_
  show GO S0 140 13 [vR 237, vI x1, vI x2] [vI ((6 + (8 * x1)) + x2), vR 238] I K
  obtain ⟨c4, h⟩ := h
  refine G_ald rc_140_13 s0_238 (by omega) (by omega) ?_
  show GO S0 140 14 [vR 237, vI x1, vI x2] [vI (I 238 ((6 + (8 * x1)) + x2).toNat)] I K
  exact G_retI rc_140_14 (Or.inl rfl) h
/-! 141: RoundSlackModel.van(IIII)I -/
def D141_0 (x1 : Int) (x2 : Int) (x3 : Int) (x4 : Int) (I : IM) (K : Option AV → IM → Prop) : Prop :=
  CALL S0 142 [vI x1] I (fun v I1 => ∃ y2 : Int, v = some (vI y2) ∧ (if y2 = 0 then (K (some (vI (-1))) I1) else (CALL S0 130 [vI x2, vI 0, vI 200] I1 (fun v I4 => ∃ y5 : Int, v = some (vI y5) ∧ (if y5 = 0 then (K (some (vI (-2))) I4) else (CALL S0 130 [vI x3, vI 0, vI 999] I4 (fun v I7 => ∃ y8 : Int, v = some (vI y8) ∧ (if y8 = 0 then (K (some (vI (-2))) I7) else (CALL S0 130 [vI x4, vI x3, vI 999] I7 (fun v I10 => ∃ y11 : Int, v = some (vI y11) ∧ (if y11 = 0 then (K (some (vI (-2))) I10) else (CALL S0 132 [vR 237, vI x1] I10 (fun v I13 => ∃ y14 : Int, v = some (vI y14) ∧ (if y14 ≤ 0 then ((inR (3 * x1)) ∧ (inR (102 + (3 * x1))) ∧ (0 ≤ 102 + (3 * x1) ∧ 102 + (3 * x1) < 166) ∧ ∀ I19 : IM, I19 = iup I13 238 (102 + (3 * x1)).toNat x2 → (inR ((102 + (3 * x1)) + 1)) ∧ (0 ≤ (102 + (3 * x1)) + 1 ∧ (102 + (3 * x1)) + 1 < 166) ∧ ∀ I22 : IM, I22 = iup I19 238 ((102 + (3 * x1)) + 1).toNat x3 → (inR ((102 + (3 * x1)) + 2)) ∧ (0 ≤ (102 + (3 * x1)) + 2 ∧ (102 + (3 * x1)) + 2 < 166) ∧ ∀ I25 : IM, I25 = iup I22 238 ((102 + (3 * x1)) + 2).toNat x4 → CALL S0 133 [vR 237, vI 1] I25 (fun v I26 => ∃ y27 : Int, v = some (vI y27) ∧ K (some (vI y27)) I26)) else (K (some (vI (-3))) I13)))))))))))))))
set_option maxRecDepth 10000 in
theorem g141_0 (x1 : Int) (x2 : Int) (x3 : Int) (x4 : Int) (I : IM) (K : Option AV → IM → Prop) (h : D141_0 x1 x2 x3 x4 I K) : GO S0 141 0 [vR 237, vI x1, vI x2, vI x3, vI x4] [] I K := by
  unfold D141_0 at h
  refine G_loadI rc_141_0 rfl ?_
  refine G_call (as := [vI x1]) (rest := []) rc_141_1 rfl rfl rfl (Nat.le_of_ble_eq_true rfl) rfl ?_
  refine GO.imp h (fun v I1 h => ?_)
  obtain ⟨y2, rfl, h⟩ := h
  show GO S0 141 4 [vR 237, vI x1, vI x2, vI x3, vI x4] [vI y2] I1 K
  refine G_i1 (C := ¬ y2 = 0) rc_141_4 rfl (fun c3 => ?_) (fun c3 => ?_)
  · rw [if_neg c3] at h
    show GO S0 141 9 [vR 237, vI x1, vI x2, vI x3, vI x4] [] I1 K
    refine G_loadI rc_141_9 rfl ?_
    refine G_const rc_141_10 (by decide) ?_
    refine G_const rc_141_11 (by decide) ?_
    refine G_call (as := [vI x2, vI 0, vI 200]) (rest := []) rc_141_14 rfl rfl rfl (Nat.le_of_ble_eq_true rfl) rfl ?_
    refine GO.imp h (fun v I4 h => ?_)
    obtain ⟨y5, rfl, h⟩ := h
    show GO S0 141 17 [vR 237, vI x1, vI x2, vI x3, vI x4] [vI y5] I4 K
    refine G_i1 (C := y5 = 0) rc_141_17 rfl (fun c6 => ?_) (fun c6 => ?_)
    · rw [if_pos c6] at h
      show GO S0 141 43 [vR 237, vI x1, vI x2, vI x3, vI x4] [] I4 K
      refine G_const rc_141_43 (by decide) ?_
      exact G_retI rc_141_45 (Or.inl rfl) h
    · rw [if_neg c6] at h
      show GO S0 141 20 [vR 237, vI x1, vI x2, vI x3, vI x4] [] I4 K
      refine G_loadI rc_141_20 rfl ?_
      refine G_const rc_141_21 (by decide) ?_
      refine G_const rc_141_22 (by decide) ?_
      refine G_call (as := [vI x3, vI 0, vI 999]) (rest := []) rc_141_25 rfl rfl rfl (Nat.le_of_ble_eq_true rfl) rfl ?_
      refine GO.imp h (fun v I7 h => ?_)
      obtain ⟨y8, rfl, h⟩ := h
      show GO S0 141 28 [vR 237, vI x1, vI x2, vI x3, vI x4] [vI y8] I7 K
      refine G_i1 (C := y8 = 0) rc_141_28 rfl (fun c9 => ?_) (fun c9 => ?_)
      · rw [if_pos c9] at h
        show GO S0 141 43 [vR 237, vI x1, vI x2, vI x3, vI x4] [] I7 K
        refine G_const rc_141_43 (by decide) ?_
        exact G_retI rc_141_45 (Or.inl rfl) h
      · rw [if_neg c9] at h
        show GO S0 141 31 [vR 237, vI x1, vI x2, vI x3, vI x4] [] I7 K
        refine G_loadI rc_141_31 rfl ?_
        refine G_loadI rc_141_33 rfl ?_
        refine G_const rc_141_34 (by decide) ?_
        refine G_call (as := [vI x4, vI x3, vI 999]) (rest := []) rc_141_37 rfl rfl rfl (Nat.le_of_ble_eq_true rfl) rfl ?_
        refine GO.imp h (fun v I10 h => ?_)
        obtain ⟨y11, rfl, h⟩ := h
        show GO S0 141 40 [vR 237, vI x1, vI x2, vI x3, vI x4] [vI y11] I10 K
        refine G_i1 (C := ¬ y11 = 0) rc_141_40 rfl (fun c12 => ?_) (fun c12 => ?_)
        · rw [if_neg c12] at h
          show GO S0 141 46 [vR 237, vI x1, vI x2, vI x3, vI x4] [] I10 K
          refine G_loadR rc_141_46 rfl ?_
          refine G_loadI rc_141_47 rfl ?_
          refine G_call (as := [vR 237, vI x1]) (rest := []) rc_141_48 rfl rfl rfl (Nat.le_of_ble_eq_true rfl) (g_recv s0_237 rfl) ?_
          refine GO.imp h (fun v I13 h => ?_)
          obtain ⟨y14, rfl, h⟩ := h
          show GO S0 141 51 [vR 237, vI x1, vI x2, vI x3, vI x4] [vI y14] I13 K
          refine G_i1 (C := y14 ≤ 0) rc_141_51 rfl (fun c15 => ?_) (fun c15 => ?_)
          · rw [if_pos c15] at h
            show GO S0 141 57 [vR 237, vI x1, vI x2, vI x3, vI x4] [] I13 K
            refine G_loadR rc_141_57 rfl ?_
            refine G_getR rc_141_58 s0_237 (by decide) rfl (by decide) ?_
            show GO S0 141 61 [vR 237, vI x1, vI x2, vI x3, vI x4] [vR 238] I13 K
            refine G_const rc_141_61 (by decide) ?_
            refine G_const rc_141_63 (by decide) ?_
            refine G_loadI rc_141_64 rfl ?_
            obtain ⟨c16, h⟩ := h
            refine G_bop (z := 3 * x1) rc_141_65 (if_pos c16) ?_
            show GO S0 141 66 [vR 237, vI x1, vI x2, vI x3, vI x4] [vI (3 * x1), vI 102, vR 238] I13 K
            obtain ⟨c17, h⟩ := h
            refine G_bop (z := 102 + (3 * x1)) rc_141_66 (if_pos c17) ?_
            show GO S0 141 67 [vR 237, vI x1, vI x2, vI x3, vI x4] [vI (102 + (3 * x1)), vR 238] I13 K
            refine G_loadI rc_141_67 rfl ?_
            obtain ⟨c18, h⟩ := h
            refine G_ast rc_141_68 s0_238 (by omega) (by omega) (Or.inl rfl) ?_
            show GO S0 141 69 [vR 237, vI x1, vI x2, vI x3, vI x4] [] (iup I13 238 (102 + (3 * x1)).toNat x2) K
            have h := h _ rfl
            generalize iup I13 238 (102 + (3 * x1)).toNat x2 = I19 at h ⊢
            refine G_loadR rc_141_69 rfl ?_
            refine G_getR rc_141_70 s0_237 (by decide) rfl (by decide) ?_
            show GO S0 141 73 [vR 237, vI x1, vI x2, vI x3, vI x4] [vR 238] I19 K
            refine G_const rc_141_73 (by decide) ?_
            refine G_const rc_141_75 (by decide) ?_
            refine G_loadI rc_141_76 rfl ?_
            refine G_bop (z := 3 * x1) rc_141_77 (if_pos c16) ?_
            show GO S0 141 78 [vR 237, vI x1, vI x2, vI x3, vI x4] [vI (3 * x1), vI 102, vR 238] I19 K
            refine G_bop (z := 102 + (3 * x1)) rc_141_78 (if_pos c17) ?_
            show GO S0 141 79 [vR 237, vI x1, vI x2, vI x3, vI x4] [vI (102 + (3 * x1)), vR 238] I19 K
            refine G_const rc_141_79 (by decide) ?_
            obtain ⟨c20, h⟩ := h
            refine G_bop (z := (102 + (3 * x1)) + 1) rc_141_80 (if_pos c20) ?_
            show GO S0 141 81 [vR 237, vI x1, vI x2, vI x3, vI x4] [vI ((102 + (3 * x1)) + 1), vR 238] I19 K
            refine G_loadI rc_141_81 rfl ?_
            obtain ⟨c21, h⟩ := h
            refine G_ast rc_141_82 s0_238 (by omega) (by omega) (Or.inl rfl) ?_
            show GO S0 141 83 [vR 237, vI x1, vI x2, vI x3, vI x4] [] (iup I19 238 ((102 + (3 * x1)) + 1).toNat x3) K
            have h := h _ rfl
            generalize iup I19 238 ((102 + (3 * x1)) + 1).toNat x3 = I22 at h ⊢
            refine G_loadR rc_141_83 rfl ?_
            refine G_getR rc_141_84 s0_237 (by decide) rfl (by decide) ?_
            show GO S0 141 87 [vR 237, vI x1, vI x2, vI x3, vI x4] [vR 238] I22 K
            refine G_const rc_141_87 (by decide) ?_
            refine G_const rc_141_89 (by decide) ?_
            refine G_loadI rc_141_90 rfl ?_
            refine G_bop (z := 3 * x1) rc_141_91 (if_pos c16) ?_
            show GO S0 141 92 [vR 237, vI x1, vI x2, vI x3, vI x4] [vI (3 * x1), vI 102, vR 238] I22 K
            refine G_bop (z := 102 + (3 * x1)) rc_141_92 (if_pos c17) ?_
            show GO S0 141 93 [vR 237, vI x1, vI x2, vI x3, vI x4] [vI (102 + (3 * x1)), vR 238] I22 K
            refine G_const rc_141_93 (by decide) ?_
            obtain ⟨c23, h⟩ := h
            refine G_bop (z := (102 + (3 * x1)) + 2) rc_141_94 (if_pos c23) ?_
            show GO S0 141 95 [vR 237, vI x1, vI x2, vI x3, vI x4] [vI ((102 + (3 * x1)) + 2), vR 238] I22 K
            refine G_loadI rc_141_95 rfl ?_
            obtain ⟨c24, h⟩ := h
            refine G_ast rc_141_97 s0_238 (by omega) (by omega) (Or.inl rfl) ?_
            show GO S0 141 98 [vR 237, vI x1, vI x2, vI x3, vI x4] [] (iup I22 238 ((102 + (3 * x1)) + 2).toNat x4) K
            have h := h _ rfl
            generalize iup I22 238 ((102 + (3 * x1)) + 2).toNat x4 = I25 at h ⊢
            refine G_loadR rc_141_98 rfl ?_
            refine G_const rc_141_99 (by decide) ?_
            refine G_call (as := [vR 237, vI 1]) (rest := []) rc_141_100 rfl rfl rfl (Nat.le_of_ble_eq_true rfl) (g_recv s0_237 rfl) ?_
            refine GO.imp h (fun v I26 h => ?_)
            obtain ⟨y27, rfl, h⟩ := h
            show GO S0 141 103 [vR 237, vI x1, vI x2, vI x3, vI x4] [vI y27] I26 K
            exact G_retI rc_141_103 (Or.inl rfl) h
          · rw [if_neg c15] at h
            show GO S0 141 54 [vR 237, vI x1, vI x2, vI x3, vI x4] [] I13 K
            refine G_const rc_141_54 (by decide) ?_
            exact G_retI rc_141_56 (Or.inl rfl) h
        · rw [if_pos (Classical.not_not.mp c12)] at h
          show GO S0 141 43 [vR 237, vI x1, vI x2, vI x3, vI x4] [] I10 K
          refine G_const rc_141_43 (by decide) ?_
          exact G_retI rc_141_45 (Or.inl rfl) h
  · rw [if_pos (Classical.not_not.mp c3)] at h
    show GO S0 141 7 [vR 237, vI x1, vI x2, vI x3, vI x4] [] I1 K
    refine G_const rc_141_7 (by decide) ?_
    exact G_retI rc_141_8 (Or.inl rfl) h
/-! 142: RoundSlackModel.isVan(I)Z -/
def D142_0 (x0 : Int) (I : IM) (K : Option AV → IM → Prop) : Prop :=
  CALL S0 130 [vI x0, vI 0, vI 3] I (fun v I1 => ∃ y2 : Int, v = some (vI y2) ∧ (y2 = 0 ∨ y2 = 1) ∧ K (some (vI y2)) I1)
set_option maxRecDepth 10000 in
theorem g142_0 (x0 : Int) (I : IM) (K : Option AV → IM → Prop) (h : D142_0 x0 I K) : GO S0 142 0 [vI x0] [] I K := by
  unfold D142_0 at h
  refine G_loadI rc_142_0 rfl ?_
  refine G_const rc_142_1 (by decide) ?_
  refine G_const rc_142_2 (by decide) ?_
  refine G_call (as := [vI x0, vI 0, vI 3]) (rest := []) rc_142_3 rfl rfl rfl (Nat.le_of_ble_eq_true rfl) rfl ?_
  refine GO.imp h (fun v I1 h => ?_)
  obtain ⟨y2, rfl, h⟩ := h
  show GO S0 142 6 [vI x0] [vI y2] I1 K
  obtain ⟨c3, h⟩ := h
  exact G_retI rc_142_6 (Or.inr c3) h
/-! 143: RoundSlackModel.price(II)I -/
def D143_26 (x1 : Int) (x2 : Int) (u3 : AV) (t0 : Int) (t1 : Int) (t2 : Int) (I : IM) (K : Option AV → IM → Prop) : Prop :=
  CALL S0 130 [vI t0, vI t1, vI t2] I (fun v I1 => ∃ y2 : Int, v = some (vI y2) ∧ (if y2 = 0 then (K (some (vI (-2))) I1) else ((inR (2 + x1)) ∧ (0 ≤ 2 + x1 ∧ 2 + x1 < 166) ∧ ∀ I6 : IM, I6 = iup I1 238 (2 + x1).toNat x2 → K (some (vI (I1 238 (2 + x1).toNat))) I6)))
set_option maxRecDepth 10000 in
theorem g143_26 (x1 : Int) (x2 : Int) (u3 : AV) (t0 : Int) (t1 : Int) (t2 : Int) (I : IM) (K : Option AV → IM → Prop) (h : D143_26 x1 x2 u3 t0 t1 t2 I K) : GO S0 143 26 [vR 237, vI x1, vI x2, u3] [vI t2, vI t1, vI t0] I K := by
  unfold D143_26 at h
  refine G_call (as := [vI t0, vI t1, vI t2]) (rest := []) rc_143_26 rfl rfl rfl (Nat.le_of_ble_eq_true rfl) rfl ?_
  refine GO.imp h (fun v I1 h => ?_)
  obtain ⟨y2, rfl, h⟩ := h
  show GO S0 143 29 [vR 237, vI x1, vI x2, u3] [vI y2] I1 K
  refine G_i1 (C := ¬ y2 = 0) rc_143_29 rfl (fun c3 => ?_) (fun c3 => ?_)
  · rw [if_neg c3] at h
    show GO S0 143 35 [vR 237, vI x1, vI x2, u3] [] I1 K
    refine G_loadR rc_143_35 rfl ?_
    refine G_getR rc_143_36 s0_237 (by decide) rfl (by decide) ?_
    show GO S0 143 39 [vR 237, vI x1, vI x2, u3] [vR 238] I1 K
    refine G_const rc_143_39 (by decide) ?_
    refine G_loadI rc_143_40 rfl ?_
    obtain ⟨c4, h⟩ := h
    refine G_bop (z := 2 + x1) rc_143_41 (if_pos c4) ?_
    show GO S0 143 42 [vR 237, vI x1, vI x2, u3] [vI (2 + x1), vR 238] I1 K
    obtain ⟨c5, h⟩ := h
    refine G_ald rc_143_42 s0_238 (by omega) (by omega) ?_
    show GO S0 143 43 [vR 237, vI x1, vI x2, u3] [vI (I1 238 (2 + x1).toNat)] I1 K
    refine G_storeI rc_143_43 (Nat.le_of_ble_eq_true rfl) ?_
    show GO S0 143 44 [vR 237, vI x1, vI x2, vI (I1 238 (2 + x1).toNat)] [] I1 K
    refine G_loadR rc_143_44 rfl ?_
    refine G_getR rc_143_45 s0_237 (by decide) rfl (by decide) ?_
    show GO S0 143 48 [vR 237, vI x1, vI x2, vI (I1 238 (2 + x1).toNat)] [vR 238] I1 K
    refine G_const rc_143_48 (by decide) ?_
    refine G_loadI rc_143_49 rfl ?_
    refine G_bop (z := 2 + x1) rc_143_50 (if_pos c4) ?_
    show GO S0 143 51 [vR 237, vI x1, vI x2, vI (I1 238 (2 + x1).toNat)] [vI (2 + x1), vR 238] I1 K
    refine G_loadI rc_143_51 rfl ?_
    refine G_ast rc_143_52 s0_238 (by omega) (by omega) (Or.inl rfl) ?_
    show GO S0 143 53 [vR 237, vI x1, vI x2, vI (I1 238 (2 + x1).toNat)] [] (iup I1 238 (2 + x1).toNat x2) K
    have h := h _ rfl
    generalize iup I1 238 (2 + x1).toNat x2 = I6 at h ⊢
    refine G_loadI rc_143_53 rfl ?_
    exact G_retI rc_143_54 (Or.inl rfl) h
  · rw [if_pos (Classical.not_not.mp c3)] at h
    show GO S0 143 32 [vR 237, vI x1, vI x2, u3] [] I1 K
    refine G_const rc_143_32 (by decide) ?_
    exact G_retI rc_143_34 (Or.inl rfl) h
def D143_0 (x1 : Int) (x2 : Int) (I : IM) (K : Option AV → IM → Prop) : Prop :=
  CALL S0 130 [vI x1, vI 0, vI 2] I (fun v I1 => ∃ y2 : Int, v = some (vI y2) ∧ (if y2 = 0 then (K (some (vI (-1))) I1) else ((if x1 = 2 then (D143_26 x1 x2 (vU) x2 0 999 I1 K) else (D143_26 x1 x2 (vU) x2 0 9 I1 K)))))
set_option maxRecDepth 10000 in
theorem g143_0 (x1 : Int) (x2 : Int) (I : IM) (K : Option AV → IM → Prop) (h : D143_0 x1 x2 I K) : GO S0 143 0 [vR 237, vI x1, vI x2, vU] [] I K := by
  unfold D143_0 at h
  refine G_loadI rc_143_0 rfl ?_
  refine G_const rc_143_1 (by decide) ?_
  refine G_const rc_143_2 (by decide) ?_
  refine G_call (as := [vI x1, vI 0, vI 2]) (rest := []) rc_143_3 rfl rfl rfl (Nat.le_of_ble_eq_true rfl) rfl ?_
  refine GO.imp h (fun v I1 h => ?_)
  obtain ⟨y2, rfl, h⟩ := h
  show GO S0 143 6 [vR 237, vI x1, vI x2, vU] [vI y2] I1 K
  refine G_i1 (C := ¬ y2 = 0) rc_143_6 rfl (fun c3 => ?_) (fun c3 => ?_)
  · rw [if_neg c3] at h
    show GO S0 143 11 [vR 237, vI x1, vI x2, vU] [] I1 K
    refine G_loadI rc_143_11 rfl ?_
    refine G_const rc_143_12 (by decide) ?_
    refine G_loadI rc_143_13 rfl ?_
    refine G_const rc_143_14 (by decide) ?_
    refine G_i2 (C := ¬ x1 = 2) rc_143_15 rfl (fun c4 => ?_) (fun c4 => ?_)
    · rw [if_neg c4] at h
      show GO S0 143 24 [vR 237, vI x1, vI x2, vU] [vI 0, vI x2] I1 K
      refine G_const rc_143_24 (by decide) ?_
      exact g143_26 x1 x2 (vU) x2 0 9 I1 K h
    · rw [if_pos (Classical.not_not.mp c4)] at h
      show GO S0 143 18 [vR 237, vI x1, vI x2, vU] [vI 0, vI x2] I1 K
      refine G_const rc_143_18 (by decide) ?_
      refine G_goto rc_143_21 ?_
      show GO S0 143 26 [vR 237, vI x1, vI x2, vU] [vI 999, vI 0, vI x2] I1 K
      exact g143_26 x1 x2 (vU) x2 0 999 I1 K h
  · rw [if_pos (Classical.not_not.mp c3)] at h
    show GO S0 143 9 [vR 237, vI x1, vI x2, vU] [] I1 K
    refine G_const rc_143_9 (by decide) ?_
    exact G_retI rc_143_10 (Or.inl rfl) h
/-! 144: RoundSlackModel.feed(I)I -/
def D144_0 (x1 : Int) (I : IM) (K : Option AV → IM → Prop) : Prop :=
  CALL S0 130 [vI x1, vI 1, vI 127] I (fun v I1 => ∃ y2 : Int, v = some (vI y2) ∧ (if y2 = 0 then (K (some (vI (-2))) I1) else ((if I1 237 16 = 160 then (K (some (vI (-4))) I1) else ((0 ≤ I1 237 16 ∧ I1 237 16 < 160) ∧ ∀ I6 : IM, I6 = iup I1 244 (I1 237 16).toNat x1 → (inR ((I6 237 16) + 1)) ∧ ∀ I8 : IM, I8 = iup I6 237 16 ((I6 237 16) + 1) → K (some (vI (I8 237 16))) I8)))))
set_option maxRecDepth 10000 in
theorem g144_0 (x1 : Int) (I : IM) (K : Option AV → IM → Prop) (h : D144_0 x1 I K) : GO S0 144 0 [vR 237, vI x1] [] I K := by
  unfold D144_0 at h
  refine G_loadI rc_144_0 rfl ?_
  refine G_const rc_144_1 (by decide) ?_
  refine G_const rc_144_2 (by decide) ?_
  refine G_call (as := [vI x1, vI 1, vI 127]) (rest := []) rc_144_4 rfl rfl rfl (Nat.le_of_ble_eq_true rfl) rfl ?_
  refine GO.imp h (fun v I1 h => ?_)
  obtain ⟨y2, rfl, h⟩ := h
  show GO S0 144 7 [vR 237, vI x1] [vI y2] I1 K
  refine G_i1 (C := ¬ y2 = 0) rc_144_7 rfl (fun c3 => ?_) (fun c3 => ?_)
  · rw [if_neg c3] at h
    show GO S0 144 13 [vR 237, vI x1] [] I1 K
    refine G_loadR rc_144_13 rfl ?_
    refine G_getI rc_144_14 s0_237 (by decide) ?_
    show GO S0 144 17 [vR 237, vI x1] [vI (I1 237 16)] I1 K
    refine G_const rc_144_17 (by decide) ?_
    refine G_i2 (C := ¬ I1 237 16 = 160) rc_144_20 rfl (fun c4 => ?_) (fun c4 => ?_)
    · rw [if_neg c4] at h
      show GO S0 144 26 [vR 237, vI x1] [] I1 K
      refine G_loadR rc_144_26 rfl ?_
      refine G_getR rc_144_27 s0_237 (by decide) rfl (by decide) ?_
      show GO S0 144 30 [vR 237, vI x1] [vR 244] I1 K
      refine G_loadR rc_144_30 rfl ?_
      refine G_getI rc_144_31 s0_237 (by decide) ?_
      show GO S0 144 34 [vR 237, vI x1] [vI (I1 237 16), vR 244] I1 K
      refine G_loadI rc_144_34 rfl ?_
      obtain ⟨c5, h⟩ := h
      refine G_ast rc_144_35 s0_244 (by omega) (by omega) (Or.inl rfl) ?_
      show GO S0 144 36 [vR 237, vI x1] [] (iup I1 244 (I1 237 16).toNat x1) K
      have h := h _ rfl
      generalize iup I1 244 (I1 237 16).toNat x1 = I6 at h ⊢
      refine G_loadR rc_144_36 rfl ?_
      refine G_dupR rc_144_37 ?_
      refine G_getI rc_144_38 s0_237 (by decide) ?_
      show GO S0 144 41 [vR 237, vI x1] [vI (I6 237 16), vR 237] I6 K
      refine G_const rc_144_41 (by decide) ?_
      obtain ⟨c7, h⟩ := h
      refine G_bop (z := (I6 237 16) + 1) rc_144_42 (if_pos c7) ?_
      show GO S0 144 43 [vR 237, vI x1] [vI ((I6 237 16) + 1), vR 237] I6 K
      refine G_putI rc_144_43 s0_237 (by decide) (Or.inl rfl) ?_
      show GO S0 144 46 [vR 237, vI x1] [] (iup I6 237 16 ((I6 237 16) + 1)) K
      have h := h _ rfl
      generalize iup I6 237 16 ((I6 237 16) + 1) = I8 at h ⊢
      refine G_loadR rc_144_46 rfl ?_
      refine G_getI rc_144_47 s0_237 (by decide) ?_
      show GO S0 144 50 [vR 237, vI x1] [vI (I8 237 16)] I8 K
      exact G_retI rc_144_50 (Or.inl rfl) h
    · rw [if_pos (Classical.not_not.mp c4)] at h
      show GO S0 144 23 [vR 237, vI x1] [] I1 K
      refine G_const rc_144_23 (by decide) ?_
      exact G_retI rc_144_25 (Or.inl rfl) h
  · rw [if_pos (Classical.not_not.mp c3)] at h
    show GO S0 144 10 [vR 237, vI x1] [] I1 K
    refine G_const rc_144_10 (by decide) ?_
    exact G_retI rc_144_12 (Or.inl rfl) h
/-! 145: RoundSlackModel.clear()I -/
def D145_0 (I : IM) (K : Option AV → IM → Prop) : Prop :=
  ∀ I1 : IM, I1 = iup I 237 16 0 → K (some (vI (I 237 16))) I1
set_option maxRecDepth 10000 in
theorem g145_0 (I : IM) (K : Option AV → IM → Prop) (h : D145_0 I K) : GO S0 145 0 [vR 237, vU] [] I K := by
  unfold D145_0 at h
  refine G_loadR rc_145_0 rfl ?_
  refine G_getI rc_145_1 s0_237 (by decide) ?_
  show GO S0 145 4 [vR 237, vU] [vI (I 237 16)] I K
  refine G_storeI rc_145_4 (Nat.le_of_ble_eq_true rfl) ?_
  show GO S0 145 5 [vR 237, vI (I 237 16)] [] I K
  refine G_loadR rc_145_5 rfl ?_
  refine G_const rc_145_6 (by decide) ?_
  refine G_putI rc_145_7 s0_237 (by decide) (Or.inl rfl) ?_
  show GO S0 145 10 [vR 237, vI (I 237 16)] [] (iup I 237 16 0) K
  have h := h _ rfl
  generalize iup I 237 16 0 = I1 at h ⊢
  refine G_loadI rc_145_10 rfl ?_
  exact G_retI rc_145_11 (Or.inl rfl) h
/-! 146: RoundSlackModel.orders()I -/
def D146_79 (x1 : Int) (x2 : Int) (x3 : Int) (I : IM) (K : Option AV → IM → Prop) : Prop :=
  (inR (7 * x1)) ∧ (if 7 * x1 ≤ x3 then (CALL S0 133 [vR 237, vI x1] I (fun v I3 => ∃ y4 : Int, v = some (vI y4) ∧ K (some (vI y4)) I3)) else ((0 ≤ x3 ∧ x3 < 140) ∧ (inR (x3 + 1)) ∧ (0 ≤ x3 + 1 ∧ x3 + 1 < 140) ∧ (inR (x3 + 2)) ∧ (0 ≤ x3 + 2 ∧ x3 + 2 < 140) ∧ (inR (x3 + 3)) ∧ (0 ≤ x3 + 3 ∧ x3 + 3 < 140) ∧ (inR (x3 + 4)) ∧ (0 ≤ x3 + 4 ∧ x3 + 4 < 140) ∧ (inR (x3 + 5)) ∧ (0 ≤ x3 + 5 ∧ x3 + 5 < 140) ∧ (inR (x3 + 6)) ∧ (0 ≤ x3 + 6 ∧ x3 + 6 < 140) ∧ CALL S0 135 [vR 237, vI (I 245 (x3).toNat), vI (I 245 (x3 + 1).toNat), vI (I 245 (x3 + 2).toNat), vI (I 245 (x3 + 3).toNat), vI (I 245 (x3 + 4).toNat), vI (I 245 (x3 + 5).toNat), vI (I 245 (x3 + 6).toNat)] I (fun v I18 => v = none ∧ (inR (x3 + 7)) ∧ GO S0 146 79 [vR 237, vI x1, vI x2, vI (x3 + 7)] [] I18 K)))
set_option maxRecDepth 10000 in
theorem g146_79 (x1 : Int) (x2 : Int) (x3 : Int) (I : IM) (K : Option AV → IM → Prop) (h : D146_79 x1 x2 x3 I K) : GO S0 146 79 [vR 237, vI x1, vI x2, vI x3] [] I K := by
  unfold D146_79 at h
  refine G_loadI rc_146_79 rfl ?_
  refine G_const rc_146_80 (by decide) ?_
  refine G_loadI rc_146_82 rfl ?_
  obtain ⟨c1, h⟩ := h
  refine G_bop (z := 7 * x1) rc_146_83 (if_pos c1) ?_
  show GO S0 146 84 [vR 237, vI x1, vI x2, vI x3] [vI (7 * x1), vI x3] I K
  refine G_i2 (C := 7 * x1 ≤ x3) rc_146_84 rfl (fun c2 => ?_) (fun c2 => ?_)
  · rw [if_pos c2] at h
    show GO S0 146 152 [vR 237, vI x1, vI x2, vI x3] [] I K
    refine G_loadR rc_146_152 rfl ?_
    refine G_loadI rc_146_153 rfl ?_
    refine G_call (as := [vR 237, vI x1]) (rest := []) rc_146_154 rfl rfl rfl (Nat.le_of_ble_eq_true rfl) (g_recv s0_237 rfl) ?_
    refine GO.imp h (fun v I3 h => ?_)
    obtain ⟨y4, rfl, h⟩ := h
    show GO S0 146 157 [vR 237, vI x1, vI x2, vI x3] [vI y4] I3 K
    exact G_retI rc_146_157 (Or.inl rfl) h
  · rw [if_neg c2] at h
    show GO S0 146 87 [vR 237, vI x1, vI x2, vI x3] [] I K
    refine G_loadR rc_146_87 rfl ?_
    refine G_loadR rc_146_88 rfl ?_
    refine G_getR rc_146_89 s0_237 (by decide) rfl (by decide) ?_
    show GO S0 146 92 [vR 237, vI x1, vI x2, vI x3] [vR 245, vR 237] I K
    refine G_loadI rc_146_92 rfl ?_
    obtain ⟨c5, h⟩ := h
    refine G_ald rc_146_93 s0_245 (by omega) (by omega) ?_
    show GO S0 146 94 [vR 237, vI x1, vI x2, vI x3] [vI (I 245 (x3).toNat), vR 237] I K
    refine G_loadR rc_146_94 rfl ?_
    refine G_getR rc_146_95 s0_237 (by decide) rfl (by decide) ?_
    show GO S0 146 98 [vR 237, vI x1, vI x2, vI x3] [vR 245, vI (I 245 (x3).toNat), vR 237] I K
    refine G_loadI rc_146_98 rfl ?_
    refine G_const rc_146_99 (by decide) ?_
    obtain ⟨c6, h⟩ := h
    refine G_bop (z := x3 + 1) rc_146_100 (if_pos c6) ?_
    show GO S0 146 101 [vR 237, vI x1, vI x2, vI x3] [vI (x3 + 1), vR 245, vI (I 245 (x3).toNat), vR 237] I K
    obtain ⟨c7, h⟩ := h
    refine G_ald rc_146_101 s0_245 (by omega) (by omega) ?_
    show GO S0 146 102 [vR 237, vI x1, vI x2, vI x3] [vI (I 245 (x3 + 1).toNat), vI (I 245 (x3).toNat), vR 237] I K
    refine G_loadR rc_146_102 rfl ?_
    refine G_getR rc_146_103 s0_237 (by decide) rfl (by decide) ?_
    show GO S0 146 106 [vR 237, vI x1, vI x2, vI x3] [vR 245, vI (I 245 (x3 + 1).toNat), vI (I 245 (x3).toNat), vR 237] I K
    refine G_loadI rc_146_106 rfl ?_
    refine G_const rc_146_107 (by decide) ?_
    obtain ⟨c8, h⟩ := h
    refine G_bop (z := x3 + 2) rc_146_108 (if_pos c8) ?_
    show GO S0 146 109 [vR 237, vI x1, vI x2, vI x3] [vI (x3 + 2), vR 245, vI (I 245 (x3 + 1).toNat), vI (I 245 (x3).toNat), vR 237] I K
    obtain ⟨c9, h⟩ := h
    refine G_ald rc_146_109 s0_245 (by omega) (by omega) ?_
    show GO S0 146 110 [vR 237, vI x1, vI x2, vI x3] [vI (I 245 (x3 + 2).toNat), vI (I 245 (x3 + 1).toNat), vI (I 245 (x3).toNat), vR 237] I K
    refine G_loadR rc_146_110 rfl ?_
    refine G_getR rc_146_111 s0_237 (by decide) rfl (by decide) ?_
    show GO S0 146 114 [vR 237, vI x1, vI x2, vI x3] [vR 245, vI (I 245 (x3 + 2).toNat), vI (I 245 (x3 + 1).toNat), vI (I 245 (x3).toNat), vR 237] I K
    refine G_loadI rc_146_114 rfl ?_
    refine G_const rc_146_115 (by decide) ?_
    obtain ⟨c10, h⟩ := h
    refine G_bop (z := x3 + 3) rc_146_116 (if_pos c10) ?_
    show GO S0 146 117 [vR 237, vI x1, vI x2, vI x3] [vI (x3 + 3), vR 245, vI (I 245 (x3 + 2).toNat), vI (I 245 (x3 + 1).toNat), vI (I 245 (x3).toNat), vR 237] I K
    obtain ⟨c11, h⟩ := h
    refine G_ald rc_146_117 s0_245 (by omega) (by omega) ?_
    show GO S0 146 118 [vR 237, vI x1, vI x2, vI x3] [vI (I 245 (x3 + 3).toNat), vI (I 245 (x3 + 2).toNat), vI (I 245 (x3 + 1).toNat), vI (I 245 (x3).toNat), vR 237] I K
    refine G_loadR rc_146_118 rfl ?_
    refine G_getR rc_146_119 s0_237 (by decide) rfl (by decide) ?_
    show GO S0 146 122 [vR 237, vI x1, vI x2, vI x3] [vR 245, vI (I 245 (x3 + 3).toNat), vI (I 245 (x3 + 2).toNat), vI (I 245 (x3 + 1).toNat), vI (I 245 (x3).toNat), vR 237] I K
    refine G_loadI rc_146_122 rfl ?_
    refine G_const rc_146_123 (by decide) ?_
    obtain ⟨c12, h⟩ := h
    refine G_bop (z := x3 + 4) rc_146_124 (if_pos c12) ?_
    show GO S0 146 125 [vR 237, vI x1, vI x2, vI x3] [vI (x3 + 4), vR 245, vI (I 245 (x3 + 3).toNat), vI (I 245 (x3 + 2).toNat), vI (I 245 (x3 + 1).toNat), vI (I 245 (x3).toNat), vR 237] I K
    obtain ⟨c13, h⟩ := h
    refine G_ald rc_146_125 s0_245 (by omega) (by omega) ?_
    show GO S0 146 126 [vR 237, vI x1, vI x2, vI x3] [vI (I 245 (x3 + 4).toNat), vI (I 245 (x3 + 3).toNat), vI (I 245 (x3 + 2).toNat), vI (I 245 (x3 + 1).toNat), vI (I 245 (x3).toNat), vR 237] I K
    refine G_loadR rc_146_126 rfl ?_
    refine G_getR rc_146_127 s0_237 (by decide) rfl (by decide) ?_
    show GO S0 146 130 [vR 237, vI x1, vI x2, vI x3] [vR 245, vI (I 245 (x3 + 4).toNat), vI (I 245 (x3 + 3).toNat), vI (I 245 (x3 + 2).toNat), vI (I 245 (x3 + 1).toNat), vI (I 245 (x3).toNat), vR 237] I K
    refine G_loadI rc_146_130 rfl ?_
    refine G_const rc_146_131 (by decide) ?_
    obtain ⟨c14, h⟩ := h
    refine G_bop (z := x3 + 5) rc_146_132 (if_pos c14) ?_
    show GO S0 146 133 [vR 237, vI x1, vI x2, vI x3] [vI (x3 + 5), vR 245, vI (I 245 (x3 + 4).toNat), vI (I 245 (x3 + 3).toNat), vI (I 245 (x3 + 2).toNat), vI (I 245 (x3 + 1).toNat), vI (I 245 (x3).toNat), vR 237] I K
    obtain ⟨c15, h⟩ := h
    refine G_ald rc_146_133 s0_245 (by omega) (by omega) ?_
    show GO S0 146 134 [vR 237, vI x1, vI x2, vI x3] [vI (I 245 (x3 + 5).toNat), vI (I 245 (x3 + 4).toNat), vI (I 245 (x3 + 3).toNat), vI (I 245 (x3 + 2).toNat), vI (I 245 (x3 + 1).toNat), vI (I 245 (x3).toNat), vR 237] I K
    refine G_loadR rc_146_134 rfl ?_
    refine G_getR rc_146_135 s0_237 (by decide) rfl (by decide) ?_
    show GO S0 146 138 [vR 237, vI x1, vI x2, vI x3] [vR 245, vI (I 245 (x3 + 5).toNat), vI (I 245 (x3 + 4).toNat), vI (I 245 (x3 + 3).toNat), vI (I 245 (x3 + 2).toNat), vI (I 245 (x3 + 1).toNat), vI (I 245 (x3).toNat), vR 237] I K
    refine G_loadI rc_146_138 rfl ?_
    refine G_const rc_146_139 (by decide) ?_
    obtain ⟨c16, h⟩ := h
    refine G_bop (z := x3 + 6) rc_146_141 (if_pos c16) ?_
    show GO S0 146 142 [vR 237, vI x1, vI x2, vI x3] [vI (x3 + 6), vR 245, vI (I 245 (x3 + 5).toNat), vI (I 245 (x3 + 4).toNat), vI (I 245 (x3 + 3).toNat), vI (I 245 (x3 + 2).toNat), vI (I 245 (x3 + 1).toNat), vI (I 245 (x3).toNat), vR 237] I K
    obtain ⟨c17, h⟩ := h
    refine G_ald rc_146_142 s0_245 (by omega) (by omega) ?_
    show GO S0 146 143 [vR 237, vI x1, vI x2, vI x3] [vI (I 245 (x3 + 6).toNat), vI (I 245 (x3 + 5).toNat), vI (I 245 (x3 + 4).toNat), vI (I 245 (x3 + 3).toNat), vI (I 245 (x3 + 2).toNat), vI (I 245 (x3 + 1).toNat), vI (I 245 (x3).toNat), vR 237] I K
    refine G_call (as := [vR 237, vI (I 245 (x3).toNat), vI (I 245 (x3 + 1).toNat), vI (I 245 (x3 + 2).toNat), vI (I 245 (x3 + 3).toNat), vI (I 245 (x3 + 4).toNat), vI (I 245 (x3 + 5).toNat), vI (I 245 (x3 + 6).toNat)]) (rest := []) rc_146_143 rfl rfl rfl (Nat.le_of_ble_eq_true rfl) (g_recv s0_237 rfl) ?_
    refine GO.imp h (fun v I18 h => ?_)
    obtain ⟨rfl, h⟩ := h
    show GO S0 146 146 [vR 237, vI x1, vI x2, vI x3] [] I18 K
    obtain ⟨c19, h⟩ := h
    refine G_iinc rc_146_146 rfl c19 ?_
    show GO S0 146 149 [vR 237, vI x1, vI x2, vI (x3 + 7)] [] I18 K
    refine G_goto rc_146_149 ?_
    show GO S0 146 79 [vR 237, vI x1, vI x2, vI (x3 + 7)] [] I18 K
    exact h
def D146_44 (x1 : Int) (x2 : Int) (u3 : AV) (I : IM) (K : Option AV → IM → Prop) : Prop :=
  ∀ I1 : IM, I1 = iup I 237 16 0 → (if x2 = 0 then ((inR ((-100) - (I1 237 17))) ∧ K (some (vI ((-100) - (I1 237 17)))) I1) else ((inR ((I1 238 5) + x1)) ∧ (if (I1 238 5) + x1 ≤ 12 then (GO S0 146 79 [vR 237, vI x1, vI x2, vI 0] [] I1 K) else (K (some (vI (-4))) I1))))
set_option maxRecDepth 10000 in
theorem g146_44 (x1 : Int) (x2 : Int) (u3 : AV) (I : IM) (K : Option AV → IM → Prop) (h : D146_44 x1 x2 u3 I K) : GO S0 146 44 [vR 237, vI x1, vI x2, u3] [] I K := by
  unfold D146_44 at h
  refine G_loadR rc_146_44 rfl ?_
  refine G_const rc_146_45 (by decide) ?_
  refine G_putI rc_146_46 s0_237 (by decide) (Or.inl rfl) ?_
  show GO S0 146 49 [vR 237, vI x1, vI x2, u3] [] (iup I 237 16 0) K
  have h := h _ rfl
  generalize iup I 237 16 0 = I1 at h ⊢
  refine G_loadI rc_146_49 rfl ?_
  refine G_i1 (C := ¬ x2 = 0) rc_146_50 rfl (fun c2 => ?_) (fun c2 => ?_)
  · rw [if_neg c2] at h
    show GO S0 146 61 [vR 237, vI x1, vI x2, u3] [] I1 K
    refine G_loadR rc_146_61 rfl ?_
    refine G_getR rc_146_62 s0_237 (by decide) rfl (by decide) ?_
    show GO S0 146 65 [vR 237, vI x1, vI x2, u3] [vR 238] I1 K
    refine G_const rc_146_65 (by decide) ?_
    refine G_ald rc_146_66 s0_238 (by decide) (by decide) ?_
    show GO S0 146 67 [vR 237, vI x1, vI x2, u3] [vI (I1 238 5)] I1 K
    refine G_loadI rc_146_67 rfl ?_
    obtain ⟨c3, h⟩ := h
    refine G_bop (z := (I1 238 5) + x1) rc_146_68 (if_pos c3) ?_
    show GO S0 146 69 [vR 237, vI x1, vI x2, u3] [vI ((I1 238 5) + x1)] I1 K
    refine G_const rc_146_69 (by decide) ?_
    refine G_i2 (C := (I1 238 5) + x1 ≤ 12) rc_146_71 rfl (fun c4 => ?_) (fun c4 => ?_)
    · rw [if_pos c4] at h
      show GO S0 146 77 [vR 237, vI x1, vI x2, u3] [] I1 K
      refine G_const rc_146_77 (by decide) ?_
      refine G_storeI rc_146_78 (Nat.le_of_ble_eq_true rfl) ?_
      show GO S0 146 79 [vR 237, vI x1, vI x2, vI 0] [] I1 K
      exact h
    · rw [if_neg c4] at h
      show GO S0 146 74 [vR 237, vI x1, vI x2, u3] [] I1 K
      refine G_const rc_146_74 (by decide) ?_
      exact G_retI rc_146_76 (Or.inl rfl) h
  · rw [if_pos (Classical.not_not.mp c2)] at h
    show GO S0 146 53 [vR 237, vI x1, vI x2, u3] [] I1 K
    refine G_const rc_146_53 (by decide) ?_
    refine G_loadR rc_146_55 rfl ?_
    refine G_getI rc_146_56 s0_237 (by decide) ?_
    show GO S0 146 59 [vR 237, vI x1, vI x2, u3] [vI (I1 237 17), vI (-100)] I1 K
    obtain ⟨c5, h⟩ := h
    refine G_bop (z := (-100) - (I1 237 17)) rc_146_59 (if_pos c5) ?_
    show GO S0 146 60 [vR 237, vI x1, vI x2, u3] [vI ((-100) - (I1 237 17))] I1 K
    exact G_retI rc_146_60 (Or.inl rfl) h
def D146_13 (x1 : Int) (x2 : Int) (u3 : AV) (I : IM) (K : Option AV → IM → Prop) : Prop :=
  (if x2 = 0 then (D146_44 x1 x2 (u3) I K) else ((inR (x1 + 1)) ∧ CALL S0 151 [vR 237, vI 59] I (fun v I3 => ∃ y4 : Int, v = some (vI y4) ∧ (if y4 = 0 then (D146_44 (x1 + 1) x2 (u3) I3 K) else ((inR (7 * (x1 + 1))) ∧ CALL S0 147 [vR 237, vI (7 * (x1 + 1))] I3 (fun v I7 => ∃ y8 : Int, v = some (vI y8) ∧ GO S0 146 13 [vR 237, vI (x1 + 1), vI y8, u3] [] I7 K))))))
set_option maxRecDepth 10000 in
theorem g146_13 (x1 : Int) (x2 : Int) (u3 : AV) (I : IM) (K : Option AV → IM → Prop) (h : D146_13 x1 x2 u3 I K) : GO S0 146 13 [vR 237, vI x1, vI x2, u3] [] I K := by
  unfold D146_13 at h
  refine G_loadI rc_146_13 rfl ?_
  refine G_i1 (C := x2 = 0) rc_146_14 rfl (fun c1 => ?_) (fun c1 => ?_)
  · rw [if_pos c1] at h
    show GO S0 146 44 [vR 237, vI x1, vI x2, u3] [] I K
    exact g146_44 x1 x2 (u3) I K h
  · rw [if_neg c1] at h
    show GO S0 146 17 [vR 237, vI x1, vI x2, u3] [] I K
    obtain ⟨c2, h⟩ := h
    refine G_iinc rc_146_17 rfl c2 ?_
    show GO S0 146 20 [vR 237, vI (x1 + 1), vI x2, u3] [] I K
    refine G_loadR rc_146_20 rfl ?_
    refine G_const rc_146_21 (by decide) ?_
    refine G_call (as := [vR 237, vI 59]) (rest := []) rc_146_23 rfl rfl rfl (Nat.le_of_ble_eq_true rfl) (g_recv s0_237 rfl) ?_
    refine GO.imp h (fun v I3 h => ?_)
    obtain ⟨y4, rfl, h⟩ := h
    show GO S0 146 26 [vR 237, vI (x1 + 1), vI x2, u3] [vI y4] I3 K
    refine G_i1 (C := ¬ y4 = 0) rc_146_26 rfl (fun c5 => ?_) (fun c5 => ?_)
    · rw [if_neg c5] at h
      show GO S0 146 32 [vR 237, vI (x1 + 1), vI x2, u3] [] I3 K
      refine G_loadR rc_146_32 rfl ?_
      refine G_const rc_146_33 (by decide) ?_
      refine G_loadI rc_146_35 rfl ?_
      obtain ⟨c6, h⟩ := h
      refine G_bop (z := 7 * (x1 + 1)) rc_146_36 (if_pos c6) ?_
      show GO S0 146 37 [vR 237, vI (x1 + 1), vI x2, u3] [vI (7 * (x1 + 1)), vR 237] I3 K
      refine G_call (as := [vR 237, vI (7 * (x1 + 1))]) (rest := []) rc_146_37 rfl rfl rfl (Nat.le_of_ble_eq_true rfl) (g_recv s0_237 rfl) ?_
      refine GO.imp h (fun v I7 h => ?_)
      obtain ⟨y8, rfl, h⟩ := h
      show GO S0 146 40 [vR 237, vI (x1 + 1), vI x2, u3] [vI y8] I7 K
      refine G_storeI rc_146_40 (Nat.le_of_ble_eq_true rfl) ?_
      show GO S0 146 41 [vR 237, vI (x1 + 1), vI y8, u3] [] I7 K
      refine G_goto rc_146_41 ?_
      show GO S0 146 13 [vR 237, vI (x1 + 1), vI y8, u3] [] I7 K
      exact h
    · rw [if_pos (Classical.not_not.mp c5)] at h
      show GO S0 146 29 [vR 237, vI (x1 + 1), vI x2, u3] [] I3 K
      refine G_goto rc_146_29 ?_
      show GO S0 146 44 [vR 237, vI (x1 + 1), vI x2, u3] [] I3 K
      exact g146_44 (x1 + 1) x2 (u3) I3 K h
def D146_0 (I : IM) (K : Option AV → IM → Prop) : Prop :=
  ∀ I1 : IM, I1 = iup I 237 17 0 → CALL S0 147 [vR 237, vI 0] I1 (fun v I2 => ∃ y3 : Int, v = some (vI y3) ∧ GO S0 146 13 [vR 237, vI 0, vI y3, vU] [] I2 K)
set_option maxRecDepth 10000 in
theorem g146_0 (I : IM) (K : Option AV → IM → Prop) (h : D146_0 I K) : GO S0 146 0 [vR 237, vU, vU, vU] [] I K := by
  unfold D146_0 at h
  refine G_loadR rc_146_0 rfl ?_
  refine G_const rc_146_1 (by decide) ?_
  refine G_putI rc_146_2 s0_237 (by decide) (Or.inl rfl) ?_
  show GO S0 146 5 [vR 237, vU, vU, vU] [] (iup I 237 17 0) K
  have h := h _ rfl
  generalize iup I 237 17 0 = I1 at h ⊢
  refine G_const rc_146_5 (by decide) ?_
  refine G_storeI rc_146_6 (Nat.le_of_ble_eq_true rfl) ?_
  show GO S0 146 7 [vR 237, vI 0, vU, vU] [] I1 K
  refine G_loadR rc_146_7 rfl ?_
  refine G_const rc_146_8 (by decide) ?_
  refine G_call (as := [vR 237, vI 0]) (rest := []) rc_146_9 rfl rfl rfl (Nat.le_of_ble_eq_true rfl) (g_recv s0_237 rfl) ?_
  refine GO.imp h (fun v I2 h => ?_)
  obtain ⟨y3, rfl, h⟩ := h
  show GO S0 146 12 [vR 237, vI 0, vU, vU] [vI y3] I2 K
  refine G_storeI rc_146_12 (Nat.le_of_ble_eq_true rfl) ?_
  show GO S0 146 13 [vR 237, vI 0, vI y3, vU] [] I2 K
  exact h
/-! 147: RoundSlackModel.readsOrder(I)Z -/
def D147_180 (x1 : Int) (I : IM) (K : Option AV → IM → Prop) : Prop :=
  (if I 237 17 = I 237 16 then (K (some (vI 1)) I) else (CALL S0 150 [vR 237] I (fun v I2 => ∃ y3 : Int, v = some (vI y3) ∧ (if y3 = 59 then (K (some (vI 1)) I2) else (K (some (vI 0)) I2)))))
set_option maxRecDepth 10000 in
theorem g147_180 (x1 : Int) (I : IM) (K : Option AV → IM → Prop) (h : D147_180 x1 I K) : GO S0 147 180 [vR 237, vI x1] [] I K := by
  unfold D147_180 at h
  refine G_loadR rc_147_180 rfl ?_
  refine G_getI rc_147_181 s0_237 (by decide) ?_
  show GO S0 147 184 [vR 237, vI x1] [vI (I 237 17)] I K
  refine G_loadR rc_147_184 rfl ?_
  refine G_getI rc_147_185 s0_237 (by decide) ?_
  show GO S0 147 188 [vR 237, vI x1] [vI (I 237 16), vI (I 237 17)] I K
  refine G_i2 (C := I 237 17 = I 237 16) rc_147_188 rfl (fun c1 => ?_) (fun c1 => ?_)
  · rw [if_pos c1] at h
    show GO S0 147 200 [vR 237, vI x1] [] I K
    refine G_const rc_147_200 (by decide) ?_
    refine G_goto rc_147_201 ?_
    show GO S0 147 205 [vR 237, vI x1] [vI 1] I K
    exact G_retI rc_147_205 (Or.inr (by decide)) h
  · rw [if_neg c1] at h
    show GO S0 147 191 [vR 237, vI x1] [] I K
    refine G_loadR rc_147_191 rfl ?_
    refine G_call (as := [vR 237]) (rest := []) rc_147_192 rfl rfl rfl (Nat.le_of_ble_eq_true rfl) (g_recv s0_237 rfl) ?_
    refine GO.imp h (fun v I2 h => ?_)
    obtain ⟨y3, rfl, h⟩ := h
    show GO S0 147 195 [vR 237, vI x1] [vI y3] I2 K
    refine G_const rc_147_195 (by decide) ?_
    refine G_i2 (C := ¬ y3 = 59) rc_147_197 rfl (fun c4 => ?_) (fun c4 => ?_)
    · rw [if_neg c4] at h
      show GO S0 147 204 [vR 237, vI x1] [] I2 K
      refine G_const rc_147_204 (by decide) ?_
      exact G_retI rc_147_205 (Or.inr (by decide)) h
    · rw [if_pos (Classical.not_not.mp c4)] at h
      show GO S0 147 200 [vR 237, vI x1] [] I2 K
      refine G_const rc_147_200 (by decide) ?_
      refine G_goto rc_147_201 ?_
      show GO S0 147 205 [vR 237, vI x1] [vI 1] I2 K
      exact G_retI rc_147_205 (Or.inr (by decide)) h
def D147_155 (x1 : Int) (I : IM) (K : Option AV → IM → Prop) : Prop :=
  CALL S0 151 [vR 237, vI 117] I (fun v I1 => ∃ y2 : Int, v = some (vI y2) ∧ (if y2 = 0 then (D147_180 x1 I1 K) else ((inR (x1 + 6)) ∧ CALL S0 148 [vR 237, vI (x1 + 6), vI 0, vI 50] I1 (fun v I5 => ∃ y6 : Int, v = some (vI y6) ∧ (if y6 = 0 then (K (some (vI 0)) I5) else (D147_180 x1 I5 K))))))
set_option maxRecDepth 10000 in
theorem g147_155 (x1 : Int) (I : IM) (K : Option AV → IM → Prop) (h : D147_155 x1 I K) : GO S0 147 155 [vR 237, vI x1] [] I K := by
  unfold D147_155 at h
  refine G_loadR rc_147_155 rfl ?_
  refine G_const rc_147_156 (by decide) ?_
  refine G_call (as := [vR 237, vI 117]) (rest := []) rc_147_158 rfl rfl rfl (Nat.le_of_ble_eq_true rfl) (g_recv s0_237 rfl) ?_
  refine GO.imp h (fun v I1 h => ?_)
  obtain ⟨y2, rfl, h⟩ := h
  show GO S0 147 161 [vR 237, vI x1] [vI y2] I1 K
  refine G_i1 (C := y2 = 0) rc_147_161 rfl (fun c3 => ?_) (fun c3 => ?_)
  · rw [if_pos c3] at h
    show GO S0 147 180 [vR 237, vI x1] [] I1 K
    exact g147_180 x1 I1 K h
  · rw [if_neg c3] at h
    show GO S0 147 164 [vR 237, vI x1] [] I1 K
    refine G_loadR rc_147_164 rfl ?_
    refine G_loadI rc_147_165 rfl ?_
    refine G_const rc_147_166 (by decide) ?_
    obtain ⟨c4, h⟩ := h
    refine G_bop (z := x1 + 6) rc_147_168 (if_pos c4) ?_
    show GO S0 147 169 [vR 237, vI x1] [vI (x1 + 6), vR 237] I1 K
    refine G_const rc_147_169 (by decide) ?_
    refine G_const rc_147_170 (by decide) ?_
    refine G_call (as := [vR 237, vI (x1 + 6), vI 0, vI 50]) (rest := []) rc_147_172 rfl rfl rfl (Nat.le_of_ble_eq_true rfl) (g_recv s0_237 rfl) ?_
    refine GO.imp h (fun v I5 h => ?_)
    obtain ⟨y6, rfl, h⟩ := h
    show GO S0 147 175 [vR 237, vI x1] [vI y6] I5 K
    refine G_i1 (C := ¬ y6 = 0) rc_147_175 rfl (fun c7 => ?_) (fun c7 => ?_)
    · rw [if_neg c7] at h
      show GO S0 147 180 [vR 237, vI x1] [] I5 K
      exact g147_180 x1 I5 K h
    · rw [if_pos (Classical.not_not.mp c7)] at h
      show GO S0 147 178 [vR 237, vI x1] [] I5 K
      refine G_const rc_147_178 (by decide) ?_
      exact G_retI rc_147_179 (Or.inr (by decide)) h
def D147_0 (x1 : Int) (I : IM) (K : Option AV → IM → Prop) : Prop :=
  CALL S0 148 [vR 237, vI x1, vI 0, vI 40] I (fun v I1 => ∃ y2 : Int, v = some (vI y2) ∧ (if y2 = 0 then (K (some (vI 0)) I1) else (CALL S0 151 [vR 237, vI 44] I1 (fun v I4 => ∃ y5 : Int, v = some (vI y5) ∧ (if y5 = 0 then (K (some (vI 0)) I4) else ((inR (x1 + 1)) ∧ CALL S0 148 [vR 237, vI (x1 + 1), vI 0, vI 40] I4 (fun v I8 => ∃ y9 : Int, v = some (vI y9) ∧ (if y9 = 0 then (K (some (vI 0)) I8) else (CALL S0 151 [vR 237, vI 64] I8 (fun v I11 => ∃ y12 : Int, v = some (vI y12) ∧ (if y12 = 0 then (K (some (vI 0)) I11) else ((inR (x1 + 2)) ∧ CALL S0 148 [vR 237, vI (x1 + 2), vI 0, vI 600] I11 (fun v I15 => ∃ y16 : Int, v = some (vI y16) ∧ (if y16 = 0 then (K (some (vI 0)) I15) else (CALL S0 151 [vR 237, vI 45] I15 (fun v I18 => ∃ y19 : Int, v = some (vI y19) ∧ (if y19 = 0 then (K (some (vI 0)) I18) else ((inR (x1 + 3)) ∧ (0 ≤ x1 + 2 ∧ x1 + 2 < 140) ∧ CALL S0 148 [vR 237, vI (x1 + 3), vI (I18 245 (x1 + 2).toNat), vI 600] I18 (fun v I23 => ∃ y24 : Int, v = some (vI y24) ∧ (if y24 = 0 then (K (some (vI 0)) I23) else (CALL S0 151 [vR 237, vI 47] I23 (fun v I26 => ∃ y27 : Int, v = some (vI y27) ∧ (if y27 = 0 then (K (some (vI 0)) I26) else ((inR (x1 + 4)) ∧ CALL S0 148 [vR 237, vI (x1 + 4), vI 0, vI 60] I26 (fun v I30 => ∃ y31 : Int, v = some (vI y31) ∧ (if y31 = 0 then (K (some (vI 0)) I30) else ((inR (x1 + 5)) ∧ (0 ≤ x1 + 5 ∧ x1 + 5 < 140) ∧ ∀ I35 : IM, I35 = iup I30 245 (x1 + 5).toNat 0 → (inR (x1 + 6)) ∧ (0 ≤ x1 + 6 ∧ x1 + 6 < 140) ∧ ∀ I38 : IM, I38 = iup I35 245 (x1 + 6).toNat 0 → CALL S0 151 [vR 237, vI 100] I38 (fun v I39 => ∃ y40 : Int, v = some (vI y40) ∧ (if y40 = 0 then (D147_155 x1 I39 K) else (CALL S0 148 [vR 237, vI (x1 + 5), vI 0, vI 50] I39 (fun v I42 => ∃ y43 : Int, v = some (vI y43) ∧ (if y43 = 0 then (K (some (vI 0)) I42) else (D147_155 x1 I42 K)))))))))))))))))))))))))))))))))
set_option maxRecDepth 10000 in
theorem g147_0 (x1 : Int) (I : IM) (K : Option AV → IM → Prop) (h : D147_0 x1 I K) : GO S0 147 0 [vR 237, vI x1] [] I K := by
  unfold D147_0 at h
  refine G_loadR rc_147_0 rfl ?_
  refine G_loadI rc_147_1 rfl ?_
  refine G_const rc_147_2 (by decide) ?_
  refine G_const rc_147_3 (by decide) ?_
  refine G_call (as := [vR 237, vI x1, vI 0, vI 40]) (rest := []) rc_147_5 rfl rfl rfl (Nat.le_of_ble_eq_true rfl) (g_recv s0_237 rfl) ?_
  refine GO.imp h (fun v I1 h => ?_)
  obtain ⟨y2, rfl, h⟩ := h
  show GO S0 147 8 [vR 237, vI x1] [vI y2] I1 K
  refine G_i1 (C := y2 = 0) rc_147_8 rfl (fun c3 => ?_) (fun c3 => ?_)
  · rw [if_pos c3] at h
    show GO S0 147 42 [vR 237, vI x1] [] I1 K
    refine G_const rc_147_42 (by decide) ?_
    exact G_retI rc_147_43 (Or.inr (by decide)) h
  · rw [if_neg c3] at h
    show GO S0 147 11 [vR 237, vI x1] [] I1 K
    refine G_loadR rc_147_11 rfl ?_
    refine G_const rc_147_12 (by decide) ?_
    refine G_call (as := [vR 237, vI 44]) (rest := []) rc_147_14 rfl rfl rfl (Nat.le_of_ble_eq_true rfl) (g_recv s0_237 rfl) ?_
    refine GO.imp h (fun v I4 h => ?_)
    obtain ⟨y5, rfl, h⟩ := h
    show GO S0 147 17 [vR 237, vI x1] [vI y5] I4 K
    refine G_i1 (C := y5 = 0) rc_147_17 rfl (fun c6 => ?_) (fun c6 => ?_)
    · rw [if_pos c6] at h
      show GO S0 147 42 [vR 237, vI x1] [] I4 K
      refine G_const rc_147_42 (by decide) ?_
      exact G_retI rc_147_43 (Or.inr (by decide)) h
    · rw [if_neg c6] at h
      show GO S0 147 20 [vR 237, vI x1] [] I4 K
      refine G_loadR rc_147_20 rfl ?_
      refine G_loadI rc_147_21 rfl ?_
      refine G_const rc_147_22 (by decide) ?_
      obtain ⟨c7, h⟩ := h
      refine G_bop (z := x1 + 1) rc_147_23 (if_pos c7) ?_
      show GO S0 147 24 [vR 237, vI x1] [vI (x1 + 1), vR 237] I4 K
      refine G_const rc_147_24 (by decide) ?_
      refine G_const rc_147_25 (by decide) ?_
      refine G_call (as := [vR 237, vI (x1 + 1), vI 0, vI 40]) (rest := []) rc_147_27 rfl rfl rfl (Nat.le_of_ble_eq_true rfl) (g_recv s0_237 rfl) ?_
      refine GO.imp h (fun v I8 h => ?_)
      obtain ⟨y9, rfl, h⟩ := h
      show GO S0 147 30 [vR 237, vI x1] [vI y9] I8 K
      refine G_i1 (C := y9 = 0) rc_147_30 rfl (fun c10 => ?_) (fun c10 => ?_)
      · rw [if_pos c10] at h
        show GO S0 147 42 [vR 237, vI x1] [] I8 K
        refine G_const rc_147_42 (by decide) ?_
        exact G_retI rc_147_43 (Or.inr (by decide)) h
      · rw [if_neg c10] at h
        show GO S0 147 33 [vR 237, vI x1] [] I8 K
        refine G_loadR rc_147_33 rfl ?_
        refine G_const rc_147_34 (by decide) ?_
        refine G_call (as := [vR 237, vI 64]) (rest := []) rc_147_36 rfl rfl rfl (Nat.le_of_ble_eq_true rfl) (g_recv s0_237 rfl) ?_
        refine GO.imp h (fun v I11 h => ?_)
        obtain ⟨y12, rfl, h⟩ := h
        show GO S0 147 39 [vR 237, vI x1] [vI y12] I11 K
        refine G_i1 (C := ¬ y12 = 0) rc_147_39 rfl (fun c13 => ?_) (fun c13 => ?_)
        · rw [if_neg c13] at h
          show GO S0 147 44 [vR 237, vI x1] [] I11 K
          refine G_loadR rc_147_44 rfl ?_
          refine G_loadI rc_147_45 rfl ?_
          refine G_const rc_147_46 (by decide) ?_
          obtain ⟨c14, h⟩ := h
          refine G_bop (z := x1 + 2) rc_147_47 (if_pos c14) ?_
          show GO S0 147 48 [vR 237, vI x1] [vI (x1 + 2), vR 237] I11 K
          refine G_const rc_147_48 (by decide) ?_
          refine G_const rc_147_49 (by decide) ?_
          refine G_call (as := [vR 237, vI (x1 + 2), vI 0, vI 600]) (rest := []) rc_147_52 rfl rfl rfl (Nat.le_of_ble_eq_true rfl) (g_recv s0_237 rfl) ?_
          refine GO.imp h (fun v I15 h => ?_)
          obtain ⟨y16, rfl, h⟩ := h
          show GO S0 147 55 [vR 237, vI x1] [vI y16] I15 K
          refine G_i1 (C := y16 = 0) rc_147_55 rfl (fun c17 => ?_) (fun c17 => ?_)
          · rw [if_pos c17] at h
            show GO S0 147 110 [vR 237, vI x1] [] I15 K
            refine G_const rc_147_110 (by decide) ?_
            exact G_retI rc_147_111 (Or.inr (by decide)) h
          · rw [if_neg c17] at h
            show GO S0 147 58 [vR 237, vI x1] [] I15 K
            refine G_loadR rc_147_58 rfl ?_
            refine G_const rc_147_59 (by decide) ?_
            refine G_call (as := [vR 237, vI 45]) (rest := []) rc_147_61 rfl rfl rfl (Nat.le_of_ble_eq_true rfl) (g_recv s0_237 rfl) ?_
            refine GO.imp h (fun v I18 h => ?_)
            obtain ⟨y19, rfl, h⟩ := h
            show GO S0 147 64 [vR 237, vI x1] [vI y19] I18 K
            refine G_i1 (C := y19 = 0) rc_147_64 rfl (fun c20 => ?_) (fun c20 => ?_)
            · rw [if_pos c20] at h
              show GO S0 147 110 [vR 237, vI x1] [] I18 K
              refine G_const rc_147_110 (by decide) ?_
              exact G_retI rc_147_111 (Or.inr (by decide)) h
            · rw [if_neg c20] at h
              show GO S0 147 67 [vR 237, vI x1] [] I18 K
              refine G_loadR rc_147_67 rfl ?_
              refine G_loadI rc_147_68 rfl ?_
              refine G_const rc_147_69 (by decide) ?_
              obtain ⟨c21, h⟩ := h
              refine G_bop (z := x1 + 3) rc_147_70 (if_pos c21) ?_
              show GO S0 147 71 [vR 237, vI x1] [vI (x1 + 3), vR 237] I18 K
              refine G_loadR rc_147_71 rfl ?_
              refine G_getR rc_147_72 s0_237 (by decide) rfl (by decide) ?_
              show GO S0 147 75 [vR 237, vI x1] [vR 245, vI (x1 + 3), vR 237] I18 K
              refine G_loadI rc_147_75 rfl ?_
              refine G_const rc_147_76 (by decide) ?_
              refine G_bop (z := x1 + 2) rc_147_77 (if_pos c14) ?_
              show GO S0 147 78 [vR 237, vI x1] [vI (x1 + 2), vR 245, vI (x1 + 3), vR 237] I18 K
              obtain ⟨c22, h⟩ := h
              refine G_ald rc_147_78 s0_245 (by omega) (by omega) ?_
              show GO S0 147 79 [vR 237, vI x1] [vI (I18 245 (x1 + 2).toNat), vI (x1 + 3), vR 237] I18 K
              refine G_const rc_147_79 (by decide) ?_
              refine G_call (as := [vR 237, vI (x1 + 3), vI (I18 245 (x1 + 2).toNat), vI 600]) (rest := []) rc_147_82 rfl rfl rfl (Nat.le_of_ble_eq_true rfl) (g_recv s0_237 rfl) ?_
              refine GO.imp h (fun v I23 h => ?_)
              obtain ⟨y24, rfl, h⟩ := h
              show GO S0 147 85 [vR 237, vI x1] [vI y24] I23 K
              refine G_i1 (C := y24 = 0) rc_147_85 rfl (fun c25 => ?_) (fun c25 => ?_)
              · rw [if_pos c25] at h
                show GO S0 147 110 [vR 237, vI x1] [] I23 K
                refine G_const rc_147_110 (by decide) ?_
                exact G_retI rc_147_111 (Or.inr (by decide)) h
              · rw [if_neg c25] at h
                show GO S0 147 88 [vR 237, vI x1] [] I23 K
                refine G_loadR rc_147_88 rfl ?_
                refine G_const rc_147_89 (by decide) ?_
                refine G_call (as := [vR 237, vI 47]) (rest := []) rc_147_91 rfl rfl rfl (Nat.le_of_ble_eq_true rfl) (g_recv s0_237 rfl) ?_
                refine GO.imp h (fun v I26 h => ?_)
                obtain ⟨y27, rfl, h⟩ := h
                show GO S0 147 94 [vR 237, vI x1] [vI y27] I26 K
                refine G_i1 (C := y27 = 0) rc_147_94 rfl (fun c28 => ?_) (fun c28 => ?_)
                · rw [if_pos c28] at h
                  show GO S0 147 110 [vR 237, vI x1] [] I26 K
                  refine G_const rc_147_110 (by decide) ?_
                  exact G_retI rc_147_111 (Or.inr (by decide)) h
                · rw [if_neg c28] at h
                  show GO S0 147 97 [vR 237, vI x1] [] I26 K
                  refine G_loadR rc_147_97 rfl ?_
                  refine G_loadI rc_147_98 rfl ?_
                  refine G_const rc_147_99 (by decide) ?_
                  obtain ⟨c29, h⟩ := h
                  refine G_bop (z := x1 + 4) rc_147_100 (if_pos c29) ?_
                  show GO S0 147 101 [vR 237, vI x1] [vI (x1 + 4), vR 237] I26 K
                  refine G_const rc_147_101 (by decide) ?_
                  refine G_const rc_147_102 (by decide) ?_
                  refine G_call (as := [vR 237, vI (x1 + 4), vI 0, vI 60]) (rest := []) rc_147_104 rfl rfl rfl (Nat.le_of_ble_eq_true rfl) (g_recv s0_237 rfl) ?_
                  refine GO.imp h (fun v I30 h => ?_)
                  obtain ⟨y31, rfl, h⟩ := h
                  show GO S0 147 107 [vR 237, vI x1] [vI y31] I30 K
                  refine G_i1 (C := ¬ y31 = 0) rc_147_107 rfl (fun c32 => ?_) (fun c32 => ?_)
                  · rw [if_neg c32] at h
                    show GO S0 147 112 [vR 237, vI x1] [] I30 K
                    refine G_loadR rc_147_112 rfl ?_
                    refine G_getR rc_147_113 s0_237 (by decide) rfl (by decide) ?_
                    show GO S0 147 116 [vR 237, vI x1] [vR 245] I30 K
                    refine G_loadI rc_147_116 rfl ?_
                    refine G_const rc_147_117 (by decide) ?_
                    obtain ⟨c33, h⟩ := h
                    refine G_bop (z := x1 + 5) rc_147_118 (if_pos c33) ?_
                    show GO S0 147 119 [vR 237, vI x1] [vI (x1 + 5), vR 245] I30 K
                    refine G_const rc_147_119 (by decide) ?_
                    obtain ⟨c34, h⟩ := h
                    refine G_ast rc_147_120 s0_245 (by omega) (by omega) (Or.inl rfl) ?_
                    show GO S0 147 121 [vR 237, vI x1] [] (iup I30 245 (x1 + 5).toNat 0) K
                    have h := h _ rfl
                    generalize iup I30 245 (x1 + 5).toNat 0 = I35 at h ⊢
                    refine G_loadR rc_147_121 rfl ?_
                    refine G_getR rc_147_122 s0_237 (by decide) rfl (by decide) ?_
                    show GO S0 147 125 [vR 237, vI x1] [vR 245] I35 K
                    refine G_loadI rc_147_125 rfl ?_
                    refine G_const rc_147_126 (by decide) ?_
                    obtain ⟨c36, h⟩ := h
                    refine G_bop (z := x1 + 6) rc_147_128 (if_pos c36) ?_
                    show GO S0 147 129 [vR 237, vI x1] [vI (x1 + 6), vR 245] I35 K
                    refine G_const rc_147_129 (by decide) ?_
                    obtain ⟨c37, h⟩ := h
                    refine G_ast rc_147_130 s0_245 (by omega) (by omega) (Or.inl rfl) ?_
                    show GO S0 147 131 [vR 237, vI x1] [] (iup I35 245 (x1 + 6).toNat 0) K
                    have h := h _ rfl
                    generalize iup I35 245 (x1 + 6).toNat 0 = I38 at h ⊢
                    refine G_loadR rc_147_131 rfl ?_
                    refine G_const rc_147_132 (by decide) ?_
                    refine G_call (as := [vR 237, vI 100]) (rest := []) rc_147_134 rfl rfl rfl (Nat.le_of_ble_eq_true rfl) (g_recv s0_237 rfl) ?_
                    refine GO.imp h (fun v I39 h => ?_)
                    obtain ⟨y40, rfl, h⟩ := h
                    show GO S0 147 137 [vR 237, vI x1] [vI y40] I39 K
                    refine G_i1 (C := y40 = 0) rc_147_137 rfl (fun c41 => ?_) (fun c41 => ?_)
                    · rw [if_pos c41] at h
                      show GO S0 147 155 [vR 237, vI x1] [] I39 K
                      exact g147_155 x1 I39 K h
                    · rw [if_neg c41] at h
                      show GO S0 147 140 [vR 237, vI x1] [] I39 K
                      refine G_loadR rc_147_140 rfl ?_
                      refine G_loadI rc_147_141 rfl ?_
                      refine G_const rc_147_142 (by decide) ?_
                      refine G_bop (z := x1 + 5) rc_147_143 (if_pos c33) ?_
                      show GO S0 147 144 [vR 237, vI x1] [vI (x1 + 5), vR 237] I39 K
                      refine G_const rc_147_144 (by decide) ?_
                      refine G_const rc_147_145 (by decide) ?_
                      refine G_call (as := [vR 237, vI (x1 + 5), vI 0, vI 50]) (rest := []) rc_147_147 rfl rfl rfl (Nat.le_of_ble_eq_true rfl) (g_recv s0_237 rfl) ?_
                      refine GO.imp h (fun v I42 h => ?_)
                      obtain ⟨y43, rfl, h⟩ := h
                      show GO S0 147 150 [vR 237, vI x1] [vI y43] I42 K
                      refine G_i1 (C := ¬ y43 = 0) rc_147_150 rfl (fun c44 => ?_) (fun c44 => ?_)
                      · rw [if_neg c44] at h
                        show GO S0 147 155 [vR 237, vI x1] [] I42 K
                        exact g147_155 x1 I42 K h
                      · rw [if_pos (Classical.not_not.mp c44)] at h
                        show GO S0 147 153 [vR 237, vI x1] [] I42 K
                        refine G_const rc_147_153 (by decide) ?_
                        exact G_retI rc_147_154 (Or.inr (by decide)) h
                  · rw [if_pos (Classical.not_not.mp c32)] at h
                    show GO S0 147 110 [vR 237, vI x1] [] I30 K
                    refine G_const rc_147_110 (by decide) ?_
                    exact G_retI rc_147_111 (Or.inr (by decide)) h
        · rw [if_pos (Classical.not_not.mp c13)] at h
          show GO S0 147 42 [vR 237, vI x1] [] I11 K
          refine G_const rc_147_42 (by decide) ?_
          exact G_retI rc_147_43 (Or.inr (by decide)) h
/-! 148: RoundSlackModel.readsNumber(III)Z -/
def D148_0 (x1 : Int) (x2 : Int) (x3 : Int) (I : IM) (K : Option AV → IM → Prop) : Prop :=
  CALL S0 149 [vR 237, vI 3, vI x2, vI x3] I (fun v I1 => ∃ y2 : Int, v = some (vI y2) ∧ (0 ≤ x1 ∧ x1 < 140) ∧ ∀ I4 : IM, I4 = iup I1 245 (x1).toNat y2 → (if I4 245 (x1).toNat < 0 then (K (some (vI 0)) I4) else (K (some (vI 1)) I4)))
set_option maxRecDepth 10000 in
theorem g148_0 (x1 : Int) (x2 : Int) (x3 : Int) (I : IM) (K : Option AV → IM → Prop) (h : D148_0 x1 x2 x3 I K) : GO S0 148 0 [vR 237, vI x1, vI x2, vI x3] [] I K := by
  unfold D148_0 at h
  refine G_loadR rc_148_0 rfl ?_
  refine G_getR rc_148_1 s0_237 (by decide) rfl (by decide) ?_
  show GO S0 148 4 [vR 237, vI x1, vI x2, vI x3] [vR 245] I K
  refine G_loadI rc_148_4 rfl ?_
  refine G_loadR rc_148_5 rfl ?_
  refine G_const rc_148_6 (by decide) ?_
  refine G_loadI rc_148_7 rfl ?_
  refine G_loadI rc_148_8 rfl ?_
  refine G_call (as := [vR 237, vI 3, vI x2, vI x3]) (rest := [vI x1, vR 245]) rc_148_9 rfl rfl rfl (Nat.le_of_ble_eq_true rfl) (g_recv s0_237 rfl) ?_
  refine GO.imp h (fun v I1 h => ?_)
  obtain ⟨y2, rfl, h⟩ := h
  show GO S0 148 12 [vR 237, vI x1, vI x2, vI x3] [vI y2, vI x1, vR 245] I1 K
  obtain ⟨c3, h⟩ := h
  refine G_ast rc_148_12 s0_245 (by omega) (by omega) (Or.inl rfl) ?_
  show GO S0 148 13 [vR 237, vI x1, vI x2, vI x3] [] (iup I1 245 (x1).toNat y2) K
  have h := h _ rfl
  generalize iup I1 245 (x1).toNat y2 = I4 at h ⊢
  refine G_loadR rc_148_13 rfl ?_
  refine G_getR rc_148_14 s0_237 (by decide) rfl (by decide) ?_
  show GO S0 148 17 [vR 237, vI x1, vI x2, vI x3] [vR 245] I4 K
  refine G_loadI rc_148_17 rfl ?_
  refine G_ald rc_148_18 s0_245 (by omega) (by omega) ?_
  show GO S0 148 19 [vR 237, vI x1, vI x2, vI x3] [vI (I4 245 (x1).toNat)] I4 K
  refine G_i1 (C := I4 245 (x1).toNat < 0) rc_148_19 rfl (fun c5 => ?_) (fun c5 => ?_)
  · rw [if_pos c5] at h
    show GO S0 148 26 [vR 237, vI x1, vI x2, vI x3] [] I4 K
    refine G_const rc_148_26 (by decide) ?_
    exact G_retI rc_148_27 (Or.inr (by decide)) h
  · rw [if_neg c5] at h
    show GO S0 148 22 [vR 237, vI x1, vI x2, vI x3] [] I4 K
    refine G_const rc_148_22 (by decide) ?_
    refine G_goto rc_148_23 ?_
    show GO S0 148 27 [vR 237, vI x1, vI x2, vI x3] [vI 1] I4 K
    exact G_retI rc_148_27 (Or.inr (by decide)) h
/-! 149: RoundSlackModel.number(III)I -/
def D149_62 (x1 : Int) (x2 : Int) (x3 : Int) (x4 : Int) (x5 : Int) (I : IM) (K : Option AV → IM → Prop) : Prop :=
  (if I 237 17 ≤ x4 then (∀ I2 : IM, I2 = iup I 237 17 x4 → K (some (vI (-1))) I2) else (CALL S0 130 [vI x5, vI x2, vI x3] I (fun v I3 => ∃ y4 : Int, v = some (vI y4) ∧ (if y4 = 0 then (∀ I6 : IM, I6 = iup I3 237 17 x4 → K (some (vI (-1))) I6) else (K (some (vI x5)) I3)))))
set_option maxRecDepth 10000 in
theorem g149_62 (x1 : Int) (x2 : Int) (x3 : Int) (x4 : Int) (x5 : Int) (I : IM) (K : Option AV → IM → Prop) (h : D149_62 x1 x2 x3 x4 x5 I K) : GO S0 149 62 [vR 237, vI x1, vI x2, vI x3, vI x4, vI x5] [] I K := by
  unfold D149_62 at h
  refine G_loadR rc_149_62 rfl ?_
  refine G_getI rc_149_63 s0_237 (by decide) ?_
  show GO S0 149 66 [vR 237, vI x1, vI x2, vI x3, vI x4, vI x5] [vI (I 237 17)] I K
  refine G_loadI rc_149_66 rfl ?_
  refine G_i2 (C := I 237 17 ≤ x4) rc_149_68 rfl (fun c1 => ?_) (fun c1 => ?_)
  · rw [if_pos c1] at h
    show GO S0 149 84 [vR 237, vI x1, vI x2, vI x3, vI x4, vI x5] [] I K
    refine G_loadR rc_149_84 rfl ?_
    refine G_loadI rc_149_85 rfl ?_
    refine G_putI rc_149_87 s0_237 (by decide) (Or.inl rfl) ?_
    show GO S0 149 90 [vR 237, vI x1, vI x2, vI x3, vI x4, vI x5] [] (iup I 237 17 x4) K
    have h := h _ rfl
    generalize iup I 237 17 x4 = I2 at h ⊢
    refine G_const rc_149_90 (by decide) ?_
    exact G_retI rc_149_91 (Or.inl rfl) h
  · rw [if_neg c1] at h
    show GO S0 149 71 [vR 237, vI x1, vI x2, vI x3, vI x4, vI x5] [] I K
    refine G_loadI rc_149_71 rfl ?_
    refine G_loadI rc_149_73 rfl ?_
    refine G_loadI rc_149_74 rfl ?_
    refine G_call (as := [vI x5, vI x2, vI x3]) (rest := []) rc_149_75 rfl rfl rfl (Nat.le_of_ble_eq_true rfl) rfl ?_
    refine GO.imp h (fun v I3 h => ?_)
    obtain ⟨y4, rfl, h⟩ := h
    show GO S0 149 78 [vR 237, vI x1, vI x2, vI x3, vI x4, vI x5] [vI y4] I3 K
    refine G_i1 (C := y4 = 0) rc_149_78 rfl (fun c5 => ?_) (fun c5 => ?_)
    · rw [if_pos c5] at h
      show GO S0 149 84 [vR 237, vI x1, vI x2, vI x3, vI x4, vI x5] [] I3 K
      refine G_loadR rc_149_84 rfl ?_
      refine G_loadI rc_149_85 rfl ?_
      refine G_putI rc_149_87 s0_237 (by decide) (Or.inl rfl) ?_
      show GO S0 149 90 [vR 237, vI x1, vI x2, vI x3, vI x4, vI x5] [] (iup I3 237 17 x4) K
      have h := h _ rfl
      generalize iup I3 237 17 x4 = I6 at h ⊢
      refine G_const rc_149_90 (by decide) ?_
      exact G_retI rc_149_91 (Or.inl rfl) h
    · rw [if_neg c5] at h
      show GO S0 149 81 [vR 237, vI x1, vI x2, vI x3, vI x4, vI x5] [] I3 K
      refine G_loadI rc_149_81 rfl ?_
      exact G_retI rc_149_83 (Or.inl rfl) h
def D149_9 (x1 : Int) (x2 : Int) (x3 : Int) (x4 : Int) (x5 : Int) (I : IM) (K : Option AV → IM → Prop) : Prop :=
  (inR (x4 + x1)) ∧ (if x4 + x1 ≤ I 237 17 then (D149_62 x1 x2 x3 x4 x5 I K) else (CALL S0 150 [vR 237] I (fun v I3 => ∃ y4 : Int, v = some (vI y4) ∧ CALL S0 130 [vI y4, vI 48, vI 57] I3 (fun v I5 => ∃ y6 : Int, v = some (vI y6) ∧ (if y6 = 0 then (D149_62 x1 x2 x3 x4 x5 I5 K) else ((inR (10 * x5)) ∧ CALL S0 150 [vR 237] I5 (fun v I9 => ∃ y10 : Int, v = some (vI y10) ∧ (inR ((10 * x5) + y10)) ∧ (inR (((10 * x5) + y10) - 48)) ∧ (inR ((I9 237 17) + 1)) ∧ ∀ I14 : IM, I14 = iup I9 237 17 ((I9 237 17) + 1) → GO S0 149 9 [vR 237, vI x1, vI x2, vI x3, vI x4, vI (((10 * x5) + y10) - 48)] [] I14 K)))))))
set_option maxRecDepth 10000 in
theorem g149_9 (x1 : Int) (x2 : Int) (x3 : Int) (x4 : Int) (x5 : Int) (I : IM) (K : Option AV → IM → Prop) (h : D149_9 x1 x2 x3 x4 x5 I K) : GO S0 149 9 [vR 237, vI x1, vI x2, vI x3, vI x4, vI x5] [] I K := by
  unfold D149_9 at h
  refine G_loadR rc_149_9 rfl ?_
  refine G_getI rc_149_10 s0_237 (by decide) ?_
  show GO S0 149 13 [vR 237, vI x1, vI x2, vI x3, vI x4, vI x5] [vI (I 237 17)] I K
  refine G_loadI rc_149_13 rfl ?_
  refine G_loadI rc_149_15 rfl ?_
  obtain ⟨c1, h⟩ := h
  refine G_bop (z := x4 + x1) rc_149_16 (if_pos c1) ?_
  show GO S0 149 17 [vR 237, vI x1, vI x2, vI x3, vI x4, vI x5] [vI (x4 + x1), vI (I 237 17)] I K
  refine G_i2 (C := x4 + x1 ≤ I 237 17) rc_149_17 rfl (fun c2 => ?_) (fun c2 => ?_)
  · rw [if_pos c2] at h
    show GO S0 149 62 [vR 237, vI x1, vI x2, vI x3, vI x4, vI x5] [] I K
    exact g149_62 x1 x2 x3 x4 x5 I K h
  · rw [if_neg c2] at h
    show GO S0 149 20 [vR 237, vI x1, vI x2, vI x3, vI x4, vI x5] [] I K
    refine G_loadR rc_149_20 rfl ?_
    refine G_call (as := [vR 237]) (rest := []) rc_149_21 rfl rfl rfl (Nat.le_of_ble_eq_true rfl) (g_recv s0_237 rfl) ?_
    refine GO.imp h (fun v I3 h => ?_)
    obtain ⟨y4, rfl, h⟩ := h
    show GO S0 149 24 [vR 237, vI x1, vI x2, vI x3, vI x4, vI x5] [vI y4] I3 K
    refine G_const rc_149_24 (by decide) ?_
    refine G_const rc_149_26 (by decide) ?_
    refine G_call (as := [vI y4, vI 48, vI 57]) (rest := []) rc_149_28 rfl rfl rfl (Nat.le_of_ble_eq_true rfl) rfl ?_
    refine GO.imp h (fun v I5 h => ?_)
    obtain ⟨y6, rfl, h⟩ := h
    show GO S0 149 31 [vR 237, vI x1, vI x2, vI x3, vI x4, vI x5] [vI y6] I5 K
    refine G_i1 (C := y6 = 0) rc_149_31 rfl (fun c7 => ?_) (fun c7 => ?_)
    · rw [if_pos c7] at h
      show GO S0 149 62 [vR 237, vI x1, vI x2, vI x3, vI x4, vI x5] [] I5 K
      exact g149_62 x1 x2 x3 x4 x5 I5 K h
    · rw [if_neg c7] at h
      show GO S0 149 34 [vR 237, vI x1, vI x2, vI x3, vI x4, vI x5] [] I5 K
      refine G_const rc_149_34 (by decide) ?_
      refine G_loadI rc_149_36 rfl ?_
      obtain ⟨c8, h⟩ := h
      refine G_bop (z := 10 * x5) rc_149_38 (if_pos c8) ?_
      show GO S0 149 39 [vR 237, vI x1, vI x2, vI x3, vI x4, vI x5] [vI (10 * x5)] I5 K
      refine G_loadR rc_149_39 rfl ?_
      refine G_call (as := [vR 237]) (rest := [vI (10 * x5)]) rc_149_40 rfl rfl rfl (Nat.le_of_ble_eq_true rfl) (g_recv s0_237 rfl) ?_
      refine GO.imp h (fun v I9 h => ?_)
      obtain ⟨y10, rfl, h⟩ := h
      show GO S0 149 43 [vR 237, vI x1, vI x2, vI x3, vI x4, vI x5] [vI y10, vI (10 * x5)] I9 K
      obtain ⟨c11, h⟩ := h
      refine G_bop (z := (10 * x5) + y10) rc_149_43 (if_pos c11) ?_
      show GO S0 149 44 [vR 237, vI x1, vI x2, vI x3, vI x4, vI x5] [vI ((10 * x5) + y10)] I9 K
      refine G_const rc_149_44 (by decide) ?_
      obtain ⟨c12, h⟩ := h
      refine G_bop (z := ((10 * x5) + y10) - 48) rc_149_46 (if_pos c12) ?_
      show GO S0 149 47 [vR 237, vI x1, vI x2, vI x3, vI x4, vI x5] [vI (((10 * x5) + y10) - 48)] I9 K
      refine G_storeI rc_149_47 (Nat.le_of_ble_eq_true rfl) ?_
      show GO S0 149 49 [vR 237, vI x1, vI x2, vI x3, vI x4, vI (((10 * x5) + y10) - 48)] [] I9 K
      refine G_loadR rc_149_49 rfl ?_
      refine G_dupR rc_149_50 ?_
      refine G_getI rc_149_51 s0_237 (by decide) ?_
      show GO S0 149 54 [vR 237, vI x1, vI x2, vI x3, vI x4, vI (((10 * x5) + y10) - 48)] [vI (I9 237 17), vR 237] I9 K
      refine G_const rc_149_54 (by decide) ?_
      obtain ⟨c13, h⟩ := h
      refine G_bop (z := (I9 237 17) + 1) rc_149_55 (if_pos c13) ?_
      show GO S0 149 56 [vR 237, vI x1, vI x2, vI x3, vI x4, vI (((10 * x5) + y10) - 48)] [vI ((I9 237 17) + 1), vR 237] I9 K
      refine G_putI rc_149_56 s0_237 (by decide) (Or.inl rfl) ?_
      show GO S0 149 59 [vR 237, vI x1, vI x2, vI x3, vI x4, vI (((10 * x5) + y10) - 48)] [] (iup I9 237 17 ((I9 237 17) + 1)) K
      have h := h _ rfl
      generalize iup I9 237 17 ((I9 237 17) + 1) = I14 at h ⊢
      refine G_goto rc_149_59 ?_
      show GO S0 149 9 [vR 237, vI x1, vI x2, vI x3, vI x4, vI (((10 * x5) + y10) - 48)] [] I14 K
      exact h
def D149_0 (x1 : Int) (x2 : Int) (x3 : Int) (I : IM) (K : Option AV → IM → Prop) : Prop :=
  GO S0 149 9 [vR 237, vI x1, vI x2, vI x3, vI (I 237 17), vI 0] [] I K
set_option maxRecDepth 10000 in
theorem g149_0 (x1 : Int) (x2 : Int) (x3 : Int) (I : IM) (K : Option AV → IM → Prop) (h : D149_0 x1 x2 x3 I K) : GO S0 149 0 [vR 237, vI x1, vI x2, vI x3, vU, vU] [] I K := by
  unfold D149_0 at h
  refine G_loadR rc_149_0 rfl ?_
  refine G_getI rc_149_1 s0_237 (by decide) ?_
  show GO S0 149 4 [vR 237, vI x1, vI x2, vI x3, vU, vU] [vI (I 237 17)] I K
  refine G_storeI rc_149_4 (Nat.le_of_ble_eq_true rfl) ?_
  show GO S0 149 6 [vR 237, vI x1, vI x2, vI x3, vI (I 237 17), vU] [] I K
  refine G_const rc_149_6 (by decide) ?_
  refine G_storeI rc_149_7 (Nat.le_of_ble_eq_true rfl) ?_
  show GO S0 149 9 [vR 237, vI x1, vI x2, vI x3, vI (I 237 17), vI 0] [] I K
  exact h
/-! 150: RoundSlackModel.here()I -/
def D150_0 (I : IM) (K : Option AV → IM → Prop) : Prop :=
  (if I 237 16 ≤ I 237 17 then (K (some (vI (-1))) I) else ((0 ≤ I 237 17 ∧ I 237 17 < 160) ∧ K (some (vI (I 244 (I 237 17).toNat))) I))
set_option maxRecDepth 10000 in
theorem g150_0 (I : IM) (K : Option AV → IM → Prop) (h : D150_0 I K) : GO S0 150 0 [vR 237] [] I K := by
  unfold D150_0 at h
  refine G_loadR rc_150_0 rfl ?_
  refine G_getI rc_150_1 s0_237 (by decide) ?_
  show GO S0 150 4 [vR 237] [vI (I 237 17)] I K
  refine G_loadR rc_150_4 rfl ?_
  refine G_getI rc_150_5 s0_237 (by decide) ?_
  show GO S0 150 8 [vR 237] [vI (I 237 16), vI (I 237 17)] I K
  refine G_i2 (C := I 237 16 ≤ I 237 17) rc_150_8 rfl (fun c1 => ?_) (fun c1 => ?_)
  · rw [if_pos c1] at h
    show GO S0 150 23 [vR 237] [] I K
    refine G_const rc_150_23 (by decide) ?_
    exact G_retI rc_150_24 (Or.inl rfl) h
  · rw [if_neg c1] at h
    show GO S0 150 11 [vR 237] [] I K
    refine G_loadR rc_150_11 rfl ?_
    refine G_getR rc_150_12 s0_237 (by decide) rfl (by decide) ?_
    show GO S0 150 15 [vR 237] [vR 244] I K
    refine G_loadR rc_150_15 rfl ?_
    refine G_getI rc_150_16 s0_237 (by decide) ?_
    show GO S0 150 19 [vR 237] [vI (I 237 17), vR 244] I K
    obtain ⟨c2, h⟩ := h
    refine G_ald rc_150_19 s0_244 (by omega) (by omega) ?_
    show GO S0 150 20 [vR 237] [vI (I 244 (I 237 17).toNat)] I K
    refine G_goto rc_150_20 ?_
    show GO S0 150 24 [vR 237] [vI (I 244 (I 237 17).toNat)] I K
    exact G_retI rc_150_24 (Or.inl rfl) h
/-! 151: RoundSlackModel.takesSign(I)Z -/
def D151_0 (x1 : Int) (I : IM) (K : Option AV → IM → Prop) : Prop :=
  CALL S0 150 [vR 237] I (fun v I1 => ∃ y2 : Int, v = some (vI y2) ∧ (if y2 = x1 then ((inR ((I1 237 17) + 1)) ∧ ∀ I5 : IM, I5 = iup I1 237 17 ((I1 237 17) + 1) → K (some (vI 1)) I5) else (K (some (vI 0)) I1)))
set_option maxRecDepth 10000 in
theorem g151_0 (x1 : Int) (I : IM) (K : Option AV → IM → Prop) (h : D151_0 x1 I K) : GO S0 151 0 [vR 237, vI x1] [] I K := by
  unfold D151_0 at h
  refine G_loadR rc_151_0 rfl ?_
  refine G_call (as := [vR 237]) (rest := []) rc_151_1 rfl rfl rfl (Nat.le_of_ble_eq_true rfl) (g_recv s0_237 rfl) ?_
  refine GO.imp h (fun v I1 h => ?_)
  obtain ⟨y2, rfl, h⟩ := h
  show GO S0 151 4 [vR 237, vI x1] [vI y2] I1 K
  refine G_loadI rc_151_4 rfl ?_
  refine G_i2 (C := y2 = x1) rc_151_5 rfl (fun c3 => ?_) (fun c3 => ?_)
  · rw [if_pos c3] at h
    show GO S0 151 10 [vR 237, vI x1] [] I1 K
    refine G_loadR rc_151_10 rfl ?_
    refine G_dupR rc_151_11 ?_
    refine G_getI rc_151_12 s0_237 (by decide) ?_
    show GO S0 151 15 [vR 237, vI x1] [vI (I1 237 17), vR 237] I1 K
    refine G_const rc_151_15 (by decide) ?_
    obtain ⟨c4, h⟩ := h
    refine G_bop (z := (I1 237 17) + 1) rc_151_16 (if_pos c4) ?_
    show GO S0 151 17 [vR 237, vI x1] [vI ((I1 237 17) + 1), vR 237] I1 K
    refine G_putI rc_151_17 s0_237 (by decide) (Or.inl rfl) ?_
    show GO S0 151 20 [vR 237, vI x1] [] (iup I1 237 17 ((I1 237 17) + 1)) K
    have h := h _ rfl
    generalize iup I1 237 17 ((I1 237 17) + 1) = I5 at h ⊢
    refine G_const rc_151_20 (by decide) ?_
    exact G_retI rc_151_21 (Or.inr (by decide)) h
  · rw [if_neg c3] at h
    show GO S0 151 8 [vR 237, vI x1] [] I1 K
    refine G_const rc_151_8 (by decide) ?_
    exact G_retI rc_151_9 (Or.inr (by decide)) h
/-! 152: RoundSlackModel.plan()I -/
def D152_42 (x1 : Int) (I : IM) (K : Option AV → IM → Prop) : Prop :=
  ∀ I1 : IM, I1 = iup I 237 16 0 → (if (0 : Int) ≤ x1 then (CALL S0 158 [vR 237, vR 242] I1 (fun v I3 => ∃ y4 : Int, v = some (vI y4) ∧ (if y4 = 0 then (K (some (vI (-7))) I3) else (CALL S0 170 [vR 237] I3 (fun v I6 => v = none ∧ CALL S0 171 [vR 237] I6 (fun v I7 => ∃ y8 : Int, v = some (vI y8) ∧ CALL S0 133 [vR 237, vI y8] I7 (fun v I9 => ∃ y10 : Int, v = some (vI y10) ∧ K (some (vI y10)) I9))))))) else ((inR ((-100) - (I1 237 17))) ∧ K (some (vI ((-100) - (I1 237 17)))) I1))
set_option maxRecDepth 10000 in
theorem g152_42 (x1 : Int) (I : IM) (K : Option AV → IM → Prop) (h : D152_42 x1 I K) : GO S0 152 42 [vR 237, vI x1] [] I K := by
  unfold D152_42 at h
  refine G_loadR rc_152_42 rfl ?_
  refine G_const rc_152_43 (by decide) ?_
  refine G_putI rc_152_44 s0_237 (by decide) (Or.inl rfl) ?_
  show GO S0 152 47 [vR 237, vI x1] [] (iup I 237 16 0) K
  have h := h _ rfl
  generalize iup I 237 16 0 = I1 at h ⊢
  refine G_loadI rc_152_47 rfl ?_
  refine G_i1 (C := (0 : Int) ≤ x1) rc_152_48 rfl (fun c2 => ?_) (fun c2 => ?_)
  · rw [if_pos c2] at h
    show GO S0 152 59 [vR 237, vI x1] [] I1 K
    refine G_loadR rc_152_59 rfl ?_
    refine G_loadR rc_152_60 rfl ?_
    refine G_getR rc_152_61 s0_237 (by decide) rfl (by decide) ?_
    show GO S0 152 64 [vR 237, vI x1] [vR 242, vR 237] I1 K
    refine G_call (as := [vR 237, vR 242]) (rest := []) rc_152_64 rfl rfl rfl (Nat.le_of_ble_eq_true rfl) (g_recv s0_237 rfl) ?_
    refine GO.imp h (fun v I3 h => ?_)
    obtain ⟨y4, rfl, h⟩ := h
    show GO S0 152 67 [vR 237, vI x1] [vI y4] I3 K
    refine G_i1 (C := ¬ y4 = 0) rc_152_67 rfl (fun c5 => ?_) (fun c5 => ?_)
    · rw [if_neg c5] at h
      show GO S0 152 73 [vR 237, vI x1] [] I3 K
      refine G_loadR rc_152_73 rfl ?_
      refine G_call (as := [vR 237]) (rest := []) rc_152_74 rfl rfl rfl (Nat.le_of_ble_eq_true rfl) (g_recv s0_237 rfl) ?_
      refine GO.imp h (fun v I6 h => ?_)
      obtain ⟨rfl, h⟩ := h
      show GO S0 152 77 [vR 237, vI x1] [] I6 K
      refine G_loadR rc_152_77 rfl ?_
      refine G_loadR rc_152_78 rfl ?_
      refine G_call (as := [vR 237]) (rest := [vR 237]) rc_152_79 rfl rfl rfl (Nat.le_of_ble_eq_true rfl) (g_recv s0_237 rfl) ?_
      refine GO.imp h (fun v I7 h => ?_)
      obtain ⟨y8, rfl, h⟩ := h
      show GO S0 152 82 [vR 237, vI x1] [vI y8, vR 237] I7 K
      refine G_call (as := [vR 237, vI y8]) (rest := []) rc_152_82 rfl rfl rfl (Nat.le_of_ble_eq_true rfl) (g_recv s0_237 rfl) ?_
      refine GO.imp h (fun v I9 h => ?_)
      obtain ⟨y10, rfl, h⟩ := h
      show GO S0 152 85 [vR 237, vI x1] [vI y10] I9 K
      exact G_retI rc_152_85 (Or.inl rfl) h
    · rw [if_pos (Classical.not_not.mp c5)] at h
      show GO S0 152 70 [vR 237, vI x1] [] I3 K
      refine G_const rc_152_70 (by decide) ?_
      exact G_retI rc_152_72 (Or.inl rfl) h
  · rw [if_neg c2] at h
    show GO S0 152 51 [vR 237, vI x1] [] I1 K
    refine G_const rc_152_51 (by decide) ?_
    refine G_loadR rc_152_53 rfl ?_
    refine G_getI rc_152_54 s0_237 (by decide) ?_
    show GO S0 152 57 [vR 237, vI x1] [vI (I1 237 17), vI (-100)] I1 K
    obtain ⟨c11, h⟩ := h
    refine G_bop (z := (-100) - (I1 237 17)) rc_152_57 (if_pos c11) ?_
    show GO S0 152 58 [vR 237, vI x1] [vI ((-100) - (I1 237 17))] I1 K
    exact G_retI rc_152_58 (Or.inl rfl) h
def D152_20 (x1 : Int) (I : IM) (K : Option AV → IM → Prop) : Prop :=
  (if x1 < 0 then (D152_42 x1 I K) else (CALL S0 151 [vR 237, vI 59] I (fun v I2 => ∃ y3 : Int, v = some (vI y3) ∧ (if y3 = 0 then (D152_42 x1 I2 K) else (CALL S0 154 [vR 237, vI x1] I2 (fun v I5 => ∃ y6 : Int, v = some (vI y6) ∧ GO S0 152 20 [vR 237, vI y6] [] I5 K))))))
set_option maxRecDepth 10000 in
theorem g152_20 (x1 : Int) (I : IM) (K : Option AV → IM → Prop) (h : D152_20 x1 I K) : GO S0 152 20 [vR 237, vI x1] [] I K := by
  unfold D152_20 at h
  refine G_loadI rc_152_20 rfl ?_
  refine G_i1 (C := x1 < 0) rc_152_21 rfl (fun c1 => ?_) (fun c1 => ?_)
  · rw [if_pos c1] at h
    show GO S0 152 42 [vR 237, vI x1] [] I K
    exact g152_42 x1 I K h
  · rw [if_neg c1] at h
    show GO S0 152 24 [vR 237, vI x1] [] I K
    refine G_loadR rc_152_24 rfl ?_
    refine G_const rc_152_25 (by decide) ?_
    refine G_call (as := [vR 237, vI 59]) (rest := []) rc_152_27 rfl rfl rfl (Nat.le_of_ble_eq_true rfl) (g_recv s0_237 rfl) ?_
    refine GO.imp h (fun v I2 h => ?_)
    obtain ⟨y3, rfl, h⟩ := h
    show GO S0 152 30 [vR 237, vI x1] [vI y3] I2 K
    refine G_i1 (C := y3 = 0) rc_152_30 rfl (fun c4 => ?_) (fun c4 => ?_)
    · rw [if_pos c4] at h
      show GO S0 152 42 [vR 237, vI x1] [] I2 K
      exact g152_42 x1 I2 K h
    · rw [if_neg c4] at h
      show GO S0 152 33 [vR 237, vI x1] [] I2 K
      refine G_loadR rc_152_33 rfl ?_
      refine G_loadI rc_152_34 rfl ?_
      refine G_call (as := [vR 237, vI x1]) (rest := []) rc_152_35 rfl rfl rfl (Nat.le_of_ble_eq_true rfl) (g_recv s0_237 rfl) ?_
      refine GO.imp h (fun v I5 h => ?_)
      obtain ⟨y6, rfl, h⟩ := h
      show GO S0 152 38 [vR 237, vI x1] [vI y6] I5 K
      refine G_storeI rc_152_38 (Nat.le_of_ble_eq_true rfl) ?_
      show GO S0 152 39 [vR 237, vI y6] [] I5 K
      refine G_goto rc_152_39 ?_
      show GO S0 152 20 [vR 237, vI y6] [] I5 K
      exact h
def D152_0 (I : IM) (K : Option AV → IM → Prop) : Prop :=
  ∀ I1 : IM, I1 = iup I 237 17 0 → ∀ I2 : IM, I2 = iup I1 237 19 0 → CALL S0 153 [vR 237] I2 (fun v I3 => v = none ∧ CALL S0 154 [vR 237, vI (-1)] I3 (fun v I4 => ∃ y5 : Int, v = some (vI y5) ∧ GO S0 152 20 [vR 237, vI y5] [] I4 K))
set_option maxRecDepth 10000 in
theorem g152_0 (I : IM) (K : Option AV → IM → Prop) (h : D152_0 I K) : GO S0 152 0 [vR 237, vU] [] I K := by
  unfold D152_0 at h
  refine G_loadR rc_152_0 rfl ?_
  refine G_const rc_152_1 (by decide) ?_
  refine G_putI rc_152_2 s0_237 (by decide) (Or.inl rfl) ?_
  show GO S0 152 5 [vR 237, vU] [] (iup I 237 17 0) K
  have h := h _ rfl
  generalize iup I 237 17 0 = I1 at h ⊢
  refine G_loadR rc_152_5 rfl ?_
  refine G_const rc_152_6 (by decide) ?_
  refine G_putI rc_152_7 s0_237 (by decide) (Or.inl rfl) ?_
  show GO S0 152 10 [vR 237, vU] [] (iup I1 237 19 0) K
  have h := h _ rfl
  generalize iup I1 237 19 0 = I2 at h ⊢
  refine G_loadR rc_152_10 rfl ?_
  refine G_call (as := [vR 237]) (rest := []) rc_152_11 rfl rfl rfl (Nat.le_of_ble_eq_true rfl) (g_recv s0_237 rfl) ?_
  refine GO.imp h (fun v I3 h => ?_)
  obtain ⟨rfl, h⟩ := h
  show GO S0 152 14 [vR 237, vU] [] I3 K
  refine G_loadR rc_152_14 rfl ?_
  refine G_const rc_152_15 (by decide) ?_
  refine G_call (as := [vR 237, vI (-1)]) (rest := []) rc_152_16 rfl rfl rfl (Nat.le_of_ble_eq_true rfl) (g_recv s0_237 rfl) ?_
  refine GO.imp h (fun v I4 h => ?_)
  obtain ⟨y5, rfl, h⟩ := h
  show GO S0 152 19 [vR 237, vU] [vI y5] I4 K
  refine G_storeI rc_152_19 (Nat.le_of_ble_eq_true rfl) ?_
  show GO S0 152 20 [vR 237, vI y5] [] I4 K
  exact h
/-! 153: RoundSlackModel.empties()V -/
def D153_2 (x1 : Int) (I : IM) (K : Option AV → IM → Prop) : Prop :=
  (if (4 : Int) ≤ x1 then (K none I) else ((inR (13 * x1)) ∧ (0 ≤ 13 * x1 ∧ 13 * x1 < 52) ∧ ∀ I4 : IM, I4 = iup I 242 (13 * x1).toNat 0 → (inR (x1 + 1)) ∧ GO S0 153 2 [vR 237, vI (x1 + 1)] [] I4 K))
set_option maxRecDepth 10000 in
theorem g153_2 (x1 : Int) (I : IM) (K : Option AV → IM → Prop) (h : D153_2 x1 I K) : GO S0 153 2 [vR 237, vI x1] [] I K := by
  unfold D153_2 at h
  refine G_loadI rc_153_2 rfl ?_
  refine G_const rc_153_3 (by decide) ?_
  refine G_i2 (C := (4 : Int) ≤ x1) rc_153_4 rfl (fun c1 => ?_) (fun c1 => ?_)
  · rw [if_pos c1] at h
    show GO S0 153 23 [vR 237, vI x1] [] I K
    exact G_ret0 rc_153_23 h
  · rw [if_neg c1] at h
    show GO S0 153 7 [vR 237, vI x1] [] I K
    refine G_loadR rc_153_7 rfl ?_
    refine G_getR rc_153_8 s0_237 (by decide) rfl (by decide) ?_
    show GO S0 153 11 [vR 237, vI x1] [vR 242] I K
    refine G_const rc_153_11 (by decide) ?_
    refine G_loadI rc_153_13 rfl ?_
    obtain ⟨c2, h⟩ := h
    refine G_bop (z := 13 * x1) rc_153_14 (if_pos c2) ?_
    show GO S0 153 15 [vR 237, vI x1] [vI (13 * x1), vR 242] I K
    refine G_const rc_153_15 (by decide) ?_
    obtain ⟨c3, h⟩ := h
    refine G_ast rc_153_16 s0_242 (by omega) (by omega) (Or.inl rfl) ?_
    show GO S0 153 17 [vR 237, vI x1] [] (iup I 242 (13 * x1).toNat 0) K
    have h := h _ rfl
    generalize iup I 242 (13 * x1).toNat 0 = I4 at h ⊢
    obtain ⟨c5, h⟩ := h
    refine G_iinc rc_153_17 rfl c5 ?_
    show GO S0 153 20 [vR 237, vI (x1 + 1)] [] I4 K
    refine G_goto rc_153_20 ?_
    show GO S0 153 2 [vR 237, vI (x1 + 1)] [] I4 K
    exact h
def D153_0 (I : IM) (K : Option AV → IM → Prop) : Prop :=
  GO S0 153 2 [vR 237, vI 0] [] I K
set_option maxRecDepth 10000 in
theorem g153_0 (I : IM) (K : Option AV → IM → Prop) (h : D153_0 I K) : GO S0 153 0 [vR 237, vU] [] I K := by
  unfold D153_0 at h
  refine G_const rc_153_0 (by decide) ?_
  refine G_storeI rc_153_1 (Nat.le_of_ble_eq_true rfl) ?_
  show GO S0 153 2 [vR 237, vI 0] [] I K
  exact h
/-! 154: RoundSlackModel.readsVan(I)I -/
def D154_33 (x1 : Int) (x2 : Int) (I : IM) (K : Option AV → IM → Prop) : Prop :=
  CALL S0 151 [vR 237, vI 44] I (fun v I1 => ∃ y2 : Int, v = some (vI y2) ∧ (if y2 = 0 then ((if I1 237 17 = I1 237 16 then (K (some (vI x2)) I1) else (CALL S0 150 [vR 237] I1 (fun v I5 => ∃ y6 : Int, v = some (vI y6) ∧ (if y6 = 59 then (K (some (vI x2)) I5) else (K (some (vI (-1))) I5)))))) else (CALL S0 155 [vR 237, vI x2] I1 (fun v I8 => ∃ y9 : Int, v = some (vI y9) ∧ (if y9 = 0 then (K (some (vI (-1))) I8) else (GO S0 154 33 [vR 237, vI x1, vI x2] [] I8 K))))))
set_option maxRecDepth 10000 in
theorem g154_33 (x1 : Int) (x2 : Int) (I : IM) (K : Option AV → IM → Prop) (h : D154_33 x1 x2 I K) : GO S0 154 33 [vR 237, vI x1, vI x2] [] I K := by
  unfold D154_33 at h
  refine G_loadR rc_154_33 rfl ?_
  refine G_const rc_154_34 (by decide) ?_
  refine G_call (as := [vR 237, vI 44]) (rest := []) rc_154_36 rfl rfl rfl (Nat.le_of_ble_eq_true rfl) (g_recv s0_237 rfl) ?_
  refine GO.imp h (fun v I1 h => ?_)
  obtain ⟨y2, rfl, h⟩ := h
  show GO S0 154 39 [vR 237, vI x1, vI x2] [vI y2] I1 K
  refine G_i1 (C := y2 = 0) rc_154_39 rfl (fun c3 => ?_) (fun c3 => ?_)
  · rw [if_pos c3] at h
    show GO S0 154 52 [vR 237, vI x1, vI x2] [] I1 K
    refine G_loadR rc_154_52 rfl ?_
    refine G_getI rc_154_53 s0_237 (by decide) ?_
    show GO S0 154 56 [vR 237, vI x1, vI x2] [vI (I1 237 17)] I1 K
    refine G_loadR rc_154_56 rfl ?_
    refine G_getI rc_154_57 s0_237 (by decide) ?_
    show GO S0 154 60 [vR 237, vI x1, vI x2] [vI (I1 237 16), vI (I1 237 17)] I1 K
    refine G_i2 (C := I1 237 17 = I1 237 16) rc_154_60 rfl (fun c4 => ?_) (fun c4 => ?_)
    · rw [if_pos c4] at h
      show GO S0 154 72 [vR 237, vI x1, vI x2] [] I1 K
      refine G_loadI rc_154_72 rfl ?_
      refine G_goto rc_154_73 ?_
      show GO S0 154 77 [vR 237, vI x1, vI x2] [vI x2] I1 K
      exact G_retI rc_154_77 (Or.inl rfl) h
    · rw [if_neg c4] at h
      show GO S0 154 63 [vR 237, vI x1, vI x2] [] I1 K
      refine G_loadR rc_154_63 rfl ?_
      refine G_call (as := [vR 237]) (rest := []) rc_154_64 rfl rfl rfl (Nat.le_of_ble_eq_true rfl) (g_recv s0_237 rfl) ?_
      refine GO.imp h (fun v I5 h => ?_)
      obtain ⟨y6, rfl, h⟩ := h
      show GO S0 154 67 [vR 237, vI x1, vI x2] [vI y6] I5 K
      refine G_const rc_154_67 (by decide) ?_
      refine G_i2 (C := ¬ y6 = 59) rc_154_69 rfl (fun c7 => ?_) (fun c7 => ?_)
      · rw [if_neg c7] at h
        show GO S0 154 76 [vR 237, vI x1, vI x2] [] I5 K
        refine G_const rc_154_76 (by decide) ?_
        exact G_retI rc_154_77 (Or.inl rfl) h
      · rw [if_pos (Classical.not_not.mp c7)] at h
        show GO S0 154 72 [vR 237, vI x1, vI x2] [] I5 K
        refine G_loadI rc_154_72 rfl ?_
        refine G_goto rc_154_73 ?_
        show GO S0 154 77 [vR 237, vI x1, vI x2] [vI x2] I5 K
        exact G_retI rc_154_77 (Or.inl rfl) h
  · rw [if_neg c3] at h
    show GO S0 154 42 [vR 237, vI x1, vI x2] [] I1 K
    refine G_loadR rc_154_42 rfl ?_
    refine G_loadI rc_154_43 rfl ?_
    refine G_call (as := [vR 237, vI x2]) (rest := []) rc_154_44 rfl rfl rfl (Nat.le_of_ble_eq_true rfl) (g_recv s0_237 rfl) ?_
    refine GO.imp h (fun v I8 h => ?_)
    obtain ⟨y9, rfl, h⟩ := h
    show GO S0 154 47 [vR 237, vI x1, vI x2] [vI y9] I8 K
    refine G_i1 (C := ¬ y9 = 0) rc_154_47 rfl (fun c10 => ?_) (fun c10 => ?_)
    · rw [if_neg c10] at h
      show GO S0 154 33 [vR 237, vI x1, vI x2] [] I8 K
      exact h
    · rw [if_pos (Classical.not_not.mp c10)] at h
      show GO S0 154 50 [vR 237, vI x1, vI x2] [] I8 K
      refine G_const rc_154_50 (by decide) ?_
      exact G_retI rc_154_51 (Or.inl rfl) h
def D154_0 (x1 : Int) (I : IM) (K : Option AV → IM → Prop) : Prop :=
  (inR (x1 + 1)) ∧ CALL S0 149 [vR 237, vI 1, vI (x1 + 1), vI 3] I (fun v I2 => ∃ y3 : Int, v = some (vI y3) ∧ (if y3 < 0 then (K (some (vI (-1))) I2) else (CALL S0 151 [vR 237, vI 58] I2 (fun v I5 => ∃ y6 : Int, v = some (vI y6) ∧ (if y6 = 0 then (K (some (vI (-1))) I5) else (CALL S0 155 [vR 237, vI y3] I5 (fun v I8 => ∃ y9 : Int, v = some (vI y9) ∧ (if y9 = 0 then (K (some (vI (-1))) I8) else (GO S0 154 33 [vR 237, vI x1, vI y3] [] I8 K)))))))))
set_option maxRecDepth 10000 in
theorem g154_0 (x1 : Int) (I : IM) (K : Option AV → IM → Prop) (h : D154_0 x1 I K) : GO S0 154 0 [vR 237, vI x1, vU] [] I K := by
  unfold D154_0 at h
  refine G_loadR rc_154_0 rfl ?_
  refine G_const rc_154_1 (by decide) ?_
  refine G_loadI rc_154_2 rfl ?_
  refine G_const rc_154_3 (by decide) ?_
  obtain ⟨c1, h⟩ := h
  refine G_bop (z := x1 + 1) rc_154_4 (if_pos c1) ?_
  show GO S0 154 5 [vR 237, vI x1, vU] [vI (x1 + 1), vI 1, vR 237] I K
  refine G_const rc_154_5 (by decide) ?_
  refine G_call (as := [vR 237, vI 1, vI (x1 + 1), vI 3]) (rest := []) rc_154_6 rfl rfl rfl (Nat.le_of_ble_eq_true rfl) (g_recv s0_237 rfl) ?_
  refine GO.imp h (fun v I2 h => ?_)
  obtain ⟨y3, rfl, h⟩ := h
  show GO S0 154 9 [vR 237, vI x1, vU] [vI y3] I2 K
  refine G_storeI rc_154_9 (Nat.le_of_ble_eq_true rfl) ?_
  show GO S0 154 10 [vR 237, vI x1, vI y3] [] I2 K
  refine G_loadI rc_154_10 rfl ?_
  refine G_i1 (C := y3 < 0) rc_154_11 rfl (fun c4 => ?_) (fun c4 => ?_)
  · rw [if_pos c4] at h
    show GO S0 154 31 [vR 237, vI x1, vI y3] [] I2 K
    refine G_const rc_154_31 (by decide) ?_
    exact G_retI rc_154_32 (Or.inl rfl) h
  · rw [if_neg c4] at h
    show GO S0 154 14 [vR 237, vI x1, vI y3] [] I2 K
    refine G_loadR rc_154_14 rfl ?_
    refine G_const rc_154_15 (by decide) ?_
    refine G_call (as := [vR 237, vI 58]) (rest := []) rc_154_17 rfl rfl rfl (Nat.le_of_ble_eq_true rfl) (g_recv s0_237 rfl) ?_
    refine GO.imp h (fun v I5 h => ?_)
    obtain ⟨y6, rfl, h⟩ := h
    show GO S0 154 20 [vR 237, vI x1, vI y3] [vI y6] I5 K
    refine G_i1 (C := y6 = 0) rc_154_20 rfl (fun c7 => ?_) (fun c7 => ?_)
    · rw [if_pos c7] at h
      show GO S0 154 31 [vR 237, vI x1, vI y3] [] I5 K
      refine G_const rc_154_31 (by decide) ?_
      exact G_retI rc_154_32 (Or.inl rfl) h
    · rw [if_neg c7] at h
      show GO S0 154 23 [vR 237, vI x1, vI y3] [] I5 K
      refine G_loadR rc_154_23 rfl ?_
      refine G_loadI rc_154_24 rfl ?_
      refine G_call (as := [vR 237, vI y3]) (rest := []) rc_154_25 rfl rfl rfl (Nat.le_of_ble_eq_true rfl) (g_recv s0_237 rfl) ?_
      refine GO.imp h (fun v I8 h => ?_)
      obtain ⟨y9, rfl, h⟩ := h
      show GO S0 154 28 [vR 237, vI x1, vI y3] [vI y9] I8 K
      refine G_i1 (C := ¬ y9 = 0) rc_154_28 rfl (fun c10 => ?_) (fun c10 => ?_)
      · rw [if_neg c10] at h
        show GO S0 154 33 [vR 237, vI x1, vI y3] [] I8 K
        exact h
      · rw [if_pos (Classical.not_not.mp c10)] at h
        show GO S0 154 31 [vR 237, vI x1, vI y3] [] I8 K
        refine G_const rc_154_31 (by decide) ?_
        exact G_retI rc_154_32 (Or.inl rfl) h
/-! 155: RoundSlackModel.readsStop(I)Z -/
def D155_0 (x1 : Int) (I : IM) (K : Option AV → IM → Prop) : Prop :=
  (inR ((I 238 5) - 1)) ∧ CALL S0 149 [vR 237, vI 2, vI 0, vI ((I 238 5) - 1)] I (fun v I2 => ∃ y3 : Int, v = some (vI y3) ∧ (if (0 : Int) ≤ y3 then ((if iandF (ishrF (I2 237 19) y3) 1 = 1 then (∀ I10 : IM, I10 = iup I2 237 17 (I 237 17) → K (some (vI 0)) I10) else (∀ I6 : IM, I6 = iup I2 237 19 (iorF (I2 237 19) (ishlF 1 y3)) → CALL S0 156 [vR 237, vR 242, vI x1] I6 (fun v I7 => ∃ y8 : Int, v = some (vI y8) ∧ CALL S0 157 [vR 242, vI x1, vI y8, vI y3] I7 (fun v I9 => v = none ∧ K (some (vI 1)) I9))))) else (K (some (vI 0)) I2)))
set_option maxRecDepth 10000 in
theorem g155_0 (x1 : Int) (I : IM) (K : Option AV → IM → Prop) (h : D155_0 x1 I K) : GO S0 155 0 [vR 237, vI x1, vU, vU] [] I K := by
  unfold D155_0 at h
  refine G_loadR rc_155_0 rfl ?_
  refine G_getI rc_155_1 s0_237 (by decide) ?_
  show GO S0 155 4 [vR 237, vI x1, vU, vU] [vI (I 237 17)] I K
  refine G_storeI rc_155_4 (Nat.le_of_ble_eq_true rfl) ?_
  show GO S0 155 5 [vR 237, vI x1, vI (I 237 17), vU] [] I K
  refine G_loadR rc_155_5 rfl ?_
  refine G_const rc_155_6 (by decide) ?_
  refine G_const rc_155_7 (by decide) ?_
  refine G_loadR rc_155_8 rfl ?_
  refine G_getR rc_155_9 s0_237 (by decide) rfl (by decide) ?_
  show GO S0 155 12 [vR 237, vI x1, vI (I 237 17), vU] [vR 238, vI 0, vI 2, vR 237] I K
  refine G_const rc_155_12 (by decide) ?_
  refine G_ald rc_155_13 s0_238 (by decide) (by decide) ?_
  show GO S0 155 14 [vR 237, vI x1, vI (I 237 17), vU] [vI (I 238 5), vI 0, vI 2, vR 237] I K
  refine G_const rc_155_14 (by decide) ?_
  obtain ⟨c1, h⟩ := h
  refine G_bop (z := (I 238 5) - 1) rc_155_15 (if_pos c1) ?_
  show GO S0 155 16 [vR 237, vI x1, vI (I 237 17), vU] [vI ((I 238 5) - 1), vI 0, vI 2, vR 237] I K
  refine G_call (as := [vR 237, vI 2, vI 0, vI ((I 238 5) - 1)]) (rest := []) rc_155_16 rfl rfl rfl (Nat.le_of_ble_eq_true rfl) (g_recv s0_237 rfl) ?_
  refine GO.imp h (fun v I2 h => ?_)
  obtain ⟨y3, rfl, h⟩ := h
  show GO S0 155 19 [vR 237, vI x1, vI (I 237 17), vU] [vI y3] I2 K
  refine G_storeI rc_155_19 (Nat.le_of_ble_eq_true rfl) ?_
  show GO S0 155 20 [vR 237, vI x1, vI (I 237 17), vI y3] [] I2 K
  refine G_loadI rc_155_20 rfl ?_
  refine G_i1 (C := (0 : Int) ≤ y3) rc_155_21 rfl (fun c4 => ?_) (fun c4 => ?_)
  · rw [if_pos c4] at h
    show GO S0 155 26 [vR 237, vI x1, vI (I 237 17), vI y3] [] I2 K
    refine G_loadR rc_155_26 rfl ?_
    refine G_getI rc_155_27 s0_237 (by decide) ?_
    show GO S0 155 30 [vR 237, vI x1, vI (I 237 17), vI y3] [vI (I2 237 19)] I2 K
    refine G_loadI rc_155_30 rfl ?_
    refine G_bop (z := ishrF (I2 237 19) y3) rc_155_31 rfl ?_
    show GO S0 155 32 [vR 237, vI x1, vI (I 237 17), vI y3] [vI (ishrF (I2 237 19) y3)] I2 K
    refine G_const rc_155_32 (by decide) ?_
    refine G_bop (z := iandF (ishrF (I2 237 19) y3) 1) rc_155_33 rfl ?_
    show GO S0 155 34 [vR 237, vI x1, vI (I 237 17), vI y3] [vI (iandF (ishrF (I2 237 19) y3) 1)] I2 K
    refine G_const rc_155_34 (by decide) ?_
    refine G_i2 (C := ¬ iandF (ishrF (I2 237 19) y3) 1 = 1) rc_155_35 rfl (fun c5 => ?_) (fun c5 => ?_)
    · rw [if_neg c5] at h
      show GO S0 155 45 [vR 237, vI x1, vI (I 237 17), vI y3] [] I2 K
      refine G_loadR rc_155_45 rfl ?_
      refine G_dupR rc_155_46 ?_
      refine G_getI rc_155_47 s0_237 (by decide) ?_
      show GO S0 155 50 [vR 237, vI x1, vI (I 237 17), vI y3] [vI (I2 237 19), vR 237] I2 K
      refine G_const rc_155_50 (by decide) ?_
      refine G_loadI rc_155_51 rfl ?_
      refine G_bop (z := ishlF 1 y3) rc_155_52 rfl ?_
      show GO S0 155 53 [vR 237, vI x1, vI (I 237 17), vI y3] [vI (ishlF 1 y3), vI (I2 237 19), vR 237] I2 K
      refine G_bop (z := iorF (I2 237 19) (ishlF 1 y3)) rc_155_53 rfl ?_
      show GO S0 155 54 [vR 237, vI x1, vI (I 237 17), vI y3] [vI (iorF (I2 237 19) (ishlF 1 y3)), vR 237] I2 K
      refine G_putI rc_155_54 s0_237 (by decide) (Or.inl rfl) ?_
      show GO S0 155 57 [vR 237, vI x1, vI (I 237 17), vI y3] [] (iup I2 237 19 (iorF (I2 237 19) (ishlF 1 y3))) K
      have h := h _ rfl
      generalize iup I2 237 19 (iorF (I2 237 19) (ishlF 1 y3)) = I6 at h ⊢
      refine G_loadR rc_155_57 rfl ?_
      refine G_getR rc_155_58 s0_237 (by decide) rfl (by decide) ?_
      show GO S0 155 61 [vR 237, vI x1, vI (I 237 17), vI y3] [vR 242] I6 K
      refine G_loadI rc_155_61 rfl ?_
      refine G_loadR rc_155_62 rfl ?_
      refine G_loadR rc_155_63 rfl ?_
      refine G_getR rc_155_64 s0_237 (by decide) rfl (by decide) ?_
      show GO S0 155 67 [vR 237, vI x1, vI (I 237 17), vI y3] [vR 242, vR 237, vI x1, vR 242] I6 K
      refine G_loadI rc_155_67 rfl ?_
      refine G_call (as := [vR 237, vR 242, vI x1]) (rest := [vI x1, vR 242]) rc_155_68 rfl rfl rfl (Nat.le_of_ble_eq_true rfl) (g_recv s0_237 rfl) ?_
      refine GO.imp h (fun v I7 h => ?_)
      obtain ⟨y8, rfl, h⟩ := h
      show GO S0 155 71 [vR 237, vI x1, vI (I 237 17), vI y3] [vI y8, vI x1, vR 242] I7 K
      refine G_loadI rc_155_71 rfl ?_
      refine G_call (as := [vR 242, vI x1, vI y8, vI y3]) (rest := []) rc_155_72 rfl rfl rfl (Nat.le_of_ble_eq_true rfl) rfl ?_
      refine GO.imp h (fun v I9 h => ?_)
      obtain ⟨rfl, h⟩ := h
      show GO S0 155 75 [vR 237, vI x1, vI (I 237 17), vI y3] [] I9 K
      refine G_const rc_155_75 (by decide) ?_
      exact G_retI rc_155_76 (Or.inr (by decide)) h
    · rw [if_pos (Classical.not_not.mp c5)] at h
      show GO S0 155 38 [vR 237, vI x1, vI (I 237 17), vI y3] [] I2 K
      refine G_loadR rc_155_38 rfl ?_
      refine G_loadI rc_155_39 rfl ?_
      refine G_putI rc_155_40 s0_237 (by decide) (Or.inl rfl) ?_
      show GO S0 155 43 [vR 237, vI x1, vI (I 237 17), vI y3] [] (iup I2 237 17 (I 237 17)) K
      have h := h _ rfl
      generalize iup I2 237 17 (I 237 17) = I10 at h ⊢
      refine G_const rc_155_43 (by decide) ?_
      exact G_retI rc_155_44 (Or.inr (by decide)) h
  · rw [if_neg c4] at h
    show GO S0 155 24 [vR 237, vI x1, vI (I 237 17), vI y3] [] I2 K
    refine G_const rc_155_24 (by decide) ?_
    exact G_retI rc_155_25 (Or.inr (by decide)) h
