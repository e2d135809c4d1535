/-! 60: RoundSlack$Rounds.placeOf(I)I -/
def D60_9 (r0 : Nat) (x1 : Int) (x2 : Int) (x3 : Int) (I : IM) (K : Option AV → IM → Prop) : Prop :=
  (0 ≤ x2 ∧ x2 < 4) ∧ (if I (r0 + 1) (x2).toNat ≤ x3 then ((inR (x2 + 1)) ∧ GO S0 60 2 [vR r0, vI x1, vI (x2 + 1), vI x3] [] I K) else ((0 ≤ x3 ∧ x3 < 12) ∧ (if I (r0 + 3 + (x2).toNat) (x3).toNat = x1 then (K (some (vI x3)) I) else ((inR (x3 + 1)) ∧ GO S0 60 9 [vR r0, vI x1, vI x2, vI (x3 + 1)] [] I K))))
set_option maxRecDepth 10000 in
theorem g60_9 (r0 : Nat) (h0 : isRd r0) (x1 : Int) (x2 : Int) (x3 : Int) (I : IM) (K : Option AV → IM → Prop) (h : D60_9 r0 x1 x2 x3 I K) : GO S0 60 9 [vR r0, vI x1, vI x2, vI x3] [] I K := by
  unfold D60_9 at h
  refine G_loadI rc_60_9 rfl ?_
  refine G_loadR rc_60_10 rfl ?_
  refine G_getR rc_60_11 (rd_0 h0) (by decide) rfl (by have := rd_lt h0; omega) ?_
  show GO S0 60 14 [vR r0, vI x1, vI x2, vI x3] [vR (r0 + 1), vI x3] I K
  refine G_loadI rc_60_14 rfl ?_
  obtain ⟨c1, h⟩ := h
  refine G_ald rc_60_15 (rd_1 h0) (by omega) (by omega) ?_
  show GO S0 60 16 [vR r0, vI x1, vI x2, vI x3] [vI (I (r0 + 1) (x2).toNat), vI x3] I K
  refine G_i2 (C := I (r0 + 1) (x2).toNat ≤ x3) rc_60_16 rfl (fun c2 => ?_) (fun c2 => ?_)
  · rw [if_pos c2] at h
    show GO S0 60 39 [vR r0, vI x1, vI x2, vI x3] [] I K
    obtain ⟨c3, h⟩ := h
    refine G_iinc rc_60_39 rfl c3 ?_
    show GO S0 60 42 [vR r0, vI x1, vI (x2 + 1), vI x3] [] I K
    refine G_goto rc_60_42 ?_
    show GO S0 60 2 [vR r0, vI x1, vI (x2 + 1), vI x3] [] I K
    exact h
  · rw [if_neg c2] at h
    show GO S0 60 19 [vR r0, vI x1, vI x2, vI x3] [] I K
    refine G_loadR rc_60_19 rfl ?_
    refine G_getR rc_60_20 (rd_0 h0) (by decide) rfl (by have := rd_lt h0; omega) ?_
    show GO S0 60 23 [vR r0, vI x1, vI x2, vI x3] [vR (r0 + 2)] I K
    refine G_loadI rc_60_23 rfl ?_
    refine G_aldR rc_60_24 (rd_2 h0) (Or.inl rfl) (by omega) (by omega) (rd_row (i := (x2).toNat) (by omega)) (by have := rd_lt h0; omega) ?_
    show GO S0 60 25 [vR r0, vI x1, vI x2, vI x3] [vR (r0 + 3 + (x2).toNat)] I K
    refine G_loadI rc_60_25 rfl ?_
    obtain ⟨c4, h⟩ := h
    refine G_ald rc_60_26 (rd_3 (i := (x2).toNat) h0 (by omega)) (by omega) (by omega) ?_
    show GO S0 60 27 [vR r0, vI x1, vI x2, vI x3] [vI (I (r0 + 3 + (x2).toNat) (x3).toNat)] I K
    refine G_loadI rc_60_27 rfl ?_
    refine G_i2 (C := ¬ I (r0 + 3 + (x2).toNat) (x3).toNat = x1) rc_60_28 rfl (fun c5 => ?_) (fun c5 => ?_)
    · rw [if_neg c5] at h
      show GO S0 60 33 [vR r0, vI x1, vI x2, vI x3] [] I K
      obtain ⟨c6, h⟩ := h
      refine G_iinc rc_60_33 rfl c6 ?_
      show GO S0 60 36 [vR r0, vI x1, vI x2, vI (x3 + 1)] [] I K
      refine G_goto rc_60_36 ?_
      show GO S0 60 9 [vR r0, vI x1, vI x2, vI (x3 + 1)] [] I K
      exact h
    · rw [if_pos (Classical.not_not.mp c5)] at h
      show GO S0 60 31 [vR r0, vI x1, vI x2, vI x3] [] I K
      refine G_loadI rc_60_31 rfl ?_
      exact G_retI rc_60_32 (Or.inl rfl) h
def D60_2 (r0 : Nat) (x1 : Int) (x2 : Int) (u3 : AV) (I : IM) (K : Option AV → IM → Prop) : Prop :=
  (if (4 : Int) ≤ x2 then (K (some (vI (-1))) I) else (GO S0 60 9 [vR r0, vI x1, vI x2, vI 0] [] I K))
set_option maxRecDepth 10000 in
theorem g60_2 (r0 : Nat) (h0 : isRd r0) (x1 : Int) (x2 : Int) (u3 : AV) (I : IM) (K : Option AV → IM → Prop) (h : D60_2 r0 x1 x2 u3 I K) : GO S0 60 2 [vR r0, vI x1, vI x2, u3] [] I K := by
  unfold D60_2 at h
  refine G_loadI rc_60_2 rfl ?_
  refine G_const rc_60_3 (by decide) ?_
  refine G_i2 (C := (4 : Int) ≤ x2) rc_60_4 rfl (fun c1 => ?_) (fun c1 => ?_)
  · rw [if_pos c1] at h
    show GO S0 60 45 [vR r0, vI x1, vI x2, u3] [] I K
    refine G_const rc_60_45 (by decide) ?_
    exact G_retI rc_60_46 (Or.inl rfl) h
  · rw [if_neg c1] at h
    show GO S0 60 7 [vR r0, vI x1, vI x2, u3] [] I K
    refine G_const rc_60_7 (by decide) ?_
    refine G_storeI rc_60_8 (Nat.le_of_ble_eq_true rfl) ?_
    show GO S0 60 9 [vR r0, vI x1, vI x2, vI 0] [] I K
    exact h
def D60_0 (r0 : Nat) (x1 : Int) (I : IM) (K : Option AV → IM → Prop) : Prop :=
  GO S0 60 2 [vR r0, vI x1, vI 0, vU] [] I K
set_option maxRecDepth 10000 in
theorem g60_0 (r0 : Nat) (h0 : isRd r0) (x1 : Int) (I : IM) (K : Option AV → IM → Prop) (h : D60_0 r0 x1 I K) : GO S0 60 0 [vR r0, vI x1, vU, vU] [] I K := by
  unfold D60_0 at h
  refine G_const rc_60_0 (by decide) ?_
  refine G_storeI rc_60_1 (Nat.le_of_ble_eq_true rfl) ?_
  show GO S0 60 2 [vR r0, vI x1, vI 0, vU] [] I K
  exact h
/-! 61: RoundSlack.stops(I)I -/
def D61_0 (x1 : Int) (I : IM) (K : Option AV → IM → Prop) : Prop :=
  CALL S0 24 [vI x1] I (fun v I1 => ∃ y2 : Int, v = some (vI y2) ∧ (if y2 = 0 then (K (some (vI (-1))) I1) else ((0 ≤ x1 ∧ x1 < 4) ∧ K (some (vI (I1 30 (x1).toNat))) I1)))
set_option maxRecDepth 10000 in
theorem g61_0 (x1 : Int) (I : IM) (K : Option AV → IM → Prop) (h : D61_0 x1 I K) : GO S0 61 0 [vR 0, vI x1] [] I K := by
  unfold D61_0 at h
  refine G_loadI rc_61_0 rfl ?_
  refine G_call (as := [vI x1]) (rest := []) rc_61_1 rfl rfl rfl (Nat.le_of_ble_eq_true rfl) rfl ?_
  refine GO.imp h (fun v I1 h => ?_)
  obtain ⟨y2, rfl, h⟩ := h
  show GO S0 61 4 [vR 0, vI x1] [vI y2] I1 K
  refine G_i1 (C := y2 = 0) rc_61_4 rfl (fun c3 => ?_) (fun c3 => ?_)
  · rw [if_pos c3] at h
    show GO S0 61 19 [vR 0, vI x1] [] I1 K
    refine G_const rc_61_19 (by decide) ?_
    exact G_retI rc_61_20 (Or.inl rfl) h
  · rw [if_neg c3] at h
    show GO S0 61 7 [vR 0, vI x1] [] I1 K
    refine G_loadR rc_61_7 rfl ?_
    refine G_getR rc_61_8 s0_0 (by decide) rfl (by decide) ?_
    show GO S0 61 11 [vR 0, vI x1] [vR 29] I1 K
    refine G_getR rc_61_11 s0_29 (by decide) rfl (by decide) ?_
    show GO S0 61 14 [vR 0, vI x1] [vR 30] I1 K
    refine G_loadI rc_61_14 rfl ?_
    obtain ⟨c4, h⟩ := h
    refine G_ald rc_61_15 s0_30 (by omega) (by omega) ?_
    show GO S0 61 16 [vR 0, vI x1] [vI (I1 30 (x1).toNat)] I1 K
    refine G_goto rc_61_16 ?_
    show GO S0 61 20 [vR 0, vI x1] [vI (I1 30 (x1).toNat)] I1 K
    exact G_retI rc_61_20 (Or.inl rfl) h
/-! 62: RoundSlack.stop(II)I -/
def D62_0 (x1 : Int) (x2 : Int) (I : IM) (K : Option AV → IM → Prop) : Prop :=
  CALL S0 24 [vI x1] I (fun v I1 => ∃ y2 : Int, v = some (vI y2) ∧ (if y2 = 0 then (K (some (vI (-1))) I1) else ((0 ≤ x1 ∧ x1 < 4) ∧ (inR ((I1 30 (x1).toNat) - 1)) ∧ CALL S0 14 [vI x2, vI 0, vI ((I1 30 (x1).toNat) - 1)] I1 (fun v I6 => ∃ y7 : Int, v = some (vI y7) ∧ (if y7 = 0 then (K (some (vI (-1))) I6) else ((0 ≤ x2 ∧ x2 < 12) ∧ K (some (vI (I6 (29 + 3 + (x1).toNat) (x2).toNat))) I6))))))
set_option maxRecDepth 10000 in
theorem g62_0 (x1 : Int) (x2 : Int) (I : IM) (K : Option AV → IM → Prop) (h : D62_0 x1 x2 I K) : GO S0 62 0 [vR 0, vI x1, vI x2] [] I K := by
  unfold D62_0 at h
  refine G_loadI rc_62_0 rfl ?_
  refine G_call (as := [vI x1]) (rest := []) rc_62_1 rfl rfl rfl (Nat.le_of_ble_eq_true rfl) rfl ?_
  refine GO.imp h (fun v I1 h => ?_)
  obtain ⟨y2, rfl, h⟩ := h
  show GO S0 62 4 [vR 0, vI x1, vI x2] [vI y2] I1 K
  refine G_i1 (C := y2 = 0) rc_62_4 rfl (fun c3 => ?_) (fun c3 => ?_)
  · rw [if_pos c3] at h
    show GO S0 62 26 [vR 0, vI x1, vI x2] [] I1 K
    refine G_const rc_62_26 (by decide) ?_
    exact G_retI rc_62_27 (Or.inl rfl) h
  · rw [if_neg c3] at h
    show GO S0 62 7 [vR 0, vI x1, vI x2] [] I1 K
    refine G_loadI rc_62_7 rfl ?_
    refine G_const rc_62_8 (by decide) ?_
    refine G_loadR rc_62_9 rfl ?_
    refine G_getR rc_62_10 s0_0 (by decide) rfl (by decide) ?_
    show GO S0 62 13 [vR 0, vI x1, vI x2] [vR 29, vI 0, vI x2] I1 K
    refine G_getR rc_62_13 s0_29 (by decide) rfl (by decide) ?_
    show GO S0 62 16 [vR 0, vI x1, vI x2] [vR 30, vI 0, vI x2] I1 K
    refine G_loadI rc_62_16 rfl ?_
    obtain ⟨c4, h⟩ := h
    refine G_ald rc_62_17 s0_30 (by omega) (by omega) ?_
    show GO S0 62 18 [vR 0, vI x1, vI x2] [vI (I1 30 (x1).toNat), vI 0, vI x2] I1 K
    refine G_const rc_62_18 (by decide) ?_
    obtain ⟨c5, h⟩ := h
    refine G_bop (z := (I1 30 (x1).toNat) - 1) rc_62_19 (if_pos c5) ?_
    show GO S0 62 20 [vR 0, vI x1, vI x2] [vI ((I1 30 (x1).toNat) - 1), vI 0, vI x2] I1 K
    refine G_call (as := [vI x2, vI 0, vI ((I1 30 (x1).toNat) - 1)]) (rest := []) rc_62_20 rfl rfl rfl (Nat.le_of_ble_eq_true rfl) rfl ?_
    refine GO.imp h (fun v I6 h => ?_)
    obtain ⟨y7, rfl, h⟩ := h
    show GO S0 62 23 [vR 0, vI x1, vI x2] [vI y7] I6 K
    refine G_i1 (C := ¬ y7 = 0) rc_62_23 rfl (fun c8 => ?_) (fun c8 => ?_)
    · rw [if_neg c8] at h
      show GO S0 62 28 [vR 0, vI x1, vI x2] [] I6 K
      refine G_loadR rc_62_28 rfl ?_
      refine G_getR rc_62_29 s0_0 (by decide) rfl (by decide) ?_
      show GO S0 62 32 [vR 0, vI x1, vI x2] [vR 29] I6 K
      refine G_getR rc_62_32 s0_29 (by decide) rfl (by decide) ?_
      show GO S0 62 35 [vR 0, vI x1, vI x2] [vR 31] I6 K
      refine G_loadI rc_62_35 rfl ?_
      refine G_aldR rc_62_36 s0_31 (Or.inl rfl) (by omega) (by omega) (rd_row (r := 29) (i := (x1).toNat) (by omega)) (by omega) ?_
      show GO S0 62 37 [vR 0, vI x1, vI x2] [vR (29 + 3 + (x1).toNat)] I6 K
      refine G_loadI rc_62_37 rfl ?_
      obtain ⟨c9, h⟩ := h
      refine G_ald rc_62_38 (rd_3 (r := 29) (i := (x1).toNat) (by unfold isRd; decide) (by omega)) (by omega) (by omega) ?_
      show GO S0 62 39 [vR 0, vI x1, vI x2] [vI (I6 (29 + 3 + (x1).toNat) (x2).toNat)] I6 K
      exact G_retI rc_62_39 (Or.inl rfl) h
    · rw [if_pos (Classical.not_not.mp c8)] at h
      show GO S0 62 26 [vR 0, vI x1, vI x2] [] I6 K
      refine G_const rc_62_26 (by decide) ?_
      exact G_retI rc_62_27 (Or.inl rfl) h
/-! 63: RoundSlack.driven(III)I -/
def D63_0 (x1 : Int) (x2 : Int) (x3 : Int) (I : IM) (K : Option AV → IM → Prop) : Prop :=
  CALL S0 64 [vR 0, vI x1, vI x2] I (fun v I1 => ∃ y2 : Int, v = some (vI y2) ∧ (if y2 = 0 then (K (some (vI (-1))) I1) else (CALL S0 14 [vI x3, vI 0, vI 4] I1 (fun v I4 => ∃ y5 : Int, v = some (vI y5) ∧ (if y5 = 0 then (K (some (vI (-1))) I4) else (CALL S0 65 [vR 194, vR 29, vI x1, vI x2] I4 (fun v I7 => v = none ∧ (if x3 = 0 then (K (some (vI (I7 194 2))) I7) else (if x3 = 1 then ((inR ((I7 194 3) - (I7 194 2))) ∧ K (some (vI ((I7 194 3) - (I7 194 2)))) I7) else (if x3 = 2 then (K (some (vI (I7 194 3))) I7) else (if x3 = 3 then (K (some (vI (I7 194 4))) I7) else (K (some (vI (I7 194 5))) I7))))))))))))
set_option maxRecDepth 10000 in
theorem g63_0 (x1 : Int) (x2 : Int) (x3 : Int) (I : IM) (K : Option AV → IM → Prop) (h : D63_0 x1 x2 x3 I K) : GO S0 63 0 [vR 0, vI x1, vI x2, vI x3] [] I K := by
  unfold D63_0 at h
  refine G_loadR rc_63_0 rfl ?_
  refine G_loadI rc_63_1 rfl ?_
  refine G_loadI rc_63_2 rfl ?_
  refine G_call (as := [vR 0, vI x1, vI x2]) (rest := []) rc_63_3 rfl rfl rfl (Nat.le_of_ble_eq_true rfl) (g_recv s0_0 rfl) ?_
  refine GO.imp h (fun v I1 h => ?_)
  obtain ⟨y2, rfl, h⟩ := h
  show GO S0 63 6 [vR 0, vI x1, vI x2, vI x3] [vI y2] I1 K
  refine G_i1 (C := y2 = 0) rc_63_6 rfl (fun c3 => ?_) (fun c3 => ?_)
  · rw [if_pos c3] at h
    show GO S0 63 18 [vR 0, vI x1, vI x2, vI x3] [] I1 K
    refine G_const rc_63_18 (by decide) ?_
    exact G_retI rc_63_19 (Or.inl rfl) h
  · rw [if_neg c3] at h
    show GO S0 63 9 [vR 0, vI x1, vI x2, vI x3] [] I1 K
    refine G_loadI rc_63_9 rfl ?_
    refine G_const rc_63_10 (by decide) ?_
    refine G_const rc_63_11 (by decide) ?_
    refine G_call (as := [vI x3, vI 0, vI 4]) (rest := []) rc_63_12 rfl rfl rfl (Nat.le_of_ble_eq_true rfl) rfl ?_
    refine GO.imp h (fun v I4 h => ?_)
    obtain ⟨y5, rfl, h⟩ := h
    show GO S0 63 15 [vR 0, vI x1, vI x2, vI x3] [vI y5] I4 K
    refine G_i1 (C := ¬ y5 = 0) rc_63_15 rfl (fun c6 => ?_) (fun c6 => ?_)
    · rw [if_neg c6] at h
      show GO S0 63 20 [vR 0, vI x1, vI x2, vI x3] [] I4 K
      refine G_loadR rc_63_20 rfl ?_
      refine G_getR rc_63_21 s0_0 (by decide) rfl (by decide) ?_
      show GO S0 63 24 [vR 0, vI x1, vI x2, vI x3] [vR 194] I4 K
      refine G_loadR rc_63_24 rfl ?_
      refine G_getR rc_63_25 s0_0 (by decide) rfl (by decide) ?_
      show GO S0 63 28 [vR 0, vI x1, vI x2, vI x3] [vR 29, vR 194] I4 K
      refine G_loadI rc_63_28 rfl ?_
      refine G_loadI rc_63_29 rfl ?_
      refine G_call (as := [vR 194, vR 29, vI x1, vI x2]) (rest := []) rc_63_30 rfl rfl rfl (Nat.le_of_ble_eq_true rfl) (g_recv s0_194 rfl) ?_
      refine GO.imp h (fun v I7 h => ?_)
      obtain ⟨rfl, h⟩ := h
      show GO S0 63 33 [vR 0, vI x1, vI x2, vI x3] [] I7 K
      refine G_loadI rc_63_33 rfl ?_
      refine G_switch rc_63_34 ?_
      show GO S0 63 (if x3 = 0 then 64 else if x3 = 1 then 72 else if x3 = 2 then 88 else if x3 = 3 then 96 else 104) [vR 0, vI x1, vI x2, vI x3] [] I7 K
      by_cases c8 : x3 = 0
      · rw [if_pos c8] at h
        rw [if_pos c8]
        show GO S0 63 64 [vR 0, vI x1, vI x2, vI x3] [] I7 K
        refine G_loadR rc_63_64 rfl ?_
        refine G_getR rc_63_65 s0_0 (by decide) rfl (by decide) ?_
        show GO S0 63 68 [vR 0, vI x1, vI x2, vI x3] [vR 194] I7 K
        refine G_getI rc_63_68 s0_194 (by decide) ?_
        show GO S0 63 71 [vR 0, vI x1, vI x2, vI x3] [vI (I7 194 2)] I7 K
        exact G_retI rc_63_71 (Or.inl rfl) h
      · rw [if_neg c8] at h
        rw [if_neg c8]
        by_cases c9 : x3 = 1
        · rw [if_pos c9] at h
          rw [if_pos c9]
          show GO S0 63 72 [vR 0, vI x1, vI x2, vI x3] [] I7 K
          refine G_loadR rc_63_72 rfl ?_
          refine G_getR rc_63_73 s0_0 (by decide) rfl (by decide) ?_
          show GO S0 63 76 [vR 0, vI x1, vI x2, vI x3] [vR 194] I7 K
          refine G_getI rc_63_76 s0_194 (by decide) ?_
          show GO S0 63 79 [vR 0, vI x1, vI x2, vI x3] [vI (I7 194 3)] I7 K
          refine G_loadR rc_63_79 rfl ?_
          refine G_getR rc_63_80 s0_0 (by decide) rfl (by decide) ?_
          show GO S0 63 83 [vR 0, vI x1, vI x2, vI x3] [vR 194, vI (I7 194 3)] I7 K
          refine G_getI rc_63_83 s0_194 (by decide) ?_
          show GO S0 63 86 [vR 0, vI x1, vI x2, vI x3] [vI (I7 194 2), vI (I7 194 3)] I7 K
          obtain ⟨c10, h⟩ := h
          refine G_bop (z := (I7 194 3) - (I7 194 2)) rc_63_86 (if_pos c10) ?_
          show GO S0 63 87 [vR 0, vI x1, vI x2, vI x3] [vI ((I7 194 3) - (I7 194 2))] I7 K
          exact G_retI rc_63_87 (Or.inl rfl) h
        · rw [if_neg c9] at h
          rw [if_neg c9]
          by_cases c11 : x3 = 2
          · rw [if_pos c11] at h
            rw [if_pos c11]
            show GO S0 63 88 [vR 0, vI x1, vI x2, vI x3] [] I7 K
            refine G_loadR rc_63_88 rfl ?_
            refine G_getR rc_63_89 s0_0 (by decide) rfl (by decide) ?_
            show GO S0 63 92 [vR 0, vI x1, vI x2, vI x3] [vR 194] I7 K
            refine G_getI rc_63_92 s0_194 (by decide) ?_
            show GO S0 63 95 [vR 0, vI x1, vI x2, vI x3] [vI (I7 194 3)] I7 K
            exact G_retI rc_63_95 (Or.inl rfl) h
          · rw [if_neg c11] at h
            rw [if_neg c11]
            by_cases c12 : x3 = 3
            · rw [if_pos c12] at h
              rw [if_pos c12]
              show GO S0 63 96 [vR 0, vI x1, vI x2, vI x3] [] I7 K
              refine G_loadR rc_63_96 rfl ?_
              refine G_getR rc_63_97 s0_0 (by decide) rfl (by decide) ?_
              show GO S0 63 100 [vR 0, vI x1, vI x2, vI x3] [vR 194] I7 K
              refine G_getI rc_63_100 s0_194 (by decide) ?_
              show GO S0 63 103 [vR 0, vI x1, vI x2, vI x3] [vI (I7 194 4)] I7 K
              exact G_retI rc_63_103 (Or.inl rfl) h
            · rw [if_neg c12] at h
              rw [if_neg c12]
              show GO S0 63 104 [vR 0, vI x1, vI x2, vI x3] [] I7 K
              refine G_loadR rc_63_104 rfl ?_
              refine G_getR rc_63_105 s0_0 (by decide) rfl (by decide) ?_
              show GO S0 63 108 [vR 0, vI x1, vI x2, vI x3] [vR 194] I7 K
              refine G_getI rc_63_108 s0_194 (by decide) ?_
              show GO S0 63 111 [vR 0, vI x1, vI x2, vI x3] [vI (I7 194 5)] I7 K
              exact G_retI rc_63_111 (Or.inl rfl) h
    · rw [if_pos (Classical.not_not.mp c6)] at h
      show GO S0 63 18 [vR 0, vI x1, vI x2, vI x3] [] I4 K
      refine G_const rc_63_18 (by decide) ?_
      exact G_retI rc_63_19 (Or.inl rfl) h
/-! 64: RoundSlack.isStopOrReturn(II)Z -/
def D64_0 (x1 : Int) (x2 : Int) (I : IM) (K : Option AV → IM → Prop) : Prop :=
  CALL S0 24 [vI x1] I (fun v I1 => ∃ y2 : Int, v = some (vI y2) ∧ (if y2 = 0 then (K (some (vI 0)) I1) else ((0 ≤ x1 ∧ x1 < 4) ∧ CALL S0 14 [vI x2, vI 0, vI (I1 30 (x1).toNat)] I1 (fun v I5 => ∃ y6 : Int, v = some (vI y6) ∧ (if y6 = 0 then (K (some (vI 0)) I5) else (K (some (vI 1)) I5))))))
set_option maxRecDepth 10000 in
theorem g64_0 (x1 : Int) (x2 : Int) (I : IM) (K : Option AV → IM → Prop) (h : D64_0 x1 x2 I K) : GO S0 64 0 [vR 0, vI x1, vI x2] [] I K := by
  unfold D64_0 at h
  refine G_loadI rc_64_0 rfl ?_
  refine G_call (as := [vI x1]) (rest := []) rc_64_1 rfl rfl rfl (Nat.le_of_ble_eq_true rfl) rfl ?_
  refine GO.imp h (fun v I1 h => ?_)
  obtain ⟨y2, rfl, h⟩ := h
  show GO S0 64 4 [vR 0, vI x1, vI x2] [vI y2] I1 K
  refine G_i1 (C := y2 = 0) rc_64_4 rfl (fun c3 => ?_) (fun c3 => ?_)
  · rw [if_pos c3] at h
    show GO S0 64 28 [vR 0, vI x1, vI x2] [] I1 K
    refine G_const rc_64_28 (by decide) ?_
    exact G_retI rc_64_29 (Or.inr (by decide)) h
  · rw [if_neg c3] at h
    show GO S0 64 7 [vR 0, vI x1, vI x2] [] I1 K
    refine G_loadI rc_64_7 rfl ?_
    refine G_const rc_64_8 (by decide) ?_
    refine G_loadR rc_64_9 rfl ?_
    refine G_getR rc_64_10 s0_0 (by decide) rfl (by decide) ?_
    show GO S0 64 13 [vR 0, vI x1, vI x2] [vR 29, vI 0, vI x2] I1 K
    refine G_getR rc_64_13 s0_29 (by decide) rfl (by decide) ?_
    show GO S0 64 16 [vR 0, vI x1, vI x2] [vR 30, vI 0, vI x2] I1 K
    refine G_loadI rc_64_16 rfl ?_
    obtain ⟨c4, h⟩ := h
    refine G_ald rc_64_17 s0_30 (by omega) (by omega) ?_
    show GO S0 64 18 [vR 0, vI x1, vI x2] [vI (I1 30 (x1).toNat), vI 0, vI x2] I1 K
    refine G_call (as := [vI x2, vI 0, vI (I1 30 (x1).toNat)]) (rest := []) rc_64_18 rfl rfl rfl (Nat.le_of_ble_eq_true rfl) rfl ?_
    refine GO.imp h (fun v I5 h => ?_)
    obtain ⟨y6, rfl, h⟩ := h
    show GO S0 64 21 [vR 0, vI x1, vI x2] [vI y6] I5 K
    refine G_i1 (C := y6 = 0) rc_64_21 rfl (fun c7 => ?_) (fun c7 => ?_)
    · rw [if_pos c7] at h
      show GO S0 64 28 [vR 0, vI x1, vI x2] [] I5 K
      refine G_const rc_64_28 (by decide) ?_
      exact G_retI rc_64_29 (Or.inr (by decide)) h
    · rw [if_neg c7] at h
      show GO S0 64 24 [vR 0, vI x1, vI x2] [] I5 K
      refine G_const rc_64_24 (by decide) ?_
      refine G_goto rc_64_25 ?_
      show GO S0 64 29 [vR 0, vI x1, vI x2] [vI 1] I5 K
      exact G_retI rc_64_29 (Or.inr (by decide)) h
/-! 65: RoundSlack$Drive.driveTo(LRoundSlack$Rounds;II)V -/
def D65_71 (r1 : Nat) (x2 : Int) (x3 : Int) (x4 : Int) (x5 : Int) (u6 : AV) (I : IM) (K : Option AV → IM → Prop) : Prop :=
  (if x3 < x5 then (K none I) else (CALL S0 66 [vR r1, vI x2, vI x5] I (fun v I2 => ∃ y3 : Int, v = some (vI y3) ∧ (0 ≤ x4 ∧ x4 < 13) ∧ (0 ≤ y3 ∧ y3 < 13) ∧ (inR ((I2 194 4) + (I2 (1 + 10 + (x4).toNat) (y3).toNat))) ∧ ∀ I7 : IM, I7 = iup I2 194 2 ((I2 194 4) + (I2 (1 + 10 + (x4).toNat) (y3).toNat)) → ∀ I8 : IM, I8 = iup I7 194 3 ((if I7 194 2 < I7 4 (y3).toNat then I7 4 (y3).toNat else I7 194 2)) → (inR ((I8 194 3) + (I8 6 (y3).toNat))) ∧ ∀ I10 : IM, I10 = iup I8 194 4 ((I8 194 3) + (I8 6 (y3).toNat)) → (inR ((I10 8 (y3).toNat) - (I10 7 (y3).toNat))) ∧ (inR ((I10 194 5) + ((I10 8 (y3).toNat) - (I10 7 (y3).toNat)))) ∧ ∀ I13 : IM, I13 = iup I10 194 5 ((I10 194 5) + ((I10 8 (y3).toNat) - (I10 7 (y3).toNat))) → (inR (x5 + 1)) ∧ GO S0 65 71 [vR 194, vR r1, vI x2, vI x3, vI y3, vI (x5 + 1), vI y3] [] I13 K)))
set_option maxRecDepth 10000 in
theorem g65_71 (r1 : Nat) (h1 : isRd r1) (x2 : Int) (x3 : Int) (x4 : Int) (x5 : Int) (u6 : AV) (I : IM) (K : Option AV → IM → Prop) (h : D65_71 r1 x2 x3 x4 x5 u6 I K) : GO S0 65 71 [vR 194, vR r1, vI x2, vI x3, vI x4, vI x5, u6] [] I K := by
  unfold D65_71 at h
  refine G_loadI rc_65_71 rfl ?_
  refine G_loadI rc_65_73 rfl ?_
  refine G_i2 (C := x3 < x5) rc_65_74 rfl (fun c1 => ?_) (fun c1 => ?_)
  · rw [if_pos c1] at h
    show GO S0 65 188 [vR 194, vR r1, vI x2, vI x3, vI x4, vI x5, u6] [] I K
    exact G_ret0 rc_65_188 h
  · rw [if_neg c1] at h
    show GO S0 65 77 [vR 194, vR r1, vI x2, vI x3, vI x4, vI x5, u6] [] I K
    refine G_loadR rc_65_77 rfl ?_
    refine G_loadI rc_65_78 rfl ?_
    refine G_loadI rc_65_79 rfl ?_
    refine G_call (as := [vR r1, vI x2, vI x5]) (rest := []) rc_65_81 rfl rfl rfl (Nat.le_of_ble_eq_true rfl) rfl ?_
    refine GO.imp h (fun v I2 h => ?_)
    obtain ⟨y3, rfl, h⟩ := h
    show GO S0 65 84 [vR 194, vR r1, vI x2, vI x3, vI x4, vI x5, u6] [vI y3] I2 K
    refine G_storeI rc_65_84 (Nat.le_of_ble_eq_true rfl) ?_
    show GO S0 65 86 [vR 194, vR r1, vI x2, vI x3, vI x4, vI x5, vI y3] [] I2 K
    refine G_loadR rc_65_86 rfl ?_
    refine G_loadR rc_65_87 rfl ?_
    refine G_getI rc_65_88 s0_194 (by decide) ?_
    show GO S0 65 91 [vR 194, vR r1, vI x2, vI x3, vI x4, vI x5, vI y3] [vI (I2 194 4), vR 194] I2 K
    refine G_loadR rc_65_91 rfl ?_
    refine G_getR rc_65_92 s0_194 (by decide) rfl (by decide) ?_
    show GO S0 65 95 [vR 194, vR r1, vI x2, vI x3, vI x4, vI x5, vI y3] [vR 1, vI (I2 194 4), vR 194] I2 K
    refine G_getR rc_65_95 s0_1 (by decide) rfl (by decide) ?_
    show GO S0 65 98 [vR 194, vR r1, vI x2, vI x3, vI x4, vI x5, vI y3] [vR 10, vI (I2 194 4), vR 194] I2 K
    refine G_loadI rc_65_98 rfl ?_
    obtain ⟨c4, h⟩ := h
    refine G_aldR rc_65_100 s0_10 (Or.inl rfl) (by omega) (by omega) (lrow (b := 11) (n := 13) (i := (x4).toNat) rfl (by omega)) (by omega) ?_
    show GO S0 65 101 [vR 194, vR r1, vI x2, vI x3, vI x4, vI x5, vI y3] [vR (1 + 10 + (x4).toNat), vI (I2 194 4), vR 194] I2 K
    refine G_loadI rc_65_101 rfl ?_
    obtain ⟨c5, h⟩ := h
    refine G_ald rc_65_103 (bk_10 (r := 1) (i := (x4).toNat) (by first | exact Or.inl rfl | exact Or.inr rfl) (by omega)) (by omega) (by omega) ?_
    show GO S0 65 104 [vR 194, vR r1, vI x2, vI x3, vI x4, vI x5, vI y3] [vI (I2 (1 + 10 + (x4).toNat) (y3).toNat), vI (I2 194 4), vR 194] I2 K
    obtain ⟨c6, h⟩ := h
    refine G_bop (z := (I2 194 4) + (I2 (1 + 10 + (x4).toNat) (y3).toNat)) rc_65_104 (if_pos c6) ?_
    show GO S0 65 105 [vR 194, vR r1, vI x2, vI x3, vI x4, vI x5, vI y3] [vI ((I2 194 4) + (I2 (1 + 10 + (x4).toNat) (y3).toNat)), vR 194] I2 K
    refine G_putI rc_65_105 s0_194 (by decide) (Or.inl rfl) ?_
    show GO S0 65 108 [vR 194, vR r1, vI x2, vI x3, vI x4, vI x5, vI y3] [] (iup I2 194 2 ((I2 194 4) + (I2 (1 + 10 + (x4).toNat) (y3).toNat))) K
    have h := h _ rfl
    generalize iup I2 194 2 ((I2 194 4) + (I2 (1 + 10 + (x4).toNat) (y3).toNat)) = I7 at h ⊢
    refine G_loadR rc_65_108 rfl ?_
    refine G_loadR rc_65_109 rfl ?_
    refine G_getI rc_65_110 s0_194 (by decide) ?_
    show GO S0 65 113 [vR 194, vR r1, vI x2, vI x3, vI x4, vI x5, vI y3] [vI (I7 194 2), vR 194] I7 K
    refine G_loadR rc_65_113 rfl ?_
    refine G_getR rc_65_114 s0_194 (by decide) rfl (by decide) ?_
    show GO S0 65 117 [vR 194, vR r1, vI x2, vI x3, vI x4, vI x5, vI y3] [vR 1, vI (I7 194 2), vR 194] I7 K
    refine G_getR rc_65_117 s0_1 (by decide) rfl (by decide) ?_
    show GO S0 65 120 [vR 194, vR r1, vI x2, vI x3, vI x4, vI x5, vI y3] [vR 4, vI (I7 194 2), vR 194] I7 K
    refine G_loadI rc_65_120 rfl ?_
    refine G_ald rc_65_122 s0_4 (by omega) (by omega) ?_
    show GO S0 65 123 [vR 194, vR r1, vI x2, vI x3, vI x4, vI x5, vI y3] [vI (I7 4 (y3).toNat), vI (I7 194 2), vR 194] I7 K
    refine G_max rc_65_123 (Nat.le_of_ble_eq_true rfl) ?_
    show GO S0 65 126 [vR 194, vR r1, vI x2, vI x3, vI x4, vI x5, vI y3] [vI ((if I7 194 2 < I7 4 (y3).toNat then I7 4 (y3).toNat else I7 194 2)), vR 194] I7 K
    refine G_putI rc_65_126 s0_194 (by decide) (Or.inl rfl) ?_
    show GO S0 65 129 [vR 194, vR r1, vI x2, vI x3, vI x4, vI x5, vI y3] [] (iup I7 194 3 ((if I7 194 2 < I7 4 (y3).toNat then I7 4 (y3).toNat else I7 194 2))) K
    have h := h _ rfl
    generalize iup I7 194 3 ((if I7 194 2 < I7 4 (y3).toNat then I7 4 (y3).toNat else I7 194 2)) = I8 at h ⊢
    refine G_loadR rc_65_129 rfl ?_
    refine G_loadR rc_65_130 rfl ?_
    refine G_getI rc_65_131 s0_194 (by decide) ?_
    show GO S0 65 134 [vR 194, vR r1, vI x2, vI x3, vI x4, vI x5, vI y3] [vI (I8 194 3), vR 194] I8 K
    refine G_loadR rc_65_134 rfl ?_
    refine G_getR rc_65_135 s0_194 (by decide) rfl (by decide) ?_
    show GO S0 65 138 [vR 194, vR r1, vI x2, vI x3, vI x4, vI x5, vI y3] [vR 1, vI (I8 194 3), vR 194] I8 K
    refine G_getR rc_65_138 s0_1 (by decide) rfl (by decide) ?_
    show GO S0 65 141 [vR 194, vR r1, vI x2, vI x3, vI x4, vI x5, vI y3] [vR 6, vI (I8 194 3), vR 194] I8 K
    refine G_loadI rc_65_141 rfl ?_
    refine G_ald rc_65_143 s0_6 (by omega) (by omega) ?_
    show GO S0 65 144 [vR 194, vR r1, vI x2, vI x3, vI x4, vI x5, vI y3] [vI (I8 6 (y3).toNat), vI (I8 194 3), vR 194] I8 K
    obtain ⟨c9, h⟩ := h
    refine G_bop (z := (I8 194 3) + (I8 6 (y3).toNat)) rc_65_144 (if_pos c9) ?_
    show GO S0 65 145 [vR 194, vR r1, vI x2, vI x3, vI x4, vI x5, vI y3] [vI ((I8 194 3) + (I8 6 (y3).toNat)), vR 194] I8 K
    refine G_putI rc_65_145 s0_194 (by decide) (Or.inl rfl) ?_
    show GO S0 65 148 [vR 194, vR r1, vI x2, vI x3, vI x4, vI x5, vI y3] [] (iup I8 194 4 ((I8 194 3) + (I8 6 (y3).toNat))) K
    have h := h _ rfl
    generalize iup I8 194 4 ((I8 194 3) + (I8 6 (y3).toNat)) = I10 at h ⊢
    refine G_loadR rc_65_148 rfl ?_
    refine G_dupR rc_65_149 ?_
    refine G_getI rc_65_150 s0_194 (by decide) ?_
    show GO S0 65 153 [vR 194, vR r1, vI x2, vI x3, vI x4, vI x5, vI y3] [vI (I10 194 5), vR 194] I10 K
    refine G_loadR rc_65_153 rfl ?_
    refine G_getR rc_65_154 s0_194 (by decide) rfl (by decide) ?_
    show GO S0 65 157 [vR 194, vR r1, vI x2, vI x3, vI x4, vI x5, vI y3] [vR 1, vI (I10 194 5), vR 194] I10 K
    refine G_getR rc_65_157 s0_1 (by decide) rfl (by decide) ?_
    show GO S0 65 160 [vR 194, vR r1, vI x2, vI x3, vI x4, vI x5, vI y3] [vR 8, vI (I10 194 5), vR 194] I10 K
    refine G_loadI rc_65_160 rfl ?_
    refine G_ald rc_65_162 s0_8 (by omega) (by omega) ?_
    show GO S0 65 163 [vR 194, vR r1, vI x2, vI x3, vI x4, vI x5, vI y3] [vI (I10 8 (y3).toNat), vI (I10 194 5), vR 194] I10 K
    refine G_loadR rc_65_163 rfl ?_
    refine G_getR rc_65_164 s0_194 (by decide) rfl (by decide) ?_
    show GO S0 65 167 [vR 194, vR r1, vI x2, vI x3, vI x4, vI x5, vI y3] [vR 1, vI (I10 8 (y3).toNat), vI (I10 194 5), vR 194] I10 K
    refine G_getR rc_65_167 s0_1 (by decide) rfl (by decide) ?_
    show GO S0 65 170 [vR 194, vR r1, vI x2, vI x3, vI x4, vI x5, vI y3] [vR 7, vI (I10 8 (y3).toNat), vI (I10 194 5), vR 194] I10 K
    refine G_loadI rc_65_170 rfl ?_
    refine G_ald rc_65_172 s0_7 (by omega) (by omega) ?_
    show GO S0 65 173 [vR 194, vR r1, vI x2, vI x3, vI x4, vI x5, vI y3] [vI (I10 7 (y3).toNat), vI (I10 8 (y3).toNat), vI (I10 194 5), vR 194] I10 K
    obtain ⟨c11, h⟩ := h
    refine G_bop (z := (I10 8 (y3).toNat) - (I10 7 (y3).toNat)) rc_65_173 (if_pos c11) ?_
    show GO S0 65 174 [vR 194, vR r1, vI x2, vI x3, vI x4, vI x5, vI y3] [vI ((I10 8 (y3).toNat) - (I10 7 (y3).toNat)), vI (I10 194 5), vR 194] I10 K
    obtain ⟨c12, h⟩ := h
    refine G_bop (z := (I10 194 5) + ((I10 8 (y3).toNat) - (I10 7 (y3).toNat))) rc_65_174 (if_pos c12) ?_
    show GO S0 65 175 [vR 194, vR r1, vI x2, vI x3, vI x4, vI x5, vI y3] [vI ((I10 194 5) + ((I10 8 (y3).toNat) - (I10 7 (y3).toNat))), vR 194] I10 K
    refine G_putI rc_65_175 s0_194 (by decide) (Or.inl rfl) ?_
    show GO S0 65 178 [vR 194, vR r1, vI x2, vI x3, vI x4, vI x5, vI y3] [] (iup I10 194 5 ((I10 194 5) + ((I10 8 (y3).toNat) - (I10 7 (y3).toNat)))) K
    have h := h _ rfl
    generalize iup I10 194 5 ((I10 194 5) + ((I10 8 (y3).toNat) - (I10 7 (y3).toNat))) = I13 at h ⊢
    refine G_loadI rc_65_178 rfl ?_
    refine G_storeI rc_65_180 (Nat.le_of_ble_eq_true rfl) ?_
    show GO S0 65 182 [vR 194, vR r1, vI x2, vI x3, vI y3, vI x5, vI y3] [] I13 K
    obtain ⟨c14, h⟩ := h
    refine G_iinc rc_65_182 rfl c14 ?_
    show GO S0 65 185 [vR 194, vR r1, vI x2, vI x3, vI y3, vI (x5 + 1), vI y3] [] I13 K
    refine G_goto rc_65_185 ?_
    show GO S0 65 71 [vR 194, vR r1, vI x2, vI x3, vI y3, vI (x5 + 1), vI y3] [] I13 K
    exact h
def D65_21 (r1 : Nat) (x2 : Int) (x3 : Int) (x4 : Int) (u5 : AV) (u6 : AV) (I : IM) (K : Option AV → IM → Prop) : Prop :=
  (0 ≤ x2 ∧ x2 < 4) ∧ (if I (r1 + 1) (x2).toNat ≤ x4 then (GO S0 65 71 [vR 194, vR r1, vI x2, vI x3, vI 12, vI 0, u6] [] I K) else ((0 ≤ x4 ∧ x4 < 12) ∧ (0 ≤ I (r1 + 3 + (x2).toNat) (x4).toNat ∧ I (r1 + 3 + (x2).toNat) (x4).toNat < 13) ∧ (inR ((I 194 5) + (I 7 (I (r1 + 3 + (x2).toNat) (x4).toNat).toNat))) ∧ ∀ I6 : IM, I6 = iup I 194 5 ((I 194 5) + (I 7 (I (r1 + 3 + (x2).toNat) (x4).toNat).toNat)) → (inR (x4 + 1)) ∧ GO S0 65 21 [vR 194, vR r1, vI x2, vI x3, vI (x4 + 1), u5, u6] [] I6 K))
set_option maxRecDepth 10000 in
theorem g65_21 (r1 : Nat) (h1 : isRd r1) (x2 : Int) (x3 : Int) (x4 : Int) (u5 : AV) (u6 : AV) (I : IM) (K : Option AV → IM → Prop) (h : D65_21 r1 x2 x3 x4 u5 u6 I K) : GO S0 65 21 [vR 194, vR r1, vI x2, vI x3, vI x4, u5, u6] [] I K := by
  unfold D65_21 at h
  refine G_loadI rc_65_21 rfl ?_
  refine G_loadR rc_65_23 rfl ?_
  refine G_getR rc_65_24 (rd_0 h1) (by decide) rfl (by have := rd_lt h1; omega) ?_
  show GO S0 65 27 [vR 194, vR r1, vI x2, vI x3, vI x4, u5, u6] [vR (r1 + 1), vI x4] I K
  refine G_loadI rc_65_27 rfl ?_
  obtain ⟨c1, h⟩ := h
  refine G_ald rc_65_28 (rd_1 h1) (by omega) (by omega) ?_
  show GO S0 65 29 [vR 194, vR r1, vI x2, vI x3, vI x4, u5, u6] [vI (I (r1 + 1) (x2).toNat), vI x4] I K
  refine G_i2 (C := I (r1 + 1) (x2).toNat ≤ x4) rc_65_29 rfl (fun c2 => ?_) (fun c2 => ?_)
  · rw [if_pos c2] at h
    show GO S0 65 64 [vR 194, vR r1, vI x2, vI x3, vI x4, u5, u6] [] I K
    refine G_const rc_65_64 (by decide) ?_
    refine G_storeI rc_65_66 (Nat.le_of_ble_eq_true rfl) ?_
    show GO S0 65 68 [vR 194, vR r1, vI x2, vI x3, vI 12, u5, u6] [] I K
    refine G_const rc_65_68 (by decide) ?_
    refine G_storeI rc_65_69 (Nat.le_of_ble_eq_true rfl) ?_
    show GO S0 65 71 [vR 194, vR r1, vI x2, vI x3, vI 12, vI 0, u6] [] I K
    exact h
  · rw [if_neg c2] at h
    show GO S0 65 32 [vR 194, vR r1, vI x2, vI x3, vI x4, u5, u6] [] I K
    refine G_loadR rc_65_32 rfl ?_
    refine G_dupR rc_65_33 ?_
    refine G_getI rc_65_34 s0_194 (by decide) ?_
    show GO S0 65 37 [vR 194, vR r1, vI x2, vI x3, vI x4, u5, u6] [vI (I 194 5), vR 194] I K
    refine G_loadR rc_65_37 rfl ?_
    refine G_getR rc_65_38 s0_194 (by decide) rfl (by decide) ?_
    show GO S0 65 41 [vR 194, vR r1, vI x2, vI x3, vI x4, u5, u6] [vR 1, vI (I 194 5), vR 194] I K
    refine G_getR rc_65_41 s0_1 (by decide) rfl (by decide) ?_
    show GO S0 65 44 [vR 194, vR r1, vI x2, vI x3, vI x4, u5, u6] [vR 7, vI (I 194 5), vR 194] I K
    refine G_loadR rc_65_44 rfl ?_
    refine G_getR rc_65_45 (rd_0 h1) (by decide) rfl (by have := rd_lt h1; omega) ?_
    show GO S0 65 48 [vR 194, vR r1, vI x2, vI x3, vI x4, u5, u6] [vR (r1 + 2), vR 7, vI (I 194 5), vR 194] I K
    refine G_loadI rc_65_48 rfl ?_
    refine G_aldR rc_65_49 (rd_2 h1) (Or.inl rfl) (by omega) (by omega) (rd_row (i := (x2).toNat) (by omega)) (by have := rd_lt h1; omega) ?_
    show GO S0 65 50 [vR 194, vR r1, vI x2, vI x3, vI x4, u5, u6] [vR (r1 + 3 + (x2).toNat), vR 7, vI (I 194 5), vR 194] I K
    refine G_loadI rc_65_50 rfl ?_
    obtain ⟨c3, h⟩ := h
    refine G_ald rc_65_52 (rd_3 (i := (x2).toNat) h1 (by omega)) (by omega) (by omega) ?_
    show GO S0 65 53 [vR 194, vR r1, vI x2, vI x3, vI x4, u5, u6] [vI (I (r1 + 3 + (x2).toNat) (x4).toNat), vR 7, vI (I 194 5), vR 194] I K
    obtain ⟨c4, h⟩ := h
    refine G_ald rc_65_53 s0_7 (by omega) (by omega) ?_
    show GO S0 65 54 [vR 194, vR r1, vI x2, vI x3, vI x4, u5, u6] [vI (I 7 (I (r1 + 3 + (x2).toNat) (x4).toNat).toNat), vI (I 194 5), vR 194] I K
    obtain ⟨c5, h⟩ := h
    refine G_bop (z := (I 194 5) + (I 7 (I (r1 + 3 + (x2).toNat) (x4).toNat).toNat)) rc_65_54 (if_pos c5) ?_
    show GO S0 65 55 [vR 194, vR r1, vI x2, vI x3, vI x4, u5, u6] [vI ((I 194 5) + (I 7 (I (r1 + 3 + (x2).toNat) (x4).toNat).toNat)), vR 194] I K
    refine G_putI rc_65_55 s0_194 (by decide) (Or.inl rfl) ?_
    show GO S0 65 58 [vR 194, vR r1, vI x2, vI x3, vI x4, u5, u6] [] (iup I 194 5 ((I 194 5) + (I 7 (I (r1 + 3 + (x2).toNat) (x4).toNat).toNat))) K
    have h := h _ rfl
    generalize iup I 194 5 ((I 194 5) + (I 7 (I (r1 + 3 + (x2).toNat) (x4).toNat).toNat)) = I6 at h ⊢
    obtain ⟨c7, h⟩ := h
    refine G_iinc rc_65_58 rfl c7 ?_
    show GO S0 65 61 [vR 194, vR r1, vI x2, vI x3, vI (x4 + 1), u5, u6] [] I6 K
    refine G_goto rc_65_61 ?_
    show GO S0 65 21 [vR 194, vR r1, vI x2, vI x3, vI (x4 + 1), u5, u6] [] I6 K
    exact h
def D65_0 (r1 : Nat) (x2 : Int) (x3 : Int) (I : IM) (K : Option AV → IM → Prop) : Prop :=
  (0 ≤ x2 ∧ x2 < 4) ∧ ∀ I2 : IM, I2 = iup I 194 4 (I 26 (x2).toNat) → ∀ I3 : IM, I3 = iup I2 194 5 0 → GO S0 65 21 [vR 194, vR r1, vI x2, vI x3, vI 0, vU, vU] [] I3 K
set_option maxRecDepth 10000 in
theorem g65_0 (r1 : Nat) (h1 : isRd r1) (x2 : Int) (x3 : Int) (I : IM) (K : Option AV → IM → Prop) (h : D65_0 r1 x2 x3 I K) : GO S0 65 0 [vR 194, vR r1, vI x2, vI x3, vU, vU, vU] [] I K := by
  unfold D65_0 at h
  refine G_loadR rc_65_0 rfl ?_
  refine G_loadR rc_65_1 rfl ?_
  refine G_getR rc_65_2 s0_194 (by decide) rfl (by decide) ?_
  show GO S0 65 5 [vR 194, vR r1, vI x2, vI x3, vU, vU, vU] [vR 24, vR 194] I K
  refine G_getR rc_65_5 s0_24 (by decide) rfl (by decide) ?_
  show GO S0 65 8 [vR 194, vR r1, vI x2, vI x3, vU, vU, vU] [vR 26, vR 194] I K
  refine G_loadI rc_65_8 rfl ?_
  obtain ⟨c1, h⟩ := h
  refine G_ald rc_65_9 s0_26 (by omega) (by omega) ?_
  show GO S0 65 10 [vR 194, vR r1, vI x2, vI x3, vU, vU, vU] [vI (I 26 (x2).toNat), vR 194] I K
  refine G_putI rc_65_10 s0_194 (by decide) (Or.inl rfl) ?_
  show GO S0 65 13 [vR 194, vR r1, vI x2, vI x3, vU, vU, vU] [] (iup I 194 4 (I 26 (x2).toNat)) K
  have h := h _ rfl
  generalize iup I 194 4 (I 26 (x2).toNat) = I2 at h ⊢
  refine G_loadR rc_65_13 rfl ?_
  refine G_const rc_65_14 (by decide) ?_
  refine G_putI rc_65_15 s0_194 (by decide) (Or.inl rfl) ?_
  show GO S0 65 18 [vR 194, vR r1, vI x2, vI x3, vU, vU, vU] [] (iup I2 194 5 0) K
  have h := h _ rfl
  generalize iup I2 194 5 0 = I3 at h ⊢
  refine G_const rc_65_18 (by decide) ?_
  refine G_storeI rc_65_19 (Nat.le_of_ble_eq_true rfl) ?_
  show GO S0 65 21 [vR 194, vR r1, vI x2, vI x3, vI 0, vU, vU] [] I3 K
  exact h
/-! 66: RoundSlack$Drive.placeAt(LRoundSlack$Rounds;II)I -/
def D66_0 (r0 : Nat) (x1 : Int) (x2 : Int) (I : IM) (K : Option AV → IM → Prop) : Prop :=
  (if x2 < 0 then (K (some (vI 12)) I) else ((0 ≤ x1 ∧ x1 < 4) ∧ (if I (r0 + 1) (x1).toNat ≤ x2 then (K (some (vI 12)) I) else ((0 ≤ x2 ∧ x2 < 12) ∧ K (some (vI (I (r0 + 3 + (x1).toNat) (x2).toNat))) I))))
set_option maxRecDepth 10000 in
theorem g66_0 (r0 : Nat) (h0 : isRd r0) (x1 : Int) (x2 : Int) (I : IM) (K : Option AV → IM → Prop) (h : D66_0 r0 x1 x2 I K) : GO S0 66 0 [vR r0, vI x1, vI x2] [] I K := by
  unfold D66_0 at h
  refine G_loadI rc_66_0 rfl ?_
  refine G_i1 (C := x2 < 0) rc_66_1 rfl (fun c1 => ?_) (fun c1 => ?_)
  · rw [if_pos c1] at h
    show GO S0 66 25 [vR r0, vI x1, vI x2] [] I K
    refine G_const rc_66_25 (by decide) ?_
    exact G_retI rc_66_27 (Or.inl rfl) h
  · rw [if_neg c1] at h
    show GO S0 66 4 [vR r0, vI x1, vI x2] [] I K
    refine G_loadI rc_66_4 rfl ?_
    refine G_loadR rc_66_5 rfl ?_
    refine G_getR rc_66_6 (rd_0 h0) (by decide) rfl (by have := rd_lt h0; omega) ?_
    show GO S0 66 9 [vR r0, vI x1, vI x2] [vR (r0 + 1), vI x2] I K
    refine G_loadI rc_66_9 rfl ?_
    obtain ⟨c2, h⟩ := h
    refine G_ald rc_66_10 (rd_1 h0) (by omega) (by omega) ?_
    show GO S0 66 11 [vR r0, vI x1, vI x2] [vI (I (r0 + 1) (x1).toNat), vI x2] I K
    refine G_i2 (C := I (r0 + 1) (x1).toNat ≤ x2) rc_66_11 rfl (fun c3 => ?_) (fun c3 => ?_)
    · rw [if_pos c3] at h
      show GO S0 66 25 [vR r0, vI x1, vI x2] [] I K
      refine G_const rc_66_25 (by decide) ?_
      exact G_retI rc_66_27 (Or.inl rfl) h
    · rw [if_neg c3] at h
      show GO S0 66 14 [vR r0, vI x1, vI x2] [] I K
      refine G_loadR rc_66_14 rfl ?_
      refine G_getR rc_66_15 (rd_0 h0) (by decide) rfl (by have := rd_lt h0; omega) ?_
      show GO S0 66 18 [vR r0, vI x1, vI x2] [vR (r0 + 2)] I K
      refine G_loadI rc_66_18 rfl ?_
      refine G_aldR rc_66_19 (rd_2 h0) (Or.inl rfl) (by omega) (by omega) (rd_row (i := (x1).toNat) (by omega)) (by have := rd_lt h0; omega) ?_
      show GO S0 66 20 [vR r0, vI x1, vI x2] [vR (r0 + 3 + (x1).toNat)] I K
      refine G_loadI rc_66_20 rfl ?_
      obtain ⟨c4, h⟩ := h
      refine G_ald rc_66_21 (rd_3 (i := (x1).toNat) h0 (by omega)) (by omega) (by omega) ?_
      show GO S0 66 22 [vR r0, vI x1, vI x2] [vI (I (r0 + 3 + (x1).toNat) (x2).toNat)] I K
      refine G_goto rc_66_22 ?_
      show GO S0 66 27 [vR r0, vI x1, vI x2] [vI (I (r0 + 3 + (x1).toNat) (x2).toNat)] I K
      exact G_retI rc_66_27 (Or.inl rfl) h
/-! 67: RoundSlack.latest(II)I -/
def D67_0 (x1 : Int) (x2 : Int) (I : IM) (K : Option AV → IM → Prop) : Prop :=
  CALL S0 64 [vR 0, vI x1, vI x2] I (fun v I1 => ∃ y2 : Int, v = some (vI y2) ∧ (if y2 = 0 then (K (some (vI (-1))) I1) else (CALL S0 68 [vR 194, vR 29, vI x1, vI x2] I1 (fun v I4 => ∃ y5 : Int, v = some (vI y5) ∧ K (some (vI y5)) I4))))
set_option maxRecDepth 10000 in
theorem g67_0 (x1 : Int) (x2 : Int) (I : IM) (K : Option AV → IM → Prop) (h : D67_0 x1 x2 I K) : GO S0 67 0 [vR 0, vI x1, vI x2] [] I K := by
  unfold D67_0 at h
  refine G_loadR rc_67_0 rfl ?_
  refine G_loadI rc_67_1 rfl ?_
  refine G_loadI rc_67_2 rfl ?_
  refine G_call (as := [vR 0, vI x1, vI x2]) (rest := []) rc_67_3 rfl rfl rfl (Nat.le_of_ble_eq_true rfl) (g_recv s0_0 rfl) ?_
  refine GO.imp h (fun v I1 h => ?_)
  obtain ⟨y2, rfl, h⟩ := h
  show GO S0 67 6 [vR 0, vI x1, vI x2] [vI y2] I1 K
  refine G_i1 (C := y2 = 0) rc_67_6 rfl (fun c3 => ?_) (fun c3 => ?_)
  · rw [if_pos c3] at h
    show GO S0 67 25 [vR 0, vI x1, vI x2] [] I1 K
    refine G_const rc_67_25 (by decide) ?_
    exact G_retI rc_67_26 (Or.inl rfl) h
  · rw [if_neg c3] at h
    show GO S0 67 9 [vR 0, vI x1, vI x2] [] I1 K
    refine G_loadR rc_67_9 rfl ?_
    refine G_getR rc_67_10 s0_0 (by decide) rfl (by decide) ?_
    show GO S0 67 13 [vR 0, vI x1, vI x2] [vR 194] I1 K
    refine G_loadR rc_67_13 rfl ?_
    refine G_getR rc_67_14 s0_0 (by decide) rfl (by decide) ?_
    show GO S0 67 17 [vR 0, vI x1, vI x2] [vR 29, vR 194] I1 K
    refine G_loadI rc_67_17 rfl ?_
    refine G_loadI rc_67_18 rfl ?_
    refine G_call (as := [vR 194, vR 29, vI x1, vI x2]) (rest := []) rc_67_19 rfl rfl rfl (Nat.le_of_ble_eq_true rfl) (g_recv s0_194 rfl) ?_
    refine GO.imp h (fun v I4 h => ?_)
    obtain ⟨y5, rfl, h⟩ := h
    show GO S0 67 22 [vR 0, vI x1, vI x2] [vI y5] I4 K
    refine G_goto rc_67_22 ?_
    show GO S0 67 26 [vR 0, vI x1, vI x2] [vI y5] I4 K
    exact G_retI rc_67_26 (Or.inl rfl) h
/-! 68: RoundSlack$Drive.latestAt(LRoundSlack$Rounds;II)I -/
def D68_25 (r1 : Nat) (x2 : Int) (x3 : Int) (x4 : Int) (x5 : Int) (x6 : Int) (u7 : AV) (u8 : AV) (I : IM) (K : Option AV → IM → Prop) : Prop :=
  (if x6 < x3 then (K (some (vI x4)) I) else (CALL S0 66 [vR r1, vI x2, vI x6] I (fun v I2 => ∃ y3 : Int, v = some (vI y3) ∧ (0 ≤ y3 ∧ y3 < 13) ∧ (0 ≤ x5 ∧ x5 < 13) ∧ (inR (x4 - (I2 (1 + 10 + (y3).toNat) (x5).toNat))) ∧ (inR ((x4 - (I2 (1 + 10 + (y3).toNat) (x5).toNat)) - (I2 6 (y3).toNat))) ∧ (inR (x6 + (-1))) ∧ GO S0 68 25 [vR 194, vR r1, vI x2, vI x3, vI ((if (x4 - (I2 (1 + 10 + (y3).toNat) (x5).toNat)) - (I2 6 (y3).toNat) < I2 5 (y3).toNat then (x4 - (I2 (1 + 10 + (y3).toNat) (x5).toNat)) - (I2 6 (y3).toNat) else I2 5 (y3).toNat)), vI y3, vI (x6 + (-1)), vI y3, vI ((x4 - (I2 (1 + 10 + (y3).toNat) (x5).toNat)) - (I2 6 (y3).toNat))] [] I2 K)))
set_option maxRecDepth 10000 in
theorem g68_25 (r1 : Nat) (h1 : isRd r1) (x2 : Int) (x3 : Int) (x4 : Int) (x5 : Int) (x6 : Int) (u7 : AV) (u8 : AV) (I : IM) (K : Option AV → IM → Prop) (h : D68_25 r1 x2 x3 x4 x5 x6 u7 u8 I K) : GO S0 68 25 [vR 194, vR r1, vI x2, vI x3, vI x4, vI x5, vI x6, u7, u8] [] I K := by
  unfold D68_25 at h
  refine G_loadI rc_68_25 rfl ?_
  refine G_loadI rc_68_27 rfl ?_
  refine G_i2 (C := x6 < x3) rc_68_28 rfl (fun c1 => ?_) (fun c1 => ?_)
  · rw [if_pos c1] at h
    show GO S0 68 96 [vR 194, vR r1, vI x2, vI x3, vI x4, vI x5, vI x6, u7, u8] [] I K
    refine G_loadI rc_68_96 rfl ?_
    exact G_retI rc_68_98 (Or.inl rfl) h
  · rw [if_neg c1] at h
    show GO S0 68 31 [vR 194, vR r1, vI x2, vI x3, vI x4, vI x5, vI x6, u7, u8] [] I K
    refine G_loadR rc_68_31 rfl ?_
    refine G_loadI rc_68_32 rfl ?_
    refine G_loadI rc_68_33 rfl ?_
    refine G_call (as := [vR r1, vI x2, vI x6]) (rest := []) rc_68_35 rfl rfl rfl (Nat.le_of_ble_eq_true rfl) rfl ?_
    refine GO.imp h (fun v I2 h => ?_)
    obtain ⟨y3, rfl, h⟩ := h
    show GO S0 68 38 [vR 194, vR r1, vI x2, vI x3, vI x4, vI x5, vI x6, u7, u8] [vI y3] I2 K
    refine G_storeI rc_68_38 (Nat.le_of_ble_eq_true rfl) ?_
    show GO S0 68 40 [vR 194, vR r1, vI x2, vI x3, vI x4, vI x5, vI x6, vI y3, u8] [] I2 K
    refine G_loadI rc_68_40 rfl ?_
    refine G_loadR rc_68_42 rfl ?_
    refine G_getR rc_68_43 s0_194 (by decide) rfl (by decide) ?_
    show GO S0 68 46 [vR 194, vR r1, vI x2, vI x3, vI x4, vI x5, vI x6, vI y3, u8] [vR 1, vI x4] I2 K
    refine G_getR rc_68_46 s0_1 (by decide) rfl (by decide) ?_
    show GO S0 68 49 [vR 194, vR r1, vI x2, vI x3, vI x4, vI x5, vI x6, vI y3, u8] [vR 10, vI x4] I2 K
    refine G_loadI rc_68_49 rfl ?_
    obtain ⟨c4, h⟩ := h
    refine G_aldR rc_68_51 s0_10 (Or.inl rfl) (by omega) (by omega) (lrow (b := 11) (n := 13) (i := (y3).toNat) rfl (by omega)) (by omega) ?_
    show GO S0 68 52 [vR 194, vR r1, vI x2, vI x3, vI x4, vI x5, vI x6, vI y3, u8] [vR (1 + 10 + (y3).toNat), vI x4] I2 K
    refine G_loadI rc_68_52 rfl ?_
    obtain ⟨c5, h⟩ := h
    refine G_ald rc_68_54 (bk_10 (r := 1) (i := (y3).toNat) (by first | exact Or.inl rfl | exact Or.inr rfl) (by omega)) (by omega) (by omega) ?_
    show GO S0 68 55 [vR 194, vR r1, vI x2, vI x3, vI x4, vI x5, vI x6, vI y3, u8] [vI (I2 (1 + 10 + (y3).toNat) (x5).toNat), vI x4] I2 K
    obtain ⟨c6, h⟩ := h
    refine G_bop (z := x4 - (I2 (1 + 10 + (y3).toNat) (x5).toNat)) rc_68_55 (if_pos c6) ?_
    show GO S0 68 56 [vR 194, vR r1, vI x2, vI x3, vI x4, vI x5, vI x6, vI y3, u8] [vI (x4 - (I2 (1 + 10 + (y3).toNat) (x5).toNat))] I2 K
    refine G_loadR rc_68_56 rfl ?_
    refine G_getR rc_68_57 s0_194 (by decide) rfl (by decide) ?_
    show GO S0 68 60 [vR 194, vR r1, vI x2, vI x3, vI x4, vI x5, vI x6, vI y3, u8] [vR 1, vI (x4 - (I2 (1 + 10 + (y3).toNat) (x5).toNat))] I2 K
    refine G_getR rc_68_60 s0_1 (by decide) rfl (by decide) ?_
    show GO S0 68 63 [vR 194, vR r1, vI x2, vI x3, vI x4, vI x5, vI x6, vI y3, u8] [vR 6, vI (x4 - (I2 (1 + 10 + (y3).toNat) (x5).toNat))] I2 K
    refine G_loadI rc_68_63 rfl ?_
    refine G_ald rc_68_65 s0_6 (by omega) (by omega) ?_
    show GO S0 68 66 [vR 194, vR r1, vI x2, vI x3, vI x4, vI x5, vI x6, vI y3, u8] [vI (I2 6 (y3).toNat), vI (x4 - (I2 (1 + 10 + (y3).toNat) (x5).toNat))] I2 K
    obtain ⟨c7, h⟩ := h
    refine G_bop (z := (x4 - (I2 (1 + 10 + (y3).toNat) (x5).toNat)) - (I2 6 (y3).toNat)) rc_68_66 (if_pos c7) ?_
    show GO S0 68 67 [vR 194, vR r1, vI x2, vI x3, vI x4, vI x5, vI x6, vI y3, u8] [vI ((x4 - (I2 (1 + 10 + (y3).toNat) (x5).toNat)) - (I2 6 (y3).toNat))] I2 K
    refine G_storeI rc_68_67 (Nat.le_of_ble_eq_true rfl) ?_
    show GO S0 68 69 [vR 194, vR r1, vI x2, vI x3, vI x4, vI x5, vI x6, vI y3, vI ((x4 - (I2 (1 + 10 + (y3).toNat) (x5).toNat)) - (I2 6 (y3).toNat))] [] I2 K
    refine G_loadR rc_68_69 rfl ?_
    refine G_getR rc_68_70 s0_194 (by decide) rfl (by decide) ?_
    show GO S0 68 73 [vR 194, vR r1, vI x2, vI x3, vI x4, vI x5, vI x6, vI y3, vI ((x4 - (I2 (1 + 10 + (y3).toNat) (x5).toNat)) - (I2 6 (y3).toNat))] [vR 1] I2 K
    refine G_getR rc_68_73 s0_1 (by decide) rfl (by decide) ?_
    show GO S0 68 76 [vR 194, vR r1, vI x2, vI x3, vI x4, vI x5, vI x6, vI y3, vI ((x4 - (I2 (1 + 10 + (y3).toNat) (x5).toNat)) - (I2 6 (y3).toNat))] [vR 5] I2 K
    refine G_loadI rc_68_76 rfl ?_
    refine G_ald rc_68_78 s0_5 (by omega) (by omega) ?_
    show GO S0 68 79 [vR 194, vR r1, vI x2, vI x3, vI x4, vI x5, vI x6, vI y3, vI ((x4 - (I2 (1 + 10 + (y3).toNat) (x5).toNat)) - (I2 6 (y3).toNat))] [vI (I2 5 (y3).toNat)] I2 K
    refine G_loadI rc_68_79 rfl ?_
    refine G_min rc_68_81 (Nat.le_of_ble_eq_true rfl) ?_
    show GO S0 68 84 [vR 194, vR r1, vI x2, vI x3, vI x4, vI x5, vI x6, vI y3, vI ((x4 - (I2 (1 + 10 + (y3).toNat) (x5).toNat)) - (I2 6 (y3).toNat))] [vI ((if (x4 - (I2 (1 + 10 + (y3).toNat) (x5).toNat)) - (I2 6 (y3).toNat) < I2 5 (y3).toNat then (x4 - (I2 (1 + 10 + (y3).toNat) (x5).toNat)) - (I2 6 (y3).toNat) else I2 5 (y3).toNat))] I2 K
    refine G_storeI rc_68_84 (Nat.le_of_ble_eq_true rfl) ?_
    show GO S0 68 86 [vR 194, vR r1, vI x2, vI x3, vI ((if (x4 - (I2 (1 + 10 + (y3).toNat) (x5).toNat)) - (I2 6 (y3).toNat) < I2 5 (y3).toNat then (x4 - (I2 (1 + 10 + (y3).toNat) (x5).toNat)) - (I2 6 (y3).toNat) else I2 5 (y3).toNat)), vI x5, vI x6, vI y3, vI ((x4 - (I2 (1 + 10 + (y3).toNat) (x5).toNat)) - (I2 6 (y3).toNat))] [] I2 K
    refine G_loadI rc_68_86 rfl ?_
    refine G_storeI rc_68_88 (Nat.le_of_ble_eq_true rfl) ?_
    show GO S0 68 90 [vR 194, vR r1, vI x2, vI x3, vI ((if (x4 - (I2 (1 + 10 + (y3).toNat) (x5).toNat)) - (I2 6 (y3).toNat) < I2 5 (y3).toNat then (x4 - (I2 (1 + 10 + (y3).toNat) (x5).toNat)) - (I2 6 (y3).toNat) else I2 5 (y3).toNat)), vI y3, vI x6, vI y3, vI ((x4 - (I2 (1 + 10 + (y3).toNat) (x5).toNat)) - (I2 6 (y3).toNat))] [] I2 K
    obtain ⟨c8, h⟩ := h
    refine G_iinc rc_68_90 rfl c8 ?_
    show GO S0 68 93 [vR 194, vR r1, vI x2, vI x3, vI ((if (x4 - (I2 (1 + 10 + (y3).toNat) (x5).toNat)) - (I2 6 (y3).toNat) < I2 5 (y3).toNat then (x4 - (I2 (1 + 10 + (y3).toNat) (x5).toNat)) - (I2 6 (y3).toNat) else I2 5 (y3).toNat)), vI y3, vI (x6 + (-1)), vI y3, vI ((x4 - (I2 (1 + 10 + (y3).toNat) (x5).toNat)) - (I2 6 (y3).toNat))] [] I2 K
    refine G_goto rc_68_93 ?_
    show GO S0 68 25 [vR 194, vR r1, vI x2, vI x3, vI ((if (x4 - (I2 (1 + 10 + (y3).toNat) (x5).toNat)) - (I2 6 (y3).toNat) < I2 5 (y3).toNat then (x4 - (I2 (1 + 10 + (y3).toNat) (x5).toNat)) - (I2 6 (y3).toNat) else I2 5 (y3).toNat)), vI y3, vI (x6 + (-1)), vI y3, vI ((x4 - (I2 (1 + 10 + (y3).toNat) (x5).toNat)) - (I2 6 (y3).toNat))] [] I2 K
    exact h
def D68_0 (r1 : Nat) (x2 : Int) (x3 : Int) (I : IM) (K : Option AV → IM → Prop) : Prop :=
  (0 ≤ x2 ∧ x2 < 4) ∧ (inR ((I (r1 + 1) (x2).toNat) - 1)) ∧ GO S0 68 25 [vR 194, vR r1, vI x2, vI x3, vI (I 27 (x2).toNat), vI 12, vI ((I (r1 + 1) (x2).toNat) - 1), vU, vU] [] I K
set_option maxRecDepth 10000 in
theorem g68_0 (r1 : Nat) (h1 : isRd r1) (x2 : Int) (x3 : Int) (I : IM) (K : Option AV → IM → Prop) (h : D68_0 r1 x2 x3 I K) : GO S0 68 0 [vR 194, vR r1, vI x2, vI x3, vU, vU, vU, vU, vU] [] I K := by
  unfold D68_0 at h
  refine G_loadR rc_68_0 rfl ?_
  refine G_getR rc_68_1 s0_194 (by decide) rfl (by decide) ?_
  show GO S0 68 4 [vR 194, vR r1, vI x2, vI x3, vU, vU, vU, vU, vU] [vR 24] I K
  refine G_getR rc_68_4 s0_24 (by decide) rfl (by decide) ?_
  show GO S0 68 7 [vR 194, vR r1, vI x2, vI x3, vU, vU, vU, vU, vU] [vR 27] I K
  refine G_loadI rc_68_7 rfl ?_
  obtain ⟨c1, h⟩ := h
  refine G_ald rc_68_8 s0_27 (by omega) (by omega) ?_
  show GO S0 68 9 [vR 194, vR r1, vI x2, vI x3, vU, vU, vU, vU, vU] [vI (I 27 (x2).toNat)] I K
  refine G_storeI rc_68_9 (Nat.le_of_ble_eq_true rfl) ?_
  show GO S0 68 11 [vR 194, vR r1, vI x2, vI x3, vI (I 27 (x2).toNat), vU, vU, vU, vU] [] I K
  refine G_const rc_68_11 (by decide) ?_
  refine G_storeI rc_68_13 (Nat.le_of_ble_eq_true rfl) ?_
  show GO S0 68 15 [vR 194, vR r1, vI x2, vI x3, vI (I 27 (x2).toNat), vI 12, vU, vU, vU] [] I K
  refine G_loadR rc_68_15 rfl ?_
  refine G_getR rc_68_16 (rd_0 h1) (by decide) rfl (by have := rd_lt h1; omega) ?_
  show GO S0 68 19 [vR 194, vR r1, vI x2, vI x3, vI (I 27 (x2).toNat), vI 12, vU, vU, vU] [vR (r1 + 1)] I K
  refine G_loadI rc_68_19 rfl ?_
  refine G_ald rc_68_20 (rd_1 h1) (by omega) (by omega) ?_
  show GO S0 68 21 [vR 194, vR r1, vI x2, vI x3, vI (I 27 (x2).toNat), vI 12, vU, vU, vU] [vI (I (r1 + 1) (x2).toNat)] I K
  refine G_const rc_68_21 (by decide) ?_
  obtain ⟨c2, h⟩ := h
  refine G_bop (z := (I (r1 + 1) (x2).toNat) - 1) rc_68_22 (if_pos c2) ?_
  show GO S0 68 23 [vR 194, vR r1, vI x2, vI x3, vI (I 27 (x2).toNat), vI 12, vU, vU, vU] [vI ((I (r1 + 1) (x2).toNat) - 1)] I K
  refine G_storeI rc_68_23 (Nat.le_of_ble_eq_true rfl) ?_
  show GO S0 68 25 [vR 194, vR r1, vI x2, vI x3, vI (I 27 (x2).toNat), vI 12, vI ((I (r1 + 1) (x2).toNat) - 1), vU, vU] [] I K
  exact h
/-! 69: RoundSlack.slack(II)I -/
def D69_0 (x1 : Int) (x2 : Int) (I : IM) (K : Option AV → IM → Prop) : Prop :=
  CALL S0 64 [vR 0, vI x1, vI x2] I (fun v I1 => ∃ y2 : Int, v = some (vI y2) ∧ (if y2 = 0 then (K (some (vI (-1))) I1) else (CALL S0 65 [vR 194, vR 29, vI x1, vI x2] I1 (fun v I4 => v = none ∧ CALL S0 68 [vR 194, vR 29, vI x1, vI x2] I4 (fun v I5 => ∃ y6 : Int, v = some (vI y6) ∧ (inR (y6 - (I5 194 3))) ∧ K (some (vI (y6 - (I5 194 3)))) I5)))))
set_option maxRecDepth 10000 in
theorem g69_0 (x1 : Int) (x2 : Int) (I : IM) (K : Option AV → IM → Prop) (h : D69_0 x1 x2 I K) : GO S0 69 0 [vR 0, vI x1, vI x2] [] I K := by
  unfold D69_0 at h
  refine G_loadR rc_69_0 rfl ?_
  refine G_loadI rc_69_1 rfl ?_
  refine G_loadI rc_69_2 rfl ?_
  refine G_call (as := [vR 0, vI x1, vI x2]) (rest := []) rc_69_3 rfl rfl rfl (Nat.le_of_ble_eq_true rfl) (g_recv s0_0 rfl) ?_
  refine GO.imp h (fun v I1 h => ?_)
  obtain ⟨y2, rfl, h⟩ := h
  show GO S0 69 6 [vR 0, vI x1, vI x2] [vI y2] I1 K
  refine G_i1 (C := ¬ y2 = 0) rc_69_6 rfl (fun c3 => ?_) (fun c3 => ?_)
  · rw [if_neg c3] at h
    show GO S0 69 11 [vR 0, vI x1, vI x2] [] I1 K
    refine G_loadR rc_69_11 rfl ?_
    refine G_getR rc_69_12 s0_0 (by decide) rfl (by decide) ?_
    show GO S0 69 15 [vR 0, vI x1, vI x2] [vR 194] I1 K
    refine G_loadR rc_69_15 rfl ?_
    refine G_getR rc_69_16 s0_0 (by decide) rfl (by decide) ?_
    show GO S0 69 19 [vR 0, vI x1, vI x2] [vR 29, vR 194] I1 K
    refine G_loadI rc_69_19 rfl ?_
    refine G_loadI rc_69_20 rfl ?_
    refine G_call (as := [vR 194, vR 29, vI x1, vI x2]) (rest := []) rc_69_21 rfl rfl rfl (Nat.le_of_ble_eq_true rfl) (g_recv s0_194 rfl) ?_
    refine GO.imp h (fun v I4 h => ?_)
    obtain ⟨rfl, h⟩ := h
    show GO S0 69 24 [vR 0, vI x1, vI x2] [] I4 K
    refine G_loadR rc_69_24 rfl ?_
    refine G_getR rc_69_25 s0_0 (by decide) rfl (by decide) ?_
    show GO S0 69 28 [vR 0, vI x1, vI x2] [vR 194] I4 K
    refine G_loadR rc_69_28 rfl ?_
    refine G_getR rc_69_29 s0_0 (by decide) rfl (by decide) ?_
    show GO S0 69 32 [vR 0, vI x1, vI x2] [vR 29, vR 194] I4 K
    refine G_loadI rc_69_32 rfl ?_
    refine G_loadI rc_69_33 rfl ?_
    refine G_call (as := [vR 194, vR 29, vI x1, vI x2]) (rest := []) rc_69_34 rfl rfl rfl (Nat.le_of_ble_eq_true rfl) (g_recv s0_194 rfl) ?_
    refine GO.imp h (fun v I5 h => ?_)
    obtain ⟨y6, rfl, h⟩ := h
    show GO S0 69 37 [vR 0, vI x1, vI x2] [vI y6] I5 K
    refine G_loadR rc_69_37 rfl ?_
    refine G_getR rc_69_38 s0_0 (by decide) rfl (by decide) ?_
    show GO S0 69 41 [vR 0, vI x1, vI x2] [vR 194, vI y6] I5 K
    refine G_getI rc_69_41 s0_194 (by decide) ?_
    show GO S0 69 44 [vR 0, vI x1, vI x2] [vI (I5 194 3), vI y6] I5 K
    obtain ⟨c7, h⟩ := h
    refine G_bop (z := y6 - (I5 194 3)) rc_69_44 (if_pos c7) ?_
    show GO S0 69 45 [vR 0, vI x1, vI x2] [vI (y6 - (I5 194 3))] I5 K
    exact G_retI rc_69_45 (Or.inl rfl) h
  · rw [if_pos (Classical.not_not.mp c3)] at h
    show GO S0 69 9 [vR 0, vI x1, vI x2] [] I1 K
    refine G_const rc_69_9 (by decide) ?_
    exact G_retI rc_69_10 (Or.inl rfl) h
/-! 70: RoundSlack.piece(IIII)I -/
def D70_93 (x1 : Int) (x2 : Int) (x3 : Int) (x4 : Int) (q5 : Nat) (x6 : Int) (I : IM) (K : Option AV → IM → Prop) : Prop :=
  (if x3 < x6 then (CALL S0 71 [vR 192, vI x4] I (fun v I2 => ∃ y3 : Int, v = some (vI y3) ∧ K (some (vI y3)) I2)) else ((0 ≤ x6 ∧ x6 < 12) ∧ (0 ≤ I q5 (x6).toNat ∧ I q5 (x6).toNat < 13) ∧ CALL S0 50 [vR 192, vI (I q5 (x6).toNat), vI (I 5 (I q5 (x6).toNat).toNat)] I (fun v I6 => v = none ∧ (inR (x6 + 1)) ∧ GO S0 70 93 [vR 0, vI x1, vI x2, vI x3, vI x4, vR q5, vI (x6 + 1)] [] I6 K)))
set_option maxRecDepth 10000 in
theorem g70_93 (x1 : Int) (x2 : Int) (x3 : Int) (x4 : Int) (q5 : Nat) (x6 : Int) (f5 : S0[q5]? = some (100, 12, [])) (I : IM) (K : Option AV → IM → Prop) (h : D70_93 x1 x2 x3 x4 q5 x6 I K) : GO S0 70 93 [vR 0, vI x1, vI x2, vI x3, vI x4, vR q5, vI x6] [] I K := by
  unfold D70_93 at h
  refine G_loadI rc_70_93 rfl ?_
  refine G_loadI rc_70_95 rfl ?_
  refine G_i2 (C := x3 < x6) rc_70_96 rfl (fun c1 => ?_) (fun c1 => ?_)
  · rw [if_pos c1] at h
    show GO S0 70 130 [vR 0, vI x1, vI x2, vI x3, vI x4, vR q5, vI x6] [] I K
    refine G_loadR rc_70_130 rfl ?_
    refine G_getR rc_70_131 s0_0 (by decide) rfl (by decide) ?_
    show GO S0 70 134 [vR 0, vI x1, vI x2, vI x3, vI x4, vR q5, vI x6] [vR 192] I K
    refine G_loadI rc_70_134 rfl ?_
    refine G_call (as := [vR 192, vI x4]) (rest := []) rc_70_136 rfl rfl rfl (Nat.le_of_ble_eq_true rfl) (g_recv s0_192 rfl) ?_
    refine GO.imp h (fun v I2 h => ?_)
    obtain ⟨y3, rfl, h⟩ := h
    show GO S0 70 139 [vR 0, vI x1, vI x2, vI x3, vI x4, vR q5, vI x6] [vI y3] I2 K
    exact G_retI rc_70_139 (Or.inl rfl) h
  · rw [if_neg c1] at h
    show GO S0 70 99 [vR 0, vI x1, vI x2, vI x3, vI x4, vR q5, vI x6] [] I K
    refine G_loadR rc_70_99 rfl ?_
    refine G_getR rc_70_100 s0_0 (by decide) rfl (by decide) ?_
    show GO S0 70 103 [vR 0, vI x1, vI x2, vI x3, vI x4, vR q5, vI x6] [vR 192] I K
    refine G_loadR rc_70_103 rfl ?_
    refine G_loadI rc_70_105 rfl ?_
    obtain ⟨c4, h⟩ := h
    refine G_ald rc_70_107 f5 (by omega) (by omega) ?_
    show GO S0 70 108 [vR 0, vI x1, vI x2, vI x3, vI x4, vR q5, vI x6] [vI (I q5 (x6).toNat), vR 192] I K
    refine G_loadR rc_70_108 rfl ?_
    refine G_getR rc_70_109 s0_0 (by decide) rfl (by decide) ?_
    show GO S0 70 112 [vR 0, vI x1, vI x2, vI x3, vI x4, vR q5, vI x6] [vR 1, vI (I q5 (x6).toNat), vR 192] I K
    refine G_getR rc_70_112 s0_1 (by decide) rfl (by decide) ?_
    show GO S0 70 115 [vR 0, vI x1, vI x2, vI x3, vI x4, vR q5, vI x6] [vR 5, vI (I q5 (x6).toNat), vR 192] I K
    refine G_loadR rc_70_115 rfl ?_
    refine G_loadI rc_70_117 rfl ?_
    refine G_ald rc_70_119 f5 (by omega) (by omega) ?_
    show GO S0 70 120 [vR 0, vI x1, vI x2, vI x3, vI x4, vR q5, vI x6] [vI (I q5 (x6).toNat), vR 5, vI (I q5 (x6).toNat), vR 192] I K
    obtain ⟨c5, h⟩ := h
    refine G_ald rc_70_120 s0_5 (by omega) (by omega) ?_
    show GO S0 70 121 [vR 0, vI x1, vI x2, vI x3, vI x4, vR q5, vI x6] [vI (I 5 (I q5 (x6).toNat).toNat), vI (I q5 (x6).toNat), vR 192] I K
    refine G_call (as := [vR 192, vI (I q5 (x6).toNat), vI (I 5 (I q5 (x6).toNat).toNat)]) (rest := []) rc_70_121 rfl rfl rfl (Nat.le_of_ble_eq_true rfl) (g_recv s0_192 rfl) ?_
    refine GO.imp h (fun v I6 h => ?_)
    obtain ⟨rfl, h⟩ := h
    show GO S0 70 124 [vR 0, vI x1, vI x2, vI x3, vI x4, vR q5, vI x6] [] I6 K
    obtain ⟨c7, h⟩ := h
    refine G_iinc rc_70_124 rfl c7 ?_
    show GO S0 70 127 [vR 0, vI x1, vI x2, vI x3, vI x4, vR q5, vI (x6 + 1)] [] I6 K
    refine G_goto rc_70_127 ?_
    show GO S0 70 93 [vR 0, vI x1, vI x2, vI x3, vI x4, vR q5, vI (x6 + 1)] [] I6 K
    exact h
def D70_0 (x1 : Int) (x2 : Int) (x3 : Int) (x4 : Int) (I : IM) (K : Option AV → IM → Prop) : Prop :=
  CALL S0 24 [vI x1] I (fun v I1 => ∃ y2 : Int, v = some (vI y2) ∧ (if y2 = 0 then (K (some (vI (-1))) I1) else ((if x2 < 0 then (K (some (vI (-1))) I1) else ((if x3 < x2 then (K (some (vI (-1))) I1) else ((0 ≤ x1 ∧ x1 < 4) ∧ (if I1 30 (x1).toNat ≤ x3 then (K (some (vI (-1))) I1) else (CALL S0 14 [vI x4, vI 0, vI 6] I1 (fun v I8 => ∃ y9 : Int, v = some (vI y9) ∧ (if y9 = 0 then (K (some (vI (-1))) I8) else ((0 ≤ x2 ∧ x2 < 12) ∧ (0 ≤ I8 (29 + 3 + (x1).toNat) (x2).toNat ∧ I8 (29 + 3 + (x1).toNat) (x2).toNat < 13) ∧ CALL S0 49 [vR 192, vI (I8 (29 + 3 + (x1).toNat) (x2).toNat), vI (I8 4 (I8 (29 + 3 + (x1).toNat) (x2).toNat).toNat), vI (I8 5 (I8 (29 + 3 + (x1).toNat) (x2).toNat).toNat)] I8 (fun v I13 => v = none ∧ (inR (x2 + 1)) ∧ GO S0 70 93 [vR 0, vI x1, vI x2, vI x3, vI x4, vR (29 + 3 + (x1).toNat), vI (x2 + 1)] [] I13 K)))))))))))))
set_option maxRecDepth 10000 in
theorem g70_0 (x1 : Int) (x2 : Int) (x3 : Int) (x4 : Int) (I : IM) (K : Option AV → IM → Prop) (h : D70_0 x1 x2 x3 x4 I K) : GO S0 70 0 [vR 0, vI x1, vI x2, vI x3, vI x4, vU, vU] [] I K := by
  unfold D70_0 at h
  refine G_loadI rc_70_0 rfl ?_
  refine G_call (as := [vI x1]) (rest := []) rc_70_1 rfl rfl rfl (Nat.le_of_ble_eq_true rfl) rfl ?_
  refine GO.imp h (fun v I1 h => ?_)
  obtain ⟨y2, rfl, h⟩ := h
  show GO S0 70 4 [vR 0, vI x1, vI x2, vI x3, vI x4, vU, vU] [vI y2] I1 K
  refine G_i1 (C := y2 = 0) rc_70_4 rfl (fun c3 => ?_) (fun c3 => ?_)
  · rw [if_pos c3] at h
    show GO S0 70 40 [vR 0, vI x1, vI x2, vI x3, vI x4, vU, vU] [] I1 K
    refine G_const rc_70_40 (by decide) ?_
    exact G_retI rc_70_41 (Or.inl rfl) h
  · rw [if_neg c3] at h
    show GO S0 70 7 [vR 0, vI x1, vI x2, vI x3, vI x4, vU, vU] [] I1 K
    refine G_loadI rc_70_7 rfl ?_
    refine G_i1 (C := x2 < 0) rc_70_8 rfl (fun c4 => ?_) (fun c4 => ?_)
    · rw [if_pos c4] at h
      show GO S0 70 40 [vR 0, vI x1, vI x2, vI x3, vI x4, vU, vU] [] I1 K
      refine G_const rc_70_40 (by decide) ?_
      exact G_retI rc_70_41 (Or.inl rfl) h
    · rw [if_neg c4] at h
      show GO S0 70 11 [vR 0, vI x1, vI x2, vI x3, vI x4, vU, vU] [] I1 K
      refine G_loadI rc_70_11 rfl ?_
      refine G_loadI rc_70_12 rfl ?_
      refine G_i2 (C := x3 < x2) rc_70_13 rfl (fun c5 => ?_) (fun c5 => ?_)
      · rw [if_pos c5] at h
        show GO S0 70 40 [vR 0, vI x1, vI x2, vI x3, vI x4, vU, vU] [] I1 K
        refine G_const rc_70_40 (by decide) ?_
        exact G_retI rc_70_41 (Or.inl rfl) h
      · rw [if_neg c5] at h
        show GO S0 70 16 [vR 0, vI x1, vI x2, vI x3, vI x4, vU, vU] [] I1 K
        refine G_loadI rc_70_16 rfl ?_
        refine G_loadR rc_70_17 rfl ?_
        refine G_getR rc_70_18 s0_0 (by decide) rfl (by decide) ?_
        show GO S0 70 21 [vR 0, vI x1, vI x2, vI x3, vI x4, vU, vU] [vR 29, vI x3] I1 K
        refine G_getR rc_70_21 s0_29 (by decide) rfl (by decide) ?_
        show GO S0 70 24 [vR 0, vI x1, vI x2, vI x3, vI x4, vU, vU] [vR 30, vI x3] I1 K
        refine G_loadI rc_70_24 rfl ?_
        obtain ⟨c6, h⟩ := h
        refine G_ald rc_70_25 s0_30 (by omega) (by omega) ?_
        show GO S0 70 26 [vR 0, vI x1, vI x2, vI x3, vI x4, vU, vU] [vI (I1 30 (x1).toNat), vI x3] I1 K
        refine G_i2 (C := I1 30 (x1).toNat ≤ x3) rc_70_26 rfl (fun c7 => ?_) (fun c7 => ?_)
        · rw [if_pos c7] at h
          show GO S0 70 40 [vR 0, vI x1, vI x2, vI x3, vI x4, vU, vU] [] I1 K
          refine G_const rc_70_40 (by decide) ?_
          exact G_retI rc_70_41 (Or.inl rfl) h
        · rw [if_neg c7] at h
          show GO S0 70 29 [vR 0, vI x1, vI x2, vI x3, vI x4, vU, vU] [] I1 K
          refine G_loadI rc_70_29 rfl ?_
          refine G_const rc_70_31 (by decide) ?_
          refine G_const rc_70_32 (by decide) ?_
          refine G_call (as := [vI x4, vI 0, vI 6]) (rest := []) rc_70_34 rfl rfl rfl (Nat.le_of_ble_eq_true rfl) rfl ?_
          refine GO.imp h (fun v I8 h => ?_)
          obtain ⟨y9, rfl, h⟩ := h
          show GO S0 70 37 [vR 0, vI x1, vI x2, vI x3, vI x4, vU, vU] [vI y9] I8 K
          refine G_i1 (C := ¬ y9 = 0) rc_70_37 rfl (fun c10 => ?_) (fun c10 => ?_)
          · rw [if_neg c10] at h
            show GO S0 70 42 [vR 0, vI x1, vI x2, vI x3, vI x4, vU, vU] [] I8 K
            refine G_loadR rc_70_42 rfl ?_
            refine G_getR rc_70_43 s0_0 (by decide) rfl (by decide) ?_
            show GO S0 70 46 [vR 0, vI x1, vI x2, vI x3, vI x4, vU, vU] [vR 29] I8 K
            refine G_getR rc_70_46 s0_29 (by decide) rfl (by decide) ?_
            show GO S0 70 49 [vR 0, vI x1, vI x2, vI x3, vI x4, vU, vU] [vR 31] I8 K
            refine G_loadI rc_70_49 rfl ?_
            refine G_aldR rc_70_50 s0_31 (Or.inl rfl) (by omega) (by omega) (rd_row (r := 29) (i := (x1).toNat) (by omega)) (by omega) ?_
            show GO S0 70 51 [vR 0, vI x1, vI x2, vI x3, vI x4, vU, vU] [vR (29 + 3 + (x1).toNat)] I8 K
            refine G_storeR rc_70_51 (Nat.le_of_ble_eq_true rfl) ?_
            show GO S0 70 53 [vR 0, vI x1, vI x2, vI x3, vI x4, vR (29 + 3 + (x1).toNat), vU] [] I8 K
            refine G_loadR rc_70_53 rfl ?_
            refine G_getR rc_70_54 s0_0 (by decide) rfl (by decide) ?_
            show GO S0 70 57 [vR 0, vI x1, vI x2, vI x3, vI x4, vR (29 + 3 + (x1).toNat), vU] [vR 192] I8 K
            refine G_loadR rc_70_57 rfl ?_
            refine G_loadI rc_70_59 rfl ?_
            obtain ⟨c11, h⟩ := h
            refine G_ald rc_70_60 (rd_3 (r := 29) (i := (x1).toNat) (by unfold isRd; decide) (by omega)) (by omega) (by omega) ?_
            show GO S0 70 61 [vR 0, vI x1, vI x2, vI x3, vI x4, vR (29 + 3 + (x1).toNat), vU] [vI (I8 (29 + 3 + (x1).toNat) (x2).toNat), vR 192] I8 K
            refine G_loadR rc_70_61 rfl ?_
            refine G_getR rc_70_62 s0_0 (by decide) rfl (by decide) ?_
            show GO S0 70 65 [vR 0, vI x1, vI x2, vI x3, vI x4, vR (29 + 3 + (x1).toNat), vU] [vR 1, vI (I8 (29 + 3 + (x1).toNat) (x2).toNat), vR 192] I8 K
            refine G_getR rc_70_65 s0_1 (by decide) rfl (by decide) ?_
            show GO S0 70 68 [vR 0, vI x1, vI x2, vI x3, vI x4, vR (29 + 3 + (x1).toNat), vU] [vR 4, vI (I8 (29 + 3 + (x1).toNat) (x2).toNat), vR 192] I8 K
            refine G_loadR rc_70_68 rfl ?_
            refine G_loadI rc_70_70 rfl ?_
            refine G_ald rc_70_71 (rd_3 (r := 29) (i := (x1).toNat) (by unfold isRd; decide) (by omega)) (by omega) (by omega) ?_
            show GO S0 70 72 [vR 0, vI x1, vI x2, vI x3, vI x4, vR (29 + 3 + (x1).toNat), vU] [vI (I8 (29 + 3 + (x1).toNat) (x2).toNat), vR 4, vI (I8 (29 + 3 + (x1).toNat) (x2).toNat), vR 192] I8 K
            obtain ⟨c12, h⟩ := h
            refine G_ald rc_70_72 s0_4 (by omega) (by omega) ?_
            show GO S0 70 73 [vR 0, vI x1, vI x2, vI x3, vI x4, vR (29 + 3 + (x1).toNat), vU] [vI (I8 4 (I8 (29 + 3 + (x1).toNat) (x2).toNat).toNat), vI (I8 (29 + 3 + (x1).toNat) (x2).toNat), vR 192] I8 K
            refine G_loadR rc_70_73 rfl ?_
            refine G_getR rc_70_74 s0_0 (by decide) rfl (by decide) ?_
            show GO S0 70 77 [vR 0, vI x1, vI x2, vI x3, vI x4, vR (29 + 3 + (x1).toNat), vU] [vR 1, vI (I8 4 (I8 (29 + 3 + (x1).toNat) (x2).toNat).toNat), vI (I8 (29 + 3 + (x1).toNat) (x2).toNat), vR 192] I8 K
            refine G_getR rc_70_77 s0_1 (by decide) rfl (by decide) ?_
            show GO S0 70 80 [vR 0, vI x1, vI x2, vI x3, vI x4, vR (29 + 3 + (x1).toNat), vU] [vR 5, vI (I8 4 (I8 (29 + 3 + (x1).toNat) (x2).toNat).toNat), vI (I8 (29 + 3 + (x1).toNat) (x2).toNat), vR 192] I8 K
            refine G_loadR rc_70_80 rfl ?_
            refine G_loadI rc_70_82 rfl ?_
            refine G_ald rc_70_83 (rd_3 (r := 29) (i := (x1).toNat) (by unfold isRd; decide) (by omega)) (by omega) (by omega) ?_
            show GO S0 70 84 [vR 0, vI x1, vI x2, vI x3, vI x4, vR (29 + 3 + (x1).toNat), vU] [vI (I8 (29 + 3 + (x1).toNat) (x2).toNat), vR 5, vI (I8 4 (I8 (29 + 3 + (x1).toNat) (x2).toNat).toNat), vI (I8 (29 + 3 + (x1).toNat) (x2).toNat), vR 192] I8 K
            refine G_ald rc_70_84 s0_5 (by omega) (by omega) ?_
            show GO S0 70 85 [vR 0, vI x1, vI x2, vI x3, vI x4, vR (29 + 3 + (x1).toNat), vU] [vI (I8 5 (I8 (29 + 3 + (x1).toNat) (x2).toNat).toNat), vI (I8 4 (I8 (29 + 3 + (x1).toNat) (x2).toNat).toNat), vI (I8 (29 + 3 + (x1).toNat) (x2).toNat), vR 192] I8 K
            refine G_call (as := [vR 192, vI (I8 (29 + 3 + (x1).toNat) (x2).toNat), vI (I8 4 (I8 (29 + 3 + (x1).toNat) (x2).toNat).toNat), vI (I8 5 (I8 (29 + 3 + (x1).toNat) (x2).toNat).toNat)]) (rest := []) rc_70_85 rfl rfl rfl (Nat.le_of_ble_eq_true rfl) (g_recv s0_192 rfl) ?_
            refine GO.imp h (fun v I13 h => ?_)
            obtain ⟨rfl, h⟩ := h
            show GO S0 70 88 [vR 0, vI x1, vI x2, vI x3, vI x4, vR (29 + 3 + (x1).toNat), vU] [] I13 K
            refine G_loadI rc_70_88 rfl ?_
            refine G_const rc_70_89 (by decide) ?_
            obtain ⟨c14, h⟩ := h
            refine G_bop (z := x2 + 1) rc_70_90 (if_pos c14) ?_
            show GO S0 70 91 [vR 0, vI x1, vI x2, vI x3, vI x4, vR (29 + 3 + (x1).toNat), vU] [vI (x2 + 1)] I13 K
            refine G_storeI rc_70_91 (Nat.le_of_ble_eq_true rfl) ?_
            show GO S0 70 93 [vR 0, vI x1, vI x2, vI x3, vI x4, vR (29 + 3 + (x1).toNat), vI (x2 + 1)] [] I13 K
            exact h
          · rw [if_pos (Classical.not_not.mp c10)] at h
            show GO S0 70 40 [vR 0, vI x1, vI x2, vI x3, vI x4, vU, vU] [] I8 K
            refine G_const rc_70_40 (by decide) ?_
            exact G_retI rc_70_41 (Or.inl rfl) h
/-! 71: RoundSlack$Piece.tell(I)I -/
def D71_0 (x1 : Int) (I : IM) (K : Option AV → IM → Prop) : Prop :=
  (if x1 = 0 then (K (some (vI (I 192 6))) I) else (if x1 = 1 then (K (some (vI (I 192 2))) I) else (if x1 = 2 then (K (some (vI (I 192 3))) I) else (if x1 = 3 then (K (some (vI (I 192 7))) I) else (if x1 = 4 then (K (some (vI (I 192 4))) I) else (if x1 = 5 then (K (some (vI (I 192 5))) I) else (K (some (vI (I 192 8))) I)))))))
set_option maxRecDepth 10000 in
theorem g71_0 (x1 : Int) (I : IM) (K : Option AV → IM → Prop) (h : D71_0 x1 I K) : GO S0 71 0 [vR 192, vI x1] [] I K := by
  unfold D71_0 at h
  refine G_loadI rc_71_0 rfl ?_
  refine G_switch rc_71_1 ?_
  show GO S0 71 (if x1 = 0 then 40 else if x1 = 1 then 45 else if x1 = 2 then 50 else if x1 = 3 then 55 else if x1 = 4 then 60 else if x1 = 5 then 65 else 70) [vR 192, vI x1] [] I K
  by_cases c1 : x1 = 0
  · rw [if_pos c1] at h
    rw [if_pos c1]
    show GO S0 71 40 [vR 192, vI x1] [] I K
    refine G_loadR rc_71_40 rfl ?_
    refine G_getI rc_71_41 s0_192 (by decide) ?_
    show GO S0 71 44 [vR 192, vI x1] [vI (I 192 6)] I K
    exact G_retI rc_71_44 (Or.inl rfl) h
  · rw [if_neg c1] at h
    rw [if_neg c1]
    by_cases c2 : x1 = 1
    · rw [if_pos c2] at h
      rw [if_pos c2]
      show GO S0 71 45 [vR 192, vI x1] [] I K
      refine G_loadR rc_71_45 rfl ?_
      refine G_getI rc_71_46 s0_192 (by decide) ?_
      show GO S0 71 49 [vR 192, vI x1] [vI (I 192 2)] I K
      exact G_retI rc_71_49 (Or.inl rfl) h
    · rw [if_neg c2] at h
      rw [if_neg c2]
      by_cases c3 : x1 = 2
      · rw [if_pos c3] at h
        rw [if_pos c3]
        show GO S0 71 50 [vR 192, vI x1] [] I K
        refine G_loadR rc_71_50 rfl ?_
        refine G_getI rc_71_51 s0_192 (by decide) ?_
        show GO S0 71 54 [vR 192, vI x1] [vI (I 192 3)] I K
        exact G_retI rc_71_54 (Or.inl rfl) h
      · rw [if_neg c3] at h
        rw [if_neg c3]
        by_cases c4 : x1 = 3
        · rw [if_pos c4] at h
          rw [if_pos c4]
          show GO S0 71 55 [vR 192, vI x1] [] I K
          refine G_loadR rc_71_55 rfl ?_
          refine G_getI rc_71_56 s0_192 (by decide) ?_
          show GO S0 71 59 [vR 192, vI x1] [vI (I 192 7)] I K
          exact G_retI rc_71_59 (Or.inl rfl) h
        · rw [if_neg c4] at h
          rw [if_neg c4]
          by_cases c5 : x1 = 4
          · rw [if_pos c5] at h
            rw [if_pos c5]
            show GO S0 71 60 [vR 192, vI x1] [] I K
            refine G_loadR rc_71_60 rfl ?_
            refine G_getI rc_71_61 s0_192 (by decide) ?_
            show GO S0 71 64 [vR 192, vI x1] [vI (I 192 4)] I K
            exact G_retI rc_71_64 (Or.inl rfl) h
          · rw [if_neg c5] at h
            rw [if_neg c5]
            by_cases c6 : x1 = 5
            · rw [if_pos c6] at h
              rw [if_pos c6]
              show GO S0 71 65 [vR 192, vI x1] [] I K
              refine G_loadR rc_71_65 rfl ?_
              refine G_getI rc_71_66 s0_192 (by decide) ?_
              show GO S0 71 69 [vR 192, vI x1] [vI (I 192 5)] I K
              exact G_retI rc_71_69 (Or.inl rfl) h
            · rw [if_neg c6] at h
              rw [if_neg c6]
              show GO S0 71 70 [vR 192, vI x1] [] I K
              refine G_loadR rc_71_70 rfl ?_
              refine G_getI rc_71_71 s0_192 (by decide) ?_
              show GO S0 71 74 [vR 192, vI x1] [vI (I 192 8)] I K
              exact G_retI rc_71_74 (Or.inl rfl) h
/-! 72: RoundSlack.whole(II)I -/
def D72_0 (x1 : Int) (x2 : Int) (I : IM) (K : Option AV → IM → Prop) : Prop :=
  CALL S0 24 [vI x1] I (fun v I1 => ∃ y2 : Int, v = some (vI y2) ∧ (if y2 = 0 then (K (some (vI (-1))) I1) else (CALL S0 14 [vI x2, vI 0, vI 6] I1 (fun v I4 => ∃ y5 : Int, v = some (vI y5) ∧ (if y5 = 0 then (K (some (vI (-1))) I4) else (CALL S0 48 [vR 193, vR 29, vI x1, vI (-1), vI (-1)] I4 (fun v I7 => v = none ∧ CALL S0 71 [vR 192, vI x2] I7 (fun v I8 => ∃ y9 : Int, v = some (vI y9) ∧ K (some (vI y9)) I8))))))))
set_option maxRecDepth 10000 in
theorem g72_0 (x1 : Int) (x2 : Int) (I : IM) (K : Option AV → IM → Prop) (h : D72_0 x1 x2 I K) : GO S0 72 0 [vR 0, vI x1, vI x2] [] I K := by
  unfold D72_0 at h
  refine G_loadI rc_72_0 rfl ?_
  refine G_call (as := [vI x1]) (rest := []) rc_72_1 rfl rfl rfl (Nat.le_of_ble_eq_true rfl) rfl ?_
  refine GO.imp h (fun v I1 h => ?_)
  obtain ⟨y2, rfl, h⟩ := h
  show GO S0 72 4 [vR 0, vI x1, vI x2] [vI y2] I1 K
  refine G_i1 (C := y2 = 0) rc_72_4 rfl (fun c3 => ?_) (fun c3 => ?_)
  · rw [if_pos c3] at h
    show GO S0 72 17 [vR 0, vI x1, vI x2] [] I1 K
    refine G_const rc_72_17 (by decide) ?_
    exact G_retI rc_72_18 (Or.inl rfl) h
  · rw [if_neg c3] at h
    show GO S0 72 7 [vR 0, vI x1, vI x2] [] I1 K
    refine G_loadI rc_72_7 rfl ?_
    refine G_const rc_72_8 (by decide) ?_
    refine G_const rc_72_9 (by decide) ?_
    refine G_call (as := [vI x2, vI 0, vI 6]) (rest := []) rc_72_11 rfl rfl rfl (Nat.le_of_ble_eq_true rfl) rfl ?_
    refine GO.imp h (fun v I4 h => ?_)
    obtain ⟨y5, rfl, h⟩ := h
    show GO S0 72 14 [vR 0, vI x1, vI x2] [vI y5] I4 K
    refine G_i1 (C := ¬ y5 = 0) rc_72_14 rfl (fun c6 => ?_) (fun c6 => ?_)
    · rw [if_neg c6] at h
      show GO S0 72 19 [vR 0, vI x1, vI x2] [] I4 K
      refine G_loadR rc_72_19 rfl ?_
      refine G_getR rc_72_20 s0_0 (by decide) rfl (by decide) ?_
      show GO S0 72 23 [vR 0, vI x1, vI x2] [vR 193] I4 K
      refine G_loadR rc_72_23 rfl ?_
      refine G_getR rc_72_24 s0_0 (by decide) rfl (by decide) ?_
      show GO S0 72 27 [vR 0, vI x1, vI x2] [vR 29, vR 193] I4 K
      refine G_loadI rc_72_27 rfl ?_
      refine G_const rc_72_28 (by decide) ?_
      refine G_const rc_72_29 (by decide) ?_
      refine G_call (as := [vR 193, vR 29, vI x1, vI (-1), vI (-1)]) (rest := []) rc_72_30 rfl rfl rfl (Nat.le_of_ble_eq_true rfl) (g_recv s0_193 rfl) ?_
      refine GO.imp h (fun v I7 h => ?_)
      obtain ⟨rfl, h⟩ := h
      show GO S0 72 33 [vR 0, vI x1, vI x2] [] I7 K
      refine G_loadR rc_72_33 rfl ?_
      refine G_getR rc_72_34 s0_0 (by decide) rfl (by decide) ?_
      show GO S0 72 37 [vR 0, vI x1, vI x2] [vR 192] I7 K
      refine G_loadI rc_72_37 rfl ?_
      refine G_call (as := [vR 192, vI x2]) (rest := []) rc_72_38 rfl rfl rfl (Nat.le_of_ble_eq_true rfl) (g_recv s0_192 rfl) ?_
      refine GO.imp h (fun v I8 h => ?_)
      obtain ⟨y9, rfl, h⟩ := h
      show GO S0 72 41 [vR 0, vI x1, vI x2] [vI y9] I8 K
      exact G_retI rc_72_41 (Or.inl rfl) h
    · rw [if_pos (Classical.not_not.mp c6)] at h
      show GO S0 72 17 [vR 0, vI x1, vI x2] [] I4 K
      refine G_const rc_72_17 (by decide) ?_
      exact G_retI rc_72_18 (Or.inl rfl) h
/-! 73: RoundSlack.cost(I)I -/
def D73_0 (x1 : Int) (I : IM) (K : Option AV → IM → Prop) : Prop :=
  (if x1 = -1 then (CALL S0 46 [vR 193, vR 29] I (fun v I7 => ∃ y8 : Int, v = some (vI y8) ∧ K (some (vI y8)) I7)) else (CALL S0 24 [vI x1] I (fun v I2 => ∃ y3 : Int, v = some (vI y3) ∧ (if y3 = 0 then (K (some (vI (-1))) I2) else (CALL S0 47 [vR 193, vR 29, vI x1] I2 (fun v I5 => ∃ y6 : Int, v = some (vI y6) ∧ K (some (vI y6)) I5))))))
set_option maxRecDepth 10000 in
theorem g73_0 (x1 : Int) (I : IM) (K : Option AV → IM → Prop) (h : D73_0 x1 I K) : GO S0 73 0 [vR 0, vI x1] [] I K := by
  unfold D73_0 at h
  refine G_loadI rc_73_0 rfl ?_
  refine G_const rc_73_1 (by decide) ?_
  refine G_i2 (C := ¬ x1 = -1) rc_73_2 rfl (fun c1 => ?_) (fun c1 => ?_)
  · rw [if_neg c1] at h
    show GO S0 73 17 [vR 0, vI x1] [] I K
    refine G_loadI rc_73_17 rfl ?_
    refine G_call (as := [vI x1]) (rest := []) rc_73_18 rfl rfl rfl (Nat.le_of_ble_eq_true rfl) rfl ?_
    refine GO.imp h (fun v I2 h => ?_)
    obtain ⟨y3, rfl, h⟩ := h
    show GO S0 73 21 [vR 0, vI x1] [vI y3] I2 K
    refine G_i1 (C := y3 = 0) rc_73_21 rfl (fun c4 => ?_) (fun c4 => ?_)
    · rw [if_pos c4] at h
      show GO S0 73 39 [vR 0, vI x1] [] I2 K
      refine G_const rc_73_39 (by decide) ?_
      exact G_retI rc_73_40 (Or.inl rfl) h
    · rw [if_neg c4] at h
      show GO S0 73 24 [vR 0, vI x1] [] I2 K
      refine G_loadR rc_73_24 rfl ?_
      refine G_getR rc_73_25 s0_0 (by decide) rfl (by decide) ?_
      show GO S0 73 28 [vR 0, vI x1] [vR 193] I2 K
      refine G_loadR rc_73_28 rfl ?_
      refine G_getR rc_73_29 s0_0 (by decide) rfl (by decide) ?_
      show GO S0 73 32 [vR 0, vI x1] [vR 29, vR 193] I2 K
      refine G_loadI rc_73_32 rfl ?_
      refine G_call (as := [vR 193, vR 29, vI x1]) (rest := []) rc_73_33 rfl rfl rfl (Nat.le_of_ble_eq_true rfl) (g_recv s0_193 rfl) ?_
      refine GO.imp h (fun v I5 h => ?_)
      obtain ⟨y6, rfl, h⟩ := h
      show GO S0 73 36 [vR 0, vI x1] [vI y6] I5 K
      refine G_goto rc_73_36 ?_
      show GO S0 73 40 [vR 0, vI x1] [vI y6] I5 K
      exact G_retI rc_73_40 (Or.inl rfl) h
  · rw [if_pos (Classical.not_not.mp c1)] at h
    show GO S0 73 5 [vR 0, vI x1] [] I K
    refine G_loadR rc_73_5 rfl ?_
    refine G_getR rc_73_6 s0_0 (by decide) rfl (by decide) ?_
    show GO S0 73 9 [vR 0, vI x1] [vR 193] I K
    refine G_loadR rc_73_9 rfl ?_
    refine G_getR rc_73_10 s0_0 (by decide) rfl (by decide) ?_
    show GO S0 73 13 [vR 0, vI x1] [vR 29, vR 193] I K
    refine G_call (as := [vR 193, vR 29]) (rest := []) rc_73_13 rfl rfl rfl (Nat.le_of_ble_eq_true rfl) (g_recv s0_193 rfl) ?_
    refine GO.imp h (fun v I7 h => ?_)
    obtain ⟨y8, rfl, h⟩ := h
    show GO S0 73 16 [vR 0, vI x1] [vI y8] I7 K
    exact G_retI rc_73_16 (Or.inl rfl) h
/-! 74: RoundSlack.left()I -/
def D74_0 (I : IM) (K : Option AV → IM → Prop) : Prop :=
  (inR ((ishlF 1 (I 1 0)) - 1)) ∧ CALL S0 52 [vR 29] I (fun v I2 => ∃ y3 : Int, v = some (vI y3) ∧ K (some (vI (iandF ((ishlF 1 (I 1 0)) - 1) (ixorF y3 (-1))))) I2)
set_option maxRecDepth 10000 in
theorem g74_0 (I : IM) (K : Option AV → IM → Prop) (h : D74_0 I K) : GO S0 74 0 [vR 0] [] I K := by
  unfold D74_0 at h
  refine G_const rc_74_0 (by decide) ?_
  refine G_loadR rc_74_1 rfl ?_
  refine G_getR rc_74_2 s0_0 (by decide) rfl (by decide) ?_
  show GO S0 74 5 [vR 0] [vR 1, vI 1] I K
  refine G_getI rc_74_5 s0_1 (by decide) ?_
  show GO S0 74 8 [vR 0] [vI (I 1 0), vI 1] I K
  refine G_bop (z := ishlF 1 (I 1 0)) rc_74_8 rfl ?_
  show GO S0 74 9 [vR 0] [vI (ishlF 1 (I 1 0))] I K
  refine G_const rc_74_9 (by decide) ?_
  obtain ⟨c1, h⟩ := h
  refine G_bop (z := (ishlF 1 (I 1 0)) - 1) rc_74_10 (if_pos c1) ?_
  show GO S0 74 11 [vR 0] [vI ((ishlF 1 (I 1 0)) - 1)] I K
  refine G_loadR rc_74_11 rfl ?_
  refine G_getR rc_74_12 s0_0 (by decide) rfl (by decide) ?_
  show GO S0 74 15 [vR 0] [vR 29, vI ((ishlF 1 (I 1 0)) - 1)] I K
  refine G_call (as := [vR 29]) (rest := [vI ((ishlF 1 (I 1 0)) - 1)]) rc_74_15 rfl rfl rfl (Nat.le_of_ble_eq_true rfl) (g_recv s0_29 rfl) ?_
  refine GO.imp h (fun v I2 h => ?_)
  obtain ⟨y3, rfl, h⟩ := h
  show GO S0 74 18 [vR 0] [vI y3, vI ((ishlF 1 (I 1 0)) - 1)] I2 K
  refine G_const rc_74_18 (by decide) ?_
  refine G_bop (z := ixorF y3 (-1)) rc_74_19 rfl ?_
  show GO S0 74 20 [vR 0] [vI (ixorF y3 (-1)), vI ((ishlF 1 (I 1 0)) - 1)] I2 K
  refine G_bop (z := iandF ((ishlF 1 (I 1 0)) - 1) (ixorF y3 (-1))) rc_74_20 rfl ?_
  show GO S0 74 21 [vR 0] [vI (iandF ((ishlF 1 (I 1 0)) - 1) (ixorF y3 (-1)))] I2 K
  exact G_retI rc_74_21 (Or.inl rfl) h
/-! 75: RoundSlack.put(III)I -/
def D75_0 (x1 : Int) (x2 : Int) (x3 : Int) (I : IM) (K : Option AV → IM → Prop) : Prop :=
  CALL S0 21 [vR 0, vI x1] I (fun v I1 => ∃ y2 : Int, v = some (vI y2) ∧ (if y2 = 0 then (K (some (vI (-1))) I1) else (CALL S0 24 [vI x2] I1 (fun v I4 => ∃ y5 : Int, v = some (vI y5) ∧ (if y5 = 0 then (K (some (vI (-1))) I4) else ((0 ≤ x2 ∧ x2 < 4) ∧ CALL S0 14 [vI x3, vI 0, vI (I4 30 (x2).toNat)] I4 (fun v I8 => ∃ y9 : Int, v = some (vI y9) ∧ (if y9 = 0 then (K (some (vI (-1))) I8) else (CALL S0 22 [vR 29, vI x1] I8 (fun v I11 => ∃ y12 : Int, v = some (vI y12) ∧ (if y12 = -1 then (CALL S0 76 [vR 193, vR 29, vI x2, vI x1, vI x3] I11 (fun v I14 => ∃ y15 : Int, v = some (vI y15) ∧ (if y15 = -1 then (K (some (vI (-7))) I14) else (CALL S0 77 [vR 78, vR 29] I14 (fun v I17 => v = none ∧ CALL S0 45 [vR 29, vI x1, vI x2, vI x3] I17 (fun v I18 => v = none ∧ K (some (vI 1)) I18)))))) else (K (some (vI (-3))) I11))))))))))))
set_option maxRecDepth 10000 in
theorem g75_0 (x1 : Int) (x2 : Int) (x3 : Int) (I : IM) (K : Option AV → IM → Prop) (h : D75_0 x1 x2 x3 I K) : GO S0 75 0 [vR 0, vI x1, vI x2, vI x3] [] I K := by
  unfold D75_0 at h
  refine G_loadR rc_75_0 rfl ?_
  refine G_loadI rc_75_1 rfl ?_
  refine G_call (as := [vR 0, vI x1]) (rest := []) rc_75_2 rfl rfl rfl (Nat.le_of_ble_eq_true rfl) (g_recv s0_0 rfl) ?_
  refine GO.imp h (fun v I1 h => ?_)
  obtain ⟨y2, rfl, h⟩ := h
  show GO S0 75 5 [vR 0, vI x1, vI x2, vI x3] [vI y2] I1 K
  refine G_i1 (C := y2 = 0) rc_75_5 rfl (fun c3 => ?_) (fun c3 => ?_)
  · rw [if_pos c3] at h
    show GO S0 75 32 [vR 0, vI x1, vI x2, vI x3] [] I1 K
    refine G_const rc_75_32 (by decide) ?_
    exact G_retI rc_75_33 (Or.inl rfl) h
  · rw [if_neg c3] at h
    show GO S0 75 8 [vR 0, vI x1, vI x2, vI x3] [] I1 K
    refine G_loadI rc_75_8 rfl ?_
    refine G_call (as := [vI x2]) (rest := []) rc_75_9 rfl rfl rfl (Nat.le_of_ble_eq_true rfl) rfl ?_
    refine GO.imp h (fun v I4 h => ?_)
    obtain ⟨y5, rfl, h⟩ := h
    show GO S0 75 12 [vR 0, vI x1, vI x2, vI x3] [vI y5] I4 K
    refine G_i1 (C := y5 = 0) rc_75_12 rfl (fun c6 => ?_) (fun c6 => ?_)
    · rw [if_pos c6] at h
      show GO S0 75 32 [vR 0, vI x1, vI x2, vI x3] [] I4 K
      refine G_const rc_75_32 (by decide) ?_
      exact G_retI rc_75_33 (Or.inl rfl) h
    · rw [if_neg c6] at h
      show GO S0 75 15 [vR 0, vI x1, vI x2, vI x3] [] I4 K
      refine G_loadI rc_75_15 rfl ?_
      refine G_const rc_75_16 (by decide) ?_
      refine G_loadR rc_75_17 rfl ?_
      refine G_getR rc_75_18 s0_0 (by decide) rfl (by decide) ?_
      show GO S0 75 21 [vR 0, vI x1, vI x2, vI x3] [vR 29, vI 0, vI x3] I4 K
      refine G_getR rc_75_21 s0_29 (by decide) rfl (by decide) ?_
      show GO S0 75 24 [vR 0, vI x1, vI x2, vI x3] [vR 30, vI 0, vI x3] I4 K
      refine G_loadI rc_75_24 rfl ?_
      obtain ⟨c7, h⟩ := h
      refine G_ald rc_75_25 s0_30 (by omega) (by omega) ?_
      show GO S0 75 26 [vR 0, vI x1, vI x2, vI x3] [vI (I4 30 (x2).toNat), vI 0, vI x3] I4 K
      refine G_call (as := [vI x3, vI 0, vI (I4 30 (x2).toNat)]) (rest := []) rc_75_26 rfl rfl rfl (Nat.le_of_ble_eq_true rfl) rfl ?_
      refine GO.imp h (fun v I8 h => ?_)
      obtain ⟨y9, rfl, h⟩ := h
      show GO S0 75 29 [vR 0, vI x1, vI x2, vI x3] [vI y9] I8 K
      refine G_i1 (C := ¬ y9 = 0) rc_75_29 rfl (fun c10 => ?_) (fun c10 => ?_)
      · rw [if_neg c10] at h
        show GO S0 75 34 [vR 0, vI x1, vI x2, vI x3] [] I8 K
        refine G_loadR rc_75_34 rfl ?_
        refine G_getR rc_75_35 s0_0 (by decide) rfl (by decide) ?_
        show GO S0 75 38 [vR 0, vI x1, vI x2, vI x3] [vR 29] I8 K
        refine G_loadI rc_75_38 rfl ?_
        refine G_call (as := [vR 29, vI x1]) (rest := []) rc_75_39 rfl rfl rfl (Nat.le_of_ble_eq_true rfl) (g_recv s0_29 rfl) ?_
        refine GO.imp h (fun v I11 h => ?_)
        obtain ⟨y12, rfl, h⟩ := h
        show GO S0 75 42 [vR 0, vI x1, vI x2, vI x3] [vI y12] I11 K
        refine G_const rc_75_42 (by decide) ?_
        refine G_i2 (C := y12 = -1) rc_75_43 rfl (fun c13 => ?_) (fun c13 => ?_)
        · rw [if_pos c13] at h
          show GO S0 75 49 [vR 0, vI x1, vI x2, vI x3] [] I11 K
          refine G_loadR rc_75_49 rfl ?_
          refine G_getR rc_75_50 s0_0 (by decide) rfl (by decide) ?_
          show GO S0 75 53 [vR 0, vI x1, vI x2, vI x3] [vR 193] I11 K
          refine G_loadR rc_75_53 rfl ?_
          refine G_getR rc_75_54 s0_0 (by decide) rfl (by decide) ?_
          show GO S0 75 57 [vR 0, vI x1, vI x2, vI x3] [vR 29, vR 193] I11 K
          refine G_loadI rc_75_57 rfl ?_
          refine G_loadI rc_75_58 rfl ?_
          refine G_loadI rc_75_59 rfl ?_
          refine G_call (as := [vR 193, vR 29, vI x2, vI x1, vI x3]) (rest := []) rc_75_60 rfl rfl rfl (Nat.le_of_ble_eq_true rfl) (g_recv s0_193 rfl) ?_
          refine GO.imp h (fun v I14 h => ?_)
          obtain ⟨y15, rfl, h⟩ := h
          show GO S0 75 63 [vR 0, vI x1, vI x2, vI x3] [vI y15] I14 K
          refine G_const rc_75_63 (by decide) ?_
          refine G_i2 (C := ¬ y15 = -1) rc_75_64 rfl (fun c16 => ?_) (fun c16 => ?_)
          · rw [if_neg c16] at h
            show GO S0 75 70 [vR 0, vI x1, vI x2, vI x3] [] I14 K
            refine G_loadR rc_75_70 rfl ?_
            refine G_getR rc_75_71 s0_0 (by decide) rfl (by decide) ?_
            show GO S0 75 74 [vR 0, vI x1, vI x2, vI x3] [vR 78] I14 K
            refine G_loadR rc_75_74 rfl ?_
            refine G_getR rc_75_75 s0_0 (by decide) rfl (by decide) ?_
            show GO S0 75 78 [vR 0, vI x1, vI x2, vI x3] [vR 29, vR 78] I14 K
            refine G_call (as := [vR 78, vR 29]) (rest := []) rc_75_78 rfl rfl rfl (Nat.le_of_ble_eq_true rfl) (g_recv s0_78 rfl) ?_
            refine GO.imp h (fun v I17 h => ?_)
            obtain ⟨rfl, h⟩ := h
            show GO S0 75 81 [vR 0, vI x1, vI x2, vI x3] [] I17 K
            refine G_loadR rc_75_81 rfl ?_
            refine G_getR rc_75_82 s0_0 (by decide) rfl (by decide) ?_
            show GO S0 75 85 [vR 0, vI x1, vI x2, vI x3] [vR 29] I17 K
            refine G_loadI rc_75_85 rfl ?_
            refine G_loadI rc_75_86 rfl ?_
            refine G_loadI rc_75_87 rfl ?_
            refine G_call (as := [vR 29, vI x1, vI x2, vI x3]) (rest := []) rc_75_88 rfl rfl rfl (Nat.le_of_ble_eq_true rfl) (g_recv s0_29 rfl) ?_
            refine GO.imp h (fun v I18 h => ?_)
            obtain ⟨rfl, h⟩ := h
            show GO S0 75 91 [vR 0, vI x1, vI x2, vI x3] [] I18 K
            refine G_const rc_75_91 (by decide) ?_
            exact G_retI rc_75_92 (Or.inl rfl) h
          · rw [if_pos (Classical.not_not.mp c16)] at h
            show GO S0 75 67 [vR 0, vI x1, vI x2, vI x3] [] I14 K
            refine G_const rc_75_67 (by decide) ?_
            exact G_retI rc_75_69 (Or.inl rfl) h
        · rw [if_neg c13] at h
          show GO S0 75 46 [vR 0, vI x1, vI x2, vI x3] [] I11 K
          refine G_const rc_75_46 (by decide) ?_
          exact G_retI rc_75_48 (Or.inl rfl) h
      · rw [if_pos (Classical.not_not.mp c10)] at h
        show GO S0 75 32 [vR 0, vI x1, vI x2, vI x3] [] I8 K
        refine G_const rc_75_32 (by decide) ?_
        exact G_retI rc_75_33 (Or.inl rfl) h
/-! 76: RoundSlack$Judge.costWith(LRoundSlack$Rounds;III)I -/
def D76_0 (r1 : Nat) (x2 : Int) (x3 : Int) (x4 : Int) (I : IM) (K : Option AV → IM → Prop) : Prop :=
  CALL S0 48 [vR 193, vR r1, vI x2, vI x3, vI x4] I (fun v I1 => v = none ∧ CALL S0 51 [vR 193, vI x2] I1 (fun v I2 => ∃ y3 : Int, v = some (vI y3) ∧ K (some (vI y3)) I2))
set_option maxRecDepth 10000 in
theorem g76_0 (r1 : Nat) (h1 : isRd r1) (x2 : Int) (x3 : Int) (x4 : Int) (I : IM) (K : Option AV → IM → Prop) (h : D76_0 r1 x2 x3 x4 I K) : GO S0 76 0 [vR 193, vR r1, vI x2, vI x3, vI x4] [] I K := by
  unfold D76_0 at h
  refine G_loadR rc_76_0 rfl ?_
  refine G_loadR rc_76_1 rfl ?_
  refine G_loadI rc_76_2 rfl ?_
  refine G_loadI rc_76_3 rfl ?_
  refine G_loadI rc_76_4 rfl ?_
  refine G_call (as := [vR 193, vR r1, vI x2, vI x3, vI x4]) (rest := []) rc_76_6 rfl rfl rfl (Nat.le_of_ble_eq_true rfl) (g_recv s0_193 rfl) ?_
  refine GO.imp h (fun v I1 h => ?_)
  obtain ⟨rfl, h⟩ := h
  show GO S0 76 9 [vR 193, vR r1, vI x2, vI x3, vI x4] [] I1 K
  refine G_loadR rc_76_9 rfl ?_
  refine G_loadI rc_76_10 rfl ?_
  refine G_call (as := [vR 193, vI x2]) (rest := []) rc_76_11 rfl rfl rfl (Nat.le_of_ble_eq_true rfl) (g_recv s0_193 rfl) ?_
  refine GO.imp h (fun v I2 h => ?_)
  obtain ⟨y3, rfl, h⟩ := h
  show GO S0 76 14 [vR 193, vR r1, vI x2, vI x3, vI x4] [vI y3] I2 K
  exact G_retI rc_76_14 (Or.inl rfl) h
/-! 77: RoundSlack$Steps.keep(LRoundSlack$Rounds;)V -/
def D77_0 (r1 : Nat) (I : IM) (K : Option AV → IM → Prop) : Prop :=
  (0 ≤ I 78 1 ∧ I 78 1 < 16) ∧ CALL S0 53 [vR ((80 + 7 * (I 78 1).toNat)), vR r1] I (fun v I2 => v = none ∧ (inR ((I2 78 1) + 1)) ∧ (inR (Int.tdiv ((I2 78 1) + 1) 16)) ∧ ∀ I5 : IM, I5 = iup I2 78 1 (Int.tmod ((I2 78 1) + 1) 16) → (if (16 : Int) ≤ I5 78 2 then (K none I5) else ((inR ((I5 78 2) + 1)) ∧ ∀ I8 : IM, I8 = iup I5 78 2 ((I5 78 2) + 1) → K none I8)))
set_option maxRecDepth 10000 in
theorem g77_0 (r1 : Nat) (h1 : isRd r1) (I : IM) (K : Option AV → IM → Prop) (h : D77_0 r1 I K) : GO S0 77 0 [vR 78, vR r1] [] I K := by
  unfold D77_0 at h
  refine G_loadR rc_77_0 rfl ?_
  refine G_getR rc_77_1 s0_78 (by decide) rfl (by decide) ?_
  show GO S0 77 4 [vR 78, vR r1] [vR 79] I K
  refine G_loadR rc_77_4 rfl ?_
  refine G_getI rc_77_5 s0_78 (by decide) ?_
  show GO S0 77 8 [vR 78, vR r1] [vI (I 78 1), vR 79] I K
  obtain ⟨c1, h⟩ := h
  refine G_aldR rc_77_8 s0_79 (Or.inr rfl) (by omega) (by omega) (rw79 (i := (I 78 1).toNat) (by omega)) (by omega) ?_
  show GO S0 77 9 [vR 78, vR r1] [vR ((80 + 7 * (I 78 1).toNat))] I K
  refine G_loadR rc_77_9 rfl ?_
  refine G_call (as := [vR ((80 + 7 * (I 78 1).toNat)), vR r1]) (rest := []) rc_77_10 rfl rfl rfl (Nat.le_of_ble_eq_true rfl) (g_recv (rd_0 (q79 (i := (I 78 1).toNat) (by omega))) rfl) ?_
  refine GO.imp h (fun v I2 h => ?_)
  obtain ⟨rfl, h⟩ := h
  show GO S0 77 13 [vR 78, vR r1] [] I2 K
  refine G_loadR rc_77_13 rfl ?_
  refine G_loadR rc_77_14 rfl ?_
  refine G_getI rc_77_15 s0_78 (by decide) ?_
  show GO S0 77 18 [vR 78, vR r1] [vI (I2 78 1), vR 78] I2 K
  refine G_const rc_77_18 (by decide) ?_
  obtain ⟨c3, h⟩ := h
  refine G_bop (z := (I2 78 1) + 1) rc_77_19 (if_pos c3) ?_
  show GO S0 77 20 [vR 78, vR r1] [vI ((I2 78 1) + 1), vR 78] I2 K
  refine G_const rc_77_20 (by decide) ?_
  obtain ⟨c4, h⟩ := h
  refine G_bop (z := Int.tmod ((I2 78 1) + 1) 16) rc_77_22 (show (if (16 : Int) ≠ 0 ∧ inR (Int.tdiv ((I2 78 1) + 1) 16) then some (Int.tmod ((I2 78 1) + 1) 16) else none) = some (Int.tmod ((I2 78 1) + 1) 16) from if_pos ⟨by decide, c4⟩) ?_
  show GO S0 77 23 [vR 78, vR r1] [vI (Int.tmod ((I2 78 1) + 1) 16), vR 78] I2 K
  refine G_putI rc_77_23 s0_78 (by decide) (Or.inl rfl) ?_
  show GO S0 77 26 [vR 78, vR r1] [] (iup I2 78 1 (Int.tmod ((I2 78 1) + 1) 16)) K
  have h := h _ rfl
  generalize iup I2 78 1 (Int.tmod ((I2 78 1) + 1) 16) = I5 at h ⊢
  refine G_loadR rc_77_26 rfl ?_
  refine G_getI rc_77_27 s0_78 (by decide) ?_
  show GO S0 77 30 [vR 78, vR r1] [vI (I5 78 2)] I5 K
  refine G_const rc_77_30 (by decide) ?_
  refine G_i2 (C := (16 : Int) ≤ I5 78 2) rc_77_32 rfl (fun c6 => ?_) (fun c6 => ?_)
  · rw [if_pos c6] at h
    show GO S0 77 45 [vR 78, vR r1] [] I5 K
    exact G_ret0 rc_77_45 h
  · rw [if_neg c6] at h
    show GO S0 77 35 [vR 78, vR r1] [] I5 K
    refine G_loadR rc_77_35 rfl ?_
    refine G_dupR rc_77_36 ?_
    refine G_getI rc_77_37 s0_78 (by decide) ?_
    show GO S0 77 40 [vR 78, vR r1] [vI (I5 78 2), vR 78] I5 K
    refine G_const rc_77_40 (by decide) ?_
    obtain ⟨c7, h⟩ := h
    refine G_bop (z := (I5 78 2) + 1) rc_77_41 (if_pos c7) ?_
    show GO S0 77 42 [vR 78, vR r1] [vI ((I5 78 2) + 1), vR 78] I5 K
    refine G_putI rc_77_42 s0_78 (by decide) (Or.inl rfl) ?_
    show GO S0 77 45 [vR 78, vR r1] [] (iup I5 78 2 ((I5 78 2) + 1)) K
    have h := h _ rfl
    generalize iup I5 78 2 ((I5 78 2) + 1) = I8 at h ⊢
    exact G_ret0 rc_77_45 h
/-! 78: RoundSlack.would(III)J -/
def D78_0 (x1 : Int) (x2 : Int) (x3 : Int) (I : IM) (K : Option AV → IM → Prop) : Prop :=
  CALL S0 21 [vR 0, vI x1] I (fun v I1 => ∃ y2 : Int, v = some (vI y2) ∧ (if y2 = 0 then (K (some (vL (-9223372036854775808))) I1) else (CALL S0 24 [vI x2] I1 (fun v I4 => ∃ y5 : Int, v = some (vI y5) ∧ (if y5 = 0 then (K (some (vL (-9223372036854775808))) I4) else ((0 ≤ x2 ∧ x2 < 4) ∧ CALL S0 14 [vI x3, vI 0, vI (I4 30 (x2).toNat)] I4 (fun v I8 => ∃ y9 : Int, v = some (vI y9) ∧ (if y9 = 0 then (K (some (vL (-9223372036854775808))) I8) else (CALL S0 22 [vR 29, vI x1] I8 (fun v I11 => ∃ y12 : Int, v = some (vI y12) ∧ (if y12 = -1 then (CALL S0 76 [vR 193, vR 29, vI x2, vI x1, vI x3] I11 (fun v I14 => ∃ y15 : Int, v = some (vI y15) ∧ (if y15 = -1 then (K (some (vL (-9223372036854775808))) I14) else (CALL S0 47 [vR 193, vR 29, vI x2] I14 (fun v I17 => ∃ y18 : Int, v = some (vI y18) ∧ (inR (y15 - y18)) ∧ K (some (vL (y15 - y18))) I17))))) else (K (some (vL (-9223372036854775808))) I11))))))))))))
set_option maxRecDepth 10000 in
theorem g78_0 (x1 : Int) (x2 : Int) (x3 : Int) (I : IM) (K : Option AV → IM → Prop) (h : D78_0 x1 x2 x3 I K) : GO S0 78 0 [vR 0, vI x1, vI x2, vI x3, vU] [] I K := by
  unfold D78_0 at h
  refine G_loadR rc_78_0 rfl ?_
  refine G_loadI rc_78_1 rfl ?_
  refine G_call (as := [vR 0, vI x1]) (rest := []) rc_78_2 rfl rfl rfl (Nat.le_of_ble_eq_true rfl) (g_recv s0_0 rfl) ?_
  refine GO.imp h (fun v I1 h => ?_)
  obtain ⟨y2, rfl, h⟩ := h
  show GO S0 78 5 [vR 0, vI x1, vI x2, vI x3, vU] [vI y2] I1 K
  refine G_i1 (C := y2 = 0) rc_78_5 rfl (fun c3 => ?_) (fun c3 => ?_)
  · rw [if_pos c3] at h
    show GO S0 78 44 [vR 0, vI x1, vI x2, vI x3, vU] [] I1 K
    refine G_lconst rc_78_44 (by decide) ?_
    exact G_retL rc_78_47 h
  · rw [if_neg c3] at h
    show GO S0 78 8 [vR 0, vI x1, vI x2, vI x3, vU] [] I1 K
    refine G_loadI rc_78_8 rfl ?_
    refine G_call (as := [vI x2]) (rest := []) rc_78_9 rfl rfl rfl (Nat.le_of_ble_eq_true rfl) rfl ?_
    refine GO.imp h (fun v I4 h => ?_)
    obtain ⟨y5, rfl, h⟩ := h
    show GO S0 78 12 [vR 0, vI x1, vI x2, vI x3, vU] [vI y5] I4 K
    refine G_i1 (C := y5 = 0) rc_78_12 rfl (fun c6 => ?_) (fun c6 => ?_)
    · rw [if_pos c6] at h
      show GO S0 78 44 [vR 0, vI x1, vI x2, vI x3, vU] [] I4 K
      refine G_lconst rc_78_44 (by decide) ?_
      exact G_retL rc_78_47 h
    · rw [if_neg c6] at h
      show GO S0 78 15 [vR 0, vI x1, vI x2, vI x3, vU] [] I4 K
      refine G_loadI rc_78_15 rfl ?_
      refine G_const rc_78_16 (by decide) ?_
      refine G_loadR rc_78_17 rfl ?_
      refine G_getR rc_78_18 s0_0 (by decide) rfl (by decide) ?_
      show GO S0 78 21 [vR 0, vI x1, vI x2, vI x3, vU] [vR 29, vI 0, vI x3] I4 K
      refine G_getR rc_78_21 s0_29 (by decide) rfl (by decide) ?_
      show GO S0 78 24 [vR 0, vI x1, vI x2, vI x3, vU] [vR 30, vI 0, vI x3] I4 K
      refine G_loadI rc_78_24 rfl ?_
      obtain ⟨c7, h⟩ := h
      refine G_ald rc_78_25 s0_30 (by omega) (by omega) ?_
      show GO S0 78 26 [vR 0, vI x1, vI x2, vI x3, vU] [vI (I4 30 (x2).toNat), vI 0, vI x3] I4 K
      refine G_call (as := [vI x3, vI 0, vI (I4 30 (x2).toNat)]) (rest := []) rc_78_26 rfl rfl rfl (Nat.le_of_ble_eq_true rfl) rfl ?_
      refine GO.imp h (fun v I8 h => ?_)
      obtain ⟨y9, rfl, h⟩ := h
      show GO S0 78 29 [vR 0, vI x1, vI x2, vI x3, vU] [vI y9] I8 K
      refine G_i1 (C := y9 = 0) rc_78_29 rfl (fun c10 => ?_) (fun c10 => ?_)
      · rw [if_pos c10] at h
        show GO S0 78 44 [vR 0, vI x1, vI x2, vI x3, vU] [] I8 K
        refine G_lconst rc_78_44 (by decide) ?_
        exact G_retL rc_78_47 h
      · rw [if_neg c10] at h
        show GO S0 78 32 [vR 0, vI x1, vI x2, vI x3, vU] [] I8 K
        refine G_loadR rc_78_32 rfl ?_
        refine G_getR rc_78_33 s0_0 (by decide) rfl (by decide) ?_
        show GO S0 78 36 [vR 0, vI x1, vI x2, vI x3, vU] [vR 29] I8 K
        refine G_loadI rc_78_36 rfl ?_
        refine G_call (as := [vR 29, vI x1]) (rest := []) rc_78_37 rfl rfl rfl (Nat.le_of_ble_eq_true rfl) (g_recv s0_29 rfl) ?_
        refine GO.imp h (fun v I11 h => ?_)
        obtain ⟨y12, rfl, h⟩ := h
        show GO S0 78 40 [vR 0, vI x1, vI x2, vI x3, vU] [vI y12] I11 K
        refine G_const rc_78_40 (by decide) ?_
        refine G_i2 (C := y12 = -1) rc_78_41 rfl (fun c13 => ?_) (fun c13 => ?_)
        · rw [if_pos c13] at h
          show GO S0 78 48 [vR 0, vI x1, vI x2, vI x3, vU] [] I11 K
          refine G_loadR rc_78_48 rfl ?_
          refine G_getR rc_78_49 s0_0 (by decide) rfl (by decide) ?_
          show GO S0 78 52 [vR 0, vI x1, vI x2, vI x3, vU] [vR 193] I11 K
          refine G_loadR rc_78_52 rfl ?_
          refine G_getR rc_78_53 s0_0 (by decide) rfl (by decide) ?_
          show GO S0 78 56 [vR 0, vI x1, vI x2, vI x3, vU] [vR 29, vR 193] I11 K
          refine G_loadI rc_78_56 rfl ?_
          refine G_loadI rc_78_57 rfl ?_
          refine G_loadI rc_78_58 rfl ?_
          refine G_call (as := [vR 193, vR 29, vI x2, vI x1, vI x3]) (rest := []) rc_78_59 rfl rfl rfl (Nat.le_of_ble_eq_true rfl) (g_recv s0_193 rfl) ?_
          refine GO.imp h (fun v I14 h => ?_)
          obtain ⟨y15, rfl, h⟩ := h
          show GO S0 78 62 [vR 0, vI x1, vI x2, vI x3, vU] [vI y15] I14 K
          refine G_storeI rc_78_62 (Nat.le_of_ble_eq_true rfl) ?_
          show GO S0 78 64 [vR 0, vI x1, vI x2, vI x3, vI y15] [] I14 K
          refine G_loadI rc_78_64 rfl ?_
          refine G_const rc_78_66 (by decide) ?_
          refine G_i2 (C := ¬ y15 = -1) rc_78_67 rfl (fun c16 => ?_) (fun c16 => ?_)
          · rw [if_neg c16] at h
            show GO S0 78 76 [vR 0, vI x1, vI x2, vI x3, vI y15] [] I14 K
            refine G_loadI rc_78_76 rfl ?_
            refine G_loadR rc_78_78 rfl ?_
            refine G_getR rc_78_79 s0_0 (by decide) rfl (by decide) ?_
            show GO S0 78 82 [vR 0, vI x1, vI x2, vI x3, vI y15] [vR 193, vI y15] I14 K
            refine G_loadR rc_78_82 rfl ?_
            refine G_getR rc_78_83 s0_0 (by decide) rfl (by decide) ?_
            show GO S0 78 86 [vR 0, vI x1, vI x2, vI x3, vI y15] [vR 29, vR 193, vI y15] I14 K
            refine G_loadI rc_78_86 rfl ?_
            refine G_call (as := [vR 193, vR 29, vI x2]) (rest := [vI y15]) rc_78_87 rfl rfl rfl (Nat.le_of_ble_eq_true rfl) (g_recv s0_193 rfl) ?_
            refine GO.imp h (fun v I17 h => ?_)
            obtain ⟨y18, rfl, h⟩ := h
            show GO S0 78 90 [vR 0, vI x1, vI x2, vI x3, vI y15] [vI y18, vI y15] I17 K
            obtain ⟨c19, h⟩ := h
            refine G_bop (z := y15 - y18) rc_78_90 (if_pos c19) ?_
            show GO S0 78 91 [vR 0, vI x1, vI x2, vI x3, vI y15] [vI (y15 - y18)] I17 K
            refine G_i2l rc_78_91 ?_
            exact G_retL rc_78_92 h
          · rw [if_pos (Classical.not_not.mp c16)] at h
            show GO S0 78 70 [vR 0, vI x1, vI x2, vI x3, vI y15] [] I14 K
            refine G_lconst rc_78_70 (by decide) ?_
            refine G_goto rc_78_73 ?_
            show GO S0 78 92 [vR 0, vI x1, vI x2, vI x3, vI y15] [vL (-9223372036854775808)] I14 K
            exact G_retL rc_78_92 h
        · rw [if_neg c13] at h
          show GO S0 78 44 [vR 0, vI x1, vI x2, vI x3, vU] [] I11 K
          refine G_lconst rc_78_44 (by decide) ?_
          exact G_retL rc_78_47 h
/-! 79: RoundSlack.take(I)I -/
def D79_0 (x1 : Int) (I : IM) (K : Option AV → IM → Prop) : Prop :=
  CALL S0 21 [vR 0, vI x1] I (fun v I1 => ∃ y2 : Int, v = some (vI y2) ∧ (if y2 = 0 then (K (some (vI (-1))) I1) else (CALL S0 22 [vR 29, vI x1] I1 (fun v I4 => ∃ y5 : Int, v = some (vI y5) ∧ (if y5 = -1 then (K (some (vI (-3))) I4) else (CALL S0 77 [vR 78, vR 29] I4 (fun v I7 => v = none ∧ CALL S0 80 [vR 29, vI x1] I7 (fun v I8 => v = none ∧ K (some (vI y5)) I8))))))))
set_option maxRecDepth 10000 in
theorem g79_0 (x1 : Int) (I : IM) (K : Option AV → IM → Prop) (h : D79_0 x1 I K) : GO S0 79 0 [vR 0, vI x1, vU] [] I K := by
  unfold D79_0 at h
  refine G_loadR rc_79_0 rfl ?_
  refine G_loadI rc_79_1 rfl ?_
  refine G_call (as := [vR 0, vI x1]) (rest := []) rc_79_2 rfl rfl rfl (Nat.le_of_ble_eq_true rfl) (g_recv s0_0 rfl) ?_
  refine GO.imp h (fun v I1 h => ?_)
  obtain ⟨y2, rfl, h⟩ := h
  show GO S0 79 5 [vR 0, vI x1, vU] [vI y2] I1 K
  refine G_i1 (C := ¬ y2 = 0) rc_79_5 rfl (fun c3 => ?_) (fun c3 => ?_)
  · rw [if_neg c3] at h
    show GO S0 79 10 [vR 0, vI x1, vU] [] I1 K
    refine G_loadR rc_79_10 rfl ?_
    refine G_getR rc_79_11 s0_0 (by decide) rfl (by decide) ?_
    show GO S0 79 14 [vR 0, vI x1, vU] [vR 29] I1 K
    refine G_loadI rc_79_14 rfl ?_
    refine G_call (as := [vR 29, vI x1]) (rest := []) rc_79_15 rfl rfl rfl (Nat.le_of_ble_eq_true rfl) (g_recv s0_29 rfl) ?_
    refine GO.imp h (fun v I4 h => ?_)
    obtain ⟨y5, rfl, h⟩ := h
    show GO S0 79 18 [vR 0, vI x1, vU] [vI y5] I4 K
    refine G_storeI rc_79_18 (Nat.le_of_ble_eq_true rfl) ?_
    show GO S0 79 19 [vR 0, vI x1, vI y5] [] I4 K
    refine G_loadI rc_79_19 rfl ?_
    refine G_const rc_79_20 (by decide) ?_
    refine G_i2 (C := ¬ y5 = -1) rc_79_21 rfl (fun c6 => ?_) (fun c6 => ?_)
    · rw [if_neg c6] at h
      show GO S0 79 27 [vR 0, vI x1, vI y5] [] I4 K
      refine G_loadR rc_79_27 rfl ?_
      refine G_getR rc_79_28 s0_0 (by decide) rfl (by decide) ?_
      show GO S0 79 31 [vR 0, vI x1, vI y5] [vR 78] I4 K
      refine G_loadR rc_79_31 rfl ?_
      refine G_getR rc_79_32 s0_0 (by decide) rfl (by decide) ?_
      show GO S0 79 35 [vR 0, vI x1, vI y5] [vR 29, vR 78] I4 K
      refine G_call (as := [vR 78, vR 29]) (rest := []) rc_79_35 rfl rfl rfl (Nat.le_of_ble_eq_true rfl) (g_recv s0_78 rfl) ?_
      refine GO.imp h (fun v I7 h => ?_)
      obtain ⟨rfl, h⟩ := h
      show GO S0 79 38 [vR 0, vI x1, vI y5] [] I7 K
      refine G_loadR rc_79_38 rfl ?_
      refine G_getR rc_79_39 s0_0 (by decide) rfl (by decide) ?_
      show GO S0 79 42 [vR 0, vI x1, vI y5] [vR 29] I7 K
      refine G_loadI rc_79_42 rfl ?_
      refine G_call (as := [vR 29, vI x1]) (rest := []) rc_79_43 rfl rfl rfl (Nat.le_of_ble_eq_true rfl) (g_recv s0_29 rfl) ?_
      refine GO.imp h (fun v I8 h => ?_)
      obtain ⟨rfl, h⟩ := h
      show GO S0 79 46 [vR 0, vI x1, vI y5] [] I8 K
      refine G_loadI rc_79_46 rfl ?_
      exact G_retI rc_79_47 (Or.inl rfl) h
    · rw [if_pos (Classical.not_not.mp c6)] at h
      show GO S0 79 24 [vR 0, vI x1, vI y5] [] I4 K
      refine G_const rc_79_24 (by decide) ?_
      exact G_retI rc_79_26 (Or.inl rfl) h
  · rw [if_pos (Classical.not_not.mp c3)] at h
    show GO S0 79 8 [vR 0, vI x1, vU] [] I1 K
    refine G_const rc_79_8 (by decide) ?_
    exact G_retI rc_79_9 (Or.inl rfl) h
/-! 80: RoundSlack$Rounds.remove(I)V -/
def D80_44 (r0 : Nat) (x1 : Int) (x2 : Int) (x3 : Int) (q4 : Nat) (x5 : Int) (I : IM) (K : Option AV → IM → Prop) : Prop :=
  (0 ≤ x2 ∧ x2 < 4) ∧ (if I (r0 + 1) (x2).toNat ≤ x5 then (K none I) else ((inR (x5 + 1)) ∧ (0 ≤ x5 + 1 ∧ x5 + 1 < 12) ∧ (0 ≤ x5 ∧ x5 < 12) ∧ ∀ I6 : IM, I6 = iup I q4 (x5).toNat (I q4 (x5 + 1).toNat) → GO S0 80 44 [vR r0, vI x1, vI x2, vI x3, vR q4, vI (x5 + 1)] [] I6 K))
set_option maxRecDepth 10000 in
theorem g80_44 (r0 : Nat) (h0 : isRd r0) (x1 : Int) (x2 : Int) (x3 : Int) (q4 : Nat) (x5 : Int) (f4 : S0[q4]? = some (100, 12, [])) (I : IM) (K : Option AV → IM → Prop) (h : D80_44 r0 x1 x2 x3 q4 x5 I K) : GO S0 80 44 [vR r0, vI x1, vI x2, vI x3, vR q4, vI x5] [] I K := by
  unfold D80_44 at h
  refine G_loadI rc_80_44 rfl ?_
  refine G_loadR rc_80_46 rfl ?_
  refine G_getR rc_80_47 (rd_0 h0) (by decide) rfl (by have := rd_lt h0; omega) ?_
  show GO S0 80 50 [vR r0, vI x1, vI x2, vI x3, vR q4, vI x5] [vR (r0 + 1), vI x5] I K
  refine G_loadI rc_80_50 rfl ?_
  obtain ⟨c1, h⟩ := h
  refine G_ald rc_80_51 (rd_1 h0) (by omega) (by omega) ?_
  show GO S0 80 52 [vR r0, vI x1, vI x2, vI x3, vR q4, vI x5] [vI (I (r0 + 1) (x2).toNat), vI x5] I K
  refine G_i2 (C := I (r0 + 1) (x2).toNat ≤ x5) rc_80_52 rfl (fun c2 => ?_) (fun c2 => ?_)
  · rw [if_pos c2] at h
    show GO S0 80 73 [vR r0, vI x1, vI x2, vI x3, vR q4, vI x5] [] I K
    exact G_ret0 rc_80_73 h
  · rw [if_neg c2] at h
    show GO S0 80 55 [vR r0, vI x1, vI x2, vI x3, vR q4, vI x5] [] I K
    refine G_loadR rc_80_55 rfl ?_
    refine G_loadI rc_80_57 rfl ?_
    refine G_loadR rc_80_59 rfl ?_
    refine G_loadI rc_80_61 rfl ?_
    refine G_const rc_80_63 (by decide) ?_
    obtain ⟨c3, h⟩ := h
    refine G_bop (z := x5 + 1) rc_80_64 (if_pos c3) ?_
    show GO S0 80 65 [vR r0, vI x1, vI x2, vI x3, vR q4, vI x5] [vI (x5 + 1), vR q4, vI x5, vR q4] I K
    obtain ⟨c4, h⟩ := h
    refine G_ald rc_80_65 f4 (by omega) (by omega) ?_
    show GO S0 80 66 [vR r0, vI x1, vI x2, vI x3, vR q4, vI x5] [vI (I q4 (x5 + 1).toNat), vI x5, vR q4] I K
    obtain ⟨c5, h⟩ := h
    refine G_ast rc_80_66 f4 (by omega) (by omega) (Or.inl rfl) ?_
    show GO S0 80 67 [vR r0, vI x1, vI x2, vI x3, vR q4, vI x5] [] (iup I q4 (x5).toNat (I q4 (x5 + 1).toNat)) K
    have h := h _ rfl
    generalize iup I q4 (x5).toNat (I q4 (x5 + 1).toNat) = I6 at h ⊢
    refine G_iinc rc_80_67 rfl c3 ?_
    show GO S0 80 70 [vR r0, vI x1, vI x2, vI x3, vR q4, vI (x5 + 1)] [] I6 K
    refine G_goto rc_80_70 ?_
    show GO S0 80 44 [vR r0, vI x1, vI x2, vI x3, vR q4, vI (x5 + 1)] [] I6 K
    exact h
def D80_0 (r0 : Nat) (x1 : Int) (I : IM) (K : Option AV → IM → Prop) : Prop :=
  CALL S0 22 [vR r0, vI x1] I (fun v I1 => ∃ y2 : Int, v = some (vI y2) ∧ CALL S0 60 [vR r0, vI x1] I1 (fun v I3 => ∃ y4 : Int, v = some (vI y4) ∧ (if y2 = -1 then (K none I3) else ((if y4 = -1 then (K none I3) else ((0 ≤ y2 ∧ y2 < 4) ∧ (inR ((I3 (r0 + 1) (y2).toNat) - 1)) ∧ ∀ I9 : IM, I9 = iup I3 (r0 + 1) (y2).toNat ((I3 (r0 + 1) (y2).toNat) - 1) → GO S0 80 44 [vR r0, vI x1, vI y2, vI y4, vR (r0 + 3 + (y2).toNat), vI y4] [] I9 K))))))
set_option maxRecDepth 10000 in
theorem g80_0 (r0 : Nat) (h0 : isRd r0) (x1 : Int) (I : IM) (K : Option AV → IM → Prop) (h : D80_0 r0 x1 I K) : GO S0 80 0 [vR r0, vI x1, vU, vU, vU, vU] [] I K := by
  unfold D80_0 at h
  refine G_loadR rc_80_0 rfl ?_
  refine G_loadI rc_80_1 rfl ?_
  refine G_call (as := [vR r0, vI x1]) (rest := []) rc_80_2 rfl rfl rfl (Nat.le_of_ble_eq_true rfl) (g_recv (rd_0 h0) rfl) ?_
  refine GO.imp h (fun v I1 h => ?_)
  obtain ⟨y2, rfl, h⟩ := h
  show GO S0 80 5 [vR r0, vI x1, vU, vU, vU, vU] [vI y2] I1 K
  refine G_storeI rc_80_5 (Nat.le_of_ble_eq_true rfl) ?_
  show GO S0 80 6 [vR r0, vI x1, vI y2, vU, vU, vU] [] I1 K
  refine G_loadR rc_80_6 rfl ?_
  refine G_loadI rc_80_7 rfl ?_
  refine G_call (as := [vR r0, vI x1]) (rest := []) rc_80_8 rfl rfl rfl (Nat.le_of_ble_eq_true rfl) (g_recv (rd_0 h0) rfl) ?_
  refine GO.imp h (fun v I3 h => ?_)
  obtain ⟨y4, rfl, h⟩ := h
  show GO S0 80 11 [vR r0, vI x1, vI y2, vU, vU, vU] [vI y4] I3 K
  refine G_storeI rc_80_11 (Nat.le_of_ble_eq_true rfl) ?_
  show GO S0 80 12 [vR r0, vI x1, vI y2, vI y4, vU, vU] [] I3 K
  refine G_loadI rc_80_12 rfl ?_
  refine G_const rc_80_13 (by decide) ?_
  refine G_i2 (C := y2 = -1) rc_80_14 rfl (fun c5 => ?_) (fun c5 => ?_)
  · rw [if_pos c5] at h
    show GO S0 80 22 [vR r0, vI x1, vI y2, vI y4, vU, vU] [] I3 K
    exact G_ret0 rc_80_22 h
  · rw [if_neg c5] at h
    show GO S0 80 17 [vR r0, vI x1, vI y2, vI y4, vU, vU] [] I3 K
    refine G_loadI rc_80_17 rfl ?_
    refine G_const rc_80_18 (by decide) ?_
    refine G_i2 (C := ¬ y4 = -1) rc_80_19 rfl (fun c6 => ?_) (fun c6 => ?_)
    · rw [if_neg c6] at h
      show GO S0 80 23 [vR r0, vI x1, vI y2, vI y4, vU, vU] [] I3 K
      refine G_loadR rc_80_23 rfl ?_
      refine G_getR rc_80_24 (rd_0 h0) (by decide) rfl (by have := rd_lt h0; omega) ?_
      show GO S0 80 27 [vR r0, vI x1, vI y2, vI y4, vU, vU] [vR (r0 + 2)] I3 K
      refine G_loadI rc_80_27 rfl ?_
      obtain ⟨c7, h⟩ := h
      refine G_aldR rc_80_28 (rd_2 h0) (Or.inl rfl) (by omega) (by omega) (rd_row (i := (y2).toNat) (by omega)) (by have := rd_lt h0; omega) ?_
      show GO S0 80 29 [vR r0, vI x1, vI y2, vI y4, vU, vU] [vR (r0 + 3 + (y2).toNat)] I3 K
      refine G_storeR rc_80_29 (Nat.le_of_ble_eq_true rfl) ?_
      show GO S0 80 31 [vR r0, vI x1, vI y2, vI y4, vR (r0 + 3 + (y2).toNat), vU] [] I3 K
      refine G_loadR rc_80_31 rfl ?_
      refine G_getR rc_80_32 (rd_0 h0) (by decide) rfl (by have := rd_lt h0; omega) ?_
      show GO S0 80 35 [vR r0, vI x1, vI y2, vI y4, vR (r0 + 3 + (y2).toNat), vU] [vR (r0 + 1)] I3 K
      refine G_loadI rc_80_35 rfl ?_
      refine G_dup2 rc_80_36 ?_
      refine G_ald rc_80_37 (rd_1 h0) (by omega) (by omega) ?_
      show GO S0 80 38 [vR r0, vI x1, vI y2, vI y4, vR (r0 + 3 + (y2).toNat), vU] [vI (I3 (r0 + 1) (y2).toNat), vI y2, vR (r0 + 1)] I3 K
      refine G_const rc_80_38 (by decide) ?_
      obtain ⟨c8, h⟩ := h
      refine G_bop (z := (I3 (r0 + 1) (y2).toNat) - 1) rc_80_39 (if_pos c8) ?_
      show GO S0 80 40 [vR r0, vI x1, vI y2, vI y4, vR (r0 + 3 + (y2).toNat), vU] [vI ((I3 (r0 + 1) (y2).toNat) - 1), vI y2, vR (r0 + 1)] I3 K
      refine G_ast rc_80_40 (rd_1 h0) (by omega) (by omega) (Or.inl rfl) ?_
      show GO S0 80 41 [vR r0, vI x1, vI y2, vI y4, vR (r0 + 3 + (y2).toNat), vU] [] (iup I3 (r0 + 1) (y2).toNat ((I3 (r0 + 1) (y2).toNat) - 1)) K
      have h := h _ rfl
      generalize iup I3 (r0 + 1) (y2).toNat ((I3 (r0 + 1) (y2).toNat) - 1) = I9 at h ⊢
      refine G_loadI rc_80_41 rfl ?_
      refine G_storeI rc_80_42 (Nat.le_of_ble_eq_true rfl) ?_
      show GO S0 80 44 [vR r0, vI x1, vI y2, vI y4, vR (r0 + 3 + (y2).toNat), vI y4] [] I9 K
      exact h
    · rw [if_pos (Classical.not_not.mp c6)] at h
      show GO S0 80 22 [vR r0, vI x1, vI y2, vI y4, vU, vU] [] I3 K
      exact G_ret0 rc_80_22 h
/-! 81: RoundSlack.may(IIII)I -/
def D81_0 (x1 : Int) (x2 : Int) (x3 : Int) (x4 : Int) (I : IM) (K : Option AV → IM → Prop) : Prop :=
  CALL S0 82 [vR 195, vI x1, vI x2, vI x3, vI x4] I (fun v I1 => ∃ y2 : Int, v = some (vI y2) ∧ (if y2 = 0 then (K (some (vI (-1))) I1) else (CALL S0 84 [vR 195] I1 (fun v I4 => v = none ∧ CALL S0 85 [vR 195, vI x1, vI x2, vI x3, vI x4] I4 (fun v I5 => ∃ y6 : Int, v = some (vI y6) ∧ (if y6 = 1 then (K (some (vI 1)) I5) else (K (some (vI 0)) I5)))))))
set_option maxRecDepth 10000 in
theorem g81_0 (x1 : Int) (x2 : Int) (x3 : Int) (x4 : Int) (I : IM) (K : Option AV → IM → Prop) (h : D81_0 x1 x2 x3 x4 I K) : GO S0 81 0 [vR 0, vI x1, vI x2, vI x3, vI x4] [] I K := by
  unfold D81_0 at h
  refine G_loadR rc_81_0 rfl ?_
  refine G_getR rc_81_1 s0_0 (by decide) rfl (by decide) ?_
  show GO S0 81 4 [vR 0, vI x1, vI x2, vI x3, vI x4] [vR 195] I K
  refine G_loadI rc_81_4 rfl ?_
  refine G_loadI rc_81_5 rfl ?_
  refine G_loadI rc_81_6 rfl ?_
  refine G_loadI rc_81_7 rfl ?_
  refine G_call (as := [vR 195, vI x1, vI x2, vI x3, vI x4]) (rest := []) rc_81_9 rfl rfl rfl (Nat.le_of_ble_eq_true rfl) (g_recv s0_195 rfl) ?_
  refine GO.imp h (fun v I1 h => ?_)
  obtain ⟨y2, rfl, h⟩ := h
  show GO S0 81 12 [vR 0, vI x1, vI x2, vI x3, vI x4] [vI y2] I1 K
  refine G_i1 (C := ¬ y2 = 0) rc_81_12 rfl (fun c3 => ?_) (fun c3 => ?_)
  · rw [if_neg c3] at h
    show GO S0 81 17 [vR 0, vI x1, vI x2, vI x3, vI x4] [] I1 K
    refine G_loadR rc_81_17 rfl ?_
    refine G_getR rc_81_18 s0_0 (by decide) rfl (by decide) ?_
    show GO S0 81 21 [vR 0, vI x1, vI x2, vI x3, vI x4] [vR 195] I1 K
    refine G_call (as := [vR 195]) (rest := []) rc_81_21 rfl rfl rfl (Nat.le_of_ble_eq_true rfl) (g_recv s0_195 rfl) ?_
    refine GO.imp h (fun v I4 h => ?_)
    obtain ⟨rfl, h⟩ := h
    show GO S0 81 24 [vR 0, vI x1, vI x2, vI x3, vI x4] [] I4 K
    refine G_loadR rc_81_24 rfl ?_
    refine G_getR rc_81_25 s0_0 (by decide) rfl (by decide) ?_
    show GO S0 81 28 [vR 0, vI x1, vI x2, vI x3, vI x4] [vR 195] I4 K
    refine G_loadI rc_81_28 rfl ?_
    refine G_loadI rc_81_29 rfl ?_
    refine G_loadI rc_81_30 rfl ?_
    refine G_loadI rc_81_31 rfl ?_
    refine G_call (as := [vR 195, vI x1, vI x2, vI x3, vI x4]) (rest := []) rc_81_33 rfl rfl rfl (Nat.le_of_ble_eq_true rfl) (g_recv s0_195 rfl) ?_
    refine GO.imp h (fun v I5 h => ?_)
    obtain ⟨y6, rfl, h⟩ := h
    show GO S0 81 36 [vR 0, vI x1, vI x2, vI x3, vI x4] [vI y6] I5 K
    refine G_const rc_81_36 (by decide) ?_
    refine G_i2 (C := ¬ y6 = 1) rc_81_37 rfl (fun c7 => ?_) (fun c7 => ?_)
    · rw [if_neg c7] at h
      show GO S0 81 44 [vR 0, vI x1, vI x2, vI x3, vI x4] [] I5 K
      refine G_const rc_81_44 (by decide) ?_
      exact G_retI rc_81_45 (Or.inl rfl) h
    · rw [if_pos (Classical.not_not.mp c7)] at h
      show GO S0 81 40 [vR 0, vI x1, vI x2, vI x3, vI x4] [] I5 K
      refine G_const rc_81_40 (by decide) ?_
      refine G_goto rc_81_41 ?_
      show GO S0 81 45 [vR 0, vI x1, vI x2, vI x3, vI x4] [vI 1] I5 K
      exact G_retI rc_81_45 (Or.inl rfl) h
  · rw [if_pos (Classical.not_not.mp c3)] at h
    show GO S0 81 15 [vR 0, vI x1, vI x2, vI x3, vI x4] [] I1 K
    refine G_const rc_81_15 (by decide) ?_
    exact G_retI rc_81_16 (Or.inl rfl) h
/-! 82: RoundSlack$Moves.isMove(IIII)Z -/
def D82_0 (x1 : Int) (x2 : Int) (x3 : Int) (x4 : Int) (I : IM) (K : Option AV → IM → Prop) : Prop :=
  (if x1 = 0 then (CALL S0 22 [vR 29, vI x2] I (fun v I2 => ∃ y3 : Int, v = some (vI y3) ∧ (if y3 = -1 then (K (some (vI 0)) I2) else (CALL S0 24 [vI x3] I2 (fun v I5 => ∃ y6 : Int, v = some (vI y6) ∧ (if y6 = 0 then (K (some (vI 0)) I5) else (CALL S0 83 [vR 195, vI x2, vI x3] I5 (fun v I8 => ∃ y9 : Int, v = some (vI y9) ∧ CALL S0 14 [vI x4, vI 0, vI y9] I8 (fun v I10 => ∃ y11 : Int, v = some (vI y11) ∧ (if y11 = 0 then (K (some (vI 0)) I10) else (K (some (vI 1)) I10))))))))))) else (if x1 = 1 then ((if x3 ≤ x2 then (K (some (vI 0)) I) else ((if x4 = 0 then (CALL S0 22 [vR 29, vI x2] I (fun v I16 => ∃ y17 : Int, v = some (vI y17) ∧ (if y17 = -1 then (K (some (vI 0)) I16) else (CALL S0 22 [vR 29, vI x3] I16 (fun v I19 => ∃ y20 : Int, v = some (vI y20) ∧ (if y20 = -1 then (K (some (vI 0)) I19) else (K (some (vI 1)) I19))))))) else (K (some (vI 0)) I))))) else (if x1 = 2 then (CALL S0 24 [vI x2] I (fun v I23 => ∃ y24 : Int, v = some (vI y24) ∧ (if y24 = 0 then (K (some (vI 0)) I23) else (CALL S0 24 [vI x3] I23 (fun v I26 => ∃ y27 : Int, v = some (vI y27) ∧ (if y27 = 0 then (K (some (vI 0)) I26) else ((if x3 ≤ x2 then (K (some (vI 0)) I26) else ((if x4 < 0 then (K (some (vI 0)) I26) else ((inR (Int.tdiv x4 16)) ∧ (0 ≤ x2 ∧ x2 < 4) ∧ (if I26 30 (x2).toNat < Int.tmod x4 16 then (K (some (vI 0)) I26) else ((0 ≤ x3 ∧ x3 < 4) ∧ (if I26 30 (x3).toNat < Int.tdiv x4 16 then (K (some (vI 0)) I26) else (K (some (vI 1)) I26))))))))))))))) else (if x1 = 3 then (CALL S0 24 [vI x2] I (fun v I37 => ∃ y38 : Int, v = some (vI y38) ∧ (if y38 = 0 then (K (some (vI 0)) I37) else ((if x3 < 0 then (K (some (vI 0)) I37) else ((if x4 ≤ x3 then (K (some (vI 0)) I37) else ((0 ≤ x2 ∧ x2 < 4) ∧ (if I37 30 (x2).toNat ≤ x4 then (K (some (vI 0)) I37) else (K (some (vI 1)) I37)))))))))) else (K (some (vI 0)) I)))))
set_option maxRecDepth 10000 in
theorem g82_0 (x1 : Int) (x2 : Int) (x3 : Int) (x4 : Int) (I : IM) (K : Option AV → IM → Prop) (h : D82_0 x1 x2 x3 x4 I K) : GO S0 82 0 [vR 195, vI x1, vI x2, vI x3, vI x4] [] I K := by
  unfold D82_0 at h
  refine G_loadI rc_82_0 rfl ?_
  refine G_switch rc_82_1 ?_
  show GO S0 82 (if x1 = 0 then 32 else if x1 = 1 then 72 else if x1 = 2 then 112 else if x1 = 3 then 176 else 213) [vR 195, vI x1, vI x2, vI x3, vI x4] [] I K
  by_cases c1 : x1 = 0
  · rw [if_pos c1] at h
    rw [if_pos c1]
    show GO S0 82 32 [vR 195, vI x1, vI x2, vI x3, vI x4] [] I K
    refine G_loadR rc_82_32 rfl ?_
    refine G_getR rc_82_33 s0_195 (by decide) rfl (by decide) ?_
    show GO S0 82 36 [vR 195, vI x1, vI x2, vI x3, vI x4] [vR 29] I K
    refine G_loadI rc_82_36 rfl ?_
    refine G_call (as := [vR 29, vI x2]) (rest := []) rc_82_37 rfl rfl rfl (Nat.le_of_ble_eq_true rfl) (g_recv s0_29 rfl) ?_
    refine GO.imp h (fun v I2 h => ?_)
    obtain ⟨y3, rfl, h⟩ := h
    show GO S0 82 40 [vR 195, vI x1, vI x2, vI x3, vI x4] [vI y3] I2 K
    refine G_const rc_82_40 (by decide) ?_
    refine G_i2 (C := y3 = -1) rc_82_41 rfl (fun c4 => ?_) (fun c4 => ?_)
    · rw [if_pos c4] at h
      show GO S0 82 70 [vR 195, vI x1, vI x2, vI x3, vI x4] [] I2 K
      refine G_const rc_82_70 (by decide) ?_
      exact G_retI rc_82_71 (Or.inr (by decide)) h
    · rw [if_neg c4] at h
      show GO S0 82 44 [vR 195, vI x1, vI x2, vI x3, vI x4] [] I2 K
      refine G_loadI rc_82_44 rfl ?_
      refine G_call (as := [vI x3]) (rest := []) rc_82_45 rfl rfl rfl (Nat.le_of_ble_eq_true rfl) rfl ?_
      refine GO.imp h (fun v I5 h => ?_)
      obtain ⟨y6, rfl, h⟩ := h
      show GO S0 82 48 [vR 195, vI x1, vI x2, vI x3, vI x4] [vI y6] I5 K
      refine G_i1 (C := y6 = 0) rc_82_48 rfl (fun c7 => ?_) (fun c7 => ?_)
      · rw [if_pos c7] at h
        show GO S0 82 70 [vR 195, vI x1, vI x2, vI x3, vI x4] [] I5 K
        refine G_const rc_82_70 (by decide) ?_
        exact G_retI rc_82_71 (Or.inr (by decide)) h
      · rw [if_neg c7] at h
        show GO S0 82 51 [vR 195, vI x1, vI x2, vI x3, vI x4] [] I5 K
        refine G_loadI rc_82_51 rfl ?_
        refine G_const rc_82_53 (by decide) ?_
        refine G_loadR rc_82_54 rfl ?_
        refine G_loadI rc_82_55 rfl ?_
        refine G_loadI rc_82_56 rfl ?_
        refine G_call (as := [vR 195, vI x2, vI x3]) (rest := [vI 0, vI x4]) rc_82_57 rfl rfl rfl (Nat.le_of_ble_eq_true rfl) (g_recv s0_195 rfl) ?_
        refine GO.imp h (fun v I8 h => ?_)
        obtain ⟨y9, rfl, h⟩ := h
        show GO S0 82 60 [vR 195, vI x1, vI x2, vI x3, vI x4] [vI y9, vI 0, vI x4] I8 K
        refine G_call (as := [vI x4, vI 0, vI y9]) (rest := []) rc_82_60 rfl rfl rfl (Nat.le_of_ble_eq_true rfl) rfl ?_
        refine GO.imp h (fun v I10 h => ?_)
        obtain ⟨y11, rfl, h⟩ := h
        show GO S0 82 63 [vR 195, vI x1, vI x2, vI x3, vI x4] [vI y11] I10 K
        refine G_i1 (C := y11 = 0) rc_82_63 rfl (fun c12 => ?_) (fun c12 => ?_)
        · rw [if_pos c12] at h
          show GO S0 82 70 [vR 195, vI x1, vI x2, vI x3, vI x4] [] I10 K
          refine G_const rc_82_70 (by decide) ?_
          exact G_retI rc_82_71 (Or.inr (by decide)) h
        · rw [if_neg c12] at h
          show GO S0 82 66 [vR 195, vI x1, vI x2, vI x3, vI x4] [] I10 K
          refine G_const rc_82_66 (by decide) ?_
          refine G_goto rc_82_67 ?_
          show GO S0 82 71 [vR 195, vI x1, vI x2, vI x3, vI x4] [vI 1] I10 K
          exact G_retI rc_82_71 (Or.inr (by decide)) h
  · rw [if_neg c1] at h
    rw [if_neg c1]
    by_cases c13 : x1 = 1
    · rw [if_pos c13] at h
      rw [if_pos c13]
      show GO S0 82 72 [vR 195, vI x1, vI x2, vI x3, vI x4] [] I K
      refine G_loadI rc_82_72 rfl ?_
      refine G_loadI rc_82_73 rfl ?_
      refine G_i2 (C := x3 ≤ x2) rc_82_74 rfl (fun c14 => ?_) (fun c14 => ?_)
      · rw [if_pos c14] at h
        show GO S0 82 110 [vR 195, vI x1, vI x2, vI x3, vI x4] [] I K
        refine G_const rc_82_110 (by decide) ?_
        exact G_retI rc_82_111 (Or.inr (by decide)) h
      · rw [if_neg c14] at h
        show GO S0 82 77 [vR 195, vI x1, vI x2, vI x3, vI x4] [] I K
        refine G_loadI rc_82_77 rfl ?_
        refine G_i1 (C := ¬ x4 = 0) rc_82_79 rfl (fun c15 => ?_) (fun c15 => ?_)
        · rw [if_neg c15] at h
          show GO S0 82 110 [vR 195, vI x1, vI x2, vI x3, vI x4] [] I K
          refine G_const rc_82_110 (by decide) ?_
          exact G_retI rc_82_111 (Or.inr (by decide)) h
        · rw [if_pos (Classical.not_not.mp c15)] at h
          show GO S0 82 82 [vR 195, vI x1, vI x2, vI x3, vI x4] [] I K
          refine G_loadR rc_82_82 rfl ?_
          refine G_getR rc_82_83 s0_195 (by decide) rfl (by decide) ?_
          show GO S0 82 86 [vR 195, vI x1, vI x2, vI x3, vI x4] [vR 29] I K
          refine G_loadI rc_82_86 rfl ?_
          refine G_call (as := [vR 29, vI x2]) (rest := []) rc_82_87 rfl rfl rfl (Nat.le_of_ble_eq_true rfl) (g_recv s0_29 rfl) ?_
          refine GO.imp h (fun v I16 h => ?_)
          obtain ⟨y17, rfl, h⟩ := h
          show GO S0 82 90 [vR 195, vI x1, vI x2, vI x3, vI x4] [vI y17] I16 K
          refine G_const rc_82_90 (by decide) ?_
          refine G_i2 (C := y17 = -1) rc_82_91 rfl (fun c18 => ?_) (fun c18 => ?_)
          · rw [if_pos c18] at h
            show GO S0 82 110 [vR 195, vI x1, vI x2, vI x3, vI x4] [] I16 K
            refine G_const rc_82_110 (by decide) ?_
            exact G_retI rc_82_111 (Or.inr (by decide)) h
          · rw [if_neg c18] at h
            show GO S0 82 94 [vR 195, vI x1, vI x2, vI x3, vI x4] [] I16 K
            refine G_loadR rc_82_94 rfl ?_
            refine G_getR rc_82_95 s0_195 (by decide) rfl (by decide) ?_
            show GO S0 82 98 [vR 195, vI x1, vI x2, vI x3, vI x4] [vR 29] I16 K
            refine G_loadI rc_82_98 rfl ?_
            refine G_call (as := [vR 29, vI x3]) (rest := []) rc_82_99 rfl rfl rfl (Nat.le_of_ble_eq_true rfl) (g_recv s0_29 rfl) ?_
            refine GO.imp h (fun v I19 h => ?_)
            obtain ⟨y20, rfl, h⟩ := h
            show GO S0 82 102 [vR 195, vI x1, vI x2, vI x3, vI x4] [vI y20] I19 K
            refine G_const rc_82_102 (by decide) ?_
            refine G_i2 (C := y20 = -1) rc_82_103 rfl (fun c21 => ?_) (fun c21 => ?_)
            · rw [if_pos c21] at h
              show GO S0 82 110 [vR 195, vI x1, vI x2, vI x3, vI x4] [] I19 K
              refine G_const rc_82_110 (by decide) ?_
              exact G_retI rc_82_111 (Or.inr (by decide)) h
            · rw [if_neg c21] at h
              show GO S0 82 106 [vR 195, vI x1, vI x2, vI x3, vI x4] [] I19 K
              refine G_const rc_82_106 (by decide) ?_
              refine G_goto rc_82_107 ?_
              show GO S0 82 111 [vR 195, vI x1, vI x2, vI x3, vI x4] [vI 1] I19 K
              exact G_retI rc_82_111 (Or.inr (by decide)) h
    · rw [if_neg c13] at h
      rw [if_neg c13]
      by_cases c22 : x1 = 2
      · rw [if_pos c22] at h
        rw [if_pos c22]
        show GO S0 82 112 [vR 195, vI x1, vI x2, vI x3, vI x4] [] I K
        refine G_loadI rc_82_112 rfl ?_
        refine G_call (as := [vI x2]) (rest := []) rc_82_113 rfl rfl rfl (Nat.le_of_ble_eq_true rfl) rfl ?_
        refine GO.imp h (fun v I23 h => ?_)
        obtain ⟨y24, rfl, h⟩ := h
        show GO S0 82 116 [vR 195, vI x1, vI x2, vI x3, vI x4] [vI y24] I23 K
        refine G_i1 (C := y24 = 0) rc_82_116 rfl (fun c25 => ?_) (fun c25 => ?_)
        · rw [if_pos c25] at h
          show GO S0 82 174 [vR 195, vI x1, vI x2, vI x3, vI x4] [] I23 K
          refine G_const rc_82_174 (by decide) ?_
          exact G_retI rc_82_175 (Or.inr (by decide)) h
        · rw [if_neg c25] at h
          show GO S0 82 119 [vR 195, vI x1, vI x2, vI x3, vI x4] [] I23 K
          refine G_loadI rc_82_119 rfl ?_
          refine G_call (as := [vI x3]) (rest := []) rc_82_120 rfl rfl rfl (Nat.le_of_ble_eq_true rfl) rfl ?_
          refine GO.imp h (fun v I26 h => ?_)
          obtain ⟨y27, rfl, h⟩ := h
          show GO S0 82 123 [vR 195, vI x1, vI x2, vI x3, vI x4] [vI y27] I26 K
          refine G_i1 (C := y27 = 0) rc_82_123 rfl (fun c28 => ?_) (fun c28 => ?_)
          · rw [if_pos c28] at h
            show GO S0 82 174 [vR 195, vI x1, vI x2, vI x3, vI x4] [] I26 K
            refine G_const rc_82_174 (by decide) ?_
            exact G_retI rc_82_175 (Or.inr (by decide)) h
          · rw [if_neg c28] at h
            show GO S0 82 126 [vR 195, vI x1, vI x2, vI x3, vI x4] [] I26 K
            refine G_loadI rc_82_126 rfl ?_
            refine G_loadI rc_82_127 rfl ?_
            refine G_i2 (C := x3 ≤ x2) rc_82_128 rfl (fun c29 => ?_) (fun c29 => ?_)
            · rw [if_pos c29] at h
              show GO S0 82 174 [vR 195, vI x1, vI x2, vI x3, vI x4] [] I26 K
              refine G_const rc_82_174 (by decide) ?_
              exact G_retI rc_82_175 (Or.inr (by decide)) h
            · rw [if_neg c29] at h
              show GO S0 82 131 [vR 195, vI x1, vI x2, vI x3, vI x4] [] I26 K
              refine G_loadI rc_82_131 rfl ?_
              refine G_i1 (C := x4 < 0) rc_82_133 rfl (fun c30 => ?_) (fun c30 => ?_)
              · rw [if_pos c30] at h
                show GO S0 82 174 [vR 195, vI x1, vI x2, vI x3, vI x4] [] I26 K
                refine G_const rc_82_174 (by decide) ?_
                exact G_retI rc_82_175 (Or.inr (by decide)) h
              · rw [if_neg c30] at h
                show GO S0 82 136 [vR 195, vI x1, vI x2, vI x3, vI x4] [] I26 K
                refine G_loadI rc_82_136 rfl ?_
                refine G_const rc_82_138 (by decide) ?_
                obtain ⟨c31, h⟩ := h
                refine G_bop (z := Int.tmod x4 16) rc_82_140 (show (if (16 : Int) ≠ 0 ∧ inR (Int.tdiv x4 16) then some (Int.tmod x4 16) else none) = some (Int.tmod x4 16) from if_pos ⟨by decide, c31⟩) ?_
                show GO S0 82 141 [vR 195, vI x1, vI x2, vI x3, vI x4] [vI (Int.tmod x4 16)] I26 K
                refine G_loadR rc_82_141 rfl ?_
                refine G_getR rc_82_142 s0_195 (by decide) rfl (by decide) ?_
                show GO S0 82 145 [vR 195, vI x1, vI x2, vI x3, vI x4] [vR 29, vI (Int.tmod x4 16)] I26 K
                refine G_getR rc_82_145 s0_29 (by decide) rfl (by decide) ?_
                show GO S0 82 148 [vR 195, vI x1, vI x2, vI x3, vI x4] [vR 30, vI (Int.tmod x4 16)] I26 K
                refine G_loadI rc_82_148 rfl ?_
                obtain ⟨c32, h⟩ := h
                refine G_ald rc_82_149 s0_30 (by omega) (by omega) ?_
                show GO S0 82 150 [vR 195, vI x1, vI x2, vI x3, vI x4] [vI (I26 30 (x2).toNat), vI (Int.tmod x4 16)] I26 K
                refine G_i2 (C := I26 30 (x2).toNat < Int.tmod x4 16) rc_82_150 rfl (fun c33 => ?_) (fun c33 => ?_)
                · rw [if_pos c33] at h
                  show GO S0 82 174 [vR 195, vI x1, vI x2, vI x3, vI x4] [] I26 K
                  refine G_const rc_82_174 (by decide) ?_
                  exact G_retI rc_82_175 (Or.inr (by decide)) h
                · rw [if_neg c33] at h
                  show GO S0 82 153 [vR 195, vI x1, vI x2, vI x3, vI x4] [] I26 K
                  refine G_loadI rc_82_153 rfl ?_
                  refine G_const rc_82_155 (by decide) ?_
                  refine G_bop (z := Int.tdiv x4 16) rc_82_157 (show (if (16 : Int) ≠ 0 ∧ inR (Int.tdiv x4 16) then some (Int.tdiv x4 16) else none) = some (Int.tdiv x4 16) from if_pos ⟨by decide, c31⟩) ?_
                  show GO S0 82 158 [vR 195, vI x1, vI x2, vI x3, vI x4] [vI (Int.tdiv x4 16)] I26 K
                  refine G_loadR rc_82_158 rfl ?_
                  refine G_getR rc_82_159 s0_195 (by decide) rfl (by decide) ?_
                  show GO S0 82 162 [vR 195, vI x1, vI x2, vI x3, vI x4] [vR 29, vI (Int.tdiv x4 16)] I26 K
                  refine G_getR rc_82_162 s0_29 (by decide) rfl (by decide) ?_
                  show GO S0 82 165 [vR 195, vI x1, vI x2, vI x3, vI x4] [vR 30, vI (Int.tdiv x4 16)] I26 K
                  refine G_loadI rc_82_165 rfl ?_
                  obtain ⟨c34, h⟩ := h
                  refine G_ald rc_82_166 s0_30 (by omega) (by omega) ?_
                  show GO S0 82 167 [vR 195, vI x1, vI x2, vI x3, vI x4] [vI (I26 30 (x3).toNat), vI (Int.tdiv x4 16)] I26 K
                  refine G_i2 (C := I26 30 (x3).toNat < Int.tdiv x4 16) rc_82_167 rfl (fun c35 => ?_) (fun c35 => ?_)
                  · rw [if_pos c35] at h
                    show GO S0 82 174 [vR 195, vI x1, vI x2, vI x3, vI x4] [] I26 K
                    refine G_const rc_82_174 (by decide) ?_
                    exact G_retI rc_82_175 (Or.inr (by decide)) h
                  · rw [if_neg c35] at h
                    show GO S0 82 170 [vR 195, vI x1, vI x2, vI x3, vI x4] [] I26 K
                    refine G_const rc_82_170 (by decide) ?_
                    refine G_goto rc_82_171 ?_
                    show GO S0 82 175 [vR 195, vI x1, vI x2, vI x3, vI x4] [vI 1] I26 K
                    exact G_retI rc_82_175 (Or.inr (by decide)) h
      · rw [if_neg c22] at h
        rw [if_neg c22]
        by_cases c36 : x1 = 3
        · rw [if_pos c36] at h
          rw [if_pos c36]
          show GO S0 82 176 [vR 195, vI x1, vI x2, vI x3, vI x4] [] I K
          refine G_loadI rc_82_176 rfl ?_
          refine G_call (as := [vI x2]) (rest := []) rc_82_177 rfl rfl rfl (Nat.le_of_ble_eq_true rfl) rfl ?_
          refine GO.imp h (fun v I37 h => ?_)
          obtain ⟨y38, rfl, h⟩ := h
          show GO S0 82 180 [vR 195, vI x1, vI x2, vI x3, vI x4] [vI y38] I37 K
          refine G_i1 (C := y38 = 0) rc_82_180 rfl (fun c39 => ?_) (fun c39 => ?_)
          · rw [if_pos c39] at h
            show GO S0 82 211 [vR 195, vI x1, vI x2, vI x3, vI x4] [] I37 K
            refine G_const rc_82_211 (by decide) ?_
            exact G_retI rc_82_212 (Or.inr (by decide)) h
          · rw [if_neg c39] at h
            show GO S0 82 183 [vR 195, vI x1, vI x2, vI x3, vI x4] [] I37 K
            refine G_loadI rc_82_183 rfl ?_
            refine G_i1 (C := x3 < 0) rc_82_184 rfl (fun c40 => ?_) (fun c40 => ?_)
            · rw [if_pos c40] at h
              show GO S0 82 211 [vR 195, vI x1, vI x2, vI x3, vI x4] [] I37 K
              refine G_const rc_82_211 (by decide) ?_
              exact G_retI rc_82_212 (Or.inr (by decide)) h
            · rw [if_neg c40] at h
              show GO S0 82 187 [vR 195, vI x1, vI x2, vI x3, vI x4] [] I37 K
              refine G_loadI rc_82_187 rfl ?_
              refine G_loadI rc_82_188 rfl ?_
              refine G_i2 (C := x4 ≤ x3) rc_82_190 rfl (fun c41 => ?_) (fun c41 => ?_)
              · rw [if_pos c41] at h
                show GO S0 82 211 [vR 195, vI x1, vI x2, vI x3, vI x4] [] I37 K
                refine G_const rc_82_211 (by decide) ?_
                exact G_retI rc_82_212 (Or.inr (by decide)) h
              · rw [if_neg c41] at h
                show GO S0 82 193 [vR 195, vI x1, vI x2, vI x3, vI x4] [] I37 K
                refine G_loadI rc_82_193 rfl ?_
                refine G_loadR rc_82_195 rfl ?_
                refine G_getR rc_82_196 s0_195 (by decide) rfl (by decide) ?_
                show GO S0 82 199 [vR 195, vI x1, vI x2, vI x3, vI x4] [vR 29, vI x4] I37 K
                refine G_getR rc_82_199 s0_29 (by decide) rfl (by decide) ?_
                show GO S0 82 202 [vR 195, vI x1, vI x2, vI x3, vI x4] [vR 30, vI x4] I37 K
                refine G_loadI rc_82_202 rfl ?_
                obtain ⟨c42, h⟩ := h
                refine G_ald rc_82_203 s0_30 (by omega) (by omega) ?_
                show GO S0 82 204 [vR 195, vI x1, vI x2, vI x3, vI x4] [vI (I37 30 (x2).toNat), vI x4] I37 K
                refine G_i2 (C := I37 30 (x2).toNat ≤ x4) rc_82_204 rfl (fun c43 => ?_) (fun c43 => ?_)
                · rw [if_pos c43] at h
                  show GO S0 82 211 [vR 195, vI x1, vI x2, vI x3, vI x4] [] I37 K
                  refine G_const rc_82_211 (by decide) ?_
                  exact G_retI rc_82_212 (Or.inr (by decide)) h
                · rw [if_neg c43] at h
                  show GO S0 82 207 [vR 195, vI x1, vI x2, vI x3, vI x4] [] I37 K
                  refine G_const rc_82_207 (by decide) ?_
                  refine G_goto rc_82_208 ?_
                  show GO S0 82 212 [vR 195, vI x1, vI x2, vI x3, vI x4] [vI 1] I37 K
                  exact G_retI rc_82_212 (Or.inr (by decide)) h
        · rw [if_neg c36] at h
          rw [if_neg c36]
          show GO S0 82 213 [vR 195, vI x1, vI x2, vI x3, vI x4] [] I K
          refine G_const rc_82_213 (by decide) ?_
          exact G_retI rc_82_214 (Or.inr (by decide)) h
/-! 83: RoundSlack$Moves.lastPlaceFor(II)I -/
def D83_0 (x1 : Int) (x2 : Int) (I : IM) (K : Option AV → IM → Prop) : Prop :=
  CALL S0 22 [vR 29, vI x1] I (fun v I1 => ∃ y2 : Int, v = some (vI y2) ∧ (if y2 = x2 then ((0 ≤ x2 ∧ x2 < 4) ∧ (inR ((I1 30 (x2).toNat) - 1)) ∧ K (some (vI ((I1 30 (x2).toNat) - 1))) I1) else ((0 ≤ x2 ∧ x2 < 4) ∧ K (some (vI (I1 30 (x2).toNat))) I1)))
set_option maxRecDepth 10000 in
theorem g83_0 (x1 : Int) (x2 : Int) (I : IM) (K : Option AV → IM → Prop) (h : D83_0 x1 x2 I K) : GO S0 83 0 [vR 195, vI x1, vI x2] [] I K := by
  unfold D83_0 at h
  refine G_loadR rc_83_0 rfl ?_
  refine G_getR rc_83_1 s0_195 (by decide) rfl (by decide) ?_
  show GO S0 83 4 [vR 195, vI x1, vI x2] [vR 29] I K
  refine G_loadI rc_83_4 rfl ?_
  refine G_call (as := [vR 29, vI x1]) (rest := []) rc_83_5 rfl rfl rfl (Nat.le_of_ble_eq_true rfl) (g_recv s0_29 rfl) ?_
  refine GO.imp h (fun v I1 h => ?_)
  obtain ⟨y2, rfl, h⟩ := h
  show GO S0 83 8 [vR 195, vI x1, vI x2] [vI y2] I1 K
  refine G_loadI rc_83_8 rfl ?_
  refine G_i2 (C := ¬ y2 = x2) rc_83_9 rfl (fun c3 => ?_) (fun c3 => ?_)
  · rw [if_neg c3] at h
    show GO S0 83 26 [vR 195, vI x1, vI x2] [] I1 K
    refine G_loadR rc_83_26 rfl ?_
    refine G_getR rc_83_27 s0_195 (by decide) rfl (by decide) ?_
    show GO S0 83 30 [vR 195, vI x1, vI x2] [vR 29] I1 K
    refine G_getR rc_83_30 s0_29 (by decide) rfl (by decide) ?_
    show GO S0 83 33 [vR 195, vI x1, vI x2] [vR 30] I1 K
    refine G_loadI rc_83_33 rfl ?_
    obtain ⟨c4, h⟩ := h
    refine G_ald rc_83_34 s0_30 (by omega) (by omega) ?_
    show GO S0 83 35 [vR 195, vI x1, vI x2] [vI (I1 30 (x2).toNat)] I1 K
    exact G_retI rc_83_35 (Or.inl rfl) h
  · rw [if_pos (Classical.not_not.mp c3)] at h
    show GO S0 83 12 [vR 195, vI x1, vI x2] [] I1 K
    refine G_loadR rc_83_12 rfl ?_
    refine G_getR rc_83_13 s0_195 (by decide) rfl (by decide) ?_
    show GO S0 83 16 [vR 195, vI x1, vI x2] [vR 29] I1 K
    refine G_getR rc_83_16 s0_29 (by decide) rfl (by decide) ?_
    show GO S0 83 19 [vR 195, vI x1, vI x2] [vR 30] I1 K
    refine G_loadI rc_83_19 rfl ?_
    obtain ⟨c5, h⟩ := h
    refine G_ald rc_83_20 s0_30 (by omega) (by omega) ?_
    show GO S0 83 21 [vR 195, vI x1, vI x2] [vI (I1 30 (x2).toNat)] I1 K
    refine G_const rc_83_21 (by decide) ?_
    obtain ⟨c6, h⟩ := h
    refine G_bop (z := (I1 30 (x2).toNat) - 1) rc_83_22 (if_pos c6) ?_
    show GO S0 83 23 [vR 195, vI x1, vI x2] [vI ((I1 30 (x2).toNat) - 1)] I1 K
    refine G_goto rc_83_23 ?_
    show GO S0 83 35 [vR 195, vI x1, vI x2] [vI ((I1 30 (x2).toNat) - 1)] I1 K
    exact G_retI rc_83_35 (Or.inl rfl) h
/-! 84: RoundSlack$Moves.weighNow()V -/
def D84_2 (x1 : Int) (I : IM) (K : Option AV → IM → Prop) : Prop :=
  (if (4 : Int) ≤ x1 then (K none I) else (CALL S0 47 [vR 193, vR 29, vI x1] I (fun v I2 => ∃ y3 : Int, v = some (vI y3) ∧ (0 ≤ x1 ∧ x1 < 4) ∧ ∀ I5 : IM, I5 = iup I2 196 (x1).toNat y3 → (inR (x1 + 1)) ∧ GO S0 84 2 [vR 195, vI (x1 + 1)] [] I5 K)))
set_option maxRecDepth 10000 in
theorem g84_2 (x1 : Int) (I : IM) (K : Option AV → IM → Prop) (h : D84_2 x1 I K) : GO S0 84 2 [vR 195, vI x1] [] I K := by
  unfold D84_2 at h
  refine G_loadI rc_84_2 rfl ?_
  refine G_const rc_84_3 (by decide) ?_
  refine G_i2 (C := (4 : Int) ≤ x1) rc_84_4 rfl (fun c1 => ?_) (fun c1 => ?_)
  · rw [if_pos c1] at h
    show GO S0 84 31 [vR 195, vI x1] [] I K
    exact G_ret0 rc_84_31 h
  · rw [if_neg c1] at h
    show GO S0 84 7 [vR 195, vI x1] [] I K
    refine G_loadR rc_84_7 rfl ?_
    refine G_getR rc_84_8 s0_195 (by decide) rfl (by decide) ?_
    show GO S0 84 11 [vR 195, vI x1] [vR 196] I K
    refine G_loadI rc_84_11 rfl ?_
    refine G_loadR rc_84_12 rfl ?_
    refine G_getR rc_84_13 s0_195 (by decide) rfl (by decide) ?_
    show GO S0 84 16 [vR 195, vI x1] [vR 193, vI x1, vR 196] I K
    refine G_loadR rc_84_16 rfl ?_
    refine G_getR rc_84_17 s0_195 (by decide) rfl (by decide) ?_
    show GO S0 84 20 [vR 195, vI x1] [vR 29, vR 193, vI x1, vR 196] I K
    refine G_loadI rc_84_20 rfl ?_
    refine G_call (as := [vR 193, vR 29, vI x1]) (rest := [vI x1, vR 196]) rc_84_21 rfl rfl rfl (Nat.le_of_ble_eq_true rfl) (g_recv s0_193 rfl) ?_
    refine GO.imp h (fun v I2 h => ?_)
    obtain ⟨y3, rfl, h⟩ := h
    show GO S0 84 24 [vR 195, vI x1] [vI y3, vI x1, vR 196] I2 K
    obtain ⟨c4, h⟩ := h
    refine G_ast rc_84_24 s0_196 (by omega) (by omega) (Or.inl rfl) ?_
    show GO S0 84 25 [vR 195, vI x1] [] (iup I2 196 (x1).toNat y3) K
    have h := h _ rfl
    generalize iup I2 196 (x1).toNat y3 = I5 at h ⊢
    obtain ⟨c6, h⟩ := h
    refine G_iinc rc_84_25 rfl c6 ?_
    show GO S0 84 28 [vR 195, vI (x1 + 1)] [] I5 K
    refine G_goto rc_84_28 ?_
    show GO S0 84 2 [vR 195, vI (x1 + 1)] [] I5 K
    exact h
def D84_0 (I : IM) (K : Option AV → IM → Prop) : Prop :=
  GO S0 84 2 [vR 195, vI 0] [] I K
set_option maxRecDepth 10000 in
theorem g84_0 (I : IM) (K : Option AV → IM → Prop) (h : D84_0 I K) : GO S0 84 0 [vR 195, vU] [] I K := by
  unfold D84_0 at h
  refine G_const rc_84_0 (by decide) ?_
  refine G_storeI rc_84_1 (Nat.le_of_ble_eq_true rfl) ?_
  show GO S0 84 2 [vR 195, vI 0] [] I K
  exact h
/-! 85: RoundSlack$Moves.weigh(IIII)I -/
def D85_0 (x1 : Int) (x2 : Int) (x3 : Int) (x4 : Int) (I : IM) (K : Option AV → IM → Prop) : Prop :=
  CALL S0 86 [vR 195, vI x1, vI x2, vI x3, vI x4] I (fun v I1 => ∃ y2 : Int, v = some (vI y2) ∧ (if y2 = 0 then (K (some (vI (-3))) I1) else (CALL S0 53 [vR 197, vR 29] I1 (fun v I4 => v = none ∧ CALL S0 87 [vR 195, vI x1, vI x2, vI x3, vI x4] I4 (fun v I5 => v = none ∧ CALL S0 47 [vR 193, vR 197, vI (I5 195 4)] I5 (fun v I6 => ∃ y7 : Int, v = some (vI y7) ∧ (if y7 = -1 then (K (some (vI (-7))) I6) else ((0 ≤ I6 195 4 ∧ I6 195 4 < 4) ∧ (inR ((I6 196 (I6 195 4).toNat) - y7)) ∧ ∀ I11 : IM, I11 = iup I6 195 6 ((I6 196 (I6 195 4).toNat) - y7) → (if I11 195 5 = I11 195 4 then (K (some (vI 1)) I11) else (CALL S0 47 [vR 193, vR 197, vI (I11 195 5)] I11 (fun v I13 => ∃ y14 : Int, v = some (vI y14) ∧ (if y14 = -1 then (K (some (vI (-7))) I13) else ((0 ≤ I13 195 5 ∧ I13 195 5 < 4) ∧ (inR ((I13 196 (I13 195 5).toNat) - y14)) ∧ (inR ((I13 195 6) + ((I13 196 (I13 195 5).toNat) - y14))) ∧ ∀ I19 : IM, I19 = iup I13 195 6 ((I13 195 6) + ((I13 196 (I13 195 5).toNat) - y14)) → K (some (vI 1)) I19)))))))))))))
set_option maxRecDepth 10000 in
theorem g85_0 (x1 : Int) (x2 : Int) (x3 : Int) (x4 : Int) (I : IM) (K : Option AV → IM → Prop) (h : D85_0 x1 x2 x3 x4 I K) : GO S0 85 0 [vR 195, vI x1, vI x2, vI x3, vI x4, vU, vU] [] I K := by
  unfold D85_0 at h
  refine G_loadR rc_85_0 rfl ?_
  refine G_loadI rc_85_1 rfl ?_
  refine G_loadI rc_85_2 rfl ?_
  refine G_loadI rc_85_3 rfl ?_
  refine G_loadI rc_85_4 rfl ?_
  refine G_call (as := [vR 195, vI x1, vI x2, vI x3, vI x4]) (rest := []) rc_85_6 rfl rfl rfl (Nat.le_of_ble_eq_true rfl) (g_recv s0_195 rfl) ?_
  refine GO.imp h (fun v I1 h => ?_)
  obtain ⟨y2, rfl, h⟩ := h
  show GO S0 85 9 [vR 195, vI x1, vI x2, vI x3, vI x4, vU, vU] [vI y2] I1 K
  refine G_i1 (C := ¬ y2 = 0) rc_85_9 rfl (fun c3 => ?_) (fun c3 => ?_)
  · rw [if_neg c3] at h
    show GO S0 85 15 [vR 195, vI x1, vI x2, vI x3, vI x4, vU, vU] [] I1 K
    refine G_loadR rc_85_15 rfl ?_
    refine G_getR rc_85_16 s0_195 (by decide) rfl (by decide) ?_
    show GO S0 85 19 [vR 195, vI x1, vI x2, vI x3, vI x4, vU, vU] [vR 197] I1 K
    refine G_loadR rc_85_19 rfl ?_
    refine G_getR rc_85_20 s0_195 (by decide) rfl (by decide) ?_
    show GO S0 85 23 [vR 195, vI x1, vI x2, vI x3, vI x4, vU, vU] [vR 29, vR 197] I1 K
    refine G_call (as := [vR 197, vR 29]) (rest := []) rc_85_23 rfl rfl rfl (Nat.le_of_ble_eq_true rfl) (g_recv s0_197 rfl) ?_
    refine GO.imp h (fun v I4 h => ?_)
    obtain ⟨rfl, h⟩ := h
    show GO S0 85 26 [vR 195, vI x1, vI x2, vI x3, vI x4, vU, vU] [] I4 K
    refine G_loadR rc_85_26 rfl ?_
    refine G_loadI rc_85_27 rfl ?_
    refine G_loadI rc_85_28 rfl ?_
    refine G_loadI rc_85_29 rfl ?_
    refine G_loadI rc_85_30 rfl ?_
    refine G_call (as := [vR 195, vI x1, vI x2, vI x3, vI x4]) (rest := []) rc_85_32 rfl rfl rfl (Nat.le_of_ble_eq_true rfl) (g_recv s0_195 rfl) ?_
    refine GO.imp h (fun v I5 h => ?_)
    obtain ⟨rfl, h⟩ := h
    show GO S0 85 35 [vR 195, vI x1, vI x2, vI x3, vI x4, vU, vU] [] I5 K
    refine G_loadR rc_85_35 rfl ?_
    refine G_getR rc_85_36 s0_195 (by decide) rfl (by decide) ?_
    show GO S0 85 39 [vR 195, vI x1, vI x2, vI x3, vI x4, vU, vU] [vR 193] I5 K
    refine G_loadR rc_85_39 rfl ?_
    refine G_getR rc_85_40 s0_195 (by decide) rfl (by decide) ?_
    show GO S0 85 43 [vR 195, vI x1, vI x2, vI x3, vI x4, vU, vU] [vR 197, vR 193] I5 K
    refine G_loadR rc_85_43 rfl ?_
    refine G_getI rc_85_44 s0_195 (by decide) ?_
    show GO S0 85 47 [vR 195, vI x1, vI x2, vI x3, vI x4, vU, vU] [vI (I5 195 4), vR 197, vR 193] I5 K
    refine G_call (as := [vR 193, vR 197, vI (I5 195 4)]) (rest := []) rc_85_47 rfl rfl rfl (Nat.le_of_ble_eq_true rfl) (g_recv s0_193 rfl) ?_
    refine GO.imp h (fun v I6 h => ?_)
    obtain ⟨y7, rfl, h⟩ := h
    show GO S0 85 50 [vR 195, vI x1, vI x2, vI x3, vI x4, vU, vU] [vI y7] I6 K
    refine G_storeI rc_85_50 (Nat.le_of_ble_eq_true rfl) ?_
    show GO S0 85 52 [vR 195, vI x1, vI x2, vI x3, vI x4, vI y7, vU] [] I6 K
    refine G_loadI rc_85_52 rfl ?_
    refine G_const rc_85_54 (by decide) ?_
    refine G_i2 (C := ¬ y7 = -1) rc_85_55 rfl (fun c8 => ?_) (fun c8 => ?_)
    · rw [if_neg c8] at h
      show GO S0 85 61 [vR 195, vI x1, vI x2, vI x3, vI x4, vI y7, vU] [] I6 K
      refine G_loadR rc_85_61 rfl ?_
      refine G_loadR rc_85_62 rfl ?_
      refine G_getR rc_85_63 s0_195 (by decide) rfl (by decide) ?_
      show GO S0 85 66 [vR 195, vI x1, vI x2, vI x3, vI x4, vI y7, vU] [vR 196, vR 195] I6 K
      refine G_loadR rc_85_66 rfl ?_
      refine G_getI rc_85_67 s0_195 (by decide) ?_
      show GO S0 85 70 [vR 195, vI x1, vI x2, vI x3, vI x4, vI y7, vU] [vI (I6 195 4), vR 196, vR 195] I6 K
      obtain ⟨c9, h⟩ := h
      refine G_ald rc_85_70 s0_196 (by omega) (by omega) ?_
      show GO S0 85 71 [vR 195, vI x1, vI x2, vI x3, vI x4, vI y7, vU] [vI (I6 196 (I6 195 4).toNat), vR 195] I6 K
      refine G_loadI rc_85_71 rfl ?_
      obtain ⟨c10, h⟩ := h
      refine G_bop (z := (I6 196 (I6 195 4).toNat) - y7) rc_85_73 (if_pos c10) ?_
      show GO S0 85 74 [vR 195, vI x1, vI x2, vI x3, vI x4, vI y7, vU] [vI ((I6 196 (I6 195 4).toNat) - y7), vR 195] I6 K
      refine G_putI rc_85_74 s0_195 (by decide) (Or.inl rfl) ?_
      show GO S0 85 77 [vR 195, vI x1, vI x2, vI x3, vI x4, vI y7, vU] [] (iup I6 195 6 ((I6 196 (I6 195 4).toNat) - y7)) K
      have h := h _ rfl
      generalize iup I6 195 6 ((I6 196 (I6 195 4).toNat) - y7) = I11 at h ⊢
      refine G_loadR rc_85_77 rfl ?_
      refine G_getI rc_85_78 s0_195 (by decide) ?_
      show GO S0 85 81 [vR 195, vI x1, vI x2, vI x3, vI x4, vI y7, vU] [vI (I11 195 5)] I11 K
      refine G_loadR rc_85_81 rfl ?_
      refine G_getI rc_85_82 s0_195 (by decide) ?_
      show GO S0 85 85 [vR 195, vI x1, vI x2, vI x3, vI x4, vI y7, vU] [vI (I11 195 4), vI (I11 195 5)] I11 K
      refine G_i2 (C := I11 195 5 = I11 195 4) rc_85_85 rfl (fun c12 => ?_) (fun c12 => ?_)
      · rw [if_pos c12] at h
        show GO S0 85 135 [vR 195, vI x1, vI x2, vI x3, vI x4, vI y7, vU] [] I11 K
        refine G_const rc_85_135 (by decide) ?_
        exact G_retI rc_85_136 (Or.inl rfl) h
      · rw [if_neg c12] at h
        show GO S0 85 88 [vR 195, vI x1, vI x2, vI x3, vI x4, vI y7, vU] [] I11 K
        refine G_loadR rc_85_88 rfl ?_
        refine G_getR rc_85_89 s0_195 (by decide) rfl (by decide) ?_
        show GO S0 85 92 [vR 195, vI x1, vI x2, vI x3, vI x4, vI y7, vU] [vR 193] I11 K
        refine G_loadR rc_85_92 rfl ?_
        refine G_getR rc_85_93 s0_195 (by decide) rfl (by decide) ?_
        show GO S0 85 96 [vR 195, vI x1, vI x2, vI x3, vI x4, vI y7, vU] [vR 197, vR 193] I11 K
        refine G_loadR rc_85_96 rfl ?_
        refine G_getI rc_85_97 s0_195 (by decide) ?_
        show GO S0 85 100 [vR 195, vI x1, vI x2, vI x3, vI x4, vI y7, vU] [vI (I11 195 5), vR 197, vR 193] I11 K
        refine G_call (as := [vR 193, vR 197, vI (I11 195 5)]) (rest := []) rc_85_100 rfl rfl rfl (Nat.le_of_ble_eq_true rfl) (g_recv s0_193 rfl) ?_
        refine GO.imp h (fun v I13 h => ?_)
        obtain ⟨y14, rfl, h⟩ := h
        show GO S0 85 103 [vR 195, vI x1, vI x2, vI x3, vI x4, vI y7, vU] [vI y14] I13 K
        refine G_storeI rc_85_103 (Nat.le_of_ble_eq_true rfl) ?_
        show GO S0 85 105 [vR 195, vI x1, vI x2, vI x3, vI x4, vI y7, vI y14] [] I13 K
        refine G_loadI rc_85_105 rfl ?_
        refine G_const rc_85_107 (by decide) ?_
        refine G_i2 (C := ¬ y14 = -1) rc_85_108 rfl (fun c15 => ?_) (fun c15 => ?_)
        · rw [if_neg c15] at h
          show GO S0 85 114 [vR 195, vI x1, vI x2, vI x3, vI x4, vI y7, vI y14] [] I13 K
          refine G_loadR rc_85_114 rfl ?_
          refine G_dupR rc_85_115 ?_
          refine G_getI rc_85_116 s0_195 (by decide) ?_
          show GO S0 85 119 [vR 195, vI x1, vI x2, vI x3, vI x4, vI y7, vI y14] [vI (I13 195 6), vR 195] I13 K
          refine G_loadR rc_85_119 rfl ?_
          refine G_getR rc_85_120 s0_195 (by decide) rfl (by decide) ?_
          show GO S0 85 123 [vR 195, vI x1, vI x2, vI x3, vI x4, vI y7, vI y14] [vR 196, vI (I13 195 6), vR 195] I13 K
          refine G_loadR rc_85_123 rfl ?_
          refine G_getI rc_85_124 s0_195 (by decide) ?_
          show GO S0 85 127 [vR 195, vI x1, vI x2, vI x3, vI x4, vI y7, vI y14] [vI (I13 195 5), vR 196, vI (I13 195 6), vR 195] I13 K
          obtain ⟨c16, h⟩ := h
          refine G_ald rc_85_127 s0_196 (by omega) (by omega) ?_
          show GO S0 85 128 [vR 195, vI x1, vI x2, vI x3, vI x4, vI y7, vI y14] [vI (I13 196 (I13 195 5).toNat), vI (I13 195 6), vR 195] I13 K
          refine G_loadI rc_85_128 rfl ?_
          obtain ⟨c17, h⟩ := h
          refine G_bop (z := (I13 196 (I13 195 5).toNat) - y14) rc_85_130 (if_pos c17) ?_
          show GO S0 85 131 [vR 195, vI x1, vI x2, vI x3, vI x4, vI y7, vI y14] [vI ((I13 196 (I13 195 5).toNat) - y14), vI (I13 195 6), vR 195] I13 K
          obtain ⟨c18, h⟩ := h
          refine G_bop (z := (I13 195 6) + ((I13 196 (I13 195 5).toNat) - y14)) rc_85_131 (if_pos c18) ?_
          show GO S0 85 132 [vR 195, vI x1, vI x2, vI x3, vI x4, vI y7, vI y14] [vI ((I13 195 6) + ((I13 196 (I13 195 5).toNat) - y14)), vR 195] I13 K
          refine G_putI rc_85_132 s0_195 (by decide) (Or.inl rfl) ?_
          show GO S0 85 135 [vR 195, vI x1, vI x2, vI x3, vI x4, vI y7, vI y14] [] (iup I13 195 6 ((I13 195 6) + ((I13 196 (I13 195 5).toNat) - y14))) K
          have h := h _ rfl
          generalize iup I13 195 6 ((I13 195 6) + ((I13 196 (I13 195 5).toNat) - y14)) = I19 at h ⊢
          refine G_const rc_85_135 (by decide) ?_
          exact G_retI rc_85_136 (Or.inl rfl) h
        · rw [if_pos (Classical.not_not.mp c15)] at h
          show GO S0 85 111 [vR 195, vI x1, vI x2, vI x3, vI x4, vI y7, vI y14] [] I13 K
          refine G_const rc_85_111 (by decide) ?_
          exact G_retI rc_85_113 (Or.inl rfl) h
    · rw [if_pos (Classical.not_not.mp c8)] at h
      show GO S0 85 58 [vR 195, vI x1, vI x2, vI x3, vI x4, vI y7, vU] [] I6 K
      refine G_const rc_85_58 (by decide) ?_
      exact G_retI rc_85_60 (Or.inl rfl) h
  · rw [if_pos (Classical.not_not.mp c3)] at h
    show GO S0 85 12 [vR 195, vI x1, vI x2, vI x3, vI x4, vU, vU] [] I1 K
    refine G_const rc_85_12 (by decide) ?_
    exact G_retI rc_85_14 (Or.inl rfl) h
/-! 86: RoundSlack$Moves.changes(IIII)Z -/
def D86_0 (x1 : Int) (x2 : Int) (x3 : Int) (x4 : Int) (I : IM) (K : Option AV → IM → Prop) : Prop :=
  (if x1 = 0 then (CALL S0 22 [vR 29, vI x2] I (fun v I2 => ∃ y3 : Int, v = some (vI y3) ∧ (if y3 = x3 then (CALL S0 60 [vR 29, vI x2] I2 (fun v I5 => ∃ y6 : Int, v = some (vI y6) ∧ (if y6 = x4 then (K (some (vI 0)) I5) else (K (some (vI 1)) I5)))) else (K (some (vI 1)) I2)))) else (if x1 = 2 then ((inR (Int.tdiv x4 16)) ∧ (0 ≤ x2 ∧ x2 < 4) ∧ (if Int.tmod x4 16 = I 30 (x2).toNat then ((0 ≤ x3 ∧ x3 < 4) ∧ (if Int.tdiv x4 16 = I 30 (x3).toNat then (K (some (vI 0)) I) else (K (some (vI 1)) I))) else (K (some (vI 1)) I))) else (K (some (vI 1)) I)))
set_option maxRecDepth 10000 in
theorem g86_0 (x1 : Int) (x2 : Int) (x3 : Int) (x4 : Int) (I : IM) (K : Option AV → IM → Prop) (h : D86_0 x1 x2 x3 x4 I K) : GO S0 86 0 [vR 195, vI x1, vI x2, vI x3, vI x4] [] I K := by
  unfold D86_0 at h
  refine G_loadI rc_86_0 rfl ?_
  refine G_switch rc_86_1 ?_
  show GO S0 86 (if x1 = 0 then 28 else if x1 = 2 then 59 else 99) [vR 195, vI x1, vI x2, vI x3, vI x4] [] I K
  by_cases c1 : x1 = 0
  · rw [if_pos c1] at h
    rw [if_pos c1]
    show GO S0 86 28 [vR 195, vI x1, vI x2, vI x3, vI x4] [] I K
    refine G_loadR rc_86_28 rfl ?_
    refine G_getR rc_86_29 s0_195 (by decide) rfl (by decide) ?_
    show GO S0 86 32 [vR 195, vI x1, vI x2, vI x3, vI x4] [vR 29] I K
    refine G_loadI rc_86_32 rfl ?_
    refine G_call (as := [vR 29, vI x2]) (rest := []) rc_86_33 rfl rfl rfl (Nat.le_of_ble_eq_true rfl) (g_recv s0_29 rfl) ?_
    refine GO.imp h (fun v I2 h => ?_)
    obtain ⟨y3, rfl, h⟩ := h
    show GO S0 86 36 [vR 195, vI x1, vI x2, vI x3, vI x4] [vI y3] I2 K
    refine G_loadI rc_86_36 rfl ?_
    refine G_i2 (C := ¬ y3 = x3) rc_86_37 rfl (fun c4 => ?_) (fun c4 => ?_)
    · rw [if_neg c4] at h
      show GO S0 86 53 [vR 195, vI x1, vI x2, vI x3, vI x4] [] I2 K
      refine G_const rc_86_53 (by decide) ?_
      refine G_goto rc_86_54 ?_
      show GO S0 86 58 [vR 195, vI x1, vI x2, vI x3, vI x4] [vI 1] I2 K
      exact G_retI rc_86_58 (Or.inr (by decide)) h
    · rw [if_pos (Classical.not_not.mp c4)] at h
      show GO S0 86 40 [vR 195, vI x1, vI x2, vI x3, vI x4] [] I2 K
      refine G_loadR rc_86_40 rfl ?_
      refine G_getR rc_86_41 s0_195 (by decide) rfl (by decide) ?_
      show GO S0 86 44 [vR 195, vI x1, vI x2, vI x3, vI x4] [vR 29] I2 K
      refine G_loadI rc_86_44 rfl ?_
      refine G_call (as := [vR 29, vI x2]) (rest := []) rc_86_45 rfl rfl rfl (Nat.le_of_ble_eq_true rfl) (g_recv s0_29 rfl) ?_
      refine GO.imp h (fun v I5 h => ?_)
      obtain ⟨y6, rfl, h⟩ := h
      show GO S0 86 48 [vR 195, vI x1, vI x2, vI x3, vI x4] [vI y6] I5 K
      refine G_loadI rc_86_48 rfl ?_
      refine G_i2 (C := y6 = x4) rc_86_50 rfl (fun c7 => ?_) (fun c7 => ?_)
      · rw [if_pos c7] at h
        show GO S0 86 57 [vR 195, vI x1, vI x2, vI x3, vI x4] [] I5 K
        refine G_const rc_86_57 (by decide) ?_
        exact G_retI rc_86_58 (Or.inr (by decide)) h
      · rw [if_neg c7] at h
        show GO S0 86 53 [vR 195, vI x1, vI x2, vI x3, vI x4] [] I5 K
        refine G_const rc_86_53 (by decide) ?_
        refine G_goto rc_86_54 ?_
        show GO S0 86 58 [vR 195, vI x1, vI x2, vI x3, vI x4] [vI 1] I5 K
        exact G_retI rc_86_58 (Or.inr (by decide)) h
  · rw [if_neg c1] at h
    rw [if_neg c1]
    by_cases c8 : x1 = 2
    · rw [if_pos c8] at h
      rw [if_pos c8]
      show GO S0 86 59 [vR 195, vI x1, vI x2, vI x3, vI x4] [] I K
      refine G_loadI rc_86_59 rfl ?_
      refine G_const rc_86_61 (by decide) ?_
      obtain ⟨c9, h⟩ := h
      refine G_bop (z := Int.tmod x4 16) rc_86_63 (show (if (16 : Int) ≠ 0 ∧ inR (Int.tdiv x4 16) then some (Int.tmod x4 16) else none) = some (Int.tmod x4 16) from if_pos ⟨by decide, c9⟩) ?_
      show GO S0 86 64 [vR 195, vI x1, vI x2, vI x3, vI x4] [vI (Int.tmod x4 16)] I K
      refine G_loadR rc_86_64 rfl ?_
      refine G_getR rc_86_65 s0_195 (by decide) rfl (by decide) ?_
      show GO S0 86 68 [vR 195, vI x1, vI x2, vI x3, vI x4] [vR 29, vI (Int.tmod x4 16)] I K
      refine G_getR rc_86_68 s0_29 (by decide) rfl (by decide) ?_
      show GO S0 86 71 [vR 195, vI x1, vI x2, vI x3, vI x4] [vR 30, vI (Int.tmod x4 16)] I K
      refine G_loadI rc_86_71 rfl ?_
      obtain ⟨c10, h⟩ := h
      refine G_ald rc_86_72 s0_30 (by omega) (by omega) ?_
      show GO S0 86 73 [vR 195, vI x1, vI x2, vI x3, vI x4] [vI (I 30 (x2).toNat), vI (Int.tmod x4 16)] I K
      refine G_i2 (C := ¬ Int.tmod x4 16 = I 30 (x2).toNat) rc_86_73 rfl (fun c11 => ?_) (fun c11 => ?_)
      · rw [if_neg c11] at h
        show GO S0 86 93 [vR 195, vI x1, vI x2, vI x3, vI x4] [] I K
        refine G_const rc_86_93 (by decide) ?_
        refine G_goto rc_86_94 ?_
        show GO S0 86 98 [vR 195, vI x1, vI x2, vI x3, vI x4] [vI 1] I K
        exact G_retI rc_86_98 (Or.inr (by decide)) h
      · rw [if_pos (Classical.not_not.mp c11)] at h
        show GO S0 86 76 [vR 195, vI x1, vI x2, vI x3, vI x4] [] I K
        refine G_loadI rc_86_76 rfl ?_
        refine G_const rc_86_78 (by decide) ?_
        refine G_bop (z := Int.tdiv x4 16) rc_86_80 (show (if (16 : Int) ≠ 0 ∧ inR (Int.tdiv x4 16) then some (Int.tdiv x4 16) else none) = some (Int.tdiv x4 16) from if_pos ⟨by decide, c9⟩) ?_
        show GO S0 86 81 [vR 195, vI x1, vI x2, vI x3, vI x4] [vI (Int.tdiv x4 16)] I K
        refine G_loadR rc_86_81 rfl ?_
        refine G_getR rc_86_82 s0_195 (by decide) rfl (by decide) ?_
        show GO S0 86 85 [vR 195, vI x1, vI x2, vI x3, vI x4] [vR 29, vI (Int.tdiv x4 16)] I K
        refine G_getR rc_86_85 s0_29 (by decide) rfl (by decide) ?_
        show GO S0 86 88 [vR 195, vI x1, vI x2, vI x3, vI x4] [vR 30, vI (Int.tdiv x4 16)] I K
        refine G_loadI rc_86_88 rfl ?_
        obtain ⟨c12, h⟩ := h
        refine G_ald rc_86_89 s0_30 (by omega) (by omega) ?_
        show GO S0 86 90 [vR 195, vI x1, vI x2, vI x3, vI x4] [vI (I 30 (x3).toNat), vI (Int.tdiv x4 16)] I K
        refine G_i2 (C := Int.tdiv x4 16 = I 30 (x3).toNat) rc_86_90 rfl (fun c13 => ?_) (fun c13 => ?_)
        · rw [if_pos c13] at h
          show GO S0 86 97 [vR 195, vI x1, vI x2, vI x3, vI x4] [] I K
          refine G_const rc_86_97 (by decide) ?_
          exact G_retI rc_86_98 (Or.inr (by decide)) h
        · rw [if_neg c13] at h
          show GO S0 86 93 [vR 195, vI x1, vI x2, vI x3, vI x4] [] I K
          refine G_const rc_86_93 (by decide) ?_
          refine G_goto rc_86_94 ?_
          show GO S0 86 98 [vR 195, vI x1, vI x2, vI x3, vI x4] [vI 1] I K
          exact G_retI rc_86_98 (Or.inr (by decide)) h
    · rw [if_neg c8] at h
      rw [if_neg c8]
      show GO S0 86 99 [vR 195, vI x1, vI x2, vI x3, vI x4] [] I K
      refine G_const rc_86_99 (by decide) ?_
      exact G_retI rc_86_100 (Or.inr (by decide)) h
/-! 87: RoundSlack$Moves.shape(IIII)V -/
def D87_184 (x1 : Int) (x2 : Int) (x3 : Int) (x4 : Int) (x5 : Int) (I : IM) (K : Option AV → IM → Prop) : Prop :=
  (if x4 < x5 then (K none I) else ((0 ≤ x2 ∧ x2 < 4) ∧ (inR (x3 + x4)) ∧ (inR ((x3 + x4) - x5)) ∧ (0 ≤ (x3 + x4) - x5 ∧ (x3 + x4) - x5 < 12) ∧ (0 ≤ x5 ∧ x5 < 12) ∧ ∀ I7 : IM, I7 = iup I (197 + 3 + (x2).toNat) (x5).toNat (I (29 + 3 + (x2).toNat) ((x3 + x4) - x5).toNat) → (inR (x5 + 1)) ∧ GO S0 87 184 [vR 195, vI x1, vI x2, vI x3, vI x4, vI (x5 + 1)] [] I7 K))
set_option maxRecDepth 10000 in
theorem g87_184 (x1 : Int) (x2 : Int) (x3 : Int) (x4 : Int) (x5 : Int) (I : IM) (K : Option AV → IM → Prop) (h : D87_184 x1 x2 x3 x4 x5 I K) : GO S0 87 184 [vR 195, vI x1, vI x2, vI x3, vI x4, vI x5] [] I K := by
  unfold D87_184 at h
  refine G_loadI rc_87_184 rfl ?_
  refine G_loadI rc_87_186 rfl ?_
  refine G_i2 (C := x4 < x5) rc_87_188 rfl (fun c1 => ?_) (fun c1 => ?_)
  · rw [if_pos c1] at h
    show GO S0 87 226 [vR 195, vI x1, vI x2, vI x3, vI x4, vI x5] [] I K
    exact G_ret0 rc_87_226 h
  · rw [if_neg c1] at h
    show GO S0 87 191 [vR 195, vI x1, vI x2, vI x3, vI x4, vI x5] [] I K
    refine G_loadR rc_87_191 rfl ?_
    refine G_getR rc_87_192 s0_195 (by decide) rfl (by decide) ?_
    show GO S0 87 195 [vR 195, vI x1, vI x2, vI x3, vI x4, vI x5] [vR 197] I K
    refine G_getR rc_87_195 s0_197 (by decide) rfl (by decide) ?_
    show GO S0 87 198 [vR 195, vI x1, vI x2, vI x3, vI x4, vI x5] [vR 199] I K
    refine G_loadI rc_87_198 rfl ?_
    obtain ⟨c2, h⟩ := h
    refine G_aldR rc_87_199 s0_199 (Or.inl rfl) (by omega) (by omega) (rd_row (r := 197) (i := (x2).toNat) (by omega)) (by omega) ?_
    show GO S0 87 200 [vR 195, vI x1, vI x2, vI x3, vI x4, vI x5] [vR (197 + 3 + (x2).toNat)] I K
    refine G_loadI rc_87_200 rfl ?_
    refine G_loadR rc_87_202 rfl ?_
    refine G_getR rc_87_203 s0_195 (by decide) rfl (by decide) ?_
    show GO S0 87 206 [vR 195, vI x1, vI x2, vI x3, vI x4, vI x5] [vR 29, vI x5, vR (197 + 3 + (x2).toNat)] I K
    refine G_getR rc_87_206 s0_29 (by decide) rfl (by decide) ?_
    show GO S0 87 209 [vR 195, vI x1, vI x2, vI x3, vI x4, vI x5] [vR 31, vI x5, vR (197 + 3 + (x2).toNat)] I K
    refine G_loadI rc_87_209 rfl ?_
    refine G_aldR rc_87_210 s0_31 (Or.inl rfl) (by omega) (by omega) (rd_row (r := 29) (i := (x2).toNat) (by omega)) (by omega) ?_
    show GO S0 87 211 [vR 195, vI x1, vI x2, vI x3, vI x4, vI x5] [vR (29 + 3 + (x2).toNat), vI x5, vR (197 + 3 + (x2).toNat)] I K
    refine G_loadI rc_87_211 rfl ?_
    refine G_loadI rc_87_212 rfl ?_
    obtain ⟨c3, h⟩ := h
    refine G_bop (z := x3 + x4) rc_87_214 (if_pos c3) ?_
    show GO S0 87 215 [vR 195, vI x1, vI x2, vI x3, vI x4, vI x5] [vI (x3 + x4), vR (29 + 3 + (x2).toNat), vI x5, vR (197 + 3 + (x2).toNat)] I K
    refine G_loadI rc_87_215 rfl ?_
    obtain ⟨c4, h⟩ := h
    refine G_bop (z := (x3 + x4) - x5) rc_87_217 (if_pos c4) ?_
    show GO S0 87 218 [vR 195, vI x1, vI x2, vI x3, vI x4, vI x5] [vI ((x3 + x4) - x5), vR (29 + 3 + (x2).toNat), vI x5, vR (197 + 3 + (x2).toNat)] I K
    obtain ⟨c5, h⟩ := h
    refine G_ald rc_87_218 (rd_3 (r := 29) (i := (x2).toNat) (by unfold isRd; decide) (by omega)) (by omega) (by omega) ?_
    show GO S0 87 219 [vR 195, vI x1, vI x2, vI x3, vI x4, vI x5] [vI (I (29 + 3 + (x2).toNat) ((x3 + x4) - x5).toNat), vI x5, vR (197 + 3 + (x2).toNat)] I K
    obtain ⟨c6, h⟩ := h
    refine G_ast rc_87_219 (rd_3 (r := 197) (i := (x2).toNat) (by unfold isRd; decide) (by omega)) (by omega) (by omega) (Or.inl rfl) ?_
    show GO S0 87 220 [vR 195, vI x1, vI x2, vI x3, vI x4, vI x5] [] (iup I (197 + 3 + (x2).toNat) (x5).toNat (I (29 + 3 + (x2).toNat) ((x3 + x4) - x5).toNat)) K
    have h := h _ rfl
    generalize iup I (197 + 3 + (x2).toNat) (x5).toNat (I (29 + 3 + (x2).toNat) ((x3 + x4) - x5).toNat) = I7 at h ⊢
    obtain ⟨c8, h⟩ := h
    refine G_iinc rc_87_220 rfl c8 ?_
    show GO S0 87 223 [vR 195, vI x1, vI x2, vI x3, vI x4, vI (x5 + 1)] [] I7 K
    refine G_goto rc_87_223 ?_
    show GO S0 87 184 [vR 195, vI x1, vI x2, vI x3, vI x4, vI (x5 + 1)] [] I7 K
    exact h
def D87_0 (x1 : Int) (x2 : Int) (x3 : Int) (x4 : Int) (I : IM) (K : Option AV → IM → Prop) : Prop :=
  ∀ I1 : IM, I1 = iup I 195 4 x2 → ∀ I2 : IM, I2 = iup I1 195 5 x3 → (if x1 = 0 then (CALL S0 22 [vR 29, vI x2] I2 (fun v I4 => ∃ y5 : Int, v = some (vI y5) ∧ ∀ I6 : IM, I6 = iup I4 195 4 y5 → CALL S0 80 [vR 197, vI x2] I6 (fun v I7 => v = none ∧ CALL S0 45 [vR 197, vI x2, vI x3, vI x4] I7 (fun v I8 => v = none ∧ K none I8)))) else (if x1 = 1 then (CALL S0 22 [vR 29, vI x2] I2 (fun v I10 => ∃ y11 : Int, v = some (vI y11) ∧ ∀ I12 : IM, I12 = iup I10 195 4 y11 → CALL S0 22 [vR 29, vI x3] I12 (fun v I13 => ∃ y14 : Int, v = some (vI y14) ∧ ∀ I15 : IM, I15 = iup I13 195 5 y14 → (0 ≤ I15 195 4 ∧ I15 195 4 < 4) ∧ CALL S0 60 [vR 29, vI x2] I15 (fun v I17 => ∃ y18 : Int, v = some (vI y18) ∧ (0 ≤ y18 ∧ y18 < 12) ∧ ∀ I20 : IM, I20 = iup I17 (197 + 3 + (I15 195 4).toNat) (y18).toNat x3 → (0 ≤ I20 195 5 ∧ I20 195 5 < 4) ∧ CALL S0 60 [vR 29, vI x3] I20 (fun v I22 => ∃ y23 : Int, v = some (vI y23) ∧ (0 ≤ y23 ∧ y23 < 12) ∧ ∀ I25 : IM, I25 = iup I22 (197 + 3 + (I20 195 5).toNat) (y23).toNat x2 → K none I25))))) else (if x1 = 2 then ((inR (Int.tdiv x4 16)) ∧ CALL S0 88 [vR 195, vI x2, vI (Int.tmod x4 16), vI x3, vI (Int.tdiv x4 16)] I2 (fun v I28 => v = none ∧ CALL S0 88 [vR 195, vI x3, vI (Int.tdiv x4 16), vI x2, vI (Int.tmod x4 16)] I28 (fun v I29 => v = none ∧ K none I29))) else (∀ I30 : IM, I30 = iup I2 195 5 x2 → GO S0 87 184 [vR 195, vI x1, vI x2, vI x3, vI x4, vI x3] [] I30 K))))
set_option maxRecDepth 10000 in
theorem g87_0 (x1 : Int) (x2 : Int) (x3 : Int) (x4 : Int) (I : IM) (K : Option AV → IM → Prop) (h : D87_0 x1 x2 x3 x4 I K) : GO S0 87 0 [vR 195, vI x1, vI x2, vI x3, vI x4, vU] [] I K := by
  unfold D87_0 at h
  refine G_loadR rc_87_0 rfl ?_
  refine G_loadI rc_87_1 rfl ?_
  refine G_putI rc_87_2 s0_195 (by decide) (Or.inl rfl) ?_
  show GO S0 87 5 [vR 195, vI x1, vI x2, vI x3, vI x4, vU] [] (iup I 195 4 x2) K
  have h := h _ rfl
  generalize iup I 195 4 x2 = I1 at h ⊢
  refine G_loadR rc_87_5 rfl ?_
  refine G_loadI rc_87_6 rfl ?_
  refine G_putI rc_87_7 s0_195 (by decide) (Or.inl rfl) ?_
  show GO S0 87 10 [vR 195, vI x1, vI x2, vI x3, vI x4, vU] [] (iup I1 195 5 x3) K
  have h := h _ rfl
  generalize iup I1 195 5 x3 = I2 at h ⊢
  refine G_loadI rc_87_10 rfl ?_
  refine G_switch rc_87_11 ?_
  show GO S0 87 (if x1 = 0 then 36 else if x1 = 1 then 70 else if x1 = 2 then 141 else 176) [vR 195, vI x1, vI x2, vI x3, vI x4, vU] [] I2 K
  by_cases c3 : x1 = 0
  · rw [if_pos c3] at h
    rw [if_pos c3]
    show GO S0 87 36 [vR 195, vI x1, vI x2, vI x3, vI x4, vU] [] I2 K
    refine G_loadR rc_87_36 rfl ?_
    refine G_loadR rc_87_37 rfl ?_
    refine G_getR rc_87_38 s0_195 (by decide) rfl (by decide) ?_
    show GO S0 87 41 [vR 195, vI x1, vI x2, vI x3, vI x4, vU] [vR 29, vR 195] I2 K
    refine G_loadI rc_87_41 rfl ?_
    refine G_call (as := [vR 29, vI x2]) (rest := [vR 195]) rc_87_42 rfl rfl rfl (Nat.le_of_ble_eq_true rfl) (g_recv s0_29 rfl) ?_
    refine GO.imp h (fun v I4 h => ?_)
    obtain ⟨y5, rfl, h⟩ := h
    show GO S0 87 45 [vR 195, vI x1, vI x2, vI x3, vI x4, vU] [vI y5, vR 195] I4 K
    refine G_putI rc_87_45 s0_195 (by decide) (Or.inl rfl) ?_
    show GO S0 87 48 [vR 195, vI x1, vI x2, vI x3, vI x4, vU] [] (iup I4 195 4 y5) K
    have h := h _ rfl
    generalize iup I4 195 4 y5 = I6 at h ⊢
    refine G_loadR rc_87_48 rfl ?_
    refine G_getR rc_87_49 s0_195 (by decide) rfl (by decide) ?_
    show GO S0 87 52 [vR 195, vI x1, vI x2, vI x3, vI x4, vU] [vR 197] I6 K
    refine G_loadI rc_87_52 rfl ?_
    refine G_call (as := [vR 197, vI x2]) (rest := []) rc_87_53 rfl rfl rfl (Nat.le_of_ble_eq_true rfl) (g_recv s0_197 rfl) ?_
    refine GO.imp h (fun v I7 h => ?_)
    obtain ⟨rfl, h⟩ := h
    show GO S0 87 56 [vR 195, vI x1, vI x2, vI x3, vI x4, vU] [] I7 K
    refine G_loadR rc_87_56 rfl ?_
    refine G_getR rc_87_57 s0_195 (by decide) rfl (by decide) ?_
    show GO S0 87 60 [vR 195, vI x1, vI x2, vI x3, vI x4, vU] [vR 197] I7 K
    refine G_loadI rc_87_60 rfl ?_
    refine G_loadI rc_87_61 rfl ?_
    refine G_loadI rc_87_62 rfl ?_
    refine G_call (as := [vR 197, vI x2, vI x3, vI x4]) (rest := []) rc_87_64 rfl rfl rfl (Nat.le_of_ble_eq_true rfl) (g_recv s0_197 rfl) ?_
    refine GO.imp h (fun v I8 h => ?_)
    obtain ⟨rfl, h⟩ := h
    show GO S0 87 67 [vR 195, vI x1, vI x2, vI x3, vI x4, vU] [] I8 K
    refine G_goto rc_87_67 ?_
    show GO S0 87 226 [vR 195, vI x1, vI x2, vI x3, vI x4, vU] [] I8 K
    exact G_ret0 rc_87_226 h
  · rw [if_neg c3] at h
    rw [if_neg c3]
    by_cases c9 : x1 = 1
    · rw [if_pos c9] at h
      rw [if_pos c9]
      show GO S0 87 70 [vR 195, vI x1, vI x2, vI x3, vI x4, vU] [] I2 K
      refine G_loadR rc_87_70 rfl ?_
      refine G_loadR rc_87_71 rfl ?_
      refine G_getR rc_87_72 s0_195 (by decide) rfl (by decide) ?_
      show GO S0 87 75 [vR 195, vI x1, vI x2, vI x3, vI x4, vU] [vR 29, vR 195] I2 K
      refine G_loadI rc_87_75 rfl ?_
      refine G_call (as := [vR 29, vI x2]) (rest := [vR 195]) rc_87_76 rfl rfl rfl (Nat.le_of_ble_eq_true rfl) (g_recv s0_29 rfl) ?_
      refine GO.imp h (fun v I10 h => ?_)
      obtain ⟨y11, rfl, h⟩ := h
      show GO S0 87 79 [vR 195, vI x1, vI x2, vI x3, vI x4, vU] [vI y11, vR 195] I10 K
      refine G_putI rc_87_79 s0_195 (by decide) (Or.inl rfl) ?_
      show GO S0 87 82 [vR 195, vI x1, vI x2, vI x3, vI x4, vU] [] (iup I10 195 4 y11) K
      have h := h _ rfl
      generalize iup I10 195 4 y11 = I12 at h ⊢
      refine G_loadR rc_87_82 rfl ?_
      refine G_loadR rc_87_83 rfl ?_
      refine G_getR rc_87_84 s0_195 (by decide) rfl (by decide) ?_
      show GO S0 87 87 [vR 195, vI x1, vI x2, vI x3, vI x4, vU] [vR 29, vR 195] I12 K
      refine G_loadI rc_87_87 rfl ?_
      refine G_call (as := [vR 29, vI x3]) (rest := [vR 195]) rc_87_88 rfl rfl rfl (Nat.le_of_ble_eq_true rfl) (g_recv s0_29 rfl) ?_
      refine GO.imp h (fun v I13 h => ?_)
      obtain ⟨y14, rfl, h⟩ := h
      show GO S0 87 91 [vR 195, vI x1, vI x2, vI x3, vI x4, vU] [vI y14, vR 195] I13 K
      refine G_putI rc_87_91 s0_195 (by decide) (Or.inl rfl) ?_
      show GO S0 87 94 [vR 195, vI x1, vI x2, vI x3, vI x4, vU] [] (iup I13 195 5 y14) K
      have h := h _ rfl
      generalize iup I13 195 5 y14 = I15 at h ⊢
      refine G_loadR rc_87_94 rfl ?_
      refine G_getR rc_87_95 s0_195 (by decide) rfl (by decide) ?_
      show GO S0 87 98 [vR 195, vI x1, vI x2, vI x3, vI x4, vU] [vR 197] I15 K
      refine G_getR rc_87_98 s0_197 (by decide) rfl (by decide) ?_
      show GO S0 87 101 [vR 195, vI x1, vI x2, vI x3, vI x4, vU] [vR 199] I15 K
      refine G_loadR rc_87_101 rfl ?_
      refine G_getI rc_87_102 s0_195 (by decide) ?_
      show GO S0 87 105 [vR 195, vI x1, vI x2, vI x3, vI x4, vU] [vI (I15 195 4), vR 199] I15 K
      obtain ⟨c16, h⟩ := h
      refine G_aldR rc_87_105 s0_199 (Or.inl rfl) (by omega) (by omega) (rd_row (r := 197) (i := (I15 195 4).toNat) (by omega)) (by omega) ?_
      show GO S0 87 106 [vR 195, vI x1, vI x2, vI x3, vI x4, vU] [vR (197 + 3 + (I15 195 4).toNat)] I15 K
      refine G_loadR rc_87_106 rfl ?_
      refine G_getR rc_87_107 s0_195 (by decide) rfl (by decide) ?_
      show GO S0 87 110 [vR 195, vI x1, vI x2, vI x3, vI x4, vU] [vR 29, vR (197 + 3 + (I15 195 4).toNat)] I15 K
      refine G_loadI rc_87_110 rfl ?_
      refine G_call (as := [vR 29, vI x2]) (rest := [vR (197 + 3 + (I15 195 4).toNat)]) rc_87_111 rfl rfl rfl (Nat.le_of_ble_eq_true rfl) (g_recv s0_29 rfl) ?_
      refine GO.imp h (fun v I17 h => ?_)
      obtain ⟨y18, rfl, h⟩ := h
      show GO S0 87 114 [vR 195, vI x1, vI x2, vI x3, vI x4, vU] [vI y18, vR (197 + 3 + (I15 195 4).toNat)] I17 K
      refine G_loadI rc_87_114 rfl ?_
      obtain ⟨c19, h⟩ := h
      refine G_ast rc_87_115 (rd_3 (r := 197) (i := (I15 195 4).toNat) (by unfold isRd; decide) (by omega)) (by omega) (by omega) (Or.inl rfl) ?_
      show GO S0 87 116 [vR 195, vI x1, vI x2, vI x3, vI x4, vU] [] (iup I17 (197 + 3 + (I15 195 4).toNat) (y18).toNat x3) K
      have h := h _ rfl
      generalize iup I17 (197 + 3 + (I15 195 4).toNat) (y18).toNat x3 = I20 at h ⊢
      refine G_loadR rc_87_116 rfl ?_
      refine G_getR rc_87_117 s0_195 (by decide) rfl (by decide) ?_
      show GO S0 87 120 [vR 195, vI x1, vI x2, vI x3, vI x4, vU] [vR 197] I20 K
      refine G_getR rc_87_120 s0_197 (by decide) rfl (by decide) ?_
      show GO S0 87 123 [vR 195, vI x1, vI x2, vI x3, vI x4, vU] [vR 199] I20 K
      refine G_loadR rc_87_123 rfl ?_
      refine G_getI rc_87_124 s0_195 (by decide) ?_
      show GO S0 87 127 [vR 195, vI x1, vI x2, vI x3, vI x4, vU] [vI (I20 195 5), vR 199] I20 K
      obtain ⟨c21, h⟩ := h
      refine G_aldR rc_87_127 s0_199 (Or.inl rfl) (by omega) (by omega) (rd_row (r := 197) (i := (I20 195 5).toNat) (by omega)) (by omega) ?_
      show GO S0 87 128 [vR 195, vI x1, vI x2, vI x3, vI x4, vU] [vR (197 + 3 + (I20 195 5).toNat)] I20 K
      refine G_loadR rc_87_128 rfl ?_
      refine G_getR rc_87_129 s0_195 (by decide) rfl (by decide) ?_
      show GO S0 87 132 [vR 195, vI x1, vI x2, vI x3, vI x4, vU] [vR 29, vR (197 + 3 + (I20 195 5).toNat)] I20 K
      refine G_loadI rc_87_132 rfl ?_
      refine G_call (as := [vR 29, vI x3]) (rest := [vR (197 + 3 + (I20 195 5).toNat)]) rc_87_133 rfl rfl rfl (Nat.le_of_ble_eq_true rfl) (g_recv s0_29 rfl) ?_
      refine GO.imp h (fun v I22 h => ?_)
      obtain ⟨y23, rfl, h⟩ := h
      show GO S0 87 136 [vR 195, vI x1, vI x2, vI x3, vI x4, vU] [vI y23, vR (197 + 3 + (I20 195 5).toNat)] I22 K
      refine G_loadI rc_87_136 rfl ?_
      obtain ⟨c24, h⟩ := h
      refine G_ast rc_87_137 (rd_3 (r := 197) (i := (I20 195 5).toNat) (by unfold isRd; decide) (by omega)) (by omega) (by omega) (Or.inl rfl) ?_
      show GO S0 87 138 [vR 195, vI x1, vI x2, vI x3, vI x4, vU] [] (iup I22 (197 + 3 + (I20 195 5).toNat) (y23).toNat x2) K
      have h := h _ rfl
      generalize iup I22 (197 + 3 + (I20 195 5).toNat) (y23).toNat x2 = I25 at h ⊢
      refine G_goto rc_87_138 ?_
      show GO S0 87 226 [vR 195, vI x1, vI x2, vI x3, vI x4, vU] [] I25 K
      exact G_ret0 rc_87_226 h
    · rw [if_neg c9] at h
      rw [if_neg c9]
      by_cases c26 : x1 = 2
      · rw [if_pos c26] at h
        rw [if_pos c26]
        show GO S0 87 141 [vR 195, vI x1, vI x2, vI x3, vI x4, vU] [] I2 K
        refine G_loadR rc_87_141 rfl ?_
        refine G_loadI rc_87_142 rfl ?_
        refine G_loadI rc_87_143 rfl ?_
        refine G_const rc_87_145 (by decide) ?_
        obtain ⟨c27, h⟩ := h
        refine G_bop (z := Int.tmod x4 16) rc_87_147 (show (if (16 : Int) ≠ 0 ∧ inR (Int.tdiv x4 16) then some (Int.tmod x4 16) else none) = some (Int.tmod x4 16) from if_pos ⟨by decide, c27⟩) ?_
        show GO S0 87 148 [vR 195, vI x1, vI x2, vI x3, vI x4, vU] [vI (Int.tmod x4 16), vI x2, vR 195] I2 K
        refine G_loadI rc_87_148 rfl ?_
        refine G_loadI rc_87_149 rfl ?_
        refine G_const rc_87_151 (by decide) ?_
        refine G_bop (z := Int.tdiv x4 16) rc_87_153 (show (if (16 : Int) ≠ 0 ∧ inR (Int.tdiv x4 16) then some (Int.tdiv x4 16) else none) = some (Int.tdiv x4 16) from if_pos ⟨by decide, c27⟩) ?_
        show GO S0 87 154 [vR 195, vI x1, vI x2, vI x3, vI x4, vU] [vI (Int.tdiv x4 16), vI x3, vI (Int.tmod x4 16), vI x2, vR 195] I2 K
        refine G_call (as := [vR 195, vI x2, vI (Int.tmod x4 16), vI x3, vI (Int.tdiv x4 16)]) (rest := []) rc_87_154 rfl rfl rfl (Nat.le_of_ble_eq_true rfl) (g_recv s0_195 rfl) ?_
        refine GO.imp h (fun v I28 h => ?_)
        obtain ⟨rfl, h⟩ := h
        show GO S0 87 157 [vR 195, vI x1, vI x2, vI x3, vI x4, vU] [] I28 K
        refine G_loadR rc_87_157 rfl ?_
        refine G_loadI rc_87_158 rfl ?_
        refine G_loadI rc_87_159 rfl ?_
        refine G_const rc_87_161 (by decide) ?_
        refine G_bop (z := Int.tdiv x4 16) rc_87_163 (show (if (16 : Int) ≠ 0 ∧ inR (Int.tdiv x4 16) then some (Int.tdiv x4 16) else none) = some (Int.tdiv x4 16) from if_pos ⟨by decide, c27⟩) ?_
        show GO S0 87 164 [vR 195, vI x1, vI x2, vI x3, vI x4, vU] [vI (Int.tdiv x4 16), vI x3, vR 195] I28 K
        refine G_loadI rc_87_164 rfl ?_
        refine G_loadI rc_87_165 rfl ?_
        refine G_const rc_87_167 (by decide) ?_
        refine G_bop (z := Int.tmod x4 16) rc_87_169 (show (if (16 : Int) ≠ 0 ∧ inR (Int.tdiv x4 16) then some (Int.tmod x4 16) else none) = some (Int.tmod x4 16) from if_pos ⟨by decide, c27⟩) ?_
        show GO S0 87 170 [vR 195, vI x1, vI x2, vI x3, vI x4, vU] [vI (Int.tmod x4 16), vI x2, vI (Int.tdiv x4 16), vI x3, vR 195] I28 K
        refine G_call (as := [vR 195, vI x3, vI (Int.tdiv x4 16), vI x2, vI (Int.tmod x4 16)]) (rest := []) rc_87_170 rfl rfl rfl (Nat.le_of_ble_eq_true rfl) (g_recv s0_195 rfl) ?_
        refine GO.imp h (fun v I29 h => ?_)
        obtain ⟨rfl, h⟩ := h
        show GO S0 87 173 [vR 195, vI x1, vI x2, vI x3, vI x4, vU] [] I29 K
        refine G_goto rc_87_173 ?_
        show GO S0 87 226 [vR 195, vI x1, vI x2, vI x3, vI x4, vU] [] I29 K
        exact G_ret0 rc_87_226 h
      · rw [if_neg c26] at h
        rw [if_neg c26]
        show GO S0 87 176 [vR 195, vI x1, vI x2, vI x3, vI x4, vU] [] I2 K
        refine G_loadR rc_87_176 rfl ?_
        refine G_loadI rc_87_177 rfl ?_
        refine G_putI rc_87_178 s0_195 (by decide) (Or.inl rfl) ?_
        show GO S0 87 181 [vR 195, vI x1, vI x2, vI x3, vI x4, vU] [] (iup I2 195 5 x2) K
        have h := h _ rfl
        generalize iup I2 195 5 x2 = I30 at h ⊢
        refine G_loadI rc_87_181 rfl ?_
        refine G_storeI rc_87_182 (Nat.le_of_ble_eq_true rfl) ?_
        show GO S0 87 184 [vR 195, vI x1, vI x2, vI x3, vI x4, vI x3] [] I30 K
        exact h
/-! 88: RoundSlack$Moves.crossTail(IIII)V -/
def D88_0 (x1 : Int) (x2 : Int) (x3 : Int) (x4 : Int) (I : IM) (K : Option AV → IM → Prop) : Prop :=
  (0 ≤ x3 ∧ x3 < 4) ∧ (inR ((I 30 (x3).toNat) - x4)) ∧ (if (I 30 (x3).toNat) - x4 < 0 then (K none I) else ((inR (x2 + ((I 30 (x3).toNat) - x4))) ∧ (if x2 + ((I 30 (x3).toNat) - x4) ≤ 12 then ((0 ≤ x1 ∧ x1 < 4) ∧ ((0 : Int) ≤ x4 ∧ (0 : Int) ≤ x2 ∧ (0 : Int) ≤ (I 30 (x3).toNat) - x4 ∧ x4 + (I 30 (x3).toNat) - x4 ≤ (12 : Int) ∧ x2 + (I 30 (x3).toNat) - x4 ≤ (12 : Int)) ∧ ∀ I8 : IM, I8 = icp I (29 + 3 + (x3).toNat) (x4).toNat (197 + 3 + (x1).toNat) (x2).toNat ((I 30 (x3).toNat) - x4).toNat → ∀ I9 : IM, I9 = iup I8 198 (x1).toNat (x2 + ((I 30 (x3).toNat) - x4)) → K none I9) else (K none I))))
set_option maxRecDepth 10000 in
theorem g88_0 (x1 : Int) (x2 : Int) (x3 : Int) (x4 : Int) (I : IM) (K : Option AV → IM → Prop) (h : D88_0 x1 x2 x3 x4 I K) : GO S0 88 0 [vR 195, vI x1, vI x2, vI x3, vI x4, vU] [] I K := by
  unfold D88_0 at h
  refine G_loadR rc_88_0 rfl ?_
  refine G_getR rc_88_1 s0_195 (by decide) rfl (by decide) ?_
  show GO S0 88 4 [vR 195, vI x1, vI x2, vI x3, vI x4, vU] [vR 29] I K
  refine G_getR rc_88_4 s0_29 (by decide) rfl (by decide) ?_
  show GO S0 88 7 [vR 195, vI x1, vI x2, vI x3, vI x4, vU] [vR 30] I K
  refine G_loadI rc_88_7 rfl ?_
  obtain ⟨c1, h⟩ := h
  refine G_ald rc_88_8 s0_30 (by omega) (by omega) ?_
  show GO S0 88 9 [vR 195, vI x1, vI x2, vI x3, vI x4, vU] [vI (I 30 (x3).toNat)] I K
  refine G_loadI rc_88_9 rfl ?_
  obtain ⟨c2, h⟩ := h
  refine G_bop (z := (I 30 (x3).toNat) - x4) rc_88_11 (if_pos c2) ?_
  show GO S0 88 12 [vR 195, vI x1, vI x2, vI x3, vI x4, vU] [vI ((I 30 (x3).toNat) - x4)] I K
  refine G_storeI rc_88_12 (Nat.le_of_ble_eq_true rfl) ?_
  show GO S0 88 14 [vR 195, vI x1, vI x2, vI x3, vI x4, vI ((I 30 (x3).toNat) - x4)] [] I K
  refine G_loadI rc_88_14 rfl ?_
  refine G_i1 (C := (I 30 (x3).toNat) - x4 < 0) rc_88_16 rfl (fun c3 => ?_) (fun c3 => ?_)
  · rw [if_pos c3] at h
    show GO S0 88 28 [vR 195, vI x1, vI x2, vI x3, vI x4, vI ((I 30 (x3).toNat) - x4)] [] I K
    exact G_ret0 rc_88_28 h
  · rw [if_neg c3] at h
    show GO S0 88 19 [vR 195, vI x1, vI x2, vI x3, vI x4, vI ((I 30 (x3).toNat) - x4)] [] I K
    refine G_loadI rc_88_19 rfl ?_
    refine G_loadI rc_88_20 rfl ?_
    obtain ⟨c4, h⟩ := h
    refine G_bop (z := x2 + ((I 30 (x3).toNat) - x4)) rc_88_22 (if_pos c4) ?_
    show GO S0 88 23 [vR 195, vI x1, vI x2, vI x3, vI x4, vI ((I 30 (x3).toNat) - x4)] [vI (x2 + ((I 30 (x3).toNat) - x4))] I K
    refine G_const rc_88_23 (by decide) ?_
    refine G_i2 (C := x2 + ((I 30 (x3).toNat) - x4) ≤ 12) rc_88_25 rfl (fun c5 => ?_) (fun c5 => ?_)
    · rw [if_pos c5] at h
      show GO S0 88 29 [vR 195, vI x1, vI x2, vI x3, vI x4, vI ((I 30 (x3).toNat) - x4)] [] I K
      refine G_loadR rc_88_29 rfl ?_
      refine G_getR rc_88_30 s0_195 (by decide) rfl (by decide) ?_
      show GO S0 88 33 [vR 195, vI x1, vI x2, vI x3, vI x4, vI ((I 30 (x3).toNat) - x4)] [vR 29] I K
      refine G_getR rc_88_33 s0_29 (by decide) rfl (by decide) ?_
      show GO S0 88 36 [vR 195, vI x1, vI x2, vI x3, vI x4, vI ((I 30 (x3).toNat) - x4)] [vR 31] I K
      refine G_loadI rc_88_36 rfl ?_
      refine G_aldR rc_88_37 s0_31 (Or.inl rfl) (by omega) (by omega) (rd_row (r := 29) (i := (x3).toNat) (by omega)) (by omega) ?_
      show GO S0 88 38 [vR 195, vI x1, vI x2, vI x3, vI x4, vI ((I 30 (x3).toNat) - x4)] [vR (29 + 3 + (x3).toNat)] I K
      refine G_loadI rc_88_38 rfl ?_
      refine G_loadR rc_88_40 rfl ?_
      refine G_getR rc_88_41 s0_195 (by decide) rfl (by decide) ?_
      show GO S0 88 44 [vR 195, vI x1, vI x2, vI x3, vI x4, vI ((I 30 (x3).toNat) - x4)] [vR 197, vI x4, vR (29 + 3 + (x3).toNat)] I K
      refine G_getR rc_88_44 s0_197 (by decide) rfl (by decide) ?_
      show GO S0 88 47 [vR 195, vI x1, vI x2, vI x3, vI x4, vI ((I 30 (x3).toNat) - x4)] [vR 199, vI x4, vR (29 + 3 + (x3).toNat)] I K
      refine G_loadI rc_88_47 rfl ?_
      obtain ⟨c6, h⟩ := h
      refine G_aldR rc_88_48 s0_199 (Or.inl rfl) (by omega) (by omega) (rd_row (r := 197) (i := (x1).toNat) (by omega)) (by omega) ?_
      show GO S0 88 49 [vR 195, vI x1, vI x2, vI x3, vI x4, vI ((I 30 (x3).toNat) - x4)] [vR (197 + 3 + (x1).toNat), vI x4, vR (29 + 3 + (x3).toNat)] I K
      refine G_loadI rc_88_49 rfl ?_
      refine G_loadI rc_88_50 rfl ?_
      obtain ⟨c7, h⟩ := h
      refine G_copy rc_88_52 (rd_3 (r := 29) (i := (x3).toNat) (by unfold isRd; decide) (by omega)) (rd_3 (r := 197) (i := (x1).toNat) (by unfold isRd; decide) (by omega)) (by omega) (by omega) (by omega) (by omega) (by omega) (Nat.le_of_ble_eq_true rfl) ?_
      show GO S0 88 55 [vR 195, vI x1, vI x2, vI x3, vI x4, vI ((I 30 (x3).toNat) - x4)] [] (icp I (29 + 3 + (x3).toNat) (x4).toNat (197 + 3 + (x1).toNat) (x2).toNat ((I 30 (x3).toNat) - x4).toNat) K
      have h := h _ rfl
      generalize icp I (29 + 3 + (x3).toNat) (x4).toNat (197 + 3 + (x1).toNat) (x2).toNat ((I 30 (x3).toNat) - x4).toNat = I8 at h ⊢
      show GO S0 88 55 [vR 195, vI x1, vI x2, vI x3, vI x4, vI ((I 30 (x3).toNat) - x4)] [] I8 K
      refine G_loadR rc_88_55 rfl ?_
      refine G_getR rc_88_56 s0_195 (by decide) rfl (by decide) ?_
      show GO S0 88 59 [vR 195, vI x1, vI x2, vI x3, vI x4, vI ((I 30 (x3).toNat) - x4)] [vR 197] I8 K
      refine G_getR rc_88_59 s0_197 (by decide) rfl (by decide) ?_
      show GO S0 88 62 [vR 195, vI x1, vI x2, vI x3, vI x4, vI ((I 30 (x3).toNat) - x4)] [vR 198] I8 K
      refine G_loadI rc_88_62 rfl ?_
      refine G_loadI rc_88_63 rfl ?_
      refine G_loadI rc_88_64 rfl ?_
      refine G_bop (z := x2 + ((I 30 (x3).toNat) - x4)) rc_88_66 (if_pos c4) ?_
      show GO S0 88 67 [vR 195, vI x1, vI x2, vI x3, vI x4, vI ((I 30 (x3).toNat) - x4)] [vI (x2 + ((I 30 (x3).toNat) - x4)), vI x1, vR 198] I8 K
      refine G_ast rc_88_67 s0_198 (by omega) (by omega) (Or.inl rfl) ?_
      show GO S0 88 68 [vR 195, vI x1, vI x2, vI x3, vI x4, vI ((I 30 (x3).toNat) - x4)] [] (iup I8 198 (x1).toNat (x2 + ((I 30 (x3).toNat) - x4))) K
      have h := h _ rfl
      generalize iup I8 198 (x1).toNat (x2 + ((I 30 (x3).toNat) - x4)) = I9 at h ⊢
      exact G_ret0 rc_88_68 h
    · rw [if_neg c5] at h
      show GO S0 88 28 [vR 195, vI x1, vI x2, vI x3, vI x4, vI ((I 30 (x3).toNat) - x4)] [] I K
      exact G_ret0 rc_88_28 h
/-! 89: RoundSlack.gain(IIII)J -/
def D89_0 (x1 : Int) (x2 : Int) (x3 : Int) (x4 : Int) (I : IM) (K : Option AV → IM → Prop) : Prop :=
  CALL S0 82 [vR 195, vI x1, vI x2, vI x3, vI x4] I (fun v I1 => ∃ y2 : Int, v = some (vI y2) ∧ (if y2 = 0 then (K (some (vL (-9223372036854775808))) I1) else (CALL S0 84 [vR 195] I1 (fun v I4 => v = none ∧ CALL S0 85 [vR 195, vI x1, vI x2, vI x3, vI x4] I4 (fun v I5 => ∃ y6 : Int, v = some (vI y6) ∧ (if y6 = 1 then (K (some (vL (I5 195 6))) I5) else (K (some (vL (-9223372036854775808))) I5)))))))
set_option maxRecDepth 10000 in
theorem g89_0 (x1 : Int) (x2 : Int) (x3 : Int) (x4 : Int) (I : IM) (K : Option AV → IM → Prop) (h : D89_0 x1 x2 x3 x4 I K) : GO S0 89 0 [vR 0, vI x1, vI x2, vI x3, vI x4] [] I K := by
  unfold D89_0 at h
  refine G_loadR rc_89_0 rfl ?_
  refine G_getR rc_89_1 s0_0 (by decide) rfl (by decide) ?_
  show GO S0 89 4 [vR 0, vI x1, vI x2, vI x3, vI x4] [vR 195] I K
  refine G_loadI rc_89_4 rfl ?_
  refine G_loadI rc_89_5 rfl ?_
  refine G_loadI rc_89_6 rfl ?_
  refine G_loadI rc_89_7 rfl ?_
  refine G_call (as := [vR 195, vI x1, vI x2, vI x3, vI x4]) (rest := []) rc_89_9 rfl rfl rfl (Nat.le_of_ble_eq_true rfl) (g_recv s0_195 rfl) ?_
  refine GO.imp h (fun v I1 h => ?_)
  obtain ⟨y2, rfl, h⟩ := h
  show GO S0 89 12 [vR 0, vI x1, vI x2, vI x3, vI x4] [vI y2] I1 K
  refine G_i1 (C := ¬ y2 = 0) rc_89_12 rfl (fun c3 => ?_) (fun c3 => ?_)
  · rw [if_neg c3] at h
    show GO S0 89 19 [vR 0, vI x1, vI x2, vI x3, vI x4] [] I1 K
    refine G_loadR rc_89_19 rfl ?_
    refine G_getR rc_89_20 s0_0 (by decide) rfl (by decide) ?_
    show GO S0 89 23 [vR 0, vI x1, vI x2, vI x3, vI x4] [vR 195] I1 K
    refine G_call (as := [vR 195]) (rest := []) rc_89_23 rfl rfl rfl (Nat.le_of_ble_eq_true rfl) (g_recv s0_195 rfl) ?_
    refine GO.imp h (fun v I4 h => ?_)
    obtain ⟨rfl, h⟩ := h
    show GO S0 89 26 [vR 0, vI x1, vI x2, vI x3, vI x4] [] I4 K
    refine G_loadR rc_89_26 rfl ?_
    refine G_getR rc_89_27 s0_0 (by decide) rfl (by decide) ?_
    show GO S0 89 30 [vR 0, vI x1, vI x2, vI x3, vI x4] [vR 195] I4 K
    refine G_loadI rc_89_30 rfl ?_
    refine G_loadI rc_89_31 rfl ?_
    refine G_loadI rc_89_32 rfl ?_
    refine G_loadI rc_89_33 rfl ?_
    refine G_call (as := [vR 195, vI x1, vI x2, vI x3, vI x4]) (rest := []) rc_89_35 rfl rfl rfl (Nat.le_of_ble_eq_true rfl) (g_recv s0_195 rfl) ?_
    refine GO.imp h (fun v I5 h => ?_)
    obtain ⟨y6, rfl, h⟩ := h
    show GO S0 89 38 [vR 0, vI x1, vI x2, vI x3, vI x4] [vI y6] I5 K
    refine G_const rc_89_38 (by decide) ?_
    refine G_i2 (C := ¬ y6 = 1) rc_89_39 rfl (fun c7 => ?_) (fun c7 => ?_)
    · rw [if_neg c7] at h
      show GO S0 89 53 [vR 0, vI x1, vI x2, vI x3, vI x4] [] I5 K
      refine G_lconst rc_89_53 (by decide) ?_
      exact G_retL rc_89_56 h
    · rw [if_pos (Classical.not_not.mp c7)] at h
      show GO S0 89 42 [vR 0, vI x1, vI x2, vI x3, vI x4] [] I5 K
      refine G_loadR rc_89_42 rfl ?_
      refine G_getR rc_89_43 s0_0 (by decide) rfl (by decide) ?_
      show GO S0 89 46 [vR 0, vI x1, vI x2, vI x3, vI x4] [vR 195] I5 K
      refine G_getI rc_89_46 s0_195 (by decide) ?_
      show GO S0 89 49 [vR 0, vI x1, vI x2, vI x3, vI x4] [vI (I5 195 6)] I5 K
      refine G_i2l rc_89_49 ?_
      refine G_goto rc_89_50 ?_
      show GO S0 89 56 [vR 0, vI x1, vI x2, vI x3, vI x4] [vL (I5 195 6)] I5 K
      exact G_retL rc_89_56 h
  · rw [if_pos (Classical.not_not.mp c3)] at h
    show GO S0 89 15 [vR 0, vI x1, vI x2, vI x3, vI x4] [] I1 K
    refine G_lconst rc_89_15 (by decide) ?_
    exact G_retL rc_89_18 h
/-! 90: RoundSlack.move(IIII)I -/
def D90_0 (x1 : Int) (x2 : Int) (x3 : Int) (x4 : Int) (I : IM) (K : Option AV → IM → Prop) : Prop :=
  CALL S0 82 [vR 195, vI x1, vI x2, vI x3, vI x4] I (fun v I1 => ∃ y2 : Int, v = some (vI y2) ∧ (if y2 = 0 then (K (some (vI (-1))) I1) else (CALL S0 84 [vR 195] I1 (fun v I4 => v = none ∧ CALL S0 85 [vR 195, vI x1, vI x2, vI x3, vI x4] I4 (fun v I5 => ∃ y6 : Int, v = some (vI y6) ∧ (if y6 = 1 then (CALL S0 77 [vR 78, vR 29] I5 (fun v I8 => v = none ∧ CALL S0 53 [vR 29, vR 197] I8 (fun v I9 => v = none ∧ K (some (vI y6)) I9))) else (K (some (vI y6)) I5)))))))
set_option maxRecDepth 10000 in
theorem g90_0 (x1 : Int) (x2 : Int) (x3 : Int) (x4 : Int) (I : IM) (K : Option AV → IM → Prop) (h : D90_0 x1 x2 x3 x4 I K) : GO S0 90 0 [vR 0, vI x1, vI x2, vI x3, vI x4, vU] [] I K := by
  unfold D90_0 at h
  refine G_loadR rc_90_0 rfl ?_
  refine G_getR rc_90_1 s0_0 (by decide) rfl (by decide) ?_
  show GO S0 90 4 [vR 0, vI x1, vI x2, vI x3, vI x4, vU] [vR 195] I K
  refine G_loadI rc_90_4 rfl ?_
  refine G_loadI rc_90_5 rfl ?_
  refine G_loadI rc_90_6 rfl ?_
  refine G_loadI rc_90_7 rfl ?_
  refine G_call (as := [vR 195, vI x1, vI x2, vI x3, vI x4]) (rest := []) rc_90_9 rfl rfl rfl (Nat.le_of_ble_eq_true rfl) (g_recv s0_195 rfl) ?_
  refine GO.imp h (fun v I1 h => ?_)
  obtain ⟨y2, rfl, h⟩ := h
  show GO S0 90 12 [vR 0, vI x1, vI x2, vI x3, vI x4, vU] [vI y2] I1 K
  refine G_i1 (C := ¬ y2 = 0) rc_90_12 rfl (fun c3 => ?_) (fun c3 => ?_)
  · rw [if_neg c3] at h
    show GO S0 90 17 [vR 0, vI x1, vI x2, vI x3, vI x4, vU] [] I1 K
    refine G_loadR rc_90_17 rfl ?_
    refine G_getR rc_90_18 s0_0 (by decide) rfl (by decide) ?_
    show GO S0 90 21 [vR 0, vI x1, vI x2, vI x3, vI x4, vU] [vR 195] I1 K
    refine G_call (as := [vR 195]) (rest := []) rc_90_21 rfl rfl rfl (Nat.le_of_ble_eq_true rfl) (g_recv s0_195 rfl) ?_
    refine GO.imp h (fun v I4 h => ?_)
    obtain ⟨rfl, h⟩ := h
    show GO S0 90 24 [vR 0, vI x1, vI x2, vI x3, vI x4, vU] [] I4 K
    refine G_loadR rc_90_24 rfl ?_
    refine G_getR rc_90_25 s0_0 (by decide) rfl (by decide) ?_
    show GO S0 90 28 [vR 0, vI x1, vI x2, vI x3, vI x4, vU] [vR 195] I4 K
    refine G_loadI rc_90_28 rfl ?_
    refine G_loadI rc_90_29 rfl ?_
    refine G_loadI rc_90_30 rfl ?_
    refine G_loadI rc_90_31 rfl ?_
    refine G_call (as := [vR 195, vI x1, vI x2, vI x3, vI x4]) (rest := []) rc_90_33 rfl rfl rfl (Nat.le_of_ble_eq_true rfl) (g_recv s0_195 rfl) ?_
    refine GO.imp h (fun v I5 h => ?_)
    obtain ⟨y6, rfl, h⟩ := h
    show GO S0 90 36 [vR 0, vI x1, vI x2, vI x3, vI x4, vU] [vI y6] I5 K
    refine G_storeI rc_90_36 (Nat.le_of_ble_eq_true rfl) ?_
    show GO S0 90 38 [vR 0, vI x1, vI x2, vI x3, vI x4, vI y6] [] I5 K
    refine G_loadI rc_90_38 rfl ?_
    refine G_const rc_90_40 (by decide) ?_
    refine G_i2 (C := ¬ y6 = 1) rc_90_41 rfl (fun c7 => ?_) (fun c7 => ?_)
    · rw [if_neg c7] at h
      show GO S0 90 69 [vR 0, vI x1, vI x2, vI x3, vI x4, vI y6] [] I5 K
      refine G_loadI rc_90_69 rfl ?_
      exact G_retI rc_90_71 (Or.inl rfl) h
    · rw [if_pos (Classical.not_not.mp c7)] at h
      show GO S0 90 44 [vR 0, vI x1, vI x2, vI x3, vI x4, vI y6] [] I5 K
      refine G_loadR rc_90_44 rfl ?_
      refine G_getR rc_90_45 s0_0 (by decide) rfl (by decide) ?_
      show GO S0 90 48 [vR 0, vI x1, vI x2, vI x3, vI x4, vI y6] [vR 78] I5 K
      refine G_loadR rc_90_48 rfl ?_
      refine G_getR rc_90_49 s0_0 (by decide) rfl (by decide) ?_
      show GO S0 90 52 [vR 0, vI x1, vI x2, vI x3, vI x4, vI y6] [vR 29, vR 78] I5 K
      refine G_call (as := [vR 78, vR 29]) (rest := []) rc_90_52 rfl rfl rfl (Nat.le_of_ble_eq_true rfl) (g_recv s0_78 rfl) ?_
      refine GO.imp h (fun v I8 h => ?_)
      obtain ⟨rfl, h⟩ := h
      show GO S0 90 55 [vR 0, vI x1, vI x2, vI x3, vI x4, vI y6] [] I8 K
      refine G_loadR rc_90_55 rfl ?_
      refine G_getR rc_90_56 s0_0 (by decide) rfl (by decide) ?_
      show GO S0 90 59 [vR 0, vI x1, vI x2, vI x3, vI x4, vI y6] [vR 29] I8 K
      refine G_loadR rc_90_59 rfl ?_
      refine G_getR rc_90_60 s0_0 (by decide) rfl (by decide) ?_
      show GO S0 90 63 [vR 0, vI x1, vI x2, vI x3, vI x4, vI y6] [vR 195, vR 29] I8 K
      refine G_getR rc_90_63 s0_195 (by decide) rfl (by decide) ?_
      show GO S0 90 66 [vR 0, vI x1, vI x2, vI x3, vI x4, vI y6] [vR 197, vR 29] I8 K
      refine G_call (as := [vR 29, vR 197]) (rest := []) rc_90_66 rfl rfl rfl (Nat.le_of_ble_eq_true rfl) (g_recv s0_29 rfl) ?_
      refine GO.imp h (fun v I9 h => ?_)
      obtain ⟨rfl, h⟩ := h
      show GO S0 90 69 [vR 0, vI x1, vI x2, vI x3, vI x4, vI y6] [] I9 K
      refine G_loadI rc_90_69 rfl ?_
      exact G_retI rc_90_71 (Or.inl rfl) h
  · rw [if_pos (Classical.not_not.mp c3)] at h
    show GO S0 90 15 [vR 0, vI x1, vI x2, vI x3, vI x4, vU] [] I1 K
    refine G_const rc_90_15 (by decide) ?_
    exact G_retI rc_90_16 (Or.inl rfl) h
/-! 91: RoundSlack.best(II)I -/
def D91_0 (x1 : Int) (x2 : Int) (I : IM) (K : Option AV → IM → Prop) : Prop :=
  CALL S0 14 [vI x1, vI 0, vI 3] I (fun v I1 => ∃ y2 : Int, v = some (vI y2) ∧ (if y2 = 0 then (K (some (vI (-1))) I1) else (CALL S0 14 [vI x2, vI 0, vI 3] I1 (fun v I4 => ∃ y5 : Int, v = some (vI y5) ∧ (if y5 = 0 then (K (some (vI (-1))) I4) else (CALL S0 92 [vR 195, vI x1] I4 (fun v I7 => v = none ∧ (if I7 195 11 = 0 then (K (some (vI (-5))) I7) else ((if x2 = 0 then (K (some (vI (I7 195 8))) I7) else (if x2 = 1 then (K (some (vI (I7 195 9))) I7) else (if x2 = 2 then (K (some (vI (I7 195 10))) I7) else (K (some (vI (I7 195 11))) I7)))))))))))))
set_option maxRecDepth 10000 in
theorem g91_0 (x1 : Int) (x2 : Int) (I : IM) (K : Option AV → IM → Prop) (h : D91_0 x1 x2 I K) : GO S0 91 0 [vR 0, vI x1, vI x2] [] I K := by
  unfold D91_0 at h
  refine G_loadI rc_91_0 rfl ?_
  refine G_const rc_91_1 (by decide) ?_
  refine G_const rc_91_2 (by decide) ?_
  refine G_call (as := [vI x1, vI 0, vI 3]) (rest := []) rc_91_3 rfl rfl rfl (Nat.le_of_ble_eq_true rfl) rfl ?_
  refine GO.imp h (fun v I1 h => ?_)
  obtain ⟨y2, rfl, h⟩ := h
  show GO S0 91 6 [vR 0, vI x1, vI x2] [vI y2] I1 K
  refine G_i1 (C := y2 = 0) rc_91_6 rfl (fun c3 => ?_) (fun c3 => ?_)
  · rw [if_pos c3] at h
    show GO S0 91 18 [vR 0, vI x1, vI x2] [] I1 K
    refine G_const rc_91_18 (by decide) ?_
    exact G_retI rc_91_19 (Or.inl rfl) h
  · rw [if_neg c3] at h
    show GO S0 91 9 [vR 0, vI x1, vI x2] [] I1 K
    refine G_loadI rc_91_9 rfl ?_
    refine G_const rc_91_10 (by decide) ?_
    refine G_const rc_91_11 (by decide) ?_
    refine G_call (as := [vI x2, vI 0, vI 3]) (rest := []) rc_91_12 rfl rfl rfl (Nat.le_of_ble_eq_true rfl) rfl ?_
    refine GO.imp h (fun v I4 h => ?_)
    obtain ⟨y5, rfl, h⟩ := h
    show GO S0 91 15 [vR 0, vI x1, vI x2] [vI y5] I4 K
    refine G_i1 (C := ¬ y5 = 0) rc_91_15 rfl (fun c6 => ?_) (fun c6 => ?_)
    · rw [if_neg c6] at h
      show GO S0 91 20 [vR 0, vI x1, vI x2] [] I4 K
      refine G_loadR rc_91_20 rfl ?_
      refine G_getR rc_91_21 s0_0 (by decide) rfl (by decide) ?_
      show GO S0 91 24 [vR 0, vI x1, vI x2] [vR 195] I4 K
      refine G_loadI rc_91_24 rfl ?_
      refine G_call (as := [vR 195, vI x1]) (rest := []) rc_91_25 rfl rfl rfl (Nat.le_of_ble_eq_true rfl) (g_recv s0_195 rfl) ?_
      refine GO.imp h (fun v I7 h => ?_)
      obtain ⟨rfl, h⟩ := h
      show GO S0 91 28 [vR 0, vI x1, vI x2] [] I7 K
      refine G_loadR rc_91_28 rfl ?_
      refine G_getR rc_91_29 s0_0 (by decide) rfl (by decide) ?_
      show GO S0 91 32 [vR 0, vI x1, vI x2] [vR 195] I7 K
      refine G_getI rc_91_32 s0_195 (by decide) ?_
      show GO S0 91 35 [vR 0, vI x1, vI x2] [vI (I7 195 11)] I7 K
      refine G_i1 (C := ¬ I7 195 11 = 0) rc_91_35 rfl (fun c8 => ?_) (fun c8 => ?_)
      · rw [if_neg c8] at h
        show GO S0 91 41 [vR 0, vI x1, vI x2] [] I7 K
        refine G_loadI rc_91_41 rfl ?_
        refine G_switch rc_91_42 ?_
        show GO S0 91 (if x2 = 0 then 68 else if x2 = 1 then 76 else if x2 = 2 then 84 else 92) [vR 0, vI x1, vI x2] [] I7 K
        by_cases c9 : x2 = 0
        · rw [if_pos c9] at h
          rw [if_pos c9]
          show GO S0 91 68 [vR 0, vI x1, vI x2] [] I7 K
          refine G_loadR rc_91_68 rfl ?_
          refine G_getR rc_91_69 s0_0 (by decide) rfl (by decide) ?_
          show GO S0 91 72 [vR 0, vI x1, vI x2] [vR 195] I7 K
          refine G_getI rc_91_72 s0_195 (by decide) ?_
          show GO S0 91 75 [vR 0, vI x1, vI x2] [vI (I7 195 8)] I7 K
          exact G_retI rc_91_75 (Or.inl rfl) h
        · rw [if_neg c9] at h
          rw [if_neg c9]
          by_cases c10 : x2 = 1
          · rw [if_pos c10] at h
            rw [if_pos c10]
            show GO S0 91 76 [vR 0, vI x1, vI x2] [] I7 K
            refine G_loadR rc_91_76 rfl ?_
            refine G_getR rc_91_77 s0_0 (by decide) rfl (by decide) ?_
            show GO S0 91 80 [vR 0, vI x1, vI x2] [vR 195] I7 K
            refine G_getI rc_91_80 s0_195 (by decide) ?_
            show GO S0 91 83 [vR 0, vI x1, vI x2] [vI (I7 195 9)] I7 K
            exact G_retI rc_91_83 (Or.inl rfl) h
          · rw [if_neg c10] at h
            rw [if_neg c10]
            by_cases c11 : x2 = 2
            · rw [if_pos c11] at h
              rw [if_pos c11]
              show GO S0 91 84 [vR 0, vI x1, vI x2] [] I7 K
              refine G_loadR rc_91_84 rfl ?_
              refine G_getR rc_91_85 s0_0 (by decide) rfl (by decide) ?_
              show GO S0 91 88 [vR 0, vI x1, vI x2] [vR 195] I7 K
              refine G_getI rc_91_88 s0_195 (by decide) ?_
              show GO S0 91 91 [vR 0, vI x1, vI x2] [vI (I7 195 10)] I7 K
              exact G_retI rc_91_91 (Or.inl rfl) h
            · rw [if_neg c11] at h
              rw [if_neg c11]
              show GO S0 91 92 [vR 0, vI x1, vI x2] [] I7 K
              refine G_loadR rc_91_92 rfl ?_
              refine G_getR rc_91_93 s0_0 (by decide) rfl (by decide) ?_
              show GO S0 91 96 [vR 0, vI x1, vI x2] [vR 195] I7 K
              refine G_getI rc_91_96 s0_195 (by decide) ?_
              show GO S0 91 99 [vR 0, vI x1, vI x2] [vI (I7 195 11)] I7 K
              exact G_retI rc_91_99 (Or.inl rfl) h
      · rw [if_pos (Classical.not_not.mp c8)] at h
        show GO S0 91 38 [vR 0, vI x1, vI x2] [] I7 K
        refine G_const rc_91_38 (by decide) ?_
        exact G_retI rc_91_40 (Or.inl rfl) h
    · rw [if_pos (Classical.not_not.mp c6)] at h
      show GO S0 91 18 [vR 0, vI x1, vI x2] [] I4 K
      refine G_const rc_91_18 (by decide) ?_
      exact G_retI rc_91_19 (Or.inl rfl) h
/-! 92: RoundSlack$Moves.scan(I)V -/
def D92_42 (x1 : Int) (x2 : Int) (x3 : Int) (x4 : Int) (x5 : Int) (I : IM) (K : Option AV → IM → Prop) : Prop :=
  (if x4 < x5 then ((inR (x3 + 1)) ∧ GO S0 92 24 [vR 195, vI x1, vI x2, vI (x3 + 1), vI x4, vI x5] [] I K) else (CALL S0 82 [vR 195, vI x1, vI x2, vI x3, vI x5] I (fun v I3 => ∃ y4 : Int, v = some (vI y4) ∧ (if y4 = 0 then ((inR (x5 + 1)) ∧ GO S0 92 42 [vR 195, vI x1, vI x2, vI x3, vI x4, vI (x5 + 1)] [] I3 K) else (CALL S0 85 [vR 195, vI x1, vI x2, vI x3, vI x5] I3 (fun v I7 => ∃ y8 : Int, v = some (vI y8) ∧ (if y8 = 1 then (CALL S0 94 [vR 195, vI x2, vI x3, vI x5] I7 (fun v I11 => v = none ∧ (inR (x5 + 1)) ∧ GO S0 92 42 [vR 195, vI x1, vI x2, vI x3, vI x4, vI (x5 + 1)] [] I11 K)) else ((inR (x5 + 1)) ∧ GO S0 92 42 [vR 195, vI x1, vI x2, vI x3, vI x4, vI (x5 + 1)] [] I7 K))))))))
set_option maxRecDepth 10000 in
theorem g92_42 (x1 : Int) (x2 : Int) (x3 : Int) (x4 : Int) (x5 : Int) (I : IM) (K : Option AV → IM → Prop) (h : D92_42 x1 x2 x3 x4 x5 I K) : GO S0 92 42 [vR 195, vI x1, vI x2, vI x3, vI x4, vI x5] [] I K := by
  unfold D92_42 at h
  refine G_loadI rc_92_42 rfl ?_
  refine G_loadI rc_92_44 rfl ?_
  refine G_i2 (C := x4 < x5) rc_92_46 rfl (fun c1 => ?_) (fun c1 => ?_)
  · rw [if_pos c1] at h
    show GO S0 92 88 [vR 195, vI x1, vI x2, vI x3, vI x4, vI x5] [] I K
    obtain ⟨c2, h⟩ := h
    refine G_iinc rc_92_88 rfl c2 ?_
    show GO S0 92 91 [vR 195, vI x1, vI x2, vI (x3 + 1), vI x4, vI x5] [] I K
    refine G_goto rc_92_91 ?_
    show GO S0 92 24 [vR 195, vI x1, vI x2, vI (x3 + 1), vI x4, vI x5] [] I K
    exact h
  · rw [if_neg c1] at h
    show GO S0 92 49 [vR 195, vI x1, vI x2, vI x3, vI x4, vI x5] [] I K
    refine G_loadR rc_92_49 rfl ?_
    refine G_loadI rc_92_50 rfl ?_
    refine G_loadI rc_92_51 rfl ?_
    refine G_loadI rc_92_52 rfl ?_
    refine G_loadI rc_92_53 rfl ?_
    refine G_call (as := [vR 195, vI x1, vI x2, vI x3, vI x5]) (rest := []) rc_92_55 rfl rfl rfl (Nat.le_of_ble_eq_true rfl) (g_recv s0_195 rfl) ?_
    refine GO.imp h (fun v I3 h => ?_)
    obtain ⟨y4, rfl, h⟩ := h
    show GO S0 92 58 [vR 195, vI x1, vI x2, vI x3, vI x4, vI x5] [vI y4] I3 K
    refine G_i1 (C := y4 = 0) rc_92_58 rfl (fun c5 => ?_) (fun c5 => ?_)
    · rw [if_pos c5] at h
      show GO S0 92 82 [vR 195, vI x1, vI x2, vI x3, vI x4, vI x5] [] I3 K
      obtain ⟨c6, h⟩ := h
      refine G_iinc rc_92_82 rfl c6 ?_
      show GO S0 92 85 [vR 195, vI x1, vI x2, vI x3, vI x4, vI (x5 + 1)] [] I3 K
      refine G_goto rc_92_85 ?_
      show GO S0 92 42 [vR 195, vI x1, vI x2, vI x3, vI x4, vI (x5 + 1)] [] I3 K
      exact h
    · rw [if_neg c5] at h
      show GO S0 92 61 [vR 195, vI x1, vI x2, vI x3, vI x4, vI x5] [] I3 K
      refine G_loadR rc_92_61 rfl ?_
      refine G_loadI rc_92_62 rfl ?_
      refine G_loadI rc_92_63 rfl ?_
      refine G_loadI rc_92_64 rfl ?_
      refine G_loadI rc_92_65 rfl ?_
      refine G_call (as := [vR 195, vI x1, vI x2, vI x3, vI x5]) (rest := []) rc_92_67 rfl rfl rfl (Nat.le_of_ble_eq_true rfl) (g_recv s0_195 rfl) ?_
      refine GO.imp h (fun v I7 h => ?_)
      obtain ⟨y8, rfl, h⟩ := h
      show GO S0 92 70 [vR 195, vI x1, vI x2, vI x3, vI x4, vI x5] [vI y8] I7 K
      refine G_const rc_92_70 (by decide) ?_
      refine G_i2 (C := ¬ y8 = 1) rc_92_71 rfl (fun c9 => ?_) (fun c9 => ?_)
      · rw [if_neg c9] at h
        show GO S0 92 82 [vR 195, vI x1, vI x2, vI x3, vI x4, vI x5] [] I7 K
        obtain ⟨c10, h⟩ := h
        refine G_iinc rc_92_82 rfl c10 ?_
        show GO S0 92 85 [vR 195, vI x1, vI x2, vI x3, vI x4, vI (x5 + 1)] [] I7 K
        refine G_goto rc_92_85 ?_
        show GO S0 92 42 [vR 195, vI x1, vI x2, vI x3, vI x4, vI (x5 + 1)] [] I7 K
        exact h
      · rw [if_pos (Classical.not_not.mp c9)] at h
        show GO S0 92 74 [vR 195, vI x1, vI x2, vI x3, vI x4, vI x5] [] I7 K
        refine G_loadR rc_92_74 rfl ?_
        refine G_loadI rc_92_75 rfl ?_
        refine G_loadI rc_92_76 rfl ?_
        refine G_loadI rc_92_77 rfl ?_
        refine G_call (as := [vR 195, vI x2, vI x3, vI x5]) (rest := []) rc_92_79 rfl rfl rfl (Nat.le_of_ble_eq_true rfl) (g_recv s0_195 rfl) ?_
        refine GO.imp h (fun v I11 h => ?_)
        obtain ⟨rfl, h⟩ := h
        show GO S0 92 82 [vR 195, vI x1, vI x2, vI x3, vI x4, vI x5] [] I11 K
        obtain ⟨c12, h⟩ := h
        refine G_iinc rc_92_82 rfl c12 ?_
        show GO S0 92 85 [vR 195, vI x1, vI x2, vI x3, vI x4, vI (x5 + 1)] [] I11 K
        refine G_goto rc_92_85 ?_
        show GO S0 92 42 [vR 195, vI x1, vI x2, vI x3, vI x4, vI (x5 + 1)] [] I11 K
        exact h
def D92_24 (x1 : Int) (x2 : Int) (x3 : Int) (u4 : AV) (u5 : AV) (I : IM) (K : Option AV → IM → Prop) : Prop :=
  (if (12 : Int) ≤ x3 then ((inR (x2 + 1)) ∧ GO S0 92 16 [vR 195, vI x1, vI (x2 + 1), vI x3, u4, u5] [] I K) else (CALL S0 93 [vR 195, vI x1, vI x2, vI x3] I (fun v I3 => ∃ y4 : Int, v = some (vI y4) ∧ GO S0 92 42 [vR 195, vI x1, vI x2, vI x3, vI y4, vI 0] [] I3 K)))
set_option maxRecDepth 10000 in
theorem g92_24 (x1 : Int) (x2 : Int) (x3 : Int) (u4 : AV) (u5 : AV) (I : IM) (K : Option AV → IM → Prop) (h : D92_24 x1 x2 x3 u4 u5 I K) : GO S0 92 24 [vR 195, vI x1, vI x2, vI x3, u4, u5] [] I K := by
  unfold D92_24 at h
  refine G_loadI rc_92_24 rfl ?_
  refine G_const rc_92_25 (by decide) ?_
  refine G_i2 (C := (12 : Int) ≤ x3) rc_92_27 rfl (fun c1 => ?_) (fun c1 => ?_)
  · rw [if_pos c1] at h
    show GO S0 92 94 [vR 195, vI x1, vI x2, vI x3, u4, u5] [] I K
    obtain ⟨c2, h⟩ := h
    refine G_iinc rc_92_94 rfl c2 ?_
    show GO S0 92 97 [vR 195, vI x1, vI (x2 + 1), vI x3, u4, u5] [] I K
    refine G_goto rc_92_97 ?_
    show GO S0 92 16 [vR 195, vI x1, vI (x2 + 1), vI x3, u4, u5] [] I K
    exact h
  · rw [if_neg c1] at h
    show GO S0 92 30 [vR 195, vI x1, vI x2, vI x3, u4, u5] [] I K
    refine G_loadR rc_92_30 rfl ?_
    refine G_loadI rc_92_31 rfl ?_
    refine G_loadI rc_92_32 rfl ?_
    refine G_loadI rc_92_33 rfl ?_
    refine G_call (as := [vR 195, vI x1, vI x2, vI x3]) (rest := []) rc_92_34 rfl rfl rfl (Nat.le_of_ble_eq_true rfl) (g_recv s0_195 rfl) ?_
    refine GO.imp h (fun v I3 h => ?_)
    obtain ⟨y4, rfl, h⟩ := h
    show GO S0 92 37 [vR 195, vI x1, vI x2, vI x3, u4, u5] [vI y4] I3 K
    refine G_storeI rc_92_37 (Nat.le_of_ble_eq_true rfl) ?_
    show GO S0 92 39 [vR 195, vI x1, vI x2, vI x3, vI y4, u5] [] I3 K
    refine G_const rc_92_39 (by decide) ?_
    refine G_storeI rc_92_40 (Nat.le_of_ble_eq_true rfl) ?_
    show GO S0 92 42 [vR 195, vI x1, vI x2, vI x3, vI y4, vI 0] [] I3 K
    exact h
def D92_16 (x1 : Int) (x2 : Int) (u3 : AV) (u4 : AV) (u5 : AV) (I : IM) (K : Option AV → IM → Prop) : Prop :=
  (if (12 : Int) ≤ x2 then (K none I) else (GO S0 92 24 [vR 195, vI x1, vI x2, vI 0, u4, u5] [] I K))
set_option maxRecDepth 10000 in
theorem g92_16 (x1 : Int) (x2 : Int) (u3 : AV) (u4 : AV) (u5 : AV) (I : IM) (K : Option AV → IM → Prop) (h : D92_16 x1 x2 u3 u4 u5 I K) : GO S0 92 16 [vR 195, vI x1, vI x2, u3, u4, u5] [] I K := by
  unfold D92_16 at h
  refine G_loadI rc_92_16 rfl ?_
  refine G_const rc_92_17 (by decide) ?_
  refine G_i2 (C := (12 : Int) ≤ x2) rc_92_19 rfl (fun c1 => ?_) (fun c1 => ?_)
  · rw [if_pos c1] at h
    show GO S0 92 100 [vR 195, vI x1, vI x2, u3, u4, u5] [] I K
    exact G_ret0 rc_92_100 h
  · rw [if_neg c1] at h
    show GO S0 92 22 [vR 195, vI x1, vI x2, u3, u4, u5] [] I K
    refine G_const rc_92_22 (by decide) ?_
    refine G_storeI rc_92_23 (Nat.le_of_ble_eq_true rfl) ?_
    show GO S0 92 24 [vR 195, vI x1, vI x2, vI 0, u4, u5] [] I K
    exact h
def D92_0 (x1 : Int) (I : IM) (K : Option AV → IM → Prop) : Prop :=
  CALL S0 84 [vR 195] I (fun v I1 => v = none ∧ ∀ I2 : IM, I2 = iup I1 195 7 0 → ∀ I3 : IM, I3 = iup I2 195 11 0 → GO S0 92 16 [vR 195, vI x1, vI 0, vU, vU, vU] [] I3 K)
set_option maxRecDepth 10000 in
theorem g92_0 (x1 : Int) (I : IM) (K : Option AV → IM → Prop) (h : D92_0 x1 I K) : GO S0 92 0 [vR 195, vI x1, vU, vU, vU, vU] [] I K := by
  unfold D92_0 at h
  refine G_loadR rc_92_0 rfl ?_
  refine G_call (as := [vR 195]) (rest := []) rc_92_1 rfl rfl rfl (Nat.le_of_ble_eq_true rfl) (g_recv s0_195 rfl) ?_
  refine GO.imp h (fun v I1 h => ?_)
  obtain ⟨rfl, h⟩ := h
  show GO S0 92 4 [vR 195, vI x1, vU, vU, vU, vU] [] I1 K
  refine G_loadR rc_92_4 rfl ?_
  refine G_const rc_92_5 (by decide) ?_
  refine G_putI rc_92_6 s0_195 (by decide) (Or.inl rfl) ?_
  show GO S0 92 9 [vR 195, vI x1, vU, vU, vU, vU] [] (iup I1 195 7 0) K
  have h := h _ rfl
  generalize iup I1 195 7 0 = I2 at h ⊢
  refine G_loadR rc_92_9 rfl ?_
  refine G_const rc_92_10 (by decide) ?_
  refine G_putI rc_92_11 s0_195 (by decide) (Or.inl rfl) ?_
  show GO S0 92 14 [vR 195, vI x1, vU, vU, vU, vU] [] (iup I2 195 11 0) K
  have h := h _ rfl
  generalize iup I2 195 11 0 = I3 at h ⊢
  refine G_const rc_92_14 (by decide) ?_
  refine G_storeI rc_92_15 (Nat.le_of_ble_eq_true rfl) ?_
  show GO S0 92 16 [vR 195, vI x1, vI 0, vU, vU, vU] [] I3 K
  exact h
/-! 93: RoundSlack$Moves.mostC(III)I -/
def D93_0 (x1 : Int) (x2 : Int) (x3 : Int) (I : IM) (K : Option AV → IM → Prop) : Prop :=
  (if x1 = 0 then (CALL S0 24 [vI x3] I (fun v I2 => ∃ y3 : Int, v = some (vI y3) ∧ (if y3 = 0 then (K (some (vI (-1))) I2) else (CALL S0 22 [vR 29, vI x2] I2 (fun v I5 => ∃ y6 : Int, v = some (vI y6) ∧ (if y6 = -1 then (K (some (vI (-1))) I5) else (CALL S0 83 [vR 195, vI x2, vI x3] I5 (fun v I8 => ∃ y9 : Int, v = some (vI y9) ∧ K (some (vI y9)) I8)))))))) else (if x1 = 1 then ((if x3 ≤ x2 then (K (some (vI (-1))) I) else (K (some (vI 0)) I))) else (if x1 = 2 then ((if x3 ≤ x2 then (K (some (vI (-1))) I) else (CALL S0 24 [vI x3] I (fun v I14 => ∃ y15 : Int, v = some (vI y15) ∧ (if y15 = 0 then (K (some (vI (-1))) I14) else ((0 ≤ x2 ∧ x2 < 4) ∧ (0 ≤ x3 ∧ x3 < 4) ∧ (inR (16 * (I14 30 (x3).toNat))) ∧ (inR ((I14 30 (x2).toNat) + (16 * (I14 30 (x3).toNat)))) ∧ K (some (vI ((I14 30 (x2).toNat) + (16 * (I14 30 (x3).toNat))))) I14)))))) else (CALL S0 24 [vI x2] I (fun v I21 => ∃ y22 : Int, v = some (vI y22) ∧ (if y22 = 0 then (K (some (vI (-1))) I21) else ((0 ≤ x2 ∧ x2 < 4) ∧ (inR ((I21 30 (x2).toNat) - 1)) ∧ K (some (vI ((I21 30 (x2).toNat) - 1))) I21)))))))
set_option maxRecDepth 10000 in
theorem g93_0 (x1 : Int) (x2 : Int) (x3 : Int) (I : IM) (K : Option AV → IM → Prop) (h : D93_0 x1 x2 x3 I K) : GO S0 93 0 [vR 195, vI x1, vI x2, vI x3] [] I K := by
  unfold D93_0 at h
  refine G_loadI rc_93_0 rfl ?_
  refine G_switch rc_93_1 ?_
  show GO S0 93 (if x1 = 0 then 28 else if x1 = 1 then 58 else if x1 = 2 then 69 else 108) [vR 195, vI x1, vI x2, vI x3] [] I K
  by_cases c1 : x1 = 0
  · rw [if_pos c1] at h
    rw [if_pos c1]
    show GO S0 93 28 [vR 195, vI x1, vI x2, vI x3] [] I K
    refine G_loadI rc_93_28 rfl ?_
    refine G_call (as := [vI x3]) (rest := []) rc_93_29 rfl rfl rfl (Nat.le_of_ble_eq_true rfl) rfl ?_
    refine GO.imp h (fun v I2 h => ?_)
    obtain ⟨y3, rfl, h⟩ := h
    show GO S0 93 32 [vR 195, vI x1, vI x2, vI x3] [vI y3] I2 K
    refine G_i1 (C := y3 = 0) rc_93_32 rfl (fun c4 => ?_) (fun c4 => ?_)
    · rw [if_pos c4] at h
      show GO S0 93 56 [vR 195, vI x1, vI x2, vI x3] [] I2 K
      refine G_const rc_93_56 (by decide) ?_
      exact G_retI rc_93_57 (Or.inl rfl) h
    · rw [if_neg c4] at h
      show GO S0 93 35 [vR 195, vI x1, vI x2, vI x3] [] I2 K
      refine G_loadR rc_93_35 rfl ?_
      refine G_getR rc_93_36 s0_195 (by decide) rfl (by decide) ?_
      show GO S0 93 39 [vR 195, vI x1, vI x2, vI x3] [vR 29] I2 K
      refine G_loadI rc_93_39 rfl ?_
      refine G_call (as := [vR 29, vI x2]) (rest := []) rc_93_40 rfl rfl rfl (Nat.le_of_ble_eq_true rfl) (g_recv s0_29 rfl) ?_
      refine GO.imp h (fun v I5 h => ?_)
      obtain ⟨y6, rfl, h⟩ := h
      show GO S0 93 43 [vR 195, vI x1, vI x2, vI x3] [vI y6] I5 K
      refine G_const rc_93_43 (by decide) ?_
      refine G_i2 (C := y6 = -1) rc_93_44 rfl (fun c7 => ?_) (fun c7 => ?_)
      · rw [if_pos c7] at h
        show GO S0 93 56 [vR 195, vI x1, vI x2, vI x3] [] I5 K
        refine G_const rc_93_56 (by decide) ?_
        exact G_retI rc_93_57 (Or.inl rfl) h
      · rw [if_neg c7] at h
        show GO S0 93 47 [vR 195, vI x1, vI x2, vI x3] [] I5 K
        refine G_loadR rc_93_47 rfl ?_
        refine G_loadI rc_93_48 rfl ?_
        refine G_loadI rc_93_49 rfl ?_
        refine G_call (as := [vR 195, vI x2, vI x3]) (rest := []) rc_93_50 rfl rfl rfl (Nat.le_of_ble_eq_true rfl) (g_recv s0_195 rfl) ?_
        refine GO.imp h (fun v I8 h => ?_)
        obtain ⟨y9, rfl, h⟩ := h
        show GO S0 93 53 [vR 195, vI x1, vI x2, vI x3] [vI y9] I8 K
        refine G_goto rc_93_53 ?_
        show GO S0 93 57 [vR 195, vI x1, vI x2, vI x3] [vI y9] I8 K
        exact G_retI rc_93_57 (Or.inl rfl) h
  · rw [if_neg c1] at h
    rw [if_neg c1]
    by_cases c10 : x1 = 1
    · rw [if_pos c10] at h
      rw [if_pos c10]
      show GO S0 93 58 [vR 195, vI x1, vI x2, vI x3] [] I K
      refine G_loadI rc_93_58 rfl ?_
      refine G_loadI rc_93_59 rfl ?_
      refine G_i2 (C := x3 ≤ x2) rc_93_60 rfl (fun c11 => ?_) (fun c11 => ?_)
      · rw [if_pos c11] at h
        show GO S0 93 67 [vR 195, vI x1, vI x2, vI x3] [] I K
        refine G_const rc_93_67 (by decide) ?_
        exact G_retI rc_93_68 (Or.inl rfl) h
      · rw [if_neg c11] at h
        show GO S0 93 63 [vR 195, vI x1, vI x2, vI x3] [] I K
        refine G_const rc_93_63 (by decide) ?_
        refine G_goto rc_93_64 ?_
        show GO S0 93 68 [vR 195, vI x1, vI x2, vI x3] [vI 0] I K
        exact G_retI rc_93_68 (Or.inl rfl) h
    · rw [if_neg c10] at h
      rw [if_neg c10]
      by_cases c12 : x1 = 2
      · rw [if_pos c12] at h
        rw [if_pos c12]
        show GO S0 93 69 [vR 195, vI x1, vI x2, vI x3] [] I K
        refine G_loadI rc_93_69 rfl ?_
        refine G_loadI rc_93_70 rfl ?_
        refine G_i2 (C := x3 ≤ x2) rc_93_71 rfl (fun c13 => ?_) (fun c13 => ?_)
        · rw [if_pos c13] at h
          show GO S0 93 106 [vR 195, vI x1, vI x2, vI x3] [] I K
          refine G_const rc_93_106 (by decide) ?_
          exact G_retI rc_93_107 (Or.inl rfl) h
        · rw [if_neg c13] at h
          show GO S0 93 74 [vR 195, vI x1, vI x2, vI x3] [] I K
          refine G_loadI rc_93_74 rfl ?_
          refine G_call (as := [vI x3]) (rest := []) rc_93_75 rfl rfl rfl (Nat.le_of_ble_eq_true rfl) rfl ?_
          refine GO.imp h (fun v I14 h => ?_)
          obtain ⟨y15, rfl, h⟩ := h
          show GO S0 93 78 [vR 195, vI x1, vI x2, vI x3] [vI y15] I14 K
          refine G_i1 (C := y15 = 0) rc_93_78 rfl (fun c16 => ?_) (fun c16 => ?_)
          · rw [if_pos c16] at h
            show GO S0 93 106 [vR 195, vI x1, vI x2, vI x3] [] I14 K
            refine G_const rc_93_106 (by decide) ?_
            exact G_retI rc_93_107 (Or.inl rfl) h
          · rw [if_neg c16] at h
            show GO S0 93 81 [vR 195, vI x1, vI x2, vI x3] [] I14 K
            refine G_loadR rc_93_81 rfl ?_
            refine G_getR rc_93_82 s0_195 (by decide) rfl (by decide) ?_
            show GO S0 93 85 [vR 195, vI x1, vI x2, vI x3] [vR 29] I14 K
            refine G_getR rc_93_85 s0_29 (by decide) rfl (by decide) ?_
            show GO S0 93 88 [vR 195, vI x1, vI x2, vI x3] [vR 30] I14 K
            refine G_loadI rc_93_88 rfl ?_
            obtain ⟨c17, h⟩ := h
            refine G_ald rc_93_89 s0_30 (by omega) (by omega) ?_
            show GO S0 93 90 [vR 195, vI x1, vI x2, vI x3] [vI (I14 30 (x2).toNat)] I14 K
            refine G_const rc_93_90 (by decide) ?_
            refine G_loadR rc_93_92 rfl ?_
            refine G_getR rc_93_93 s0_195 (by decide) rfl (by decide) ?_
            show GO S0 93 96 [vR 195, vI x1, vI x2, vI x3] [vR 29, vI 16, vI (I14 30 (x2).toNat)] I14 K
            refine G_getR rc_93_96 s0_29 (by decide) rfl (by decide) ?_
            show GO S0 93 99 [vR 195, vI x1, vI x2, vI x3] [vR 30, vI 16, vI (I14 30 (x2).toNat)] I14 K
            refine G_loadI rc_93_99 rfl ?_
            obtain ⟨c18, h⟩ := h
            refine G_ald rc_93_100 s0_30 (by omega) (by omega) ?_
            show GO S0 93 101 [vR 195, vI x1, vI x2, vI x3] [vI (I14 30 (x3).toNat), vI 16, vI (I14 30 (x2).toNat)] I14 K
            obtain ⟨c19, h⟩ := h
            refine G_bop (z := 16 * (I14 30 (x3).toNat)) rc_93_101 (if_pos c19) ?_
            show GO S0 93 102 [vR 195, vI x1, vI x2, vI x3] [vI (16 * (I14 30 (x3).toNat)), vI (I14 30 (x2).toNat)] I14 K
            obtain ⟨c20, h⟩ := h
            refine G_bop (z := (I14 30 (x2).toNat) + (16 * (I14 30 (x3).toNat))) rc_93_102 (if_pos c20) ?_
            show GO S0 93 103 [vR 195, vI x1, vI x2, vI x3] [vI ((I14 30 (x2).toNat) + (16 * (I14 30 (x3).toNat)))] I14 K
            refine G_goto rc_93_103 ?_
            show GO S0 93 107 [vR 195, vI x1, vI x2, vI x3] [vI ((I14 30 (x2).toNat) + (16 * (I14 30 (x3).toNat)))] I14 K
            exact G_retI rc_93_107 (Or.inl rfl) h
      · rw [if_neg c12] at h
        rw [if_neg c12]
        show GO S0 93 108 [vR 195, vI x1, vI x2, vI x3] [] I K
        refine G_loadI rc_93_108 rfl ?_
        refine G_call (as := [vI x2]) (rest := []) rc_93_109 rfl rfl rfl (Nat.le_of_ble_eq_true rfl) rfl ?_
        refine GO.imp h (fun v I21 h => ?_)
        obtain ⟨y22, rfl, h⟩ := h
        show GO S0 93 112 [vR 195, vI x1, vI x2, vI x3] [vI y22] I21 K
        refine G_i1 (C := y22 = 0) rc_93_112 rfl (fun c23 => ?_) (fun c23 => ?_)
        · rw [if_pos c23] at h
          show GO S0 93 129 [vR 195, vI x1, vI x2, vI x3] [] I21 K
          refine G_const rc_93_129 (by decide) ?_
          exact G_retI rc_93_130 (Or.inl rfl) h
        · rw [if_neg c23] at h
          show GO S0 93 115 [vR 195, vI x1, vI x2, vI x3] [] I21 K
          refine G_loadR rc_93_115 rfl ?_
          refine G_getR rc_93_116 s0_195 (by decide) rfl (by decide) ?_
          show GO S0 93 119 [vR 195, vI x1, vI x2, vI x3] [vR 29] I21 K
          refine G_getR rc_93_119 s0_29 (by decide) rfl (by decide) ?_
          show GO S0 93 122 [vR 195, vI x1, vI x2, vI x3] [vR 30] I21 K
          refine G_loadI rc_93_122 rfl ?_
          obtain ⟨c24, h⟩ := h
          refine G_ald rc_93_123 s0_30 (by omega) (by omega) ?_
          show GO S0 93 124 [vR 195, vI x1, vI x2, vI x3] [vI (I21 30 (x2).toNat)] I21 K
          refine G_const rc_93_124 (by decide) ?_
          obtain ⟨c25, h⟩ := h
          refine G_bop (z := (I21 30 (x2).toNat) - 1) rc_93_125 (if_pos c25) ?_
          show GO S0 93 126 [vR 195, vI x1, vI x2, vI x3] [vI ((I21 30 (x2).toNat) - 1)] I21 K
          refine G_goto rc_93_126 ?_
          show GO S0 93 130 [vR 195, vI x1, vI x2, vI x3] [vI ((I21 30 (x2).toNat) - 1)] I21 K
          exact G_retI rc_93_130 (Or.inl rfl) h
/-! 94: RoundSlack$Moves.note(III)V -/
def D94_0 (x1 : Int) (x2 : Int) (x3 : Int) (I : IM) (K : Option AV → IM → Prop) : Prop :=
  (inR ((I 195 7) + 1)) ∧ ∀ I2 : IM, I2 = iup I 195 7 ((I 195 7) + 1) → (if I2 195 6 ≤ I2 195 11 then (K none I2) else (∀ I4 : IM, I4 = iup I2 195 11 (I2 195 6) → ∀ I5 : IM, I5 = iup I4 195 8 x1 → ∀ I6 : IM, I6 = iup I5 195 9 x2 → ∀ I7 : IM, I7 = iup I6 195 10 x3 → K none I7))
set_option maxRecDepth 10000 in
theorem g94_0 (x1 : Int) (x2 : Int) (x3 : Int) (I : IM) (K : Option AV → IM → Prop) (h : D94_0 x1 x2 x3 I K) : GO S0 94 0 [vR 195, vI x1, vI x2, vI x3] [] I K := by
  unfold D94_0 at h
  refine G_loadR rc_94_0 rfl ?_
  refine G_dupR rc_94_1 ?_
  refine G_getI rc_94_2 s0_195 (by decide) ?_
  show GO S0 94 5 [vR 195, vI x1, vI x2, vI x3] [vI (I 195 7), vR 195] I K
  refine G_const rc_94_5 (by decide) ?_
  obtain ⟨c1, h⟩ := h
  refine G_bop (z := (I 195 7) + 1) rc_94_6 (if_pos c1) ?_
  show GO S0 94 7 [vR 195, vI x1, vI x2, vI x3] [vI ((I 195 7) + 1), vR 195] I K
  refine G_putI rc_94_7 s0_195 (by decide) (Or.inl rfl) ?_
  show GO S0 94 10 [vR 195, vI x1, vI x2, vI x3] [] (iup I 195 7 ((I 195 7) + 1)) K
  have h := h _ rfl
  generalize iup I 195 7 ((I 195 7) + 1) = I2 at h ⊢
  refine G_loadR rc_94_10 rfl ?_
  refine G_getI rc_94_11 s0_195 (by decide) ?_
  show GO S0 94 14 [vR 195, vI x1, vI x2, vI x3] [vI (I2 195 6)] I2 K
  refine G_loadR rc_94_14 rfl ?_
  refine G_getI rc_94_15 s0_195 (by decide) ?_
  show GO S0 94 18 [vR 195, vI x1, vI x2, vI x3] [vI (I2 195 11), vI (I2 195 6)] I2 K
  refine G_i2 (C := I2 195 6 ≤ I2 195 11) rc_94_18 rfl (fun c3 => ?_) (fun c3 => ?_)
  · rw [if_pos c3] at h
    show GO S0 94 44 [vR 195, vI x1, vI x2, vI x3] [] I2 K
    exact G_ret0 rc_94_44 h
  · rw [if_neg c3] at h
    show GO S0 94 21 [vR 195, vI x1, vI x2, vI x3] [] I2 K
    refine G_loadR rc_94_21 rfl ?_
    refine G_loadR rc_94_22 rfl ?_
    refine G_getI rc_94_23 s0_195 (by decide) ?_
    show GO S0 94 26 [vR 195, vI x1, vI x2, vI x3] [vI (I2 195 6), vR 195] I2 K
    refine G_putI rc_94_26 s0_195 (by decide) (Or.inl rfl) ?_
    show GO S0 94 29 [vR 195, vI x1, vI x2, vI x3] [] (iup I2 195 11 (I2 195 6)) K
    have h := h _ rfl
    generalize iup I2 195 11 (I2 195 6) = I4 at h ⊢
    refine G_loadR rc_94_29 rfl ?_
    refine G_loadI rc_94_30 rfl ?_
    refine G_putI rc_94_31 s0_195 (by decide) (Or.inl rfl) ?_
    show GO S0 94 34 [vR 195, vI x1, vI x2, vI x3] [] (iup I4 195 8 x1) K
    have h := h _ rfl
    generalize iup I4 195 8 x1 = I5 at h ⊢
    refine G_loadR rc_94_34 rfl ?_
    refine G_loadI rc_94_35 rfl ?_
    refine G_putI rc_94_36 s0_195 (by decide) (Or.inl rfl) ?_
    show GO S0 94 39 [vR 195, vI x1, vI x2, vI x3] [] (iup I5 195 9 x2) K
    have h := h _ rfl
    generalize iup I5 195 9 x2 = I6 at h ⊢
    refine G_loadR rc_94_39 rfl ?_
    refine G_loadI rc_94_40 rfl ?_
    refine G_putI rc_94_41 s0_195 (by decide) (Or.inl rfl) ?_
    show GO S0 94 44 [vR 195, vI x1, vI x2, vI x3] [] (iup I6 195 10 x3) K
    have h := h _ rfl
    generalize iup I6 195 10 x3 = I7 at h ⊢
    exact G_ret0 rc_94_44 h
/-! 95: RoundSlack.descent(I)I -/
def D95_0 (x1 : Int) (I : IM) (K : Option AV → IM → Prop) : Prop :=
  CALL S0 14 [vI x1, vI 1, vI 40] I (fun v I1 => ∃ y2 : Int, v = some (vI y2) ∧ (if y2 = 0 then (K (some (vI (-2))) I1) else (CALL S0 53 [vR 71, vR 29] I1 (fun v I4 => v = none ∧ CALL S0 96 [vR 195, vI x1] I4 (fun v I5 => ∃ y6 : Int, v = some (vI y6) ∧ (if y6 ≤ 0 then (K (some (vI y6)) I5) else (CALL S0 77 [vR 78, vR 71] I5 (fun v I8 => v = none ∧ K (some (vI y6)) I8))))))))
set_option maxRecDepth 10000 in
theorem g95_0 (x1 : Int) (I : IM) (K : Option AV → IM → Prop) (h : D95_0 x1 I K) : GO S0 95 0 [vR 0, vI x1, vU] [] I K := by
  unfold D95_0 at h
  refine G_loadI rc_95_0 rfl ?_
  refine G_const rc_95_1 (by decide) ?_
  refine G_const rc_95_2 (by decide) ?_
  refine G_call (as := [vI x1, vI 1, vI 40]) (rest := []) rc_95_4 rfl rfl rfl (Nat.le_of_ble_eq_true rfl) rfl ?_
  refine GO.imp h (fun v I1 h => ?_)
  obtain ⟨y2, rfl, h⟩ := h
  show GO S0 95 7 [vR 0, vI x1, vU] [vI y2] I1 K
  refine G_i1 (C := ¬ y2 = 0) rc_95_7 rfl (fun c3 => ?_) (fun c3 => ?_)
  · rw [if_neg c3] at h
    show GO S0 95 13 [vR 0, vI x1, vU] [] I1 K
    refine G_loadR rc_95_13 rfl ?_
    refine G_getR rc_95_14 s0_0 (by decide) rfl (by decide) ?_
    show GO S0 95 17 [vR 0, vI x1, vU] [vR 71] I1 K
    refine G_loadR rc_95_17 rfl ?_
    refine G_getR rc_95_18 s0_0 (by decide) rfl (by decide) ?_
    show GO S0 95 21 [vR 0, vI x1, vU] [vR 29, vR 71] I1 K
    refine G_call (as := [vR 71, vR 29]) (rest := []) rc_95_21 rfl rfl rfl (Nat.le_of_ble_eq_true rfl) (g_recv s0_71 rfl) ?_
    refine GO.imp h (fun v I4 h => ?_)
    obtain ⟨rfl, h⟩ := h
    show GO S0 95 24 [vR 0, vI x1, vU] [] I4 K
    refine G_loadR rc_95_24 rfl ?_
    refine G_getR rc_95_25 s0_0 (by decide) rfl (by decide) ?_
    show GO S0 95 28 [vR 0, vI x1, vU] [vR 195] I4 K
    refine G_loadI rc_95_28 rfl ?_
    refine G_call (as := [vR 195, vI x1]) (rest := []) rc_95_29 rfl rfl rfl (Nat.le_of_ble_eq_true rfl) (g_recv s0_195 rfl) ?_
    refine GO.imp h (fun v I5 h => ?_)
    obtain ⟨y6, rfl, h⟩ := h
    show GO S0 95 32 [vR 0, vI x1, vU] [vI y6] I5 K
    refine G_storeI rc_95_32 (Nat.le_of_ble_eq_true rfl) ?_
    show GO S0 95 33 [vR 0, vI x1, vI y6] [] I5 K
    refine G_loadI rc_95_33 rfl ?_
    refine G_i1 (C := y6 ≤ 0) rc_95_34 rfl (fun c7 => ?_) (fun c7 => ?_)
    · rw [if_pos c7] at h
      show GO S0 95 48 [vR 0, vI x1, vI y6] [] I5 K
      refine G_loadI rc_95_48 rfl ?_
      exact G_retI rc_95_49 (Or.inl rfl) h
    · rw [if_neg c7] at h
      show GO S0 95 37 [vR 0, vI x1, vI y6] [] I5 K
      refine G_loadR rc_95_37 rfl ?_
      refine G_getR rc_95_38 s0_0 (by decide) rfl (by decide) ?_
      show GO S0 95 41 [vR 0, vI x1, vI y6] [vR 78] I5 K
      refine G_loadR rc_95_41 rfl ?_
      refine G_getR rc_95_42 s0_0 (by decide) rfl (by decide) ?_
      show GO S0 95 45 [vR 0, vI x1, vI y6] [vR 71, vR 78] I5 K
      refine G_call (as := [vR 78, vR 71]) (rest := []) rc_95_45 rfl rfl rfl (Nat.le_of_ble_eq_true rfl) (g_recv s0_78 rfl) ?_
      refine GO.imp h (fun v I8 h => ?_)
      obtain ⟨rfl, h⟩ := h
      show GO S0 95 48 [vR 0, vI x1, vI y6] [] I8 K
      refine G_loadI rc_95_48 rfl ?_
      exact G_retI rc_95_49 (Or.inl rfl) h
  · rw [if_pos (Classical.not_not.mp c3)] at h
    show GO S0 95 10 [vR 0, vI x1, vU] [] I1 K
    refine G_const rc_95_10 (by decide) ?_
    exact G_retI rc_95_12 (Or.inl rfl) h
/-! 96: RoundSlack$Moves.descend(I)I -/
def D96_18 (x1 : Int) (x2 : Int) (x3 : Int) (x4 : Int) (I : IM) (K : Option AV → IM → Prop) : Prop :=
  (if (4 : Int) ≤ x4 then (GO S0 96 4 [vR 195, vI x1, vI x2, vI x3, vI x4] [] I K) else ((if x3 = 0 then (CALL S0 92 [vR 195, vI x4] I (fun v I3 => v = none ∧ (if I3 195 11 ≤ 0 then ((inR (x4 + 1)) ∧ GO S0 96 18 [vR 195, vI x1, vI x2, vI x3, vI (x4 + 1)] [] I3 K) else (CALL S0 85 [vR 195, vI x4, vI (I3 195 8), vI (I3 195 9), vI (I3 195 10)] I3 (fun v I6 => ∃ y7 : Int, v = some (vI y7) ∧ CALL S0 53 [vR 29, vR 197] I6 (fun v I8 => v = none ∧ (inR (x2 + 1)) ∧ (inR (x4 + 1)) ∧ GO S0 96 18 [vR 195, vI x1, vI (x2 + 1), vI 1, vI (x4 + 1)] [] I8 K)))))) else (GO S0 96 4 [vR 195, vI x1, vI x2, vI x3, vI x4] [] I K))))
set_option maxRecDepth 10000 in
theorem g96_18 (x1 : Int) (x2 : Int) (x3 : Int) (x4 : Int) (I : IM) (K : Option AV → IM → Prop) (h : D96_18 x1 x2 x3 x4 I K) : GO S0 96 18 [vR 195, vI x1, vI x2, vI x3, vI x4] [] I K := by
  unfold D96_18 at h
  refine G_loadI rc_96_18 rfl ?_
  refine G_const rc_96_20 (by decide) ?_
  refine G_i2 (C := (4 : Int) ≤ x4) rc_96_21 rfl (fun c1 => ?_) (fun c1 => ?_)
  · rw [if_pos c1] at h
    show GO S0 96 82 [vR 195, vI x1, vI x2, vI x3, vI x4] [] I K
    refine G_goto rc_96_82 ?_
    show GO S0 96 4 [vR 195, vI x1, vI x2, vI x3, vI x4] [] I K
    exact h
  · rw [if_neg c1] at h
    show GO S0 96 24 [vR 195, vI x1, vI x2, vI x3, vI x4] [] I K
    refine G_loadI rc_96_24 rfl ?_
    refine G_i1 (C := ¬ x3 = 0) rc_96_25 rfl (fun c2 => ?_) (fun c2 => ?_)
    · rw [if_neg c2] at h
      show GO S0 96 82 [vR 195, vI x1, vI x2, vI x3, vI x4] [] I K
      refine G_goto rc_96_82 ?_
      show GO S0 96 4 [vR 195, vI x1, vI x2, vI x3, vI x4] [] I K
      exact h
    · rw [if_pos (Classical.not_not.mp c2)] at h
      show GO S0 96 28 [vR 195, vI x1, vI x2, vI x3, vI x4] [] I K
      refine G_loadR rc_96_28 rfl ?_
      refine G_loadI rc_96_29 rfl ?_
      refine G_call (as := [vR 195, vI x4]) (rest := []) rc_96_31 rfl rfl rfl (Nat.le_of_ble_eq_true rfl) (g_recv s0_195 rfl) ?_
      refine GO.imp h (fun v I3 h => ?_)
      obtain ⟨rfl, h⟩ := h
      show GO S0 96 34 [vR 195, vI x1, vI x2, vI x3, vI x4] [] I3 K
      refine G_loadR rc_96_34 rfl ?_
      refine G_getI rc_96_35 s0_195 (by decide) ?_
      show GO S0 96 38 [vR 195, vI x1, vI x2, vI x3, vI x4] [vI (I3 195 11)] I3 K
      refine G_i1 (C := I3 195 11 ≤ 0) rc_96_38 rfl (fun c4 => ?_) (fun c4 => ?_)
      · rw [if_pos c4] at h
        show GO S0 96 76 [vR 195, vI x1, vI x2, vI x3, vI x4] [] I3 K
        obtain ⟨c5, h⟩ := h
        refine G_iinc rc_96_76 rfl c5 ?_
        show GO S0 96 79 [vR 195, vI x1, vI x2, vI x3, vI (x4 + 1)] [] I3 K
        refine G_goto rc_96_79 ?_
        show GO S0 96 18 [vR 195, vI x1, vI x2, vI x3, vI (x4 + 1)] [] I3 K
        exact h
      · rw [if_neg c4] at h
        show GO S0 96 41 [vR 195, vI x1, vI x2, vI x3, vI x4] [] I3 K
        refine G_loadR rc_96_41 rfl ?_
        refine G_loadI rc_96_42 rfl ?_
        refine G_loadR rc_96_44 rfl ?_
        refine G_getI rc_96_45 s0_195 (by decide) ?_
        show GO S0 96 48 [vR 195, vI x1, vI x2, vI x3, vI x4] [vI (I3 195 8), vI x4, vR 195] I3 K
        refine G_loadR rc_96_48 rfl ?_
        refine G_getI rc_96_49 s0_195 (by decide) ?_
        show GO S0 96 52 [vR 195, vI x1, vI x2, vI x3, vI x4] [vI (I3 195 9), vI (I3 195 8), vI x4, vR 195] I3 K
        refine G_loadR rc_96_52 rfl ?_
        refine G_getI rc_96_53 s0_195 (by decide) ?_
        show GO S0 96 56 [vR 195, vI x1, vI x2, vI x3, vI x4] [vI (I3 195 10), vI (I3 195 9), vI (I3 195 8), vI x4, vR 195] I3 K
        refine G_call (as := [vR 195, vI x4, vI (I3 195 8), vI (I3 195 9), vI (I3 195 10)]) (rest := []) rc_96_56 rfl rfl rfl (Nat.le_of_ble_eq_true rfl) (g_recv s0_195 rfl) ?_
        refine GO.imp h (fun v I6 h => ?_)
        obtain ⟨y7, rfl, h⟩ := h
        show GO S0 96 59 [vR 195, vI x1, vI x2, vI x3, vI x4] [vI y7] I6 K
        refine G_pop rc_96_59 ?_
        refine G_loadR rc_96_60 rfl ?_
        refine G_getR rc_96_61 s0_195 (by decide) rfl (by decide) ?_
        show GO S0 96 64 [vR 195, vI x1, vI x2, vI x3, vI x4] [vR 29] I6 K
        refine G_loadR rc_96_64 rfl ?_
        refine G_getR rc_96_65 s0_195 (by decide) rfl (by decide) ?_
        show GO S0 96 68 [vR 195, vI x1, vI x2, vI x3, vI x4] [vR 197, vR 29] I6 K
        refine G_call (as := [vR 29, vR 197]) (rest := []) rc_96_68 rfl rfl rfl (Nat.le_of_ble_eq_true rfl) (g_recv s0_29 rfl) ?_
        refine GO.imp h (fun v I8 h => ?_)
        obtain ⟨rfl, h⟩ := h
        show GO S0 96 71 [vR 195, vI x1, vI x2, vI x3, vI x4] [] I8 K
        refine G_const rc_96_71 (by decide) ?_
        refine G_storeI rc_96_72 (Nat.le_of_ble_eq_true rfl) ?_
        show GO S0 96 73 [vR 195, vI x1, vI x2, vI 1, vI x4] [] I8 K
        obtain ⟨c9, h⟩ := h
        refine G_iinc rc_96_73 rfl c9 ?_
        show GO S0 96 76 [vR 195, vI x1, vI (x2 + 1), vI 1, vI x4] [] I8 K
        obtain ⟨c10, h⟩ := h
        refine G_iinc rc_96_76 rfl c10 ?_
        show GO S0 96 79 [vR 195, vI x1, vI (x2 + 1), vI 1, vI (x4 + 1)] [] I8 K
        refine G_goto rc_96_79 ?_
        show GO S0 96 18 [vR 195, vI x1, vI (x2 + 1), vI 1, vI (x4 + 1)] [] I8 K
        exact h
def D96_4 (x1 : Int) (x2 : Int) (x3 : Int) (u4 : AV) (I : IM) (K : Option AV → IM → Prop) : Prop :=
  (if x1 ≤ x2 then (K (some (vI x2)) I) else ((if x3 = 0 then (K (some (vI x2)) I) else (GO S0 96 18 [vR 195, vI x1, vI x2, vI 0, vI 0] [] I K))))
set_option maxRecDepth 10000 in
theorem g96_4 (x1 : Int) (x2 : Int) (x3 : Int) (u4 : AV) (I : IM) (K : Option AV → IM → Prop) (h : D96_4 x1 x2 x3 u4 I K) : GO S0 96 4 [vR 195, vI x1, vI x2, vI x3, u4] [] I K := by
  unfold D96_4 at h
  refine G_loadI rc_96_4 rfl ?_
  refine G_loadI rc_96_5 rfl ?_
  refine G_i2 (C := x1 ≤ x2) rc_96_6 rfl (fun c1 => ?_) (fun c1 => ?_)
  · rw [if_pos c1] at h
    show GO S0 96 85 [vR 195, vI x1, vI x2, vI x3, u4] [] I K
    refine G_loadI rc_96_85 rfl ?_
    exact G_retI rc_96_86 (Or.inl rfl) h
  · rw [if_neg c1] at h
    show GO S0 96 9 [vR 195, vI x1, vI x2, vI x3, u4] [] I K
    refine G_loadI rc_96_9 rfl ?_
    refine G_i1 (C := x3 = 0) rc_96_10 rfl (fun c2 => ?_) (fun c2 => ?_)
    · rw [if_pos c2] at h
      show GO S0 96 85 [vR 195, vI x1, vI x2, vI x3, u4] [] I K
      refine G_loadI rc_96_85 rfl ?_
      exact G_retI rc_96_86 (Or.inl rfl) h
    · rw [if_neg c2] at h
      show GO S0 96 13 [vR 195, vI x1, vI x2, vI x3, u4] [] I K
      refine G_const rc_96_13 (by decide) ?_
      refine G_storeI rc_96_14 (Nat.le_of_ble_eq_true rfl) ?_
      show GO S0 96 15 [vR 195, vI x1, vI x2, vI 0, u4] [] I K
      refine G_const rc_96_15 (by decide) ?_
      refine G_storeI rc_96_16 (Nat.le_of_ble_eq_true rfl) ?_
      show GO S0 96 18 [vR 195, vI x1, vI x2, vI 0, vI 0] [] I K
      exact h
def D96_0 (x1 : Int) (I : IM) (K : Option AV → IM → Prop) : Prop :=
  GO S0 96 4 [vR 195, vI x1, vI 0, vI 1, vU] [] I K
set_option maxRecDepth 10000 in
theorem g96_0 (x1 : Int) (I : IM) (K : Option AV → IM → Prop) (h : D96_0 x1 I K) : GO S0 96 0 [vR 195, vI x1, vU, vU, vU] [] I K := by
  unfold D96_0 at h
  refine G_const rc_96_0 (by decide) ?_
  refine G_storeI rc_96_1 (Nat.le_of_ble_eq_true rfl) ?_
  show GO S0 96 2 [vR 195, vI x1, vI 0, vU, vU] [] I K
  refine G_const rc_96_2 (by decide) ?_
  refine G_storeI rc_96_3 (Nat.le_of_ble_eq_true rfl) ?_
  show GO S0 96 4 [vR 195, vI x1, vI 0, vI 1, vU] [] I K
  exact h
/-! 97: RoundSlack.many(I)I -/
def D97_0 (x1 : Int) (I : IM) (K : Option AV → IM → Prop) : Prop :=
  CALL S0 14 [vI x1, vI 0, vI 3] I (fun v I1 => ∃ y2 : Int, v = some (vI y2) ∧ (if y2 = 0 then (K (some (vI (-1))) I1) else (CALL S0 92 [vR 195, vI x1] I1 (fun v I4 => v = none ∧ K (some (vI (I4 195 7))) I4))))
set_option maxRecDepth 10000 in
theorem g97_0 (x1 : Int) (I : IM) (K : Option AV → IM → Prop) (h : D97_0 x1 I K) : GO S0 97 0 [vR 0, vI x1] [] I K := by
  unfold D97_0 at h
  refine G_loadI rc_97_0 rfl ?_
  refine G_const rc_97_1 (by decide) ?_
  refine G_const rc_97_2 (by decide) ?_
  refine G_call (as := [vI x1, vI 0, vI 3]) (rest := []) rc_97_3 rfl rfl rfl (Nat.le_of_ble_eq_true rfl) rfl ?_
  refine GO.imp h (fun v I1 h => ?_)
  obtain ⟨y2, rfl, h⟩ := h
  show GO S0 97 6 [vR 0, vI x1] [vI y2] I1 K
  refine G_i1 (C := ¬ y2 = 0) rc_97_6 rfl (fun c3 => ?_) (fun c3 => ?_)
  · rw [if_neg c3] at h
    show GO S0 97 11 [vR 0, vI x1] [] I1 K
    refine G_loadR rc_97_11 rfl ?_
    refine G_getR rc_97_12 s0_0 (by decide) rfl (by decide) ?_
    show GO S0 97 15 [vR 0, vI x1] [vR 195] I1 K
    refine G_loadI rc_97_15 rfl ?_
    refine G_call (as := [vR 195, vI x1]) (rest := []) rc_97_16 rfl rfl rfl (Nat.le_of_ble_eq_true rfl) (g_recv s0_195 rfl) ?_
    refine GO.imp h (fun v I4 h => ?_)
    obtain ⟨rfl, h⟩ := h
    show GO S0 97 19 [vR 0, vI x1] [] I4 K
    refine G_loadR rc_97_19 rfl ?_
    refine G_getR rc_97_20 s0_0 (by decide) rfl (by decide) ?_
    show GO S0 97 23 [vR 0, vI x1] [vR 195] I4 K
    refine G_getI rc_97_23 s0_195 (by decide) ?_
    show GO S0 97 26 [vR 0, vI x1] [vI (I4 195 7)] I4 K
    exact G_retI rc_97_26 (Or.inl rfl) h
  · rw [if_pos (Classical.not_not.mp c3)] at h
    show GO S0 97 9 [vR 0, vI x1] [] I1 K
    refine G_const rc_97_9 (by decide) ?_
    exact G_retI rc_97_10 (Or.inl rfl) h
/-! 98: RoundSlack.priced(II)I -/
def D98_0 (x1 : Int) (x2 : Int) (I : IM) (K : Option AV → IM → Prop) : Prop :=
  CALL S0 21 [vR 0, vI x1] I (fun v I1 => ∃ y2 : Int, v = some (vI y2) ∧ (if y2 = 0 then (K (some (vI (-1))) I1) else (CALL S0 24 [vI x2] I1 (fun v I4 => ∃ y5 : Int, v = some (vI y5) ∧ (if y5 = 0 then (K (some (vI (-1))) I4) else (CALL S0 22 [vR 29, vI x1] I4 (fun v I7 => ∃ y8 : Int, v = some (vI y8) ∧ (if y8 = -1 then (CALL S0 99 [vR 204, vI x1] I7 (fun v I10 => v = none ∧ (0 ≤ x2 ∧ x2 < 4) ∧ (if I10 205 (x2).toNat = 100000 then (K (some (vI (-5))) I10) else (K (some (vI (I10 205 (x2).toNat))) I10)))) else (K (some (vI (-3))) I7)))))))))
set_option maxRecDepth 10000 in
theorem g98_0 (x1 : Int) (x2 : Int) (I : IM) (K : Option AV → IM → Prop) (h : D98_0 x1 x2 I K) : GO S0 98 0 [vR 0, vI x1, vI x2] [] I K := by
  unfold D98_0 at h
  refine G_loadR rc_98_0 rfl ?_
  refine G_loadI rc_98_1 rfl ?_
  refine G_call (as := [vR 0, vI x1]) (rest := []) rc_98_2 rfl rfl rfl (Nat.le_of_ble_eq_true rfl) (g_recv s0_0 rfl) ?_
  refine GO.imp h (fun v I1 h => ?_)
  obtain ⟨y2, rfl, h⟩ := h
  show GO S0 98 5 [vR 0, vI x1, vI x2] [vI y2] I1 K
  refine G_i1 (C := y2 = 0) rc_98_5 rfl (fun c3 => ?_) (fun c3 => ?_)
  · rw [if_pos c3] at h
    show GO S0 98 15 [vR 0, vI x1, vI x2] [] I1 K
    refine G_const rc_98_15 (by decide) ?_
    exact G_retI rc_98_16 (Or.inl rfl) h
  · rw [if_neg c3] at h
    show GO S0 98 8 [vR 0, vI x1, vI x2] [] I1 K
    refine G_loadI rc_98_8 rfl ?_
    refine G_call (as := [vI x2]) (rest := []) rc_98_9 rfl rfl rfl (Nat.le_of_ble_eq_true rfl) rfl ?_
    refine GO.imp h (fun v I4 h => ?_)
    obtain ⟨y5, rfl, h⟩ := h
    show GO S0 98 12 [vR 0, vI x1, vI x2] [vI y5] I4 K
    refine G_i1 (C := ¬ y5 = 0) rc_98_12 rfl (fun c6 => ?_) (fun c6 => ?_)
    · rw [if_neg c6] at h
      show GO S0 98 17 [vR 0, vI x1, vI x2] [] I4 K
      refine G_loadR rc_98_17 rfl ?_
      refine G_getR rc_98_18 s0_0 (by decide) rfl (by decide) ?_
      show GO S0 98 21 [vR 0, vI x1, vI x2] [vR 29] I4 K
      refine G_loadI rc_98_21 rfl ?_
      refine G_call (as := [vR 29, vI x1]) (rest := []) rc_98_22 rfl rfl rfl (Nat.le_of_ble_eq_true rfl) (g_recv s0_29 rfl) ?_
      refine GO.imp h (fun v I7 h => ?_)
      obtain ⟨y8, rfl, h⟩ := h
      show GO S0 98 25 [vR 0, vI x1, vI x2] [vI y8] I7 K
      refine G_const rc_98_25 (by decide) ?_
      refine G_i2 (C := y8 = -1) rc_98_26 rfl (fun c9 => ?_) (fun c9 => ?_)
      · rw [if_pos c9] at h
        show GO S0 98 32 [vR 0, vI x1, vI x2] [] I7 K
        refine G_loadR rc_98_32 rfl ?_
        refine G_getR rc_98_33 s0_0 (by decide) rfl (by decide) ?_
        show GO S0 98 36 [vR 0, vI x1, vI x2] [vR 204] I7 K
        refine G_loadI rc_98_36 rfl ?_
        refine G_call (as := [vR 204, vI x1]) (rest := []) rc_98_37 rfl rfl rfl (Nat.le_of_ble_eq_true rfl) (g_recv s0_204 rfl) ?_
        refine GO.imp h (fun v I10 h => ?_)
        obtain ⟨rfl, h⟩ := h
        show GO S0 98 40 [vR 0, vI x1, vI x2] [] I10 K
        refine G_loadR rc_98_40 rfl ?_
        refine G_getR rc_98_41 s0_0 (by decide) rfl (by decide) ?_
        show GO S0 98 44 [vR 0, vI x1, vI x2] [vR 204] I10 K
        refine G_getR rc_98_44 s0_204 (by decide) rfl (by decide) ?_
        show GO S0 98 47 [vR 0, vI x1, vI x2] [vR 205] I10 K
        refine G_loadI rc_98_47 rfl ?_
        obtain ⟨c11, h⟩ := h
        refine G_ald rc_98_48 s0_205 (by omega) (by omega) ?_
        show GO S0 98 49 [vR 0, vI x1, vI x2] [vI (I10 205 (x2).toNat)] I10 K
        refine G_const rc_98_49 (by decide) ?_
        refine G_i2 (C := ¬ I10 205 (x2).toNat = 100000) rc_98_52 rfl (fun c12 => ?_) (fun c12 => ?_)
        · rw [if_neg c12] at h
          show GO S0 98 60 [vR 0, vI x1, vI x2] [] I10 K
          refine G_loadR rc_98_60 rfl ?_
          refine G_getR rc_98_61 s0_0 (by decide) rfl (by decide) ?_
          show GO S0 98 64 [vR 0, vI x1, vI x2] [vR 204] I10 K
          refine G_getR rc_98_64 s0_204 (by decide) rfl (by decide) ?_
          show GO S0 98 67 [vR 0, vI x1, vI x2] [vR 205] I10 K
          refine G_loadI rc_98_67 rfl ?_
          refine G_ald rc_98_68 s0_205 (by omega) (by omega) ?_
          show GO S0 98 69 [vR 0, vI x1, vI x2] [vI (I10 205 (x2).toNat)] I10 K
          exact G_retI rc_98_69 (Or.inl rfl) h
        · rw [if_pos (Classical.not_not.mp c12)] at h
          show GO S0 98 55 [vR 0, vI x1, vI x2] [] I10 K
          refine G_const rc_98_55 (by decide) ?_
          refine G_goto rc_98_57 ?_
          show GO S0 98 69 [vR 0, vI x1, vI x2] [vI (-5)] I10 K
          exact G_retI rc_98_69 (Or.inl rfl) h
      · rw [if_neg c9] at h
        show GO S0 98 29 [vR 0, vI x1, vI x2] [] I7 K
        refine G_const rc_98_29 (by decide) ?_
        exact G_retI rc_98_31 (Or.inl rfl) h
    · rw [if_pos (Classical.not_not.mp c6)] at h
      show GO S0 98 15 [vR 0, vI x1, vI x2] [] I4 K
      refine G_const rc_98_15 (by decide) ?_
      exact G_retI rc_98_16 (Or.inl rfl) h
/-! 99: RoundSlack$Filling.weigh(I)V -/
def D99_38 (x1 : Int) (x2 : Int) (x3 : Int) (x4 : Int) (u5 : AV) (I : IM) (K : Option AV → IM → Prop) : Prop :=
  (0 ≤ x2 ∧ x2 < 4) ∧ (if I 30 (x2).toNat < x4 then ((inR (x2 + 1)) ∧ GO S0 99 2 [vR 204, vI x1, vI (x2 + 1), vI x3, vI x4, u5] [] I K) else (CALL S0 76 [vR 193, vR 29, vI x2, vI x1, vI x4] I (fun v I4 => ∃ y5 : Int, v = some (vI y5) ∧ (if y5 = -1 then ((inR (x4 + 1)) ∧ GO S0 99 38 [vR 204, vI x1, vI x2, vI x3, vI (x4 + 1), vI y5] [] I4 K) else ((inR (y5 - x3)) ∧ (if I4 205 (x2).toNat ≤ y5 - x3 then ((inR (x4 + 1)) ∧ GO S0 99 38 [vR 204, vI x1, vI x2, vI x3, vI (x4 + 1), vI y5] [] I4 K) else (∀ I11 : IM, I11 = iup I4 205 (x2).toNat (y5 - x3) → ∀ I12 : IM, I12 = iup I11 206 (x2).toNat x4 → (inR (x4 + 1)) ∧ GO S0 99 38 [vR 204, vI x1, vI x2, vI x3, vI (x4 + 1), vI y5] [] I12 K)))))))
set_option maxRecDepth 10000 in
theorem g99_38 (x1 : Int) (x2 : Int) (x3 : Int) (x4 : Int) (u5 : AV) (I : IM) (K : Option AV → IM → Prop) (h : D99_38 x1 x2 x3 x4 u5 I K) : GO S0 99 38 [vR 204, vI x1, vI x2, vI x3, vI x4, u5] [] I K := by
  unfold D99_38 at h
  refine G_loadI rc_99_38 rfl ?_
  refine G_loadR rc_99_40 rfl ?_
  refine G_getR rc_99_41 s0_204 (by decide) rfl (by decide) ?_
  show GO S0 99 44 [vR 204, vI x1, vI x2, vI x3, vI x4, u5] [vR 29, vI x4] I K
  refine G_getR rc_99_44 s0_29 (by decide) rfl (by decide) ?_
  show GO S0 99 47 [vR 204, vI x1, vI x2, vI x3, vI x4, u5] [vR 30, vI x4] I K
  refine G_loadI rc_99_47 rfl ?_
  obtain ⟨c1, h⟩ := h
  refine G_ald rc_99_48 s0_30 (by omega) (by omega) ?_
  show GO S0 99 49 [vR 204, vI x1, vI x2, vI x3, vI x4, u5] [vI (I 30 (x2).toNat), vI x4] I K
  refine G_i2 (C := I 30 (x2).toNat < x4) rc_99_49 rfl (fun c2 => ?_) (fun c2 => ?_)
  · rw [if_pos c2] at h
    show GO S0 99 112 [vR 204, vI x1, vI x2, vI x3, vI x4, u5] [] I K
    obtain ⟨c3, h⟩ := h
    refine G_iinc rc_99_112 rfl c3 ?_
    show GO S0 99 115 [vR 204, vI x1, vI (x2 + 1), vI x3, vI x4, u5] [] I K
    refine G_goto rc_99_115 ?_
    show GO S0 99 2 [vR 204, vI x1, vI (x2 + 1), vI x3, vI x4, u5] [] I K
    exact h
  · rw [if_neg c2] at h
    show GO S0 99 52 [vR 204, vI x1, vI x2, vI x3, vI x4, u5] [] I K
    refine G_loadR rc_99_52 rfl ?_
    refine G_getR rc_99_53 s0_204 (by decide) rfl (by decide) ?_
    show GO S0 99 56 [vR 204, vI x1, vI x2, vI x3, vI x4, u5] [vR 193] I K
    refine G_loadR rc_99_56 rfl ?_
    refine G_getR rc_99_57 s0_204 (by decide) rfl (by decide) ?_
    show GO S0 99 60 [vR 204, vI x1, vI x2, vI x3, vI x4, u5] [vR 29, vR 193] I K
    refine G_loadI rc_99_60 rfl ?_
    refine G_loadI rc_99_61 rfl ?_
    refine G_loadI rc_99_62 rfl ?_
    refine G_call (as := [vR 193, vR 29, vI x2, vI x1, vI x4]) (rest := []) rc_99_64 rfl rfl rfl (Nat.le_of_ble_eq_true rfl) (g_recv s0_193 rfl) ?_
    refine GO.imp h (fun v I4 h => ?_)
    obtain ⟨y5, rfl, h⟩ := h
    show GO S0 99 67 [vR 204, vI x1, vI x2, vI x3, vI x4, u5] [vI y5] I4 K
    refine G_storeI rc_99_67 (Nat.le_of_ble_eq_true rfl) ?_
    show GO S0 99 69 [vR 204, vI x1, vI x2, vI x3, vI x4, vI y5] [] I4 K
    refine G_loadI rc_99_69 rfl ?_
    refine G_const rc_99_71 (by decide) ?_
    refine G_i2 (C := y5 = -1) rc_99_72 rfl (fun c6 => ?_) (fun c6 => ?_)
    · rw [if_pos c6] at h
      show GO S0 99 106 [vR 204, vI x1, vI x2, vI x3, vI x4, vI y5] [] I4 K
      obtain ⟨c7, h⟩ := h
      refine G_iinc rc_99_106 rfl c7 ?_
      show GO S0 99 109 [vR 204, vI x1, vI x2, vI x3, vI (x4 + 1), vI y5] [] I4 K
      refine G_goto rc_99_109 ?_
      show GO S0 99 38 [vR 204, vI x1, vI x2, vI x3, vI (x4 + 1), vI y5] [] I4 K
      exact h
    · rw [if_neg c6] at h
      show GO S0 99 75 [vR 204, vI x1, vI x2, vI x3, vI x4, vI y5] [] I4 K
      refine G_loadI rc_99_75 rfl ?_
      refine G_loadI rc_99_77 rfl ?_
      obtain ⟨c8, h⟩ := h
      refine G_bop (z := y5 - x3) rc_99_78 (if_pos c8) ?_
      show GO S0 99 79 [vR 204, vI x1, vI x2, vI x3, vI x4, vI y5] [vI (y5 - x3)] I4 K
      refine G_loadR rc_99_79 rfl ?_
      refine G_getR rc_99_80 s0_204 (by decide) rfl (by decide) ?_
      show GO S0 99 83 [vR 204, vI x1, vI x2, vI x3, vI x4, vI y5] [vR 205, vI (y5 - x3)] I4 K
      refine G_loadI rc_99_83 rfl ?_
      refine G_ald rc_99_84 s0_205 (by omega) (by omega) ?_
      show GO S0 99 85 [vR 204, vI x1, vI x2, vI x3, vI x4, vI y5] [vI (I4 205 (x2).toNat), vI (y5 - x3)] I4 K
      refine G_i2 (C := I4 205 (x2).toNat ≤ y5 - x3) rc_99_85 rfl (fun c9 => ?_) (fun c9 => ?_)
      · rw [if_pos c9] at h
        show GO S0 99 106 [vR 204, vI x1, vI x2, vI x3, vI x4, vI y5] [] I4 K
        obtain ⟨c10, h⟩ := h
        refine G_iinc rc_99_106 rfl c10 ?_
        show GO S0 99 109 [vR 204, vI x1, vI x2, vI x3, vI (x4 + 1), vI y5] [] I4 K
        refine G_goto rc_99_109 ?_
        show GO S0 99 38 [vR 204, vI x1, vI x2, vI x3, vI (x4 + 1), vI y5] [] I4 K
        exact h
      · rw [if_neg c9] at h
        show GO S0 99 88 [vR 204, vI x1, vI x2, vI x3, vI x4, vI y5] [] I4 K
        refine G_loadR rc_99_88 rfl ?_
        refine G_getR rc_99_89 s0_204 (by decide) rfl (by decide) ?_
        show GO S0 99 92 [vR 204, vI x1, vI x2, vI x3, vI x4, vI y5] [vR 205] I4 K
        refine G_loadI rc_99_92 rfl ?_
        refine G_loadI rc_99_93 rfl ?_
        refine G_loadI rc_99_95 rfl ?_
        refine G_bop (z := y5 - x3) rc_99_96 (if_pos c8) ?_
        show GO S0 99 97 [vR 204, vI x1, vI x2, vI x3, vI x4, vI y5] [vI (y5 - x3), vI x2, vR 205] I4 K
        refine G_ast rc_99_97 s0_205 (by omega) (by omega) (Or.inl rfl) ?_
        show GO S0 99 98 [vR 204, vI x1, vI x2, vI x3, vI x4, vI y5] [] (iup I4 205 (x2).toNat (y5 - x3)) K
        have h := h _ rfl
        generalize iup I4 205 (x2).toNat (y5 - x3) = I11 at h ⊢
        refine G_loadR rc_99_98 rfl ?_
        refine G_getR rc_99_99 s0_204 (by decide) rfl (by decide) ?_
        show GO S0 99 102 [vR 204, vI x1, vI x2, vI x3, vI x4, vI y5] [vR 206] I11 K
        refine G_loadI rc_99_102 rfl ?_
        refine G_loadI rc_99_103 rfl ?_
        refine G_ast rc_99_105 s0_206 (by omega) (by omega) (Or.inl rfl) ?_
        show GO S0 99 106 [vR 204, vI x1, vI x2, vI x3, vI x4, vI y5] [] (iup I11 206 (x2).toNat x4) K
        have h := h _ rfl
        generalize iup I11 206 (x2).toNat x4 = I12 at h ⊢
        obtain ⟨c13, h⟩ := h
        refine G_iinc rc_99_106 rfl c13 ?_
        show GO S0 99 109 [vR 204, vI x1, vI x2, vI x3, vI (x4 + 1), vI y5] [] I12 K
        refine G_goto rc_99_109 ?_
        show GO S0 99 38 [vR 204, vI x1, vI x2, vI x3, vI (x4 + 1), vI y5] [] I12 K
        exact h
def D99_2 (x1 : Int) (x2 : Int) (u3 : AV) (u4 : AV) (u5 : AV) (I : IM) (K : Option AV → IM → Prop) : Prop :=
  (if (4 : Int) ≤ x2 then (K none I) else (CALL S0 47 [vR 193, vR 29, vI x2] I (fun v I2 => ∃ y3 : Int, v = some (vI y3) ∧ (0 ≤ x2 ∧ x2 < 4) ∧ ∀ I5 : IM, I5 = iup I2 205 (x2).toNat 100000 → ∀ I6 : IM, I6 = iup I5 206 (x2).toNat (-1) → GO S0 99 38 [vR 204, vI x1, vI x2, vI y3, vI 0, u5] [] I6 K)))
set_option maxRecDepth 10000 in
theorem g99_2 (x1 : Int) (x2 : Int) (u3 : AV) (u4 : AV) (u5 : AV) (I : IM) (K : Option AV → IM → Prop) (h : D99_2 x1 x2 u3 u4 u5 I K) : GO S0 99 2 [vR 204, vI x1, vI x2, u3, u4, u5] [] I K := by
  unfold D99_2 at h
  refine G_loadI rc_99_2 rfl ?_
  refine G_const rc_99_3 (by decide) ?_
  refine G_i2 (C := (4 : Int) ≤ x2) rc_99_4 rfl (fun c1 => ?_) (fun c1 => ?_)
  · rw [if_pos c1] at h
    show GO S0 99 118 [vR 204, vI x1, vI x2, u3, u4, u5] [] I K
    exact G_ret0 rc_99_118 h
  · rw [if_neg c1] at h
    show GO S0 99 7 [vR 204, vI x1, vI x2, u3, u4, u5] [] I K
    refine G_loadR rc_99_7 rfl ?_
    refine G_getR rc_99_8 s0_204 (by decide) rfl (by decide) ?_
    show GO S0 99 11 [vR 204, vI x1, vI x2, u3, u4, u5] [vR 193] I K
    refine G_loadR rc_99_11 rfl ?_
    refine G_getR rc_99_12 s0_204 (by decide) rfl (by decide) ?_
    show GO S0 99 15 [vR 204, vI x1, vI x2, u3, u4, u5] [vR 29, vR 193] I K
    refine G_loadI rc_99_15 rfl ?_
    refine G_call (as := [vR 193, vR 29, vI x2]) (rest := []) rc_99_16 rfl rfl rfl (Nat.le_of_ble_eq_true rfl) (g_recv s0_193 rfl) ?_
    refine GO.imp h (fun v I2 h => ?_)
    obtain ⟨y3, rfl, h⟩ := h
    show GO S0 99 19 [vR 204, vI x1, vI x2, u3, u4, u5] [vI y3] I2 K
    refine G_storeI rc_99_19 (Nat.le_of_ble_eq_true rfl) ?_
    show GO S0 99 20 [vR 204, vI x1, vI x2, vI y3, u4, u5] [] I2 K
    refine G_loadR rc_99_20 rfl ?_
    refine G_getR rc_99_21 s0_204 (by decide) rfl (by decide) ?_
    show GO S0 99 24 [vR 204, vI x1, vI x2, vI y3, u4, u5] [vR 205] I2 K
    refine G_loadI rc_99_24 rfl ?_
    refine G_const rc_99_25 (by decide) ?_
    obtain ⟨c4, h⟩ := h
    refine G_ast rc_99_27 s0_205 (by omega) (by omega) (Or.inl rfl) ?_
    show GO S0 99 28 [vR 204, vI x1, vI x2, vI y3, u4, u5] [] (iup I2 205 (x2).toNat 100000) K
    have h := h _ rfl
    generalize iup I2 205 (x2).toNat 100000 = I5 at h ⊢
    refine G_loadR rc_99_28 rfl ?_
    refine G_getR rc_99_29 s0_204 (by decide) rfl (by decide) ?_
    show GO S0 99 32 [vR 204, vI x1, vI x2, vI y3, u4, u5] [vR 206] I5 K
    refine G_loadI rc_99_32 rfl ?_
    refine G_const rc_99_33 (by decide) ?_
    refine G_ast rc_99_34 s0_206 (by omega) (by omega) (Or.inl rfl) ?_
    show GO S0 99 35 [vR 204, vI x1, vI x2, vI y3, u4, u5] [] (iup I5 206 (x2).toNat (-1)) K
    have h := h _ rfl
    generalize iup I5 206 (x2).toNat (-1) = I6 at h ⊢
    refine G_const rc_99_35 (by decide) ?_
    refine G_storeI rc_99_36 (Nat.le_of_ble_eq_true rfl) ?_
    show GO S0 99 38 [vR 204, vI x1, vI x2, vI y3, vI 0, u5] [] I6 K
    exact h
def D99_0 (x1 : Int) (I : IM) (K : Option AV → IM → Prop) : Prop :=
  GO S0 99 2 [vR 204, vI x1, vI 0, vU, vU, vU] [] I K
set_option maxRecDepth 10000 in
theorem g99_0 (x1 : Int) (I : IM) (K : Option AV → IM → Prop) (h : D99_0 x1 I K) : GO S0 99 0 [vR 204, vI x1, vU, vU, vU, vU] [] I K := by
  unfold D99_0 at h
  refine G_const rc_99_0 (by decide) ?_
  refine G_storeI rc_99_1 (Nat.le_of_ble_eq_true rfl) ?_
  show GO S0 99 2 [vR 204, vI x1, vI 0, vU, vU, vU] [] I K
  exact h
/-! 100: RoundSlack.placed(II)I -/
def D100_0 (x1 : Int) (x2 : Int) (I : IM) (K : Option AV → IM → Prop) : Prop :=
  CALL S0 21 [vR 0, vI x1] I (fun v I1 => ∃ y2 : Int, v = some (vI y2) ∧ (if y2 = 0 then (K (some (vI (-1))) I1) else (CALL S0 24 [vI x2] I1 (fun v I4 => ∃ y5 : Int, v = some (vI y5) ∧ (if y5 = 0 then (K (some (vI (-1))) I4) else (CALL S0 22 [vR 29, vI x1] I4 (fun v I7 => ∃ y8 : Int, v = some (vI y8) ∧ (if y8 = -1 then (CALL S0 99 [vR 204, vI x1] I7 (fun v I10 => v = none ∧ (0 ≤ x2 ∧ x2 < 4) ∧ CALL S0 59 [vI (I10 206 (x2).toNat)] I10 (fun v I12 => ∃ y13 : Int, v = some (vI y13) ∧ K (some (vI y13)) I12))) else (K (some (vI (-3))) I7)))))))))
set_option maxRecDepth 10000 in
theorem g100_0 (x1 : Int) (x2 : Int) (I : IM) (K : Option AV → IM → Prop) (h : D100_0 x1 x2 I K) : GO S0 100 0 [vR 0, vI x1, vI x2] [] I K := by
  unfold D100_0 at h
  refine G_loadR rc_100_0 rfl ?_
  refine G_loadI rc_100_1 rfl ?_
  refine G_call (as := [vR 0, vI x1]) (rest := []) rc_100_2 rfl rfl rfl (Nat.le_of_ble_eq_true rfl) (g_recv s0_0 rfl) ?_
  refine GO.imp h (fun v I1 h => ?_)
  obtain ⟨y2, rfl, h⟩ := h
  show GO S0 100 5 [vR 0, vI x1, vI x2] [vI y2] I1 K
  refine G_i1 (C := y2 = 0) rc_100_5 rfl (fun c3 => ?_) (fun c3 => ?_)
  · rw [if_pos c3] at h
    show GO S0 100 15 [vR 0, vI x1, vI x2] [] I1 K
    refine G_const rc_100_15 (by decide) ?_
    exact G_retI rc_100_16 (Or.inl rfl) h
  · rw [if_neg c3] at h
    show GO S0 100 8 [vR 0, vI x1, vI x2] [] I1 K
    refine G_loadI rc_100_8 rfl ?_
    refine G_call (as := [vI x2]) (rest := []) rc_100_9 rfl rfl rfl (Nat.le_of_ble_eq_true rfl) rfl ?_
    refine GO.imp h (fun v I4 h => ?_)
    obtain ⟨y5, rfl, h⟩ := h
    show GO S0 100 12 [vR 0, vI x1, vI x2] [vI y5] I4 K
    refine G_i1 (C := ¬ y5 = 0) rc_100_12 rfl (fun c6 => ?_) (fun c6 => ?_)
    · rw [if_neg c6] at h
      show GO S0 100 17 [vR 0, vI x1, vI x2] [] I4 K
      refine G_loadR rc_100_17 rfl ?_
      refine G_getR rc_100_18 s0_0 (by decide) rfl (by decide) ?_
      show GO S0 100 21 [vR 0, vI x1, vI x2] [vR 29] I4 K
      refine G_loadI rc_100_21 rfl ?_
      refine G_call (as := [vR 29, vI x1]) (rest := []) rc_100_22 rfl rfl rfl (Nat.le_of_ble_eq_true rfl) (g_recv s0_29 rfl) ?_
      refine GO.imp h (fun v I7 h => ?_)
      obtain ⟨y8, rfl, h⟩ := h
      show GO S0 100 25 [vR 0, vI x1, vI x2] [vI y8] I7 K
      refine G_const rc_100_25 (by decide) ?_
      refine G_i2 (C := y8 = -1) rc_100_26 rfl (fun c9 => ?_) (fun c9 => ?_)
      · rw [if_pos c9] at h
        show GO S0 100 32 [vR 0, vI x1, vI x2] [] I7 K
        refine G_loadR rc_100_32 rfl ?_
        refine G_getR rc_100_33 s0_0 (by decide) rfl (by decide) ?_
        show GO S0 100 36 [vR 0, vI x1, vI x2] [vR 204] I7 K
        refine G_loadI rc_100_36 rfl ?_
        refine G_call (as := [vR 204, vI x1]) (rest := []) rc_100_37 rfl rfl rfl (Nat.le_of_ble_eq_true rfl) (g_recv s0_204 rfl) ?_
        refine GO.imp h (fun v I10 h => ?_)
        obtain ⟨rfl, h⟩ := h
        show GO S0 100 40 [vR 0, vI x1, vI x2] [] I10 K
        refine G_loadR rc_100_40 rfl ?_
        refine G_getR rc_100_41 s0_0 (by decide) rfl (by decide) ?_
        show GO S0 100 44 [vR 0, vI x1, vI x2] [vR 204] I10 K
        refine G_getR rc_100_44 s0_204 (by decide) rfl (by decide) ?_
        show GO S0 100 47 [vR 0, vI x1, vI x2] [vR 206] I10 K
        refine G_loadI rc_100_47 rfl ?_
        obtain ⟨c11, h⟩ := h
        refine G_ald rc_100_48 s0_206 (by omega) (by omega) ?_
        show GO S0 100 49 [vR 0, vI x1, vI x2] [vI (I10 206 (x2).toNat)] I10 K
        refine G_call (as := [vI (I10 206 (x2).toNat)]) (rest := []) rc_100_49 rfl rfl rfl (Nat.le_of_ble_eq_true rfl) rfl ?_
        refine GO.imp h (fun v I12 h => ?_)
        obtain ⟨y13, rfl, h⟩ := h
        show GO S0 100 52 [vR 0, vI x1, vI x2] [vI y13] I12 K
        exact G_retI rc_100_52 (Or.inl rfl) h
      · rw [if_neg c9] at h
        show GO S0 100 29 [vR 0, vI x1, vI x2] [] I7 K
        refine G_const rc_100_29 (by decide) ?_
        exact G_retI rc_100_31 (Or.inl rfl) h
    · rw [if_pos (Classical.not_not.mp c6)] at h
      show GO S0 100 15 [vR 0, vI x1, vI x2] [] I4 K
      refine G_const rc_100_15 (by decide) ?_
      exact G_retI rc_100_16 (Or.inl rfl) h
/-! 101: RoundSlack.regret(II)I -/
def D101_0 (x1 : Int) (x2 : Int) (I : IM) (K : Option AV → IM → Prop) : Prop :=
  CALL S0 21 [vR 0, vI x1] I (fun v I1 => ∃ y2 : Int, v = some (vI y2) ∧ (if y2 = 0 then (K (some (vI (-1))) I1) else (CALL S0 14 [vI x2, vI 1, vI 4] I1 (fun v I4 => ∃ y5 : Int, v = some (vI y5) ∧ (if y5 = 0 then (K (some (vI (-2))) I4) else (CALL S0 22 [vR 29, vI x1] I4 (fun v I7 => ∃ y8 : Int, v = some (vI y8) ∧ (if y8 = -1 then (CALL S0 99 [vR 204, vI x1] I7 (fun v I10 => v = none ∧ CALL S0 102 [vR 204, vI x2] I10 (fun v I11 => ∃ y12 : Int, v = some (vI y12) ∧ K (some (vI y12)) I11))) else (K (some (vI (-3))) I7)))))))))
set_option maxRecDepth 10000 in
theorem g101_0 (x1 : Int) (x2 : Int) (I : IM) (K : Option AV → IM → Prop) (h : D101_0 x1 x2 I K) : GO S0 101 0 [vR 0, vI x1, vI x2] [] I K := by
  unfold D101_0 at h
  refine G_loadR rc_101_0 rfl ?_
  refine G_loadI rc_101_1 rfl ?_
  refine G_call (as := [vR 0, vI x1]) (rest := []) rc_101_2 rfl rfl rfl (Nat.le_of_ble_eq_true rfl) (g_recv s0_0 rfl) ?_
  refine GO.imp h (fun v I1 h => ?_)
  obtain ⟨y2, rfl, h⟩ := h
  show GO S0 101 5 [vR 0, vI x1, vI x2] [vI y2] I1 K
  refine G_i1 (C := ¬ y2 = 0) rc_101_5 rfl (fun c3 => ?_) (fun c3 => ?_)
  · rw [if_neg c3] at h
    show GO S0 101 10 [vR 0, vI x1, vI x2] [] I1 K
    refine G_loadI rc_101_10 rfl ?_
    refine G_const rc_101_11 (by decide) ?_
    refine G_const rc_101_12 (by decide) ?_
    refine G_call (as := [vI x2, vI 1, vI 4]) (rest := []) rc_101_13 rfl rfl rfl (Nat.le_of_ble_eq_true rfl) rfl ?_
    refine GO.imp h (fun v I4 h => ?_)
    obtain ⟨y5, rfl, h⟩ := h
    show GO S0 101 16 [vR 0, vI x1, vI x2] [vI y5] I4 K
    refine G_i1 (C := ¬ y5 = 0) rc_101_16 rfl (fun c6 => ?_) (fun c6 => ?_)
    · rw [if_neg c6] at h
      show GO S0 101 22 [vR 0, vI x1, vI x2] [] I4 K
      refine G_loadR rc_101_22 rfl ?_
      refine G_getR rc_101_23 s0_0 (by decide) rfl (by decide) ?_
      show GO S0 101 26 [vR 0, vI x1, vI x2] [vR 29] I4 K
      refine G_loadI rc_101_26 rfl ?_
      refine G_call (as := [vR 29, vI x1]) (rest := []) rc_101_27 rfl rfl rfl (Nat.le_of_ble_eq_true rfl) (g_recv s0_29 rfl) ?_
      refine GO.imp h (fun v I7 h => ?_)
      obtain ⟨y8, rfl, h⟩ := h
      show GO S0 101 30 [vR 0, vI x1, vI x2] [vI y8] I7 K
      refine G_const rc_101_30 (by decide) ?_
      refine G_i2 (C := y8 = -1) rc_101_31 rfl (fun c9 => ?_) (fun c9 => ?_)
      · rw [if_pos c9] at h
        show GO S0 101 37 [vR 0, vI x1, vI x2] [] I7 K
        refine G_loadR rc_101_37 rfl ?_
        refine G_getR rc_101_38 s0_0 (by decide) rfl (by decide) ?_
        show GO S0 101 41 [vR 0, vI x1, vI x2] [vR 204] I7 K
        refine G_loadI rc_101_41 rfl ?_
        refine G_call (as := [vR 204, vI x1]) (rest := []) rc_101_42 rfl rfl rfl (Nat.le_of_ble_eq_true rfl) (g_recv s0_204 rfl) ?_
        refine GO.imp h (fun v I10 h => ?_)
        obtain ⟨rfl, h⟩ := h
        show GO S0 101 45 [vR 0, vI x1, vI x2] [] I10 K
        refine G_loadR rc_101_45 rfl ?_
        refine G_getR rc_101_46 s0_0 (by decide) rfl (by decide) ?_
        show GO S0 101 49 [vR 0, vI x1, vI x2] [vR 204] I10 K
        refine G_loadI rc_101_49 rfl ?_
        refine G_call (as := [vR 204, vI x2]) (rest := []) rc_101_50 rfl rfl rfl (Nat.le_of_ble_eq_true rfl) (g_recv s0_204 rfl) ?_
        refine GO.imp h (fun v I11 h => ?_)
        obtain ⟨y12, rfl, h⟩ := h
        show GO S0 101 53 [vR 0, vI x1, vI x2] [vI y12] I11 K
        exact G_retI rc_101_53 (Or.inl rfl) h
      · rw [if_neg c9] at h
        show GO S0 101 34 [vR 0, vI x1, vI x2] [] I7 K
        refine G_const rc_101_34 (by decide) ?_
        exact G_retI rc_101_36 (Or.inl rfl) h
    · rw [if_pos (Classical.not_not.mp c6)] at h
      show GO S0 101 19 [vR 0, vI x1, vI x2] [] I4 K
      refine G_const rc_101_19 (by decide) ?_
      exact G_retI rc_101_21 (Or.inl rfl) h
  · rw [if_pos (Classical.not_not.mp c3)] at h
    show GO S0 101 8 [vR 0, vI x1, vI x2] [] I1 K
    refine G_const rc_101_8 (by decide) ?_
    exact G_retI rc_101_9 (Or.inl rfl) h
/-! 102: RoundSlack$Filling.regretBy(I)I -/
def D102_72 (x1 : Int) (x2 : Int) (x3 : Int) (I : IM) (K : Option AV → IM → Prop) : Prop :=
  (if x1 ≤ x3 then (K (some (vI x2)) I) else ((if (4 : Int) ≤ x3 then (K (some (vI x2)) I) else ((0 ≤ x3 ∧ x3 < 4) ∧ (inR ((I 207 (x3).toNat) - (I 207 0))) ∧ (inR (x2 + ((I 207 (x3).toNat) - (I 207 0)))) ∧ (inR (x3 + 1)) ∧ GO S0 102 72 [vR 204, vI x1, vI (x2 + ((I 207 (x3).toNat) - (I 207 0))), vI (x3 + 1)] [] I K))))
set_option maxRecDepth 10000 in
theorem g102_72 (x1 : Int) (x2 : Int) (x3 : Int) (I : IM) (K : Option AV → IM → Prop) (h : D102_72 x1 x2 x3 I K) : GO S0 102 72 [vR 204, vI x1, vI x2, vI x3] [] I K := by
  unfold D102_72 at h
  refine G_loadI rc_102_72 rfl ?_
  refine G_loadI rc_102_73 rfl ?_
  refine G_i2 (C := x1 ≤ x3) rc_102_74 rfl (fun c1 => ?_) (fun c1 => ?_)
  · rw [if_pos c1] at h
    show GO S0 102 104 [vR 204, vI x1, vI x2, vI x3] [] I K
    refine G_loadI rc_102_104 rfl ?_
    exact G_retI rc_102_105 (Or.inl rfl) h
  · rw [if_neg c1] at h
    show GO S0 102 77 [vR 204, vI x1, vI x2, vI x3] [] I K
    refine G_loadI rc_102_77 rfl ?_
    refine G_const rc_102_78 (by decide) ?_
    refine G_i2 (C := (4 : Int) ≤ x3) rc_102_79 rfl (fun c2 => ?_) (fun c2 => ?_)
    · rw [if_pos c2] at h
      show GO S0 102 104 [vR 204, vI x1, vI x2, vI x3] [] I K
      refine G_loadI rc_102_104 rfl ?_
      exact G_retI rc_102_105 (Or.inl rfl) h
    · rw [if_neg c2] at h
      show GO S0 102 82 [vR 204, vI x1, vI x2, vI x3] [] I K
      refine G_loadI rc_102_82 rfl ?_
      refine G_loadR rc_102_83 rfl ?_
      refine G_getR rc_102_84 s0_204 (by decide) rfl (by decide) ?_
      show GO S0 102 87 [vR 204, vI x1, vI x2, vI x3] [vR 207, vI x2] I K
      refine G_loadI rc_102_87 rfl ?_
      obtain ⟨c3, h⟩ := h
      refine G_ald rc_102_88 s0_207 (by omega) (by omega) ?_
      show GO S0 102 89 [vR 204, vI x1, vI x2, vI x3] [vI (I 207 (x3).toNat), vI x2] I K
      refine G_loadR rc_102_89 rfl ?_
      refine G_getR rc_102_90 s0_204 (by decide) rfl (by decide) ?_
      show GO S0 102 93 [vR 204, vI x1, vI x2, vI x3] [vR 207, vI (I 207 (x3).toNat), vI x2] I K
      refine G_const rc_102_93 (by decide) ?_
      refine G_ald rc_102_94 s0_207 (by decide) (by decide) ?_
      show GO S0 102 95 [vR 204, vI x1, vI x2, vI x3] [vI (I 207 0), vI (I 207 (x3).toNat), vI x2] I K
      obtain ⟨c4, h⟩ := h
      refine G_bop (z := (I 207 (x3).toNat) - (I 207 0)) rc_102_95 (if_pos c4) ?_
      show GO S0 102 96 [vR 204, vI x1, vI x2, vI x3] [vI ((I 207 (x3).toNat) - (I 207 0)), vI x2] I K
      obtain ⟨c5, h⟩ := h
      refine G_bop (z := x2 + ((I 207 (x3).toNat) - (I 207 0))) rc_102_96 (if_pos c5) ?_
      show GO S0 102 97 [vR 204, vI x1, vI x2, vI x3] [vI (x2 + ((I 207 (x3).toNat) - (I 207 0)))] I K
      refine G_storeI rc_102_97 (Nat.le_of_ble_eq_true rfl) ?_
      show GO S0 102 98 [vR 204, vI x1, vI (x2 + ((I 207 (x3).toNat) - (I 207 0))), vI x3] [] I K
      obtain ⟨c6, h⟩ := h
      refine G_iinc rc_102_98 rfl c6 ?_
      show GO S0 102 101 [vR 204, vI x1, vI (x2 + ((I 207 (x3).toNat) - (I 207 0))), vI (x3 + 1)] [] I K
      refine G_goto rc_102_101 ?_
      show GO S0 102 72 [vR 204, vI x1, vI (x2 + ((I 207 (x3).toNat) - (I 207 0))), vI (x3 + 1)] [] I K
      exact h
def D102_50 (x1 : Int) (x2 : Int) (x3 : Int) (I : IM) (K : Option AV → IM → Prop) : Prop :=
  (0 ≤ x2 ∧ x2 < 4) ∧ (0 ≤ x3 ∧ x3 < 4) ∧ ∀ I3 : IM, I3 = iup I 207 (x3).toNat (I 205 (x2).toNat) → (inR (x2 + 1)) ∧ GO S0 102 2 [vR 204, vI x1, vI (x2 + 1), vI x3] [] I3 K
set_option maxRecDepth 10000 in
theorem g102_50 (x1 : Int) (x2 : Int) (x3 : Int) (I : IM) (K : Option AV → IM → Prop) (h : D102_50 x1 x2 x3 I K) : GO S0 102 50 [vR 204, vI x1, vI x2, vI x3] [] I K := by
  unfold D102_50 at h
  refine G_loadR rc_102_50 rfl ?_
  refine G_getR rc_102_51 s0_204 (by decide) rfl (by decide) ?_
  show GO S0 102 54 [vR 204, vI x1, vI x2, vI x3] [vR 207] I K
  refine G_loadI rc_102_54 rfl ?_
  refine G_loadR rc_102_55 rfl ?_
  refine G_getR rc_102_56 s0_204 (by decide) rfl (by decide) ?_
  show GO S0 102 59 [vR 204, vI x1, vI x2, vI x3] [vR 205, vI x3, vR 207] I K
  refine G_loadI rc_102_59 rfl ?_
  obtain ⟨c1, h⟩ := h
  refine G_ald rc_102_60 s0_205 (by omega) (by omega) ?_
  show GO S0 102 61 [vR 204, vI x1, vI x2, vI x3] [vI (I 205 (x2).toNat), vI x3, vR 207] I K
  obtain ⟨c2, h⟩ := h
  refine G_ast rc_102_61 s0_207 (by omega) (by omega) (Or.inl rfl) ?_
  show GO S0 102 62 [vR 204, vI x1, vI x2, vI x3] [] (iup I 207 (x3).toNat (I 205 (x2).toNat)) K
  have h := h _ rfl
  generalize iup I 207 (x3).toNat (I 205 (x2).toNat) = I3 at h ⊢
  obtain ⟨c4, h⟩ := h
  refine G_iinc rc_102_62 rfl c4 ?_
  show GO S0 102 65 [vR 204, vI x1, vI (x2 + 1), vI x3] [] I3 K
  refine G_goto rc_102_65 ?_
  show GO S0 102 2 [vR 204, vI x1, vI (x2 + 1), vI x3] [] I3 K
  exact h
def D102_9 (x1 : Int) (x2 : Int) (x3 : Int) (I : IM) (K : Option AV → IM → Prop) : Prop :=
  (if x3 ≤ 0 then (D102_50 x1 x2 x3 I K) else ((inR (x3 - 1)) ∧ (0 ≤ x3 - 1 ∧ x3 - 1 < 4) ∧ (0 ≤ x2 ∧ x2 < 4) ∧ (if I 207 (x3 - 1).toNat ≤ I 205 (x2).toNat then (D102_50 x1 x2 x3 I K) else ((0 ≤ x3 ∧ x3 < 4) ∧ ∀ I7 : IM, I7 = iup I 207 (x3).toNat (I 207 (x3 - 1).toNat) → (inR (x3 + (-1))) ∧ GO S0 102 9 [vR 204, vI x1, vI x2, vI (x3 + (-1))] [] I7 K))))
set_option maxRecDepth 10000 in
theorem g102_9 (x1 : Int) (x2 : Int) (x3 : Int) (I : IM) (K : Option AV → IM → Prop) (h : D102_9 x1 x2 x3 I K) : GO S0 102 9 [vR 204, vI x1, vI x2, vI x3] [] I K := by
  unfold D102_9 at h
  refine G_loadI rc_102_9 rfl ?_
  refine G_i1 (C := x3 ≤ 0) rc_102_10 rfl (fun c1 => ?_) (fun c1 => ?_)
  · rw [if_pos c1] at h
    show GO S0 102 50 [vR 204, vI x1, vI x2, vI x3] [] I K
    exact g102_50 x1 x2 x3 I K h
  · rw [if_neg c1] at h
    show GO S0 102 13 [vR 204, vI x1, vI x2, vI x3] [] I K
    refine G_loadR rc_102_13 rfl ?_
    refine G_getR rc_102_14 s0_204 (by decide) rfl (by decide) ?_
    show GO S0 102 17 [vR 204, vI x1, vI x2, vI x3] [vR 207] I K
    refine G_loadI rc_102_17 rfl ?_
    refine G_const rc_102_18 (by decide) ?_
    obtain ⟨c2, h⟩ := h
    refine G_bop (z := x3 - 1) rc_102_19 (if_pos c2) ?_
    show GO S0 102 20 [vR 204, vI x1, vI x2, vI x3] [vI (x3 - 1), vR 207] I K
    obtain ⟨c3, h⟩ := h
    refine G_ald rc_102_20 s0_207 (by omega) (by omega) ?_
    show GO S0 102 21 [vR 204, vI x1, vI x2, vI x3] [vI (I 207 (x3 - 1).toNat)] I K
    refine G_loadR rc_102_21 rfl ?_
    refine G_getR rc_102_22 s0_204 (by decide) rfl (by decide) ?_
    show GO S0 102 25 [vR 204, vI x1, vI x2, vI x3] [vR 205, vI (I 207 (x3 - 1).toNat)] I K
    refine G_loadI rc_102_25 rfl ?_
    obtain ⟨c4, h⟩ := h
    refine G_ald rc_102_26 s0_205 (by omega) (by omega) ?_
    show GO S0 102 27 [vR 204, vI x1, vI x2, vI x3] [vI (I 205 (x2).toNat), vI (I 207 (x3 - 1).toNat)] I K
    refine G_i2 (C := I 207 (x3 - 1).toNat ≤ I 205 (x2).toNat) rc_102_27 rfl (fun c5 => ?_) (fun c5 => ?_)
    · rw [if_pos c5] at h
      show GO S0 102 50 [vR 204, vI x1, vI x2, vI x3] [] I K
      exact g102_50 x1 x2 x3 I K h
    · rw [if_neg c5] at h
      show GO S0 102 30 [vR 204, vI x1, vI x2, vI x3] [] I K
      refine G_loadR rc_102_30 rfl ?_
      refine G_getR rc_102_31 s0_204 (by decide) rfl (by decide) ?_
      show GO S0 102 34 [vR 204, vI x1, vI x2, vI x3] [vR 207] I K
      refine G_loadI rc_102_34 rfl ?_
      refine G_loadR rc_102_35 rfl ?_
      refine G_getR rc_102_36 s0_204 (by decide) rfl (by decide) ?_
      show GO S0 102 39 [vR 204, vI x1, vI x2, vI x3] [vR 207, vI x3, vR 207] I K
      refine G_loadI rc_102_39 rfl ?_
      refine G_const rc_102_40 (by decide) ?_
      refine G_bop (z := x3 - 1) rc_102_41 (if_pos c2) ?_
      show GO S0 102 42 [vR 204, vI x1, vI x2, vI x3] [vI (x3 - 1), vR 207, vI x3, vR 207] I K
      refine G_ald rc_102_42 s0_207 (by omega) (by omega) ?_
      show GO S0 102 43 [vR 204, vI x1, vI x2, vI x3] [vI (I 207 (x3 - 1).toNat), vI x3, vR 207] I K
      obtain ⟨c6, h⟩ := h
      refine G_ast rc_102_43 s0_207 (by omega) (by omega) (Or.inl rfl) ?_
      show GO S0 102 44 [vR 204, vI x1, vI x2, vI x3] [] (iup I 207 (x3).toNat (I 207 (x3 - 1).toNat)) K
      have h := h _ rfl
      generalize iup I 207 (x3).toNat (I 207 (x3 - 1).toNat) = I7 at h ⊢
      obtain ⟨c8, h⟩ := h
      refine G_iinc rc_102_44 rfl c8 ?_
      show GO S0 102 47 [vR 204, vI x1, vI x2, vI (x3 + (-1))] [] I7 K
      refine G_goto rc_102_47 ?_
      show GO S0 102 9 [vR 204, vI x1, vI x2, vI (x3 + (-1))] [] I7 K
      exact h
def D102_2 (x1 : Int) (x2 : Int) (u3 : AV) (I : IM) (K : Option AV → IM → Prop) : Prop :=
  (if (4 : Int) ≤ x2 then (GO S0 102 72 [vR 204, vI x1, vI 0, vI 1] [] I K) else (GO S0 102 9 [vR 204, vI x1, vI x2, vI x2] [] I K))
set_option maxRecDepth 10000 in
theorem g102_2 (x1 : Int) (x2 : Int) (u3 : AV) (I : IM) (K : Option AV → IM → Prop) (h : D102_2 x1 x2 u3 I K) : GO S0 102 2 [vR 204, vI x1, vI x2, u3] [] I K := by
  unfold D102_2 at h
  refine G_loadI rc_102_2 rfl ?_
  refine G_const rc_102_3 (by decide) ?_
  refine G_i2 (C := (4 : Int) ≤ x2) rc_102_4 rfl (fun c1 => ?_) (fun c1 => ?_)
  · rw [if_pos c1] at h
    show GO S0 102 68 [vR 204, vI x1, vI x2, u3] [] I K
    refine G_const rc_102_68 (by decide) ?_
    refine G_storeI rc_102_69 (Nat.le_of_ble_eq_true rfl) ?_
    show GO S0 102 70 [vR 204, vI x1, vI 0, u3] [] I K
    refine G_const rc_102_70 (by decide) ?_
    refine G_storeI rc_102_71 (Nat.le_of_ble_eq_true rfl) ?_
    show GO S0 102 72 [vR 204, vI x1, vI 0, vI 1] [] I K
    exact h
  · rw [if_neg c1] at h
    show GO S0 102 7 [vR 204, vI x1, vI x2, u3] [] I K
    refine G_loadI rc_102_7 rfl ?_
    refine G_storeI rc_102_8 (Nat.le_of_ble_eq_true rfl) ?_
    show GO S0 102 9 [vR 204, vI x1, vI x2, vI x2] [] I K
    exact h
def D102_0 (x1 : Int) (I : IM) (K : Option AV → IM → Prop) : Prop :=
  GO S0 102 2 [vR 204, vI x1, vI 0, vU] [] I K
set_option maxRecDepth 10000 in
theorem g102_0 (x1 : Int) (I : IM) (K : Option AV → IM → Prop) (h : D102_0 x1 I K) : GO S0 102 0 [vR 204, vI x1, vU, vU] [] I K := by
  unfold D102_0 at h
  refine G_const rc_102_0 (by decide) ?_
  refine G_storeI rc_102_1 (Nat.le_of_ble_eq_true rfl) ?_
  show GO S0 102 2 [vR 204, vI x1, vI 0, vU] [] I K
  exact h
/-! 103: RoundSlack.first(I)I -/
def D103_0 (x1 : Int) (I : IM) (K : Option AV → IM → Prop) : Prop :=
  CALL S0 14 [vI x1, vI 1, vI 4] I (fun v I1 => ∃ y2 : Int, v = some (vI y2) ∧ (if y2 = 0 then (K (some (vI (-2))) I1) else (CALL S0 104 [vR 204, vI x1] I1 (fun v I4 => v = none ∧ CALL S0 59 [vI (I4 204 6)] I4 (fun v I5 => ∃ y6 : Int, v = some (vI y6) ∧ K (some (vI y6)) I5)))))
set_option maxRecDepth 10000 in
theorem g103_0 (x1 : Int) (I : IM) (K : Option AV → IM → Prop) (h : D103_0 x1 I K) : GO S0 103 0 [vR 0, vI x1] [] I K := by
  unfold D103_0 at h
  refine G_loadI rc_103_0 rfl ?_
  refine G_const rc_103_1 (by decide) ?_
  refine G_const rc_103_2 (by decide) ?_
  refine G_call (as := [vI x1, vI 1, vI 4]) (rest := []) rc_103_3 rfl rfl rfl (Nat.le_of_ble_eq_true rfl) rfl ?_
  refine GO.imp h (fun v I1 h => ?_)
  obtain ⟨y2, rfl, h⟩ := h
  show GO S0 103 6 [vR 0, vI x1] [vI y2] I1 K
  refine G_i1 (C := ¬ y2 = 0) rc_103_6 rfl (fun c3 => ?_) (fun c3 => ?_)
  · rw [if_neg c3] at h
    show GO S0 103 12 [vR 0, vI x1] [] I1 K
    refine G_loadR rc_103_12 rfl ?_
    refine G_getR rc_103_13 s0_0 (by decide) rfl (by decide) ?_
    show GO S0 103 16 [vR 0, vI x1] [vR 204] I1 K
    refine G_loadI rc_103_16 rfl ?_
    refine G_call (as := [vR 204, vI x1]) (rest := []) rc_103_17 rfl rfl rfl (Nat.le_of_ble_eq_true rfl) (g_recv s0_204 rfl) ?_
    refine GO.imp h (fun v I4 h => ?_)
    obtain ⟨rfl, h⟩ := h
    show GO S0 103 20 [vR 0, vI x1] [] I4 K
    refine G_loadR rc_103_20 rfl ?_
    refine G_getR rc_103_21 s0_0 (by decide) rfl (by decide) ?_
    show GO S0 103 24 [vR 0, vI x1] [vR 204] I4 K
    refine G_getI rc_103_24 s0_204 (by decide) ?_
    show GO S0 103 27 [vR 0, vI x1] [vI (I4 204 6)] I4 K
    refine G_call (as := [vI (I4 204 6)]) (rest := []) rc_103_27 rfl rfl rfl (Nat.le_of_ble_eq_true rfl) rfl ?_
    refine GO.imp h (fun v I5 h => ?_)
    obtain ⟨y6, rfl, h⟩ := h
    show GO S0 103 30 [vR 0, vI x1] [vI y6] I5 K
    exact G_retI rc_103_30 (Or.inl rfl) h
  · rw [if_pos (Classical.not_not.mp c3)] at h
    show GO S0 103 9 [vR 0, vI x1] [] I1 K
    refine G_const rc_103_9 (by decide) ?_
    exact G_retI rc_103_11 (Or.inl rfl) h
/-! 104: RoundSlack$Filling.choose(I)V -/
def D104_112 (x1 : Int) (x2 : Int) (x3 : Int) (x4 : Int) (x5 : Int) (x6 : Int) (x7 : Int) (I : IM) (K : Option AV → IM → Prop) : Prop :=
  ∀ I1 : IM, I1 = iup I 204 6 x5 → ∀ I2 : IM, I2 = iup I1 204 7 x6 → (0 ≤ x6 ∧ x6 < 4) ∧ ∀ I4 : IM, I4 = iup I2 204 8 (I2 206 (x6).toNat) → (inR (x5 + 1)) ∧ GO S0 104 21 [vR 204, vI x1, vI x7, vI (I4 205 (x6).toNat), vI x4, vI (x5 + 1), vI x6, vI x7] [] I4 K
set_option maxRecDepth 10000 in
theorem g104_112 (x1 : Int) (x2 : Int) (x3 : Int) (x4 : Int) (x5 : Int) (x6 : Int) (x7 : Int) (I : IM) (K : Option AV → IM → Prop) (h : D104_112 x1 x2 x3 x4 x5 x6 x7 I K) : GO S0 104 112 [vR 204, vI x1, vI x2, vI x3, vI x4, vI x5, vI x6, vI x7] [] I K := by
  unfold D104_112 at h
  refine G_loadR rc_104_112 rfl ?_
  refine G_loadI rc_104_113 rfl ?_
  refine G_putI rc_104_115 s0_204 (by decide) (Or.inl rfl) ?_
  show GO S0 104 118 [vR 204, vI x1, vI x2, vI x3, vI x4, vI x5, vI x6, vI x7] [] (iup I 204 6 x5) K
  have h := h _ rfl
  generalize iup I 204 6 x5 = I1 at h ⊢
  refine G_loadR rc_104_118 rfl ?_
  refine G_loadI rc_104_119 rfl ?_
  refine G_putI rc_104_121 s0_204 (by decide) (Or.inl rfl) ?_
  show GO S0 104 124 [vR 204, vI x1, vI x2, vI x3, vI x4, vI x5, vI x6, vI x7] [] (iup I1 204 7 x6) K
  have h := h _ rfl
  generalize iup I1 204 7 x6 = I2 at h ⊢
  refine G_loadR rc_104_124 rfl ?_
  refine G_loadR rc_104_125 rfl ?_
  refine G_getR rc_104_126 s0_204 (by decide) rfl (by decide) ?_
  show GO S0 104 129 [vR 204, vI x1, vI x2, vI x3, vI x4, vI x5, vI x6, vI x7] [vR 206, vR 204] I2 K
  refine G_loadI rc_104_129 rfl ?_
  obtain ⟨c3, h⟩ := h
  refine G_ald rc_104_131 s0_206 (by omega) (by omega) ?_
  show GO S0 104 132 [vR 204, vI x1, vI x2, vI x3, vI x4, vI x5, vI x6, vI x7] [vI (I2 206 (x6).toNat), vR 204] I2 K
  refine G_putI rc_104_132 s0_204 (by decide) (Or.inl rfl) ?_
  show GO S0 104 135 [vR 204, vI x1, vI x2, vI x3, vI x4, vI x5, vI x6, vI x7] [] (iup I2 204 8 (I2 206 (x6).toNat)) K
  have h := h _ rfl
  generalize iup I2 204 8 (I2 206 (x6).toNat) = I4 at h ⊢
  refine G_loadI rc_104_135 rfl ?_
  refine G_storeI rc_104_137 (Nat.le_of_ble_eq_true rfl) ?_
  show GO S0 104 138 [vR 204, vI x1, vI x7, vI x3, vI x4, vI x5, vI x6, vI x7] [] I4 K
  refine G_loadR rc_104_138 rfl ?_
  refine G_getR rc_104_139 s0_204 (by decide) rfl (by decide) ?_
  show GO S0 104 142 [vR 204, vI x1, vI x7, vI x3, vI x4, vI x5, vI x6, vI x7] [vR 205] I4 K
  refine G_loadI rc_104_142 rfl ?_
  refine G_ald rc_104_144 s0_205 (by omega) (by omega) ?_
  show GO S0 104 145 [vR 204, vI x1, vI x7, vI x3, vI x4, vI x5, vI x6, vI x7] [vI (I4 205 (x6).toNat)] I4 K
  refine G_storeI rc_104_145 (Nat.le_of_ble_eq_true rfl) ?_
  show GO S0 104 146 [vR 204, vI x1, vI x7, vI (I4 205 (x6).toNat), vI x4, vI x5, vI x6, vI x7] [] I4 K
  obtain ⟨c5, h⟩ := h
  refine G_iinc rc_104_146 rfl c5 ?_
  show GO S0 104 149 [vR 204, vI x1, vI x7, vI (I4 205 (x6).toNat), vI x4, vI (x5 + 1), vI x6, vI x7] [] I4 K
  refine G_goto rc_104_149 ?_
  show GO S0 104 21 [vR 204, vI x1, vI x7, vI (I4 205 (x6).toNat), vI x4, vI (x5 + 1), vI x6, vI x7] [] I4 K
  exact h
def D104_21 (x1 : Int) (x2 : Int) (x3 : Int) (x4 : Int) (x5 : Int) (u6 : AV) (u7 : AV) (I : IM) (K : Option AV → IM → Prop) : Prop :=
  (if I 1 0 ≤ x5 then (K none I) else ((if iandF (ishrF x4 x5) 1 = 1 then ((inR (x5 + 1)) ∧ GO S0 104 21 [vR 204, vI x1, vI x2, vI x3, vI x4, vI (x5 + 1), u6, u7] [] I K) else (CALL S0 99 [vR 204, vI x5] I (fun v I3 => v = none ∧ CALL S0 105 [vR 204] I3 (fun v I4 => ∃ y5 : Int, v = some (vI y5) ∧ (0 ≤ y5 ∧ y5 < 4) ∧ (if I4 205 (y5).toNat = 100000 then ((inR (x5 + 1)) ∧ GO S0 104 21 [vR 204, vI x1, vI x2, vI x3, vI x4, vI (x5 + 1), vI y5, u7] [] I4 K) else (CALL S0 102 [vR 204, vI x1] I4 (fun v I8 => ∃ y9 : Int, v = some (vI y9) ∧ (if I8 204 6 = -1 then (D104_112 x1 x2 x3 x4 x5 y5 y9 I8 K) else ((if x2 < y9 then (D104_112 x1 x2 x3 x4 x5 y5 y9 I8 K) else ((if y9 = x2 then ((if x3 ≤ I8 205 (y5).toNat then ((inR (x5 + 1)) ∧ GO S0 104 21 [vR 204, vI x1, vI x2, vI x3, vI x4, vI (x5 + 1), vI y5, vI y9] [] I8 K) else (D104_112 x1 x2 x3 x4 x5 y5 y9 I8 K))) else ((inR (x5 + 1)) ∧ GO S0 104 21 [vR 204, vI x1, vI x2, vI x3, vI x4, vI (x5 + 1), vI y5, vI y9] [] I8 K)))))))))))))))
set_option maxRecDepth 10000 in
theorem g104_21 (x1 : Int) (x2 : Int) (x3 : Int) (x4 : Int) (x5 : Int) (u6 : AV) (u7 : AV) (I : IM) (K : Option AV → IM → Prop) (h : D104_21 x1 x2 x3 x4 x5 u6 u7 I K) : GO S0 104 21 [vR 204, vI x1, vI x2, vI x3, vI x4, vI x5, u6, u7] [] I K := by
  unfold D104_21 at h
  refine G_loadI rc_104_21 rfl ?_
  refine G_loadR rc_104_23 rfl ?_
  refine G_getR rc_104_24 s0_204 (by decide) rfl (by decide) ?_
  show GO S0 104 27 [vR 204, vI x1, vI x2, vI x3, vI x4, vI x5, u6, u7] [vR 1, vI x5] I K
  refine G_getI rc_104_27 s0_1 (by decide) ?_
  show GO S0 104 30 [vR 204, vI x1, vI x2, vI x3, vI x4, vI x5, u6, u7] [vI (I 1 0), vI x5] I K
  refine G_i2 (C := I 1 0 ≤ x5) rc_104_30 rfl (fun c1 => ?_) (fun c1 => ?_)
  · rw [if_pos c1] at h
    show GO S0 104 152 [vR 204, vI x1, vI x2, vI x3, vI x4, vI x5, u6, u7] [] I K
    exact G_ret0 rc_104_152 h
  · rw [if_neg c1] at h
    show GO S0 104 33 [vR 204, vI x1, vI x2, vI x3, vI x4, vI x5, u6, u7] [] I K
    refine G_loadI rc_104_33 rfl ?_
    refine G_loadI rc_104_35 rfl ?_
    refine G_bop (z := ishrF x4 x5) rc_104_37 rfl ?_
    show GO S0 104 38 [vR 204, vI x1, vI x2, vI x3, vI x4, vI x5, u6, u7] [vI (ishrF x4 x5)] I K
    refine G_const rc_104_38 (by decide) ?_
    refine G_bop (z := iandF (ishrF x4 x5) 1) rc_104_39 rfl ?_
    show GO S0 104 40 [vR 204, vI x1, vI x2, vI x3, vI x4, vI x5, u6, u7] [vI (iandF (ishrF x4 x5) 1)] I K
    refine G_const rc_104_40 (by decide) ?_
    refine G_i2 (C := ¬ iandF (ishrF x4 x5) 1 = 1) rc_104_41 rfl (fun c2 => ?_) (fun c2 => ?_)
    · rw [if_neg c2] at h
      show GO S0 104 47 [vR 204, vI x1, vI x2, vI x3, vI x4, vI x5, u6, u7] [] I K
      refine G_loadR rc_104_47 rfl ?_
      refine G_loadI rc_104_48 rfl ?_
      refine G_call (as := [vR 204, vI x5]) (rest := []) rc_104_50 rfl rfl rfl (Nat.le_of_ble_eq_true rfl) (g_recv s0_204 rfl) ?_
      refine GO.imp h (fun v I3 h => ?_)
      obtain ⟨rfl, h⟩ := h
      show GO S0 104 53 [vR 204, vI x1, vI x2, vI x3, vI x4, vI x5, u6, u7] [] I3 K
      refine G_loadR rc_104_53 rfl ?_
      refine G_call (as := [vR 204]) (rest := []) rc_104_54 rfl rfl rfl (Nat.le_of_ble_eq_true rfl) (g_recv s0_204 rfl) ?_
      refine GO.imp h (fun v I4 h => ?_)
      obtain ⟨y5, rfl, h⟩ := h
      show GO S0 104 57 [vR 204, vI x1, vI x2, vI x3, vI x4, vI x5, u6, u7] [vI y5] I4 K
      refine G_storeI rc_104_57 (Nat.le_of_ble_eq_true rfl) ?_
      show GO S0 104 59 [vR 204, vI x1, vI x2, vI x3, vI x4, vI x5, vI y5, u7] [] I4 K
      refine G_loadR rc_104_59 rfl ?_
      refine G_getR rc_104_60 s0_204 (by decide) rfl (by decide) ?_
      show GO S0 104 63 [vR 204, vI x1, vI x2, vI x3, vI x4, vI x5, vI y5, u7] [vR 205] I4 K
      refine G_loadI rc_104_63 rfl ?_
      obtain ⟨c6, h⟩ := h
      refine G_ald rc_104_65 s0_205 (by omega) (by omega) ?_
      show GO S0 104 66 [vR 204, vI x1, vI x2, vI x3, vI x4, vI x5, vI y5, u7] [vI (I4 205 (y5).toNat)] I4 K
      refine G_const rc_104_66 (by decide) ?_
      refine G_i2 (C := ¬ I4 205 (y5).toNat = 100000) rc_104_68 rfl (fun c7 => ?_) (fun c7 => ?_)
      · rw [if_neg c7] at h
        show GO S0 104 74 [vR 204, vI x1, vI x2, vI x3, vI x4, vI x5, vI y5, u7] [] I4 K
        refine G_loadR rc_104_74 rfl ?_
        refine G_loadI rc_104_75 rfl ?_
        refine G_call (as := [vR 204, vI x1]) (rest := []) rc_104_76 rfl rfl rfl (Nat.le_of_ble_eq_true rfl) (g_recv s0_204 rfl) ?_
        refine GO.imp h (fun v I8 h => ?_)
        obtain ⟨y9, rfl, h⟩ := h
        show GO S0 104 79 [vR 204, vI x1, vI x2, vI x3, vI x4, vI x5, vI y5, u7] [vI y9] I8 K
        refine G_storeI rc_104_79 (Nat.le_of_ble_eq_true rfl) ?_
        show GO S0 104 81 [vR 204, vI x1, vI x2, vI x3, vI x4, vI x5, vI y5, vI y9] [] I8 K
        refine G_loadR rc_104_81 rfl ?_
        refine G_getI rc_104_82 s0_204 (by decide) ?_
        show GO S0 104 85 [vR 204, vI x1, vI x2, vI x3, vI x4, vI x5, vI y5, vI y9] [vI (I8 204 6)] I8 K
        refine G_const rc_104_85 (by decide) ?_
        refine G_i2 (C := I8 204 6 = -1) rc_104_86 rfl (fun c10 => ?_) (fun c10 => ?_)
        · rw [if_pos c10] at h
          show GO S0 104 112 [vR 204, vI x1, vI x2, vI x3, vI x4, vI x5, vI y5, vI y9] [] I8 K
          exact g104_112 x1 x2 x3 x4 x5 y5 y9 I8 K h
        · rw [if_neg c10] at h
          show GO S0 104 89 [vR 204, vI x1, vI x2, vI x3, vI x4, vI x5, vI y5, vI y9] [] I8 K
          refine G_loadI rc_104_89 rfl ?_
          refine G_loadI rc_104_91 rfl ?_
          refine G_i2 (C := x2 < y9) rc_104_92 rfl (fun c11 => ?_) (fun c11 => ?_)
          · rw [if_pos c11] at h
            show GO S0 104 112 [vR 204, vI x1, vI x2, vI x3, vI x4, vI x5, vI y5, vI y9] [] I8 K
            exact g104_112 x1 x2 x3 x4 x5 y5 y9 I8 K h
          · rw [if_neg c11] at h
            show GO S0 104 95 [vR 204, vI x1, vI x2, vI x3, vI x4, vI x5, vI y5, vI y9] [] I8 K
            refine G_loadI rc_104_95 rfl ?_
            refine G_loadI rc_104_97 rfl ?_
            refine G_i2 (C := ¬ y9 = x2) rc_104_98 rfl (fun c12 => ?_) (fun c12 => ?_)
            · rw [if_neg c12] at h
              show GO S0 104 146 [vR 204, vI x1, vI x2, vI x3, vI x4, vI x5, vI y5, vI y9] [] I8 K
              obtain ⟨c13, h⟩ := h
              refine G_iinc rc_104_146 rfl c13 ?_
              show GO S0 104 149 [vR 204, vI x1, vI x2, vI x3, vI x4, vI (x5 + 1), vI y5, vI y9] [] I8 K
              refine G_goto rc_104_149 ?_
              show GO S0 104 21 [vR 204, vI x1, vI x2, vI x3, vI x4, vI (x5 + 1), vI y5, vI y9] [] I8 K
              exact h
            · rw [if_pos (Classical.not_not.mp c12)] at h
              show GO S0 104 101 [vR 204, vI x1, vI x2, vI x3, vI x4, vI x5, vI y5, vI y9] [] I8 K
              refine G_loadR rc_104_101 rfl ?_
              refine G_getR rc_104_102 s0_204 (by decide) rfl (by decide) ?_
              show GO S0 104 105 [vR 204, vI x1, vI x2, vI x3, vI x4, vI x5, vI y5, vI y9] [vR 205] I8 K
              refine G_loadI rc_104_105 rfl ?_
              refine G_ald rc_104_107 s0_205 (by omega) (by omega) ?_
              show GO S0 104 108 [vR 204, vI x1, vI x2, vI x3, vI x4, vI x5, vI y5, vI y9] [vI (I8 205 (y5).toNat)] I8 K
              refine G_loadI rc_104_108 rfl ?_
              refine G_i2 (C := x3 ≤ I8 205 (y5).toNat) rc_104_109 rfl (fun c14 => ?_) (fun c14 => ?_)
              · rw [if_pos c14] at h
                show GO S0 104 146 [vR 204, vI x1, vI x2, vI x3, vI x4, vI x5, vI y5, vI y9] [] I8 K
                obtain ⟨c15, h⟩ := h
                refine G_iinc rc_104_146 rfl c15 ?_
                show GO S0 104 149 [vR 204, vI x1, vI x2, vI x3, vI x4, vI (x5 + 1), vI y5, vI y9] [] I8 K
                refine G_goto rc_104_149 ?_
                show GO S0 104 21 [vR 204, vI x1, vI x2, vI x3, vI x4, vI (x5 + 1), vI y5, vI y9] [] I8 K
                exact h
              · rw [if_neg c14] at h
                show GO S0 104 112 [vR 204, vI x1, vI x2, vI x3, vI x4, vI x5, vI y5, vI y9] [] I8 K
                exact g104_112 x1 x2 x3 x4 x5 y5 y9 I8 K h
      · rw [if_pos (Classical.not_not.mp c7)] at h
        show GO S0 104 71 [vR 204, vI x1, vI x2, vI x3, vI x4, vI x5, vI y5, u7] [] I4 K
        refine G_goto rc_104_71 ?_
        show GO S0 104 146 [vR 204, vI x1, vI x2, vI x3, vI x4, vI x5, vI y5, u7] [] I4 K
        obtain ⟨c16, h⟩ := h
        refine G_iinc rc_104_146 rfl c16 ?_
        show GO S0 104 149 [vR 204, vI x1, vI x2, vI x3, vI x4, vI (x5 + 1), vI y5, u7] [] I4 K
        refine G_goto rc_104_149 ?_
        show GO S0 104 21 [vR 204, vI x1, vI x2, vI x3, vI x4, vI (x5 + 1), vI y5, u7] [] I4 K
        exact h
    · rw [if_pos (Classical.not_not.mp c2)] at h
      show GO S0 104 44 [vR 204, vI x1, vI x2, vI x3, vI x4, vI x5, u6, u7] [] I K
      refine G_goto rc_104_44 ?_
      show GO S0 104 146 [vR 204, vI x1, vI x2, vI x3, vI x4, vI x5, u6, u7] [] I K
      obtain ⟨c17, h⟩ := h
      refine G_iinc rc_104_146 rfl c17 ?_
      show GO S0 104 149 [vR 204, vI x1, vI x2, vI x3, vI x4, vI (x5 + 1), u6, u7] [] I K
      refine G_goto rc_104_149 ?_
      show GO S0 104 21 [vR 204, vI x1, vI x2, vI x3, vI x4, vI (x5 + 1), u6, u7] [] I K
      exact h
def D104_0 (x1 : Int) (I : IM) (K : Option AV → IM → Prop) : Prop :=
  ∀ I1 : IM, I1 = iup I 204 6 (-1) → CALL S0 52 [vR 29] I1 (fun v I2 => ∃ y3 : Int, v = some (vI y3) ∧ GO S0 104 21 [vR 204, vI x1, vI 0, vI 0, vI y3, vI 0, vU, vU] [] I2 K)
set_option maxRecDepth 10000 in
theorem g104_0 (x1 : Int) (I : IM) (K : Option AV → IM → Prop) (h : D104_0 x1 I K) : GO S0 104 0 [vR 204, vI x1, vU, vU, vU, vU, vU, vU] [] I K := by
  unfold D104_0 at h
  refine G_loadR rc_104_0 rfl ?_
  refine G_const rc_104_1 (by decide) ?_
  refine G_putI rc_104_2 s0_204 (by decide) (Or.inl rfl) ?_
  show GO S0 104 5 [vR 204, vI x1, vU, vU, vU, vU, vU, vU] [] (iup I 204 6 (-1)) K
  have h := h _ rfl
  generalize iup I 204 6 (-1) = I1 at h ⊢
  refine G_const rc_104_5 (by decide) ?_
  refine G_storeI rc_104_6 (Nat.le_of_ble_eq_true rfl) ?_
  show GO S0 104 7 [vR 204, vI x1, vI 0, vU, vU, vU, vU, vU] [] I1 K
  refine G_const rc_104_7 (by decide) ?_
  refine G_storeI rc_104_8 (Nat.le_of_ble_eq_true rfl) ?_
  show GO S0 104 9 [vR 204, vI x1, vI 0, vI 0, vU, vU, vU, vU] [] I1 K
  refine G_loadR rc_104_9 rfl ?_
  refine G_getR rc_104_10 s0_204 (by decide) rfl (by decide) ?_
  show GO S0 104 13 [vR 204, vI x1, vI 0, vI 0, vU, vU, vU, vU] [vR 29] I1 K
  refine G_call (as := [vR 29]) (rest := []) rc_104_13 rfl rfl rfl (Nat.le_of_ble_eq_true rfl) (g_recv s0_29 rfl) ?_
  refine GO.imp h (fun v I2 h => ?_)
  obtain ⟨y3, rfl, h⟩ := h
  show GO S0 104 16 [vR 204, vI x1, vI 0, vI 0, vU, vU, vU, vU] [vI y3] I2 K
  refine G_storeI rc_104_16 (Nat.le_of_ble_eq_true rfl) ?_
  show GO S0 104 18 [vR 204, vI x1, vI 0, vI 0, vI y3, vU, vU, vU] [] I2 K
  refine G_const rc_104_18 (by decide) ?_
  refine G_storeI rc_104_19 (Nat.le_of_ble_eq_true rfl) ?_
  show GO S0 104 21 [vR 204, vI x1, vI 0, vI 0, vI y3, vI 0, vU, vU] [] I2 K
  exact h
