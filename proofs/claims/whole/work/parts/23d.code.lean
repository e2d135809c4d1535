/-! 156: RoundSlackModel.sizeOf([II)I -/
def D156_0 (q1 : Nat) (x2 : Int) (I : IM) (K : Option AV → IM → Prop) : Prop :=
  (inR (13 * x2)) ∧ (0 ≤ 13 * x2 ∧ 13 * x2 < 52) ∧ K (some (vI (I q1 (13 * x2).toNat))) I
set_option maxRecDepth 10000 in
theorem g156_0 (q1 : Nat) (x2 : Int) (f1 : S0[q1]? = some (100, 52, [])) (I : IM) (K : Option AV → IM → Prop) (h : D156_0 q1 x2 I K) : GO S0 156 0 [vR 237, vR q1, vI x2] [] I K := by
  unfold D156_0 at h
  refine G_loadR rc_156_0 rfl ?_
  refine G_const rc_156_1 (by decide) ?_
  refine G_loadI rc_156_3 rfl ?_
  obtain ⟨c1, h⟩ := h
  refine G_bop (z := 13 * x2) rc_156_4 (if_pos c1) ?_
  show GO S0 156 5 [vR 237, vR q1, vI x2] [vI (13 * x2), vR q1] I K
  obtain ⟨c2, h⟩ := h
  refine G_ald rc_156_5 f1 (by omega) (by omega) ?_
  show GO S0 156 6 [vR 237, vR q1, vI x2] [vI (I q1 (13 * x2).toNat)] I K
  exact G_retI rc_156_6 (Or.inl rfl) h
/-! 157: RoundSlackModel.putsIn([IIII)V -/
def D157_8 (q0 : Nat) (x1 : Int) (x2 : Int) (x3 : Int) (x4 : Int) (I : IM) (K : Option AV → IM → Prop) : Prop :=
  (if x4 ≤ x2 then ((inR (13 * x1)) ∧ (inR ((13 * x1) + 1)) ∧ (inR (((13 * x1) + 1) + x2)) ∧ (0 ≤ ((13 * x1) + 1) + x2 ∧ ((13 * x1) + 1) + x2 < 52) ∧ ∀ I6 : IM, I6 = iup I q0 (((13 * x1) + 1) + x2).toNat x3 → (0 ≤ 13 * x1 ∧ 13 * x1 < 52) ∧ (inR ((I6 q0 (13 * x1).toNat) + 1)) ∧ ∀ I9 : IM, I9 = iup I6 q0 (13 * x1).toNat ((I6 q0 (13 * x1).toNat) + 1) → K none I9) else ((inR (13 * x1)) ∧ (inR ((13 * x1) + 1)) ∧ (inR (((13 * x1) + 1) + x4)) ∧ (inR ((13 * x1) + x4)) ∧ (0 ≤ (13 * x1) + x4 ∧ (13 * x1) + x4 < 52) ∧ (0 ≤ ((13 * x1) + 1) + x4 ∧ ((13 * x1) + 1) + x4 < 52) ∧ ∀ I16 : IM, I16 = iup I q0 (((13 * x1) + 1) + x4).toNat (I q0 ((13 * x1) + x4).toNat) → (inR (x4 + (-1))) ∧ GO S0 157 8 [vR q0, vI x1, vI x2, vI x3, vI (x4 + (-1))] [] I16 K))
set_option maxRecDepth 10000 in
theorem g157_8 (q0 : Nat) (x1 : Int) (x2 : Int) (x3 : Int) (x4 : Int) (f0 : S0[q0]? = some (100, 52, [])) (I : IM) (K : Option AV → IM → Prop) (h : D157_8 q0 x1 x2 x3 x4 I K) : GO S0 157 8 [vR q0, vI x1, vI x2, vI x3, vI x4] [] I K := by
  unfold D157_8 at h
  refine G_loadI rc_157_8 rfl ?_
  refine G_loadI rc_157_10 rfl ?_
  refine G_i2 (C := x4 ≤ x2) rc_157_11 rfl (fun c1 => ?_) (fun c1 => ?_)
  · rw [if_pos c1] at h
    show GO S0 157 40 [vR q0, vI x1, vI x2, vI x3, vI x4] [] I K
    refine G_loadR rc_157_40 rfl ?_
    refine G_const rc_157_41 (by decide) ?_
    refine G_loadI rc_157_43 rfl ?_
    obtain ⟨c2, h⟩ := h
    refine G_bop (z := 13 * x1) rc_157_44 (if_pos c2) ?_
    show GO S0 157 45 [vR q0, vI x1, vI x2, vI x3, vI x4] [vI (13 * x1), vR q0] I K
    refine G_const rc_157_45 (by decide) ?_
    obtain ⟨c3, h⟩ := h
    refine G_bop (z := (13 * x1) + 1) rc_157_46 (if_pos c3) ?_
    show GO S0 157 47 [vR q0, vI x1, vI x2, vI x3, vI x4] [vI ((13 * x1) + 1), vR q0] I K
    refine G_loadI rc_157_47 rfl ?_
    obtain ⟨c4, h⟩ := h
    refine G_bop (z := ((13 * x1) + 1) + x2) rc_157_48 (if_pos c4) ?_
    show GO S0 157 49 [vR q0, vI x1, vI x2, vI x3, vI x4] [vI (((13 * x1) + 1) + x2), vR q0] I K
    refine G_loadI rc_157_49 rfl ?_
    obtain ⟨c5, h⟩ := h
    refine G_ast rc_157_50 f0 (by omega) (by omega) (Or.inl rfl) ?_
    show GO S0 157 51 [vR q0, vI x1, vI x2, vI x3, vI x4] [] (iup I q0 (((13 * x1) + 1) + x2).toNat x3) K
    have h := h _ rfl
    generalize iup I q0 (((13 * x1) + 1) + x2).toNat x3 = I6 at h ⊢
    refine G_loadR rc_157_51 rfl ?_
    refine G_const rc_157_52 (by decide) ?_
    refine G_loadI rc_157_54 rfl ?_
    refine G_bop (z := 13 * x1) rc_157_55 (if_pos c2) ?_
    show GO S0 157 56 [vR q0, vI x1, vI x2, vI x3, vI x4] [vI (13 * x1), vR q0] I6 K
    refine G_dup2 rc_157_56 ?_
    obtain ⟨c7, h⟩ := h
    refine G_ald rc_157_57 f0 (by omega) (by omega) ?_
    show GO S0 157 58 [vR q0, vI x1, vI x2, vI x3, vI x4] [vI (I6 q0 (13 * x1).toNat), vI (13 * x1), vR q0] I6 K
    refine G_const rc_157_58 (by decide) ?_
    obtain ⟨c8, h⟩ := h
    refine G_bop (z := (I6 q0 (13 * x1).toNat) + 1) rc_157_59 (if_pos c8) ?_
    show GO S0 157 60 [vR q0, vI x1, vI x2, vI x3, vI x4] [vI ((I6 q0 (13 * x1).toNat) + 1), vI (13 * x1), vR q0] I6 K
    refine G_ast rc_157_60 f0 (by omega) (by omega) (Or.inl rfl) ?_
    show GO S0 157 61 [vR q0, vI x1, vI x2, vI x3, vI x4] [] (iup I6 q0 (13 * x1).toNat ((I6 q0 (13 * x1).toNat) + 1)) K
    have h := h _ rfl
    generalize iup I6 q0 (13 * x1).toNat ((I6 q0 (13 * x1).toNat) + 1) = I9 at h ⊢
    exact G_ret0 rc_157_61 h
  · rw [if_neg c1] at h
    show GO S0 157 14 [vR q0, vI x1, vI x2, vI x3, vI x4] [] I K
    refine G_loadR rc_157_14 rfl ?_
    refine G_const rc_157_15 (by decide) ?_
    refine G_loadI rc_157_17 rfl ?_
    obtain ⟨c10, h⟩ := h
    refine G_bop (z := 13 * x1) rc_157_18 (if_pos c10) ?_
    show GO S0 157 19 [vR q0, vI x1, vI x2, vI x3, vI x4] [vI (13 * x1), vR q0] I K
    refine G_const rc_157_19 (by decide) ?_
    obtain ⟨c11, h⟩ := h
    refine G_bop (z := (13 * x1) + 1) rc_157_20 (if_pos c11) ?_
    show GO S0 157 21 [vR q0, vI x1, vI x2, vI x3, vI x4] [vI ((13 * x1) + 1), vR q0] I K
    refine G_loadI rc_157_21 rfl ?_
    obtain ⟨c12, h⟩ := h
    refine G_bop (z := ((13 * x1) + 1) + x4) rc_157_23 (if_pos c12) ?_
    show GO S0 157 24 [vR q0, vI x1, vI x2, vI x3, vI x4] [vI (((13 * x1) + 1) + x4), vR q0] I K
    refine G_loadR rc_157_24 rfl ?_
    refine G_const rc_157_25 (by decide) ?_
    refine G_loadI rc_157_27 rfl ?_
    refine G_bop (z := 13 * x1) rc_157_28 (if_pos c10) ?_
    show GO S0 157 29 [vR q0, vI x1, vI x2, vI x3, vI x4] [vI (13 * x1), vR q0, vI (((13 * x1) + 1) + x4), vR q0] I K
    refine G_loadI rc_157_29 rfl ?_
    obtain ⟨c13, h⟩ := h
    refine G_bop (z := (13 * x1) + x4) rc_157_31 (if_pos c13) ?_
    show GO S0 157 32 [vR q0, vI x1, vI x2, vI x3, vI x4] [vI ((13 * x1) + x4), vR q0, vI (((13 * x1) + 1) + x4), vR q0] I K
    obtain ⟨c14, h⟩ := h
    refine G_ald rc_157_32 f0 (by omega) (by omega) ?_
    show GO S0 157 33 [vR q0, vI x1, vI x2, vI x3, vI x4] [vI (I q0 ((13 * x1) + x4).toNat), vI (((13 * x1) + 1) + x4), vR q0] I K
    obtain ⟨c15, h⟩ := h
    refine G_ast rc_157_33 f0 (by omega) (by omega) (Or.inl rfl) ?_
    show GO S0 157 34 [vR q0, vI x1, vI x2, vI x3, vI x4] [] (iup I q0 (((13 * x1) + 1) + x4).toNat (I q0 ((13 * x1) + x4).toNat)) K
    have h := h _ rfl
    generalize iup I q0 (((13 * x1) + 1) + x4).toNat (I q0 ((13 * x1) + x4).toNat) = I16 at h ⊢
    obtain ⟨c17, h⟩ := h
    refine G_iinc rc_157_34 rfl c17 ?_
    show GO S0 157 37 [vR q0, vI x1, vI x2, vI x3, vI (x4 + (-1))] [] I16 K
    refine G_goto rc_157_37 ?_
    show GO S0 157 8 [vR q0, vI x1, vI x2, vI x3, vI (x4 + (-1))] [] I16 K
    exact h
def D157_0 (q0 : Nat) (x1 : Int) (x2 : Int) (x3 : Int) (I : IM) (K : Option AV → IM → Prop) : Prop :=
  (inR (13 * x1)) ∧ (0 ≤ 13 * x1 ∧ 13 * x1 < 52) ∧ GO S0 157 8 [vR q0, vI x1, vI x2, vI x3, vI (I q0 (13 * x1).toNat)] [] I K
set_option maxRecDepth 10000 in
theorem g157_0 (q0 : Nat) (x1 : Int) (x2 : Int) (x3 : Int) (f0 : S0[q0]? = some (100, 52, [])) (I : IM) (K : Option AV → IM → Prop) (h : D157_0 q0 x1 x2 x3 I K) : GO S0 157 0 [vR q0, vI x1, vI x2, vI x3, vU] [] I K := by
  unfold D157_0 at h
  refine G_loadR rc_157_0 rfl ?_
  refine G_const rc_157_1 (by decide) ?_
  refine G_loadI rc_157_3 rfl ?_
  obtain ⟨c1, h⟩ := h
  refine G_bop (z := 13 * x1) rc_157_4 (if_pos c1) ?_
  show GO S0 157 5 [vR q0, vI x1, vI x2, vI x3, vU] [vI (13 * x1), vR q0] I K
  obtain ⟨c2, h⟩ := h
  refine G_ald rc_157_5 f0 (by omega) (by omega) ?_
  show GO S0 157 6 [vR q0, vI x1, vI x2, vI x3, vU] [vI (I q0 (13 * x1).toNat)] I K
  refine G_storeI rc_157_6 (Nat.le_of_ble_eq_true rfl) ?_
  show GO S0 157 8 [vR q0, vI x1, vI x2, vI x3, vI (I q0 (13 * x1).toNat)] [] I K
  exact h
/-! 158: RoundSlackModel.isGood([I)Z -/
def D158_2 (q1 : Nat) (x2 : Int) (I : IM) (K : Option AV → IM → Prop) : Prop :=
  (if (4 : Int) ≤ x2 then (K (some (vI 1)) I) else (CALL S0 159 [vR 237, vR q1, vI x2] I (fun v I2 => ∃ y3 : Int, v = some (vI y3) ∧ (if y3 = 0 then (K (some (vI 0)) I2) else ((inR (x2 + 1)) ∧ GO S0 158 2 [vR 237, vR q1, vI (x2 + 1)] [] I2 K)))))
set_option maxRecDepth 10000 in
theorem g158_2 (q1 : Nat) (x2 : Int) (f1 : S0[q1]? = some (100, 52, [])) (I : IM) (K : Option AV → IM → Prop) (h : D158_2 q1 x2 I K) : GO S0 158 2 [vR 237, vR q1, vI x2] [] I K := by
  unfold D158_2 at h
  refine G_loadI rc_158_2 rfl ?_
  refine G_const rc_158_3 (by decide) ?_
  refine G_i2 (C := (4 : Int) ≤ x2) rc_158_4 rfl (fun c1 => ?_) (fun c1 => ?_)
  · rw [if_pos c1] at h
    show GO S0 158 24 [vR 237, vR q1, vI x2] [] I K
    refine G_const rc_158_24 (by decide) ?_
    exact G_retI rc_158_25 (Or.inr (by decide)) h
  · rw [if_neg c1] at h
    show GO S0 158 7 [vR 237, vR q1, vI x2] [] I K
    refine G_loadR rc_158_7 rfl ?_
    refine G_loadR rc_158_8 rfl ?_
    refine G_loadI rc_158_9 rfl ?_
    refine G_call (as := [vR 237, vR q1, vI x2]) (rest := []) rc_158_10 rfl rfl rfl (Nat.le_of_ble_eq_true rfl) (g_recv s0_237 rfl) ?_
    refine GO.imp h (fun v I2 h => ?_)
    obtain ⟨y3, rfl, h⟩ := h
    show GO S0 158 13 [vR 237, vR q1, vI x2] [vI y3] I2 K
    refine G_i1 (C := ¬ y3 = 0) rc_158_13 rfl (fun c4 => ?_) (fun c4 => ?_)
    · rw [if_neg c4] at h
      show GO S0 158 18 [vR 237, vR q1, vI x2] [] I2 K
      obtain ⟨c5, h⟩ := h
      refine G_iinc rc_158_18 rfl c5 ?_
      show GO S0 158 21 [vR 237, vR q1, vI (x2 + 1)] [] I2 K
      refine G_goto rc_158_21 ?_
      show GO S0 158 2 [vR 237, vR q1, vI (x2 + 1)] [] I2 K
      exact h
    · rw [if_pos (Classical.not_not.mp c4)] at h
      show GO S0 158 16 [vR 237, vR q1, vI x2] [] I2 K
      refine G_const rc_158_16 (by decide) ?_
      exact G_retI rc_158_17 (Or.inr (by decide)) h
def D158_0 (q1 : Nat) (I : IM) (K : Option AV → IM → Prop) : Prop :=
  GO S0 158 2 [vR 237, vR q1, vI 0] [] I K
set_option maxRecDepth 10000 in
theorem g158_0 (q1 : Nat) (f1 : S0[q1]? = some (100, 52, [])) (I : IM) (K : Option AV → IM → Prop) (h : D158_0 q1 I K) : GO S0 158 0 [vR 237, vR q1, vU] [] I K := by
  unfold D158_0 at h
  refine G_const rc_158_0 (by decide) ?_
  refine G_storeI rc_158_1 (Nat.le_of_ble_eq_true rfl) ?_
  show GO S0 158 2 [vR 237, vR q1, vI 0] [] I K
  exact h
/-! 159: RoundSlackModel.isGoodOf([II)Z -/
def D159_0 (q1 : Nat) (x2 : Int) (I : IM) (K : Option AV → IM → Prop) : Prop :=
  CALL S0 160 [vR 237, vR q1, vI x2] I (fun v I1 => v = none ∧ CALL S0 163 [vR 237, vI x2, vI (-1)] I1 (fun v I2 => ∃ y3 : Int, v = some (vI y3) ∧ (inR ((I2 237 8) - 1)) ∧ CALL S0 164 [vR 237, vI x2, vI y3, vI ((I2 237 8) - 1)] I2 (fun v I5 => v = none ∧ (if I5 237 12 = 0 then (CALL S0 168 [vR 237] I5 (fun v I7 => ∃ y8 : Int, v = some (vI y8) ∧ (inR (3 * x2)) ∧ (inR (102 + (3 * x2))) ∧ (0 ≤ 102 + (3 * x2) ∧ 102 + (3 * x2) < 166) ∧ (if I7 238 (102 + (3 * x2)).toNat < y8 then (K (some (vI 0)) I7) else (K (some (vI 1)) I7)))) else (K (some (vI 0)) I5)))))
set_option maxRecDepth 10000 in
theorem g159_0 (q1 : Nat) (x2 : Int) (f1 : S0[q1]? = some (100, 52, [])) (I : IM) (K : Option AV → IM → Prop) (h : D159_0 q1 x2 I K) : GO S0 159 0 [vR 237, vR q1, vI x2] [] I K := by
  unfold D159_0 at h
  refine G_loadR rc_159_0 rfl ?_
  refine G_loadR rc_159_1 rfl ?_
  refine G_loadI rc_159_2 rfl ?_
  refine G_call (as := [vR 237, vR q1, vI x2]) (rest := []) rc_159_3 rfl rfl rfl (Nat.le_of_ble_eq_true rfl) (g_recv s0_237 rfl) ?_
  refine GO.imp h (fun v I1 h => ?_)
  obtain ⟨rfl, h⟩ := h
  show GO S0 159 6 [vR 237, vR q1, vI x2] [] I1 K
  refine G_loadR rc_159_6 rfl ?_
  refine G_loadI rc_159_7 rfl ?_
  refine G_loadR rc_159_8 rfl ?_
  refine G_loadI rc_159_9 rfl ?_
  refine G_const rc_159_10 (by decide) ?_
  refine G_call (as := [vR 237, vI x2, vI (-1)]) (rest := [vI x2, vR 237]) rc_159_11 rfl rfl rfl (Nat.le_of_ble_eq_true rfl) (g_recv s0_237 rfl) ?_
  refine GO.imp h (fun v I2 h => ?_)
  obtain ⟨y3, rfl, h⟩ := h
  show GO S0 159 14 [vR 237, vR q1, vI x2] [vI y3, vI x2, vR 237] I2 K
  refine G_loadR rc_159_14 rfl ?_
  refine G_getI rc_159_15 s0_237 (by decide) ?_
  show GO S0 159 18 [vR 237, vR q1, vI x2] [vI (I2 237 8), vI y3, vI x2, vR 237] I2 K
  refine G_const rc_159_18 (by decide) ?_
  obtain ⟨c4, h⟩ := h
  refine G_bop (z := (I2 237 8) - 1) rc_159_19 (if_pos c4) ?_
  show GO S0 159 20 [vR 237, vR q1, vI x2] [vI ((I2 237 8) - 1), vI y3, vI x2, vR 237] I2 K
  refine G_call (as := [vR 237, vI x2, vI y3, vI ((I2 237 8) - 1)]) (rest := []) rc_159_20 rfl rfl rfl (Nat.le_of_ble_eq_true rfl) (g_recv s0_237 rfl) ?_
  refine GO.imp h (fun v I5 h => ?_)
  obtain ⟨rfl, h⟩ := h
  show GO S0 159 23 [vR 237, vR q1, vI x2] [] I5 K
  refine G_loadR rc_159_23 rfl ?_
  refine G_getI rc_159_24 s0_237 (by decide) ?_
  show GO S0 159 27 [vR 237, vR q1, vI x2] [vI (I5 237 12)] I5 K
  refine G_i1 (C := ¬ I5 237 12 = 0) rc_159_27 rfl (fun c6 => ?_) (fun c6 => ?_)
  · rw [if_neg c6] at h
    show GO S0 159 52 [vR 237, vR q1, vI x2] [] I5 K
    refine G_const rc_159_52 (by decide) ?_
    exact G_retI rc_159_53 (Or.inr (by decide)) h
  · rw [if_pos (Classical.not_not.mp c6)] at h
    show GO S0 159 30 [vR 237, vR q1, vI x2] [] I5 K
    refine G_loadR rc_159_30 rfl ?_
    refine G_call (as := [vR 237]) (rest := []) rc_159_31 rfl rfl rfl (Nat.le_of_ble_eq_true rfl) (g_recv s0_237 rfl) ?_
    refine GO.imp h (fun v I7 h => ?_)
    obtain ⟨y8, rfl, h⟩ := h
    show GO S0 159 34 [vR 237, vR q1, vI x2] [vI y8] I7 K
    refine G_loadR rc_159_34 rfl ?_
    refine G_getR rc_159_35 s0_237 (by decide) rfl (by decide) ?_
    show GO S0 159 38 [vR 237, vR q1, vI x2] [vR 238, vI y8] I7 K
    refine G_const rc_159_38 (by decide) ?_
    refine G_const rc_159_40 (by decide) ?_
    refine G_loadI rc_159_41 rfl ?_
    obtain ⟨c9, h⟩ := h
    refine G_bop (z := 3 * x2) rc_159_42 (if_pos c9) ?_
    show GO S0 159 43 [vR 237, vR q1, vI x2] [vI (3 * x2), vI 102, vR 238, vI y8] I7 K
    obtain ⟨c10, h⟩ := h
    refine G_bop (z := 102 + (3 * x2)) rc_159_43 (if_pos c10) ?_
    show GO S0 159 44 [vR 237, vR q1, vI x2] [vI (102 + (3 * x2)), vR 238, vI y8] I7 K
    obtain ⟨c11, h⟩ := h
    refine G_ald rc_159_44 s0_238 (by omega) (by omega) ?_
    show GO S0 159 45 [vR 237, vR q1, vI x2] [vI (I7 238 (102 + (3 * x2)).toNat), vI y8] I7 K
    refine G_i2 (C := I7 238 (102 + (3 * x2)).toNat < y8) rc_159_45 rfl (fun c12 => ?_) (fun c12 => ?_)
    · rw [if_pos c12] at h
      show GO S0 159 52 [vR 237, vR q1, vI x2] [] I7 K
      refine G_const rc_159_52 (by decide) ?_
      exact G_retI rc_159_53 (Or.inr (by decide)) h
    · rw [if_neg c12] at h
      show GO S0 159 48 [vR 237, vR q1, vI x2] [] I7 K
      refine G_const rc_159_48 (by decide) ?_
      refine G_goto rc_159_49 ?_
      show GO S0 159 53 [vR 237, vR q1, vI x2] [vI 1] I7 K
      exact G_retI rc_159_53 (Or.inr (by decide)) h
/-! 160: RoundSlackModel.wholeOf([II)V -/
def D160_0 (q1 : Nat) (x2 : Int) (I : IM) (K : Option AV → IM → Prop) : Prop :=
  CALL S0 156 [vR 237, vR q1, vI x2] I (fun v I1 => ∃ y2 : Int, v = some (vI y2) ∧ CALL S0 161 [vR 237, vR q1, vI x2, vI (-1), vI y2] I1 (fun v I3 => v = none ∧ K none I3))
set_option maxRecDepth 10000 in
theorem g160_0 (q1 : Nat) (x2 : Int) (f1 : S0[q1]? = some (100, 52, [])) (I : IM) (K : Option AV → IM → Prop) (h : D160_0 q1 x2 I K) : GO S0 160 0 [vR 237, vR q1, vI x2] [] I K := by
  unfold D160_0 at h
  refine G_loadR rc_160_0 rfl ?_
  refine G_loadR rc_160_1 rfl ?_
  refine G_loadI rc_160_2 rfl ?_
  refine G_const rc_160_3 (by decide) ?_
  refine G_loadR rc_160_4 rfl ?_
  refine G_loadR rc_160_5 rfl ?_
  refine G_loadI rc_160_6 rfl ?_
  refine G_call (as := [vR 237, vR q1, vI x2]) (rest := [vI (-1), vI x2, vR q1, vR 237]) rc_160_7 rfl rfl rfl (Nat.le_of_ble_eq_true rfl) (g_recv s0_237 rfl) ?_
  refine GO.imp h (fun v I1 h => ?_)
  obtain ⟨y2, rfl, h⟩ := h
  show GO S0 160 10 [vR 237, vR q1, vI x2] [vI y2, vI (-1), vI x2, vR q1, vR 237] I1 K
  refine G_call (as := [vR 237, vR q1, vI x2, vI (-1), vI y2]) (rest := []) rc_160_10 rfl rfl rfl (Nat.le_of_ble_eq_true rfl) (g_recv s0_237 rfl) ?_
  refine GO.imp h (fun v I3 h => ?_)
  obtain ⟨rfl, h⟩ := h
  show GO S0 160 13 [vR 237, vR q1, vI x2] [] I3 K
  exact G_ret0 rc_160_13 h
/-! 161: RoundSlackModel.nodesOf([IIII)V -/
def D161_52 (q1 : Nat) (x2 : Int) (x3 : Int) (x4 : Int) (x5 : Int) (t1 : Int) (t2 : Int) (I : IM) (K : Option AV → IM → Prop) : Prop :=
  (0 ≤ t1 ∧ t1 < 14) ∧ ∀ I2 : IM, I2 = iup I 243 (t1).toNat t2 → (inR ((I2 237 8) + 1)) ∧ ∀ I4 : IM, I4 = iup I2 237 8 ((I2 237 8) + 1) → (inR (x5 + 1)) ∧ GO S0 161 8 [vR 237, vR q1, vI x2, vI x3, vI x4, vI (x5 + 1)] [] I4 K
set_option maxRecDepth 10000 in
theorem g161_52 (q1 : Nat) (x2 : Int) (x3 : Int) (x4 : Int) (x5 : Int) (t1 : Int) (t2 : Int) (f1 : S0[q1]? = some (100, 52, [])) (I : IM) (K : Option AV → IM → Prop) (h : D161_52 q1 x2 x3 x4 x5 t1 t2 I K) : GO S0 161 52 [vR 237, vR q1, vI x2, vI x3, vI x4, vI x5] [vI t2, vI t1, vR 243] I K := by
  unfold D161_52 at h
  obtain ⟨c1, h⟩ := h
  refine G_ast rc_161_52 s0_243 (by omega) (by omega) (Or.inl rfl) ?_
  show GO S0 161 53 [vR 237, vR q1, vI x2, vI x3, vI x4, vI x5] [] (iup I 243 (t1).toNat t2) K
  have h := h _ rfl
  generalize iup I 243 (t1).toNat t2 = I2 at h ⊢
  refine G_loadR rc_161_53 rfl ?_
  refine G_dupR rc_161_54 ?_
  refine G_getI rc_161_55 s0_237 (by decide) ?_
  show GO S0 161 58 [vR 237, vR q1, vI x2, vI x3, vI x4, vI x5] [vI (I2 237 8), vR 237] I2 K
  refine G_const rc_161_58 (by decide) ?_
  obtain ⟨c3, h⟩ := h
  refine G_bop (z := (I2 237 8) + 1) rc_161_59 (if_pos c3) ?_
  show GO S0 161 60 [vR 237, vR q1, vI x2, vI x3, vI x4, vI x5] [vI ((I2 237 8) + 1), vR 237] I2 K
  refine G_putI rc_161_60 s0_237 (by decide) (Or.inl rfl) ?_
  show GO S0 161 63 [vR 237, vR q1, vI x2, vI x3, vI x4, vI x5] [] (iup I2 237 8 ((I2 237 8) + 1)) K
  have h := h _ rfl
  generalize iup I2 237 8 ((I2 237 8) + 1) = I4 at h ⊢
  obtain ⟨c5, h⟩ := h
  refine G_iinc rc_161_63 rfl c5 ?_
  show GO S0 161 66 [vR 237, vR q1, vI x2, vI x3, vI x4, vI (x5 + 1)] [] I4 K
  refine G_goto rc_161_66 ?_
  show GO S0 161 8 [vR 237, vR q1, vI x2, vI x3, vI x4, vI (x5 + 1)] [] I4 K
  exact h
def D161_8 (q1 : Nat) (x2 : Int) (x3 : Int) (x4 : Int) (x5 : Int) (I : IM) (K : Option AV → IM → Prop) : Prop :=
  (if x4 < x5 then (K none I) else (CALL S0 156 [vR 237, vR q1, vI x2] I (fun v I2 => ∃ y3 : Int, v = some (vI y3) ∧ (inR (y3 - 1)) ∧ CALL S0 130 [vI x5, vI 0, vI (y3 - 1)] I2 (fun v I5 => ∃ y6 : Int, v = some (vI y6) ∧ (if y6 = 0 then (D161_52 q1 x2 x3 x4 x5 (I 237 8) (-1) I5 K) else (CALL S0 162 [vR 237, vR q1, vI x2, vI x5] I5 (fun v I8 => ∃ y9 : Int, v = some (vI y9) ∧ D161_52 q1 x2 x3 x4 x5 (I 237 8) y9 I8 K)))))))
set_option maxRecDepth 10000 in
theorem g161_8 (q1 : Nat) (x2 : Int) (x3 : Int) (x4 : Int) (x5 : Int) (f1 : S0[q1]? = some (100, 52, [])) (I : IM) (K : Option AV → IM → Prop) (h : D161_8 q1 x2 x3 x4 x5 I K) : GO S0 161 8 [vR 237, vR q1, vI x2, vI x3, vI x4, vI x5] [] I K := by
  unfold D161_8 at h
  refine G_loadI rc_161_8 rfl ?_
  refine G_loadI rc_161_10 rfl ?_
  refine G_i2 (C := x4 < x5) rc_161_12 rfl (fun c1 => ?_) (fun c1 => ?_)
  · rw [if_pos c1] at h
    show GO S0 161 69 [vR 237, vR q1, vI x2, vI x3, vI x4, vI x5] [] I K
    exact G_ret0 rc_161_69 h
  · rw [if_neg c1] at h
    show GO S0 161 15 [vR 237, vR q1, vI x2, vI x3, vI x4, vI x5] [] I K
    refine G_loadR rc_161_15 rfl ?_
    refine G_getR rc_161_16 s0_237 (by decide) rfl (by decide) ?_
    show GO S0 161 19 [vR 237, vR q1, vI x2, vI x3, vI x4, vI x5] [vR 243] I K
    refine G_loadR rc_161_19 rfl ?_
    refine G_getI rc_161_20 s0_237 (by decide) ?_
    show GO S0 161 23 [vR 237, vR q1, vI x2, vI x3, vI x4, vI x5] [vI (I 237 8), vR 243] I K
    refine G_loadI rc_161_23 rfl ?_
    refine G_const rc_161_25 (by decide) ?_
    refine G_loadR rc_161_26 rfl ?_
    refine G_loadR rc_161_27 rfl ?_
    refine G_loadI rc_161_28 rfl ?_
    refine G_call (as := [vR 237, vR q1, vI x2]) (rest := [vI 0, vI x5, vI (I 237 8), vR 243]) rc_161_29 rfl rfl rfl (Nat.le_of_ble_eq_true rfl) (g_recv s0_237 rfl) ?_
    refine GO.imp h (fun v I2 h => ?_)
    obtain ⟨y3, rfl, h⟩ := h
    show GO S0 161 32 [vR 237, vR q1, vI x2, vI x3, vI x4, vI x5] [vI y3, vI 0, vI x5, vI (I 237 8), vR 243] I2 K
    refine G_const rc_161_32 (by decide) ?_
    obtain ⟨c4, h⟩ := h
    refine G_bop (z := y3 - 1) rc_161_33 (if_pos c4) ?_
    show GO S0 161 34 [vR 237, vR q1, vI x2, vI x3, vI x4, vI x5] [vI (y3 - 1), vI 0, vI x5, vI (I 237 8), vR 243] I2 K
    refine G_call (as := [vI x5, vI 0, vI (y3 - 1)]) (rest := [vI (I 237 8), vR 243]) rc_161_34 rfl rfl rfl (Nat.le_of_ble_eq_true rfl) rfl ?_
    refine GO.imp h (fun v I5 h => ?_)
    obtain ⟨y6, rfl, h⟩ := h
    show GO S0 161 37 [vR 237, vR q1, vI x2, vI x3, vI x4, vI x5] [vI y6, vI (I 237 8), vR 243] I5 K
    refine G_i1 (C := y6 = 0) rc_161_37 rfl (fun c7 => ?_) (fun c7 => ?_)
    · rw [if_pos c7] at h
      show GO S0 161 51 [vR 237, vR q1, vI x2, vI x3, vI x4, vI x5] [vI (I 237 8), vR 243] I5 K
      refine G_const rc_161_51 (by decide) ?_
      exact g161_52 q1 x2 x3 x4 x5 (I 237 8) (-1) f1 I5 K h
    · rw [if_neg c7] at h
      show GO S0 161 40 [vR 237, vR q1, vI x2, vI x3, vI x4, vI x5] [vI (I 237 8), vR 243] I5 K
      refine G_loadR rc_161_40 rfl ?_
      refine G_loadR rc_161_41 rfl ?_
      refine G_loadI rc_161_42 rfl ?_
      refine G_loadI rc_161_43 rfl ?_
      refine G_call (as := [vR 237, vR q1, vI x2, vI x5]) (rest := [vI (I 237 8), vR 243]) rc_161_45 rfl rfl rfl (Nat.le_of_ble_eq_true rfl) (g_recv s0_237 rfl) ?_
      refine GO.imp h (fun v I8 h => ?_)
      obtain ⟨y9, rfl, h⟩ := h
      show GO S0 161 48 [vR 237, vR q1, vI x2, vI x3, vI x4, vI x5] [vI y9, vI (I 237 8), vR 243] I8 K
      refine G_goto rc_161_48 ?_
      show GO S0 161 52 [vR 237, vR q1, vI x2, vI x3, vI x4, vI x5] [vI y9, vI (I 237 8), vR 243] I8 K
      exact g161_52 q1 x2 x3 x4 x5 (I 237 8) y9 f1 I8 K h
def D161_0 (q1 : Nat) (x2 : Int) (x3 : Int) (x4 : Int) (I : IM) (K : Option AV → IM → Prop) : Prop :=
  ∀ I1 : IM, I1 = iup I 237 8 0 → GO S0 161 8 [vR 237, vR q1, vI x2, vI x3, vI x4, vI x3] [] I1 K
set_option maxRecDepth 10000 in
theorem g161_0 (q1 : Nat) (x2 : Int) (x3 : Int) (x4 : Int) (f1 : S0[q1]? = some (100, 52, [])) (I : IM) (K : Option AV → IM → Prop) (h : D161_0 q1 x2 x3 x4 I K) : GO S0 161 0 [vR 237, vR q1, vI x2, vI x3, vI x4, vU] [] I K := by
  unfold D161_0 at h
  refine G_loadR rc_161_0 rfl ?_
  refine G_const rc_161_1 (by decide) ?_
  refine G_putI rc_161_2 s0_237 (by decide) (Or.inl rfl) ?_
  show GO S0 161 5 [vR 237, vR q1, vI x2, vI x3, vI x4, vU] [] (iup I 237 8 0) K
  have h := h _ rfl
  generalize iup I 237 8 0 = I1 at h ⊢
  refine G_loadI rc_161_5 rfl ?_
  refine G_storeI rc_161_6 (Nat.le_of_ble_eq_true rfl) ?_
  show GO S0 161 8 [vR 237, vR q1, vI x2, vI x3, vI x4, vI x3] [] I1 K
  exact h
/-! 162: RoundSlackModel.at([III)I -/
def D162_0 (q1 : Nat) (x2 : Int) (x3 : Int) (I : IM) (K : Option AV → IM → Prop) : Prop :=
  (inR (13 * x2)) ∧ (inR ((13 * x2) + 1)) ∧ (inR (((13 * x2) + 1) + x3)) ∧ (0 ≤ ((13 * x2) + 1) + x3 ∧ ((13 * x2) + 1) + x3 < 52) ∧ K (some (vI (I q1 (((13 * x2) + 1) + x3).toNat))) I
set_option maxRecDepth 10000 in
theorem g162_0 (q1 : Nat) (x2 : Int) (x3 : Int) (f1 : S0[q1]? = some (100, 52, [])) (I : IM) (K : Option AV → IM → Prop) (h : D162_0 q1 x2 x3 I K) : GO S0 162 0 [vR 237, vR q1, vI x2, vI x3] [] I K := by
  unfold D162_0 at h
  refine G_loadR rc_162_0 rfl ?_
  refine G_const rc_162_1 (by decide) ?_
  refine G_loadI rc_162_3 rfl ?_
  obtain ⟨c1, h⟩ := h
  refine G_bop (z := 13 * x2) rc_162_4 (if_pos c1) ?_
  show GO S0 162 5 [vR 237, vR q1, vI x2, vI x3] [vI (13 * x2), vR q1] I K
  refine G_const rc_162_5 (by decide) ?_
  obtain ⟨c2, h⟩ := h
  refine G_bop (z := (13 * x2) + 1) rc_162_6 (if_pos c2) ?_
  show GO S0 162 7 [vR 237, vR q1, vI x2, vI x3] [vI ((13 * x2) + 1), vR q1] I K
  refine G_loadI rc_162_7 rfl ?_
  obtain ⟨c3, h⟩ := h
  refine G_bop (z := ((13 * x2) + 1) + x3) rc_162_8 (if_pos c3) ?_
  show GO S0 162 9 [vR 237, vR q1, vI x2, vI x3] [vI (((13 * x2) + 1) + x3), vR q1] I K
  obtain ⟨c4, h⟩ := h
  refine G_ald rc_162_9 f1 (by omega) (by omega) ?_
  show GO S0 162 10 [vR 237, vR q1, vI x2, vI x3] [vI (I q1 (((13 * x2) + 1) + x3).toNat)] I K
  exact G_retI rc_162_10 (Or.inl rfl) h
/-! 163: RoundSlackModel.openOf(II)I -/
def D163_0 (x1 : Int) (x2 : Int) (I : IM) (K : Option AV → IM → Prop) : Prop :=
  (if (0 : Int) ≤ x2 then (CALL S0 140 [vR 237, vI x2, vI 2] I (fun v I2 => ∃ y3 : Int, v = some (vI y3) ∧ K (some (vI y3)) I2)) else ((inR (3 * x1)) ∧ (inR (102 + (3 * x1))) ∧ (inR ((102 + (3 * x1)) + 1)) ∧ (0 ≤ (102 + (3 * x1)) + 1 ∧ (102 + (3 * x1)) + 1 < 166) ∧ K (some (vI (I 238 ((102 + (3 * x1)) + 1).toNat))) I))
set_option maxRecDepth 10000 in
theorem g163_0 (x1 : Int) (x2 : Int) (I : IM) (K : Option AV → IM → Prop) (h : D163_0 x1 x2 I K) : GO S0 163 0 [vR 237, vI x1, vI x2] [] I K := by
  unfold D163_0 at h
  refine G_loadI rc_163_0 rfl ?_
  refine G_i1 (C := (0 : Int) ≤ x2) rc_163_1 rfl (fun c1 => ?_) (fun c1 => ?_)
  · rw [if_pos c1] at h
    show GO S0 163 20 [vR 237, vI x1, vI x2] [] I K
    refine G_loadR rc_163_20 rfl ?_
    refine G_loadI rc_163_21 rfl ?_
    refine G_const rc_163_22 (by decide) ?_
    refine G_call (as := [vR 237, vI x2, vI 2]) (rest := []) rc_163_23 rfl rfl rfl (Nat.le_of_ble_eq_true rfl) (g_recv s0_237 rfl) ?_
    refine GO.imp h (fun v I2 h => ?_)
    obtain ⟨y3, rfl, h⟩ := h
    show GO S0 163 26 [vR 237, vI x1, vI x2] [vI y3] I2 K
    exact G_retI rc_163_26 (Or.inl rfl) h
  · rw [if_neg c1] at h
    show GO S0 163 4 [vR 237, vI x1, vI x2] [] I K
    refine G_loadR rc_163_4 rfl ?_
    refine G_getR rc_163_5 s0_237 (by decide) rfl (by decide) ?_
    show GO S0 163 8 [vR 237, vI x1, vI x2] [vR 238] I K
    refine G_const rc_163_8 (by decide) ?_
    refine G_const rc_163_10 (by decide) ?_
    refine G_loadI rc_163_11 rfl ?_
    obtain ⟨c4, h⟩ := h
    refine G_bop (z := 3 * x1) rc_163_12 (if_pos c4) ?_
    show GO S0 163 13 [vR 237, vI x1, vI x2] [vI (3 * x1), vI 102, vR 238] I K
    obtain ⟨c5, h⟩ := h
    refine G_bop (z := 102 + (3 * x1)) rc_163_13 (if_pos c5) ?_
    show GO S0 163 14 [vR 237, vI x1, vI x2] [vI (102 + (3 * x1)), vR 238] I K
    refine G_const rc_163_14 (by decide) ?_
    obtain ⟨c6, h⟩ := h
    refine G_bop (z := (102 + (3 * x1)) + 1) rc_163_15 (if_pos c6) ?_
    show GO S0 163 16 [vR 237, vI x1, vI x2] [vI ((102 + (3 * x1)) + 1), vR 238] I K
    obtain ⟨c7, h⟩ := h
    refine G_ald rc_163_16 s0_238 (by omega) (by omega) ?_
    show GO S0 163 17 [vR 237, vI x1, vI x2] [vI (I 238 ((102 + (3 * x1)) + 1).toNat)] I K
    refine G_goto rc_163_17 ?_
    show GO S0 163 26 [vR 237, vI x1, vI x2] [vI (I 238 ((102 + (3 * x1)) + 1).toNat)] I K
    exact G_retI rc_163_26 (Or.inl rfl) h
/-! 164: RoundSlackModel.drives(III)V -/
def D164_121 (x1 : Int) (x2 : Int) (x3 : Int) (x4 : Int) (t1 : Int) (t2 : Int) (I : IM) (K : Option AV → IM → Prop) : Prop :=
  (iorF t1 t2 = 0 ∨ iorF t1 t2 = 1) ∧ ∀ I2 : IM, I2 = iup I 237 12 (iorF t1 t2) → (0 ≤ x4 ∧ x4 < 14) ∧ CALL S0 165 [vR 237, vI (I2 243 (x4).toNat)] I2 (fun v I4 => ∃ y5 : Int, v = some (vI y5) ∧ (inR ((I2 237 10) + y5)) ∧ ∀ I7 : IM, I7 = iup I4 237 11 ((I2 237 10) + y5) → (inR (x4 + 1)) ∧ GO S0 164 34 [vR 237, vI x1, vI x2, vI x3, vI (x4 + 1)] [] I7 K)
set_option maxRecDepth 10000 in
theorem g164_121 (x1 : Int) (x2 : Int) (x3 : Int) (x4 : Int) (t1 : Int) (t2 : Int) (I : IM) (K : Option AV → IM → Prop) (h : D164_121 x1 x2 x3 x4 t1 t2 I K) : GO S0 164 121 [vR 237, vI x1, vI x2, vI x3, vI x4] [vI t2, vI t1, vR 237] I K := by
  unfold D164_121 at h
  refine G_bop (z := iorF t1 t2) rc_164_121 rfl ?_
  show GO S0 164 122 [vR 237, vI x1, vI x2, vI x3, vI x4] [vI (iorF t1 t2), vR 237] I K
  obtain ⟨c1, h⟩ := h
  refine G_putI rc_164_122 s0_237 (by decide) (Or.inr c1) ?_
  show GO S0 164 125 [vR 237, vI x1, vI x2, vI x3, vI x4] [] (iup I 237 12 (iorF t1 t2)) K
  have h := h _ rfl
  generalize iup I 237 12 (iorF t1 t2) = I2 at h ⊢
  refine G_loadR rc_164_125 rfl ?_
  refine G_loadR rc_164_126 rfl ?_
  refine G_getI rc_164_127 s0_237 (by decide) ?_
  show GO S0 164 130 [vR 237, vI x1, vI x2, vI x3, vI x4] [vI (I2 237 10), vR 237] I2 K
  refine G_loadR rc_164_130 rfl ?_
  refine G_loadR rc_164_131 rfl ?_
  refine G_getR rc_164_132 s0_237 (by decide) rfl (by decide) ?_
  show GO S0 164 135 [vR 237, vI x1, vI x2, vI x3, vI x4] [vR 243, vR 237, vI (I2 237 10), vR 237] I2 K
  refine G_loadI rc_164_135 rfl ?_
  obtain ⟨c3, h⟩ := h
  refine G_ald rc_164_137 s0_243 (by omega) (by omega) ?_
  show GO S0 164 138 [vR 237, vI x1, vI x2, vI x3, vI x4] [vI (I2 243 (x4).toNat), vR 237, vI (I2 237 10), vR 237] I2 K
  refine G_call (as := [vR 237, vI (I2 243 (x4).toNat)]) (rest := [vI (I2 237 10), vR 237]) rc_164_138 rfl rfl rfl (Nat.le_of_ble_eq_true rfl) (g_recv s0_237 rfl) ?_
  refine GO.imp h (fun v I4 h => ?_)
  obtain ⟨y5, rfl, h⟩ := h
  show GO S0 164 141 [vR 237, vI x1, vI x2, vI x3, vI x4] [vI y5, vI (I2 237 10), vR 237] I4 K
  obtain ⟨c6, h⟩ := h
  refine G_bop (z := (I2 237 10) + y5) rc_164_141 (if_pos c6) ?_
  show GO S0 164 142 [vR 237, vI x1, vI x2, vI x3, vI x4] [vI ((I2 237 10) + y5), vR 237] I4 K
  refine G_putI rc_164_142 s0_237 (by decide) (Or.inl rfl) ?_
  show GO S0 164 145 [vR 237, vI x1, vI x2, vI x3, vI x4] [] (iup I4 237 11 ((I2 237 10) + y5)) K
  have h := h _ rfl
  generalize iup I4 237 11 ((I2 237 10) + y5) = I7 at h ⊢
  obtain ⟨c8, h⟩ := h
  refine G_iinc rc_164_145 rfl c8 ?_
  show GO S0 164 148 [vR 237, vI x1, vI x2, vI x3, vI (x4 + 1)] [] I7 K
  refine G_goto rc_164_148 ?_
  show GO S0 164 34 [vR 237, vI x1, vI x2, vI x3, vI (x4 + 1)] [] I7 K
  exact h
def D164_34 (x1 : Int) (x2 : Int) (x3 : Int) (x4 : Int) (I : IM) (K : Option AV → IM → Prop) : Prop :=
  (if x3 < x4 then (K none I) else ((inR (x4 - 1)) ∧ (0 ≤ x4 - 1 ∧ x4 - 1 < 14) ∧ (0 ≤ x4 ∧ x4 < 14) ∧ CALL S0 166 [vR 237, vI (I 243 (x4 - 1).toNat), vI (I 243 (x4).toNat)] I (fun v I5 => ∃ y6 : Int, v = some (vI y6) ∧ (inR ((I 237 11) + y6)) ∧ ∀ I8 : IM, I8 = iup I5 237 9 ((I 237 11) + y6) → CALL S0 163 [vR 237, vI x1, vI (I8 243 (x4).toNat)] I8 (fun v I9 => ∃ y10 : Int, v = some (vI y10) ∧ ∀ I11 : IM, I11 = iup I9 237 10 ((if I8 237 9 < y10 then y10 else I8 237 9)) → CALL S0 167 [vR 237, vI x1, vI (I11 243 (x4).toNat)] I11 (fun v I12 => ∃ y13 : Int, v = some (vI y13) ∧ (if I11 237 10 ≤ y13 then (D164_121 x1 x2 x3 x4 (I11 237 12) 0 I12 K) else (D164_121 x1 x2 x3 x4 (I11 237 12) 1 I12 K)))))))
set_option maxRecDepth 10000 in
theorem g164_34 (x1 : Int) (x2 : Int) (x3 : Int) (x4 : Int) (I : IM) (K : Option AV → IM → Prop) (h : D164_34 x1 x2 x3 x4 I K) : GO S0 164 34 [vR 237, vI x1, vI x2, vI x3, vI x4] [] I K := by
  unfold D164_34 at h
  refine G_loadI rc_164_34 rfl ?_
  refine G_loadI rc_164_36 rfl ?_
  refine G_i2 (C := x3 < x4) rc_164_37 rfl (fun c1 => ?_) (fun c1 => ?_)
  · rw [if_pos c1] at h
    show GO S0 164 151 [vR 237, vI x1, vI x2, vI x3, vI x4] [] I K
    exact G_ret0 rc_164_151 h
  · rw [if_neg c1] at h
    show GO S0 164 40 [vR 237, vI x1, vI x2, vI x3, vI x4] [] I K
    refine G_loadR rc_164_40 rfl ?_
    refine G_loadR rc_164_41 rfl ?_
    refine G_getI rc_164_42 s0_237 (by decide) ?_
    show GO S0 164 45 [vR 237, vI x1, vI x2, vI x3, vI x4] [vI (I 237 11), vR 237] I K
    refine G_loadR rc_164_45 rfl ?_
    refine G_loadR rc_164_46 rfl ?_
    refine G_getR rc_164_47 s0_237 (by decide) rfl (by decide) ?_
    show GO S0 164 50 [vR 237, vI x1, vI x2, vI x3, vI x4] [vR 243, vR 237, vI (I 237 11), vR 237] I K
    refine G_loadI rc_164_50 rfl ?_
    refine G_const rc_164_52 (by decide) ?_
    obtain ⟨c2, h⟩ := h
    refine G_bop (z := x4 - 1) rc_164_53 (if_pos c2) ?_
    show GO S0 164 54 [vR 237, vI x1, vI x2, vI x3, vI x4] [vI (x4 - 1), vR 243, vR 237, vI (I 237 11), vR 237] I K
    obtain ⟨c3, h⟩ := h
    refine G_ald rc_164_54 s0_243 (by omega) (by omega) ?_
    show GO S0 164 55 [vR 237, vI x1, vI x2, vI x3, vI x4] [vI (I 243 (x4 - 1).toNat), vR 237, vI (I 237 11), vR 237] I K
    refine G_loadR rc_164_55 rfl ?_
    refine G_getR rc_164_56 s0_237 (by decide) rfl (by decide) ?_
    show GO S0 164 59 [vR 237, vI x1, vI x2, vI x3, vI x4] [vR 243, vI (I 243 (x4 - 1).toNat), vR 237, vI (I 237 11), vR 237] I K
    refine G_loadI rc_164_59 rfl ?_
    obtain ⟨c4, h⟩ := h
    refine G_ald rc_164_61 s0_243 (by omega) (by omega) ?_
    show GO S0 164 62 [vR 237, vI x1, vI x2, vI x3, vI x4] [vI (I 243 (x4).toNat), vI (I 243 (x4 - 1).toNat), vR 237, vI (I 237 11), vR 237] I K
    refine G_call (as := [vR 237, vI (I 243 (x4 - 1).toNat), vI (I 243 (x4).toNat)]) (rest := [vI (I 237 11), vR 237]) rc_164_62 rfl rfl rfl (Nat.le_of_ble_eq_true rfl) (g_recv s0_237 rfl) ?_
    refine GO.imp h (fun v I5 h => ?_)
    obtain ⟨y6, rfl, h⟩ := h
    show GO S0 164 65 [vR 237, vI x1, vI x2, vI x3, vI x4] [vI y6, vI (I 237 11), vR 237] I5 K
    obtain ⟨c7, h⟩ := h
    refine G_bop (z := (I 237 11) + y6) rc_164_65 (if_pos c7) ?_
    show GO S0 164 66 [vR 237, vI x1, vI x2, vI x3, vI x4] [vI ((I 237 11) + y6), vR 237] I5 K
    refine G_putI rc_164_66 s0_237 (by decide) (Or.inl rfl) ?_
    show GO S0 164 69 [vR 237, vI x1, vI x2, vI x3, vI x4] [] (iup I5 237 9 ((I 237 11) + y6)) K
    have h := h _ rfl
    generalize iup I5 237 9 ((I 237 11) + y6) = I8 at h ⊢
    refine G_loadR rc_164_69 rfl ?_
    refine G_loadR rc_164_70 rfl ?_
    refine G_getI rc_164_71 s0_237 (by decide) ?_
    show GO S0 164 74 [vR 237, vI x1, vI x2, vI x3, vI x4] [vI (I8 237 9), vR 237] I8 K
    refine G_loadR rc_164_74 rfl ?_
    refine G_loadI rc_164_75 rfl ?_
    refine G_loadR rc_164_76 rfl ?_
    refine G_getR rc_164_77 s0_237 (by decide) rfl (by decide) ?_
    show GO S0 164 80 [vR 237, vI x1, vI x2, vI x3, vI x4] [vR 243, vI x1, vR 237, vI (I8 237 9), vR 237] I8 K
    refine G_loadI rc_164_80 rfl ?_
    refine G_ald rc_164_82 s0_243 (by omega) (by omega) ?_
    show GO S0 164 83 [vR 237, vI x1, vI x2, vI x3, vI x4] [vI (I8 243 (x4).toNat), vI x1, vR 237, vI (I8 237 9), vR 237] I8 K
    refine G_call (as := [vR 237, vI x1, vI (I8 243 (x4).toNat)]) (rest := [vI (I8 237 9), vR 237]) rc_164_83 rfl rfl rfl (Nat.le_of_ble_eq_true rfl) (g_recv s0_237 rfl) ?_
    refine GO.imp h (fun v I9 h => ?_)
    obtain ⟨y10, rfl, h⟩ := h
    show GO S0 164 86 [vR 237, vI x1, vI x2, vI x3, vI x4] [vI y10, vI (I8 237 9), vR 237] I9 K
    refine G_max rc_164_86 (Nat.le_of_ble_eq_true rfl) ?_
    show GO S0 164 89 [vR 237, vI x1, vI x2, vI x3, vI x4] [vI ((if I8 237 9 < y10 then y10 else I8 237 9)), vR 237] I9 K
    refine G_putI rc_164_89 s0_237 (by decide) (Or.inl rfl) ?_
    show GO S0 164 92 [vR 237, vI x1, vI x2, vI x3, vI x4] [] (iup I9 237 10 ((if I8 237 9 < y10 then y10 else I8 237 9))) K
    have h := h _ rfl
    generalize iup I9 237 10 ((if I8 237 9 < y10 then y10 else I8 237 9)) = I11 at h ⊢
    refine G_loadR rc_164_92 rfl ?_
    refine G_dupR rc_164_93 ?_
    refine G_getI rc_164_94 s0_237 (by decide) ?_
    show GO S0 164 97 [vR 237, vI x1, vI x2, vI x3, vI x4] [vI (I11 237 12), vR 237] I11 K
    refine G_loadR rc_164_97 rfl ?_
    refine G_getI rc_164_98 s0_237 (by decide) ?_
    show GO S0 164 101 [vR 237, vI x1, vI x2, vI x3, vI x4] [vI (I11 237 10), vI (I11 237 12), vR 237] I11 K
    refine G_loadR rc_164_101 rfl ?_
    refine G_loadI rc_164_102 rfl ?_
    refine G_loadR rc_164_103 rfl ?_
    refine G_getR rc_164_104 s0_237 (by decide) rfl (by decide) ?_
    show GO S0 164 107 [vR 237, vI x1, vI x2, vI x3, vI x4] [vR 243, vI x1, vR 237, vI (I11 237 10), vI (I11 237 12), vR 237] I11 K
    refine G_loadI rc_164_107 rfl ?_
    refine G_ald rc_164_109 s0_243 (by omega) (by omega) ?_
    show GO S0 164 110 [vR 237, vI x1, vI x2, vI x3, vI x4] [vI (I11 243 (x4).toNat), vI x1, vR 237, vI (I11 237 10), vI (I11 237 12), vR 237] I11 K
    refine G_call (as := [vR 237, vI x1, vI (I11 243 (x4).toNat)]) (rest := [vI (I11 237 10), vI (I11 237 12), vR 237]) rc_164_110 rfl rfl rfl (Nat.le_of_ble_eq_true rfl) (g_recv s0_237 rfl) ?_
    refine GO.imp h (fun v I12 h => ?_)
    obtain ⟨y13, rfl, h⟩ := h
    show GO S0 164 113 [vR 237, vI x1, vI x2, vI x3, vI x4] [vI y13, vI (I11 237 10), vI (I11 237 12), vR 237] I12 K
    refine G_i2 (C := I11 237 10 ≤ y13) rc_164_113 rfl (fun c14 => ?_) (fun c14 => ?_)
    · rw [if_pos c14] at h
      show GO S0 164 120 [vR 237, vI x1, vI x2, vI x3, vI x4] [vI (I11 237 12), vR 237] I12 K
      refine G_const rc_164_120 (by decide) ?_
      exact g164_121 x1 x2 x3 x4 (I11 237 12) 0 I12 K h
    · rw [if_neg c14] at h
      show GO S0 164 116 [vR 237, vI x1, vI x2, vI x3, vI x4] [vI (I11 237 12), vR 237] I12 K
      refine G_const rc_164_116 (by decide) ?_
      refine G_goto rc_164_117 ?_
      show GO S0 164 121 [vR 237, vI x1, vI x2, vI x3, vI x4] [vI 1, vI (I11 237 12), vR 237] I12 K
      exact g164_121 x1 x2 x3 x4 (I11 237 12) 1 I12 K h
def D164_0 (x1 : Int) (x2 : Int) (x3 : Int) (I : IM) (K : Option AV → IM → Prop) : Prop :=
  ∀ I1 : IM, I1 = iup I 237 9 x2 → ∀ I2 : IM, I2 = iup I1 237 10 x2 → CALL S0 165 [vR 237, vI (I2 243 0)] I2 (fun v I3 => ∃ y4 : Int, v = some (vI y4) ∧ (inR (x2 + y4)) ∧ ∀ I6 : IM, I6 = iup I3 237 11 (x2 + y4) → ∀ I7 : IM, I7 = iup I6 237 12 0 → GO S0 164 34 [vR 237, vI x1, vI x2, vI x3, vI 1] [] I7 K)
set_option maxRecDepth 10000 in
theorem g164_0 (x1 : Int) (x2 : Int) (x3 : Int) (I : IM) (K : Option AV → IM → Prop) (h : D164_0 x1 x2 x3 I K) : GO S0 164 0 [vR 237, vI x1, vI x2, vI x3, vU] [] I K := by
  unfold D164_0 at h
  refine G_loadR rc_164_0 rfl ?_
  refine G_loadI rc_164_1 rfl ?_
  refine G_putI rc_164_2 s0_237 (by decide) (Or.inl rfl) ?_
  show GO S0 164 5 [vR 237, vI x1, vI x2, vI x3, vU] [] (iup I 237 9 x2) K
  have h := h _ rfl
  generalize iup I 237 9 x2 = I1 at h ⊢
  refine G_loadR rc_164_5 rfl ?_
  refine G_loadI rc_164_6 rfl ?_
  refine G_putI rc_164_7 s0_237 (by decide) (Or.inl rfl) ?_
  show GO S0 164 10 [vR 237, vI x1, vI x2, vI x3, vU] [] (iup I1 237 10 x2) K
  have h := h _ rfl
  generalize iup I1 237 10 x2 = I2 at h ⊢
  refine G_loadR rc_164_10 rfl ?_
  refine G_loadI rc_164_11 rfl ?_
  refine G_loadR rc_164_12 rfl ?_
  refine G_loadR rc_164_13 rfl ?_
  refine G_getR rc_164_14 s0_237 (by decide) rfl (by decide) ?_
  show GO S0 164 17 [vR 237, vI x1, vI x2, vI x3, vU] [vR 243, vR 237, vI x2, vR 237] I2 K
  refine G_const rc_164_17 (by decide) ?_
  refine G_ald rc_164_18 s0_243 (by decide) (by decide) ?_
  show GO S0 164 19 [vR 237, vI x1, vI x2, vI x3, vU] [vI (I2 243 0), vR 237, vI x2, vR 237] I2 K
  refine G_call (as := [vR 237, vI (I2 243 0)]) (rest := [vI x2, vR 237]) rc_164_19 rfl rfl rfl (Nat.le_of_ble_eq_true rfl) (g_recv s0_237 rfl) ?_
  refine GO.imp h (fun v I3 h => ?_)
  obtain ⟨y4, rfl, h⟩ := h
  show GO S0 164 22 [vR 237, vI x1, vI x2, vI x3, vU] [vI y4, vI x2, vR 237] I3 K
  obtain ⟨c5, h⟩ := h
  refine G_bop (z := x2 + y4) rc_164_22 (if_pos c5) ?_
  show GO S0 164 23 [vR 237, vI x1, vI x2, vI x3, vU] [vI (x2 + y4), vR 237] I3 K
  refine G_putI rc_164_23 s0_237 (by decide) (Or.inl rfl) ?_
  show GO S0 164 26 [vR 237, vI x1, vI x2, vI x3, vU] [] (iup I3 237 11 (x2 + y4)) K
  have h := h _ rfl
  generalize iup I3 237 11 (x2 + y4) = I6 at h ⊢
  refine G_loadR rc_164_26 rfl ?_
  refine G_const rc_164_27 (by decide) ?_
  refine G_putI rc_164_28 s0_237 (by decide) (Or.inr (by decide)) ?_
  show GO S0 164 31 [vR 237, vI x1, vI x2, vI x3, vU] [] (iup I6 237 12 0) K
  have h := h _ rfl
  generalize iup I6 237 12 0 = I7 at h ⊢
  refine G_const rc_164_31 (by decide) ?_
  refine G_storeI rc_164_32 (Nat.le_of_ble_eq_true rfl) ?_
  show GO S0 164 34 [vR 237, vI x1, vI x2, vI x3, vI 1] [] I7 K
  exact h
/-! 165: RoundSlackModel.serviceOf(I)I -/
def D165_0 (x1 : Int) (I : IM) (K : Option AV → IM → Prop) : Prop :=
  (if (0 : Int) ≤ x1 then (CALL S0 140 [vR 237, vI x1, vI 4] I (fun v I2 => ∃ y3 : Int, v = some (vI y3) ∧ K (some (vI y3)) I2)) else (K (some (vI 0)) I))
set_option maxRecDepth 10000 in
theorem g165_0 (x1 : Int) (I : IM) (K : Option AV → IM → Prop) (h : D165_0 x1 I K) : GO S0 165 0 [vR 237, vI x1] [] I K := by
  unfold D165_0 at h
  refine G_loadI rc_165_0 rfl ?_
  refine G_i1 (C := (0 : Int) ≤ x1) rc_165_1 rfl (fun c1 => ?_) (fun c1 => ?_)
  · rw [if_pos c1] at h
    show GO S0 165 8 [vR 237, vI x1] [] I K
    refine G_loadR rc_165_8 rfl ?_
    refine G_loadI rc_165_9 rfl ?_
    refine G_const rc_165_10 (by decide) ?_
    refine G_call (as := [vR 237, vI x1, vI 4]) (rest := []) rc_165_11 rfl rfl rfl (Nat.le_of_ble_eq_true rfl) (g_recv s0_237 rfl) ?_
    refine GO.imp h (fun v I2 h => ?_)
    obtain ⟨y3, rfl, h⟩ := h
    show GO S0 165 14 [vR 237, vI x1] [vI y3] I2 K
    exact G_retI rc_165_14 (Or.inl rfl) h
  · rw [if_neg c1] at h
    show GO S0 165 4 [vR 237, vI x1] [] I K
    refine G_const rc_165_4 (by decide) ?_
    refine G_goto rc_165_5 ?_
    show GO S0 165 14 [vR 237, vI x1] [vI 0] I K
    exact G_retI rc_165_14 (Or.inl rfl) h
/-! 166: RoundSlackModel.wayOf(II)I -/
def D166_81 (x1 : Int) (x2 : Int) (x3 : Int) (x4 : Int) (x5 : Int) (u6 : AV) (t0 : Int) (I : IM) (K : Option AV → IM → Prop) : Prop :=
  (inR (x3 - x5)) ∧ (inR (-(x3 - x5))) ∧ (inR (x4 - t0)) ∧ (inR (-(x4 - t0))) ∧ (inR (((if 0 ≤ x3 - x5 then x3 - x5 else -(x3 - x5))) + ((if 0 ≤ x4 - t0 then x4 - t0 else -(x4 - t0))))) ∧ K (some (vI (((if 0 ≤ x3 - x5 then x3 - x5 else -(x3 - x5))) + ((if 0 ≤ x4 - t0 then x4 - t0 else -(x4 - t0)))))) I
set_option maxRecDepth 10000 in
theorem g166_81 (x1 : Int) (x2 : Int) (x3 : Int) (x4 : Int) (x5 : Int) (u6 : AV) (t0 : Int) (I : IM) (K : Option AV → IM → Prop) (h : D166_81 x1 x2 x3 x4 x5 u6 t0 I K) : GO S0 166 81 [vR 237, vI x1, vI x2, vI x3, vI x4, vI x5, u6] [vI t0] I K := by
  unfold D166_81 at h
  refine G_storeI rc_166_81 (Nat.le_of_ble_eq_true rfl) ?_
  show GO S0 166 83 [vR 237, vI x1, vI x2, vI x3, vI x4, vI x5, vI t0] [] I K
  refine G_loadI rc_166_83 rfl ?_
  refine G_loadI rc_166_84 rfl ?_
  obtain ⟨c1, h⟩ := h
  refine G_bop (z := x3 - x5) rc_166_86 (if_pos c1) ?_
  show GO S0 166 87 [vR 237, vI x1, vI x2, vI x3, vI x4, vI x5, vI t0] [vI (x3 - x5)] I K
  obtain ⟨c2, h⟩ := h
  refine G_abs rc_166_87 c2 (Nat.le_of_ble_eq_true rfl) ?_
  show GO S0 166 90 [vR 237, vI x1, vI x2, vI x3, vI x4, vI x5, vI t0] [vI ((if 0 ≤ x3 - x5 then x3 - x5 else -(x3 - x5)))] I K
  refine G_loadI rc_166_90 rfl ?_
  refine G_loadI rc_166_92 rfl ?_
  obtain ⟨c3, h⟩ := h
  refine G_bop (z := x4 - t0) rc_166_94 (if_pos c3) ?_
  show GO S0 166 95 [vR 237, vI x1, vI x2, vI x3, vI x4, vI x5, vI t0] [vI (x4 - t0), vI ((if 0 ≤ x3 - x5 then x3 - x5 else -(x3 - x5)))] I K
  obtain ⟨c4, h⟩ := h
  refine G_abs rc_166_95 c4 (Nat.le_of_ble_eq_true rfl) ?_
  show GO S0 166 98 [vR 237, vI x1, vI x2, vI x3, vI x4, vI x5, vI t0] [vI ((if 0 ≤ x4 - t0 then x4 - t0 else -(x4 - t0))), vI ((if 0 ≤ x3 - x5 then x3 - x5 else -(x3 - x5)))] I K
  obtain ⟨c5, h⟩ := h
  refine G_bop (z := ((if 0 ≤ x3 - x5 then x3 - x5 else -(x3 - x5))) + ((if 0 ≤ x4 - t0 then x4 - t0 else -(x4 - t0)))) rc_166_98 (if_pos c5) ?_
  show GO S0 166 99 [vR 237, vI x1, vI x2, vI x3, vI x4, vI x5, vI t0] [vI (((if 0 ≤ x3 - x5 then x3 - x5 else -(x3 - x5))) + ((if 0 ≤ x4 - t0 then x4 - t0 else -(x4 - t0))))] I K
  exact G_retI rc_166_99 (Or.inl rfl) h
def D166_60 (x1 : Int) (x2 : Int) (x3 : Int) (x4 : Int) (u5 : AV) (u6 : AV) (t0 : Int) (I : IM) (K : Option AV → IM → Prop) : Prop :=
  (if (0 : Int) ≤ x2 then (CALL S0 140 [vR 237, vI x2, vI 1] I (fun v I2 => ∃ y3 : Int, v = some (vI y3) ∧ D166_81 x1 x2 x3 x4 t0 (u6) y3 I2 K)) else (D166_81 x1 x2 x3 x4 t0 (u6) (I 238 1) I K))
set_option maxRecDepth 10000 in
theorem g166_60 (x1 : Int) (x2 : Int) (x3 : Int) (x4 : Int) (u5 : AV) (u6 : AV) (t0 : Int) (I : IM) (K : Option AV → IM → Prop) (h : D166_60 x1 x2 x3 x4 u5 u6 t0 I K) : GO S0 166 60 [vR 237, vI x1, vI x2, vI x3, vI x4, u5, u6] [vI t0] I K := by
  unfold D166_60 at h
  refine G_storeI rc_166_60 (Nat.le_of_ble_eq_true rfl) ?_
  show GO S0 166 62 [vR 237, vI x1, vI x2, vI x3, vI x4, vI t0, u6] [] I K
  refine G_loadI rc_166_62 rfl ?_
  refine G_i1 (C := (0 : Int) ≤ x2) rc_166_63 rfl (fun c1 => ?_) (fun c1 => ?_)
  · rw [if_pos c1] at h
    show GO S0 166 75 [vR 237, vI x1, vI x2, vI x3, vI x4, vI t0, u6] [] I K
    refine G_loadR rc_166_75 rfl ?_
    refine G_loadI rc_166_76 rfl ?_
    refine G_const rc_166_77 (by decide) ?_
    refine G_call (as := [vR 237, vI x2, vI 1]) (rest := []) rc_166_78 rfl rfl rfl (Nat.le_of_ble_eq_true rfl) (g_recv s0_237 rfl) ?_
    refine GO.imp h (fun v I2 h => ?_)
    obtain ⟨y3, rfl, h⟩ := h
    show GO S0 166 81 [vR 237, vI x1, vI x2, vI x3, vI x4, vI t0, u6] [vI y3] I2 K
    exact g166_81 x1 x2 x3 x4 t0 (u6) y3 I2 K h
  · rw [if_neg c1] at h
    show GO S0 166 66 [vR 237, vI x1, vI x2, vI x3, vI x4, vI t0, u6] [] I K
    refine G_loadR rc_166_66 rfl ?_
    refine G_getR rc_166_67 s0_237 (by decide) rfl (by decide) ?_
    show GO S0 166 70 [vR 237, vI x1, vI x2, vI x3, vI x4, vI t0, u6] [vR 238] I K
    refine G_const rc_166_70 (by decide) ?_
    refine G_ald rc_166_71 s0_238 (by decide) (by decide) ?_
    show GO S0 166 72 [vR 237, vI x1, vI x2, vI x3, vI x4, vI t0, u6] [vI (I 238 1)] I K
    refine G_goto rc_166_72 ?_
    show GO S0 166 81 [vR 237, vI x1, vI x2, vI x3, vI x4, vI t0, u6] [vI (I 238 1)] I K
    exact g166_81 x1 x2 x3 x4 t0 (u6) (I 238 1) I K h
def D166_39 (x1 : Int) (x2 : Int) (x3 : Int) (u4 : AV) (u5 : AV) (u6 : AV) (t0 : Int) (I : IM) (K : Option AV → IM → Prop) : Prop :=
  (if (0 : Int) ≤ x2 then (CALL S0 140 [vR 237, vI x2, vI 0] I (fun v I2 => ∃ y3 : Int, v = some (vI y3) ∧ D166_60 x1 x2 x3 t0 (u5) (u6) y3 I2 K)) else (D166_60 x1 x2 x3 t0 (u5) (u6) (I 238 0) I K))
set_option maxRecDepth 10000 in
theorem g166_39 (x1 : Int) (x2 : Int) (x3 : Int) (u4 : AV) (u5 : AV) (u6 : AV) (t0 : Int) (I : IM) (K : Option AV → IM → Prop) (h : D166_39 x1 x2 x3 u4 u5 u6 t0 I K) : GO S0 166 39 [vR 237, vI x1, vI x2, vI x3, u4, u5, u6] [vI t0] I K := by
  unfold D166_39 at h
  refine G_storeI rc_166_39 (Nat.le_of_ble_eq_true rfl) ?_
  show GO S0 166 41 [vR 237, vI x1, vI x2, vI x3, vI t0, u5, u6] [] I K
  refine G_loadI rc_166_41 rfl ?_
  refine G_i1 (C := (0 : Int) ≤ x2) rc_166_42 rfl (fun c1 => ?_) (fun c1 => ?_)
  · rw [if_pos c1] at h
    show GO S0 166 54 [vR 237, vI x1, vI x2, vI x3, vI t0, u5, u6] [] I K
    refine G_loadR rc_166_54 rfl ?_
    refine G_loadI rc_166_55 rfl ?_
    refine G_const rc_166_56 (by decide) ?_
    refine G_call (as := [vR 237, vI x2, vI 0]) (rest := []) rc_166_57 rfl rfl rfl (Nat.le_of_ble_eq_true rfl) (g_recv s0_237 rfl) ?_
    refine GO.imp h (fun v I2 h => ?_)
    obtain ⟨y3, rfl, h⟩ := h
    show GO S0 166 60 [vR 237, vI x1, vI x2, vI x3, vI t0, u5, u6] [vI y3] I2 K
    exact g166_60 x1 x2 x3 t0 (u5) (u6) y3 I2 K h
  · rw [if_neg c1] at h
    show GO S0 166 45 [vR 237, vI x1, vI x2, vI x3, vI t0, u5, u6] [] I K
    refine G_loadR rc_166_45 rfl ?_
    refine G_getR rc_166_46 s0_237 (by decide) rfl (by decide) ?_
    show GO S0 166 49 [vR 237, vI x1, vI x2, vI x3, vI t0, u5, u6] [vR 238] I K
    refine G_const rc_166_49 (by decide) ?_
    refine G_ald rc_166_50 s0_238 (by decide) (by decide) ?_
    show GO S0 166 51 [vR 237, vI x1, vI x2, vI x3, vI t0, u5, u6] [vI (I 238 0)] I K
    refine G_goto rc_166_51 ?_
    show GO S0 166 60 [vR 237, vI x1, vI x2, vI x3, vI t0, u5, u6] [vI (I 238 0)] I K
    exact g166_60 x1 x2 x3 t0 (u5) (u6) (I 238 0) I K h
def D166_19 (x1 : Int) (x2 : Int) (u3 : AV) (u4 : AV) (u5 : AV) (u6 : AV) (t0 : Int) (I : IM) (K : Option AV → IM → Prop) : Prop :=
  (if (0 : Int) ≤ x1 then (CALL S0 140 [vR 237, vI x1, vI 1] I (fun v I2 => ∃ y3 : Int, v = some (vI y3) ∧ D166_39 x1 x2 t0 (u4) (u5) (u6) y3 I2 K)) else (D166_39 x1 x2 t0 (u4) (u5) (u6) (I 238 1) I K))
set_option maxRecDepth 10000 in
theorem g166_19 (x1 : Int) (x2 : Int) (u3 : AV) (u4 : AV) (u5 : AV) (u6 : AV) (t0 : Int) (I : IM) (K : Option AV → IM → Prop) (h : D166_19 x1 x2 u3 u4 u5 u6 t0 I K) : GO S0 166 19 [vR 237, vI x1, vI x2, u3, u4, u5, u6] [vI t0] I K := by
  unfold D166_19 at h
  refine G_storeI rc_166_19 (Nat.le_of_ble_eq_true rfl) ?_
  show GO S0 166 20 [vR 237, vI x1, vI x2, vI t0, u4, u5, u6] [] I K
  refine G_loadI rc_166_20 rfl ?_
  refine G_i1 (C := (0 : Int) ≤ x1) rc_166_21 rfl (fun c1 => ?_) (fun c1 => ?_)
  · rw [if_pos c1] at h
    show GO S0 166 33 [vR 237, vI x1, vI x2, vI t0, u4, u5, u6] [] I K
    refine G_loadR rc_166_33 rfl ?_
    refine G_loadI rc_166_34 rfl ?_
    refine G_const rc_166_35 (by decide) ?_
    refine G_call (as := [vR 237, vI x1, vI 1]) (rest := []) rc_166_36 rfl rfl rfl (Nat.le_of_ble_eq_true rfl) (g_recv s0_237 rfl) ?_
    refine GO.imp h (fun v I2 h => ?_)
    obtain ⟨y3, rfl, h⟩ := h
    show GO S0 166 39 [vR 237, vI x1, vI x2, vI t0, u4, u5, u6] [vI y3] I2 K
    exact g166_39 x1 x2 t0 (u4) (u5) (u6) y3 I2 K h
  · rw [if_neg c1] at h
    show GO S0 166 24 [vR 237, vI x1, vI x2, vI t0, u4, u5, u6] [] I K
    refine G_loadR rc_166_24 rfl ?_
    refine G_getR rc_166_25 s0_237 (by decide) rfl (by decide) ?_
    show GO S0 166 28 [vR 237, vI x1, vI x2, vI t0, u4, u5, u6] [vR 238] I K
    refine G_const rc_166_28 (by decide) ?_
    refine G_ald rc_166_29 s0_238 (by decide) (by decide) ?_
    show GO S0 166 30 [vR 237, vI x1, vI x2, vI t0, u4, u5, u6] [vI (I 238 1)] I K
    refine G_goto rc_166_30 ?_
    show GO S0 166 39 [vR 237, vI x1, vI x2, vI t0, u4, u5, u6] [vI (I 238 1)] I K
    exact g166_39 x1 x2 t0 (u4) (u5) (u6) (I 238 1) I K h
def D166_0 (x1 : Int) (x2 : Int) (I : IM) (K : Option AV → IM → Prop) : Prop :=
  (if (0 : Int) ≤ x1 then (CALL S0 140 [vR 237, vI x1, vI 0] I (fun v I2 => ∃ y3 : Int, v = some (vI y3) ∧ D166_19 x1 x2 (vU) (vU) (vU) (vU) y3 I2 K)) else (D166_19 x1 x2 (vU) (vU) (vU) (vU) (I 238 0) I K))
set_option maxRecDepth 10000 in
theorem g166_0 (x1 : Int) (x2 : Int) (I : IM) (K : Option AV → IM → Prop) (h : D166_0 x1 x2 I K) : GO S0 166 0 [vR 237, vI x1, vI x2, vU, vU, vU, vU] [] I K := by
  unfold D166_0 at h
  refine G_loadI rc_166_0 rfl ?_
  refine G_i1 (C := (0 : Int) ≤ x1) rc_166_1 rfl (fun c1 => ?_) (fun c1 => ?_)
  · rw [if_pos c1] at h
    show GO S0 166 13 [vR 237, vI x1, vI x2, vU, vU, vU, vU] [] I K
    refine G_loadR rc_166_13 rfl ?_
    refine G_loadI rc_166_14 rfl ?_
    refine G_const rc_166_15 (by decide) ?_
    refine G_call (as := [vR 237, vI x1, vI 0]) (rest := []) rc_166_16 rfl rfl rfl (Nat.le_of_ble_eq_true rfl) (g_recv s0_237 rfl) ?_
    refine GO.imp h (fun v I2 h => ?_)
    obtain ⟨y3, rfl, h⟩ := h
    show GO S0 166 19 [vR 237, vI x1, vI x2, vU, vU, vU, vU] [vI y3] I2 K
    exact g166_19 x1 x2 (vU) (vU) (vU) (vU) y3 I2 K h
  · rw [if_neg c1] at h
    show GO S0 166 4 [vR 237, vI x1, vI x2, vU, vU, vU, vU] [] I K
    refine G_loadR rc_166_4 rfl ?_
    refine G_getR rc_166_5 s0_237 (by decide) rfl (by decide) ?_
    show GO S0 166 8 [vR 237, vI x1, vI x2, vU, vU, vU, vU] [vR 238] I K
    refine G_const rc_166_8 (by decide) ?_
    refine G_ald rc_166_9 s0_238 (by decide) (by decide) ?_
    show GO S0 166 10 [vR 237, vI x1, vI x2, vU, vU, vU, vU] [vI (I 238 0)] I K
    refine G_goto rc_166_10 ?_
    show GO S0 166 19 [vR 237, vI x1, vI x2, vU, vU, vU, vU] [vI (I 238 0)] I K
    exact g166_19 x1 x2 (vU) (vU) (vU) (vU) (I 238 0) I K h
/-! 167: RoundSlackModel.closeOf(II)I -/
def D167_0 (x1 : Int) (x2 : Int) (I : IM) (K : Option AV → IM → Prop) : Prop :=
  (if (0 : Int) ≤ x2 then (CALL S0 140 [vR 237, vI x2, vI 3] I (fun v I2 => ∃ y3 : Int, v = some (vI y3) ∧ K (some (vI y3)) I2)) else ((inR (3 * x1)) ∧ (inR (102 + (3 * x1))) ∧ (inR ((102 + (3 * x1)) + 2)) ∧ (0 ≤ (102 + (3 * x1)) + 2 ∧ (102 + (3 * x1)) + 2 < 166) ∧ K (some (vI (I 238 ((102 + (3 * x1)) + 2).toNat))) I))
set_option maxRecDepth 10000 in
theorem g167_0 (x1 : Int) (x2 : Int) (I : IM) (K : Option AV → IM → Prop) (h : D167_0 x1 x2 I K) : GO S0 167 0 [vR 237, vI x1, vI x2] [] I K := by
  unfold D167_0 at h
  refine G_loadI rc_167_0 rfl ?_
  refine G_i1 (C := (0 : Int) ≤ x2) rc_167_1 rfl (fun c1 => ?_) (fun c1 => ?_)
  · rw [if_pos c1] at h
    show GO S0 167 20 [vR 237, vI x1, vI x2] [] I K
    refine G_loadR rc_167_20 rfl ?_
    refine G_loadI rc_167_21 rfl ?_
    refine G_const rc_167_22 (by decide) ?_
    refine G_call (as := [vR 237, vI x2, vI 3]) (rest := []) rc_167_23 rfl rfl rfl (Nat.le_of_ble_eq_true rfl) (g_recv s0_237 rfl) ?_
    refine GO.imp h (fun v I2 h => ?_)
    obtain ⟨y3, rfl, h⟩ := h
    show GO S0 167 26 [vR 237, vI x1, vI x2] [vI y3] I2 K
    exact G_retI rc_167_26 (Or.inl rfl) h
  · rw [if_neg c1] at h
    show GO S0 167 4 [vR 237, vI x1, vI x2] [] I K
    refine G_loadR rc_167_4 rfl ?_
    refine G_getR rc_167_5 s0_237 (by decide) rfl (by decide) ?_
    show GO S0 167 8 [vR 237, vI x1, vI x2] [vR 238] I K
    refine G_const rc_167_8 (by decide) ?_
    refine G_const rc_167_10 (by decide) ?_
    refine G_loadI rc_167_11 rfl ?_
    obtain ⟨c4, h⟩ := h
    refine G_bop (z := 3 * x1) rc_167_12 (if_pos c4) ?_
    show GO S0 167 13 [vR 237, vI x1, vI x2] [vI (3 * x1), vI 102, vR 238] I K
    obtain ⟨c5, h⟩ := h
    refine G_bop (z := 102 + (3 * x1)) rc_167_13 (if_pos c5) ?_
    show GO S0 167 14 [vR 237, vI x1, vI x2] [vI (102 + (3 * x1)), vR 238] I K
    refine G_const rc_167_14 (by decide) ?_
    obtain ⟨c6, h⟩ := h
    refine G_bop (z := (102 + (3 * x1)) + 2) rc_167_15 (if_pos c6) ?_
    show GO S0 167 16 [vR 237, vI x1, vI x2] [vI ((102 + (3 * x1)) + 2), vR 238] I K
    obtain ⟨c7, h⟩ := h
    refine G_ald rc_167_16 s0_238 (by omega) (by omega) ?_
    show GO S0 167 17 [vR 237, vI x1, vI x2] [vI (I 238 ((102 + (3 * x1)) + 2).toNat)] I K
    refine G_goto rc_167_17 ?_
    show GO S0 167 26 [vR 237, vI x1, vI x2] [vI (I 238 ((102 + (3 * x1)) + 2).toNat)] I K
    exact G_retI rc_167_26 (Or.inl rfl) h
/-! 168: RoundSlackModel.topOf()I -/
def D168_56 (x1 : Int) (x2 : Int) (x3 : Int) (t0 : Int) (t1 : Int) (I : IM) (K : Option AV → IM → Prop) : Prop :=
  (inR (t0 + t1)) ∧ (inR (x3 + 1)) ∧ GO S0 168 10 [vR 237, vI (t0 + t1), vI ((if x2 < t0 + t1 then t0 + t1 else x2)), vI (x3 + 1)] [] I K
set_option maxRecDepth 10000 in
theorem g168_56 (x1 : Int) (x2 : Int) (x3 : Int) (t0 : Int) (t1 : Int) (I : IM) (K : Option AV → IM → Prop) (h : D168_56 x1 x2 x3 t0 t1 I K) : GO S0 168 56 [vR 237, vI x1, vI x2, vI x3] [vI t1, vI t0] I K := by
  unfold D168_56 at h
  obtain ⟨c1, h⟩ := h
  refine G_bop (z := t0 + t1) rc_168_56 (if_pos c1) ?_
  show GO S0 168 57 [vR 237, vI x1, vI x2, vI x3] [vI (t0 + t1)] I K
  refine G_storeI rc_168_57 (Nat.le_of_ble_eq_true rfl) ?_
  show GO S0 168 58 [vR 237, vI (t0 + t1), vI x2, vI x3] [] I K
  refine G_loadI rc_168_58 rfl ?_
  refine G_loadI rc_168_59 rfl ?_
  refine G_max rc_168_60 (Nat.le_of_ble_eq_true rfl) ?_
  show GO S0 168 63 [vR 237, vI (t0 + t1), vI x2, vI x3] [vI ((if x2 < t0 + t1 then t0 + t1 else x2))] I K
  refine G_storeI rc_168_63 (Nat.le_of_ble_eq_true rfl) ?_
  show GO S0 168 64 [vR 237, vI (t0 + t1), vI ((if x2 < t0 + t1 then t0 + t1 else x2)), vI x3] [] I K
  obtain ⟨c2, h⟩ := h
  refine G_iinc rc_168_64 rfl c2 ?_
  show GO S0 168 67 [vR 237, vI (t0 + t1), vI ((if x2 < t0 + t1 then t0 + t1 else x2)), vI (x3 + 1)] [] I K
  refine G_goto rc_168_67 ?_
  show GO S0 168 10 [vR 237, vI (t0 + t1), vI ((if x2 < t0 + t1 then t0 + t1 else x2)), vI (x3 + 1)] [] I K
  exact h
def D168_10 (x1 : Int) (x2 : Int) (x3 : Int) (I : IM) (K : Option AV → IM → Prop) : Prop :=
  (if I 237 8 ≤ x3 then (K (some (vI x2)) I) else ((0 ≤ x3 ∧ x3 < 14) ∧ (if (0 : Int) ≤ I 243 (x3).toNat then (CALL S0 140 [vR 237, vI (I 243 (x3).toNat), vI 6] I (fun v I4 => ∃ y5 : Int, v = some (vI y5) ∧ CALL S0 140 [vR 237, vI (I4 243 (x3).toNat), vI 5] I4 (fun v I6 => ∃ y7 : Int, v = some (vI y7) ∧ (inR (y5 - y7)) ∧ D168_56 x1 x2 x3 x1 (y5 - y7) I6 K))) else (D168_56 x1 x2 x3 x1 0 I K))))
set_option maxRecDepth 10000 in
theorem g168_10 (x1 : Int) (x2 : Int) (x3 : Int) (I : IM) (K : Option AV → IM → Prop) (h : D168_10 x1 x2 x3 I K) : GO S0 168 10 [vR 237, vI x1, vI x2, vI x3] [] I K := by
  unfold D168_10 at h
  refine G_loadI rc_168_10 rfl ?_
  refine G_loadR rc_168_11 rfl ?_
  refine G_getI rc_168_12 s0_237 (by decide) ?_
  show GO S0 168 15 [vR 237, vI x1, vI x2, vI x3] [vI (I 237 8), vI x3] I K
  refine G_i2 (C := I 237 8 ≤ x3) rc_168_15 rfl (fun c1 => ?_) (fun c1 => ?_)
  · rw [if_pos c1] at h
    show GO S0 168 70 [vR 237, vI x1, vI x2, vI x3] [] I K
    refine G_loadI rc_168_70 rfl ?_
    exact G_retI rc_168_71 (Or.inl rfl) h
  · rw [if_neg c1] at h
    show GO S0 168 18 [vR 237, vI x1, vI x2, vI x3] [] I K
    refine G_loadI rc_168_18 rfl ?_
    refine G_loadR rc_168_19 rfl ?_
    refine G_getR rc_168_20 s0_237 (by decide) rfl (by decide) ?_
    show GO S0 168 23 [vR 237, vI x1, vI x2, vI x3] [vR 243, vI x1] I K
    refine G_loadI rc_168_23 rfl ?_
    obtain ⟨c2, h⟩ := h
    refine G_ald rc_168_24 s0_243 (by omega) (by omega) ?_
    show GO S0 168 25 [vR 237, vI x1, vI x2, vI x3] [vI (I 243 (x3).toNat), vI x1] I K
    refine G_i1 (C := (0 : Int) ≤ I 243 (x3).toNat) rc_168_25 rfl (fun c3 => ?_) (fun c3 => ?_)
    · rw [if_pos c3] at h
      show GO S0 168 32 [vR 237, vI x1, vI x2, vI x3] [vI x1] I K
      refine G_loadR rc_168_32 rfl ?_
      refine G_loadR rc_168_33 rfl ?_
      refine G_getR rc_168_34 s0_237 (by decide) rfl (by decide) ?_
      show GO S0 168 37 [vR 237, vI x1, vI x2, vI x3] [vR 243, vR 237, vI x1] I K
      refine G_loadI rc_168_37 rfl ?_
      refine G_ald rc_168_38 s0_243 (by omega) (by omega) ?_
      show GO S0 168 39 [vR 237, vI x1, vI x2, vI x3] [vI (I 243 (x3).toNat), vR 237, vI x1] I K
      refine G_const rc_168_39 (by decide) ?_
      refine G_call (as := [vR 237, vI (I 243 (x3).toNat), vI 6]) (rest := [vI x1]) rc_168_41 rfl rfl rfl (Nat.le_of_ble_eq_true rfl) (g_recv s0_237 rfl) ?_
      refine GO.imp h (fun v I4 h => ?_)
      obtain ⟨y5, rfl, h⟩ := h
      show GO S0 168 44 [vR 237, vI x1, vI x2, vI x3] [vI y5, vI x1] I4 K
      refine G_loadR rc_168_44 rfl ?_
      refine G_loadR rc_168_45 rfl ?_
      refine G_getR rc_168_46 s0_237 (by decide) rfl (by decide) ?_
      show GO S0 168 49 [vR 237, vI x1, vI x2, vI x3] [vR 243, vR 237, vI y5, vI x1] I4 K
      refine G_loadI rc_168_49 rfl ?_
      refine G_ald rc_168_50 s0_243 (by omega) (by omega) ?_
      show GO S0 168 51 [vR 237, vI x1, vI x2, vI x3] [vI (I4 243 (x3).toNat), vR 237, vI y5, vI x1] I4 K
      refine G_const rc_168_51 (by decide) ?_
      refine G_call (as := [vR 237, vI (I4 243 (x3).toNat), vI 5]) (rest := [vI y5, vI x1]) rc_168_52 rfl rfl rfl (Nat.le_of_ble_eq_true rfl) (g_recv s0_237 rfl) ?_
      refine GO.imp h (fun v I6 h => ?_)
      obtain ⟨y7, rfl, h⟩ := h
      show GO S0 168 55 [vR 237, vI x1, vI x2, vI x3] [vI y7, vI y5, vI x1] I6 K
      obtain ⟨c8, h⟩ := h
      refine G_bop (z := y5 - y7) rc_168_55 (if_pos c8) ?_
      show GO S0 168 56 [vR 237, vI x1, vI x2, vI x3] [vI (y5 - y7), vI x1] I6 K
      exact g168_56 x1 x2 x3 x1 (y5 - y7) I6 K h
    · rw [if_neg c3] at h
      show GO S0 168 28 [vR 237, vI x1, vI x2, vI x3] [vI x1] I K
      refine G_const rc_168_28 (by decide) ?_
      refine G_goto rc_168_29 ?_
      show GO S0 168 56 [vR 237, vI x1, vI x2, vI x3] [vI 0, vI x1] I K
      exact g168_56 x1 x2 x3 x1 0 I K h
def D168_0 (I : IM) (K : Option AV → IM → Prop) : Prop :=
  CALL S0 169 [vR 237, vI 5] I (fun v I1 => ∃ y2 : Int, v = some (vI y2) ∧ GO S0 168 10 [vR 237, vI y2, vI y2, vI 0] [] I1 K)
set_option maxRecDepth 10000 in
theorem g168_0 (I : IM) (K : Option AV → IM → Prop) (h : D168_0 I K) : GO S0 168 0 [vR 237, vU, vU, vU] [] I K := by
  unfold D168_0 at h
  refine G_loadR rc_168_0 rfl ?_
  refine G_const rc_168_1 (by decide) ?_
  refine G_call (as := [vR 237, vI 5]) (rest := []) rc_168_2 rfl rfl rfl (Nat.le_of_ble_eq_true rfl) (g_recv s0_237 rfl) ?_
  refine GO.imp h (fun v I1 h => ?_)
  obtain ⟨y2, rfl, h⟩ := h
  show GO S0 168 5 [vR 237, vU, vU, vU] [vI y2] I1 K
  refine G_storeI rc_168_5 (Nat.le_of_ble_eq_true rfl) ?_
  show GO S0 168 6 [vR 237, vI y2, vU, vU] [] I1 K
  refine G_loadI rc_168_6 rfl ?_
  refine G_storeI rc_168_7 (Nat.le_of_ble_eq_true rfl) ?_
  show GO S0 168 8 [vR 237, vI y2, vI y2, vU] [] I1 K
  refine G_const rc_168_8 (by decide) ?_
  refine G_storeI rc_168_9 (Nat.le_of_ble_eq_true rfl) ?_
  show GO S0 168 10 [vR 237, vI y2, vI y2, vI 0] [] I1 K
  exact h
/-! 169: RoundSlackModel.sumOf(I)I -/
def D169_4 (x1 : Int) (x2 : Int) (x3 : Int) (I : IM) (K : Option AV → IM → Prop) : Prop :=
  (if I 237 8 ≤ x3 then (K (some (vI x2)) I) else ((0 ≤ x3 ∧ x3 < 14) ∧ (if (0 : Int) ≤ I 243 (x3).toNat then (CALL S0 140 [vR 237, vI (I 243 (x3).toNat), vI x1] I (fun v I4 => ∃ y5 : Int, v = some (vI y5) ∧ (inR (x2 + y5)) ∧ (inR (x3 + 1)) ∧ GO S0 169 4 [vR 237, vI x1, vI (x2 + y5), vI (x3 + 1)] [] I4 K)) else ((inR (x2 + 0)) ∧ (inR (x3 + 1)) ∧ GO S0 169 4 [vR 237, vI x1, vI (x2 + 0), vI (x3 + 1)] [] I K))))
set_option maxRecDepth 10000 in
theorem g169_4 (x1 : Int) (x2 : Int) (x3 : Int) (I : IM) (K : Option AV → IM → Prop) (h : D169_4 x1 x2 x3 I K) : GO S0 169 4 [vR 237, vI x1, vI x2, vI x3] [] I K := by
  unfold D169_4 at h
  refine G_loadI rc_169_4 rfl ?_
  refine G_loadR rc_169_5 rfl ?_
  refine G_getI rc_169_6 s0_237 (by decide) ?_
  show GO S0 169 9 [vR 237, vI x1, vI x2, vI x3] [vI (I 237 8), vI x3] I K
  refine G_i2 (C := I 237 8 ≤ x3) rc_169_9 rfl (fun c1 => ?_) (fun c1 => ?_)
  · rw [if_pos c1] at h
    show GO S0 169 45 [vR 237, vI x1, vI x2, vI x3] [] I K
    refine G_loadI rc_169_45 rfl ?_
    exact G_retI rc_169_46 (Or.inl rfl) h
  · rw [if_neg c1] at h
    show GO S0 169 12 [vR 237, vI x1, vI x2, vI x3] [] I K
    refine G_loadI rc_169_12 rfl ?_
    refine G_loadR rc_169_13 rfl ?_
    refine G_getR rc_169_14 s0_237 (by decide) rfl (by decide) ?_
    show GO S0 169 17 [vR 237, vI x1, vI x2, vI x3] [vR 243, vI x2] I K
    refine G_loadI rc_169_17 rfl ?_
    obtain ⟨c2, h⟩ := h
    refine G_ald rc_169_18 s0_243 (by omega) (by omega) ?_
    show GO S0 169 19 [vR 237, vI x1, vI x2, vI x3] [vI (I 243 (x3).toNat), vI x2] I K
    refine G_i1 (C := (0 : Int) ≤ I 243 (x3).toNat) rc_169_19 rfl (fun c3 => ?_) (fun c3 => ?_)
    · rw [if_pos c3] at h
      show GO S0 169 26 [vR 237, vI x1, vI x2, vI x3] [vI x2] I K
      refine G_loadR rc_169_26 rfl ?_
      refine G_loadR rc_169_27 rfl ?_
      refine G_getR rc_169_28 s0_237 (by decide) rfl (by decide) ?_
      show GO S0 169 31 [vR 237, vI x1, vI x2, vI x3] [vR 243, vR 237, vI x2] I K
      refine G_loadI rc_169_31 rfl ?_
      refine G_ald rc_169_32 s0_243 (by omega) (by omega) ?_
      show GO S0 169 33 [vR 237, vI x1, vI x2, vI x3] [vI (I 243 (x3).toNat), vR 237, vI x2] I K
      refine G_loadI rc_169_33 rfl ?_
      refine G_call (as := [vR 237, vI (I 243 (x3).toNat), vI x1]) (rest := [vI x2]) rc_169_34 rfl rfl rfl (Nat.le_of_ble_eq_true rfl) (g_recv s0_237 rfl) ?_
      refine GO.imp h (fun v I4 h => ?_)
      obtain ⟨y5, rfl, h⟩ := h
      show GO S0 169 37 [vR 237, vI x1, vI x2, vI x3] [vI y5, vI x2] I4 K
      obtain ⟨c6, h⟩ := h
      refine G_bop (z := x2 + y5) rc_169_37 (if_pos c6) ?_
      show GO S0 169 38 [vR 237, vI x1, vI x2, vI x3] [vI (x2 + y5)] I4 K
      refine G_storeI rc_169_38 (Nat.le_of_ble_eq_true rfl) ?_
      show GO S0 169 39 [vR 237, vI x1, vI (x2 + y5), vI x3] [] I4 K
      obtain ⟨c7, h⟩ := h
      refine G_iinc rc_169_39 rfl c7 ?_
      show GO S0 169 42 [vR 237, vI x1, vI (x2 + y5), vI (x3 + 1)] [] I4 K
      refine G_goto rc_169_42 ?_
      show GO S0 169 4 [vR 237, vI x1, vI (x2 + y5), vI (x3 + 1)] [] I4 K
      exact h
    · rw [if_neg c3] at h
      show GO S0 169 22 [vR 237, vI x1, vI x2, vI x3] [vI x2] I K
      refine G_const rc_169_22 (by decide) ?_
      refine G_goto rc_169_23 ?_
      show GO S0 169 37 [vR 237, vI x1, vI x2, vI x3] [vI 0, vI x2] I K
      obtain ⟨c8, h⟩ := h
      refine G_bop (z := x2 + 0) rc_169_37 (if_pos c8) ?_
      show GO S0 169 38 [vR 237, vI x1, vI x2, vI x3] [vI (x2 + 0)] I K
      refine G_storeI rc_169_38 (Nat.le_of_ble_eq_true rfl) ?_
      show GO S0 169 39 [vR 237, vI x1, vI (x2 + 0), vI x3] [] I K
      obtain ⟨c9, h⟩ := h
      refine G_iinc rc_169_39 rfl c9 ?_
      show GO S0 169 42 [vR 237, vI x1, vI (x2 + 0), vI (x3 + 1)] [] I K
      refine G_goto rc_169_42 ?_
      show GO S0 169 4 [vR 237, vI x1, vI (x2 + 0), vI (x3 + 1)] [] I K
      exact h
def D169_0 (x1 : Int) (I : IM) (K : Option AV → IM → Prop) : Prop :=
  GO S0 169 4 [vR 237, vI x1, vI 0, vI 0] [] I K
set_option maxRecDepth 10000 in
theorem g169_0 (x1 : Int) (I : IM) (K : Option AV → IM → Prop) (h : D169_0 x1 I K) : GO S0 169 0 [vR 237, vI x1, vU, vU] [] I K := by
  unfold D169_0 at h
  refine G_const rc_169_0 (by decide) ?_
  refine G_storeI rc_169_1 (Nat.le_of_ble_eq_true rfl) ?_
  show GO S0 169 2 [vR 237, vI x1, vI 0, vU] [] I K
  refine G_const rc_169_2 (by decide) ?_
  refine G_storeI rc_169_3 (Nat.le_of_ble_eq_true rfl) ?_
  show GO S0 169 4 [vR 237, vI x1, vI 0, vI 0] [] I K
  exact h
/-! 170: RoundSlackModel.becomes()V -/
def D170_2 (x1 : Int) (I : IM) (K : Option AV → IM → Prop) : Prop :=
  (if (52 : Int) ≤ x1 then (K none I) else ((inR (114 + x1)) ∧ (0 ≤ x1 ∧ x1 < 52) ∧ (0 ≤ 114 + x1 ∧ 114 + x1 < 166) ∧ ∀ I5 : IM, I5 = iup I 238 (114 + x1).toNat (I 242 (x1).toNat) → (inR (x1 + 1)) ∧ GO S0 170 2 [vR 237, vI (x1 + 1)] [] I5 K))
set_option maxRecDepth 10000 in
theorem g170_2 (x1 : Int) (I : IM) (K : Option AV → IM → Prop) (h : D170_2 x1 I K) : GO S0 170 2 [vR 237, vI x1] [] I K := by
  unfold D170_2 at h
  refine G_loadI rc_170_2 rfl ?_
  refine G_const rc_170_3 (by decide) ?_
  refine G_i2 (C := (52 : Int) ≤ x1) rc_170_5 rfl (fun c1 => ?_) (fun c1 => ?_)
  · rw [if_pos c1] at h
    show GO S0 170 29 [vR 237, vI x1] [] I K
    exact G_ret0 rc_170_29 h
  · rw [if_neg c1] at h
    show GO S0 170 8 [vR 237, vI x1] [] I K
    refine G_loadR rc_170_8 rfl ?_
    refine G_getR rc_170_9 s0_237 (by decide) rfl (by decide) ?_
    show GO S0 170 12 [vR 237, vI x1] [vR 238] I K
    refine G_const rc_170_12 (by decide) ?_
    refine G_loadI rc_170_14 rfl ?_
    obtain ⟨c2, h⟩ := h
    refine G_bop (z := 114 + x1) rc_170_15 (if_pos c2) ?_
    show GO S0 170 16 [vR 237, vI x1] [vI (114 + x1), vR 238] I K
    refine G_loadR rc_170_16 rfl ?_
    refine G_getR rc_170_17 s0_237 (by decide) rfl (by decide) ?_
    show GO S0 170 20 [vR 237, vI x1] [vR 242, vI (114 + x1), vR 238] I K
    refine G_loadI rc_170_20 rfl ?_
    obtain ⟨c3, h⟩ := h
    refine G_ald rc_170_21 s0_242 (by omega) (by omega) ?_
    show GO S0 170 22 [vR 237, vI x1] [vI (I 242 (x1).toNat), vI (114 + x1), vR 238] I K
    obtain ⟨c4, h⟩ := h
    refine G_ast rc_170_22 s0_238 (by omega) (by omega) (Or.inl rfl) ?_
    show GO S0 170 23 [vR 237, vI x1] [] (iup I 238 (114 + x1).toNat (I 242 (x1).toNat)) K
    have h := h _ rfl
    generalize iup I 238 (114 + x1).toNat (I 242 (x1).toNat) = I5 at h ⊢
    obtain ⟨c6, h⟩ := h
    refine G_iinc rc_170_23 rfl c6 ?_
    show GO S0 170 26 [vR 237, vI (x1 + 1)] [] I5 K
    refine G_goto rc_170_26 ?_
    show GO S0 170 2 [vR 237, vI (x1 + 1)] [] I5 K
    exact h
def D170_0 (I : IM) (K : Option AV → IM → Prop) : Prop :=
  GO S0 170 2 [vR 237, vI 0] [] I K
set_option maxRecDepth 10000 in
theorem g170_0 (I : IM) (K : Option AV → IM → Prop) (h : D170_0 I K) : GO S0 170 0 [vR 237, vU] [] I K := by
  unfold D170_0 at h
  refine G_const rc_170_0 (by decide) ?_
  refine G_storeI rc_170_1 (Nat.le_of_ble_eq_true rfl) ?_
  show GO S0 170 2 [vR 237, vI 0] [] I K
  exact h
/-! 171: RoundSlackModel.stopsIn()I -/
def D171_0 (I : IM) (K : Option AV → IM → Prop) : Prop :=
  (inR ((I 242 0) + (I 242 13))) ∧ (inR (((I 242 0) + (I 242 13)) + (I 242 26))) ∧ (inR ((((I 242 0) + (I 242 13)) + (I 242 26)) + (I 242 39))) ∧ K (some (vI ((((I 242 0) + (I 242 13)) + (I 242 26)) + (I 242 39)))) I
set_option maxRecDepth 10000 in
theorem g171_0 (I : IM) (K : Option AV → IM → Prop) (h : D171_0 I K) : GO S0 171 0 [vR 237] [] I K := by
  unfold D171_0 at h
  refine G_loadR rc_171_0 rfl ?_
  refine G_getR rc_171_1 s0_237 (by decide) rfl (by decide) ?_
  show GO S0 171 4 [vR 237] [vR 242] I K
  refine G_const rc_171_4 (by decide) ?_
  refine G_ald rc_171_5 s0_242 (by decide) (by decide) ?_
  show GO S0 171 6 [vR 237] [vI (I 242 0)] I K
  refine G_loadR rc_171_6 rfl ?_
  refine G_getR rc_171_7 s0_237 (by decide) rfl (by decide) ?_
  show GO S0 171 10 [vR 237] [vR 242, vI (I 242 0)] I K
  refine G_const rc_171_10 (by decide) ?_
  refine G_ald rc_171_12 s0_242 (by decide) (by decide) ?_
  show GO S0 171 13 [vR 237] [vI (I 242 13), vI (I 242 0)] I K
  obtain ⟨c1, h⟩ := h
  refine G_bop (z := (I 242 0) + (I 242 13)) rc_171_13 (if_pos c1) ?_
  show GO S0 171 14 [vR 237] [vI ((I 242 0) + (I 242 13))] I K
  refine G_loadR rc_171_14 rfl ?_
  refine G_getR rc_171_15 s0_237 (by decide) rfl (by decide) ?_
  show GO S0 171 18 [vR 237] [vR 242, vI ((I 242 0) + (I 242 13))] I K
  refine G_const rc_171_18 (by decide) ?_
  refine G_ald rc_171_20 s0_242 (by decide) (by decide) ?_
  show GO S0 171 21 [vR 237] [vI (I 242 26), vI ((I 242 0) + (I 242 13))] I K
  obtain ⟨c2, h⟩ := h
  refine G_bop (z := ((I 242 0) + (I 242 13)) + (I 242 26)) rc_171_21 (if_pos c2) ?_
  show GO S0 171 22 [vR 237] [vI (((I 242 0) + (I 242 13)) + (I 242 26))] I K
  refine G_loadR rc_171_22 rfl ?_
  refine G_getR rc_171_23 s0_237 (by decide) rfl (by decide) ?_
  show GO S0 171 26 [vR 237] [vR 242, vI (((I 242 0) + (I 242 13)) + (I 242 26))] I K
  refine G_const rc_171_26 (by decide) ?_
  refine G_ald rc_171_28 s0_242 (by decide) (by decide) ?_
  show GO S0 171 29 [vR 237] [vI (I 242 39), vI (((I 242 0) + (I 242 13)) + (I 242 26))] I K
  obtain ⟨c3, h⟩ := h
  refine G_bop (z := (((I 242 0) + (I 242 13)) + (I 242 26)) + (I 242 39)) rc_171_29 (if_pos c3) ?_
  show GO S0 171 30 [vR 237] [vI ((((I 242 0) + (I 242 13)) + (I 242 26)) + (I 242 39))] I K
  exact G_retI rc_171_30 (Or.inl rfl) h
/-! 172: RoundSlackModel.spell()I -/
def D172_96 (x1 : Int) (x2 : Int) (x3 : Int) (I : IM) (K : Option AV → IM → Prop) : Prop :=
  (inR (Int.tdiv x3 10)) ∧ (inR (48 + (Int.tmod x3 10))) ∧ CALL S0 173 [vR 237, vI (48 + (Int.tmod x3 10))] I (fun v I3 => v = none ∧ (inR (x2 + 1)) ∧ GO S0 172 14 [vR 237, vI x1, vI (x2 + 1), vI x3] [] I3 K)
set_option maxRecDepth 10000 in
theorem g172_96 (x1 : Int) (x2 : Int) (x3 : Int) (I : IM) (K : Option AV → IM → Prop) (h : D172_96 x1 x2 x3 I K) : GO S0 172 96 [vR 237, vI x1, vI x2, vI x3] [] I K := by
  unfold D172_96 at h
  refine G_loadR rc_172_96 rfl ?_
  refine G_const rc_172_97 (by decide) ?_
  refine G_loadI rc_172_99 rfl ?_
  refine G_const rc_172_100 (by decide) ?_
  obtain ⟨c1, h⟩ := h
  refine G_bop (z := Int.tmod x3 10) rc_172_102 (show (if (10 : Int) ≠ 0 ∧ inR (Int.tdiv x3 10) then some (Int.tmod x3 10) else none) = some (Int.tmod x3 10) from if_pos ⟨by decide, c1⟩) ?_
  show GO S0 172 103 [vR 237, vI x1, vI x2, vI x3] [vI (Int.tmod x3 10), vI 48, vR 237] I K
  obtain ⟨c2, h⟩ := h
  refine G_bop (z := 48 + (Int.tmod x3 10)) rc_172_103 (if_pos c2) ?_
  show GO S0 172 104 [vR 237, vI x1, vI x2, vI x3] [vI (48 + (Int.tmod x3 10)), vR 237] I K
  refine G_call (as := [vR 237, vI (48 + (Int.tmod x3 10))]) (rest := []) rc_172_104 rfl rfl rfl (Nat.le_of_ble_eq_true rfl) (g_recv s0_237 rfl) ?_
  refine GO.imp h (fun v I3 h => ?_)
  obtain ⟨rfl, h⟩ := h
  show GO S0 172 107 [vR 237, vI x1, vI x2, vI x3] [] I3 K
  obtain ⟨c4, h⟩ := h
  refine G_iinc rc_172_107 rfl c4 ?_
  show GO S0 172 110 [vR 237, vI x1, vI (x2 + 1), vI x3] [] I3 K
  refine G_goto rc_172_110 ?_
  show GO S0 172 14 [vR 237, vI x1, vI (x2 + 1), vI x3] [] I3 K
  exact h
def D172_81 (x1 : Int) (x2 : Int) (x3 : Int) (t1 : Int) (I : IM) (K : Option AV → IM → Prop) : Prop :=
  CALL S0 173 [vR 237, vI t1] I (fun v I1 => v = none ∧ (if x3 ≤ 9 then (D172_96 x1 x2 x3 I1 K) else (CALL S0 173 [vR 237, vI 49] I1 (fun v I3 => v = none ∧ D172_96 x1 x2 x3 I3 K))))
set_option maxRecDepth 10000 in
theorem g172_81 (x1 : Int) (x2 : Int) (x3 : Int) (t1 : Int) (I : IM) (K : Option AV → IM → Prop) (h : D172_81 x1 x2 x3 t1 I K) : GO S0 172 81 [vR 237, vI x1, vI x2, vI x3] [vI t1, vR 237] I K := by
  unfold D172_81 at h
  refine G_call (as := [vR 237, vI t1]) (rest := []) rc_172_81 rfl rfl rfl (Nat.le_of_ble_eq_true rfl) (g_recv s0_237 rfl) ?_
  refine GO.imp h (fun v I1 h => ?_)
  obtain ⟨rfl, h⟩ := h
  show GO S0 172 84 [vR 237, vI x1, vI x2, vI x3] [] I1 K
  refine G_loadI rc_172_84 rfl ?_
  refine G_const rc_172_85 (by decide) ?_
  refine G_i2 (C := x3 ≤ 9) rc_172_87 rfl (fun c2 => ?_) (fun c2 => ?_)
  · rw [if_pos c2] at h
    show GO S0 172 96 [vR 237, vI x1, vI x2, vI x3] [] I1 K
    exact g172_96 x1 x2 x3 I1 K h
  · rw [if_neg c2] at h
    show GO S0 172 90 [vR 237, vI x1, vI x2, vI x3] [] I1 K
    refine G_loadR rc_172_90 rfl ?_
    refine G_const rc_172_91 (by decide) ?_
    refine G_call (as := [vR 237, vI 49]) (rest := []) rc_172_93 rfl rfl rfl (Nat.le_of_ble_eq_true rfl) (g_recv s0_237 rfl) ?_
    refine GO.imp h (fun v I3 h => ?_)
    obtain ⟨rfl, h⟩ := h
    show GO S0 172 96 [vR 237, vI x1, vI x2, vI x3] [] I3 K
    exact g172_96 x1 x2 x3 I3 K h
def D172_69 (x1 : Int) (x2 : Int) (x3 : Int) (I : IM) (K : Option AV → IM → Prop) : Prop :=
  (if x2 = 0 then (D172_81 x1 x2 x3 58 I K) else (D172_81 x1 x2 x3 44 I K))
set_option maxRecDepth 10000 in
theorem g172_69 (x1 : Int) (x2 : Int) (x3 : Int) (I : IM) (K : Option AV → IM → Prop) (h : D172_69 x1 x2 x3 I K) : GO S0 172 69 [vR 237, vI x1, vI x2, vI x3] [] I K := by
  unfold D172_69 at h
  refine G_loadR rc_172_69 rfl ?_
  refine G_loadI rc_172_70 rfl ?_
  refine G_i1 (C := ¬ x2 = 0) rc_172_71 rfl (fun c1 => ?_) (fun c1 => ?_)
  · rw [if_neg c1] at h
    show GO S0 172 79 [vR 237, vI x1, vI x2, vI x3] [vR 237] I K
    refine G_const rc_172_79 (by decide) ?_
    exact g172_81 x1 x2 x3 44 I K h
  · rw [if_pos (Classical.not_not.mp c1)] at h
    show GO S0 172 74 [vR 237, vI x1, vI x2, vI x3] [vR 237] I K
    refine G_const rc_172_74 (by decide) ?_
    refine G_goto rc_172_76 ?_
    show GO S0 172 81 [vR 237, vI x1, vI x2, vI x3] [vI 58, vR 237] I K
    exact g172_81 x1 x2 x3 58 I K h
def D172_57 (x1 : Int) (x2 : Int) (x3 : Int) (I : IM) (K : Option AV → IM → Prop) : Prop :=
  (if x2 = 0 then ((inR (48 + x1)) ∧ CALL S0 173 [vR 237, vI (48 + x1)] I (fun v I3 => v = none ∧ D172_69 x1 x2 x3 I3 K)) else (D172_69 x1 x2 x3 I K))
set_option maxRecDepth 10000 in
theorem g172_57 (x1 : Int) (x2 : Int) (x3 : Int) (I : IM) (K : Option AV → IM → Prop) (h : D172_57 x1 x2 x3 I K) : GO S0 172 57 [vR 237, vI x1, vI x2, vI x3] [] I K := by
  unfold D172_57 at h
  refine G_loadI rc_172_57 rfl ?_
  refine G_i1 (C := ¬ x2 = 0) rc_172_58 rfl (fun c1 => ?_) (fun c1 => ?_)
  · rw [if_neg c1] at h
    show GO S0 172 69 [vR 237, vI x1, vI x2, vI x3] [] I K
    exact g172_69 x1 x2 x3 I K h
  · rw [if_pos (Classical.not_not.mp c1)] at h
    show GO S0 172 61 [vR 237, vI x1, vI x2, vI x3] [] I K
    refine G_loadR rc_172_61 rfl ?_
    refine G_const rc_172_62 (by decide) ?_
    refine G_loadI rc_172_64 rfl ?_
    obtain ⟨c2, h⟩ := h
    refine G_bop (z := 48 + x1) rc_172_65 (if_pos c2) ?_
    show GO S0 172 66 [vR 237, vI x1, vI x2, vI x3] [vI (48 + x1), vR 237] I K
    refine G_call (as := [vR 237, vI (48 + x1)]) (rest := []) rc_172_66 rfl rfl rfl (Nat.le_of_ble_eq_true rfl) (g_recv s0_237 rfl) ?_
    refine GO.imp h (fun v I3 h => ?_)
    obtain ⟨rfl, h⟩ := h
    show GO S0 172 69 [vR 237, vI x1, vI x2, vI x3] [] I3 K
    exact g172_69 x1 x2 x3 I3 K h
def D172_14 (x1 : Int) (x2 : Int) (u3 : AV) (I : IM) (K : Option AV → IM → Prop) : Prop :=
  CALL S0 132 [vR 237, vI x1] I (fun v I1 => ∃ y2 : Int, v = some (vI y2) ∧ (if y2 ≤ x2 then ((inR (x1 + 1)) ∧ GO S0 172 7 [vR 237, vI (x1 + 1), vI x2, u3] [] I1 K) else ((inR (13 * x1)) ∧ (inR (114 + (13 * x1))) ∧ (inR ((114 + (13 * x1)) + 1)) ∧ (inR (((114 + (13 * x1)) + 1) + x2)) ∧ (0 ≤ ((114 + (13 * x1)) + 1) + x2 ∧ ((114 + (13 * x1)) + 1) + x2 < 166) ∧ (if x2 = 0 then ((if I1 237 18 ≤ 0 then (D172_57 x1 x2 (I1 238 (((114 + (13 * x1)) + 1) + x2).toNat) I1 K) else (CALL S0 173 [vR 237, vI 59] I1 (fun v I12 => v = none ∧ D172_57 x1 x2 (I1 238 (((114 + (13 * x1)) + 1) + x2).toNat) I12 K)))) else (D172_57 x1 x2 (I1 238 (((114 + (13 * x1)) + 1) + x2).toNat) I1 K)))))
set_option maxRecDepth 10000 in
theorem g172_14 (x1 : Int) (x2 : Int) (u3 : AV) (I : IM) (K : Option AV → IM → Prop) (h : D172_14 x1 x2 u3 I K) : GO S0 172 14 [vR 237, vI x1, vI x2, u3] [] I K := by
  unfold D172_14 at h
  refine G_loadI rc_172_14 rfl ?_
  refine G_loadR rc_172_15 rfl ?_
  refine G_loadI rc_172_16 rfl ?_
  refine G_call (as := [vR 237, vI x1]) (rest := [vI x2]) rc_172_17 rfl rfl rfl (Nat.le_of_ble_eq_true rfl) (g_recv s0_237 rfl) ?_
  refine GO.imp h (fun v I1 h => ?_)
  obtain ⟨y2, rfl, h⟩ := h
  show GO S0 172 20 [vR 237, vI x1, vI x2, u3] [vI y2, vI x2] I1 K
  refine G_i2 (C := y2 ≤ x2) rc_172_20 rfl (fun c3 => ?_) (fun c3 => ?_)
  · rw [if_pos c3] at h
    show GO S0 172 113 [vR 237, vI x1, vI x2, u3] [] I1 K
    obtain ⟨c4, h⟩ := h
    refine G_iinc rc_172_113 rfl c4 ?_
    show GO S0 172 116 [vR 237, vI (x1 + 1), vI x2, u3] [] I1 K
    refine G_goto rc_172_116 ?_
    show GO S0 172 7 [vR 237, vI (x1 + 1), vI x2, u3] [] I1 K
    exact h
  · rw [if_neg c3] at h
    show GO S0 172 23 [vR 237, vI x1, vI x2, u3] [] I1 K
    refine G_loadR rc_172_23 rfl ?_
    refine G_getR rc_172_24 s0_237 (by decide) rfl (by decide) ?_
    show GO S0 172 27 [vR 237, vI x1, vI x2, u3] [vR 238] I1 K
    refine G_const rc_172_27 (by decide) ?_
    refine G_const rc_172_29 (by decide) ?_
    refine G_loadI rc_172_31 rfl ?_
    obtain ⟨c5, h⟩ := h
    refine G_bop (z := 13 * x1) rc_172_32 (if_pos c5) ?_
    show GO S0 172 33 [vR 237, vI x1, vI x2, u3] [vI (13 * x1), vI 114, vR 238] I1 K
    obtain ⟨c6, h⟩ := h
    refine G_bop (z := 114 + (13 * x1)) rc_172_33 (if_pos c6) ?_
    show GO S0 172 34 [vR 237, vI x1, vI x2, u3] [vI (114 + (13 * x1)), vR 238] I1 K
    refine G_const rc_172_34 (by decide) ?_
    obtain ⟨c7, h⟩ := h
    refine G_bop (z := (114 + (13 * x1)) + 1) rc_172_35 (if_pos c7) ?_
    show GO S0 172 36 [vR 237, vI x1, vI x2, u3] [vI ((114 + (13 * x1)) + 1), vR 238] I1 K
    refine G_loadI rc_172_36 rfl ?_
    obtain ⟨c8, h⟩ := h
    refine G_bop (z := ((114 + (13 * x1)) + 1) + x2) rc_172_37 (if_pos c8) ?_
    show GO S0 172 38 [vR 237, vI x1, vI x2, u3] [vI (((114 + (13 * x1)) + 1) + x2), vR 238] I1 K
    obtain ⟨c9, h⟩ := h
    refine G_ald rc_172_38 s0_238 (by omega) (by omega) ?_
    show GO S0 172 39 [vR 237, vI x1, vI x2, u3] [vI (I1 238 (((114 + (13 * x1)) + 1) + x2).toNat)] I1 K
    refine G_storeI rc_172_39 (Nat.le_of_ble_eq_true rfl) ?_
    show GO S0 172 40 [vR 237, vI x1, vI x2, vI (I1 238 (((114 + (13 * x1)) + 1) + x2).toNat)] [] I1 K
    refine G_loadI rc_172_40 rfl ?_
    refine G_i1 (C := ¬ x2 = 0) rc_172_41 rfl (fun c10 => ?_) (fun c10 => ?_)
    · rw [if_neg c10] at h
      show GO S0 172 57 [vR 237, vI x1, vI x2, vI (I1 238 (((114 + (13 * x1)) + 1) + x2).toNat)] [] I1 K
      exact g172_57 x1 x2 (I1 238 (((114 + (13 * x1)) + 1) + x2).toNat) I1 K h
    · rw [if_pos (Classical.not_not.mp c10)] at h
      show GO S0 172 44 [vR 237, vI x1, vI x2, vI (I1 238 (((114 + (13 * x1)) + 1) + x2).toNat)] [] I1 K
      refine G_loadR rc_172_44 rfl ?_
      refine G_getI rc_172_45 s0_237 (by decide) ?_
      show GO S0 172 48 [vR 237, vI x1, vI x2, vI (I1 238 (((114 + (13 * x1)) + 1) + x2).toNat)] [vI (I1 237 18)] I1 K
      refine G_i1 (C := I1 237 18 ≤ 0) rc_172_48 rfl (fun c11 => ?_) (fun c11 => ?_)
      · rw [if_pos c11] at h
        show GO S0 172 57 [vR 237, vI x1, vI x2, vI (I1 238 (((114 + (13 * x1)) + 1) + x2).toNat)] [] I1 K
        exact g172_57 x1 x2 (I1 238 (((114 + (13 * x1)) + 1) + x2).toNat) I1 K h
      · rw [if_neg c11] at h
        show GO S0 172 51 [vR 237, vI x1, vI x2, vI (I1 238 (((114 + (13 * x1)) + 1) + x2).toNat)] [] I1 K
        refine G_loadR rc_172_51 rfl ?_
        refine G_const rc_172_52 (by decide) ?_
        refine G_call (as := [vR 237, vI 59]) (rest := []) rc_172_54 rfl rfl rfl (Nat.le_of_ble_eq_true rfl) (g_recv s0_237 rfl) ?_
        refine GO.imp h (fun v I12 h => ?_)
        obtain ⟨rfl, h⟩ := h
        show GO S0 172 57 [vR 237, vI x1, vI x2, vI (I1 238 (((114 + (13 * x1)) + 1) + x2).toNat)] [] I12 K
        exact g172_57 x1 x2 (I1 238 (((114 + (13 * x1)) + 1) + x2).toNat) I12 K h
def D172_7 (x1 : Int) (u2 : AV) (u3 : AV) (I : IM) (K : Option AV → IM → Prop) : Prop :=
  (if (4 : Int) ≤ x1 then (K (some (vI (I 237 18))) I) else (GO S0 172 14 [vR 237, vI x1, vI 0, u3] [] I K))
set_option maxRecDepth 10000 in
theorem g172_7 (x1 : Int) (u2 : AV) (u3 : AV) (I : IM) (K : Option AV → IM → Prop) (h : D172_7 x1 u2 u3 I K) : GO S0 172 7 [vR 237, vI x1, u2, u3] [] I K := by
  unfold D172_7 at h
  refine G_loadI rc_172_7 rfl ?_
  refine G_const rc_172_8 (by decide) ?_
  refine G_i2 (C := (4 : Int) ≤ x1) rc_172_9 rfl (fun c1 => ?_) (fun c1 => ?_)
  · rw [if_pos c1] at h
    show GO S0 172 119 [vR 237, vI x1, u2, u3] [] I K
    refine G_loadR rc_172_119 rfl ?_
    refine G_getI rc_172_120 s0_237 (by decide) ?_
    show GO S0 172 123 [vR 237, vI x1, u2, u3] [vI (I 237 18)] I K
    exact G_retI rc_172_123 (Or.inl rfl) h
  · rw [if_neg c1] at h
    show GO S0 172 12 [vR 237, vI x1, u2, u3] [] I K
    refine G_const rc_172_12 (by decide) ?_
    refine G_storeI rc_172_13 (Nat.le_of_ble_eq_true rfl) ?_
    show GO S0 172 14 [vR 237, vI x1, vI 0, u3] [] I K
    exact h
def D172_0 (I : IM) (K : Option AV → IM → Prop) : Prop :=
  ∀ I1 : IM, I1 = iup I 237 18 0 → GO S0 172 7 [vR 237, vI 0, vU, vU] [] I1 K
set_option maxRecDepth 10000 in
theorem g172_0 (I : IM) (K : Option AV → IM → Prop) (h : D172_0 I K) : GO S0 172 0 [vR 237, vU, vU, vU] [] I K := by
  unfold D172_0 at h
  refine G_loadR rc_172_0 rfl ?_
  refine G_const rc_172_1 (by decide) ?_
  refine G_putI rc_172_2 s0_237 (by decide) (Or.inl rfl) ?_
  show GO S0 172 5 [vR 237, vU, vU, vU] [] (iup I 237 18 0) K
  have h := h _ rfl
  generalize iup I 237 18 0 = I1 at h ⊢
  refine G_const rc_172_5 (by decide) ?_
  refine G_storeI rc_172_6 (Nat.le_of_ble_eq_true rfl) ?_
  show GO S0 172 7 [vR 237, vI 0, vU, vU] [] I1 K
  exact h
/-! 173: RoundSlackModel.writes(I)V -/
def D173_0 (x1 : Int) (I : IM) (K : Option AV → IM → Prop) : Prop :=
  (0 ≤ I 237 18 ∧ I 237 18 < 160) ∧ ∀ I2 : IM, I2 = iup I 246 (I 237 18).toNat x1 → (inR ((I2 237 18) + 1)) ∧ ∀ I4 : IM, I4 = iup I2 237 18 ((I2 237 18) + 1) → K none I4
set_option maxRecDepth 10000 in
theorem g173_0 (x1 : Int) (I : IM) (K : Option AV → IM → Prop) (h : D173_0 x1 I K) : GO S0 173 0 [vR 237, vI x1] [] I K := by
  unfold D173_0 at h
  refine G_loadR rc_173_0 rfl ?_
  refine G_getR rc_173_1 s0_237 (by decide) rfl (by decide) ?_
  show GO S0 173 4 [vR 237, vI x1] [vR 246] I K
  refine G_loadR rc_173_4 rfl ?_
  refine G_getI rc_173_5 s0_237 (by decide) ?_
  show GO S0 173 8 [vR 237, vI x1] [vI (I 237 18), vR 246] I K
  refine G_loadI rc_173_8 rfl ?_
  obtain ⟨c1, h⟩ := h
  refine G_ast rc_173_9 s0_246 (by omega) (by omega) (Or.inl rfl) ?_
  show GO S0 173 10 [vR 237, vI x1] [] (iup I 246 (I 237 18).toNat x1) K
  have h := h _ rfl
  generalize iup I 246 (I 237 18).toNat x1 = I2 at h ⊢
  refine G_loadR rc_173_10 rfl ?_
  refine G_dupR rc_173_11 ?_
  refine G_getI rc_173_12 s0_237 (by decide) ?_
  show GO S0 173 15 [vR 237, vI x1] [vI (I2 237 18), vR 237] I2 K
  refine G_const rc_173_15 (by decide) ?_
  obtain ⟨c3, h⟩ := h
  refine G_bop (z := (I2 237 18) + 1) rc_173_16 (if_pos c3) ?_
  show GO S0 173 17 [vR 237, vI x1] [vI ((I2 237 18) + 1), vR 237] I2 K
  refine G_putI rc_173_17 s0_237 (by decide) (Or.inl rfl) ?_
  show GO S0 173 20 [vR 237, vI x1] [] (iup I2 237 18 ((I2 237 18) + 1)) K
  have h := h _ rfl
  generalize iup I2 237 18 ((I2 237 18) + 1) = I4 at h ⊢
  exact G_ret0 rc_173_20 h
/-! 174: RoundSlackModel.paper(I)I -/
def D174_0 (x1 : Int) (I : IM) (K : Option AV → IM → Prop) : Prop :=
  (inR ((I 237 18) - 1)) ∧ CALL S0 130 [vI x1, vI 0, vI ((I 237 18) - 1)] I (fun v I2 => ∃ y3 : Int, v = some (vI y3) ∧ (if y3 = 0 then (K (some (vI (-1))) I2) else ((0 ≤ x1 ∧ x1 < 160) ∧ K (some (vI (I2 246 (x1).toNat))) I2)))
set_option maxRecDepth 10000 in
theorem g174_0 (x1 : Int) (I : IM) (K : Option AV → IM → Prop) (h : D174_0 x1 I K) : GO S0 174 0 [vR 237, vI x1] [] I K := by
  unfold D174_0 at h
  refine G_loadI rc_174_0 rfl ?_
  refine G_const rc_174_1 (by decide) ?_
  refine G_loadR rc_174_2 rfl ?_
  refine G_getI rc_174_3 s0_237 (by decide) ?_
  show GO S0 174 6 [vR 237, vI x1] [vI (I 237 18), vI 0, vI x1] I K
  refine G_const rc_174_6 (by decide) ?_
  obtain ⟨c1, h⟩ := h
  refine G_bop (z := (I 237 18) - 1) rc_174_7 (if_pos c1) ?_
  show GO S0 174 8 [vR 237, vI x1] [vI ((I 237 18) - 1), vI 0, vI x1] I K
  refine G_call (as := [vI x1, vI 0, vI ((I 237 18) - 1)]) (rest := []) rc_174_8 rfl rfl rfl (Nat.le_of_ble_eq_true rfl) rfl ?_
  refine GO.imp h (fun v I2 h => ?_)
  obtain ⟨y3, rfl, h⟩ := h
  show GO S0 174 11 [vR 237, vI x1] [vI y3] I2 K
  refine G_i1 (C := y3 = 0) rc_174_11 rfl (fun c4 => ?_) (fun c4 => ?_)
  · rw [if_pos c4] at h
    show GO S0 174 23 [vR 237, vI x1] [] I2 K
    refine G_const rc_174_23 (by decide) ?_
    exact G_retI rc_174_24 (Or.inl rfl) h
  · rw [if_neg c4] at h
    show GO S0 174 14 [vR 237, vI x1] [] I2 K
    refine G_loadR rc_174_14 rfl ?_
    refine G_getR rc_174_15 s0_237 (by decide) rfl (by decide) ?_
    show GO S0 174 18 [vR 237, vI x1] [vR 246] I2 K
    refine G_loadI rc_174_18 rfl ?_
    obtain ⟨c5, h⟩ := h
    refine G_ald rc_174_19 s0_246 (by omega) (by omega) ?_
    show GO S0 174 20 [vR 237, vI x1] [vI (I2 246 (x1).toNat)] I2 K
    refine G_goto rc_174_20 ?_
    show GO S0 174 24 [vR 237, vI x1] [vI (I2 246 (x1).toNat)] I2 K
    exact G_retI rc_174_24 (Or.inl rfl) h
/-! 175: RoundSlackModel.way(II)I -/
def D175_26 (x1 : Int) (x2 : Int) (I : IM) (K : Option AV → IM → Prop) : Prop :=
  CALL S0 166 [vR 237, vI x1, vI x2] I (fun v I1 => ∃ y2 : Int, v = some (vI y2) ∧ K (some (vI y2)) I1)
set_option maxRecDepth 10000 in
theorem g175_26 (x1 : Int) (x2 : Int) (I : IM) (K : Option AV → IM → Prop) (h : D175_26 x1 x2 I K) : GO S0 175 26 [vR 237, vI x1, vI x2] [] I K := by
  unfold D175_26 at h
  refine G_loadR rc_175_26 rfl ?_
  refine G_loadI rc_175_27 rfl ?_
  refine G_loadI rc_175_28 rfl ?_
  refine G_call (as := [vR 237, vI x1, vI x2]) (rest := []) rc_175_29 rfl rfl rfl (Nat.le_of_ble_eq_true rfl) (g_recv s0_237 rfl) ?_
  refine GO.imp h (fun v I1 h => ?_)
  obtain ⟨y2, rfl, h⟩ := h
  show GO S0 175 32 [vR 237, vI x1, vI x2] [vI y2] I1 K
  refine G_goto rc_175_32 ?_
  show GO S0 175 36 [vR 237, vI x1, vI x2] [vI y2] I1 K
  exact G_retI rc_175_36 (Or.inl rfl) h
def D175_13 (x1 : Int) (x2 : Int) (I : IM) (K : Option AV → IM → Prop) : Prop :=
  (if x2 = -1 then (D175_26 x1 x2 I K) else (CALL S0 137 [vR 237, vI x2] I (fun v I2 => ∃ y3 : Int, v = some (vI y3) ∧ (if y3 = 0 then (K (some (vI (-1))) I2) else (D175_26 x1 x2 I2 K)))))
set_option maxRecDepth 10000 in
theorem g175_13 (x1 : Int) (x2 : Int) (I : IM) (K : Option AV → IM → Prop) (h : D175_13 x1 x2 I K) : GO S0 175 13 [vR 237, vI x1, vI x2] [] I K := by
  unfold D175_13 at h
  refine G_loadI rc_175_13 rfl ?_
  refine G_const rc_175_14 (by decide) ?_
  refine G_i2 (C := x2 = -1) rc_175_15 rfl (fun c1 => ?_) (fun c1 => ?_)
  · rw [if_pos c1] at h
    show GO S0 175 26 [vR 237, vI x1, vI x2] [] I K
    exact g175_26 x1 x2 I K h
  · rw [if_neg c1] at h
    show GO S0 175 18 [vR 237, vI x1, vI x2] [] I K
    refine G_loadR rc_175_18 rfl ?_
    refine G_loadI rc_175_19 rfl ?_
    refine G_call (as := [vR 237, vI x2]) (rest := []) rc_175_20 rfl rfl rfl (Nat.le_of_ble_eq_true rfl) (g_recv s0_237 rfl) ?_
    refine GO.imp h (fun v I2 h => ?_)
    obtain ⟨y3, rfl, h⟩ := h
    show GO S0 175 23 [vR 237, vI x1, vI x2] [vI y3] I2 K
    refine G_i1 (C := y3 = 0) rc_175_23 rfl (fun c4 => ?_) (fun c4 => ?_)
    · rw [if_pos c4] at h
      show GO S0 175 35 [vR 237, vI x1, vI x2] [] I2 K
      refine G_const rc_175_35 (by decide) ?_
      exact G_retI rc_175_36 (Or.inl rfl) h
    · rw [if_neg c4] at h
      show GO S0 175 26 [vR 237, vI x1, vI x2] [] I2 K
      exact g175_26 x1 x2 I2 K h
def D175_0 (x1 : Int) (x2 : Int) (I : IM) (K : Option AV → IM → Prop) : Prop :=
  (if x1 = -1 then (D175_13 x1 x2 I K) else (CALL S0 137 [vR 237, vI x1] I (fun v I2 => ∃ y3 : Int, v = some (vI y3) ∧ (if y3 = 0 then (K (some (vI (-1))) I2) else (D175_13 x1 x2 I2 K)))))
set_option maxRecDepth 10000 in
theorem g175_0 (x1 : Int) (x2 : Int) (I : IM) (K : Option AV → IM → Prop) (h : D175_0 x1 x2 I K) : GO S0 175 0 [vR 237, vI x1, vI x2] [] I K := by
  unfold D175_0 at h
  refine G_loadI rc_175_0 rfl ?_
  refine G_const rc_175_1 (by decide) ?_
  refine G_i2 (C := x1 = -1) rc_175_2 rfl (fun c1 => ?_) (fun c1 => ?_)
  · rw [if_pos c1] at h
    show GO S0 175 13 [vR 237, vI x1, vI x2] [] I K
    exact g175_13 x1 x2 I K h
  · rw [if_neg c1] at h
    show GO S0 175 5 [vR 237, vI x1, vI x2] [] I K
    refine G_loadR rc_175_5 rfl ?_
    refine G_loadI rc_175_6 rfl ?_
    refine G_call (as := [vR 237, vI x1]) (rest := []) rc_175_7 rfl rfl rfl (Nat.le_of_ble_eq_true rfl) (g_recv s0_237 rfl) ?_
    refine GO.imp h (fun v I2 h => ?_)
    obtain ⟨y3, rfl, h⟩ := h
    show GO S0 175 10 [vR 237, vI x1, vI x2] [vI y3] I2 K
    refine G_i1 (C := y3 = 0) rc_175_10 rfl (fun c4 => ?_) (fun c4 => ?_)
    · rw [if_pos c4] at h
      show GO S0 175 35 [vR 237, vI x1, vI x2] [] I2 K
      refine G_const rc_175_35 (by decide) ?_
      exact G_retI rc_175_36 (Or.inl rfl) h
    · rw [if_neg c4] at h
      show GO S0 175 13 [vR 237, vI x1, vI x2] [] I2 K
      exact g175_13 x1 x2 I2 K h
/-! 176: RoundSlackModel.of(II)I -/
def D176_0 (x1 : Int) (x2 : Int) (I : IM) (K : Option AV → IM → Prop) : Prop :=
  CALL S0 137 [vR 237, vI x1] I (fun v I1 => ∃ y2 : Int, v = some (vI y2) ∧ (if y2 = 0 then (K (some (vI (-1))) I1) else (CALL S0 130 [vI x2, vI 0, vI 9] I1 (fun v I4 => ∃ y5 : Int, v = some (vI y5) ∧ (if y5 = 0 then (K (some (vI (-1))) I4) else ((if (8 : Int) ≤ x2 then (CALL S0 138 [vR 237, vI x1] I4 (fun v I8 => ∃ y9 : Int, v = some (vI y9) ∧ (if y9 = 0 then ((if x2 = 8 then (CALL S0 139 [vR 237, vI x1] I8 (fun v I14 => ∃ y15 : Int, v = some (vI y15) ∧ K (some (vI y15)) I14)) else (CALL S0 177 [vR 237, vI x1] I8 (fun v I12 => ∃ y13 : Int, v = some (vI y13) ∧ K (some (vI y13)) I12)))) else (K (some (vI (-5))) I8)))) else (CALL S0 140 [vR 237, vI x1, vI x2] I4 (fun v I16 => ∃ y17 : Int, v = some (vI y17) ∧ K (some (vI y17)) I16)))))))))
set_option maxRecDepth 10000 in
theorem g176_0 (x1 : Int) (x2 : Int) (I : IM) (K : Option AV → IM → Prop) (h : D176_0 x1 x2 I K) : GO S0 176 0 [vR 237, vI x1, vI x2] [] I K := by
  unfold D176_0 at h
  refine G_loadR rc_176_0 rfl ?_
  refine G_loadI rc_176_1 rfl ?_
  refine G_call (as := [vR 237, vI x1]) (rest := []) rc_176_2 rfl rfl rfl (Nat.le_of_ble_eq_true rfl) (g_recv s0_237 rfl) ?_
  refine GO.imp h (fun v I1 h => ?_)
  obtain ⟨y2, rfl, h⟩ := h
  show GO S0 176 5 [vR 237, vI x1, vI x2] [vI y2] I1 K
  refine G_i1 (C := y2 = 0) rc_176_5 rfl (fun c3 => ?_) (fun c3 => ?_)
  · rw [if_pos c3] at h
    show GO S0 176 18 [vR 237, vI x1, vI x2] [] I1 K
    refine G_const rc_176_18 (by decide) ?_
    exact G_retI rc_176_19 (Or.inl rfl) h
  · rw [if_neg c3] at h
    show GO S0 176 8 [vR 237, vI x1, vI x2] [] I1 K
    refine G_loadI rc_176_8 rfl ?_
    refine G_const rc_176_9 (by decide) ?_
    refine G_const rc_176_10 (by decide) ?_
    refine G_call (as := [vI x2, vI 0, vI 9]) (rest := []) rc_176_12 rfl rfl rfl (Nat.le_of_ble_eq_true rfl) rfl ?_
    refine GO.imp h (fun v I4 h => ?_)
    obtain ⟨y5, rfl, h⟩ := h
    show GO S0 176 15 [vR 237, vI x1, vI x2] [vI y5] I4 K
    refine G_i1 (C := ¬ y5 = 0) rc_176_15 rfl (fun c6 => ?_) (fun c6 => ?_)
    · rw [if_neg c6] at h
      show GO S0 176 20 [vR 237, vI x1, vI x2] [] I4 K
      refine G_loadI rc_176_20 rfl ?_
      refine G_const rc_176_21 (by decide) ?_
      refine G_i2 (C := (8 : Int) ≤ x2) rc_176_23 rfl (fun c7 => ?_) (fun c7 => ?_)
      · rw [if_pos c7] at h
        show GO S0 176 33 [vR 237, vI x1, vI x2] [] I4 K
        refine G_loadR rc_176_33 rfl ?_
        refine G_loadI rc_176_34 rfl ?_
        refine G_call (as := [vR 237, vI x1]) (rest := []) rc_176_35 rfl rfl rfl (Nat.le_of_ble_eq_true rfl) (g_recv s0_237 rfl) ?_
        refine GO.imp h (fun v I8 h => ?_)
        obtain ⟨y9, rfl, h⟩ := h
        show GO S0 176 38 [vR 237, vI x1, vI x2] [vI y9] I8 K
        refine G_i1 (C := y9 = 0) rc_176_38 rfl (fun c10 => ?_) (fun c10 => ?_)
        · rw [if_pos c10] at h
          show GO S0 176 46 [vR 237, vI x1, vI x2] [] I8 K
          refine G_loadI rc_176_46 rfl ?_
          refine G_const rc_176_47 (by decide) ?_
          refine G_i2 (C := ¬ x2 = 8) rc_176_49 rfl (fun c11 => ?_) (fun c11 => ?_)
          · rw [if_neg c11] at h
            show GO S0 176 60 [vR 237, vI x1, vI x2] [] I8 K
            refine G_loadR rc_176_60 rfl ?_
            refine G_loadI rc_176_61 rfl ?_
            refine G_call (as := [vR 237, vI x1]) (rest := []) rc_176_62 rfl rfl rfl (Nat.le_of_ble_eq_true rfl) (g_recv s0_237 rfl) ?_
            refine GO.imp h (fun v I12 h => ?_)
            obtain ⟨y13, rfl, h⟩ := h
            show GO S0 176 65 [vR 237, vI x1, vI x2] [vI y13] I12 K
            exact G_retI rc_176_65 (Or.inl rfl) h
          · rw [if_pos (Classical.not_not.mp c11)] at h
            show GO S0 176 52 [vR 237, vI x1, vI x2] [] I8 K
            refine G_loadR rc_176_52 rfl ?_
            refine G_loadI rc_176_53 rfl ?_
            refine G_call (as := [vR 237, vI x1]) (rest := []) rc_176_54 rfl rfl rfl (Nat.le_of_ble_eq_true rfl) (g_recv s0_237 rfl) ?_
            refine GO.imp h (fun v I14 h => ?_)
            obtain ⟨y15, rfl, h⟩ := h
            show GO S0 176 57 [vR 237, vI x1, vI x2] [vI y15] I14 K
            refine G_goto rc_176_57 ?_
            show GO S0 176 65 [vR 237, vI x1, vI x2] [vI y15] I14 K
            exact G_retI rc_176_65 (Or.inl rfl) h
        · rw [if_neg c10] at h
          show GO S0 176 41 [vR 237, vI x1, vI x2] [] I8 K
          refine G_const rc_176_41 (by decide) ?_
          refine G_goto rc_176_43 ?_
          show GO S0 176 65 [vR 237, vI x1, vI x2] [vI (-5)] I8 K
          exact G_retI rc_176_65 (Or.inl rfl) h
      · rw [if_neg c7] at h
        show GO S0 176 26 [vR 237, vI x1, vI x2] [] I4 K
        refine G_loadR rc_176_26 rfl ?_
        refine G_loadI rc_176_27 rfl ?_
        refine G_loadI rc_176_28 rfl ?_
        refine G_call (as := [vR 237, vI x1, vI x2]) (rest := []) rc_176_29 rfl rfl rfl (Nat.le_of_ble_eq_true rfl) (g_recv s0_237 rfl) ?_
        refine GO.imp h (fun v I16 h => ?_)
        obtain ⟨y17, rfl, h⟩ := h
        show GO S0 176 32 [vR 237, vI x1, vI x2] [vI y17] I16 K
        exact G_retI rc_176_32 (Or.inl rfl) h
    · rw [if_pos (Classical.not_not.mp c6)] at h
      show GO S0 176 18 [vR 237, vI x1, vI x2] [] I4 K
      refine G_const rc_176_18 (by decide) ?_
      exact G_retI rc_176_19 (Or.inl rfl) h
/-! 177: RoundSlackModel.placeOf(I)I -/
def D177_8 (x1 : Int) (x2 : Int) (x3 : Int) (I : IM) (K : Option AV → IM → Prop) : Prop :=
  (inR (13 * x2)) ∧ (inR (114 + (13 * x2))) ∧ (inR ((114 + (13 * x2)) + 1)) ∧ (inR (((114 + (13 * x2)) + 1) + x3)) ∧ (0 ≤ ((114 + (13 * x2)) + 1) + x3 ∧ ((114 + (13 * x2)) + 1) + x3 < 166) ∧ (if I 238 (((114 + (13 * x2)) + 1) + x3).toNat = x1 then (K (some (vI x3)) I) else ((inR (x3 + 1)) ∧ GO S0 177 8 [vR 237, vI x1, vI x2, vI (x3 + 1)] [] I K))
set_option maxRecDepth 10000 in
theorem g177_8 (x1 : Int) (x2 : Int) (x3 : Int) (I : IM) (K : Option AV → IM → Prop) (h : D177_8 x1 x2 x3 I K) : GO S0 177 8 [vR 237, vI x1, vI x2, vI x3] [] I K := by
  unfold D177_8 at h
  refine G_loadR rc_177_8 rfl ?_
  refine G_getR rc_177_9 s0_237 (by decide) rfl (by decide) ?_
  show GO S0 177 12 [vR 237, vI x1, vI x2, vI x3] [vR 238] I K
  refine G_const rc_177_12 (by decide) ?_
  refine G_const rc_177_14 (by decide) ?_
  refine G_loadI rc_177_16 rfl ?_
  obtain ⟨c1, h⟩ := h
  refine G_bop (z := 13 * x2) rc_177_17 (if_pos c1) ?_
  show GO S0 177 18 [vR 237, vI x1, vI x2, vI x3] [vI (13 * x2), vI 114, vR 238] I K
  obtain ⟨c2, h⟩ := h
  refine G_bop (z := 114 + (13 * x2)) rc_177_18 (if_pos c2) ?_
  show GO S0 177 19 [vR 237, vI x1, vI x2, vI x3] [vI (114 + (13 * x2)), vR 238] I K
  refine G_const rc_177_19 (by decide) ?_
  obtain ⟨c3, h⟩ := h
  refine G_bop (z := (114 + (13 * x2)) + 1) rc_177_20 (if_pos c3) ?_
  show GO S0 177 21 [vR 237, vI x1, vI x2, vI x3] [vI ((114 + (13 * x2)) + 1), vR 238] I K
  refine G_loadI rc_177_21 rfl ?_
  obtain ⟨c4, h⟩ := h
  refine G_bop (z := ((114 + (13 * x2)) + 1) + x3) rc_177_22 (if_pos c4) ?_
  show GO S0 177 23 [vR 237, vI x1, vI x2, vI x3] [vI (((114 + (13 * x2)) + 1) + x3), vR 238] I K
  obtain ⟨c5, h⟩ := h
  refine G_ald rc_177_23 s0_238 (by omega) (by omega) ?_
  show GO S0 177 24 [vR 237, vI x1, vI x2, vI x3] [vI (I 238 (((114 + (13 * x2)) + 1) + x3).toNat)] I K
  refine G_loadI rc_177_24 rfl ?_
  refine G_i2 (C := I 238 (((114 + (13 * x2)) + 1) + x3).toNat = x1) rc_177_25 rfl (fun c6 => ?_) (fun c6 => ?_)
  · rw [if_pos c6] at h
    show GO S0 177 34 [vR 237, vI x1, vI x2, vI x3] [] I K
    refine G_loadI rc_177_34 rfl ?_
    exact G_retI rc_177_35 (Or.inl rfl) h
  · rw [if_neg c6] at h
    show GO S0 177 28 [vR 237, vI x1, vI x2, vI x3] [] I K
    obtain ⟨c7, h⟩ := h
    refine G_iinc rc_177_28 rfl c7 ?_
    show GO S0 177 31 [vR 237, vI x1, vI x2, vI (x3 + 1)] [] I K
    refine G_goto rc_177_31 ?_
    show GO S0 177 8 [vR 237, vI x1, vI x2, vI (x3 + 1)] [] I K
    exact h
def D177_0 (x1 : Int) (I : IM) (K : Option AV → IM → Prop) : Prop :=
  CALL S0 139 [vR 237, vI x1] I (fun v I1 => ∃ y2 : Int, v = some (vI y2) ∧ GO S0 177 8 [vR 237, vI x1, vI y2, vI 0] [] I1 K)
set_option maxRecDepth 10000 in
theorem g177_0 (x1 : Int) (I : IM) (K : Option AV → IM → Prop) (h : D177_0 x1 I K) : GO S0 177 0 [vR 237, vI x1, vU, vU] [] I K := by
  unfold D177_0 at h
  refine G_loadR rc_177_0 rfl ?_
  refine G_loadI rc_177_1 rfl ?_
  refine G_call (as := [vR 237, vI x1]) (rest := []) rc_177_2 rfl rfl rfl (Nat.le_of_ble_eq_true rfl) (g_recv s0_237 rfl) ?_
  refine GO.imp h (fun v I1 h => ?_)
  obtain ⟨y2, rfl, h⟩ := h
  show GO S0 177 5 [vR 237, vI x1, vU, vU] [vI y2] I1 K
  refine G_storeI rc_177_5 (Nat.le_of_ble_eq_true rfl) ?_
  show GO S0 177 6 [vR 237, vI x1, vI y2, vU] [] I1 K
  refine G_const rc_177_6 (by decide) ?_
  refine G_storeI rc_177_7 (Nat.le_of_ble_eq_true rfl) ?_
  show GO S0 177 8 [vR 237, vI x1, vI y2, vI 0] [] I1 K
  exact h
/-! 178: RoundSlackModel.stops(I)I -/
def D178_0 (x1 : Int) (I : IM) (K : Option AV → IM → Prop) : Prop :=
  CALL S0 142 [vI x1] I (fun v I1 => ∃ y2 : Int, v = some (vI y2) ∧ (if y2 = 0 then (K (some (vI (-1))) I1) else (CALL S0 132 [vR 237, vI x1] I1 (fun v I4 => ∃ y5 : Int, v = some (vI y5) ∧ K (some (vI y5)) I4))))
set_option maxRecDepth 10000 in
theorem g178_0 (x1 : Int) (I : IM) (K : Option AV → IM → Prop) (h : D178_0 x1 I K) : GO S0 178 0 [vR 237, vI x1] [] I K := by
  unfold D178_0 at h
  refine G_loadI rc_178_0 rfl ?_
  refine G_call (as := [vI x1]) (rest := []) rc_178_1 rfl rfl rfl (Nat.le_of_ble_eq_true rfl) rfl ?_
  refine GO.imp h (fun v I1 h => ?_)
  obtain ⟨y2, rfl, h⟩ := h
  show GO S0 178 4 [vR 237, vI x1] [vI y2] I1 K
  refine G_i1 (C := y2 = 0) rc_178_4 rfl (fun c3 => ?_) (fun c3 => ?_)
  · rw [if_pos c3] at h
    show GO S0 178 15 [vR 237, vI x1] [] I1 K
    refine G_const rc_178_15 (by decide) ?_
    exact G_retI rc_178_16 (Or.inl rfl) h
  · rw [if_neg c3] at h
    show GO S0 178 7 [vR 237, vI x1] [] I1 K
    refine G_loadR rc_178_7 rfl ?_
    refine G_loadI rc_178_8 rfl ?_
    refine G_call (as := [vR 237, vI x1]) (rest := []) rc_178_9 rfl rfl rfl (Nat.le_of_ble_eq_true rfl) (g_recv s0_237 rfl) ?_
    refine GO.imp h (fun v I4 h => ?_)
    obtain ⟨y5, rfl, h⟩ := h
    show GO S0 178 12 [vR 237, vI x1] [vI y5] I4 K
    refine G_goto rc_178_12 ?_
    show GO S0 178 16 [vR 237, vI x1] [vI y5] I4 K
    exact G_retI rc_178_16 (Or.inl rfl) h
/-! 179: RoundSlackModel.stop(II)I -/
def D179_0 (x1 : Int) (x2 : Int) (I : IM) (K : Option AV → IM → Prop) : Prop :=
  CALL S0 142 [vI x1] I (fun v I1 => ∃ y2 : Int, v = some (vI y2) ∧ (if y2 = 0 then (K (some (vI (-1))) I1) else (CALL S0 132 [vR 237, vI x1] I1 (fun v I4 => ∃ y5 : Int, v = some (vI y5) ∧ (inR (y5 - 1)) ∧ CALL S0 130 [vI x2, vI 0, vI (y5 - 1)] I4 (fun v I7 => ∃ y8 : Int, v = some (vI y8) ∧ (if y8 = 0 then (K (some (vI (-1))) I7) else ((inR (13 * x1)) ∧ (inR (114 + (13 * x1))) ∧ (inR ((114 + (13 * x1)) + 1)) ∧ (inR (((114 + (13 * x1)) + 1) + x2)) ∧ (0 ≤ ((114 + (13 * x1)) + 1) + x2 ∧ ((114 + (13 * x1)) + 1) + x2 < 166) ∧ K (some (vI (I7 238 (((114 + (13 * x1)) + 1) + x2).toNat))) I7)))))))
set_option maxRecDepth 10000 in
theorem g179_0 (x1 : Int) (x2 : Int) (I : IM) (K : Option AV → IM → Prop) (h : D179_0 x1 x2 I K) : GO S0 179 0 [vR 237, vI x1, vI x2] [] I K := by
  unfold D179_0 at h
  refine G_loadI rc_179_0 rfl ?_
  refine G_call (as := [vI x1]) (rest := []) rc_179_1 rfl rfl rfl (Nat.le_of_ble_eq_true rfl) rfl ?_
  refine GO.imp h (fun v I1 h => ?_)
  obtain ⟨y2, rfl, h⟩ := h
  show GO S0 179 4 [vR 237, vI x1, vI x2] [vI y2] I1 K
  refine G_i1 (C := y2 = 0) rc_179_4 rfl (fun c3 => ?_) (fun c3 => ?_)
  · rw [if_pos c3] at h
    show GO S0 179 41 [vR 237, vI x1, vI x2] [] I1 K
    refine G_const rc_179_41 (by decide) ?_
    exact G_retI rc_179_42 (Or.inl rfl) h
  · rw [if_neg c3] at h
    show GO S0 179 7 [vR 237, vI x1, vI x2] [] I1 K
    refine G_loadI rc_179_7 rfl ?_
    refine G_const rc_179_8 (by decide) ?_
    refine G_loadR rc_179_9 rfl ?_
    refine G_loadI rc_179_10 rfl ?_
    refine G_call (as := [vR 237, vI x1]) (rest := [vI 0, vI x2]) rc_179_11 rfl rfl rfl (Nat.le_of_ble_eq_true rfl) (g_recv s0_237 rfl) ?_
    refine GO.imp h (fun v I4 h => ?_)
    obtain ⟨y5, rfl, h⟩ := h
    show GO S0 179 14 [vR 237, vI x1, vI x2] [vI y5, vI 0, vI x2] I4 K
    refine G_const rc_179_14 (by decide) ?_
    obtain ⟨c6, h⟩ := h
    refine G_bop (z := y5 - 1) rc_179_15 (if_pos c6) ?_
    show GO S0 179 16 [vR 237, vI x1, vI x2] [vI (y5 - 1), vI 0, vI x2] I4 K
    refine G_call (as := [vI x2, vI 0, vI (y5 - 1)]) (rest := []) rc_179_16 rfl rfl rfl (Nat.le_of_ble_eq_true rfl) rfl ?_
    refine GO.imp h (fun v I7 h => ?_)
    obtain ⟨y8, rfl, h⟩ := h
    show GO S0 179 19 [vR 237, vI x1, vI x2] [vI y8] I7 K
    refine G_i1 (C := y8 = 0) rc_179_19 rfl (fun c9 => ?_) (fun c9 => ?_)
    · rw [if_pos c9] at h
      show GO S0 179 41 [vR 237, vI x1, vI x2] [] I7 K
      refine G_const rc_179_41 (by decide) ?_
      exact G_retI rc_179_42 (Or.inl rfl) h
    · rw [if_neg c9] at h
      show GO S0 179 22 [vR 237, vI x1, vI x2] [] I7 K
      refine G_loadR rc_179_22 rfl ?_
      refine G_getR rc_179_23 s0_237 (by decide) rfl (by decide) ?_
      show GO S0 179 26 [vR 237, vI x1, vI x2] [vR 238] I7 K
      refine G_const rc_179_26 (by decide) ?_
      refine G_const rc_179_28 (by decide) ?_
      refine G_loadI rc_179_30 rfl ?_
      obtain ⟨c10, h⟩ := h
      refine G_bop (z := 13 * x1) rc_179_31 (if_pos c10) ?_
      show GO S0 179 32 [vR 237, vI x1, vI x2] [vI (13 * x1), vI 114, vR 238] I7 K
      obtain ⟨c11, h⟩ := h
      refine G_bop (z := 114 + (13 * x1)) rc_179_32 (if_pos c11) ?_
      show GO S0 179 33 [vR 237, vI x1, vI x2] [vI (114 + (13 * x1)), vR 238] I7 K
      refine G_const rc_179_33 (by decide) ?_
      obtain ⟨c12, h⟩ := h
      refine G_bop (z := (114 + (13 * x1)) + 1) rc_179_34 (if_pos c12) ?_
      show GO S0 179 35 [vR 237, vI x1, vI x2] [vI ((114 + (13 * x1)) + 1), vR 238] I7 K
      refine G_loadI rc_179_35 rfl ?_
      obtain ⟨c13, h⟩ := h
      refine G_bop (z := ((114 + (13 * x1)) + 1) + x2) rc_179_36 (if_pos c13) ?_
      show GO S0 179 37 [vR 237, vI x1, vI x2] [vI (((114 + (13 * x1)) + 1) + x2), vR 238] I7 K
      obtain ⟨c14, h⟩ := h
      refine G_ald rc_179_37 s0_238 (by omega) (by omega) ?_
      show GO S0 179 38 [vR 237, vI x1, vI x2] [vI (I7 238 (((114 + (13 * x1)) + 1) + x2).toNat)] I7 K
      refine G_goto rc_179_38 ?_
      show GO S0 179 42 [vR 237, vI x1, vI x2] [vI (I7 238 (((114 + (13 * x1)) + 1) + x2).toNat)] I7 K
      exact G_retI rc_179_42 (Or.inl rfl) h
/-! 180: RoundSlackModel.driven(III)I -/
def D180_0 (x1 : Int) (x2 : Int) (x3 : Int) (I : IM) (K : Option AV → IM → Prop) : Prop :=
  CALL S0 181 [vR 237, vI x1, vI x2] I (fun v I1 => ∃ y2 : Int, v = some (vI y2) ∧ (if y2 = 0 then (K (some (vI (-1))) I1) else (CALL S0 130 [vI x3, vI 0, vI 4] I1 (fun v I4 => ∃ y5 : Int, v = some (vI y5) ∧ (if y5 = 0 then (K (some (vI (-1))) I4) else (CALL S0 182 [vR 237, vI x1, vI x2] I4 (fun v I7 => v = none ∧ (if x3 = 0 then (K (some (vI (I7 237 9))) I7) else ((if x3 = 1 then ((inR ((I7 237 10) - (I7 237 9))) ∧ K (some (vI ((I7 237 10) - (I7 237 9)))) I7) else ((if x3 = 2 then (K (some (vI (I7 237 10))) I7) else ((if x3 = 3 then (K (some (vI (I7 237 11))) I7) else (CALL S0 184 [vR 237, vI x1, vI x2] I7 (fun v I12 => ∃ y13 : Int, v = some (vI y13) ∧ K (some (vI y13)) I12))))))))))))))))
set_option maxRecDepth 10000 in
theorem g180_0 (x1 : Int) (x2 : Int) (x3 : Int) (I : IM) (K : Option AV → IM → Prop) (h : D180_0 x1 x2 x3 I K) : GO S0 180 0 [vR 237, vI x1, vI x2, vI x3] [] I K := by
  unfold D180_0 at h
  refine G_loadR rc_180_0 rfl ?_
  refine G_loadI rc_180_1 rfl ?_
  refine G_loadI rc_180_2 rfl ?_
  refine G_call (as := [vR 237, vI x1, vI x2]) (rest := []) rc_180_3 rfl rfl rfl (Nat.le_of_ble_eq_true rfl) (g_recv s0_237 rfl) ?_
  refine GO.imp h (fun v I1 h => ?_)
  obtain ⟨y2, rfl, h⟩ := h
  show GO S0 180 6 [vR 237, vI x1, vI x2, vI x3] [vI y2] I1 K
  refine G_i1 (C := y2 = 0) rc_180_6 rfl (fun c3 => ?_) (fun c3 => ?_)
  · rw [if_pos c3] at h
    show GO S0 180 18 [vR 237, vI x1, vI x2, vI x3] [] I1 K
    refine G_const rc_180_18 (by decide) ?_
    exact G_retI rc_180_19 (Or.inl rfl) h
  · rw [if_neg c3] at h
    show GO S0 180 9 [vR 237, vI x1, vI x2, vI x3] [] I1 K
    refine G_loadI rc_180_9 rfl ?_
    refine G_const rc_180_10 (by decide) ?_
    refine G_const rc_180_11 (by decide) ?_
    refine G_call (as := [vI x3, vI 0, vI 4]) (rest := []) rc_180_12 rfl rfl rfl (Nat.le_of_ble_eq_true rfl) rfl ?_
    refine GO.imp h (fun v I4 h => ?_)
    obtain ⟨y5, rfl, h⟩ := h
    show GO S0 180 15 [vR 237, vI x1, vI x2, vI x3] [vI y5] I4 K
    refine G_i1 (C := ¬ y5 = 0) rc_180_15 rfl (fun c6 => ?_) (fun c6 => ?_)
    · rw [if_neg c6] at h
      show GO S0 180 20 [vR 237, vI x1, vI x2, vI x3] [] I4 K
      refine G_loadR rc_180_20 rfl ?_
      refine G_loadI rc_180_21 rfl ?_
      refine G_loadI rc_180_22 rfl ?_
      refine G_call (as := [vR 237, vI x1, vI x2]) (rest := []) rc_180_23 rfl rfl rfl (Nat.le_of_ble_eq_true rfl) (g_recv s0_237 rfl) ?_
      refine GO.imp h (fun v I7 h => ?_)
      obtain ⟨rfl, h⟩ := h
      show GO S0 180 26 [vR 237, vI x1, vI x2, vI x3] [] I7 K
      refine G_loadI rc_180_26 rfl ?_
      refine G_i1 (C := ¬ x3 = 0) rc_180_27 rfl (fun c8 => ?_) (fun c8 => ?_)
      · rw [if_neg c8] at h
        show GO S0 180 37 [vR 237, vI x1, vI x2, vI x3] [] I7 K
        refine G_loadI rc_180_37 rfl ?_
        refine G_const rc_180_38 (by decide) ?_
        refine G_i2 (C := ¬ x3 = 1) rc_180_39 rfl (fun c9 => ?_) (fun c9 => ?_)
        · rw [if_neg c9] at h
          show GO S0 180 54 [vR 237, vI x1, vI x2, vI x3] [] I7 K
          refine G_loadI rc_180_54 rfl ?_
          refine G_const rc_180_55 (by decide) ?_
          refine G_i2 (C := ¬ x3 = 2) rc_180_56 rfl (fun c10 => ?_) (fun c10 => ?_)
          · rw [if_neg c10] at h
            show GO S0 180 66 [vR 237, vI x1, vI x2, vI x3] [] I7 K
            refine G_loadI rc_180_66 rfl ?_
            refine G_const rc_180_67 (by decide) ?_
            refine G_i2 (C := ¬ x3 = 3) rc_180_68 rfl (fun c11 => ?_) (fun c11 => ?_)
            · rw [if_neg c11] at h
              show GO S0 180 78 [vR 237, vI x1, vI x2, vI x3] [] I7 K
              refine G_loadR rc_180_78 rfl ?_
              refine G_loadI rc_180_79 rfl ?_
              refine G_loadI rc_180_80 rfl ?_
              refine G_call (as := [vR 237, vI x1, vI x2]) (rest := []) rc_180_81 rfl rfl rfl (Nat.le_of_ble_eq_true rfl) (g_recv s0_237 rfl) ?_
              refine GO.imp h (fun v I12 h => ?_)
              obtain ⟨y13, rfl, h⟩ := h
              show GO S0 180 84 [vR 237, vI x1, vI x2, vI x3] [vI y13] I12 K
              exact G_retI rc_180_84 (Or.inl rfl) h
            · rw [if_pos (Classical.not_not.mp c11)] at h
              show GO S0 180 71 [vR 237, vI x1, vI x2, vI x3] [] I7 K
              refine G_loadR rc_180_71 rfl ?_
              refine G_getI rc_180_72 s0_237 (by decide) ?_
              show GO S0 180 75 [vR 237, vI x1, vI x2, vI x3] [vI (I7 237 11)] I7 K
              refine G_goto rc_180_75 ?_
              show GO S0 180 84 [vR 237, vI x1, vI x2, vI x3] [vI (I7 237 11)] I7 K
              exact G_retI rc_180_84 (Or.inl rfl) h
          · rw [if_pos (Classical.not_not.mp c10)] at h
            show GO S0 180 59 [vR 237, vI x1, vI x2, vI x3] [] I7 K
            refine G_loadR rc_180_59 rfl ?_
            refine G_getI rc_180_60 s0_237 (by decide) ?_
            show GO S0 180 63 [vR 237, vI x1, vI x2, vI x3] [vI (I7 237 10)] I7 K
            refine G_goto rc_180_63 ?_
            show GO S0 180 84 [vR 237, vI x1, vI x2, vI x3] [vI (I7 237 10)] I7 K
            exact G_retI rc_180_84 (Or.inl rfl) h
        · rw [if_pos (Classical.not_not.mp c9)] at h
          show GO S0 180 42 [vR 237, vI x1, vI x2, vI x3] [] I7 K
          refine G_loadR rc_180_42 rfl ?_
          refine G_getI rc_180_43 s0_237 (by decide) ?_
          show GO S0 180 46 [vR 237, vI x1, vI x2, vI x3] [vI (I7 237 10)] I7 K
          refine G_loadR rc_180_46 rfl ?_
          refine G_getI rc_180_47 s0_237 (by decide) ?_
          show GO S0 180 50 [vR 237, vI x1, vI x2, vI x3] [vI (I7 237 9), vI (I7 237 10)] I7 K
          obtain ⟨c14, h⟩ := h
          refine G_bop (z := (I7 237 10) - (I7 237 9)) rc_180_50 (if_pos c14) ?_
          show GO S0 180 51 [vR 237, vI x1, vI x2, vI x3] [vI ((I7 237 10) - (I7 237 9))] I7 K
          refine G_goto rc_180_51 ?_
          show GO S0 180 84 [vR 237, vI x1, vI x2, vI x3] [vI ((I7 237 10) - (I7 237 9))] I7 K
          exact G_retI rc_180_84 (Or.inl rfl) h
      · rw [if_pos (Classical.not_not.mp c8)] at h
        show GO S0 180 30 [vR 237, vI x1, vI x2, vI x3] [] I7 K
        refine G_loadR rc_180_30 rfl ?_
        refine G_getI rc_180_31 s0_237 (by decide) ?_
        show GO S0 180 34 [vR 237, vI x1, vI x2, vI x3] [vI (I7 237 9)] I7 K
        refine G_goto rc_180_34 ?_
        show GO S0 180 84 [vR 237, vI x1, vI x2, vI x3] [vI (I7 237 9)] I7 K
        exact G_retI rc_180_84 (Or.inl rfl) h
    · rw [if_pos (Classical.not_not.mp c6)] at h
      show GO S0 180 18 [vR 237, vI x1, vI x2, vI x3] [] I4 K
      refine G_const rc_180_18 (by decide) ?_
      exact G_retI rc_180_19 (Or.inl rfl) h
/-! 181: RoundSlackModel.isStop(II)Z -/
def D181_0 (x1 : Int) (x2 : Int) (I : IM) (K : Option AV → IM → Prop) : Prop :=
  CALL S0 142 [vI x1] I (fun v I1 => ∃ y2 : Int, v = some (vI y2) ∧ (if y2 = 0 then (K (some (vI 0)) I1) else (CALL S0 132 [vR 237, vI x1] I1 (fun v I4 => ∃ y5 : Int, v = some (vI y5) ∧ CALL S0 130 [vI x2, vI 0, vI y5] I4 (fun v I6 => ∃ y7 : Int, v = some (vI y7) ∧ (if y7 = 0 then (K (some (vI 0)) I6) else (K (some (vI 1)) I6)))))))
set_option maxRecDepth 10000 in
theorem g181_0 (x1 : Int) (x2 : Int) (I : IM) (K : Option AV → IM → Prop) (h : D181_0 x1 x2 I K) : GO S0 181 0 [vR 237, vI x1, vI x2] [] I K := by
  unfold D181_0 at h
  refine G_loadI rc_181_0 rfl ?_
  refine G_call (as := [vI x1]) (rest := []) rc_181_1 rfl rfl rfl (Nat.le_of_ble_eq_true rfl) rfl ?_
  refine GO.imp h (fun v I1 h => ?_)
  obtain ⟨y2, rfl, h⟩ := h
  show GO S0 181 4 [vR 237, vI x1, vI x2] [vI y2] I1 K
  refine G_i1 (C := y2 = 0) rc_181_4 rfl (fun c3 => ?_) (fun c3 => ?_)
  · rw [if_pos c3] at h
    show GO S0 181 24 [vR 237, vI x1, vI x2] [] I1 K
    refine G_const rc_181_24 (by decide) ?_
    exact G_retI rc_181_25 (Or.inr (by decide)) h
  · rw [if_neg c3] at h
    show GO S0 181 7 [vR 237, vI x1, vI x2] [] I1 K
    refine G_loadI rc_181_7 rfl ?_
    refine G_const rc_181_8 (by decide) ?_
    refine G_loadR rc_181_9 rfl ?_
    refine G_loadI rc_181_10 rfl ?_
    refine G_call (as := [vR 237, vI x1]) (rest := [vI 0, vI x2]) rc_181_11 rfl rfl rfl (Nat.le_of_ble_eq_true rfl) (g_recv s0_237 rfl) ?_
    refine GO.imp h (fun v I4 h => ?_)
    obtain ⟨y5, rfl, h⟩ := h
    show GO S0 181 14 [vR 237, vI x1, vI x2] [vI y5, vI 0, vI x2] I4 K
    refine G_call (as := [vI x2, vI 0, vI y5]) (rest := []) rc_181_14 rfl rfl rfl (Nat.le_of_ble_eq_true rfl) rfl ?_
    refine GO.imp h (fun v I6 h => ?_)
    obtain ⟨y7, rfl, h⟩ := h
    show GO S0 181 17 [vR 237, vI x1, vI x2] [vI y7] I6 K
    refine G_i1 (C := y7 = 0) rc_181_17 rfl (fun c8 => ?_) (fun c8 => ?_)
    · rw [if_pos c8] at h
      show GO S0 181 24 [vR 237, vI x1, vI x2] [] I6 K
      refine G_const rc_181_24 (by decide) ?_
      exact G_retI rc_181_25 (Or.inr (by decide)) h
    · rw [if_neg c8] at h
      show GO S0 181 20 [vR 237, vI x1, vI x2] [] I6 K
      refine G_const rc_181_20 (by decide) ?_
      refine G_goto rc_181_21 ?_
      show GO S0 181 25 [vR 237, vI x1, vI x2] [vI 1] I6 K
      exact G_retI rc_181_25 (Or.inr (by decide)) h
/-! 182: RoundSlackModel.drivesTo(II)V -/
def D182_0 (x1 : Int) (x2 : Int) (I : IM) (K : Option AV → IM → Prop) : Prop :=
  CALL S0 183 [vR 237] I (fun v I1 => v = none ∧ CALL S0 160 [vR 237, vR 241, vI x1] I1 (fun v I2 => v = none ∧ CALL S0 163 [vR 237, vI x1, vI (-1)] I2 (fun v I3 => ∃ y4 : Int, v = some (vI y4) ∧ (inR (x2 + 1)) ∧ CALL S0 164 [vR 237, vI x1, vI y4, vI (x2 + 1)] I3 (fun v I6 => v = none ∧ K none I6))))
set_option maxRecDepth 10000 in
theorem g182_0 (x1 : Int) (x2 : Int) (I : IM) (K : Option AV → IM → Prop) (h : D182_0 x1 x2 I K) : GO S0 182 0 [vR 237, vI x1, vI x2] [] I K := by
  unfold D182_0 at h
  refine G_loadR rc_182_0 rfl ?_
  refine G_call (as := [vR 237]) (rest := []) rc_182_1 rfl rfl rfl (Nat.le_of_ble_eq_true rfl) (g_recv s0_237 rfl) ?_
  refine GO.imp h (fun v I1 h => ?_)
  obtain ⟨rfl, h⟩ := h
  show GO S0 182 4 [vR 237, vI x1, vI x2] [] I1 K
  refine G_loadR rc_182_4 rfl ?_
  refine G_loadR rc_182_5 rfl ?_
  refine G_getR rc_182_6 s0_237 (by decide) rfl (by decide) ?_
  show GO S0 182 9 [vR 237, vI x1, vI x2] [vR 241, vR 237] I1 K
  refine G_loadI rc_182_9 rfl ?_
  refine G_call (as := [vR 237, vR 241, vI x1]) (rest := []) rc_182_10 rfl rfl rfl (Nat.le_of_ble_eq_true rfl) (g_recv s0_237 rfl) ?_
  refine GO.imp h (fun v I2 h => ?_)
  obtain ⟨rfl, h⟩ := h
  show GO S0 182 13 [vR 237, vI x1, vI x2] [] I2 K
  refine G_loadR rc_182_13 rfl ?_
  refine G_loadI rc_182_14 rfl ?_
  refine G_loadR rc_182_15 rfl ?_
  refine G_loadI rc_182_16 rfl ?_
  refine G_const rc_182_17 (by decide) ?_
  refine G_call (as := [vR 237, vI x1, vI (-1)]) (rest := [vI x1, vR 237]) rc_182_18 rfl rfl rfl (Nat.le_of_ble_eq_true rfl) (g_recv s0_237 rfl) ?_
  refine GO.imp h (fun v I3 h => ?_)
  obtain ⟨y4, rfl, h⟩ := h
  show GO S0 182 21 [vR 237, vI x1, vI x2] [vI y4, vI x1, vR 237] I3 K
  refine G_loadI rc_182_21 rfl ?_
  refine G_const rc_182_22 (by decide) ?_
  obtain ⟨c5, h⟩ := h
  refine G_bop (z := x2 + 1) rc_182_23 (if_pos c5) ?_
  show GO S0 182 24 [vR 237, vI x1, vI x2] [vI (x2 + 1), vI y4, vI x1, vR 237] I3 K
  refine G_call (as := [vR 237, vI x1, vI y4, vI (x2 + 1)]) (rest := []) rc_182_24 rfl rfl rfl (Nat.le_of_ble_eq_true rfl) (g_recv s0_237 rfl) ?_
  refine GO.imp h (fun v I6 h => ?_)
  obtain ⟨rfl, h⟩ := h
  show GO S0 182 27 [vR 237, vI x1, vI x2] [] I6 K
  exact G_ret0 rc_182_27 h
/-! 183: RoundSlackModel.looks()V -/
def D183_2 (x1 : Int) (I : IM) (K : Option AV → IM → Prop) : Prop :=
  (if (52 : Int) ≤ x1 then (K none I) else ((inR (114 + x1)) ∧ (0 ≤ 114 + x1 ∧ 114 + x1 < 166) ∧ (0 ≤ x1 ∧ x1 < 52) ∧ ∀ I5 : IM, I5 = iup I 241 (x1).toNat (I 238 (114 + x1).toNat) → (inR (x1 + 1)) ∧ GO S0 183 2 [vR 237, vI (x1 + 1)] [] I5 K))
set_option maxRecDepth 10000 in
theorem g183_2 (x1 : Int) (I : IM) (K : Option AV → IM → Prop) (h : D183_2 x1 I K) : GO S0 183 2 [vR 237, vI x1] [] I K := by
  unfold D183_2 at h
  refine G_loadI rc_183_2 rfl ?_
  refine G_const rc_183_3 (by decide) ?_
  refine G_i2 (C := (52 : Int) ≤ x1) rc_183_5 rfl (fun c1 => ?_) (fun c1 => ?_)
  · rw [if_pos c1] at h
    show GO S0 183 29 [vR 237, vI x1] [] I K
    exact G_ret0 rc_183_29 h
  · rw [if_neg c1] at h
    show GO S0 183 8 [vR 237, vI x1] [] I K
    refine G_loadR rc_183_8 rfl ?_
    refine G_getR rc_183_9 s0_237 (by decide) rfl (by decide) ?_
    show GO S0 183 12 [vR 237, vI x1] [vR 241] I K
    refine G_loadI rc_183_12 rfl ?_
    refine G_loadR rc_183_13 rfl ?_
    refine G_getR rc_183_14 s0_237 (by decide) rfl (by decide) ?_
    show GO S0 183 17 [vR 237, vI x1] [vR 238, vI x1, vR 241] I K
    refine G_const rc_183_17 (by decide) ?_
    refine G_loadI rc_183_19 rfl ?_
    obtain ⟨c2, h⟩ := h
    refine G_bop (z := 114 + x1) rc_183_20 (if_pos c2) ?_
    show GO S0 183 21 [vR 237, vI x1] [vI (114 + x1), vR 238, vI x1, vR 241] I K
    obtain ⟨c3, h⟩ := h
    refine G_ald rc_183_21 s0_238 (by omega) (by omega) ?_
    show GO S0 183 22 [vR 237, vI x1] [vI (I 238 (114 + x1).toNat), vI x1, vR 241] I K
    obtain ⟨c4, h⟩ := h
    refine G_ast rc_183_22 s0_241 (by omega) (by omega) (Or.inl rfl) ?_
    show GO S0 183 23 [vR 237, vI x1] [] (iup I 241 (x1).toNat (I 238 (114 + x1).toNat)) K
    have h := h _ rfl
    generalize iup I 241 (x1).toNat (I 238 (114 + x1).toNat) = I5 at h ⊢
    obtain ⟨c6, h⟩ := h
    refine G_iinc rc_183_23 rfl c6 ?_
    show GO S0 183 26 [vR 237, vI (x1 + 1)] [] I5 K
    refine G_goto rc_183_26 ?_
    show GO S0 183 2 [vR 237, vI (x1 + 1)] [] I5 K
    exact h
def D183_0 (I : IM) (K : Option AV → IM → Prop) : Prop :=
  GO S0 183 2 [vR 237, vI 0] [] I K
set_option maxRecDepth 10000 in
theorem g183_0 (I : IM) (K : Option AV → IM → Prop) (h : D183_0 I K) : GO S0 183 0 [vR 237, vU] [] I K := by
  unfold D183_0 at h
  refine G_const rc_183_0 (by decide) ?_
  refine G_storeI rc_183_1 (Nat.le_of_ble_eq_true rfl) ?_
  show GO S0 183 2 [vR 237, vI 0] [] I K
  exact h
/-! 184: RoundSlackModel.loadBehind(II)I -/
def D184_9 (x1 : Int) (x2 : Int) (x3 : Int) (x4 : Int) (I : IM) (K : Option AV → IM → Prop) : Prop :=
  (inR (x2 + 1)) ∧ (if x2 + 1 < x4 then (K (some (vI x3)) I) else ((0 ≤ x4 ∧ x4 < 14) ∧ (if (0 : Int) ≤ I 243 (x4).toNat then (CALL S0 140 [vR 237, vI (I 243 (x4).toNat), vI 6] I (fun v I5 => ∃ y6 : Int, v = some (vI y6) ∧ CALL S0 140 [vR 237, vI (I5 243 (x4).toNat), vI 5] I5 (fun v I7 => ∃ y8 : Int, v = some (vI y8) ∧ (inR (y6 - y8)) ∧ (inR (x3 + (y6 - y8))) ∧ (inR (x4 + 1)) ∧ GO S0 184 9 [vR 237, vI x1, vI x2, vI (x3 + (y6 - y8)), vI (x4 + 1)] [] I7 K))) else ((inR (x3 + 0)) ∧ (inR (x4 + 1)) ∧ GO S0 184 9 [vR 237, vI x1, vI x2, vI (x3 + 0), vI (x4 + 1)] [] I K))))
set_option maxRecDepth 10000 in
theorem g184_9 (x1 : Int) (x2 : Int) (x3 : Int) (x4 : Int) (I : IM) (K : Option AV → IM → Prop) (h : D184_9 x1 x2 x3 x4 I K) : GO S0 184 9 [vR 237, vI x1, vI x2, vI x3, vI x4] [] I K := by
  unfold D184_9 at h
  refine G_loadI rc_184_9 rfl ?_
  refine G_loadI rc_184_11 rfl ?_
  refine G_const rc_184_12 (by decide) ?_
  obtain ⟨c1, h⟩ := h
  refine G_bop (z := x2 + 1) rc_184_13 (if_pos c1) ?_
  show GO S0 184 14 [vR 237, vI x1, vI x2, vI x3, vI x4] [vI (x2 + 1), vI x4] I K
  refine G_i2 (C := x2 + 1 < x4) rc_184_14 rfl (fun c2 => ?_) (fun c2 => ?_)
  · rw [if_pos c2] at h
    show GO S0 184 66 [vR 237, vI x1, vI x2, vI x3, vI x4] [] I K
    refine G_loadI rc_184_66 rfl ?_
    exact G_retI rc_184_67 (Or.inl rfl) h
  · rw [if_neg c2] at h
    show GO S0 184 17 [vR 237, vI x1, vI x2, vI x3, vI x4] [] I K
    refine G_loadI rc_184_17 rfl ?_
    refine G_loadR rc_184_18 rfl ?_
    refine G_getR rc_184_19 s0_237 (by decide) rfl (by decide) ?_
    show GO S0 184 22 [vR 237, vI x1, vI x2, vI x3, vI x4] [vR 243, vI x3] I K
    refine G_loadI rc_184_22 rfl ?_
    obtain ⟨c3, h⟩ := h
    refine G_ald rc_184_24 s0_243 (by omega) (by omega) ?_
    show GO S0 184 25 [vR 237, vI x1, vI x2, vI x3, vI x4] [vI (I 243 (x4).toNat), vI x3] I K
    refine G_i1 (C := (0 : Int) ≤ I 243 (x4).toNat) rc_184_25 rfl (fun c4 => ?_) (fun c4 => ?_)
    · rw [if_pos c4] at h
      show GO S0 184 32 [vR 237, vI x1, vI x2, vI x3, vI x4] [vI x3] I K
      refine G_loadR rc_184_32 rfl ?_
      refine G_loadR rc_184_33 rfl ?_
      refine G_getR rc_184_34 s0_237 (by decide) rfl (by decide) ?_
      show GO S0 184 37 [vR 237, vI x1, vI x2, vI x3, vI x4] [vR 243, vR 237, vI x3] I K
      refine G_loadI rc_184_37 rfl ?_
      refine G_ald rc_184_39 s0_243 (by omega) (by omega) ?_
      show GO S0 184 40 [vR 237, vI x1, vI x2, vI x3, vI x4] [vI (I 243 (x4).toNat), vR 237, vI x3] I K
      refine G_const rc_184_40 (by decide) ?_
      refine G_call (as := [vR 237, vI (I 243 (x4).toNat), vI 6]) (rest := [vI x3]) rc_184_42 rfl rfl rfl (Nat.le_of_ble_eq_true rfl) (g_recv s0_237 rfl) ?_
      refine GO.imp h (fun v I5 h => ?_)
      obtain ⟨y6, rfl, h⟩ := h
      show GO S0 184 45 [vR 237, vI x1, vI x2, vI x3, vI x4] [vI y6, vI x3] I5 K
      refine G_loadR rc_184_45 rfl ?_
      refine G_loadR rc_184_46 rfl ?_
      refine G_getR rc_184_47 s0_237 (by decide) rfl (by decide) ?_
      show GO S0 184 50 [vR 237, vI x1, vI x2, vI x3, vI x4] [vR 243, vR 237, vI y6, vI x3] I5 K
      refine G_loadI rc_184_50 rfl ?_
      refine G_ald rc_184_52 s0_243 (by omega) (by omega) ?_
      show GO S0 184 53 [vR 237, vI x1, vI x2, vI x3, vI x4] [vI (I5 243 (x4).toNat), vR 237, vI y6, vI x3] I5 K
      refine G_const rc_184_53 (by decide) ?_
      refine G_call (as := [vR 237, vI (I5 243 (x4).toNat), vI 5]) (rest := [vI y6, vI x3]) rc_184_54 rfl rfl rfl (Nat.le_of_ble_eq_true rfl) (g_recv s0_237 rfl) ?_
      refine GO.imp h (fun v I7 h => ?_)
      obtain ⟨y8, rfl, h⟩ := h
      show GO S0 184 57 [vR 237, vI x1, vI x2, vI x3, vI x4] [vI y8, vI y6, vI x3] I7 K
      obtain ⟨c9, h⟩ := h
      refine G_bop (z := y6 - y8) rc_184_57 (if_pos c9) ?_
      show GO S0 184 58 [vR 237, vI x1, vI x2, vI x3, vI x4] [vI (y6 - y8), vI x3] I7 K
      obtain ⟨c10, h⟩ := h
      refine G_bop (z := x3 + (y6 - y8)) rc_184_58 (if_pos c10) ?_
      show GO S0 184 59 [vR 237, vI x1, vI x2, vI x3, vI x4] [vI (x3 + (y6 - y8))] I7 K
      refine G_storeI rc_184_59 (Nat.le_of_ble_eq_true rfl) ?_
      show GO S0 184 60 [vR 237, vI x1, vI x2, vI (x3 + (y6 - y8)), vI x4] [] I7 K
      obtain ⟨c11, h⟩ := h
      refine G_iinc rc_184_60 rfl c11 ?_
      show GO S0 184 63 [vR 237, vI x1, vI x2, vI (x3 + (y6 - y8)), vI (x4 + 1)] [] I7 K
      refine G_goto rc_184_63 ?_
      show GO S0 184 9 [vR 237, vI x1, vI x2, vI (x3 + (y6 - y8)), vI (x4 + 1)] [] I7 K
      exact h
    · rw [if_neg c4] at h
      show GO S0 184 28 [vR 237, vI x1, vI x2, vI x3, vI x4] [vI x3] I K
      refine G_const rc_184_28 (by decide) ?_
      refine G_goto rc_184_29 ?_
      show GO S0 184 58 [vR 237, vI x1, vI x2, vI x3, vI x4] [vI 0, vI x3] I K
      obtain ⟨c12, h⟩ := h
      refine G_bop (z := x3 + 0) rc_184_58 (if_pos c12) ?_
      show GO S0 184 59 [vR 237, vI x1, vI x2, vI x3, vI x4] [vI (x3 + 0)] I K
      refine G_storeI rc_184_59 (Nat.le_of_ble_eq_true rfl) ?_
      show GO S0 184 60 [vR 237, vI x1, vI x2, vI (x3 + 0), vI x4] [] I K
      obtain ⟨c13, h⟩ := h
      refine G_iinc rc_184_60 rfl c13 ?_
      show GO S0 184 63 [vR 237, vI x1, vI x2, vI (x3 + 0), vI (x4 + 1)] [] I K
      refine G_goto rc_184_63 ?_
      show GO S0 184 9 [vR 237, vI x1, vI x2, vI (x3 + 0), vI (x4 + 1)] [] I K
      exact h
def D184_0 (x1 : Int) (x2 : Int) (I : IM) (K : Option AV → IM → Prop) : Prop :=
  CALL S0 169 [vR 237, vI 5] I (fun v I1 => ∃ y2 : Int, v = some (vI y2) ∧ GO S0 184 9 [vR 237, vI x1, vI x2, vI y2, vI 1] [] I1 K)
set_option maxRecDepth 10000 in
theorem g184_0 (x1 : Int) (x2 : Int) (I : IM) (K : Option AV → IM → Prop) (h : D184_0 x1 x2 I K) : GO S0 184 0 [vR 237, vI x1, vI x2, vU, vU] [] I K := by
  unfold D184_0 at h
  refine G_loadR rc_184_0 rfl ?_
  refine G_const rc_184_1 (by decide) ?_
  refine G_call (as := [vR 237, vI 5]) (rest := []) rc_184_2 rfl rfl rfl (Nat.le_of_ble_eq_true rfl) (g_recv s0_237 rfl) ?_
  refine GO.imp h (fun v I1 h => ?_)
  obtain ⟨y2, rfl, h⟩ := h
  show GO S0 184 5 [vR 237, vI x1, vI x2, vU, vU] [vI y2] I1 K
  refine G_storeI rc_184_5 (Nat.le_of_ble_eq_true rfl) ?_
  show GO S0 184 6 [vR 237, vI x1, vI x2, vI y2, vU] [] I1 K
  refine G_const rc_184_6 (by decide) ?_
  refine G_storeI rc_184_7 (Nat.le_of_ble_eq_true rfl) ?_
  show GO S0 184 9 [vR 237, vI x1, vI x2, vI y2, vI 1] [] I1 K
  exact h
/-! 185: RoundSlackModel.latest(II)I -/
def D185_0 (x1 : Int) (x2 : Int) (I : IM) (K : Option AV → IM → Prop) : Prop :=
  CALL S0 181 [vR 237, vI x1, vI x2] I (fun v I1 => ∃ y2 : Int, v = some (vI y2) ∧ (if y2 = 0 then (K (some (vI (-1))) I1) else (CALL S0 183 [vR 237] I1 (fun v I4 => v = none ∧ CALL S0 160 [vR 237, vR 241, vI x1] I4 (fun v I5 => v = none ∧ (inR (x2 + 1)) ∧ CALL S0 186 [vR 237, vI x1, vI (x2 + 1)] I5 (fun v I7 => ∃ y8 : Int, v = some (vI y8) ∧ K (some (vI y8)) I7))))))
set_option maxRecDepth 10000 in
theorem g185_0 (x1 : Int) (x2 : Int) (I : IM) (K : Option AV → IM → Prop) (h : D185_0 x1 x2 I K) : GO S0 185 0 [vR 237, vI x1, vI x2] [] I K := by
  unfold D185_0 at h
  refine G_loadR rc_185_0 rfl ?_
  refine G_loadI rc_185_1 rfl ?_
  refine G_loadI rc_185_2 rfl ?_
  refine G_call (as := [vR 237, vI x1, vI x2]) (rest := []) rc_185_3 rfl rfl rfl (Nat.le_of_ble_eq_true rfl) (g_recv s0_237 rfl) ?_
  refine GO.imp h (fun v I1 h => ?_)
  obtain ⟨y2, rfl, h⟩ := h
  show GO S0 185 6 [vR 237, vI x1, vI x2] [vI y2] I1 K
  refine G_i1 (C := ¬ y2 = 0) rc_185_6 rfl (fun c3 => ?_) (fun c3 => ?_)
  · rw [if_neg c3] at h
    show GO S0 185 11 [vR 237, vI x1, vI x2] [] I1 K
    refine G_loadR rc_185_11 rfl ?_
    refine G_call (as := [vR 237]) (rest := []) rc_185_12 rfl rfl rfl (Nat.le_of_ble_eq_true rfl) (g_recv s0_237 rfl) ?_
    refine GO.imp h (fun v I4 h => ?_)
    obtain ⟨rfl, h⟩ := h
    show GO S0 185 15 [vR 237, vI x1, vI x2] [] I4 K
    refine G_loadR rc_185_15 rfl ?_
    refine G_loadR rc_185_16 rfl ?_
    refine G_getR rc_185_17 s0_237 (by decide) rfl (by decide) ?_
    show GO S0 185 20 [vR 237, vI x1, vI x2] [vR 241, vR 237] I4 K
    refine G_loadI rc_185_20 rfl ?_
    refine G_call (as := [vR 237, vR 241, vI x1]) (rest := []) rc_185_21 rfl rfl rfl (Nat.le_of_ble_eq_true rfl) (g_recv s0_237 rfl) ?_
    refine GO.imp h (fun v I5 h => ?_)
    obtain ⟨rfl, h⟩ := h
    show GO S0 185 24 [vR 237, vI x1, vI x2] [] I5 K
    refine G_loadR rc_185_24 rfl ?_
    refine G_loadI rc_185_25 rfl ?_
    refine G_loadI rc_185_26 rfl ?_
    refine G_const rc_185_27 (by decide) ?_
    obtain ⟨c6, h⟩ := h
    refine G_bop (z := x2 + 1) rc_185_28 (if_pos c6) ?_
    show GO S0 185 29 [vR 237, vI x1, vI x2] [vI (x2 + 1), vI x1, vR 237] I5 K
    refine G_call (as := [vR 237, vI x1, vI (x2 + 1)]) (rest := []) rc_185_29 rfl rfl rfl (Nat.le_of_ble_eq_true rfl) (g_recv s0_237 rfl) ?_
    refine GO.imp h (fun v I7 h => ?_)
    obtain ⟨y8, rfl, h⟩ := h
    show GO S0 185 32 [vR 237, vI x1, vI x2] [vI y8] I7 K
    exact G_retI rc_185_32 (Or.inl rfl) h
  · rw [if_pos (Classical.not_not.mp c3)] at h
    show GO S0 185 9 [vR 237, vI x1, vI x2] [] I1 K
    refine G_const rc_185_9 (by decide) ?_
    exact G_retI rc_185_10 (Or.inl rfl) h
/-! 186: RoundSlackModel.latestOf(II)I -/
def D186_25 (x1 : Int) (x2 : Int) (x3 : Int) (x4 : Int) (I : IM) (K : Option AV → IM → Prop) : Prop :=
  (if x4 < x2 then (K (some (vI x3)) I) else ((0 ≤ x4 ∧ x4 < 14) ∧ CALL S0 167 [vR 237, vI x1, vI (I 243 (x4).toNat)] I (fun v I3 => ∃ y4 : Int, v = some (vI y4) ∧ (inR (x4 + 1)) ∧ (0 ≤ x4 + 1 ∧ x4 + 1 < 14) ∧ CALL S0 166 [vR 237, vI (I3 243 (x4).toNat), vI (I3 243 (x4 + 1).toNat)] I3 (fun v I7 => ∃ y8 : Int, v = some (vI y8) ∧ (inR (x3 - y8)) ∧ CALL S0 165 [vR 237, vI (I7 243 (x4).toNat)] I7 (fun v I10 => ∃ y11 : Int, v = some (vI y11) ∧ (inR ((x3 - y8) - y11)) ∧ (inR (x4 + (-1))) ∧ GO S0 186 25 [vR 237, vI x1, vI x2, vI ((if (x3 - y8) - y11 < y4 then (x3 - y8) - y11 else y4)), vI (x4 + (-1))] [] I10 K)))))
set_option maxRecDepth 10000 in
theorem g186_25 (x1 : Int) (x2 : Int) (x3 : Int) (x4 : Int) (I : IM) (K : Option AV → IM → Prop) (h : D186_25 x1 x2 x3 x4 I K) : GO S0 186 25 [vR 237, vI x1, vI x2, vI x3, vI x4] [] I K := by
  unfold D186_25 at h
  refine G_loadI rc_186_25 rfl ?_
  refine G_loadI rc_186_27 rfl ?_
  refine G_i2 (C := x4 < x2) rc_186_28 rfl (fun c1 => ?_) (fun c1 => ?_)
  · rw [if_pos c1] at h
    show GO S0 186 87 [vR 237, vI x1, vI x2, vI x3, vI x4] [] I K
    refine G_loadI rc_186_87 rfl ?_
    exact G_retI rc_186_88 (Or.inl rfl) h
  · rw [if_neg c1] at h
    show GO S0 186 31 [vR 237, vI x1, vI x2, vI x3, vI x4] [] I K
    refine G_loadR rc_186_31 rfl ?_
    refine G_loadI rc_186_32 rfl ?_
    refine G_loadR rc_186_33 rfl ?_
    refine G_getR rc_186_34 s0_237 (by decide) rfl (by decide) ?_
    show GO S0 186 37 [vR 237, vI x1, vI x2, vI x3, vI x4] [vR 243, vI x1, vR 237] I K
    refine G_loadI rc_186_37 rfl ?_
    obtain ⟨c2, h⟩ := h
    refine G_ald rc_186_39 s0_243 (by omega) (by omega) ?_
    show GO S0 186 40 [vR 237, vI x1, vI x2, vI x3, vI x4] [vI (I 243 (x4).toNat), vI x1, vR 237] I K
    refine G_call (as := [vR 237, vI x1, vI (I 243 (x4).toNat)]) (rest := []) rc_186_40 rfl rfl rfl (Nat.le_of_ble_eq_true rfl) (g_recv s0_237 rfl) ?_
    refine GO.imp h (fun v I3 h => ?_)
    obtain ⟨y4, rfl, h⟩ := h
    show GO S0 186 43 [vR 237, vI x1, vI x2, vI x3, vI x4] [vI y4] I3 K
    refine G_loadI rc_186_43 rfl ?_
    refine G_loadR rc_186_44 rfl ?_
    refine G_loadR rc_186_45 rfl ?_
    refine G_getR rc_186_46 s0_237 (by decide) rfl (by decide) ?_
    show GO S0 186 49 [vR 237, vI x1, vI x2, vI x3, vI x4] [vR 243, vR 237, vI x3, vI y4] I3 K
    refine G_loadI rc_186_49 rfl ?_
    refine G_ald rc_186_51 s0_243 (by omega) (by omega) ?_
    show GO S0 186 52 [vR 237, vI x1, vI x2, vI x3, vI x4] [vI (I3 243 (x4).toNat), vR 237, vI x3, vI y4] I3 K
    refine G_loadR rc_186_52 rfl ?_
    refine G_getR rc_186_53 s0_237 (by decide) rfl (by decide) ?_
    show GO S0 186 56 [vR 237, vI x1, vI x2, vI x3, vI x4] [vR 243, vI (I3 243 (x4).toNat), vR 237, vI x3, vI y4] I3 K
    refine G_loadI rc_186_56 rfl ?_
    refine G_const rc_186_58 (by decide) ?_
    obtain ⟨c5, h⟩ := h
    refine G_bop (z := x4 + 1) rc_186_59 (if_pos c5) ?_
    show GO S0 186 60 [vR 237, vI x1, vI x2, vI x3, vI x4] [vI (x4 + 1), vR 243, vI (I3 243 (x4).toNat), vR 237, vI x3, vI y4] I3 K
    obtain ⟨c6, h⟩ := h
    refine G_ald rc_186_60 s0_243 (by omega) (by omega) ?_
    show GO S0 186 61 [vR 237, vI x1, vI x2, vI x3, vI x4] [vI (I3 243 (x4 + 1).toNat), vI (I3 243 (x4).toNat), vR 237, vI x3, vI y4] I3 K
    refine G_call (as := [vR 237, vI (I3 243 (x4).toNat), vI (I3 243 (x4 + 1).toNat)]) (rest := [vI x3, vI y4]) rc_186_61 rfl rfl rfl (Nat.le_of_ble_eq_true rfl) (g_recv s0_237 rfl) ?_
    refine GO.imp h (fun v I7 h => ?_)
    obtain ⟨y8, rfl, h⟩ := h
    show GO S0 186 64 [vR 237, vI x1, vI x2, vI x3, vI x4] [vI y8, vI x3, vI y4] I7 K
    obtain ⟨c9, h⟩ := h
    refine G_bop (z := x3 - y8) rc_186_64 (if_pos c9) ?_
    show GO S0 186 65 [vR 237, vI x1, vI x2, vI x3, vI x4] [vI (x3 - y8), vI y4] I7 K
    refine G_loadR rc_186_65 rfl ?_
    refine G_loadR rc_186_66 rfl ?_
    refine G_getR rc_186_67 s0_237 (by decide) rfl (by decide) ?_
    show GO S0 186 70 [vR 237, vI x1, vI x2, vI x3, vI x4] [vR 243, vR 237, vI (x3 - y8), vI y4] I7 K
    refine G_loadI rc_186_70 rfl ?_
    refine G_ald rc_186_72 s0_243 (by omega) (by omega) ?_
    show GO S0 186 73 [vR 237, vI x1, vI x2, vI x3, vI x4] [vI (I7 243 (x4).toNat), vR 237, vI (x3 - y8), vI y4] I7 K
    refine G_call (as := [vR 237, vI (I7 243 (x4).toNat)]) (rest := [vI (x3 - y8), vI y4]) rc_186_73 rfl rfl rfl (Nat.le_of_ble_eq_true rfl) (g_recv s0_237 rfl) ?_
    refine GO.imp h (fun v I10 h => ?_)
    obtain ⟨y11, rfl, h⟩ := h
    show GO S0 186 76 [vR 237, vI x1, vI x2, vI x3, vI x4] [vI y11, vI (x3 - y8), vI y4] I10 K
    obtain ⟨c12, h⟩ := h
    refine G_bop (z := (x3 - y8) - y11) rc_186_76 (if_pos c12) ?_
    show GO S0 186 77 [vR 237, vI x1, vI x2, vI x3, vI x4] [vI ((x3 - y8) - y11), vI y4] I10 K
    refine G_min rc_186_77 (Nat.le_of_ble_eq_true rfl) ?_
    show GO S0 186 80 [vR 237, vI x1, vI x2, vI x3, vI x4] [vI ((if (x3 - y8) - y11 < y4 then (x3 - y8) - y11 else y4))] I10 K
    refine G_storeI rc_186_80 (Nat.le_of_ble_eq_true rfl) ?_
    show GO S0 186 81 [vR 237, vI x1, vI x2, vI ((if (x3 - y8) - y11 < y4 then (x3 - y8) - y11 else y4)), vI x4] [] I10 K
    obtain ⟨c13, h⟩ := h
    refine G_iinc rc_186_81 rfl c13 ?_
    show GO S0 186 84 [vR 237, vI x1, vI x2, vI ((if (x3 - y8) - y11 < y4 then (x3 - y8) - y11 else y4)), vI (x4 + (-1))] [] I10 K
    refine G_goto rc_186_84 ?_
    show GO S0 186 25 [vR 237, vI x1, vI x2, vI ((if (x3 - y8) - y11 < y4 then (x3 - y8) - y11 else y4)), vI (x4 + (-1))] [] I10 K
    exact h
def D186_0 (x1 : Int) (x2 : Int) (I : IM) (K : Option AV → IM → Prop) : Prop :=
  (inR ((I 237 8) - 1)) ∧ (0 ≤ (I 237 8) - 1 ∧ (I 237 8) - 1 < 14) ∧ CALL S0 167 [vR 237, vI x1, vI (I 243 ((I 237 8) - 1).toNat)] I (fun v I3 => ∃ y4 : Int, v = some (vI y4) ∧ (inR ((I3 237 8) - 2)) ∧ GO S0 186 25 [vR 237, vI x1, vI x2, vI y4, vI ((I3 237 8) - 2)] [] I3 K)
set_option maxRecDepth 10000 in
theorem g186_0 (x1 : Int) (x2 : Int) (I : IM) (K : Option AV → IM → Prop) (h : D186_0 x1 x2 I K) : GO S0 186 0 [vR 237, vI x1, vI x2, vU, vU] [] I K := by
  unfold D186_0 at h
  refine G_loadR rc_186_0 rfl ?_
  refine G_loadI rc_186_1 rfl ?_
  refine G_loadR rc_186_2 rfl ?_
  refine G_getR rc_186_3 s0_237 (by decide) rfl (by decide) ?_
  show GO S0 186 6 [vR 237, vI x1, vI x2, vU, vU] [vR 243, vI x1, vR 237] I K
  refine G_loadR rc_186_6 rfl ?_
  refine G_getI rc_186_7 s0_237 (by decide) ?_
  show GO S0 186 10 [vR 237, vI x1, vI x2, vU, vU] [vI (I 237 8), vR 243, vI x1, vR 237] I K
  refine G_const rc_186_10 (by decide) ?_
  obtain ⟨c1, h⟩ := h
  refine G_bop (z := (I 237 8) - 1) rc_186_11 (if_pos c1) ?_
  show GO S0 186 12 [vR 237, vI x1, vI x2, vU, vU] [vI ((I 237 8) - 1), vR 243, vI x1, vR 237] I K
  obtain ⟨c2, h⟩ := h
  refine G_ald rc_186_12 s0_243 (by omega) (by omega) ?_
  show GO S0 186 13 [vR 237, vI x1, vI x2, vU, vU] [vI (I 243 ((I 237 8) - 1).toNat), vI x1, vR 237] I K
  refine G_call (as := [vR 237, vI x1, vI (I 243 ((I 237 8) - 1).toNat)]) (rest := []) rc_186_13 rfl rfl rfl (Nat.le_of_ble_eq_true rfl) (g_recv s0_237 rfl) ?_
  refine GO.imp h (fun v I3 h => ?_)
  obtain ⟨y4, rfl, h⟩ := h
  show GO S0 186 16 [vR 237, vI x1, vI x2, vU, vU] [vI y4] I3 K
  refine G_storeI rc_186_16 (Nat.le_of_ble_eq_true rfl) ?_
  show GO S0 186 17 [vR 237, vI x1, vI x2, vI y4, vU] [] I3 K
  refine G_loadR rc_186_17 rfl ?_
  refine G_getI rc_186_18 s0_237 (by decide) ?_
  show GO S0 186 21 [vR 237, vI x1, vI x2, vI y4, vU] [vI (I3 237 8)] I3 K
  refine G_const rc_186_21 (by decide) ?_
  obtain ⟨c5, h⟩ := h
  refine G_bop (z := (I3 237 8) - 2) rc_186_22 (if_pos c5) ?_
  show GO S0 186 23 [vR 237, vI x1, vI x2, vI y4, vU] [vI ((I3 237 8) - 2)] I3 K
  refine G_storeI rc_186_23 (Nat.le_of_ble_eq_true rfl) ?_
  show GO S0 186 25 [vR 237, vI x1, vI x2, vI y4, vI ((I3 237 8) - 2)] [] I3 K
  exact h
/-! 187: RoundSlackModel.slack(II)I -/
def D187_0 (x1 : Int) (x2 : Int) (I : IM) (K : Option AV → IM → Prop) : Prop :=
  CALL S0 181 [vR 237, vI x1, vI x2] I (fun v I1 => ∃ y2 : Int, v = some (vI y2) ∧ (if y2 = 0 then (K (some (vI (-1))) I1) else (CALL S0 182 [vR 237, vI x1, vI x2] I1 (fun v I4 => v = none ∧ (inR (x2 + 1)) ∧ CALL S0 186 [vR 237, vI x1, vI (x2 + 1)] I4 (fun v I6 => ∃ y7 : Int, v = some (vI y7) ∧ (inR (y7 - (I6 237 10))) ∧ K (some (vI (y7 - (I6 237 10)))) I6)))))
set_option maxRecDepth 10000 in
theorem g187_0 (x1 : Int) (x2 : Int) (I : IM) (K : Option AV → IM → Prop) (h : D187_0 x1 x2 I K) : GO S0 187 0 [vR 237, vI x1, vI x2] [] I K := by
  unfold D187_0 at h
  refine G_loadR rc_187_0 rfl ?_
  refine G_loadI rc_187_1 rfl ?_
  refine G_loadI rc_187_2 rfl ?_
  refine G_call (as := [vR 237, vI x1, vI x2]) (rest := []) rc_187_3 rfl rfl rfl (Nat.le_of_ble_eq_true rfl) (g_recv s0_237 rfl) ?_
  refine GO.imp h (fun v I1 h => ?_)
  obtain ⟨y2, rfl, h⟩ := h
  show GO S0 187 6 [vR 237, vI x1, vI x2] [vI y2] I1 K
  refine G_i1 (C := ¬ y2 = 0) rc_187_6 rfl (fun c3 => ?_) (fun c3 => ?_)
  · rw [if_neg c3] at h
    show GO S0 187 11 [vR 237, vI x1, vI x2] [] I1 K
    refine G_loadR rc_187_11 rfl ?_
    refine G_loadI rc_187_12 rfl ?_
    refine G_loadI rc_187_13 rfl ?_
    refine G_call (as := [vR 237, vI x1, vI x2]) (rest := []) rc_187_14 rfl rfl rfl (Nat.le_of_ble_eq_true rfl) (g_recv s0_237 rfl) ?_
    refine GO.imp h (fun v I4 h => ?_)
    obtain ⟨rfl, h⟩ := h
    show GO S0 187 17 [vR 237, vI x1, vI x2] [] I4 K
    refine G_loadR rc_187_17 rfl ?_
    refine G_loadI rc_187_18 rfl ?_
    refine G_loadI rc_187_19 rfl ?_
    refine G_const rc_187_20 (by decide) ?_
    obtain ⟨c5, h⟩ := h
    refine G_bop (z := x2 + 1) rc_187_21 (if_pos c5) ?_
    show GO S0 187 22 [vR 237, vI x1, vI x2] [vI (x2 + 1), vI x1, vR 237] I4 K
    refine G_call (as := [vR 237, vI x1, vI (x2 + 1)]) (rest := []) rc_187_22 rfl rfl rfl (Nat.le_of_ble_eq_true rfl) (g_recv s0_237 rfl) ?_
    refine GO.imp h (fun v I6 h => ?_)
    obtain ⟨y7, rfl, h⟩ := h
    show GO S0 187 25 [vR 237, vI x1, vI x2] [vI y7] I6 K
    refine G_loadR rc_187_25 rfl ?_
    refine G_getI rc_187_26 s0_237 (by decide) ?_
    show GO S0 187 29 [vR 237, vI x1, vI x2] [vI (I6 237 10), vI y7] I6 K
    obtain ⟨c8, h⟩ := h
    refine G_bop (z := y7 - (I6 237 10)) rc_187_29 (if_pos c8) ?_
    show GO S0 187 30 [vR 237, vI x1, vI x2] [vI (y7 - (I6 237 10))] I6 K
    exact G_retI rc_187_30 (Or.inl rfl) h
  · rw [if_pos (Classical.not_not.mp c3)] at h
    show GO S0 187 9 [vR 237, vI x1, vI x2] [] I1 K
    refine G_const rc_187_9 (by decide) ?_
    exact G_retI rc_187_10 (Or.inl rfl) h
/-! 188: RoundSlackModel.piece(IIII)I -/
def D188_0 (x1 : Int) (x2 : Int) (x3 : Int) (x4 : Int) (I : IM) (K : Option AV → IM → Prop) : Prop :=
  CALL S0 142 [vI x1] I (fun v I1 => ∃ y2 : Int, v = some (vI y2) ∧ (if y2 = 0 then (K (some (vI (-1))) I1) else (CALL S0 132 [vR 237, vI x1] I1 (fun v I4 => ∃ y5 : Int, v = some (vI y5) ∧ (inR (y5 - 1)) ∧ CALL S0 130 [vI x3, vI 0, vI (y5 - 1)] I4 (fun v I7 => ∃ y8 : Int, v = some (vI y8) ∧ (if y8 = 0 then (K (some (vI (-1))) I7) else (CALL S0 130 [vI x2, vI 0, vI x3] I7 (fun v I10 => ∃ y11 : Int, v = some (vI y11) ∧ (if y11 = 0 then (K (some (vI (-1))) I10) else (CALL S0 130 [vI x4, vI 0, vI 6] I10 (fun v I13 => ∃ y14 : Int, v = some (vI y14) ∧ (if y14 = 0 then (K (some (vI (-1))) I13) else (CALL S0 183 [vR 237] I13 (fun v I16 => v = none ∧ CALL S0 161 [vR 237, vR 241, vI x1, vI x2, vI x3] I16 (fun v I17 => v = none ∧ CALL S0 189 [vR 237, vI x1, vI x4] I17 (fun v I18 => ∃ y19 : Int, v = some (vI y19) ∧ K (some (vI y19)) I18))))))))))))))))
set_option maxRecDepth 10000 in
theorem g188_0 (x1 : Int) (x2 : Int) (x3 : Int) (x4 : Int) (I : IM) (K : Option AV → IM → Prop) (h : D188_0 x1 x2 x3 x4 I K) : GO S0 188 0 [vR 237, vI x1, vI x2, vI x3, vI x4] [] I K := by
  unfold D188_0 at h
  refine G_loadI rc_188_0 rfl ?_
  refine G_call (as := [vI x1]) (rest := []) rc_188_1 rfl rfl rfl (Nat.le_of_ble_eq_true rfl) rfl ?_
  refine GO.imp h (fun v I1 h => ?_)
  obtain ⟨y2, rfl, h⟩ := h
  show GO S0 188 4 [vR 237, vI x1, vI x2, vI x3, vI x4] [vI y2] I1 K
  refine G_i1 (C := y2 = 0) rc_188_4 rfl (fun c3 => ?_) (fun c3 => ?_)
  · rw [if_pos c3] at h
    show GO S0 188 42 [vR 237, vI x1, vI x2, vI x3, vI x4] [] I1 K
    refine G_const rc_188_42 (by decide) ?_
    exact G_retI rc_188_43 (Or.inl rfl) h
  · rw [if_neg c3] at h
    show GO S0 188 7 [vR 237, vI x1, vI x2, vI x3, vI x4] [] I1 K
    refine G_loadI rc_188_7 rfl ?_
    refine G_const rc_188_8 (by decide) ?_
    refine G_loadR rc_188_9 rfl ?_
    refine G_loadI rc_188_10 rfl ?_
    refine G_call (as := [vR 237, vI x1]) (rest := [vI 0, vI x3]) rc_188_11 rfl rfl rfl (Nat.le_of_ble_eq_true rfl) (g_recv s0_237 rfl) ?_
    refine GO.imp h (fun v I4 h => ?_)
    obtain ⟨y5, rfl, h⟩ := h
    show GO S0 188 14 [vR 237, vI x1, vI x2, vI x3, vI x4] [vI y5, vI 0, vI x3] I4 K
    refine G_const rc_188_14 (by decide) ?_
    obtain ⟨c6, h⟩ := h
    refine G_bop (z := y5 - 1) rc_188_15 (if_pos c6) ?_
    show GO S0 188 16 [vR 237, vI x1, vI x2, vI x3, vI x4] [vI (y5 - 1), vI 0, vI x3] I4 K
    refine G_call (as := [vI x3, vI 0, vI (y5 - 1)]) (rest := []) rc_188_16 rfl rfl rfl (Nat.le_of_ble_eq_true rfl) rfl ?_
    refine GO.imp h (fun v I7 h => ?_)
    obtain ⟨y8, rfl, h⟩ := h
    show GO S0 188 19 [vR 237, vI x1, vI x2, vI x3, vI x4] [vI y8] I7 K
    refine G_i1 (C := y8 = 0) rc_188_19 rfl (fun c9 => ?_) (fun c9 => ?_)
    · rw [if_pos c9] at h
      show GO S0 188 42 [vR 237, vI x1, vI x2, vI x3, vI x4] [] I7 K
      refine G_const rc_188_42 (by decide) ?_
      exact G_retI rc_188_43 (Or.inl rfl) h
    · rw [if_neg c9] at h
      show GO S0 188 22 [vR 237, vI x1, vI x2, vI x3, vI x4] [] I7 K
      refine G_loadI rc_188_22 rfl ?_
      refine G_const rc_188_23 (by decide) ?_
      refine G_loadI rc_188_24 rfl ?_
      refine G_call (as := [vI x2, vI 0, vI x3]) (rest := []) rc_188_25 rfl rfl rfl (Nat.le_of_ble_eq_true rfl) rfl ?_
      refine GO.imp h (fun v I10 h => ?_)
      obtain ⟨y11, rfl, h⟩ := h
      show GO S0 188 28 [vR 237, vI x1, vI x2, vI x3, vI x4] [vI y11] I10 K
      refine G_i1 (C := y11 = 0) rc_188_28 rfl (fun c12 => ?_) (fun c12 => ?_)
      · rw [if_pos c12] at h
        show GO S0 188 42 [vR 237, vI x1, vI x2, vI x3, vI x4] [] I10 K
        refine G_const rc_188_42 (by decide) ?_
        exact G_retI rc_188_43 (Or.inl rfl) h
      · rw [if_neg c12] at h
        show GO S0 188 31 [vR 237, vI x1, vI x2, vI x3, vI x4] [] I10 K
        refine G_loadI rc_188_31 rfl ?_
        refine G_const rc_188_33 (by decide) ?_
        refine G_const rc_188_34 (by decide) ?_
        refine G_call (as := [vI x4, vI 0, vI 6]) (rest := []) rc_188_36 rfl rfl rfl (Nat.le_of_ble_eq_true rfl) rfl ?_
        refine GO.imp h (fun v I13 h => ?_)
        obtain ⟨y14, rfl, h⟩ := h
        show GO S0 188 39 [vR 237, vI x1, vI x2, vI x3, vI x4] [vI y14] I13 K
        refine G_i1 (C := ¬ y14 = 0) rc_188_39 rfl (fun c15 => ?_) (fun c15 => ?_)
        · rw [if_neg c15] at h
          show GO S0 188 44 [vR 237, vI x1, vI x2, vI x3, vI x4] [] I13 K
          refine G_loadR rc_188_44 rfl ?_
          refine G_call (as := [vR 237]) (rest := []) rc_188_45 rfl rfl rfl (Nat.le_of_ble_eq_true rfl) (g_recv s0_237 rfl) ?_
          refine GO.imp h (fun v I16 h => ?_)
          obtain ⟨rfl, h⟩ := h
          show GO S0 188 48 [vR 237, vI x1, vI x2, vI x3, vI x4] [] I16 K
          refine G_loadR rc_188_48 rfl ?_
          refine G_loadR rc_188_49 rfl ?_
          refine G_getR rc_188_50 s0_237 (by decide) rfl (by decide) ?_
          show GO S0 188 53 [vR 237, vI x1, vI x2, vI x3, vI x4] [vR 241, vR 237] I16 K
          refine G_loadI rc_188_53 rfl ?_
          refine G_loadI rc_188_54 rfl ?_
          refine G_loadI rc_188_55 rfl ?_
          refine G_call (as := [vR 237, vR 241, vI x1, vI x2, vI x3]) (rest := []) rc_188_56 rfl rfl rfl (Nat.le_of_ble_eq_true rfl) (g_recv s0_237 rfl) ?_
          refine GO.imp h (fun v I17 h => ?_)
          obtain ⟨rfl, h⟩ := h
          show GO S0 188 59 [vR 237, vI x1, vI x2, vI x3, vI x4] [] I17 K
          refine G_loadR rc_188_59 rfl ?_
          refine G_loadI rc_188_60 rfl ?_
          refine G_loadI rc_188_61 rfl ?_
          refine G_call (as := [vR 237, vI x1, vI x4]) (rest := []) rc_188_63 rfl rfl rfl (Nat.le_of_ble_eq_true rfl) (g_recv s0_237 rfl) ?_
          refine GO.imp h (fun v I18 h => ?_)
          obtain ⟨y19, rfl, h⟩ := h
          show GO S0 188 66 [vR 237, vI x1, vI x2, vI x3, vI x4] [vI y19] I18 K
          exact G_retI rc_188_66 (Or.inl rfl) h
        · rw [if_pos (Classical.not_not.mp c15)] at h
          show GO S0 188 42 [vR 237, vI x1, vI x2, vI x3, vI x4] [] I13 K
          refine G_const rc_188_42 (by decide) ?_
          exact G_retI rc_188_43 (Or.inl rfl) h
/-! 189: RoundSlackModel.toldOf(II)I -/
def D189_0 (x1 : Int) (x2 : Int) (I : IM) (K : Option AV → IM → Prop) : Prop :=
  (if x2 = 3 then (CALL S0 190 [vR 237] I (fun v I2 => ∃ y3 : Int, v = some (vI y3) ∧ K (some (vI y3)) I2)) else (if x2 = 4 then (CALL S0 169 [vR 237, vI 5] I (fun v I5 => ∃ y6 : Int, v = some (vI y6) ∧ K (some (vI y6)) I5)) else (if x2 = 5 then (CALL S0 169 [vR 237, vI 6] I (fun v I8 => ∃ y9 : Int, v = some (vI y9) ∧ K (some (vI y9)) I8)) else (if x2 = 6 then (CALL S0 168 [vR 237] I (fun v I11 => ∃ y12 : Int, v = some (vI y12) ∧ K (some (vI y12)) I11)) else (CALL S0 191 [vR 237, vI x1, vI x2] I (fun v I13 => ∃ y14 : Int, v = some (vI y14) ∧ K (some (vI y14)) I13))))))
set_option maxRecDepth 10000 in
theorem g189_0 (x1 : Int) (x2 : Int) (I : IM) (K : Option AV → IM → Prop) (h : D189_0 x1 x2 I K) : GO S0 189 0 [vR 237, vI x1, vI x2] [] I K := by
  unfold D189_0 at h
  refine G_loadI rc_189_0 rfl ?_
  refine G_switch rc_189_1 ?_
  show GO S0 189 (if x2 = 3 then 32 else if x2 = 4 then 37 else if x2 = 5 then 43 else if x2 = 6 then 50 else 55) [vR 237, vI x1, vI x2] [] I K
  by_cases c1 : x2 = 3
  · rw [if_pos c1] at h
    rw [if_pos c1]
    show GO S0 189 32 [vR 237, vI x1, vI x2] [] I K
    refine G_loadR rc_189_32 rfl ?_
    refine G_call (as := [vR 237]) (rest := []) rc_189_33 rfl rfl rfl (Nat.le_of_ble_eq_true rfl) (g_recv s0_237 rfl) ?_
    refine GO.imp h (fun v I2 h => ?_)
    obtain ⟨y3, rfl, h⟩ := h
    show GO S0 189 36 [vR 237, vI x1, vI x2] [vI y3] I2 K
    exact G_retI rc_189_36 (Or.inl rfl) h
  · rw [if_neg c1] at h
    rw [if_neg c1]
    by_cases c4 : x2 = 4
    · rw [if_pos c4] at h
      rw [if_pos c4]
      show GO S0 189 37 [vR 237, vI x1, vI x2] [] I K
      refine G_loadR rc_189_37 rfl ?_
      refine G_const rc_189_38 (by decide) ?_
      refine G_call (as := [vR 237, vI 5]) (rest := []) rc_189_39 rfl rfl rfl (Nat.le_of_ble_eq_true rfl) (g_recv s0_237 rfl) ?_
      refine GO.imp h (fun v I5 h => ?_)
      obtain ⟨y6, rfl, h⟩ := h
      show GO S0 189 42 [vR 237, vI x1, vI x2] [vI y6] I5 K
      exact G_retI rc_189_42 (Or.inl rfl) h
    · rw [if_neg c4] at h
      rw [if_neg c4]
      by_cases c7 : x2 = 5
      · rw [if_pos c7] at h
        rw [if_pos c7]
        show GO S0 189 43 [vR 237, vI x1, vI x2] [] I K
        refine G_loadR rc_189_43 rfl ?_
        refine G_const rc_189_44 (by decide) ?_
        refine G_call (as := [vR 237, vI 6]) (rest := []) rc_189_46 rfl rfl rfl (Nat.le_of_ble_eq_true rfl) (g_recv s0_237 rfl) ?_
        refine GO.imp h (fun v I8 h => ?_)
        obtain ⟨y9, rfl, h⟩ := h
        show GO S0 189 49 [vR 237, vI x1, vI x2] [vI y9] I8 K
        exact G_retI rc_189_49 (Or.inl rfl) h
      · rw [if_neg c7] at h
        rw [if_neg c7]
        by_cases c10 : x2 = 6
        · rw [if_pos c10] at h
          rw [if_pos c10]
          show GO S0 189 50 [vR 237, vI x1, vI x2] [] I K
          refine G_loadR rc_189_50 rfl ?_
          refine G_call (as := [vR 237]) (rest := []) rc_189_51 rfl rfl rfl (Nat.le_of_ble_eq_true rfl) (g_recv s0_237 rfl) ?_
          refine GO.imp h (fun v I11 h => ?_)
          obtain ⟨y12, rfl, h⟩ := h
          show GO S0 189 54 [vR 237, vI x1, vI x2] [vI y12] I11 K
          exact G_retI rc_189_54 (Or.inl rfl) h
        · rw [if_neg c10] at h
          rw [if_neg c10]
          show GO S0 189 55 [vR 237, vI x1, vI x2] [] I K
          refine G_loadR rc_189_55 rfl ?_
          refine G_loadI rc_189_56 rfl ?_
          refine G_loadI rc_189_57 rfl ?_
          refine G_call (as := [vR 237, vI x1, vI x2]) (rest := []) rc_189_58 rfl rfl rfl (Nat.le_of_ble_eq_true rfl) (g_recv s0_237 rfl) ?_
          refine GO.imp h (fun v I13 h => ?_)
          obtain ⟨y14, rfl, h⟩ := h
          show GO S0 189 61 [vR 237, vI x1, vI x2] [vI y14] I13 K
          exact G_retI rc_189_61 (Or.inl rfl) h
/-! 190: RoundSlackModel.driveOf()I -/
def D190_4 (x1 : Int) (x2 : Int) (I : IM) (K : Option AV → IM → Prop) : Prop :=
  (if I 237 8 ≤ x2 then (K (some (vI x1)) I) else ((inR (x2 - 1)) ∧ (0 ≤ x2 - 1 ∧ x2 - 1 < 14) ∧ (0 ≤ x2 ∧ x2 < 14) ∧ CALL S0 166 [vR 237, vI (I 243 (x2 - 1).toNat), vI (I 243 (x2).toNat)] I (fun v I5 => ∃ y6 : Int, v = some (vI y6) ∧ (inR (x1 + y6)) ∧ (inR (x2 + 1)) ∧ GO S0 190 4 [vR 237, vI (x1 + y6), vI (x2 + 1)] [] I5 K)))
set_option maxRecDepth 10000 in
theorem g190_4 (x1 : Int) (x2 : Int) (I : IM) (K : Option AV → IM → Prop) (h : D190_4 x1 x2 I K) : GO S0 190 4 [vR 237, vI x1, vI x2] [] I K := by
  unfold D190_4 at h
  refine G_loadI rc_190_4 rfl ?_
  refine G_loadR rc_190_5 rfl ?_
  refine G_getI rc_190_6 s0_237 (by decide) ?_
  show GO S0 190 9 [vR 237, vI x1, vI x2] [vI (I 237 8), vI x2] I K
  refine G_i2 (C := I 237 8 ≤ x2) rc_190_9 rfl (fun c1 => ?_) (fun c1 => ?_)
  · rw [if_pos c1] at h
    show GO S0 190 39 [vR 237, vI x1, vI x2] [] I K
    refine G_loadI rc_190_39 rfl ?_
    exact G_retI rc_190_40 (Or.inl rfl) h
  · rw [if_neg c1] at h
    show GO S0 190 12 [vR 237, vI x1, vI x2] [] I K
    refine G_loadI rc_190_12 rfl ?_
    refine G_loadR rc_190_13 rfl ?_
    refine G_loadR rc_190_14 rfl ?_
    refine G_getR rc_190_15 s0_237 (by decide) rfl (by decide) ?_
    show GO S0 190 18 [vR 237, vI x1, vI x2] [vR 243, vR 237, vI x1] I K
    refine G_loadI rc_190_18 rfl ?_
    refine G_const rc_190_19 (by decide) ?_
    obtain ⟨c2, h⟩ := h
    refine G_bop (z := x2 - 1) rc_190_20 (if_pos c2) ?_
    show GO S0 190 21 [vR 237, vI x1, vI x2] [vI (x2 - 1), vR 243, vR 237, vI x1] I K
    obtain ⟨c3, h⟩ := h
    refine G_ald rc_190_21 s0_243 (by omega) (by omega) ?_
    show GO S0 190 22 [vR 237, vI x1, vI x2] [vI (I 243 (x2 - 1).toNat), vR 237, vI x1] I K
    refine G_loadR rc_190_22 rfl ?_
    refine G_getR rc_190_23 s0_237 (by decide) rfl (by decide) ?_
    show GO S0 190 26 [vR 237, vI x1, vI x2] [vR 243, vI (I 243 (x2 - 1).toNat), vR 237, vI x1] I K
    refine G_loadI rc_190_26 rfl ?_
    obtain ⟨c4, h⟩ := h
    refine G_ald rc_190_27 s0_243 (by omega) (by omega) ?_
    show GO S0 190 28 [vR 237, vI x1, vI x2] [vI (I 243 (x2).toNat), vI (I 243 (x2 - 1).toNat), vR 237, vI x1] I K
    refine G_call (as := [vR 237, vI (I 243 (x2 - 1).toNat), vI (I 243 (x2).toNat)]) (rest := [vI x1]) rc_190_28 rfl rfl rfl (Nat.le_of_ble_eq_true rfl) (g_recv s0_237 rfl) ?_
    refine GO.imp h (fun v I5 h => ?_)
    obtain ⟨y6, rfl, h⟩ := h
    show GO S0 190 31 [vR 237, vI x1, vI x2] [vI y6, vI x1] I5 K
    obtain ⟨c7, h⟩ := h
    refine G_bop (z := x1 + y6) rc_190_31 (if_pos c7) ?_
    show GO S0 190 32 [vR 237, vI x1, vI x2] [vI (x1 + y6)] I5 K
    refine G_storeI rc_190_32 (Nat.le_of_ble_eq_true rfl) ?_
    show GO S0 190 33 [vR 237, vI (x1 + y6), vI x2] [] I5 K
    obtain ⟨c8, h⟩ := h
    refine G_iinc rc_190_33 rfl c8 ?_
    show GO S0 190 36 [vR 237, vI (x1 + y6), vI (x2 + 1)] [] I5 K
    refine G_goto rc_190_36 ?_
    show GO S0 190 4 [vR 237, vI (x1 + y6), vI (x2 + 1)] [] I5 K
    exact h
def D190_0 (I : IM) (K : Option AV → IM → Prop) : Prop :=
  GO S0 190 4 [vR 237, vI 0, vI 1] [] I K
set_option maxRecDepth 10000 in
theorem g190_0 (I : IM) (K : Option AV → IM → Prop) (h : D190_0 I K) : GO S0 190 0 [vR 237, vU, vU] [] I K := by
  unfold D190_0 at h
  refine G_const rc_190_0 (by decide) ?_
  refine G_storeI rc_190_1 (Nat.le_of_ble_eq_true rfl) ?_
  show GO S0 190 2 [vR 237, vI 0, vU] [] I K
  refine G_const rc_190_2 (by decide) ?_
  refine G_storeI rc_190_3 (Nat.le_of_ble_eq_true rfl) ?_
  show GO S0 190 4 [vR 237, vI 0, vI 1] [] I K
  exact h
/-! 191: RoundSlackModel.hoursOf(II)I -/
def D191_72 (x1 : Int) (x2 : Int) (x3 : Int) (x4 : Int) (x5 : Int) (x6 : Int) (u7 : AV) (t0 : Int) (I : IM) (K : Option AV → IM → Prop) : Prop :=
  (if x2 = 0 then ((if t0 = 0 then (K (some (vI x6)) I) else ((inR (x5 - x3)) ∧ K (some (vI (x5 - x3))) I))) else ((if t0 = 0 then ((inR (x5 - x6)) ∧ K (some (vI ((if x4 < x5 - x6 then x5 - x6 else x4)))) I) else (K (some (vI x3)) I))))
set_option maxRecDepth 10000 in
theorem g191_72 (x1 : Int) (x2 : Int) (x3 : Int) (x4 : Int) (x5 : Int) (x6 : Int) (u7 : AV) (t0 : Int) (I : IM) (K : Option AV → IM → Prop) (h : D191_72 x1 x2 x3 x4 x5 x6 u7 t0 I K) : GO S0 191 72 [vR 237, vI x1, vI x2, vI x3, vI x4, vI x5, vI x6, u7] [vI t0] I K := by
  unfold D191_72 at h
  refine G_storeI rc_191_72 (Nat.le_of_ble_eq_true rfl) ?_
  show GO S0 191 74 [vR 237, vI x1, vI x2, vI x3, vI x4, vI x5, vI x6, vI t0] [] I K
  refine G_loadI rc_191_74 rfl ?_
  refine G_i1 (C := ¬ x2 = 0) rc_191_75 rfl (fun c1 => ?_) (fun c1 => ?_)
  · rw [if_neg c1] at h
    show GO S0 191 93 [vR 237, vI x1, vI x2, vI x3, vI x4, vI x5, vI x6, vI t0] [] I K
    refine G_loadI rc_191_93 rfl ?_
    refine G_i1 (C := t0 = 0) rc_191_95 rfl (fun c2 => ?_) (fun c2 => ?_)
    · rw [if_pos c2] at h
      show GO S0 191 102 [vR 237, vI x1, vI x2, vI x3, vI x4, vI x5, vI x6, vI t0] [] I K
      refine G_loadI rc_191_102 rfl ?_
      refine G_loadI rc_191_104 rfl ?_
      refine G_loadI rc_191_106 rfl ?_
      obtain ⟨c3, h⟩ := h
      refine G_bop (z := x5 - x6) rc_191_108 (if_pos c3) ?_
      show GO S0 191 109 [vR 237, vI x1, vI x2, vI x3, vI x4, vI x5, vI x6, vI t0] [vI (x5 - x6), vI x4] I K
      refine G_max rc_191_109 (Nat.le_of_ble_eq_true rfl) ?_
      show GO S0 191 112 [vR 237, vI x1, vI x2, vI x3, vI x4, vI x5, vI x6, vI t0] [vI ((if x4 < x5 - x6 then x5 - x6 else x4))] I K
      exact G_retI rc_191_112 (Or.inl rfl) h
    · rw [if_neg c2] at h
      show GO S0 191 98 [vR 237, vI x1, vI x2, vI x3, vI x4, vI x5, vI x6, vI t0] [] I K
      refine G_loadI rc_191_98 rfl ?_
      refine G_goto rc_191_99 ?_
      show GO S0 191 112 [vR 237, vI x1, vI x2, vI x3, vI x4, vI x5, vI x6, vI t0] [vI x3] I K
      exact G_retI rc_191_112 (Or.inl rfl) h
  · rw [if_pos (Classical.not_not.mp c1)] at h
    show GO S0 191 78 [vR 237, vI x1, vI x2, vI x3, vI x4, vI x5, vI x6, vI t0] [] I K
    refine G_loadI rc_191_78 rfl ?_
    refine G_i1 (C := t0 = 0) rc_191_80 rfl (fun c4 => ?_) (fun c4 => ?_)
    · rw [if_pos c4] at h
      show GO S0 191 90 [vR 237, vI x1, vI x2, vI x3, vI x4, vI x5, vI x6, vI t0] [] I K
      refine G_loadI rc_191_90 rfl ?_
      exact G_retI rc_191_92 (Or.inl rfl) h
    · rw [if_neg c4] at h
      show GO S0 191 83 [vR 237, vI x1, vI x2, vI x3, vI x4, vI x5, vI x6, vI t0] [] I K
      refine G_loadI rc_191_83 rfl ?_
      refine G_loadI rc_191_85 rfl ?_
      obtain ⟨c5, h⟩ := h
      refine G_bop (z := x5 - x3) rc_191_86 (if_pos c5) ?_
      show GO S0 191 87 [vR 237, vI x1, vI x2, vI x3, vI x4, vI x5, vI x6, vI t0] [vI (x5 - x3)] I K
      refine G_goto rc_191_87 ?_
      show GO S0 191 92 [vR 237, vI x1, vI x2, vI x3, vI x4, vI x5, vI x6, vI t0] [vI (x5 - x3)] I K
      exact G_retI rc_191_92 (Or.inl rfl) h
def D191_0 (x1 : Int) (x2 : Int) (I : IM) (K : Option AV → IM → Prop) : Prop :=
  CALL S0 186 [vR 237, vI x1, vI 0] I (fun v I1 => ∃ y2 : Int, v = some (vI y2) ∧ (if x2 = 2 then (K (some (vI y2)) I1) else (CALL S0 163 [vR 237, vI x1, vI (I1 243 0)] I1 (fun v I4 => ∃ y5 : Int, v = some (vI y5) ∧ (inR ((I4 237 8) - 1)) ∧ CALL S0 164 [vR 237, vI x1, vI y5, vI ((I4 237 8) - 1)] I4 (fun v I7 => v = none ∧ CALL S0 190 [vR 237] I7 (fun v I8 => ∃ y9 : Int, v = some (vI y9) ∧ CALL S0 169 [vR 237, vI 4] I8 (fun v I10 => ∃ y11 : Int, v = some (vI y11) ∧ (inR (y9 + y11)) ∧ (inR ((I7 237 11) - y2)) ∧ (if (I7 237 11) - y2 ≤ y9 + y11 then (D191_72 x1 x2 y2 y5 (I7 237 11) (y9 + y11) (vU) 0 I10 K) else (D191_72 x1 x2 y2 y5 (I7 237 11) (y9 + y11) (vU) 1 I10 K)))))))))
set_option maxRecDepth 10000 in
theorem g191_0 (x1 : Int) (x2 : Int) (I : IM) (K : Option AV → IM → Prop) (h : D191_0 x1 x2 I K) : GO S0 191 0 [vR 237, vI x1, vI x2, vU, vU, vU, vU, vU] [] I K := by
  unfold D191_0 at h
  refine G_loadR rc_191_0 rfl ?_
  refine G_loadI rc_191_1 rfl ?_
  refine G_const rc_191_2 (by decide) ?_
  refine G_call (as := [vR 237, vI x1, vI 0]) (rest := []) rc_191_3 rfl rfl rfl (Nat.le_of_ble_eq_true rfl) (g_recv s0_237 rfl) ?_
  refine GO.imp h (fun v I1 h => ?_)
  obtain ⟨y2, rfl, h⟩ := h
  show GO S0 191 6 [vR 237, vI x1, vI x2, vU, vU, vU, vU, vU] [vI y2] I1 K
  refine G_storeI rc_191_6 (Nat.le_of_ble_eq_true rfl) ?_
  show GO S0 191 7 [vR 237, vI x1, vI x2, vI y2, vU, vU, vU, vU] [] I1 K
  refine G_loadI rc_191_7 rfl ?_
  refine G_const rc_191_8 (by decide) ?_
  refine G_i2 (C := ¬ x2 = 2) rc_191_9 rfl (fun c3 => ?_) (fun c3 => ?_)
  · rw [if_neg c3] at h
    show GO S0 191 14 [vR 237, vI x1, vI x2, vI y2, vU, vU, vU, vU] [] I1 K
    refine G_loadR rc_191_14 rfl ?_
    refine G_loadI rc_191_15 rfl ?_
    refine G_loadR rc_191_16 rfl ?_
    refine G_getR rc_191_17 s0_237 (by decide) rfl (by decide) ?_
    show GO S0 191 20 [vR 237, vI x1, vI x2, vI y2, vU, vU, vU, vU] [vR 243, vI x1, vR 237] I1 K
    refine G_const rc_191_20 (by decide) ?_
    refine G_ald rc_191_21 s0_243 (by decide) (by decide) ?_
    show GO S0 191 22 [vR 237, vI x1, vI x2, vI y2, vU, vU, vU, vU] [vI (I1 243 0), vI x1, vR 237] I1 K
    refine G_call (as := [vR 237, vI x1, vI (I1 243 0)]) (rest := []) rc_191_22 rfl rfl rfl (Nat.le_of_ble_eq_true rfl) (g_recv s0_237 rfl) ?_
    refine GO.imp h (fun v I4 h => ?_)
    obtain ⟨y5, rfl, h⟩ := h
    show GO S0 191 25 [vR 237, vI x1, vI x2, vI y2, vU, vU, vU, vU] [vI y5] I4 K
    refine G_storeI rc_191_25 (Nat.le_of_ble_eq_true rfl) ?_
    show GO S0 191 27 [vR 237, vI x1, vI x2, vI y2, vI y5, vU, vU, vU] [] I4 K
    refine G_loadR rc_191_27 rfl ?_
    refine G_loadI rc_191_28 rfl ?_
    refine G_loadI rc_191_29 rfl ?_
    refine G_loadR rc_191_31 rfl ?_
    refine G_getI rc_191_32 s0_237 (by decide) ?_
    show GO S0 191 35 [vR 237, vI x1, vI x2, vI y2, vI y5, vU, vU, vU] [vI (I4 237 8), vI y5, vI x1, vR 237] I4 K
    refine G_const rc_191_35 (by decide) ?_
    obtain ⟨c6, h⟩ := h
    refine G_bop (z := (I4 237 8) - 1) rc_191_36 (if_pos c6) ?_
    show GO S0 191 37 [vR 237, vI x1, vI x2, vI y2, vI y5, vU, vU, vU] [vI ((I4 237 8) - 1), vI y5, vI x1, vR 237] I4 K
    refine G_call (as := [vR 237, vI x1, vI y5, vI ((I4 237 8) - 1)]) (rest := []) rc_191_37 rfl rfl rfl (Nat.le_of_ble_eq_true rfl) (g_recv s0_237 rfl) ?_
    refine GO.imp h (fun v I7 h => ?_)
    obtain ⟨rfl, h⟩ := h
    show GO S0 191 40 [vR 237, vI x1, vI x2, vI y2, vI y5, vU, vU, vU] [] I7 K
    refine G_loadR rc_191_40 rfl ?_
    refine G_getI rc_191_41 s0_237 (by decide) ?_
    show GO S0 191 44 [vR 237, vI x1, vI x2, vI y2, vI y5, vU, vU, vU] [vI (I7 237 11)] I7 K
    refine G_storeI rc_191_44 (Nat.le_of_ble_eq_true rfl) ?_
    show GO S0 191 46 [vR 237, vI x1, vI x2, vI y2, vI y5, vI (I7 237 11), vU, vU] [] I7 K
    refine G_loadR rc_191_46 rfl ?_
    refine G_call (as := [vR 237]) (rest := []) rc_191_47 rfl rfl rfl (Nat.le_of_ble_eq_true rfl) (g_recv s0_237 rfl) ?_
    refine GO.imp h (fun v I8 h => ?_)
    obtain ⟨y9, rfl, h⟩ := h
    show GO S0 191 50 [vR 237, vI x1, vI x2, vI y2, vI y5, vI (I7 237 11), vU, vU] [vI y9] I8 K
    refine G_loadR rc_191_50 rfl ?_
    refine G_const rc_191_51 (by decide) ?_
    refine G_call (as := [vR 237, vI 4]) (rest := [vI y9]) rc_191_52 rfl rfl rfl (Nat.le_of_ble_eq_true rfl) (g_recv s0_237 rfl) ?_
    refine GO.imp h (fun v I10 h => ?_)
    obtain ⟨y11, rfl, h⟩ := h
    show GO S0 191 55 [vR 237, vI x1, vI x2, vI y2, vI y5, vI (I7 237 11), vU, vU] [vI y11, vI y9] I10 K
    obtain ⟨c12, h⟩ := h
    refine G_bop (z := y9 + y11) rc_191_55 (if_pos c12) ?_
    show GO S0 191 56 [vR 237, vI x1, vI x2, vI y2, vI y5, vI (I7 237 11), vU, vU] [vI (y9 + y11)] I10 K
    refine G_storeI rc_191_56 (Nat.le_of_ble_eq_true rfl) ?_
    show GO S0 191 58 [vR 237, vI x1, vI x2, vI y2, vI y5, vI (I7 237 11), vI (y9 + y11), vU] [] I10 K
    refine G_loadI rc_191_58 rfl ?_
    refine G_loadI rc_191_60 rfl ?_
    obtain ⟨c13, h⟩ := h
    refine G_bop (z := (I7 237 11) - y2) rc_191_61 (if_pos c13) ?_
    show GO S0 191 62 [vR 237, vI x1, vI x2, vI y2, vI y5, vI (I7 237 11), vI (y9 + y11), vU] [vI ((I7 237 11) - y2)] I10 K
    refine G_loadI rc_191_62 rfl ?_
    refine G_i2 (C := (I7 237 11) - y2 ≤ y9 + y11) rc_191_64 rfl (fun c14 => ?_) (fun c14 => ?_)
    · rw [if_pos c14] at h
      show GO S0 191 71 [vR 237, vI x1, vI x2, vI y2, vI y5, vI (I7 237 11), vI (y9 + y11), vU] [] I10 K
      refine G_const rc_191_71 (by decide) ?_
      exact g191_72 x1 x2 y2 y5 (I7 237 11) (y9 + y11) (vU) 0 I10 K h
    · rw [if_neg c14] at h
      show GO S0 191 67 [vR 237, vI x1, vI x2, vI y2, vI y5, vI (I7 237 11), vI (y9 + y11), vU] [] I10 K
      refine G_const rc_191_67 (by decide) ?_
      refine G_goto rc_191_68 ?_
      show GO S0 191 72 [vR 237, vI x1, vI x2, vI y2, vI y5, vI (I7 237 11), vI (y9 + y11), vU] [vI 1] I10 K
      exact g191_72 x1 x2 y2 y5 (I7 237 11) (y9 + y11) (vU) 1 I10 K h
  · rw [if_pos (Classical.not_not.mp c3)] at h
    show GO S0 191 12 [vR 237, vI x1, vI x2, vI y2, vU, vU, vU, vU] [] I1 K
    refine G_loadI rc_191_12 rfl ?_
    exact G_retI rc_191_13 (Or.inl rfl) h
/-! 192: RoundSlackModel.whole(II)I -/
def D192_0 (x1 : Int) (x2 : Int) (I : IM) (K : Option AV → IM → Prop) : Prop :=
  CALL S0 142 [vI x1] I (fun v I1 => ∃ y2 : Int, v = some (vI y2) ∧ (if y2 = 0 then (K (some (vI (-1))) I1) else (CALL S0 130 [vI x2, vI 0, vI 6] I1 (fun v I4 => ∃ y5 : Int, v = some (vI y5) ∧ (if y5 = 0 then (K (some (vI (-1))) I4) else (CALL S0 183 [vR 237] I4 (fun v I7 => v = none ∧ CALL S0 160 [vR 237, vR 241, vI x1] I7 (fun v I8 => v = none ∧ CALL S0 189 [vR 237, vI x1, vI x2] I8 (fun v I9 => ∃ y10 : Int, v = some (vI y10) ∧ K (some (vI y10)) I9)))))))))
set_option maxRecDepth 10000 in
theorem g192_0 (x1 : Int) (x2 : Int) (I : IM) (K : Option AV → IM → Prop) (h : D192_0 x1 x2 I K) : GO S0 192 0 [vR 237, vI x1, vI x2] [] I K := by
  unfold D192_0 at h
  refine G_loadI rc_192_0 rfl ?_
  refine G_call (as := [vI x1]) (rest := []) rc_192_1 rfl rfl rfl (Nat.le_of_ble_eq_true rfl) rfl ?_
  refine GO.imp h (fun v I1 h => ?_)
  obtain ⟨y2, rfl, h⟩ := h
  show GO S0 192 4 [vR 237, vI x1, vI x2] [vI y2] I1 K
  refine G_i1 (C := y2 = 0) rc_192_4 rfl (fun c3 => ?_) (fun c3 => ?_)
  · rw [if_pos c3] at h
    show GO S0 192 17 [vR 237, vI x1, vI x2] [] I1 K
    refine G_const rc_192_17 (by decide) ?_
    exact G_retI rc_192_18 (Or.inl rfl) h
  · rw [if_neg c3] at h
    show GO S0 192 7 [vR 237, vI x1, vI x2] [] I1 K
    refine G_loadI rc_192_7 rfl ?_
    refine G_const rc_192_8 (by decide) ?_
    refine G_const rc_192_9 (by decide) ?_
    refine G_call (as := [vI x2, vI 0, vI 6]) (rest := []) rc_192_11 rfl rfl rfl (Nat.le_of_ble_eq_true rfl) rfl ?_
    refine GO.imp h (fun v I4 h => ?_)
    obtain ⟨y5, rfl, h⟩ := h
    show GO S0 192 14 [vR 237, vI x1, vI x2] [vI y5] I4 K
    refine G_i1 (C := ¬ y5 = 0) rc_192_14 rfl (fun c6 => ?_) (fun c6 => ?_)
    · rw [if_neg c6] at h
      show GO S0 192 19 [vR 237, vI x1, vI x2] [] I4 K
      refine G_loadR rc_192_19 rfl ?_
      refine G_call (as := [vR 237]) (rest := []) rc_192_20 rfl rfl rfl (Nat.le_of_ble_eq_true rfl) (g_recv s0_237 rfl) ?_
      refine GO.imp h (fun v I7 h => ?_)
      obtain ⟨rfl, h⟩ := h
      show GO S0 192 23 [vR 237, vI x1, vI x2] [] I7 K
      refine G_loadR rc_192_23 rfl ?_
      refine G_loadR rc_192_24 rfl ?_
      refine G_getR rc_192_25 s0_237 (by decide) rfl (by decide) ?_
      show GO S0 192 28 [vR 237, vI x1, vI x2] [vR 241, vR 237] I7 K
      refine G_loadI rc_192_28 rfl ?_
      refine G_call (as := [vR 237, vR 241, vI x1]) (rest := []) rc_192_29 rfl rfl rfl (Nat.le_of_ble_eq_true rfl) (g_recv s0_237 rfl) ?_
      refine GO.imp h (fun v I8 h => ?_)
      obtain ⟨rfl, h⟩ := h
      show GO S0 192 32 [vR 237, vI x1, vI x2] [] I8 K
      refine G_loadR rc_192_32 rfl ?_
      refine G_loadI rc_192_33 rfl ?_
      refine G_loadI rc_192_34 rfl ?_
      refine G_call (as := [vR 237, vI x1, vI x2]) (rest := []) rc_192_35 rfl rfl rfl (Nat.le_of_ble_eq_true rfl) (g_recv s0_237 rfl) ?_
      refine GO.imp h (fun v I9 h => ?_)
      obtain ⟨y10, rfl, h⟩ := h
      show GO S0 192 38 [vR 237, vI x1, vI x2] [vI y10] I9 K
      exact G_retI rc_192_38 (Or.inl rfl) h
    · rw [if_pos (Classical.not_not.mp c6)] at h
      show GO S0 192 17 [vR 237, vI x1, vI x2] [] I4 K
      refine G_const rc_192_17 (by decide) ?_
      exact G_retI rc_192_18 (Or.inl rfl) h
/-! 193: RoundSlackModel.cost(I)I -/
def D193_14 (x1 : Int) (I : IM) (K : Option AV → IM → Prop) : Prop :=
  CALL S0 183 [vR 237] I (fun v I1 => v = none ∧ (if (0 : Int) ≤ x1 then (CALL S0 195 [vR 237, vR 241, vI x1] I1 (fun v I3 => ∃ y4 : Int, v = some (vI y4) ∧ K (some (vI y4)) I3)) else (CALL S0 194 [vR 237, vR 241] I1 (fun v I5 => ∃ y6 : Int, v = some (vI y6) ∧ K (some (vI y6)) I5))))
set_option maxRecDepth 10000 in
theorem g193_14 (x1 : Int) (I : IM) (K : Option AV → IM → Prop) (h : D193_14 x1 I K) : GO S0 193 14 [vR 237, vI x1] [] I K := by
  unfold D193_14 at h
  refine G_loadR rc_193_14 rfl ?_
  refine G_call (as := [vR 237]) (rest := []) rc_193_15 rfl rfl rfl (Nat.le_of_ble_eq_true rfl) (g_recv s0_237 rfl) ?_
  refine GO.imp h (fun v I1 h => ?_)
  obtain ⟨rfl, h⟩ := h
  show GO S0 193 18 [vR 237, vI x1] [] I1 K
  refine G_loadI rc_193_18 rfl ?_
  refine G_i1 (C := (0 : Int) ≤ x1) rc_193_19 rfl (fun c2 => ?_) (fun c2 => ?_)
  · rw [if_pos c2] at h
    show GO S0 193 33 [vR 237, vI x1] [] I1 K
    refine G_loadR rc_193_33 rfl ?_
    refine G_loadR rc_193_34 rfl ?_
    refine G_getR rc_193_35 s0_237 (by decide) rfl (by decide) ?_
    show GO S0 193 38 [vR 237, vI x1] [vR 241, vR 237] I1 K
    refine G_loadI rc_193_38 rfl ?_
    refine G_call (as := [vR 237, vR 241, vI x1]) (rest := []) rc_193_39 rfl rfl rfl (Nat.le_of_ble_eq_true rfl) (g_recv s0_237 rfl) ?_
    refine GO.imp h (fun v I3 h => ?_)
    obtain ⟨y4, rfl, h⟩ := h
    show GO S0 193 42 [vR 237, vI x1] [vI y4] I3 K
    exact G_retI rc_193_42 (Or.inl rfl) h
  · rw [if_neg c2] at h
    show GO S0 193 22 [vR 237, vI x1] [] I1 K
    refine G_loadR rc_193_22 rfl ?_
    refine G_loadR rc_193_23 rfl ?_
    refine G_getR rc_193_24 s0_237 (by decide) rfl (by decide) ?_
    show GO S0 193 27 [vR 237, vI x1] [vR 241, vR 237] I1 K
    refine G_call (as := [vR 237, vR 241]) (rest := []) rc_193_27 rfl rfl rfl (Nat.le_of_ble_eq_true rfl) (g_recv s0_237 rfl) ?_
    refine GO.imp h (fun v I5 h => ?_)
    obtain ⟨y6, rfl, h⟩ := h
    show GO S0 193 30 [vR 237, vI x1] [vI y6] I5 K
    refine G_goto rc_193_30 ?_
    show GO S0 193 42 [vR 237, vI x1] [vI y6] I5 K
    exact G_retI rc_193_42 (Or.inl rfl) h
def D193_0 (x1 : Int) (I : IM) (K : Option AV → IM → Prop) : Prop :=
  (if x1 = -1 then (D193_14 x1 I K) else (CALL S0 142 [vI x1] I (fun v I2 => ∃ y3 : Int, v = some (vI y3) ∧ (if y3 = 0 then (K (some (vI (-1))) I2) else (D193_14 x1 I2 K)))))
set_option maxRecDepth 10000 in
theorem g193_0 (x1 : Int) (I : IM) (K : Option AV → IM → Prop) (h : D193_0 x1 I K) : GO S0 193 0 [vR 237, vI x1] [] I K := by
  unfold D193_0 at h
  refine G_loadI rc_193_0 rfl ?_
  refine G_const rc_193_1 (by decide) ?_
  refine G_i2 (C := x1 = -1) rc_193_2 rfl (fun c1 => ?_) (fun c1 => ?_)
  · rw [if_pos c1] at h
    show GO S0 193 14 [vR 237, vI x1] [] I K
    exact g193_14 x1 I K h
  · rw [if_neg c1] at h
    show GO S0 193 5 [vR 237, vI x1] [] I K
    refine G_loadI rc_193_5 rfl ?_
    refine G_call (as := [vI x1]) (rest := []) rc_193_6 rfl rfl rfl (Nat.le_of_ble_eq_true rfl) rfl ?_
    refine GO.imp h (fun v I2 h => ?_)
    obtain ⟨y3, rfl, h⟩ := h
    show GO S0 193 9 [vR 237, vI x1] [vI y3] I2 K
    refine G_i1 (C := ¬ y3 = 0) rc_193_9 rfl (fun c4 => ?_) (fun c4 => ?_)
    · rw [if_neg c4] at h
      show GO S0 193 14 [vR 237, vI x1] [] I2 K
      exact g193_14 x1 I2 K h
    · rw [if_pos (Classical.not_not.mp c4)] at h
      show GO S0 193 12 [vR 237, vI x1] [] I2 K
      refine G_const rc_193_12 (by decide) ?_
      exact G_retI rc_193_13 (Or.inl rfl) h
/-! 194: RoundSlackModel.costOf([I)I -/
def D194_67 (q1 : Nat) (x2 : Int) (x3 : Int) (x4 : Int) (u5 : AV) (I : IM) (K : Option AV → IM → Prop) : Prop :=
  (if I 238 5 ≤ x4 then (K (some (vI x2)) I) else ((if iandF (ishrF x3 x4) 1 = 0 then (CALL S0 140 [vR 237, vI x4, vI 7] I (fun v I5 => ∃ y6 : Int, v = some (vI y6) ∧ (inR (x2 + y6)) ∧ (inR (x4 + 1)) ∧ GO S0 194 67 [vR 237, vR q1, vI (x2 + y6), vI x3, vI (x4 + 1), u5] [] I5 K)) else ((inR (x2 + 0)) ∧ (inR (x4 + 1)) ∧ GO S0 194 67 [vR 237, vR q1, vI (x2 + 0), vI x3, vI (x4 + 1), u5] [] I K))))
set_option maxRecDepth 10000 in
theorem g194_67 (q1 : Nat) (x2 : Int) (x3 : Int) (x4 : Int) (u5 : AV) (f1 : S0[q1]? = some (100, 52, [])) (I : IM) (K : Option AV → IM → Prop) (h : D194_67 q1 x2 x3 x4 u5 I K) : GO S0 194 67 [vR 237, vR q1, vI x2, vI x3, vI x4, u5] [] I K := by
  unfold D194_67 at h
  refine G_loadI rc_194_67 rfl ?_
  refine G_loadR rc_194_69 rfl ?_
  refine G_getR rc_194_70 s0_237 (by decide) rfl (by decide) ?_
  show GO S0 194 73 [vR 237, vR q1, vI x2, vI x3, vI x4, u5] [vR 238, vI x4] I K
  refine G_const rc_194_73 (by decide) ?_
  refine G_ald rc_194_74 s0_238 (by decide) (by decide) ?_
  show GO S0 194 75 [vR 237, vR q1, vI x2, vI x3, vI x4, u5] [vI (I 238 5), vI x4] I K
  refine G_i2 (C := I 238 5 ≤ x4) rc_194_75 rfl (fun c1 => ?_) (fun c1 => ?_)
  · rw [if_pos c1] at h
    show GO S0 194 108 [vR 237, vR q1, vI x2, vI x3, vI x4, u5] [] I K
    refine G_loadI rc_194_108 rfl ?_
    exact G_retI rc_194_109 (Or.inl rfl) h
  · rw [if_neg c1] at h
    show GO S0 194 78 [vR 237, vR q1, vI x2, vI x3, vI x4, u5] [] I K
    refine G_loadI rc_194_78 rfl ?_
    refine G_loadI rc_194_79 rfl ?_
    refine G_loadI rc_194_80 rfl ?_
    refine G_bop (z := ishrF x3 x4) rc_194_82 rfl ?_
    show GO S0 194 83 [vR 237, vR q1, vI x2, vI x3, vI x4, u5] [vI (ishrF x3 x4), vI x2] I K
    refine G_const rc_194_83 (by decide) ?_
    refine G_bop (z := iandF (ishrF x3 x4) 1) rc_194_84 rfl ?_
    show GO S0 194 85 [vR 237, vR q1, vI x2, vI x3, vI x4, u5] [vI (iandF (ishrF x3 x4) 1), vI x2] I K
    refine G_i1 (C := ¬ iandF (ishrF x3 x4) 1 = 0) rc_194_85 rfl (fun c2 => ?_) (fun c2 => ?_)
    · rw [if_neg c2] at h
      show GO S0 194 99 [vR 237, vR q1, vI x2, vI x3, vI x4, u5] [vI x2] I K
      refine G_const rc_194_99 (by decide) ?_
      obtain ⟨c3, h⟩ := h
      refine G_bop (z := x2 + 0) rc_194_100 (if_pos c3) ?_
      show GO S0 194 101 [vR 237, vR q1, vI x2, vI x3, vI x4, u5] [vI (x2 + 0)] I K
      refine G_storeI rc_194_101 (Nat.le_of_ble_eq_true rfl) ?_
      show GO S0 194 102 [vR 237, vR q1, vI (x2 + 0), vI x3, vI x4, u5] [] I K
      obtain ⟨c4, h⟩ := h
      refine G_iinc rc_194_102 rfl c4 ?_
      show GO S0 194 105 [vR 237, vR q1, vI (x2 + 0), vI x3, vI (x4 + 1), u5] [] I K
      refine G_goto rc_194_105 ?_
      show GO S0 194 67 [vR 237, vR q1, vI (x2 + 0), vI x3, vI (x4 + 1), u5] [] I K
      exact h
    · rw [if_pos (Classical.not_not.mp c2)] at h
      show GO S0 194 88 [vR 237, vR q1, vI x2, vI x3, vI x4, u5] [vI x2] I K
      refine G_loadR rc_194_88 rfl ?_
      refine G_loadI rc_194_89 rfl ?_
      refine G_const rc_194_91 (by decide) ?_
      refine G_call (as := [vR 237, vI x4, vI 7]) (rest := [vI x2]) rc_194_93 rfl rfl rfl (Nat.le_of_ble_eq_true rfl) (g_recv s0_237 rfl) ?_
      refine GO.imp h (fun v I5 h => ?_)
      obtain ⟨y6, rfl, h⟩ := h
      show GO S0 194 96 [vR 237, vR q1, vI x2, vI x3, vI x4, u5] [vI y6, vI x2] I5 K
      refine G_goto rc_194_96 ?_
      show GO S0 194 100 [vR 237, vR q1, vI x2, vI x3, vI x4, u5] [vI y6, vI x2] I5 K
      obtain ⟨c7, h⟩ := h
      refine G_bop (z := x2 + y6) rc_194_100 (if_pos c7) ?_
      show GO S0 194 101 [vR 237, vR q1, vI x2, vI x3, vI x4, u5] [vI (x2 + y6)] I5 K
      refine G_storeI rc_194_101 (Nat.le_of_ble_eq_true rfl) ?_
      show GO S0 194 102 [vR 237, vR q1, vI (x2 + y6), vI x3, vI x4, u5] [] I5 K
      obtain ⟨c8, h⟩ := h
      refine G_iinc rc_194_102 rfl c8 ?_
      show GO S0 194 105 [vR 237, vR q1, vI (x2 + y6), vI x3, vI (x4 + 1), u5] [] I5 K
      refine G_goto rc_194_105 ?_
      show GO S0 194 67 [vR 237, vR q1, vI (x2 + y6), vI x3, vI (x4 + 1), u5] [] I5 K
      exact h
def D194_26 (q1 : Nat) (x2 : Int) (x3 : Int) (x4 : Int) (x5 : Int) (I : IM) (K : Option AV → IM → Prop) : Prop :=
  CALL S0 156 [vR 237, vR q1, vI x4] I (fun v I1 => ∃ y2 : Int, v = some (vI y2) ∧ (if y2 ≤ x5 then ((inR (x4 + 1)) ∧ GO S0 194 7 [vR 237, vR q1, vI x2, vI x3, vI (x4 + 1), vI x5] [] I1 K) else (CALL S0 162 [vR 237, vR q1, vI x4, vI x5] I1 (fun v I5 => ∃ y6 : Int, v = some (vI y6) ∧ (inR (x5 + 1)) ∧ GO S0 194 26 [vR 237, vR q1, vI x2, vI (iorF x3 (ishlF 1 y6)), vI x4, vI (x5 + 1)] [] I5 K))))
set_option maxRecDepth 10000 in
theorem g194_26 (q1 : Nat) (x2 : Int) (x3 : Int) (x4 : Int) (x5 : Int) (f1 : S0[q1]? = some (100, 52, [])) (I : IM) (K : Option AV → IM → Prop) (h : D194_26 q1 x2 x3 x4 x5 I K) : GO S0 194 26 [vR 237, vR q1, vI x2, vI x3, vI x4, vI x5] [] I K := by
  unfold D194_26 at h
  refine G_loadI rc_194_26 rfl ?_
  refine G_loadR rc_194_28 rfl ?_
  refine G_loadR rc_194_29 rfl ?_
  refine G_loadI rc_194_30 rfl ?_
  refine G_call (as := [vR 237, vR q1, vI x4]) (rest := [vI x5]) rc_194_32 rfl rfl rfl (Nat.le_of_ble_eq_true rfl) (g_recv s0_237 rfl) ?_
  refine GO.imp h (fun v I1 h => ?_)
  obtain ⟨y2, rfl, h⟩ := h
  show GO S0 194 35 [vR 237, vR q1, vI x2, vI x3, vI x4, vI x5] [vI y2, vI x5] I1 K
  refine G_i2 (C := y2 ≤ x5) rc_194_35 rfl (fun c3 => ?_) (fun c3 => ?_)
  · rw [if_pos c3] at h
    show GO S0 194 58 [vR 237, vR q1, vI x2, vI x3, vI x4, vI x5] [] I1 K
    obtain ⟨c4, h⟩ := h
    refine G_iinc rc_194_58 rfl c4 ?_
    show GO S0 194 61 [vR 237, vR q1, vI x2, vI x3, vI (x4 + 1), vI x5] [] I1 K
    refine G_goto rc_194_61 ?_
    show GO S0 194 7 [vR 237, vR q1, vI x2, vI x3, vI (x4 + 1), vI x5] [] I1 K
    exact h
  · rw [if_neg c3] at h
    show GO S0 194 38 [vR 237, vR q1, vI x2, vI x3, vI x4, vI x5] [] I1 K
    refine G_loadI rc_194_38 rfl ?_
    refine G_const rc_194_39 (by decide) ?_
    refine G_loadR rc_194_40 rfl ?_
    refine G_loadR rc_194_41 rfl ?_
    refine G_loadI rc_194_42 rfl ?_
    refine G_loadI rc_194_44 rfl ?_
    refine G_call (as := [vR 237, vR q1, vI x4, vI x5]) (rest := [vI 1, vI x3]) rc_194_46 rfl rfl rfl (Nat.le_of_ble_eq_true rfl) (g_recv s0_237 rfl) ?_
    refine GO.imp h (fun v I5 h => ?_)
    obtain ⟨y6, rfl, h⟩ := h
    show GO S0 194 49 [vR 237, vR q1, vI x2, vI x3, vI x4, vI x5] [vI y6, vI 1, vI x3] I5 K
    refine G_bop (z := ishlF 1 y6) rc_194_49 rfl ?_
    show GO S0 194 50 [vR 237, vR q1, vI x2, vI x3, vI x4, vI x5] [vI (ishlF 1 y6), vI x3] I5 K
    refine G_bop (z := iorF x3 (ishlF 1 y6)) rc_194_50 rfl ?_
    show GO S0 194 51 [vR 237, vR q1, vI x2, vI x3, vI x4, vI x5] [vI (iorF x3 (ishlF 1 y6))] I5 K
    refine G_storeI rc_194_51 (Nat.le_of_ble_eq_true rfl) ?_
    show GO S0 194 52 [vR 237, vR q1, vI x2, vI (iorF x3 (ishlF 1 y6)), vI x4, vI x5] [] I5 K
    obtain ⟨c7, h⟩ := h
    refine G_iinc rc_194_52 rfl c7 ?_
    show GO S0 194 55 [vR 237, vR q1, vI x2, vI (iorF x3 (ishlF 1 y6)), vI x4, vI (x5 + 1)] [] I5 K
    refine G_goto rc_194_55 ?_
    show GO S0 194 26 [vR 237, vR q1, vI x2, vI (iorF x3 (ishlF 1 y6)), vI x4, vI (x5 + 1)] [] I5 K
    exact h
def D194_7 (q1 : Nat) (x2 : Int) (x3 : Int) (x4 : Int) (u5 : AV) (I : IM) (K : Option AV → IM → Prop) : Prop :=
  (if (4 : Int) ≤ x4 then (GO S0 194 67 [vR 237, vR q1, vI x2, vI x3, vI 0, u5] [] I K) else (CALL S0 195 [vR 237, vR q1, vI x4] I (fun v I2 => ∃ y3 : Int, v = some (vI y3) ∧ (inR (x2 + y3)) ∧ GO S0 194 26 [vR 237, vR q1, vI (x2 + y3), vI x3, vI x4, vI 0] [] I2 K)))
set_option maxRecDepth 10000 in
theorem g194_7 (q1 : Nat) (x2 : Int) (x3 : Int) (x4 : Int) (u5 : AV) (f1 : S0[q1]? = some (100, 52, [])) (I : IM) (K : Option AV → IM → Prop) (h : D194_7 q1 x2 x3 x4 u5 I K) : GO S0 194 7 [vR 237, vR q1, vI x2, vI x3, vI x4, u5] [] I K := by
  unfold D194_7 at h
  refine G_loadI rc_194_7 rfl ?_
  refine G_const rc_194_9 (by decide) ?_
  refine G_i2 (C := (4 : Int) ≤ x4) rc_194_10 rfl (fun c1 => ?_) (fun c1 => ?_)
  · rw [if_pos c1] at h
    show GO S0 194 64 [vR 237, vR q1, vI x2, vI x3, vI x4, u5] [] I K
    refine G_const rc_194_64 (by decide) ?_
    refine G_storeI rc_194_65 (Nat.le_of_ble_eq_true rfl) ?_
    show GO S0 194 67 [vR 237, vR q1, vI x2, vI x3, vI 0, u5] [] I K
    exact h
  · rw [if_neg c1] at h
    show GO S0 194 13 [vR 237, vR q1, vI x2, vI x3, vI x4, u5] [] I K
    refine G_loadI rc_194_13 rfl ?_
    refine G_loadR rc_194_14 rfl ?_
    refine G_loadR rc_194_15 rfl ?_
    refine G_loadI rc_194_16 rfl ?_
    refine G_call (as := [vR 237, vR q1, vI x4]) (rest := [vI x2]) rc_194_18 rfl rfl rfl (Nat.le_of_ble_eq_true rfl) (g_recv s0_237 rfl) ?_
    refine GO.imp h (fun v I2 h => ?_)
    obtain ⟨y3, rfl, h⟩ := h
    show GO S0 194 21 [vR 237, vR q1, vI x2, vI x3, vI x4, u5] [vI y3, vI x2] I2 K
    obtain ⟨c4, h⟩ := h
    refine G_bop (z := x2 + y3) rc_194_21 (if_pos c4) ?_
    show GO S0 194 22 [vR 237, vR q1, vI x2, vI x3, vI x4, u5] [vI (x2 + y3)] I2 K
    refine G_storeI rc_194_22 (Nat.le_of_ble_eq_true rfl) ?_
    show GO S0 194 23 [vR 237, vR q1, vI (x2 + y3), vI x3, vI x4, u5] [] I2 K
    refine G_const rc_194_23 (by decide) ?_
    refine G_storeI rc_194_24 (Nat.le_of_ble_eq_true rfl) ?_
    show GO S0 194 26 [vR 237, vR q1, vI (x2 + y3), vI x3, vI x4, vI 0] [] I2 K
    exact h
def D194_0 (q1 : Nat) (I : IM) (K : Option AV → IM → Prop) : Prop :=
  GO S0 194 7 [vR 237, vR q1, vI 0, vI 0, vI 0, vU] [] I K
set_option maxRecDepth 10000 in
theorem g194_0 (q1 : Nat) (f1 : S0[q1]? = some (100, 52, [])) (I : IM) (K : Option AV → IM → Prop) (h : D194_0 q1 I K) : GO S0 194 0 [vR 237, vR q1, vU, vU, vU, vU] [] I K := by
  unfold D194_0 at h
  refine G_const rc_194_0 (by decide) ?_
  refine G_storeI rc_194_1 (Nat.le_of_ble_eq_true rfl) ?_
  show GO S0 194 2 [vR 237, vR q1, vI 0, vU, vU, vU] [] I K
  refine G_const rc_194_2 (by decide) ?_
  refine G_storeI rc_194_3 (Nat.le_of_ble_eq_true rfl) ?_
  show GO S0 194 4 [vR 237, vR q1, vI 0, vI 0, vU, vU] [] I K
  refine G_const rc_194_4 (by decide) ?_
  refine G_storeI rc_194_5 (Nat.le_of_ble_eq_true rfl) ?_
  show GO S0 194 7 [vR 237, vR q1, vI 0, vI 0, vI 0, vU] [] I K
  exact h
/-! 195: RoundSlackModel.costOfVan([II)I -/
def D195_0 (q1 : Nat) (x2 : Int) (I : IM) (K : Option AV → IM → Prop) : Prop :=
  CALL S0 156 [vR 237, vR q1, vI x2] I (fun v I1 => ∃ y2 : Int, v = some (vI y2) ∧ (if y2 = 0 then (K (some (vI 0)) I1) else (CALL S0 160 [vR 237, vR q1, vI x2] I1 (fun v I4 => v = none ∧ CALL S0 190 [vR 237] I4 (fun v I5 => ∃ y6 : Int, v = some (vI y6) ∧ (inR ((I4 238 2) * y6)) ∧ (inR ((I4 238 4) + ((I4 238 2) * y6))) ∧ CALL S0 191 [vR 237, vI x2, vI 0] I5 (fun v I9 => ∃ y10 : Int, v = some (vI y10) ∧ (inR ((I5 238 3) * y10)) ∧ (inR (((I4 238 4) + ((I4 238 2) * y6)) + ((I5 238 3) * y10))) ∧ K (some (vI (((I4 238 4) + ((I4 238 2) * y6)) + ((I5 238 3) * y10)))) I9))))))
set_option maxRecDepth 10000 in
theorem g195_0 (q1 : Nat) (x2 : Int) (f1 : S0[q1]? = some (100, 52, [])) (I : IM) (K : Option AV → IM → Prop) (h : D195_0 q1 x2 I K) : GO S0 195 0 [vR 237, vR q1, vI x2] [] I K := by
  unfold D195_0 at h
  refine G_loadR rc_195_0 rfl ?_
  refine G_loadR rc_195_1 rfl ?_
  refine G_loadI rc_195_2 rfl ?_
  refine G_call (as := [vR 237, vR q1, vI x2]) (rest := []) rc_195_3 rfl rfl rfl (Nat.le_of_ble_eq_true rfl) (g_recv s0_237 rfl) ?_
  refine GO.imp h (fun v I1 h => ?_)
  obtain ⟨y2, rfl, h⟩ := h
  show GO S0 195 6 [vR 237, vR q1, vI x2] [vI y2] I1 K
  refine G_i1 (C := ¬ y2 = 0) rc_195_6 rfl (fun c3 => ?_) (fun c3 => ?_)
  · rw [if_neg c3] at h
    show GO S0 195 11 [vR 237, vR q1, vI x2] [] I1 K
    refine G_loadR rc_195_11 rfl ?_
    refine G_loadR rc_195_12 rfl ?_
    refine G_loadI rc_195_13 rfl ?_
    refine G_call (as := [vR 237, vR q1, vI x2]) (rest := []) rc_195_14 rfl rfl rfl (Nat.le_of_ble_eq_true rfl) (g_recv s0_237 rfl) ?_
    refine GO.imp h (fun v I4 h => ?_)
    obtain ⟨rfl, h⟩ := h
    show GO S0 195 17 [vR 237, vR q1, vI x2] [] I4 K
    refine G_loadR rc_195_17 rfl ?_
    refine G_getR rc_195_18 s0_237 (by decide) rfl (by decide) ?_
    show GO S0 195 21 [vR 237, vR q1, vI x2] [vR 238] I4 K
    refine G_const rc_195_21 (by decide) ?_
    refine G_ald rc_195_22 s0_238 (by decide) (by decide) ?_
    show GO S0 195 23 [vR 237, vR q1, vI x2] [vI (I4 238 4)] I4 K
    refine G_loadR rc_195_23 rfl ?_
    refine G_getR rc_195_24 s0_237 (by decide) rfl (by decide) ?_
    show GO S0 195 27 [vR 237, vR q1, vI x2] [vR 238, vI (I4 238 4)] I4 K
    refine G_const rc_195_27 (by decide) ?_
    refine G_ald rc_195_28 s0_238 (by decide) (by decide) ?_
    show GO S0 195 29 [vR 237, vR q1, vI x2] [vI (I4 238 2), vI (I4 238 4)] I4 K
    refine G_loadR rc_195_29 rfl ?_
    refine G_call (as := [vR 237]) (rest := [vI (I4 238 2), vI (I4 238 4)]) rc_195_30 rfl rfl rfl (Nat.le_of_ble_eq_true rfl) (g_recv s0_237 rfl) ?_
    refine GO.imp h (fun v I5 h => ?_)
    obtain ⟨y6, rfl, h⟩ := h
    show GO S0 195 33 [vR 237, vR q1, vI x2] [vI y6, vI (I4 238 2), vI (I4 238 4)] I5 K
    obtain ⟨c7, h⟩ := h
    refine G_bop (z := (I4 238 2) * y6) rc_195_33 (if_pos c7) ?_
    show GO S0 195 34 [vR 237, vR q1, vI x2] [vI ((I4 238 2) * y6), vI (I4 238 4)] I5 K
    obtain ⟨c8, h⟩ := h
    refine G_bop (z := (I4 238 4) + ((I4 238 2) * y6)) rc_195_34 (if_pos c8) ?_
    show GO S0 195 35 [vR 237, vR q1, vI x2] [vI ((I4 238 4) + ((I4 238 2) * y6))] I5 K
    refine G_loadR rc_195_35 rfl ?_
    refine G_getR rc_195_36 s0_237 (by decide) rfl (by decide) ?_
    show GO S0 195 39 [vR 237, vR q1, vI x2] [vR 238, vI ((I4 238 4) + ((I4 238 2) * y6))] I5 K
    refine G_const rc_195_39 (by decide) ?_
    refine G_ald rc_195_40 s0_238 (by decide) (by decide) ?_
    show GO S0 195 41 [vR 237, vR q1, vI x2] [vI (I5 238 3), vI ((I4 238 4) + ((I4 238 2) * y6))] I5 K
    refine G_loadR rc_195_41 rfl ?_
    refine G_loadI rc_195_42 rfl ?_
    refine G_const rc_195_43 (by decide) ?_
    refine G_call (as := [vR 237, vI x2, vI 0]) (rest := [vI (I5 238 3), vI ((I4 238 4) + ((I4 238 2) * y6))]) rc_195_44 rfl rfl rfl (Nat.le_of_ble_eq_true rfl) (g_recv s0_237 rfl) ?_
    refine GO.imp h (fun v I9 h => ?_)
    obtain ⟨y10, rfl, h⟩ := h
    show GO S0 195 47 [vR 237, vR q1, vI x2] [vI y10, vI (I5 238 3), vI ((I4 238 4) + ((I4 238 2) * y6))] I9 K
    obtain ⟨c11, h⟩ := h
    refine G_bop (z := (I5 238 3) * y10) rc_195_47 (if_pos c11) ?_
    show GO S0 195 48 [vR 237, vR q1, vI x2] [vI ((I5 238 3) * y10), vI ((I4 238 4) + ((I4 238 2) * y6))] I9 K
    obtain ⟨c12, h⟩ := h
    refine G_bop (z := ((I4 238 4) + ((I4 238 2) * y6)) + ((I5 238 3) * y10)) rc_195_48 (if_pos c12) ?_
    show GO S0 195 49 [vR 237, vR q1, vI x2] [vI (((I4 238 4) + ((I4 238 2) * y6)) + ((I5 238 3) * y10))] I9 K
    exact G_retI rc_195_49 (Or.inl rfl) h
  · rw [if_pos (Classical.not_not.mp c3)] at h
    show GO S0 195 9 [vR 237, vR q1, vI x2] [] I1 K
    refine G_const rc_195_9 (by decide) ?_
    exact G_retI rc_195_10 (Or.inl rfl) h
/-! 196: RoundSlackModel.left()I -/
def D196_4 (x1 : Int) (x2 : Int) (I : IM) (K : Option AV → IM → Prop) : Prop :=
  (if I 238 5 ≤ x2 then (K (some (vI x1)) I) else (CALL S0 138 [vR 237, vI x2] I (fun v I2 => ∃ y3 : Int, v = some (vI y3) ∧ (if y3 = 0 then ((inR (x2 + 1)) ∧ GO S0 196 4 [vR 237, vI (iorF x1 0), vI (x2 + 1)] [] I2 K) else ((inR (x2 + 1)) ∧ GO S0 196 4 [vR 237, vI (iorF x1 (ishlF 1 x2)), vI (x2 + 1)] [] I2 K)))))
set_option maxRecDepth 10000 in
theorem g196_4 (x1 : Int) (x2 : Int) (I : IM) (K : Option AV → IM → Prop) (h : D196_4 x1 x2 I K) : GO S0 196 4 [vR 237, vI x1, vI x2] [] I K := by
  unfold D196_4 at h
  refine G_loadI rc_196_4 rfl ?_
  refine G_loadR rc_196_5 rfl ?_
  refine G_getR rc_196_6 s0_237 (by decide) rfl (by decide) ?_
  show GO S0 196 9 [vR 237, vI x1, vI x2] [vR 238, vI x2] I K
  refine G_const rc_196_9 (by decide) ?_
  refine G_ald rc_196_10 s0_238 (by decide) (by decide) ?_
  show GO S0 196 11 [vR 237, vI x1, vI x2] [vI (I 238 5), vI x2] I K
  refine G_i2 (C := I 238 5 ≤ x2) rc_196_11 rfl (fun c1 => ?_) (fun c1 => ?_)
  · rw [if_pos c1] at h
    show GO S0 196 38 [vR 237, vI x1, vI x2] [] I K
    refine G_loadI rc_196_38 rfl ?_
    exact G_retI rc_196_39 (Or.inl rfl) h
  · rw [if_neg c1] at h
    show GO S0 196 14 [vR 237, vI x1, vI x2] [] I K
    refine G_loadI rc_196_14 rfl ?_
    refine G_loadR rc_196_15 rfl ?_
    refine G_loadI rc_196_16 rfl ?_
    refine G_call (as := [vR 237, vI x2]) (rest := [vI x1]) rc_196_17 rfl rfl rfl (Nat.le_of_ble_eq_true rfl) (g_recv s0_237 rfl) ?_
    refine GO.imp h (fun v I2 h => ?_)
    obtain ⟨y3, rfl, h⟩ := h
    show GO S0 196 20 [vR 237, vI x1, vI x2] [vI y3, vI x1] I2 K
    refine G_i1 (C := y3 = 0) rc_196_20 rfl (fun c4 => ?_) (fun c4 => ?_)
    · rw [if_pos c4] at h
      show GO S0 196 29 [vR 237, vI x1, vI x2] [vI x1] I2 K
      refine G_const rc_196_29 (by decide) ?_
      refine G_bop (z := iorF x1 0) rc_196_30 rfl ?_
      show GO S0 196 31 [vR 237, vI x1, vI x2] [vI (iorF x1 0)] I2 K
      refine G_storeI rc_196_31 (Nat.le_of_ble_eq_true rfl) ?_
      show GO S0 196 32 [vR 237, vI (iorF x1 0), vI x2] [] I2 K
      obtain ⟨c5, h⟩ := h
      refine G_iinc rc_196_32 rfl c5 ?_
      show GO S0 196 35 [vR 237, vI (iorF x1 0), vI (x2 + 1)] [] I2 K
      refine G_goto rc_196_35 ?_
      show GO S0 196 4 [vR 237, vI (iorF x1 0), vI (x2 + 1)] [] I2 K
      exact h
    · rw [if_neg c4] at h
      show GO S0 196 23 [vR 237, vI x1, vI x2] [vI x1] I2 K
      refine G_const rc_196_23 (by decide) ?_
      refine G_loadI rc_196_24 rfl ?_
      refine G_bop (z := ishlF 1 x2) rc_196_25 rfl ?_
      show GO S0 196 26 [vR 237, vI x1, vI x2] [vI (ishlF 1 x2), vI x1] I2 K
      refine G_goto rc_196_26 ?_
      show GO S0 196 30 [vR 237, vI x1, vI x2] [vI (ishlF 1 x2), vI x1] I2 K
      refine G_bop (z := iorF x1 (ishlF 1 x2)) rc_196_30 rfl ?_
      show GO S0 196 31 [vR 237, vI x1, vI x2] [vI (iorF x1 (ishlF 1 x2))] I2 K
      refine G_storeI rc_196_31 (Nat.le_of_ble_eq_true rfl) ?_
      show GO S0 196 32 [vR 237, vI (iorF x1 (ishlF 1 x2)), vI x2] [] I2 K
      obtain ⟨c6, h⟩ := h
      refine G_iinc rc_196_32 rfl c6 ?_
      show GO S0 196 35 [vR 237, vI (iorF x1 (ishlF 1 x2)), vI (x2 + 1)] [] I2 K
      refine G_goto rc_196_35 ?_
      show GO S0 196 4 [vR 237, vI (iorF x1 (ishlF 1 x2)), vI (x2 + 1)] [] I2 K
      exact h
def D196_0 (I : IM) (K : Option AV → IM → Prop) : Prop :=
  GO S0 196 4 [vR 237, vI 0, vI 0] [] I K
set_option maxRecDepth 10000 in
theorem g196_0 (I : IM) (K : Option AV → IM → Prop) (h : D196_0 I K) : GO S0 196 0 [vR 237, vU, vU] [] I K := by
  unfold D196_0 at h
  refine G_const rc_196_0 (by decide) ?_
  refine G_storeI rc_196_1 (Nat.le_of_ble_eq_true rfl) ?_
  show GO S0 196 2 [vR 237, vI 0, vU] [] I K
  refine G_const rc_196_2 (by decide) ?_
  refine G_storeI rc_196_3 (Nat.le_of_ble_eq_true rfl) ?_
  show GO S0 196 4 [vR 237, vI 0, vI 0] [] I K
  exact h
/-! 197: RoundSlackModel.back()I -/
def D197_22 (x1 : Int) (I : IM) (K : Option AV → IM → Prop) : Prop :=
  (if (52 : Int) ≤ x1 then (K (some (vI (I 237 4))) I) else ((inR (114 + x1)) ∧ (inR (52 * (I 237 4))) ∧ (inR ((52 * (I 237 4)) + x1)) ∧ (0 ≤ (52 * (I 237 4)) + x1 ∧ (52 * (I 237 4)) + x1 < 832) ∧ (0 ≤ 114 + x1 ∧ 114 + x1 < 166) ∧ ∀ I7 : IM, I7 = iup I 238 (114 + x1).toNat (I 240 ((52 * (I 237 4)) + x1).toNat) → (inR (x1 + 1)) ∧ GO S0 197 22 [vR 237, vI (x1 + 1)] [] I7 K))
set_option maxRecDepth 10000 in
theorem g197_22 (x1 : Int) (I : IM) (K : Option AV → IM → Prop) (h : D197_22 x1 I K) : GO S0 197 22 [vR 237, vI x1] [] I K := by
  unfold D197_22 at h
  refine G_loadI rc_197_22 rfl ?_
  refine G_const rc_197_23 (by decide) ?_
  refine G_i2 (C := (52 : Int) ≤ x1) rc_197_25 rfl (fun c1 => ?_) (fun c1 => ?_)
  · rw [if_pos c1] at h
    show GO S0 197 57 [vR 237, vI x1] [] I K
    refine G_loadR rc_197_57 rfl ?_
    refine G_getI rc_197_58 s0_237 (by decide) ?_
    show GO S0 197 61 [vR 237, vI x1] [vI (I 237 4)] I K
    exact G_retI rc_197_61 (Or.inl rfl) h
  · rw [if_neg c1] at h
    show GO S0 197 28 [vR 237, vI x1] [] I K
    refine G_loadR rc_197_28 rfl ?_
    refine G_getR rc_197_29 s0_237 (by decide) rfl (by decide) ?_
    show GO S0 197 32 [vR 237, vI x1] [vR 238] I K
    refine G_const rc_197_32 (by decide) ?_
    refine G_loadI rc_197_34 rfl ?_
    obtain ⟨c2, h⟩ := h
    refine G_bop (z := 114 + x1) rc_197_35 (if_pos c2) ?_
    show GO S0 197 36 [vR 237, vI x1] [vI (114 + x1), vR 238] I K
    refine G_loadR rc_197_36 rfl ?_
    refine G_getR rc_197_37 s0_237 (by decide) rfl (by decide) ?_
    show GO S0 197 40 [vR 237, vI x1] [vR 240, vI (114 + x1), vR 238] I K
    refine G_const rc_197_40 (by decide) ?_
    refine G_loadR rc_197_42 rfl ?_
    refine G_getI rc_197_43 s0_237 (by decide) ?_
    show GO S0 197 46 [vR 237, vI x1] [vI (I 237 4), vI 52, vR 240, vI (114 + x1), vR 238] I K
    obtain ⟨c3, h⟩ := h
    refine G_bop (z := 52 * (I 237 4)) rc_197_46 (if_pos c3) ?_
    show GO S0 197 47 [vR 237, vI x1] [vI (52 * (I 237 4)), vR 240, vI (114 + x1), vR 238] I K
    refine G_loadI rc_197_47 rfl ?_
    obtain ⟨c4, h⟩ := h
    refine G_bop (z := (52 * (I 237 4)) + x1) rc_197_48 (if_pos c4) ?_
    show GO S0 197 49 [vR 237, vI x1] [vI ((52 * (I 237 4)) + x1), vR 240, vI (114 + x1), vR 238] I K
    obtain ⟨c5, h⟩ := h
    refine G_ald rc_197_49 s0_240 (by omega) (by omega) ?_
    show GO S0 197 50 [vR 237, vI x1] [vI (I 240 ((52 * (I 237 4)) + x1).toNat), vI (114 + x1), vR 238] I K
    obtain ⟨c6, h⟩ := h
    refine G_ast rc_197_50 s0_238 (by omega) (by omega) (Or.inl rfl) ?_
    show GO S0 197 51 [vR 237, vI x1] [] (iup I 238 (114 + x1).toNat (I 240 ((52 * (I 237 4)) + x1).toNat)) K
    have h := h _ rfl
    generalize iup I 238 (114 + x1).toNat (I 240 ((52 * (I 237 4)) + x1).toNat) = I7 at h ⊢
    obtain ⟨c8, h⟩ := h
    refine G_iinc rc_197_51 rfl c8 ?_
    show GO S0 197 54 [vR 237, vI (x1 + 1)] [] I7 K
    refine G_goto rc_197_54 ?_
    show GO S0 197 22 [vR 237, vI (x1 + 1)] [] I7 K
    exact h
def D197_0 (I : IM) (K : Option AV → IM → Prop) : Prop :=
  (if I 237 4 = 0 then (K (some (vI (-3))) I) else ((inR ((I 237 4) - 1)) ∧ ∀ I3 : IM, I3 = iup I 237 4 ((I 237 4) - 1) → GO S0 197 22 [vR 237, vI 0] [] I3 K))
set_option maxRecDepth 10000 in
theorem g197_0 (I : IM) (K : Option AV → IM → Prop) (h : D197_0 I K) : GO S0 197 0 [vR 237, vU] [] I K := by
  unfold D197_0 at h
  refine G_loadR rc_197_0 rfl ?_
  refine G_getI rc_197_1 s0_237 (by decide) ?_
  show GO S0 197 4 [vR 237, vU] [vI (I 237 4)] I K
  refine G_i1 (C := ¬ I 237 4 = 0) rc_197_4 rfl (fun c1 => ?_) (fun c1 => ?_)
  · rw [if_neg c1] at h
    show GO S0 197 10 [vR 237, vU] [] I K
    refine G_loadR rc_197_10 rfl ?_
    refine G_dupR rc_197_11 ?_
    refine G_getI rc_197_12 s0_237 (by decide) ?_
    show GO S0 197 15 [vR 237, vU] [vI (I 237 4), vR 237] I K
    refine G_const rc_197_15 (by decide) ?_
    obtain ⟨c2, h⟩ := h
    refine G_bop (z := (I 237 4) - 1) rc_197_16 (if_pos c2) ?_
    show GO S0 197 17 [vR 237, vU] [vI ((I 237 4) - 1), vR 237] I K
    refine G_putI rc_197_17 s0_237 (by decide) (Or.inl rfl) ?_
    show GO S0 197 20 [vR 237, vU] [] (iup I 237 4 ((I 237 4) - 1)) K
    have h := h _ rfl
    generalize iup I 237 4 ((I 237 4) - 1) = I3 at h ⊢
    refine G_const rc_197_20 (by decide) ?_
    refine G_storeI rc_197_21 (Nat.le_of_ble_eq_true rfl) ?_
    show GO S0 197 22 [vR 237, vI 0] [] I3 K
    exact h
  · rw [if_pos (Classical.not_not.mp c1)] at h
    show GO S0 197 7 [vR 237, vU] [] I K
    refine G_const rc_197_7 (by decide) ?_
    exact G_retI rc_197_9 (Or.inl rfl) h
/-! 198: RoundSlackModel.put(III)I -/
def D198_0 (x1 : Int) (x2 : Int) (x3 : Int) (I : IM) (K : Option AV → IM → Prop) : Prop :=
  CALL S0 199 [vR 237, vI x1, vI x2, vI x3] I (fun v I1 => ∃ y2 : Int, v = some (vI y2) ∧ (if y2 = 0 then (K (some (vI (-1))) I1) else (CALL S0 138 [vR 237, vI x1] I1 (fun v I4 => ∃ y5 : Int, v = some (vI y5) ∧ (if y5 = 0 then (K (some (vI (-3))) I4) else (CALL S0 200 [vR 237, vI x1, vI x2, vI x3] I4 (fun v I7 => ∃ y8 : Int, v = some (vI y8) ∧ (if y8 = 0 then (K (some (vI (-7))) I7) else (CALL S0 202 [vR 237] I7 (fun v I10 => v = none ∧ CALL S0 170 [vR 237] I10 (fun v I11 => v = none ∧ CALL S0 203 [vR 237] I11 (fun v I12 => v = none ∧ K (some (vI 1)) I12))))))))))))
set_option maxRecDepth 10000 in
theorem g198_0 (x1 : Int) (x2 : Int) (x3 : Int) (I : IM) (K : Option AV → IM → Prop) (h : D198_0 x1 x2 x3 I K) : GO S0 198 0 [vR 237, vI x1, vI x2, vI x3] [] I K := by
  unfold D198_0 at h
  refine G_loadR rc_198_0 rfl ?_
  refine G_loadI rc_198_1 rfl ?_
  refine G_loadI rc_198_2 rfl ?_
  refine G_loadI rc_198_3 rfl ?_
  refine G_call (as := [vR 237, vI x1, vI x2, vI x3]) (rest := []) rc_198_4 rfl rfl rfl (Nat.le_of_ble_eq_true rfl) (g_recv s0_237 rfl) ?_
  refine GO.imp h (fun v I1 h => ?_)
  obtain ⟨y2, rfl, h⟩ := h
  show GO S0 198 7 [vR 237, vI x1, vI x2, vI x3] [vI y2] I1 K
  refine G_i1 (C := ¬ y2 = 0) rc_198_7 rfl (fun c3 => ?_) (fun c3 => ?_)
  · rw [if_neg c3] at h
    show GO S0 198 12 [vR 237, vI x1, vI x2, vI x3] [] I1 K
    refine G_loadR rc_198_12 rfl ?_
    refine G_loadI rc_198_13 rfl ?_
    refine G_call (as := [vR 237, vI x1]) (rest := []) rc_198_14 rfl rfl rfl (Nat.le_of_ble_eq_true rfl) (g_recv s0_237 rfl) ?_
    refine GO.imp h (fun v I4 h => ?_)
    obtain ⟨y5, rfl, h⟩ := h
    show GO S0 198 17 [vR 237, vI x1, vI x2, vI x3] [vI y5] I4 K
    refine G_i1 (C := ¬ y5 = 0) rc_198_17 rfl (fun c6 => ?_) (fun c6 => ?_)
    · rw [if_neg c6] at h
      show GO S0 198 23 [vR 237, vI x1, vI x2, vI x3] [] I4 K
      refine G_loadR rc_198_23 rfl ?_
      refine G_loadI rc_198_24 rfl ?_
      refine G_loadI rc_198_25 rfl ?_
      refine G_loadI rc_198_26 rfl ?_
      refine G_call (as := [vR 237, vI x1, vI x2, vI x3]) (rest := []) rc_198_27 rfl rfl rfl (Nat.le_of_ble_eq_true rfl) (g_recv s0_237 rfl) ?_
      refine GO.imp h (fun v I7 h => ?_)
      obtain ⟨y8, rfl, h⟩ := h
      show GO S0 198 30 [vR 237, vI x1, vI x2, vI x3] [vI y8] I7 K
      refine G_i1 (C := ¬ y8 = 0) rc_198_30 rfl (fun c9 => ?_) (fun c9 => ?_)
      · rw [if_neg c9] at h
        show GO S0 198 36 [vR 237, vI x1, vI x2, vI x3] [] I7 K
        refine G_loadR rc_198_36 rfl ?_
        refine G_call (as := [vR 237]) (rest := []) rc_198_37 rfl rfl rfl (Nat.le_of_ble_eq_true rfl) (g_recv s0_237 rfl) ?_
        refine GO.imp h (fun v I10 h => ?_)
        obtain ⟨rfl, h⟩ := h
        show GO S0 198 40 [vR 237, vI x1, vI x2, vI x3] [] I10 K
        refine G_loadR rc_198_40 rfl ?_
        refine G_call (as := [vR 237]) (rest := []) rc_198_41 rfl rfl rfl (Nat.le_of_ble_eq_true rfl) (g_recv s0_237 rfl) ?_
        refine GO.imp h (fun v I11 h => ?_)
        obtain ⟨rfl, h⟩ := h
        show GO S0 198 44 [vR 237, vI x1, vI x2, vI x3] [] I11 K
        refine G_loadR rc_198_44 rfl ?_
        refine G_call (as := [vR 237]) (rest := []) rc_198_45 rfl rfl rfl (Nat.le_of_ble_eq_true rfl) (g_recv s0_237 rfl) ?_
        refine GO.imp h (fun v I12 h => ?_)
        obtain ⟨rfl, h⟩ := h
        show GO S0 198 48 [vR 237, vI x1, vI x2, vI x3] [] I12 K
        refine G_const rc_198_48 (by decide) ?_
        exact G_retI rc_198_49 (Or.inl rfl) h
      · rw [if_pos (Classical.not_not.mp c9)] at h
        show GO S0 198 33 [vR 237, vI x1, vI x2, vI x3] [] I7 K
        refine G_const rc_198_33 (by decide) ?_
        exact G_retI rc_198_35 (Or.inl rfl) h
    · rw [if_pos (Classical.not_not.mp c6)] at h
      show GO S0 198 20 [vR 237, vI x1, vI x2, vI x3] [] I4 K
      refine G_const rc_198_20 (by decide) ?_
      exact G_retI rc_198_22 (Or.inl rfl) h
  · rw [if_pos (Classical.not_not.mp c3)] at h
    show GO S0 198 10 [vR 237, vI x1, vI x2, vI x3] [] I1 K
    refine G_const rc_198_10 (by decide) ?_
    exact G_retI rc_198_11 (Or.inl rfl) h
/-! 199: RoundSlackModel.isPut(III)Z -/
def D199_0 (x1 : Int) (x2 : Int) (x3 : Int) (I : IM) (K : Option AV → IM → Prop) : Prop :=
  CALL S0 137 [vR 237, vI x1] I (fun v I1 => ∃ y2 : Int, v = some (vI y2) ∧ (if y2 = 0 then (K (some (vI 0)) I1) else (CALL S0 142 [vI x2] I1 (fun v I4 => ∃ y5 : Int, v = some (vI y5) ∧ (if y5 = 0 then (K (some (vI 0)) I4) else (CALL S0 132 [vR 237, vI x2] I4 (fun v I7 => ∃ y8 : Int, v = some (vI y8) ∧ CALL S0 130 [vI x3, vI 0, vI y8] I7 (fun v I9 => ∃ y10 : Int, v = some (vI y10) ∧ (if y10 = 0 then (K (some (vI 0)) I9) else (K (some (vI 1)) I9))))))))))
set_option maxRecDepth 10000 in
theorem g199_0 (x1 : Int) (x2 : Int) (x3 : Int) (I : IM) (K : Option AV → IM → Prop) (h : D199_0 x1 x2 x3 I K) : GO S0 199 0 [vR 237, vI x1, vI x2, vI x3] [] I K := by
  unfold D199_0 at h
  refine G_loadR rc_199_0 rfl ?_
  refine G_loadI rc_199_1 rfl ?_
  refine G_call (as := [vR 237, vI x1]) (rest := []) rc_199_2 rfl rfl rfl (Nat.le_of_ble_eq_true rfl) (g_recv s0_237 rfl) ?_
  refine GO.imp h (fun v I1 h => ?_)
  obtain ⟨y2, rfl, h⟩ := h
  show GO S0 199 5 [vR 237, vI x1, vI x2, vI x3] [vI y2] I1 K
  refine G_i1 (C := y2 = 0) rc_199_5 rfl (fun c3 => ?_) (fun c3 => ?_)
  · rw [if_pos c3] at h
    show GO S0 199 32 [vR 237, vI x1, vI x2, vI x3] [] I1 K
    refine G_const rc_199_32 (by decide) ?_
    exact G_retI rc_199_33 (Or.inr (by decide)) h
  · rw [if_neg c3] at h
    show GO S0 199 8 [vR 237, vI x1, vI x2, vI x3] [] I1 K
    refine G_loadI rc_199_8 rfl ?_
    refine G_call (as := [vI x2]) (rest := []) rc_199_9 rfl rfl rfl (Nat.le_of_ble_eq_true rfl) rfl ?_
    refine GO.imp h (fun v I4 h => ?_)
    obtain ⟨y5, rfl, h⟩ := h
    show GO S0 199 12 [vR 237, vI x1, vI x2, vI x3] [vI y5] I4 K
    refine G_i1 (C := y5 = 0) rc_199_12 rfl (fun c6 => ?_) (fun c6 => ?_)
    · rw [if_pos c6] at h
      show GO S0 199 32 [vR 237, vI x1, vI x2, vI x3] [] I4 K
      refine G_const rc_199_32 (by decide) ?_
      exact G_retI rc_199_33 (Or.inr (by decide)) h
    · rw [if_neg c6] at h
      show GO S0 199 15 [vR 237, vI x1, vI x2, vI x3] [] I4 K
      refine G_loadI rc_199_15 rfl ?_
      refine G_const rc_199_16 (by decide) ?_
      refine G_loadR rc_199_17 rfl ?_
      refine G_loadI rc_199_18 rfl ?_
      refine G_call (as := [vR 237, vI x2]) (rest := [vI 0, vI x3]) rc_199_19 rfl rfl rfl (Nat.le_of_ble_eq_true rfl) (g_recv s0_237 rfl) ?_
      refine GO.imp h (fun v I7 h => ?_)
      obtain ⟨y8, rfl, h⟩ := h
      show GO S0 199 22 [vR 237, vI x1, vI x2, vI x3] [vI y8, vI 0, vI x3] I7 K
      refine G_call (as := [vI x3, vI 0, vI y8]) (rest := []) rc_199_22 rfl rfl rfl (Nat.le_of_ble_eq_true rfl) rfl ?_
      refine GO.imp h (fun v I9 h => ?_)
      obtain ⟨y10, rfl, h⟩ := h
      show GO S0 199 25 [vR 237, vI x1, vI x2, vI x3] [vI y10] I9 K
      refine G_i1 (C := y10 = 0) rc_199_25 rfl (fun c11 => ?_) (fun c11 => ?_)
      · rw [if_pos c11] at h
        show GO S0 199 32 [vR 237, vI x1, vI x2, vI x3] [] I9 K
        refine G_const rc_199_32 (by decide) ?_
        exact G_retI rc_199_33 (Or.inr (by decide)) h
      · rw [if_neg c11] at h
        show GO S0 199 28 [vR 237, vI x1, vI x2, vI x3] [] I9 K
        refine G_const rc_199_28 (by decide) ?_
        refine G_goto rc_199_29 ?_
        show GO S0 199 33 [vR 237, vI x1, vI x2, vI x3] [vI 1] I9 K
        exact G_retI rc_199_33 (Or.inr (by decide)) h
/-! 200: RoundSlackModel.isGoodWith(III)Z -/
def D200_0 (x1 : Int) (x2 : Int) (x3 : Int) (I : IM) (K : Option AV → IM → Prop) : Prop :=
  CALL S0 201 [vR 237] I (fun v I1 => v = none ∧ CALL S0 157 [vR 242, vI x2, vI x3, vI x1] I1 (fun v I2 => v = none ∧ CALL S0 159 [vR 237, vR 242, vI x2] I2 (fun v I3 => ∃ y4 : Int, v = some (vI y4) ∧ (y4 = 0 ∨ y4 = 1) ∧ K (some (vI y4)) I3)))
set_option maxRecDepth 10000 in
theorem g200_0 (x1 : Int) (x2 : Int) (x3 : Int) (I : IM) (K : Option AV → IM → Prop) (h : D200_0 x1 x2 x3 I K) : GO S0 200 0 [vR 237, vI x1, vI x2, vI x3] [] I K := by
  unfold D200_0 at h
  refine G_loadR rc_200_0 rfl ?_
  refine G_call (as := [vR 237]) (rest := []) rc_200_1 rfl rfl rfl (Nat.le_of_ble_eq_true rfl) (g_recv s0_237 rfl) ?_
  refine GO.imp h (fun v I1 h => ?_)
  obtain ⟨rfl, h⟩ := h
  show GO S0 200 4 [vR 237, vI x1, vI x2, vI x3] [] I1 K
  refine G_loadR rc_200_4 rfl ?_
  refine G_getR rc_200_5 s0_237 (by decide) rfl (by decide) ?_
  show GO S0 200 8 [vR 237, vI x1, vI x2, vI x3] [vR 242] I1 K
  refine G_loadI rc_200_8 rfl ?_
  refine G_loadI rc_200_9 rfl ?_
  refine G_loadI rc_200_10 rfl ?_
  refine G_call (as := [vR 242, vI x2, vI x3, vI x1]) (rest := []) rc_200_11 rfl rfl rfl (Nat.le_of_ble_eq_true rfl) rfl ?_
  refine GO.imp h (fun v I2 h => ?_)
  obtain ⟨rfl, h⟩ := h
  show GO S0 200 14 [vR 237, vI x1, vI x2, vI x3] [] I2 K
  refine G_loadR rc_200_14 rfl ?_
  refine G_loadR rc_200_15 rfl ?_
  refine G_getR rc_200_16 s0_237 (by decide) rfl (by decide) ?_
  show GO S0 200 19 [vR 237, vI x1, vI x2, vI x3] [vR 242, vR 237] I2 K
  refine G_loadI rc_200_19 rfl ?_
  refine G_call (as := [vR 237, vR 242, vI x2]) (rest := []) rc_200_20 rfl rfl rfl (Nat.le_of_ble_eq_true rfl) (g_recv s0_237 rfl) ?_
  refine GO.imp h (fun v I3 h => ?_)
  obtain ⟨y4, rfl, h⟩ := h
  show GO S0 200 23 [vR 237, vI x1, vI x2, vI x3] [vI y4] I3 K
  obtain ⟨c5, h⟩ := h
  exact G_retI rc_200_23 (Or.inr c5) h
/-! 201: RoundSlackModel.tries()V -/
def D201_2 (x1 : Int) (I : IM) (K : Option AV → IM → Prop) : Prop :=
  (if (52 : Int) ≤ x1 then (K none I) else ((inR (114 + x1)) ∧ (0 ≤ 114 + x1 ∧ 114 + x1 < 166) ∧ (0 ≤ x1 ∧ x1 < 52) ∧ ∀ I5 : IM, I5 = iup I 242 (x1).toNat (I 238 (114 + x1).toNat) → (inR (x1 + 1)) ∧ GO S0 201 2 [vR 237, vI (x1 + 1)] [] I5 K))
set_option maxRecDepth 10000 in
theorem g201_2 (x1 : Int) (I : IM) (K : Option AV → IM → Prop) (h : D201_2 x1 I K) : GO S0 201 2 [vR 237, vI x1] [] I K := by
  unfold D201_2 at h
  refine G_loadI rc_201_2 rfl ?_
  refine G_const rc_201_3 (by decide) ?_
  refine G_i2 (C := (52 : Int) ≤ x1) rc_201_5 rfl (fun c1 => ?_) (fun c1 => ?_)
  · rw [if_pos c1] at h
    show GO S0 201 29 [vR 237, vI x1] [] I K
    exact G_ret0 rc_201_29 h
  · rw [if_neg c1] at h
    show GO S0 201 8 [vR 237, vI x1] [] I K
    refine G_loadR rc_201_8 rfl ?_
    refine G_getR rc_201_9 s0_237 (by decide) rfl (by decide) ?_
    show GO S0 201 12 [vR 237, vI x1] [vR 242] I K
    refine G_loadI rc_201_12 rfl ?_
    refine G_loadR rc_201_13 rfl ?_
    refine G_getR rc_201_14 s0_237 (by decide) rfl (by decide) ?_
    show GO S0 201 17 [vR 237, vI x1] [vR 238, vI x1, vR 242] I K
    refine G_const rc_201_17 (by decide) ?_
    refine G_loadI rc_201_19 rfl ?_
    obtain ⟨c2, h⟩ := h
    refine G_bop (z := 114 + x1) rc_201_20 (if_pos c2) ?_
    show GO S0 201 21 [vR 237, vI x1] [vI (114 + x1), vR 238, vI x1, vR 242] I K
    obtain ⟨c3, h⟩ := h
    refine G_ald rc_201_21 s0_238 (by omega) (by omega) ?_
    show GO S0 201 22 [vR 237, vI x1] [vI (I 238 (114 + x1).toNat), vI x1, vR 242] I K
    obtain ⟨c4, h⟩ := h
    refine G_ast rc_201_22 s0_242 (by omega) (by omega) (Or.inl rfl) ?_
    show GO S0 201 23 [vR 237, vI x1] [] (iup I 242 (x1).toNat (I 238 (114 + x1).toNat)) K
    have h := h _ rfl
    generalize iup I 242 (x1).toNat (I 238 (114 + x1).toNat) = I5 at h ⊢
    obtain ⟨c6, h⟩ := h
    refine G_iinc rc_201_23 rfl c6 ?_
    show GO S0 201 26 [vR 237, vI (x1 + 1)] [] I5 K
    refine G_goto rc_201_26 ?_
    show GO S0 201 2 [vR 237, vI (x1 + 1)] [] I5 K
    exact h
def D201_0 (I : IM) (K : Option AV → IM → Prop) : Prop :=
  GO S0 201 2 [vR 237, vI 0] [] I K
set_option maxRecDepth 10000 in
theorem g201_0 (I : IM) (K : Option AV → IM → Prop) (h : D201_0 I K) : GO S0 201 0 [vR 237, vU] [] I K := by
  unfold D201_0 at h
  refine G_const rc_201_0 (by decide) ?_
  refine G_storeI rc_201_1 (Nat.le_of_ble_eq_true rfl) ?_
  show GO S0 201 2 [vR 237, vI 0] [] I K
  exact h
/-! 202: RoundSlackModel.marks()V -/
def D202_2 (x1 : Int) (I : IM) (K : Option AV → IM → Prop) : Prop :=
  (if (52 : Int) ≤ x1 then (K none I) else ((inR (114 + x1)) ∧ (0 ≤ 114 + x1 ∧ 114 + x1 < 166) ∧ (0 ≤ x1 ∧ x1 < 52) ∧ ∀ I5 : IM, I5 = iup I 247 (x1).toNat (I 238 (114 + x1).toNat) → (inR (x1 + 1)) ∧ GO S0 202 2 [vR 237, vI (x1 + 1)] [] I5 K))
set_option maxRecDepth 10000 in
theorem g202_2 (x1 : Int) (I : IM) (K : Option AV → IM → Prop) (h : D202_2 x1 I K) : GO S0 202 2 [vR 237, vI x1] [] I K := by
  unfold D202_2 at h
  refine G_loadI rc_202_2 rfl ?_
  refine G_const rc_202_3 (by decide) ?_
  refine G_i2 (C := (52 : Int) ≤ x1) rc_202_5 rfl (fun c1 => ?_) (fun c1 => ?_)
  · rw [if_pos c1] at h
    show GO S0 202 29 [vR 237, vI x1] [] I K
    exact G_ret0 rc_202_29 h
  · rw [if_neg c1] at h
    show GO S0 202 8 [vR 237, vI x1] [] I K
    refine G_loadR rc_202_8 rfl ?_
    refine G_getR rc_202_9 s0_237 (by decide) rfl (by decide) ?_
    show GO S0 202 12 [vR 237, vI x1] [vR 247] I K
    refine G_loadI rc_202_12 rfl ?_
    refine G_loadR rc_202_13 rfl ?_
    refine G_getR rc_202_14 s0_237 (by decide) rfl (by decide) ?_
    show GO S0 202 17 [vR 237, vI x1] [vR 238, vI x1, vR 247] I K
    refine G_const rc_202_17 (by decide) ?_
    refine G_loadI rc_202_19 rfl ?_
    obtain ⟨c2, h⟩ := h
    refine G_bop (z := 114 + x1) rc_202_20 (if_pos c2) ?_
    show GO S0 202 21 [vR 237, vI x1] [vI (114 + x1), vR 238, vI x1, vR 247] I K
    obtain ⟨c3, h⟩ := h
    refine G_ald rc_202_21 s0_238 (by omega) (by omega) ?_
    show GO S0 202 22 [vR 237, vI x1] [vI (I 238 (114 + x1).toNat), vI x1, vR 247] I K
    obtain ⟨c4, h⟩ := h
    refine G_ast rc_202_22 s0_247 (by omega) (by omega) (Or.inl rfl) ?_
    show GO S0 202 23 [vR 237, vI x1] [] (iup I 247 (x1).toNat (I 238 (114 + x1).toNat)) K
    have h := h _ rfl
    generalize iup I 247 (x1).toNat (I 238 (114 + x1).toNat) = I5 at h ⊢
    obtain ⟨c6, h⟩ := h
    refine G_iinc rc_202_23 rfl c6 ?_
    show GO S0 202 26 [vR 237, vI (x1 + 1)] [] I5 K
    refine G_goto rc_202_26 ?_
    show GO S0 202 2 [vR 237, vI (x1 + 1)] [] I5 K
    exact h
def D202_0 (I : IM) (K : Option AV → IM → Prop) : Prop :=
  GO S0 202 2 [vR 237, vI 0] [] I K
set_option maxRecDepth 10000 in
theorem g202_0 (I : IM) (K : Option AV → IM → Prop) (h : D202_0 I K) : GO S0 202 0 [vR 237, vU] [] I K := by
  unfold D202_0 at h
  refine G_const rc_202_0 (by decide) ?_
  refine G_storeI rc_202_1 (Nat.le_of_ble_eq_true rfl) ?_
  show GO S0 202 2 [vR 237, vI 0] [] I K
  exact h
/-! 203: RoundSlackModel.steps()V -/
def D203_51 (x1 : Int) (I : IM) (K : Option AV → IM → Prop) : Prop :=
  (if (52 : Int) ≤ x1 then ((inR ((I 237 4) + 1)) ∧ ∀ I3 : IM, I3 = iup I 237 4 ((I 237 4) + 1) → K none I3) else ((inR (52 * (I 237 4))) ∧ (inR ((52 * (I 237 4)) + x1)) ∧ (0 ≤ x1 ∧ x1 < 52) ∧ (0 ≤ (52 * (I 237 4)) + x1 ∧ (52 * (I 237 4)) + x1 < 832) ∧ ∀ I8 : IM, I8 = iup I 240 ((52 * (I 237 4)) + x1).toNat (I 247 (x1).toNat) → (inR (x1 + 1)) ∧ GO S0 203 51 [vR 237, vI (x1 + 1)] [] I8 K))
set_option maxRecDepth 10000 in
theorem g203_51 (x1 : Int) (I : IM) (K : Option AV → IM → Prop) (h : D203_51 x1 I K) : GO S0 203 51 [vR 237, vI x1] [] I K := by
  unfold D203_51 at h
  refine G_loadI rc_203_51 rfl ?_
  refine G_const rc_203_52 (by decide) ?_
  refine G_i2 (C := (52 : Int) ≤ x1) rc_203_54 rfl (fun c1 => ?_) (fun c1 => ?_)
  · rw [if_pos c1] at h
    show GO S0 203 83 [vR 237, vI x1] [] I K
    refine G_loadR rc_203_83 rfl ?_
    refine G_dupR rc_203_84 ?_
    refine G_getI rc_203_85 s0_237 (by decide) ?_
    show GO S0 203 88 [vR 237, vI x1] [vI (I 237 4), vR 237] I K
    refine G_const rc_203_88 (by decide) ?_
    obtain ⟨c2, h⟩ := h
    refine G_bop (z := (I 237 4) + 1) rc_203_89 (if_pos c2) ?_
    show GO S0 203 90 [vR 237, vI x1] [vI ((I 237 4) + 1), vR 237] I K
    refine G_putI rc_203_90 s0_237 (by decide) (Or.inl rfl) ?_
    show GO S0 203 93 [vR 237, vI x1] [] (iup I 237 4 ((I 237 4) + 1)) K
    have h := h _ rfl
    generalize iup I 237 4 ((I 237 4) + 1) = I3 at h ⊢
    exact G_ret0 rc_203_93 h
  · rw [if_neg c1] at h
    show GO S0 203 57 [vR 237, vI x1] [] I K
    refine G_loadR rc_203_57 rfl ?_
    refine G_getR rc_203_58 s0_237 (by decide) rfl (by decide) ?_
    show GO S0 203 61 [vR 237, vI x1] [vR 240] I K
    refine G_const rc_203_61 (by decide) ?_
    refine G_loadR rc_203_63 rfl ?_
    refine G_getI rc_203_64 s0_237 (by decide) ?_
    show GO S0 203 67 [vR 237, vI x1] [vI (I 237 4), vI 52, vR 240] I K
    obtain ⟨c4, h⟩ := h
    refine G_bop (z := 52 * (I 237 4)) rc_203_67 (if_pos c4) ?_
    show GO S0 203 68 [vR 237, vI x1] [vI (52 * (I 237 4)), vR 240] I K
    refine G_loadI rc_203_68 rfl ?_
    obtain ⟨c5, h⟩ := h
    refine G_bop (z := (52 * (I 237 4)) + x1) rc_203_69 (if_pos c5) ?_
    show GO S0 203 70 [vR 237, vI x1] [vI ((52 * (I 237 4)) + x1), vR 240] I K
    refine G_loadR rc_203_70 rfl ?_
    refine G_getR rc_203_71 s0_237 (by decide) rfl (by decide) ?_
    show GO S0 203 74 [vR 237, vI x1] [vR 247, vI ((52 * (I 237 4)) + x1), vR 240] I K
    refine G_loadI rc_203_74 rfl ?_
    obtain ⟨c6, h⟩ := h
    refine G_ald rc_203_75 s0_247 (by omega) (by omega) ?_
    show GO S0 203 76 [vR 237, vI x1] [vI (I 247 (x1).toNat), vI ((52 * (I 237 4)) + x1), vR 240] I K
    obtain ⟨c7, h⟩ := h
    refine G_ast rc_203_76 s0_240 (by omega) (by omega) (Or.inl rfl) ?_
    show GO S0 203 77 [vR 237, vI x1] [] (iup I 240 ((52 * (I 237 4)) + x1).toNat (I 247 (x1).toNat)) K
    have h := h _ rfl
    generalize iup I 240 ((52 * (I 237 4)) + x1).toNat (I 247 (x1).toNat) = I8 at h ⊢
    obtain ⟨c9, h⟩ := h
    refine G_iinc rc_203_77 rfl c9 ?_
    show GO S0 203 80 [vR 237, vI (x1 + 1)] [] I8 K
    refine G_goto rc_203_80 ?_
    show GO S0 203 51 [vR 237, vI (x1 + 1)] [] I8 K
    exact h
def D203_11 (x1 : Int) (I : IM) (K : Option AV → IM → Prop) : Prop :=
  (if (780 : Int) ≤ x1 then ((inR ((I 237 4) - 1)) ∧ ∀ I3 : IM, I3 = iup I 237 4 ((I 237 4) - 1) → GO S0 203 51 [vR 237, vI 0] [] I3 K) else ((inR (x1 + 52)) ∧ (0 ≤ x1 + 52 ∧ x1 + 52 < 832) ∧ (0 ≤ x1 ∧ x1 < 832) ∧ ∀ I7 : IM, I7 = iup I 240 (x1).toNat (I 240 (x1 + 52).toNat) → (inR (x1 + 1)) ∧ GO S0 203 11 [vR 237, vI (x1 + 1)] [] I7 K))
set_option maxRecDepth 10000 in
theorem g203_11 (x1 : Int) (I : IM) (K : Option AV → IM → Prop) (h : D203_11 x1 I K) : GO S0 203 11 [vR 237, vI x1] [] I K := by
  unfold D203_11 at h
  refine G_loadI rc_203_11 rfl ?_
  refine G_const rc_203_12 (by decide) ?_
  refine G_i2 (C := (780 : Int) ≤ x1) rc_203_15 rfl (fun c1 => ?_) (fun c1 => ?_)
  · rw [if_pos c1] at h
    show GO S0 203 39 [vR 237, vI x1] [] I K
    refine G_loadR rc_203_39 rfl ?_
    refine G_dupR rc_203_40 ?_
    refine G_getI rc_203_41 s0_237 (by decide) ?_
    show GO S0 203 44 [vR 237, vI x1] [vI (I 237 4), vR 237] I K
    refine G_const rc_203_44 (by decide) ?_
    obtain ⟨c2, h⟩ := h
    refine G_bop (z := (I 237 4) - 1) rc_203_45 (if_pos c2) ?_
    show GO S0 203 46 [vR 237, vI x1] [vI ((I 237 4) - 1), vR 237] I K
    refine G_putI rc_203_46 s0_237 (by decide) (Or.inl rfl) ?_
    show GO S0 203 49 [vR 237, vI x1] [] (iup I 237 4 ((I 237 4) - 1)) K
    have h := h _ rfl
    generalize iup I 237 4 ((I 237 4) - 1) = I3 at h ⊢
    refine G_const rc_203_49 (by decide) ?_
    refine G_storeI rc_203_50 (Nat.le_of_ble_eq_true rfl) ?_
    show GO S0 203 51 [vR 237, vI 0] [] I3 K
    exact h
  · rw [if_neg c1] at h
    show GO S0 203 18 [vR 237, vI x1] [] I K
    refine G_loadR rc_203_18 rfl ?_
    refine G_getR rc_203_19 s0_237 (by decide) rfl (by decide) ?_
    show GO S0 203 22 [vR 237, vI x1] [vR 240] I K
    refine G_loadI rc_203_22 rfl ?_
    refine G_loadR rc_203_23 rfl ?_
    refine G_getR rc_203_24 s0_237 (by decide) rfl (by decide) ?_
    show GO S0 203 27 [vR 237, vI x1] [vR 240, vI x1, vR 240] I K
    refine G_loadI rc_203_27 rfl ?_
    refine G_const rc_203_28 (by decide) ?_
    obtain ⟨c4, h⟩ := h
    refine G_bop (z := x1 + 52) rc_203_30 (if_pos c4) ?_
    show GO S0 203 31 [vR 237, vI x1] [vI (x1 + 52), vR 240, vI x1, vR 240] I K
    obtain ⟨c5, h⟩ := h
    refine G_ald rc_203_31 s0_240 (by omega) (by omega) ?_
    show GO S0 203 32 [vR 237, vI x1] [vI (I 240 (x1 + 52).toNat), vI x1, vR 240] I K
    obtain ⟨c6, h⟩ := h
    refine G_ast rc_203_32 s0_240 (by omega) (by omega) (Or.inl rfl) ?_
    show GO S0 203 33 [vR 237, vI x1] [] (iup I 240 (x1).toNat (I 240 (x1 + 52).toNat)) K
    have h := h _ rfl
    generalize iup I 240 (x1).toNat (I 240 (x1 + 52).toNat) = I7 at h ⊢
    obtain ⟨c8, h⟩ := h
    refine G_iinc rc_203_33 rfl c8 ?_
    show GO S0 203 36 [vR 237, vI (x1 + 1)] [] I7 K
    refine G_goto rc_203_36 ?_
    show GO S0 203 11 [vR 237, vI (x1 + 1)] [] I7 K
    exact h
def D203_0 (I : IM) (K : Option AV → IM → Prop) : Prop :=
  (if I 237 4 = 16 then (GO S0 203 11 [vR 237, vI 0] [] I K) else (GO S0 203 51 [vR 237, vI 0] [] I K))
set_option maxRecDepth 10000 in
theorem g203_0 (I : IM) (K : Option AV → IM → Prop) (h : D203_0 I K) : GO S0 203 0 [vR 237, vU] [] I K := by
  unfold D203_0 at h
  refine G_loadR rc_203_0 rfl ?_
  refine G_getI rc_203_1 s0_237 (by decide) ?_
  show GO S0 203 4 [vR 237, vU] [vI (I 237 4)] I K
  refine G_const rc_203_4 (by decide) ?_
  refine G_i2 (C := ¬ I 237 4 = 16) rc_203_6 rfl (fun c1 => ?_) (fun c1 => ?_)
  · rw [if_neg c1] at h
    show GO S0 203 49 [vR 237, vU] [] I K
    refine G_const rc_203_49 (by decide) ?_
    refine G_storeI rc_203_50 (Nat.le_of_ble_eq_true rfl) ?_
    show GO S0 203 51 [vR 237, vI 0] [] I K
    exact h
  · rw [if_pos (Classical.not_not.mp c1)] at h
    show GO S0 203 9 [vR 237, vU] [] I K
    refine G_const rc_203_9 (by decide) ?_
    refine G_storeI rc_203_10 (Nat.le_of_ble_eq_true rfl) ?_
    show GO S0 203 11 [vR 237, vI 0] [] I K
    exact h
/-! 204: RoundSlackModel.would(III)J -/
def D204_0 (x1 : Int) (x2 : Int) (x3 : Int) (I : IM) (K : Option AV → IM → Prop) : Prop :=
  CALL S0 199 [vR 237, vI x1, vI x2, vI x3] I (fun v I1 => ∃ y2 : Int, v = some (vI y2) ∧ (if y2 = 0 then (K (some (vL (-9223372036854775808))) I1) else (CALL S0 138 [vR 237, vI x1] I1 (fun v I4 => ∃ y5 : Int, v = some (vI y5) ∧ (if y5 = 0 then (K (some (vL (-9223372036854775808))) I4) else (CALL S0 200 [vR 237, vI x1, vI x2, vI x3] I4 (fun v I7 => ∃ y8 : Int, v = some (vI y8) ∧ (if y8 = 0 then (K (some (vL (-9223372036854775808))) I7) else (CALL S0 205 [vR 237, vI x2] I7 (fun v I10 => ∃ y11 : Int, v = some (vI y11) ∧ K (some (vL y11)) I10))))))))))
set_option maxRecDepth 10000 in
theorem g204_0 (x1 : Int) (x2 : Int) (x3 : Int) (I : IM) (K : Option AV → IM → Prop) (h : D204_0 x1 x2 x3 I K) : GO S0 204 0 [vR 237, vI x1, vI x2, vI x3] [] I K := by
  unfold D204_0 at h
  refine G_loadR rc_204_0 rfl ?_
  refine G_loadI rc_204_1 rfl ?_
  refine G_loadI rc_204_2 rfl ?_
  refine G_loadI rc_204_3 rfl ?_
  refine G_call (as := [vR 237, vI x1, vI x2, vI x3]) (rest := []) rc_204_4 rfl rfl rfl (Nat.le_of_ble_eq_true rfl) (g_recv s0_237 rfl) ?_
  refine GO.imp h (fun v I1 h => ?_)
  obtain ⟨y2, rfl, h⟩ := h
  show GO S0 204 7 [vR 237, vI x1, vI x2, vI x3] [vI y2] I1 K
  refine G_i1 (C := y2 = 0) rc_204_7 rfl (fun c3 => ?_) (fun c3 => ?_)
  · rw [if_pos c3] at h
    show GO S0 204 37 [vR 237, vI x1, vI x2, vI x3] [] I1 K
    refine G_lconst rc_204_37 (by decide) ?_
    exact G_retL rc_204_40 h
  · rw [if_neg c3] at h
    show GO S0 204 10 [vR 237, vI x1, vI x2, vI x3] [] I1 K
    refine G_loadR rc_204_10 rfl ?_
    refine G_loadI rc_204_11 rfl ?_
    refine G_call (as := [vR 237, vI x1]) (rest := []) rc_204_12 rfl rfl rfl (Nat.le_of_ble_eq_true rfl) (g_recv s0_237 rfl) ?_
    refine GO.imp h (fun v I4 h => ?_)
    obtain ⟨y5, rfl, h⟩ := h
    show GO S0 204 15 [vR 237, vI x1, vI x2, vI x3] [vI y5] I4 K
    refine G_i1 (C := y5 = 0) rc_204_15 rfl (fun c6 => ?_) (fun c6 => ?_)
    · rw [if_pos c6] at h
      show GO S0 204 37 [vR 237, vI x1, vI x2, vI x3] [] I4 K
      refine G_lconst rc_204_37 (by decide) ?_
      exact G_retL rc_204_40 h
    · rw [if_neg c6] at h
      show GO S0 204 18 [vR 237, vI x1, vI x2, vI x3] [] I4 K
      refine G_loadR rc_204_18 rfl ?_
      refine G_loadI rc_204_19 rfl ?_
      refine G_loadI rc_204_20 rfl ?_
      refine G_loadI rc_204_21 rfl ?_
      refine G_call (as := [vR 237, vI x1, vI x2, vI x3]) (rest := []) rc_204_22 rfl rfl rfl (Nat.le_of_ble_eq_true rfl) (g_recv s0_237 rfl) ?_
      refine GO.imp h (fun v I7 h => ?_)
      obtain ⟨y8, rfl, h⟩ := h
      show GO S0 204 25 [vR 237, vI x1, vI x2, vI x3] [vI y8] I7 K
      refine G_i1 (C := y8 = 0) rc_204_25 rfl (fun c9 => ?_) (fun c9 => ?_)
      · rw [if_pos c9] at h
        show GO S0 204 37 [vR 237, vI x1, vI x2, vI x3] [] I7 K
        refine G_lconst rc_204_37 (by decide) ?_
        exact G_retL rc_204_40 h
      · rw [if_neg c9] at h
        show GO S0 204 28 [vR 237, vI x1, vI x2, vI x3] [] I7 K
        refine G_loadR rc_204_28 rfl ?_
        refine G_loadI rc_204_29 rfl ?_
        refine G_call (as := [vR 237, vI x2]) (rest := []) rc_204_30 rfl rfl rfl (Nat.le_of_ble_eq_true rfl) (g_recv s0_237 rfl) ?_
        refine GO.imp h (fun v I10 h => ?_)
        obtain ⟨y11, rfl, h⟩ := h
        show GO S0 204 33 [vR 237, vI x1, vI x2, vI x3] [vI y11] I10 K
        refine G_i2l rc_204_33 ?_
        refine G_goto rc_204_34 ?_
        show GO S0 204 40 [vR 237, vI x1, vI x2, vI x3] [vL y11] I10 K
        exact G_retL rc_204_40 h
/-! 205: RoundSlackModel.moreBy(I)I -/
def D205_0 (x1 : Int) (I : IM) (K : Option AV → IM → Prop) : Prop :=
  CALL S0 183 [vR 237] I (fun v I1 => v = none ∧ CALL S0 195 [vR 237, vR 242, vI x1] I1 (fun v I2 => ∃ y3 : Int, v = some (vI y3) ∧ CALL S0 195 [vR 237, vR 241, vI x1] I2 (fun v I4 => ∃ y5 : Int, v = some (vI y5) ∧ (inR (y3 - y5)) ∧ K (some (vI (y3 - y5))) I4)))
set_option maxRecDepth 10000 in
theorem g205_0 (x1 : Int) (I : IM) (K : Option AV → IM → Prop) (h : D205_0 x1 I K) : GO S0 205 0 [vR 237, vI x1] [] I K := by
  unfold D205_0 at h
  refine G_loadR rc_205_0 rfl ?_
  refine G_call (as := [vR 237]) (rest := []) rc_205_1 rfl rfl rfl (Nat.le_of_ble_eq_true rfl) (g_recv s0_237 rfl) ?_
  refine GO.imp h (fun v I1 h => ?_)
  obtain ⟨rfl, h⟩ := h
  show GO S0 205 4 [vR 237, vI x1] [] I1 K
  refine G_loadR rc_205_4 rfl ?_
  refine G_loadR rc_205_5 rfl ?_
  refine G_getR rc_205_6 s0_237 (by decide) rfl (by decide) ?_
  show GO S0 205 9 [vR 237, vI x1] [vR 242, vR 237] I1 K
  refine G_loadI rc_205_9 rfl ?_
  refine G_call (as := [vR 237, vR 242, vI x1]) (rest := []) rc_205_10 rfl rfl rfl (Nat.le_of_ble_eq_true rfl) (g_recv s0_237 rfl) ?_
  refine GO.imp h (fun v I2 h => ?_)
  obtain ⟨y3, rfl, h⟩ := h
  show GO S0 205 13 [vR 237, vI x1] [vI y3] I2 K
  refine G_loadR rc_205_13 rfl ?_
  refine G_loadR rc_205_14 rfl ?_
  refine G_getR rc_205_15 s0_237 (by decide) rfl (by decide) ?_
  show GO S0 205 18 [vR 237, vI x1] [vR 241, vR 237, vI y3] I2 K
  refine G_loadI rc_205_18 rfl ?_
  refine G_call (as := [vR 237, vR 241, vI x1]) (rest := [vI y3]) rc_205_19 rfl rfl rfl (Nat.le_of_ble_eq_true rfl) (g_recv s0_237 rfl) ?_
  refine GO.imp h (fun v I4 h => ?_)
  obtain ⟨y5, rfl, h⟩ := h
  show GO S0 205 22 [vR 237, vI x1] [vI y5, vI y3] I4 K
  obtain ⟨c6, h⟩ := h
  refine G_bop (z := y3 - y5) rc_205_22 (if_pos c6) ?_
  show GO S0 205 23 [vR 237, vI x1] [vI (y3 - y5)] I4 K
  exact G_retI rc_205_23 (Or.inl rfl) h
/-! 206: RoundSlackModel.take(I)I -/
def D206_0 (x1 : Int) (I : IM) (K : Option AV → IM → Prop) : Prop :=
  CALL S0 137 [vR 237, vI x1] I (fun v I1 => ∃ y2 : Int, v = some (vI y2) ∧ (if y2 = 0 then (K (some (vI (-1))) I1) else (CALL S0 139 [vR 237, vI x1] I1 (fun v I4 => ∃ y5 : Int, v = some (vI y5) ∧ (if (0 : Int) ≤ y5 then (CALL S0 202 [vR 237] I4 (fun v I7 => v = none ∧ CALL S0 201 [vR 237] I7 (fun v I8 => v = none ∧ CALL S0 177 [vR 237, vI x1] I8 (fun v I9 => ∃ y10 : Int, v = some (vI y10) ∧ CALL S0 207 [vR 242, vI y5, vI y10] I9 (fun v I11 => v = none ∧ CALL S0 170 [vR 237] I11 (fun v I12 => v = none ∧ CALL S0 203 [vR 237] I12 (fun v I13 => v = none ∧ K (some (vI y5)) I13))))))) else (K (some (vI (-3))) I4))))))
set_option maxRecDepth 10000 in
theorem g206_0 (x1 : Int) (I : IM) (K : Option AV → IM → Prop) (h : D206_0 x1 I K) : GO S0 206 0 [vR 237, vI x1, vU] [] I K := by
  unfold D206_0 at h
  refine G_loadR rc_206_0 rfl ?_
  refine G_loadI rc_206_1 rfl ?_
  refine G_call (as := [vR 237, vI x1]) (rest := []) rc_206_2 rfl rfl rfl (Nat.le_of_ble_eq_true rfl) (g_recv s0_237 rfl) ?_
  refine GO.imp h (fun v I1 h => ?_)
  obtain ⟨y2, rfl, h⟩ := h
  show GO S0 206 5 [vR 237, vI x1, vU] [vI y2] I1 K
  refine G_i1 (C := ¬ y2 = 0) rc_206_5 rfl (fun c3 => ?_) (fun c3 => ?_)
  · rw [if_neg c3] at h
    show GO S0 206 10 [vR 237, vI x1, vU] [] I1 K
    refine G_loadR rc_206_10 rfl ?_
    refine G_loadI rc_206_11 rfl ?_
    refine G_call (as := [vR 237, vI x1]) (rest := []) rc_206_12 rfl rfl rfl (Nat.le_of_ble_eq_true rfl) (g_recv s0_237 rfl) ?_
    refine GO.imp h (fun v I4 h => ?_)
    obtain ⟨y5, rfl, h⟩ := h
    show GO S0 206 15 [vR 237, vI x1, vU] [vI y5] I4 K
    refine G_storeI rc_206_15 (Nat.le_of_ble_eq_true rfl) ?_
    show GO S0 206 16 [vR 237, vI x1, vI y5] [] I4 K
    refine G_loadI rc_206_16 rfl ?_
    refine G_i1 (C := (0 : Int) ≤ y5) rc_206_17 rfl (fun c6 => ?_) (fun c6 => ?_)
    · rw [if_pos c6] at h
      show GO S0 206 23 [vR 237, vI x1, vI y5] [] I4 K
      refine G_loadR rc_206_23 rfl ?_
      refine G_call (as := [vR 237]) (rest := []) rc_206_24 rfl rfl rfl (Nat.le_of_ble_eq_true rfl) (g_recv s0_237 rfl) ?_
      refine GO.imp h (fun v I7 h => ?_)
      obtain ⟨rfl, h⟩ := h
      show GO S0 206 27 [vR 237, vI x1, vI y5] [] I7 K
      refine G_loadR rc_206_27 rfl ?_
      refine G_call (as := [vR 237]) (rest := []) rc_206_28 rfl rfl rfl (Nat.le_of_ble_eq_true rfl) (g_recv s0_237 rfl) ?_
      refine GO.imp h (fun v I8 h => ?_)
      obtain ⟨rfl, h⟩ := h
      show GO S0 206 31 [vR 237, vI x1, vI y5] [] I8 K
      refine G_loadR rc_206_31 rfl ?_
      refine G_getR rc_206_32 s0_237 (by decide) rfl (by decide) ?_
      show GO S0 206 35 [vR 237, vI x1, vI y5] [vR 242] I8 K
      refine G_loadI rc_206_35 rfl ?_
      refine G_loadR rc_206_36 rfl ?_
      refine G_loadI rc_206_37 rfl ?_
      refine G_call (as := [vR 237, vI x1]) (rest := [vI y5, vR 242]) rc_206_38 rfl rfl rfl (Nat.le_of_ble_eq_true rfl) (g_recv s0_237 rfl) ?_
      refine GO.imp h (fun v I9 h => ?_)
      obtain ⟨y10, rfl, h⟩ := h
      show GO S0 206 41 [vR 237, vI x1, vI y5] [vI y10, vI y5, vR 242] I9 K
      refine G_call (as := [vR 242, vI y5, vI y10]) (rest := []) rc_206_41 rfl rfl rfl (Nat.le_of_ble_eq_true rfl) rfl ?_
      refine GO.imp h (fun v I11 h => ?_)
      obtain ⟨rfl, h⟩ := h
      show GO S0 206 44 [vR 237, vI x1, vI y5] [] I11 K
      refine G_loadR rc_206_44 rfl ?_
      refine G_call (as := [vR 237]) (rest := []) rc_206_45 rfl rfl rfl (Nat.le_of_ble_eq_true rfl) (g_recv s0_237 rfl) ?_
      refine GO.imp h (fun v I12 h => ?_)
      obtain ⟨rfl, h⟩ := h
      show GO S0 206 48 [vR 237, vI x1, vI y5] [] I12 K
      refine G_loadR rc_206_48 rfl ?_
      refine G_call (as := [vR 237]) (rest := []) rc_206_49 rfl rfl rfl (Nat.le_of_ble_eq_true rfl) (g_recv s0_237 rfl) ?_
      refine GO.imp h (fun v I13 h => ?_)
      obtain ⟨rfl, h⟩ := h
      show GO S0 206 52 [vR 237, vI x1, vI y5] [] I13 K
      refine G_loadI rc_206_52 rfl ?_
      exact G_retI rc_206_53 (Or.inl rfl) h
    · rw [if_neg c6] at h
      show GO S0 206 20 [vR 237, vI x1, vI y5] [] I4 K
      refine G_const rc_206_20 (by decide) ?_
      exact G_retI rc_206_22 (Or.inl rfl) h
  · rw [if_pos (Classical.not_not.mp c3)] at h
    show GO S0 206 8 [vR 237, vI x1, vU] [] I1 K
    refine G_const rc_206_8 (by decide) ?_
    exact G_retI rc_206_9 (Or.inl rfl) h
/-! 207: RoundSlackModel.takesOut([III)V -/
def D207_12 (q0 : Nat) (x1 : Int) (x2 : Int) (x3 : Int) (I : IM) (K : Option AV → IM → Prop) : Prop :=
  (inR (13 * x1)) ∧ (0 ≤ 13 * x1 ∧ 13 * x1 < 52) ∧ (if I q0 (13 * x1).toNat ≤ x3 then (K none I) else ((inR ((13 * x1) + 1)) ∧ (inR (((13 * x1) + 1) + x3)) ∧ (inR ((13 * x1) + 2)) ∧ (inR (((13 * x1) + 2) + x3)) ∧ (0 ≤ ((13 * x1) + 2) + x3 ∧ ((13 * x1) + 2) + x3 < 52) ∧ (0 ≤ ((13 * x1) + 1) + x3 ∧ ((13 * x1) + 1) + x3 < 52) ∧ ∀ I10 : IM, I10 = iup I q0 (((13 * x1) + 1) + x3).toNat (I q0 (((13 * x1) + 2) + x3).toNat) → (inR (x3 + 1)) ∧ GO S0 207 12 [vR q0, vI x1, vI x2, vI (x3 + 1)] [] I10 K))
set_option maxRecDepth 10000 in
theorem g207_12 (q0 : Nat) (x1 : Int) (x2 : Int) (x3 : Int) (f0 : S0[q0]? = some (100, 52, [])) (I : IM) (K : Option AV → IM → Prop) (h : D207_12 q0 x1 x2 x3 I K) : GO S0 207 12 [vR q0, vI x1, vI x2, vI x3] [] I K := by
  unfold D207_12 at h
  refine G_loadI rc_207_12 rfl ?_
  refine G_loadR rc_207_13 rfl ?_
  refine G_const rc_207_14 (by decide) ?_
  refine G_loadI rc_207_16 rfl ?_
  obtain ⟨c1, h⟩ := h
  refine G_bop (z := 13 * x1) rc_207_17 (if_pos c1) ?_
  show GO S0 207 18 [vR q0, vI x1, vI x2, vI x3] [vI (13 * x1), vR q0, vI x3] I K
  obtain ⟨c2, h⟩ := h
  refine G_ald rc_207_18 f0 (by omega) (by omega) ?_
  show GO S0 207 19 [vR q0, vI x1, vI x2, vI x3] [vI (I q0 (13 * x1).toNat), vI x3] I K
  refine G_i2 (C := I q0 (13 * x1).toNat ≤ x3) rc_207_19 rfl (fun c3 => ?_) (fun c3 => ?_)
  · rw [if_pos c3] at h
    show GO S0 207 48 [vR q0, vI x1, vI x2, vI x3] [] I K
    exact G_ret0 rc_207_48 h
  · rw [if_neg c3] at h
    show GO S0 207 22 [vR q0, vI x1, vI x2, vI x3] [] I K
    refine G_loadR rc_207_22 rfl ?_
    refine G_const rc_207_23 (by decide) ?_
    refine G_loadI rc_207_25 rfl ?_
    refine G_bop (z := 13 * x1) rc_207_26 (if_pos c1) ?_
    show GO S0 207 27 [vR q0, vI x1, vI x2, vI x3] [vI (13 * x1), vR q0] I K
    refine G_const rc_207_27 (by decide) ?_
    obtain ⟨c4, h⟩ := h
    refine G_bop (z := (13 * x1) + 1) rc_207_28 (if_pos c4) ?_
    show GO S0 207 29 [vR q0, vI x1, vI x2, vI x3] [vI ((13 * x1) + 1), vR q0] I K
    refine G_loadI rc_207_29 rfl ?_
    obtain ⟨c5, h⟩ := h
    refine G_bop (z := ((13 * x1) + 1) + x3) rc_207_30 (if_pos c5) ?_
    show GO S0 207 31 [vR q0, vI x1, vI x2, vI x3] [vI (((13 * x1) + 1) + x3), vR q0] I K
    refine G_loadR rc_207_31 rfl ?_
    refine G_const rc_207_32 (by decide) ?_
    refine G_loadI rc_207_34 rfl ?_
    refine G_bop (z := 13 * x1) rc_207_35 (if_pos c1) ?_
    show GO S0 207 36 [vR q0, vI x1, vI x2, vI x3] [vI (13 * x1), vR q0, vI (((13 * x1) + 1) + x3), vR q0] I K
    refine G_const rc_207_36 (by decide) ?_
    obtain ⟨c6, h⟩ := h
    refine G_bop (z := (13 * x1) + 2) rc_207_37 (if_pos c6) ?_
    show GO S0 207 38 [vR q0, vI x1, vI x2, vI x3] [vI ((13 * x1) + 2), vR q0, vI (((13 * x1) + 1) + x3), vR q0] I K
    refine G_loadI rc_207_38 rfl ?_
    obtain ⟨c7, h⟩ := h
    refine G_bop (z := ((13 * x1) + 2) + x3) rc_207_39 (if_pos c7) ?_
    show GO S0 207 40 [vR q0, vI x1, vI x2, vI x3] [vI (((13 * x1) + 2) + x3), vR q0, vI (((13 * x1) + 1) + x3), vR q0] I K
    obtain ⟨c8, h⟩ := h
    refine G_ald rc_207_40 f0 (by omega) (by omega) ?_
    show GO S0 207 41 [vR q0, vI x1, vI x2, vI x3] [vI (I q0 (((13 * x1) + 2) + x3).toNat), vI (((13 * x1) + 1) + x3), vR q0] I K
    obtain ⟨c9, h⟩ := h
    refine G_ast rc_207_41 f0 (by omega) (by omega) (Or.inl rfl) ?_
    show GO S0 207 42 [vR q0, vI x1, vI x2, vI x3] [] (iup I q0 (((13 * x1) + 1) + x3).toNat (I q0 (((13 * x1) + 2) + x3).toNat)) K
    have h := h _ rfl
    generalize iup I q0 (((13 * x1) + 1) + x3).toNat (I q0 (((13 * x1) + 2) + x3).toNat) = I10 at h ⊢
    obtain ⟨c11, h⟩ := h
    refine G_iinc rc_207_42 rfl c11 ?_
    show GO S0 207 45 [vR q0, vI x1, vI x2, vI (x3 + 1)] [] I10 K
    refine G_goto rc_207_45 ?_
    show GO S0 207 12 [vR q0, vI x1, vI x2, vI (x3 + 1)] [] I10 K
    exact h
def D207_0 (q0 : Nat) (x1 : Int) (x2 : Int) (I : IM) (K : Option AV → IM → Prop) : Prop :=
  (inR (13 * x1)) ∧ (0 ≤ 13 * x1 ∧ 13 * x1 < 52) ∧ (inR ((I q0 (13 * x1).toNat) - 1)) ∧ ∀ I4 : IM, I4 = iup I q0 (13 * x1).toNat ((I q0 (13 * x1).toNat) - 1) → GO S0 207 12 [vR q0, vI x1, vI x2, vI x2] [] I4 K
set_option maxRecDepth 10000 in
theorem g207_0 (q0 : Nat) (x1 : Int) (x2 : Int) (f0 : S0[q0]? = some (100, 52, [])) (I : IM) (K : Option AV → IM → Prop) (h : D207_0 q0 x1 x2 I K) : GO S0 207 0 [vR q0, vI x1, vI x2, vU] [] I K := by
  unfold D207_0 at h
  refine G_loadR rc_207_0 rfl ?_
  refine G_const rc_207_1 (by decide) ?_
  refine G_loadI rc_207_3 rfl ?_
  obtain ⟨c1, h⟩ := h
  refine G_bop (z := 13 * x1) rc_207_4 (if_pos c1) ?_
  show GO S0 207 5 [vR q0, vI x1, vI x2, vU] [vI (13 * x1), vR q0] I K
  refine G_dup2 rc_207_5 ?_
  obtain ⟨c2, h⟩ := h
  refine G_ald rc_207_6 f0 (by omega) (by omega) ?_
  show GO S0 207 7 [vR q0, vI x1, vI x2, vU] [vI (I q0 (13 * x1).toNat), vI (13 * x1), vR q0] I K
  refine G_const rc_207_7 (by decide) ?_
  obtain ⟨c3, h⟩ := h
  refine G_bop (z := (I q0 (13 * x1).toNat) - 1) rc_207_8 (if_pos c3) ?_
  show GO S0 207 9 [vR q0, vI x1, vI x2, vU] [vI ((I q0 (13 * x1).toNat) - 1), vI (13 * x1), vR q0] I K
  refine G_ast rc_207_9 f0 (by omega) (by omega) (Or.inl rfl) ?_
  show GO S0 207 10 [vR q0, vI x1, vI x2, vU] [] (iup I q0 (13 * x1).toNat ((I q0 (13 * x1).toNat) - 1)) K
  have h := h _ rfl
  generalize iup I q0 (13 * x1).toNat ((I q0 (13 * x1).toNat) - 1) = I4 at h ⊢
  refine G_loadI rc_207_10 rfl ?_
  refine G_storeI rc_207_11 (Nat.le_of_ble_eq_true rfl) ?_
  show GO S0 207 12 [vR q0, vI x1, vI x2, vI x2] [] I4 K
  exact h
/-! 208: RoundSlackModel.may(IIII)I -/
def D208_0 (x1 : Int) (x2 : Int) (x3 : Int) (x4 : Int) (I : IM) (K : Option AV → IM → Prop) : Prop :=
  CALL S0 209 [vR 237, vI x1, vI x2, vI x3, vI x4] I (fun v I1 => ∃ y2 : Int, v = some (vI y2) ∧ (if y2 = 0 then (K (some (vI (-1))) I1) else (CALL S0 211 [vR 237, vI x1, vI x2, vI x3, vI x4] I1 (fun v I4 => ∃ y5 : Int, v = some (vI y5) ∧ (if y5 = 0 then (K (some (vI 0)) I4) else (K (some (vI 1)) I4))))))
set_option maxRecDepth 10000 in
theorem g208_0 (x1 : Int) (x2 : Int) (x3 : Int) (x4 : Int) (I : IM) (K : Option AV → IM → Prop) (h : D208_0 x1 x2 x3 x4 I K) : GO S0 208 0 [vR 237, vI x1, vI x2, vI x3, vI x4] [] I K := by
  unfold D208_0 at h
  refine G_loadR rc_208_0 rfl ?_
  refine G_loadI rc_208_1 rfl ?_
  refine G_loadI rc_208_2 rfl ?_
  refine G_loadI rc_208_3 rfl ?_
  refine G_loadI rc_208_4 rfl ?_
  refine G_call (as := [vR 237, vI x1, vI x2, vI x3, vI x4]) (rest := []) rc_208_6 rfl rfl rfl (Nat.le_of_ble_eq_true rfl) (g_recv s0_237 rfl) ?_
  refine GO.imp h (fun v I1 h => ?_)
  obtain ⟨y2, rfl, h⟩ := h
  show GO S0 208 9 [vR 237, vI x1, vI x2, vI x3, vI x4] [vI y2] I1 K
  refine G_i1 (C := ¬ y2 = 0) rc_208_9 rfl (fun c3 => ?_) (fun c3 => ?_)
  · rw [if_neg c3] at h
    show GO S0 208 16 [vR 237, vI x1, vI x2, vI x3, vI x4] [] I1 K
    refine G_loadR rc_208_16 rfl ?_
    refine G_loadI rc_208_17 rfl ?_
    refine G_loadI rc_208_18 rfl ?_
    refine G_loadI rc_208_19 rfl ?_
    refine G_loadI rc_208_20 rfl ?_
    refine G_call (as := [vR 237, vI x1, vI x2, vI x3, vI x4]) (rest := []) rc_208_22 rfl rfl rfl (Nat.le_of_ble_eq_true rfl) (g_recv s0_237 rfl) ?_
    refine GO.imp h (fun v I4 h => ?_)
    obtain ⟨y5, rfl, h⟩ := h
    show GO S0 208 25 [vR 237, vI x1, vI x2, vI x3, vI x4] [vI y5] I4 K
    refine G_i1 (C := y5 = 0) rc_208_25 rfl (fun c6 => ?_) (fun c6 => ?_)
    · rw [if_pos c6] at h
      show GO S0 208 32 [vR 237, vI x1, vI x2, vI x3, vI x4] [] I4 K
      refine G_const rc_208_32 (by decide) ?_
      exact G_retI rc_208_33 (Or.inl rfl) h
    · rw [if_neg c6] at h
      show GO S0 208 28 [vR 237, vI x1, vI x2, vI x3, vI x4] [] I4 K
      refine G_const rc_208_28 (by decide) ?_
      refine G_goto rc_208_29 ?_
      show GO S0 208 33 [vR 237, vI x1, vI x2, vI x3, vI x4] [vI 1] I4 K
      exact G_retI rc_208_33 (Or.inl rfl) h
  · rw [if_pos (Classical.not_not.mp c3)] at h
    show GO S0 208 12 [vR 237, vI x1, vI x2, vI x3, vI x4] [] I1 K
    refine G_const rc_208_12 (by decide) ?_
    refine G_goto rc_208_13 ?_
    show GO S0 208 33 [vR 237, vI x1, vI x2, vI x3, vI x4] [vI (-1)] I1 K
    exact G_retI rc_208_33 (Or.inl rfl) h
/-! 209: RoundSlackModel.isMove(IIII)Z -/
def D209_69 (x1 : Int) (x2 : Int) (x3 : Int) (x4 : Int) (t0 : Int) (t1 : Int) (t2 : Int) (t3 : Int) (I : IM) (K : Option AV → IM → Prop) : Prop :=
  (inR (t2 - t3)) ∧ CALL S0 130 [vI t0, vI t1, vI (t2 - t3)] I (fun v I2 => ∃ y3 : Int, v = some (vI y3) ∧ (if y3 = 0 then (K (some (vI 0)) I2) else (K (some (vI 1)) I2)))
set_option maxRecDepth 10000 in
theorem g209_69 (x1 : Int) (x2 : Int) (x3 : Int) (x4 : Int) (t0 : Int) (t1 : Int) (t2 : Int) (t3 : Int) (I : IM) (K : Option AV → IM → Prop) (h : D209_69 x1 x2 x3 x4 t0 t1 t2 t3 I K) : GO S0 209 69 [vR 237, vI x1, vI x2, vI x3, vI x4] [vI t3, vI t2, vI t1, vI t0] I K := by
  unfold D209_69 at h
  obtain ⟨c1, h⟩ := h
  refine G_bop (z := t2 - t3) rc_209_69 (if_pos c1) ?_
  show GO S0 209 70 [vR 237, vI x1, vI x2, vI x3, vI x4] [vI (t2 - t3), vI t1, vI t0] I K
  refine G_call (as := [vI t0, vI t1, vI (t2 - t3)]) (rest := []) rc_209_70 rfl rfl rfl (Nat.le_of_ble_eq_true rfl) rfl ?_
  refine GO.imp h (fun v I2 h => ?_)
  obtain ⟨y3, rfl, h⟩ := h
  show GO S0 209 73 [vR 237, vI x1, vI x2, vI x3, vI x4] [vI y3] I2 K
  refine G_i1 (C := y3 = 0) rc_209_73 rfl (fun c4 => ?_) (fun c4 => ?_)
  · rw [if_pos c4] at h
    show GO S0 209 80 [vR 237, vI x1, vI x2, vI x3, vI x4] [] I2 K
    refine G_const rc_209_80 (by decide) ?_
    exact G_retI rc_209_81 (Or.inr (by decide)) h
  · rw [if_neg c4] at h
    show GO S0 209 76 [vR 237, vI x1, vI x2, vI x3, vI x4] [] I2 K
    refine G_const rc_209_76 (by decide) ?_
    refine G_goto rc_209_77 ?_
    show GO S0 209 81 [vR 237, vI x1, vI x2, vI x3, vI x4] [vI 1] I2 K
    exact G_retI rc_209_81 (Or.inr (by decide)) h
def D209_0 (x1 : Int) (x2 : Int) (x3 : Int) (x4 : Int) (I : IM) (K : Option AV → IM → Prop) : Prop :=
  (if x1 = 0 then (CALL S0 210 [vR 237, vI x2] I (fun v I2 => ∃ y3 : Int, v = some (vI y3) ∧ (if y3 = 0 then (K (some (vI 0)) I2) else (CALL S0 142 [vI x3] I2 (fun v I5 => ∃ y6 : Int, v = some (vI y6) ∧ (if y6 = 0 then (K (some (vI 0)) I5) else (CALL S0 132 [vR 237, vI x3] I5 (fun v I8 => ∃ y9 : Int, v = some (vI y9) ∧ CALL S0 139 [vR 237, vI x2] I8 (fun v I10 => ∃ y11 : Int, v = some (vI y11) ∧ (if y11 = x3 then (D209_69 x1 x2 x3 x4 x4 0 y9 1 I10 K) else (D209_69 x1 x2 x3 x4 x4 0 y9 0 I10 K))))))))))) else (if x1 = 1 then (CALL S0 210 [vR 237, vI x2] I (fun v I14 => ∃ y15 : Int, v = some (vI y15) ∧ (if y15 = 0 then (K (some (vI 0)) I14) else (CALL S0 210 [vR 237, vI x3] I14 (fun v I17 => ∃ y18 : Int, v = some (vI y18) ∧ (if y18 = 0 then (K (some (vI 0)) I17) else ((if x3 ≤ x2 then (K (some (vI 0)) I17) else ((if x4 = 0 then (K (some (vI 1)) I17) else (K (some (vI 0)) I17))))))))))) else (if x1 = 2 then (CALL S0 142 [vI x2] I (fun v I23 => ∃ y24 : Int, v = some (vI y24) ∧ (if y24 = 0 then (K (some (vI 0)) I23) else (CALL S0 142 [vI x3] I23 (fun v I26 => ∃ y27 : Int, v = some (vI y27) ∧ (if y27 = 0 then (K (some (vI 0)) I26) else ((if x3 ≤ x2 then (K (some (vI 0)) I26) else ((if x4 < 0 then (K (some (vI 0)) I26) else ((inR (Int.tdiv x4 16)) ∧ CALL S0 132 [vR 237, vI x2] I26 (fun v I32 => ∃ y33 : Int, v = some (vI y33) ∧ (if y33 < Int.tmod x4 16 then (K (some (vI 0)) I32) else (CALL S0 132 [vR 237, vI x3] I32 (fun v I35 => ∃ y36 : Int, v = some (vI y36) ∧ (if y36 < Int.tdiv x4 16 then (K (some (vI 0)) I35) else (K (some (vI 1)) I35))))))))))))))))) else (if x1 = 3 then (CALL S0 142 [vI x2] I (fun v I39 => ∃ y40 : Int, v = some (vI y40) ∧ (if y40 = 0 then (K (some (vI 0)) I39) else (CALL S0 132 [vR 237, vI x2] I39 (fun v I42 => ∃ y43 : Int, v = some (vI y43) ∧ (inR (y43 - 1)) ∧ CALL S0 130 [vI x4, vI 0, vI (y43 - 1)] I42 (fun v I45 => ∃ y46 : Int, v = some (vI y46) ∧ (if y46 = 0 then (K (some (vI 0)) I45) else ((inR (x4 - 1)) ∧ CALL S0 130 [vI x3, vI 0, vI (x4 - 1)] I45 (fun v I49 => ∃ y50 : Int, v = some (vI y50) ∧ (if y50 = 0 then (K (some (vI 0)) I49) else (K (some (vI 1)) I49))))))))))) else (K (some (vI 0)) I)))))
set_option maxRecDepth 10000 in
theorem g209_0 (x1 : Int) (x2 : Int) (x3 : Int) (x4 : Int) (I : IM) (K : Option AV → IM → Prop) (h : D209_0 x1 x2 x3 x4 I K) : GO S0 209 0 [vR 237, vI x1, vI x2, vI x3, vI x4] [] I K := by
  unfold D209_0 at h
  refine G_loadI rc_209_0 rfl ?_
  refine G_switch rc_209_1 ?_
  show GO S0 209 (if x1 = 0 then 32 else if x1 = 1 then 82 else if x1 = 2 then 114 else if x1 = 3 then 170 else 211) [vR 237, vI x1, vI x2, vI x3, vI x4] [] I K
  by_cases c1 : x1 = 0
  · rw [if_pos c1] at h
    rw [if_pos c1]
    show GO S0 209 32 [vR 237, vI x1, vI x2, vI x3, vI x4] [] I K
    refine G_loadR rc_209_32 rfl ?_
    refine G_loadI rc_209_33 rfl ?_
    refine G_call (as := [vR 237, vI x2]) (rest := []) rc_209_34 rfl rfl rfl (Nat.le_of_ble_eq_true rfl) (g_recv s0_237 rfl) ?_
    refine GO.imp h (fun v I2 h => ?_)
    obtain ⟨y3, rfl, h⟩ := h
    show GO S0 209 37 [vR 237, vI x1, vI x2, vI x3, vI x4] [vI y3] I2 K
    refine G_i1 (C := y3 = 0) rc_209_37 rfl (fun c4 => ?_) (fun c4 => ?_)
    · rw [if_pos c4] at h
      show GO S0 209 80 [vR 237, vI x1, vI x2, vI x3, vI x4] [] I2 K
      refine G_const rc_209_80 (by decide) ?_
      exact G_retI rc_209_81 (Or.inr (by decide)) h
    · rw [if_neg c4] at h
      show GO S0 209 40 [vR 237, vI x1, vI x2, vI x3, vI x4] [] I2 K
      refine G_loadI rc_209_40 rfl ?_
      refine G_call (as := [vI x3]) (rest := []) rc_209_41 rfl rfl rfl (Nat.le_of_ble_eq_true rfl) rfl ?_
      refine GO.imp h (fun v I5 h => ?_)
      obtain ⟨y6, rfl, h⟩ := h
      show GO S0 209 44 [vR 237, vI x1, vI x2, vI x3, vI x4] [vI y6] I5 K
      refine G_i1 (C := y6 = 0) rc_209_44 rfl (fun c7 => ?_) (fun c7 => ?_)
      · rw [if_pos c7] at h
        show GO S0 209 80 [vR 237, vI x1, vI x2, vI x3, vI x4] [] I5 K
        refine G_const rc_209_80 (by decide) ?_
        exact G_retI rc_209_81 (Or.inr (by decide)) h
      · rw [if_neg c7] at h
        show GO S0 209 47 [vR 237, vI x1, vI x2, vI x3, vI x4] [] I5 K
        refine G_loadI rc_209_47 rfl ?_
        refine G_const rc_209_49 (by decide) ?_
        refine G_loadR rc_209_50 rfl ?_
        refine G_loadI rc_209_51 rfl ?_
        refine G_call (as := [vR 237, vI x3]) (rest := [vI 0, vI x4]) rc_209_52 rfl rfl rfl (Nat.le_of_ble_eq_true rfl) (g_recv s0_237 rfl) ?_
        refine GO.imp h (fun v I8 h => ?_)
        obtain ⟨y9, rfl, h⟩ := h
        show GO S0 209 55 [vR 237, vI x1, vI x2, vI x3, vI x4] [vI y9, vI 0, vI x4] I8 K
        refine G_loadR rc_209_55 rfl ?_
        refine G_loadI rc_209_56 rfl ?_
        refine G_call (as := [vR 237, vI x2]) (rest := [vI y9, vI 0, vI x4]) rc_209_57 rfl rfl rfl (Nat.le_of_ble_eq_true rfl) (g_recv s0_237 rfl) ?_
        refine GO.imp h (fun v I10 h => ?_)
        obtain ⟨y11, rfl, h⟩ := h
        show GO S0 209 60 [vR 237, vI x1, vI x2, vI x3, vI x4] [vI y11, vI y9, vI 0, vI x4] I10 K
        refine G_loadI rc_209_60 rfl ?_
        refine G_i2 (C := ¬ y11 = x3) rc_209_61 rfl (fun c12 => ?_) (fun c12 => ?_)
        · rw [if_neg c12] at h
          show GO S0 209 68 [vR 237, vI x1, vI x2, vI x3, vI x4] [vI y9, vI 0, vI x4] I10 K
          refine G_const rc_209_68 (by decide) ?_
          exact g209_69 x1 x2 x3 x4 x4 0 y9 0 I10 K h
        · rw [if_pos (Classical.not_not.mp c12)] at h
          show GO S0 209 64 [vR 237, vI x1, vI x2, vI x3, vI x4] [vI y9, vI 0, vI x4] I10 K
          refine G_const rc_209_64 (by decide) ?_
          refine G_goto rc_209_65 ?_
          show GO S0 209 69 [vR 237, vI x1, vI x2, vI x3, vI x4] [vI 1, vI y9, vI 0, vI x4] I10 K
          exact g209_69 x1 x2 x3 x4 x4 0 y9 1 I10 K h
  · rw [if_neg c1] at h
    rw [if_neg c1]
    by_cases c13 : x1 = 1
    · rw [if_pos c13] at h
      rw [if_pos c13]
      show GO S0 209 82 [vR 237, vI x1, vI x2, vI x3, vI x4] [] I K
      refine G_loadR rc_209_82 rfl ?_
      refine G_loadI rc_209_83 rfl ?_
      refine G_call (as := [vR 237, vI x2]) (rest := []) rc_209_84 rfl rfl rfl (Nat.le_of_ble_eq_true rfl) (g_recv s0_237 rfl) ?_
      refine GO.imp h (fun v I14 h => ?_)
      obtain ⟨y15, rfl, h⟩ := h
      show GO S0 209 87 [vR 237, vI x1, vI x2, vI x3, vI x4] [vI y15] I14 K
      refine G_i1 (C := y15 = 0) rc_209_87 rfl (fun c16 => ?_) (fun c16 => ?_)
      · rw [if_pos c16] at h
        show GO S0 209 112 [vR 237, vI x1, vI x2, vI x3, vI x4] [] I14 K
        refine G_const rc_209_112 (by decide) ?_
        exact G_retI rc_209_113 (Or.inr (by decide)) h
      · rw [if_neg c16] at h
        show GO S0 209 90 [vR 237, vI x1, vI x2, vI x3, vI x4] [] I14 K
        refine G_loadR rc_209_90 rfl ?_
        refine G_loadI rc_209_91 rfl ?_
        refine G_call (as := [vR 237, vI x3]) (rest := []) rc_209_92 rfl rfl rfl (Nat.le_of_ble_eq_true rfl) (g_recv s0_237 rfl) ?_
        refine GO.imp h (fun v I17 h => ?_)
        obtain ⟨y18, rfl, h⟩ := h
        show GO S0 209 95 [vR 237, vI x1, vI x2, vI x3, vI x4] [vI y18] I17 K
        refine G_i1 (C := y18 = 0) rc_209_95 rfl (fun c19 => ?_) (fun c19 => ?_)
        · rw [if_pos c19] at h
          show GO S0 209 112 [vR 237, vI x1, vI x2, vI x3, vI x4] [] I17 K
          refine G_const rc_209_112 (by decide) ?_
          exact G_retI rc_209_113 (Or.inr (by decide)) h
        · rw [if_neg c19] at h
          show GO S0 209 98 [vR 237, vI x1, vI x2, vI x3, vI x4] [] I17 K
          refine G_loadI rc_209_98 rfl ?_
          refine G_loadI rc_209_99 rfl ?_
          refine G_i2 (C := x3 ≤ x2) rc_209_100 rfl (fun c20 => ?_) (fun c20 => ?_)
          · rw [if_pos c20] at h
            show GO S0 209 112 [vR 237, vI x1, vI x2, vI x3, vI x4] [] I17 K
            refine G_const rc_209_112 (by decide) ?_
            exact G_retI rc_209_113 (Or.inr (by decide)) h
          · rw [if_neg c20] at h
            show GO S0 209 103 [vR 237, vI x1, vI x2, vI x3, vI x4] [] I17 K
            refine G_loadI rc_209_103 rfl ?_
            refine G_i1 (C := ¬ x4 = 0) rc_209_105 rfl (fun c21 => ?_) (fun c21 => ?_)
            · rw [if_neg c21] at h
              show GO S0 209 112 [vR 237, vI x1, vI x2, vI x3, vI x4] [] I17 K
              refine G_const rc_209_112 (by decide) ?_
              exact G_retI rc_209_113 (Or.inr (by decide)) h
            · rw [if_pos (Classical.not_not.mp c21)] at h
              show GO S0 209 108 [vR 237, vI x1, vI x2, vI x3, vI x4] [] I17 K
              refine G_const rc_209_108 (by decide) ?_
              refine G_goto rc_209_109 ?_
              show GO S0 209 113 [vR 237, vI x1, vI x2, vI x3, vI x4] [vI 1] I17 K
              exact G_retI rc_209_113 (Or.inr (by decide)) h
    · rw [if_neg c13] at h
      rw [if_neg c13]
      by_cases c22 : x1 = 2
      · rw [if_pos c22] at h
        rw [if_pos c22]
        show GO S0 209 114 [vR 237, vI x1, vI x2, vI x3, vI x4] [] I K
        refine G_loadI rc_209_114 rfl ?_
        refine G_call (as := [vI x2]) (rest := []) rc_209_115 rfl rfl rfl (Nat.le_of_ble_eq_true rfl) rfl ?_
        refine GO.imp h (fun v I23 h => ?_)
        obtain ⟨y24, rfl, h⟩ := h
        show GO S0 209 118 [vR 237, vI x1, vI x2, vI x3, vI x4] [vI y24] I23 K
        refine G_i1 (C := y24 = 0) rc_209_118 rfl (fun c25 => ?_) (fun c25 => ?_)
        · rw [if_pos c25] at h
          show GO S0 209 168 [vR 237, vI x1, vI x2, vI x3, vI x4] [] I23 K
          refine G_const rc_209_168 (by decide) ?_
          exact G_retI rc_209_169 (Or.inr (by decide)) h
        · rw [if_neg c25] at h
          show GO S0 209 121 [vR 237, vI x1, vI x2, vI x3, vI x4] [] I23 K
          refine G_loadI rc_209_121 rfl ?_
          refine G_call (as := [vI x3]) (rest := []) rc_209_122 rfl rfl rfl (Nat.le_of_ble_eq_true rfl) rfl ?_
          refine GO.imp h (fun v I26 h => ?_)
          obtain ⟨y27, rfl, h⟩ := h
          show GO S0 209 125 [vR 237, vI x1, vI x2, vI x3, vI x4] [vI y27] I26 K
          refine G_i1 (C := y27 = 0) rc_209_125 rfl (fun c28 => ?_) (fun c28 => ?_)
          · rw [if_pos c28] at h
            show GO S0 209 168 [vR 237, vI x1, vI x2, vI x3, vI x4] [] I26 K
            refine G_const rc_209_168 (by decide) ?_
            exact G_retI rc_209_169 (Or.inr (by decide)) h
          · rw [if_neg c28] at h
            show GO S0 209 128 [vR 237, vI x1, vI x2, vI x3, vI x4] [] I26 K
            refine G_loadI rc_209_128 rfl ?_
            refine G_loadI rc_209_129 rfl ?_
            refine G_i2 (C := x3 ≤ x2) rc_209_130 rfl (fun c29 => ?_) (fun c29 => ?_)
            · rw [if_pos c29] at h
              show GO S0 209 168 [vR 237, vI x1, vI x2, vI x3, vI x4] [] I26 K
              refine G_const rc_209_168 (by decide) ?_
              exact G_retI rc_209_169 (Or.inr (by decide)) h
            · rw [if_neg c29] at h
              show GO S0 209 133 [vR 237, vI x1, vI x2, vI x3, vI x4] [] I26 K
              refine G_loadI rc_209_133 rfl ?_
              refine G_i1 (C := x4 < 0) rc_209_135 rfl (fun c30 => ?_) (fun c30 => ?_)
              · rw [if_pos c30] at h
                show GO S0 209 168 [vR 237, vI x1, vI x2, vI x3, vI x4] [] I26 K
                refine G_const rc_209_168 (by decide) ?_
                exact G_retI rc_209_169 (Or.inr (by decide)) h
              · rw [if_neg c30] at h
                show GO S0 209 138 [vR 237, vI x1, vI x2, vI x3, vI x4] [] I26 K
                refine G_loadI rc_209_138 rfl ?_
                refine G_const rc_209_140 (by decide) ?_
                obtain ⟨c31, h⟩ := h
                refine G_bop (z := Int.tmod x4 16) rc_209_142 (show (if (16 : Int) ≠ 0 ∧ inR (Int.tdiv x4 16) then some (Int.tmod x4 16) else none) = some (Int.tmod x4 16) from if_pos ⟨by decide, c31⟩) ?_
                show GO S0 209 143 [vR 237, vI x1, vI x2, vI x3, vI x4] [vI (Int.tmod x4 16)] I26 K
                refine G_loadR rc_209_143 rfl ?_
                refine G_loadI rc_209_144 rfl ?_
                refine G_call (as := [vR 237, vI x2]) (rest := [vI (Int.tmod x4 16)]) rc_209_145 rfl rfl rfl (Nat.le_of_ble_eq_true rfl) (g_recv s0_237 rfl) ?_
                refine GO.imp h (fun v I32 h => ?_)
                obtain ⟨y33, rfl, h⟩ := h
                show GO S0 209 148 [vR 237, vI x1, vI x2, vI x3, vI x4] [vI y33, vI (Int.tmod x4 16)] I32 K
                refine G_i2 (C := y33 < Int.tmod x4 16) rc_209_148 rfl (fun c34 => ?_) (fun c34 => ?_)
                · rw [if_pos c34] at h
                  show GO S0 209 168 [vR 237, vI x1, vI x2, vI x3, vI x4] [] I32 K
                  refine G_const rc_209_168 (by decide) ?_
                  exact G_retI rc_209_169 (Or.inr (by decide)) h
                · rw [if_neg c34] at h
                  show GO S0 209 151 [vR 237, vI x1, vI x2, vI x3, vI x4] [] I32 K
                  refine G_loadI rc_209_151 rfl ?_
                  refine G_const rc_209_153 (by decide) ?_
                  refine G_bop (z := Int.tdiv x4 16) rc_209_155 (show (if (16 : Int) ≠ 0 ∧ inR (Int.tdiv x4 16) then some (Int.tdiv x4 16) else none) = some (Int.tdiv x4 16) from if_pos ⟨by decide, c31⟩) ?_
                  show GO S0 209 156 [vR 237, vI x1, vI x2, vI x3, vI x4] [vI (Int.tdiv x4 16)] I32 K
                  refine G_loadR rc_209_156 rfl ?_
                  refine G_loadI rc_209_157 rfl ?_
                  refine G_call (as := [vR 237, vI x3]) (rest := [vI (Int.tdiv x4 16)]) rc_209_158 rfl rfl rfl (Nat.le_of_ble_eq_true rfl) (g_recv s0_237 rfl) ?_
                  refine GO.imp h (fun v I35 h => ?_)
                  obtain ⟨y36, rfl, h⟩ := h
                  show GO S0 209 161 [vR 237, vI x1, vI x2, vI x3, vI x4] [vI y36, vI (Int.tdiv x4 16)] I35 K
                  refine G_i2 (C := y36 < Int.tdiv x4 16) rc_209_161 rfl (fun c37 => ?_) (fun c37 => ?_)
                  · rw [if_pos c37] at h
                    show GO S0 209 168 [vR 237, vI x1, vI x2, vI x3, vI x4] [] I35 K
                    refine G_const rc_209_168 (by decide) ?_
                    exact G_retI rc_209_169 (Or.inr (by decide)) h
                  · rw [if_neg c37] at h
                    show GO S0 209 164 [vR 237, vI x1, vI x2, vI x3, vI x4] [] I35 K
                    refine G_const rc_209_164 (by decide) ?_
                    refine G_goto rc_209_165 ?_
                    show GO S0 209 169 [vR 237, vI x1, vI x2, vI x3, vI x4] [vI 1] I35 K
                    exact G_retI rc_209_169 (Or.inr (by decide)) h
      · rw [if_neg c22] at h
        rw [if_neg c22]
        by_cases c38 : x1 = 3
        · rw [if_pos c38] at h
          rw [if_pos c38]
          show GO S0 209 170 [vR 237, vI x1, vI x2, vI x3, vI x4] [] I K
          refine G_loadI rc_209_170 rfl ?_
          refine G_call (as := [vI x2]) (rest := []) rc_209_171 rfl rfl rfl (Nat.le_of_ble_eq_true rfl) rfl ?_
          refine GO.imp h (fun v I39 h => ?_)
          obtain ⟨y40, rfl, h⟩ := h
          show GO S0 209 174 [vR 237, vI x1, vI x2, vI x3, vI x4] [vI y40] I39 K
          refine G_i1 (C := y40 = 0) rc_209_174 rfl (fun c41 => ?_) (fun c41 => ?_)
          · rw [if_pos c41] at h
            show GO S0 209 209 [vR 237, vI x1, vI x2, vI x3, vI x4] [] I39 K
            refine G_const rc_209_209 (by decide) ?_
            exact G_retI rc_209_210 (Or.inr (by decide)) h
          · rw [if_neg c41] at h
            show GO S0 209 177 [vR 237, vI x1, vI x2, vI x3, vI x4] [] I39 K
            refine G_loadI rc_209_177 rfl ?_
            refine G_const rc_209_179 (by decide) ?_
            refine G_loadR rc_209_180 rfl ?_
            refine G_loadI rc_209_181 rfl ?_
            refine G_call (as := [vR 237, vI x2]) (rest := [vI 0, vI x4]) rc_209_182 rfl rfl rfl (Nat.le_of_ble_eq_true rfl) (g_recv s0_237 rfl) ?_
            refine GO.imp h (fun v I42 h => ?_)
            obtain ⟨y43, rfl, h⟩ := h
            show GO S0 209 185 [vR 237, vI x1, vI x2, vI x3, vI x4] [vI y43, vI 0, vI x4] I42 K
            refine G_const rc_209_185 (by decide) ?_
            obtain ⟨c44, h⟩ := h
            refine G_bop (z := y43 - 1) rc_209_186 (if_pos c44) ?_
            show GO S0 209 187 [vR 237, vI x1, vI x2, vI x3, vI x4] [vI (y43 - 1), vI 0, vI x4] I42 K
            refine G_call (as := [vI x4, vI 0, vI (y43 - 1)]) (rest := []) rc_209_187 rfl rfl rfl (Nat.le_of_ble_eq_true rfl) rfl ?_
            refine GO.imp h (fun v I45 h => ?_)
            obtain ⟨y46, rfl, h⟩ := h
            show GO S0 209 190 [vR 237, vI x1, vI x2, vI x3, vI x4] [vI y46] I45 K
            refine G_i1 (C := y46 = 0) rc_209_190 rfl (fun c47 => ?_) (fun c47 => ?_)
            · rw [if_pos c47] at h
              show GO S0 209 209 [vR 237, vI x1, vI x2, vI x3, vI x4] [] I45 K
              refine G_const rc_209_209 (by decide) ?_
              exact G_retI rc_209_210 (Or.inr (by decide)) h
            · rw [if_neg c47] at h
              show GO S0 209 193 [vR 237, vI x1, vI x2, vI x3, vI x4] [] I45 K
              refine G_loadI rc_209_193 rfl ?_
              refine G_const rc_209_194 (by decide) ?_
              refine G_loadI rc_209_195 rfl ?_
              refine G_const rc_209_197 (by decide) ?_
              obtain ⟨c48, h⟩ := h
              refine G_bop (z := x4 - 1) rc_209_198 (if_pos c48) ?_
              show GO S0 209 199 [vR 237, vI x1, vI x2, vI x3, vI x4] [vI (x4 - 1), vI 0, vI x3] I45 K
              refine G_call (as := [vI x3, vI 0, vI (x4 - 1)]) (rest := []) rc_209_199 rfl rfl rfl (Nat.le_of_ble_eq_true rfl) rfl ?_
              refine GO.imp h (fun v I49 h => ?_)
              obtain ⟨y50, rfl, h⟩ := h
              show GO S0 209 202 [vR 237, vI x1, vI x2, vI x3, vI x4] [vI y50] I49 K
              refine G_i1 (C := y50 = 0) rc_209_202 rfl (fun c51 => ?_) (fun c51 => ?_)
              · rw [if_pos c51] at h
                show GO S0 209 209 [vR 237, vI x1, vI x2, vI x3, vI x4] [] I49 K
                refine G_const rc_209_209 (by decide) ?_
                exact G_retI rc_209_210 (Or.inr (by decide)) h
              · rw [if_neg c51] at h
                show GO S0 209 205 [vR 237, vI x1, vI x2, vI x3, vI x4] [] I49 K
                refine G_const rc_209_205 (by decide) ?_
                refine G_goto rc_209_206 ?_
                show GO S0 209 210 [vR 237, vI x1, vI x2, vI x3, vI x4] [vI 1] I49 K
                exact G_retI rc_209_210 (Or.inr (by decide)) h
        · rw [if_neg c38] at h
          rw [if_neg c38]
          show GO S0 209 211 [vR 237, vI x1, vI x2, vI x3, vI x4] [] I K
          refine G_const rc_209_211 (by decide) ?_
          exact G_retI rc_209_212 (Or.inr (by decide)) h
/-! 210: RoundSlackModel.isInRound(I)Z -/
def D210_0 (x1 : Int) (I : IM) (K : Option AV → IM → Prop) : Prop :=
  CALL S0 137 [vR 237, vI x1] I (fun v I1 => ∃ y2 : Int, v = some (vI y2) ∧ (if y2 = 0 then (K (some (vI 0)) I1) else (CALL S0 138 [vR 237, vI x1] I1 (fun v I4 => ∃ y5 : Int, v = some (vI y5) ∧ (if y5 = 0 then (K (some (vI 1)) I4) else (K (some (vI 0)) I4))))))
set_option maxRecDepth 10000 in
theorem g210_0 (x1 : Int) (I : IM) (K : Option AV → IM → Prop) (h : D210_0 x1 I K) : GO S0 210 0 [vR 237, vI x1] [] I K := by
  unfold D210_0 at h
  refine G_loadR rc_210_0 rfl ?_
  refine G_loadI rc_210_1 rfl ?_
  refine G_call (as := [vR 237, vI x1]) (rest := []) rc_210_2 rfl rfl rfl (Nat.le_of_ble_eq_true rfl) (g_recv s0_237 rfl) ?_
  refine GO.imp h (fun v I1 h => ?_)
  obtain ⟨y2, rfl, h⟩ := h
  show GO S0 210 5 [vR 237, vI x1] [vI y2] I1 K
  refine G_i1 (C := y2 = 0) rc_210_5 rfl (fun c3 => ?_) (fun c3 => ?_)
  · rw [if_pos c3] at h
    show GO S0 210 20 [vR 237, vI x1] [] I1 K
    refine G_const rc_210_20 (by decide) ?_
    exact G_retI rc_210_21 (Or.inr (by decide)) h
  · rw [if_neg c3] at h
    show GO S0 210 8 [vR 237, vI x1] [] I1 K
    refine G_loadR rc_210_8 rfl ?_
    refine G_loadI rc_210_9 rfl ?_
    refine G_call (as := [vR 237, vI x1]) (rest := []) rc_210_10 rfl rfl rfl (Nat.le_of_ble_eq_true rfl) (g_recv s0_237 rfl) ?_
    refine GO.imp h (fun v I4 h => ?_)
    obtain ⟨y5, rfl, h⟩ := h
    show GO S0 210 13 [vR 237, vI x1] [vI y5] I4 K
    refine G_i1 (C := ¬ y5 = 0) rc_210_13 rfl (fun c6 => ?_) (fun c6 => ?_)
    · rw [if_neg c6] at h
      show GO S0 210 20 [vR 237, vI x1] [] I4 K
      refine G_const rc_210_20 (by decide) ?_
      exact G_retI rc_210_21 (Or.inr (by decide)) h
    · rw [if_pos (Classical.not_not.mp c6)] at h
      show GO S0 210 16 [vR 237, vI x1] [] I4 K
      refine G_const rc_210_16 (by decide) ?_
      refine G_goto rc_210_17 ?_
      show GO S0 210 21 [vR 237, vI x1] [vI 1] I4 K
      exact G_retI rc_210_21 (Or.inr (by decide)) h
/-! 211: RoundSlackModel.mayBe(IIII)Z -/
def D211_0 (x1 : Int) (x2 : Int) (x3 : Int) (x4 : Int) (I : IM) (K : Option AV → IM → Prop) : Prop :=
  CALL S0 212 [vR 237, vI x1, vI x2, vI x3, vI x4] I (fun v I1 => v = none ∧ CALL S0 215 [vR 237] I1 (fun v I2 => ∃ y3 : Int, v = some (vI y3) ∧ (if y3 = 0 then (K (some (vI 0)) I2) else (CALL S0 158 [vR 237, vR 242] I2 (fun v I5 => ∃ y6 : Int, v = some (vI y6) ∧ (if y6 = 0 then (K (some (vI 0)) I5) else (K (some (vI 1)) I5)))))))
set_option maxRecDepth 10000 in
theorem g211_0 (x1 : Int) (x2 : Int) (x3 : Int) (x4 : Int) (I : IM) (K : Option AV → IM → Prop) (h : D211_0 x1 x2 x3 x4 I K) : GO S0 211 0 [vR 237, vI x1, vI x2, vI x3, vI x4] [] I K := by
  unfold D211_0 at h
  refine G_loadR rc_211_0 rfl ?_
  refine G_loadI rc_211_1 rfl ?_
  refine G_loadI rc_211_2 rfl ?_
  refine G_loadI rc_211_3 rfl ?_
  refine G_loadI rc_211_4 rfl ?_
  refine G_call (as := [vR 237, vI x1, vI x2, vI x3, vI x4]) (rest := []) rc_211_6 rfl rfl rfl (Nat.le_of_ble_eq_true rfl) (g_recv s0_237 rfl) ?_
  refine GO.imp h (fun v I1 h => ?_)
  obtain ⟨rfl, h⟩ := h
  show GO S0 211 9 [vR 237, vI x1, vI x2, vI x3, vI x4] [] I1 K
  refine G_loadR rc_211_9 rfl ?_
  refine G_call (as := [vR 237]) (rest := []) rc_211_10 rfl rfl rfl (Nat.le_of_ble_eq_true rfl) (g_recv s0_237 rfl) ?_
  refine GO.imp h (fun v I2 h => ?_)
  obtain ⟨y3, rfl, h⟩ := h
  show GO S0 211 13 [vR 237, vI x1, vI x2, vI x3, vI x4] [vI y3] I2 K
  refine G_i1 (C := y3 = 0) rc_211_13 rfl (fun c4 => ?_) (fun c4 => ?_)
  · rw [if_pos c4] at h
    show GO S0 211 31 [vR 237, vI x1, vI x2, vI x3, vI x4] [] I2 K
    refine G_const rc_211_31 (by decide) ?_
    exact G_retI rc_211_32 (Or.inr (by decide)) h
  · rw [if_neg c4] at h
    show GO S0 211 16 [vR 237, vI x1, vI x2, vI x3, vI x4] [] I2 K
    refine G_loadR rc_211_16 rfl ?_
    refine G_loadR rc_211_17 rfl ?_
    refine G_getR rc_211_18 s0_237 (by decide) rfl (by decide) ?_
    show GO S0 211 21 [vR 237, vI x1, vI x2, vI x3, vI x4] [vR 242, vR 237] I2 K
    refine G_call (as := [vR 237, vR 242]) (rest := []) rc_211_21 rfl rfl rfl (Nat.le_of_ble_eq_true rfl) (g_recv s0_237 rfl) ?_
    refine GO.imp h (fun v I5 h => ?_)
    obtain ⟨y6, rfl, h⟩ := h
    show GO S0 211 24 [vR 237, vI x1, vI x2, vI x3, vI x4] [vI y6] I5 K
    refine G_i1 (C := y6 = 0) rc_211_24 rfl (fun c7 => ?_) (fun c7 => ?_)
    · rw [if_pos c7] at h
      show GO S0 211 31 [vR 237, vI x1, vI x2, vI x3, vI x4] [] I5 K
      refine G_const rc_211_31 (by decide) ?_
      exact G_retI rc_211_32 (Or.inr (by decide)) h
    · rw [if_neg c7] at h
      show GO S0 211 27 [vR 237, vI x1, vI x2, vI x3, vI x4] [] I5 K
      refine G_const rc_211_27 (by decide) ?_
      refine G_goto rc_211_28 ?_
      show GO S0 211 32 [vR 237, vI x1, vI x2, vI x3, vI x4] [vI 1] I5 K
      exact G_retI rc_211_32 (Or.inr (by decide)) h
/-! 212: RoundSlackModel.makes(IIII)V -/
def D212_0 (x1 : Int) (x2 : Int) (x3 : Int) (x4 : Int) (I : IM) (K : Option AV → IM → Prop) : Prop :=
  CALL S0 201 [vR 237] I (fun v I1 => v = none ∧ (if x1 = 0 then (CALL S0 139 [vR 237, vI x2] I1 (fun v I3 => ∃ y4 : Int, v = some (vI y4) ∧ CALL S0 177 [vR 237, vI x2] I3 (fun v I5 => ∃ y6 : Int, v = some (vI y6) ∧ CALL S0 207 [vR 242, vI y4, vI y6] I5 (fun v I7 => v = none ∧ CALL S0 157 [vR 242, vI x3, vI x4, vI x2] I7 (fun v I8 => v = none ∧ K none I8))))) else (if x1 = 1 then (CALL S0 139 [vR 237, vI x2] I1 (fun v I10 => ∃ y11 : Int, v = some (vI y11) ∧ (inR (13 * y11)) ∧ (inR ((13 * y11) + 1)) ∧ CALL S0 177 [vR 237, vI x2] I10 (fun v I14 => ∃ y15 : Int, v = some (vI y15) ∧ (inR (((13 * y11) + 1) + y15)) ∧ (0 ≤ ((13 * y11) + 1) + y15 ∧ ((13 * y11) + 1) + y15 < 52) ∧ ∀ I18 : IM, I18 = iup I14 242 (((13 * y11) + 1) + y15).toNat x3 → CALL S0 139 [vR 237, vI x3] I18 (fun v I19 => ∃ y20 : Int, v = some (vI y20) ∧ (inR (13 * y20)) ∧ (inR ((13 * y20) + 1)) ∧ CALL S0 177 [vR 237, vI x3] I19 (fun v I23 => ∃ y24 : Int, v = some (vI y24) ∧ (inR (((13 * y20) + 1) + y24)) ∧ (0 ≤ ((13 * y20) + 1) + y24 ∧ ((13 * y20) + 1) + y24 < 52) ∧ ∀ I27 : IM, I27 = iup I23 242 (((13 * y20) + 1) + y24).toNat x2 → K none I27))))) else (if x1 = 2 then ((inR (Int.tdiv x4 16)) ∧ CALL S0 213 [vR 237, vI x2, vI x3, vI (Int.tmod x4 16), vI (Int.tdiv x4 16)] I1 (fun v I30 => v = none ∧ K none I30)) else (CALL S0 214 [vR 237, vI x2, vI x3, vI x4] I1 (fun v I31 => v = none ∧ K none I31))))))
set_option maxRecDepth 10000 in
theorem g212_0 (x1 : Int) (x2 : Int) (x3 : Int) (x4 : Int) (I : IM) (K : Option AV → IM → Prop) (h : D212_0 x1 x2 x3 x4 I K) : GO S0 212 0 [vR 237, vI x1, vI x2, vI x3, vI x4] [] I K := by
  unfold D212_0 at h
  refine G_loadR rc_212_0 rfl ?_
  refine G_call (as := [vR 237]) (rest := []) rc_212_1 rfl rfl rfl (Nat.le_of_ble_eq_true rfl) (g_recv s0_237 rfl) ?_
  refine GO.imp h (fun v I1 h => ?_)
  obtain ⟨rfl, h⟩ := h
  show GO S0 212 4 [vR 237, vI x1, vI x2, vI x3, vI x4] [] I1 K
  refine G_loadI rc_212_4 rfl ?_
  refine G_switch rc_212_5 ?_
  show GO S0 212 (if x1 = 0 then 32 else if x1 = 1 then 63 else if x1 = 2 then 110 else 129) [vR 237, vI x1, vI x2, vI x3, vI x4] [] I1 K
  by_cases c2 : x1 = 0
  · rw [if_pos c2] at h
    rw [if_pos c2]
    show GO S0 212 32 [vR 237, vI x1, vI x2, vI x3, vI x4] [] I1 K
    refine G_loadR rc_212_32 rfl ?_
    refine G_getR rc_212_33 s0_237 (by decide) rfl (by decide) ?_
    show GO S0 212 36 [vR 237, vI x1, vI x2, vI x3, vI x4] [vR 242] I1 K
    refine G_loadR rc_212_36 rfl ?_
    refine G_loadI rc_212_37 rfl ?_
    refine G_call (as := [vR 237, vI x2]) (rest := [vR 242]) rc_212_38 rfl rfl rfl (Nat.le_of_ble_eq_true rfl) (g_recv s0_237 rfl) ?_
    refine GO.imp h (fun v I3 h => ?_)
    obtain ⟨y4, rfl, h⟩ := h
    show GO S0 212 41 [vR 237, vI x1, vI x2, vI x3, vI x4] [vI y4, vR 242] I3 K
    refine G_loadR rc_212_41 rfl ?_
    refine G_loadI rc_212_42 rfl ?_
    refine G_call (as := [vR 237, vI x2]) (rest := [vI y4, vR 242]) rc_212_43 rfl rfl rfl (Nat.le_of_ble_eq_true rfl) (g_recv s0_237 rfl) ?_
    refine GO.imp h (fun v I5 h => ?_)
    obtain ⟨y6, rfl, h⟩ := h
    show GO S0 212 46 [vR 237, vI x1, vI x2, vI x3, vI x4] [vI y6, vI y4, vR 242] I5 K
    refine G_call (as := [vR 242, vI y4, vI y6]) (rest := []) rc_212_46 rfl rfl rfl (Nat.le_of_ble_eq_true rfl) rfl ?_
    refine GO.imp h (fun v I7 h => ?_)
    obtain ⟨rfl, h⟩ := h
    show GO S0 212 49 [vR 237, vI x1, vI x2, vI x3, vI x4] [] I7 K
    refine G_loadR rc_212_49 rfl ?_
    refine G_getR rc_212_50 s0_237 (by decide) rfl (by decide) ?_
    show GO S0 212 53 [vR 237, vI x1, vI x2, vI x3, vI x4] [vR 242] I7 K
    refine G_loadI rc_212_53 rfl ?_
    refine G_loadI rc_212_54 rfl ?_
    refine G_loadI rc_212_56 rfl ?_
    refine G_call (as := [vR 242, vI x3, vI x4, vI x2]) (rest := []) rc_212_57 rfl rfl rfl (Nat.le_of_ble_eq_true rfl) rfl ?_
    refine GO.imp h (fun v I8 h => ?_)
    obtain ⟨rfl, h⟩ := h
    show GO S0 212 60 [vR 237, vI x1, vI x2, vI x3, vI x4] [] I8 K
    refine G_goto rc_212_60 ?_
    show GO S0 212 137 [vR 237, vI x1, vI x2, vI x3, vI x4] [] I8 K
    exact G_ret0 rc_212_137 h
  · rw [if_neg c2] at h
    rw [if_neg c2]
    by_cases c9 : x1 = 1
    · rw [if_pos c9] at h
      rw [if_pos c9]
      show GO S0 212 63 [vR 237, vI x1, vI x2, vI x3, vI x4] [] I1 K
      refine G_loadR rc_212_63 rfl ?_
      refine G_getR rc_212_64 s0_237 (by decide) rfl (by decide) ?_
      show GO S0 212 67 [vR 237, vI x1, vI x2, vI x3, vI x4] [vR 242] I1 K
      refine G_const rc_212_67 (by decide) ?_
      refine G_loadR rc_212_69 rfl ?_
      refine G_loadI rc_212_70 rfl ?_
      refine G_call (as := [vR 237, vI x2]) (rest := [vI 13, vR 242]) rc_212_71 rfl rfl rfl (Nat.le_of_ble_eq_true rfl) (g_recv s0_237 rfl) ?_
      refine GO.imp h (fun v I10 h => ?_)
      obtain ⟨y11, rfl, h⟩ := h
      show GO S0 212 74 [vR 237, vI x1, vI x2, vI x3, vI x4] [vI y11, vI 13, vR 242] I10 K
      obtain ⟨c12, h⟩ := h
      refine G_bop (z := 13 * y11) rc_212_74 (if_pos c12) ?_
      show GO S0 212 75 [vR 237, vI x1, vI x2, vI x3, vI x4] [vI (13 * y11), vR 242] I10 K
      refine G_const rc_212_75 (by decide) ?_
      obtain ⟨c13, h⟩ := h
      refine G_bop (z := (13 * y11) + 1) rc_212_76 (if_pos c13) ?_
      show GO S0 212 77 [vR 237, vI x1, vI x2, vI x3, vI x4] [vI ((13 * y11) + 1), vR 242] I10 K
      refine G_loadR rc_212_77 rfl ?_
      refine G_loadI rc_212_78 rfl ?_
      refine G_call (as := [vR 237, vI x2]) (rest := [vI ((13 * y11) + 1), vR 242]) rc_212_79 rfl rfl rfl (Nat.le_of_ble_eq_true rfl) (g_recv s0_237 rfl) ?_
      refine GO.imp h (fun v I14 h => ?_)
      obtain ⟨y15, rfl, h⟩ := h
      show GO S0 212 82 [vR 237, vI x1, vI x2, vI x3, vI x4] [vI y15, vI ((13 * y11) + 1), vR 242] I14 K
      obtain ⟨c16, h⟩ := h
      refine G_bop (z := ((13 * y11) + 1) + y15) rc_212_82 (if_pos c16) ?_
      show GO S0 212 83 [vR 237, vI x1, vI x2, vI x3, vI x4] [vI (((13 * y11) + 1) + y15), vR 242] I14 K
      refine G_loadI rc_212_83 rfl ?_
      obtain ⟨c17, h⟩ := h
      refine G_ast rc_212_84 s0_242 (by omega) (by omega) (Or.inl rfl) ?_
      show GO S0 212 85 [vR 237, vI x1, vI x2, vI x3, vI x4] [] (iup I14 242 (((13 * y11) + 1) + y15).toNat x3) K
      have h := h _ rfl
      generalize iup I14 242 (((13 * y11) + 1) + y15).toNat x3 = I18 at h ⊢
      refine G_loadR rc_212_85 rfl ?_
      refine G_getR rc_212_86 s0_237 (by decide) rfl (by decide) ?_
      show GO S0 212 89 [vR 237, vI x1, vI x2, vI x3, vI x4] [vR 242] I18 K
      refine G_const rc_212_89 (by decide) ?_
      refine G_loadR rc_212_91 rfl ?_
      refine G_loadI rc_212_92 rfl ?_
      refine G_call (as := [vR 237, vI x3]) (rest := [vI 13, vR 242]) rc_212_93 rfl rfl rfl (Nat.le_of_ble_eq_true rfl) (g_recv s0_237 rfl) ?_
      refine GO.imp h (fun v I19 h => ?_)
      obtain ⟨y20, rfl, h⟩ := h
      show GO S0 212 96 [vR 237, vI x1, vI x2, vI x3, vI x4] [vI y20, vI 13, vR 242] I19 K
      obtain ⟨c21, h⟩ := h
      refine G_bop (z := 13 * y20) rc_212_96 (if_pos c21) ?_
      show GO S0 212 97 [vR 237, vI x1, vI x2, vI x3, vI x4] [vI (13 * y20), vR 242] I19 K
      refine G_const rc_212_97 (by decide) ?_
      obtain ⟨c22, h⟩ := h
      refine G_bop (z := (13 * y20) + 1) rc_212_98 (if_pos c22) ?_
      show GO S0 212 99 [vR 237, vI x1, vI x2, vI x3, vI x4] [vI ((13 * y20) + 1), vR 242] I19 K
      refine G_loadR rc_212_99 rfl ?_
      refine G_loadI rc_212_100 rfl ?_
      refine G_call (as := [vR 237, vI x3]) (rest := [vI ((13 * y20) + 1), vR 242]) rc_212_101 rfl rfl rfl (Nat.le_of_ble_eq_true rfl) (g_recv s0_237 rfl) ?_
      refine GO.imp h (fun v I23 h => ?_)
      obtain ⟨y24, rfl, h⟩ := h
      show GO S0 212 104 [vR 237, vI x1, vI x2, vI x3, vI x4] [vI y24, vI ((13 * y20) + 1), vR 242] I23 K
      obtain ⟨c25, h⟩ := h
      refine G_bop (z := ((13 * y20) + 1) + y24) rc_212_104 (if_pos c25) ?_
      show GO S0 212 105 [vR 237, vI x1, vI x2, vI x3, vI x4] [vI (((13 * y20) + 1) + y24), vR 242] I23 K
      refine G_loadI rc_212_105 rfl ?_
      obtain ⟨c26, h⟩ := h
      refine G_ast rc_212_106 s0_242 (by omega) (by omega) (Or.inl rfl) ?_
      show GO S0 212 107 [vR 237, vI x1, vI x2, vI x3, vI x4] [] (iup I23 242 (((13 * y20) + 1) + y24).toNat x2) K
      have h := h _ rfl
      generalize iup I23 242 (((13 * y20) + 1) + y24).toNat x2 = I27 at h ⊢
      refine G_goto rc_212_107 ?_
      show GO S0 212 137 [vR 237, vI x1, vI x2, vI x3, vI x4] [] I27 K
      exact G_ret0 rc_212_137 h
    · rw [if_neg c9] at h
      rw [if_neg c9]
      by_cases c28 : x1 = 2
      · rw [if_pos c28] at h
        rw [if_pos c28]
        show GO S0 212 110 [vR 237, vI x1, vI x2, vI x3, vI x4] [] I1 K
        refine G_loadR rc_212_110 rfl ?_
        refine G_loadI rc_212_111 rfl ?_
        refine G_loadI rc_212_112 rfl ?_
        refine G_loadI rc_212_113 rfl ?_
        refine G_const rc_212_115 (by decide) ?_
        obtain ⟨c29, h⟩ := h
        refine G_bop (z := Int.tmod x4 16) rc_212_117 (show (if (16 : Int) ≠ 0 ∧ inR (Int.tdiv x4 16) then some (Int.tmod x4 16) else none) = some (Int.tmod x4 16) from if_pos ⟨by decide, c29⟩) ?_
        show GO S0 212 118 [vR 237, vI x1, vI x2, vI x3, vI x4] [vI (Int.tmod x4 16), vI x3, vI x2, vR 237] I1 K
        refine G_loadI rc_212_118 rfl ?_
        refine G_const rc_212_120 (by decide) ?_
        refine G_bop (z := Int.tdiv x4 16) rc_212_122 (show (if (16 : Int) ≠ 0 ∧ inR (Int.tdiv x4 16) then some (Int.tdiv x4 16) else none) = some (Int.tdiv x4 16) from if_pos ⟨by decide, c29⟩) ?_
        show GO S0 212 123 [vR 237, vI x1, vI x2, vI x3, vI x4] [vI (Int.tdiv x4 16), vI (Int.tmod x4 16), vI x3, vI x2, vR 237] I1 K
        refine G_call (as := [vR 237, vI x2, vI x3, vI (Int.tmod x4 16), vI (Int.tdiv x4 16)]) (rest := []) rc_212_123 rfl rfl rfl (Nat.le_of_ble_eq_true rfl) (g_recv s0_237 rfl) ?_
        refine GO.imp h (fun v I30 h => ?_)
        obtain ⟨rfl, h⟩ := h
        show GO S0 212 126 [vR 237, vI x1, vI x2, vI x3, vI x4] [] I30 K
        refine G_goto rc_212_126 ?_
        show GO S0 212 137 [vR 237, vI x1, vI x2, vI x3, vI x4] [] I30 K
        exact G_ret0 rc_212_137 h
      · rw [if_neg c28] at h
        rw [if_neg c28]
        show GO S0 212 129 [vR 237, vI x1, vI x2, vI x3, vI x4] [] I1 K
        refine G_loadR rc_212_129 rfl ?_
        refine G_loadI rc_212_130 rfl ?_
        refine G_loadI rc_212_131 rfl ?_
        refine G_loadI rc_212_132 rfl ?_
        refine G_call (as := [vR 237, vI x2, vI x3, vI x4]) (rest := []) rc_212_134 rfl rfl rfl (Nat.le_of_ble_eq_true rfl) (g_recv s0_237 rfl) ?_
        refine GO.imp h (fun v I31 h => ?_)
        obtain ⟨rfl, h⟩ := h
        show GO S0 212 137 [vR 237, vI x1, vI x2, vI x3, vI x4] [] I31 K
        exact G_ret0 rc_212_137 h
