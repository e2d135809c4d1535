/-! level 2: the model's and the class' leaves -/
theorem call_imp {S : List AO} {mid : Nat} {as : List AV} {I : IM} {K K' : Option AV → IM → Prop} (h : CALL S mid as I K) (hK : ∀ v I', K v I' → K' v I') : CALL S mid as I K' := GO.imp h hK
theorem iup_same {I : IM} {o k : Nat} {x : Int} : iup I o k x o k = x := if_pos ⟨rfl, rfl⟩
theorem iup_ne {I : IM} {o k o' k' : Nat} {x : Int} (h : o' ≠ o ∨ k' ≠ k) : iup I o k x o' k' = I o' k' := if_neg (fun z => h.elim (fun y => y z.1) (fun y => y z.2))
def b2i (p : Prop) [Decidable p] : Int := if p then 1 else 0
theorem b2i_0 {p : Prop} [Decidable p] : b2i p = 0 ↔ ¬ p := by unfold b2i; split <;> simp [*]
theorem b2i_1 {p : Prop} [Decidable p] : b2i p = 1 ↔ p := by unfold b2i; split <;> simp [*]
theorem b2i_01 {p : Prop} [Decidable p] : b2i p = 0 ∨ b2i p = 1 := by unfold b2i; split <;> simp
theorem m_isIn {x0 x1 x2 : Int} {I : IM} {K : Option AV → IM → Prop} (h : K (some (vI (b2i (x1 ≤ x0 ∧ x0 ≤ x2)))) I) : CALL S0 130 [vI x0, vI x1, vI x2] I K := by
  refine e130 ?_
  unfold D130_0
  unfold b2i at h
  split
  · rw [if_neg (by omega)] at h; exact h
  · split
    · rw [if_neg (by omega)] at h; exact h
    · rw [if_pos (by omega)] at h; exact h
theorem k_within {x0 x1 x2 : Int} {I : IM} {K : Option AV → IM → Prop} (h : K (some (vI (b2i (x1 ≤ x0 ∧ x0 ≤ x2)))) I) : CALL S0 14 [vI x0, vI x1, vI x2] I K := by
  refine e14 ?_
  unfold D14_0
  unfold b2i at h
  split
  · rw [if_neg (by omega)] at h; exact h
  · split
    · rw [if_neg (by omega)] at h; exact h
    · rw [if_pos (by omega)] at h; exact h
theorem m_isVan {x0 : Int} {I : IM} {K : Option AV → IM → Prop} (h : K (some (vI (b2i (0 ≤ x0 ∧ x0 ≤ 3)))) I) : CALL S0 142 [vI x0] I K := by
  refine e142 ?_
  unfold D142_0
  exact m_isIn ⟨_, rfl, b2i_01, h⟩
theorem m_isRow {x0 : Int} {I : IM} {K : Option AV → IM → Prop} (h : K (some (vI (b2i (0 ≤ x0 ∧ x0 ≤ 3)))) I) : CALL S0 243 [vI x0] I K := by
  refine e243 ?_
  unfold D243_0
  exact m_isIn ⟨_, rfl, b2i_01, h⟩
theorem k_isVan {x0 : Int} {I : IM} {K : Option AV → IM → Prop} (h : K (some (vI (b2i (0 ≤ x0 ∧ x0 ≤ 3)))) I) : CALL S0 24 [vI x0] I K := by
  refine e24 ?_
  unfold D24_0
  unfold b2i at h
  split
  · rw [if_neg (by omega)] at h; exact h
  · split
    · rw [if_neg (by omega)] at h; exact h
    · rw [if_pos (by omega)] at h; exact h
theorem k_isRow {x0 : Int} {I : IM} {K : Option AV → IM → Prop} (h : K (some (vI (b2i (0 ≤ x0 ∧ x0 ≤ 3)))) I) : CALL S0 117 [vI x0] I K := by
  refine e117 ?_
  unfold D117_0
  unfold b2i at h
  split
  · rw [if_neg (by omega)] at h; exact h
  · split
    · rw [if_neg (by omega)] at h; exact h
    · rw [if_pos (by omega)] at h; exact h
theorem k_orLacking {x0 : Int} {I : IM} {K : Option AV → IM → Prop} (h : K (some (vI (if x0 = -1 then -5 else x0))) I) : CALL S0 59 [vI x0] I K := by
  refine e59 ?_
  unfold D59_0
  split
  · rename_i c; rw [if_pos c] at h; exact h
  · rename_i c; rw [if_neg c] at h; exact h
theorem m_isOrder {x1 : Int} {I : IM} {K : Option AV → IM → Prop} (hn : 0 ≤ I 238 5 ∧ I 238 5 ≤ 12) (h : K (some (vI (b2i (0 ≤ x1 ∧ x1 < I 238 5)))) I) : CALL S0 137 [vR 237, vI x1] I K := by
  refine e137 ?_
  unfold D137_0
  refine ⟨by unfold inR; omega, m_isIn ⟨_, rfl, b2i_01, ?_⟩⟩
  have e : b2i (0 ≤ x1 ∧ x1 ≤ I 238 5 - 1) = b2i (0 ≤ x1 ∧ x1 < I 238 5) := by
    unfold b2i
    by_cases c : 0 ≤ x1 ∧ x1 < I 238 5
    · rw [if_pos c, if_pos (by omega)]
    · rw [if_neg c, if_neg (by omega)]
  rw [e]
  exact h
theorem k_isOrder {x1 : Int} {I : IM} {K : Option AV → IM → Prop} (h : K (some (vI (b2i (0 ≤ x1 ∧ x1 < I 1 0)))) I) : CALL S0 21 [vR 0, vI x1] I K := by
  refine e21 ?_
  unfold D21_0
  unfold b2i at h
  split
  · rw [if_neg (by omega)] at h; exact h
  · split
    · rw [if_neg (by omega)] at h; exact h
    · rw [if_pos (by omega)] at h; exact h
theorem m_ofOrder {x1 x2 : Int} {I : IM} {K : Option AV → IM → Prop} (h1 : 0 ≤ x1 ∧ x1 < 12) (h2 : 0 ≤ x2 ∧ x2 < 8) (h : K (some (vI (I 238 (6 + 8 * x1.toNat + x2.toNat)))) I) : CALL S0 140 [vR 237, vI x1, vI x2] I K := by
  refine e140 ?_
  unfold D140_0 inR
  refine ⟨by omega, by omega, by omega, by omega, ?_⟩
  rw [show (6 + 8 * x1 + x2).toNat = 6 + 8 * x1.toNat + x2.toNat by omega]
  exact h
theorem m_stopsOf {x1 : Int} {I : IM} {K : Option AV → IM → Prop} (h1 : 0 ≤ x1 ∧ x1 < 4) (h : K (some (vI (I 238 (114 + 13 * x1.toNat)))) I) : CALL S0 132 [vR 237, vI x1] I K := by
  refine e132 ?_
  unfold D132_0 inR
  refine ⟨by omega, by omega, by omega, ?_⟩
  rw [show (114 + 13 * x1).toNat = 114 + 13 * x1.toNat by omega]
  exact h
theorem m_sizeOf {q : Nat} {x2 : Int} {I : IM} {K : Option AV → IM → Prop} (hq : S0[q]? = some (100, 52, [])) (h1 : 0 ≤ x2 ∧ x2 < 4) (h : K (some (vI (I q (13 * x2.toNat)))) I) : CALL S0 156 [vR 237, vR q, vI x2] I K := by
  refine e156 hq ?_
  unfold D156_0 inR
  refine ⟨by omega, by omega, ?_⟩
  rw [show (13 * x2).toNat = 13 * x2.toNat by omega]
  exact h
theorem m_at {q : Nat} {x2 x3 : Int} {I : IM} {K : Option AV → IM → Prop} (hq : S0[q]? = some (100, 52, [])) (h1 : 0 ≤ x2 ∧ x2 < 4) (h2 : 0 ≤ x3 ∧ x3 < 12) (h : K (some (vI (I q (13 * x2.toNat + 1 + x3.toNat)))) I) : CALL S0 162 [vR 237, vR q, vI x2, vI x3] I K := by
  refine e162 hq ?_
  unfold D162_0 inR
  refine ⟨by omega, by omega, by omega, by omega, ?_⟩
  rw [show (13 * x2 + 1 + x3).toNat = 13 * x2.toNat + 1 + x3.toNat by omega]
  exact h
/-- I' is I, but in the object d the n places from dp on are those of the object c from sp on -/
def cpd (I : IM) (c sp d dp n : Nat) : IM := fun o k => if o = d ∧ dp ≤ k ∧ k < dp + n then I c (sp + (k - dp)) else I o k
theorem cpd_0 {I : IM} {c sp d dp : Nat} : cpd I c sp d dp 0 = I := by
  funext o k
  exact if_neg (by omega)
theorem cpd_s {I : IM} {c sp d dp n : Nat} (hcd : c ≠ d) : iup (cpd I c sp d dp n) d (dp + n) (I c (sp + n)) = cpd I c sp d dp (n + 1) := by
  funext o k
  unfold iup cpd
  by_cases h1 : o = d ∧ k = dp + n
  · rw [if_pos h1, if_pos (by omega), show sp + (k - dp) = sp + n by omega]
  · rw [if_neg h1]
    by_cases h2 : o = d ∧ dp ≤ k ∧ k < dp + n
    · rw [if_pos h2, if_pos (by omega)]
    · rw [if_neg h2, if_neg (by omega)]
theorem cpd_c {I : IM} {c sp d dp n k : Nat} (hcd : c ≠ d) : cpd I c sp d dp n c k = I c k := if_neg (fun z => hcd z.1)
theorem m_looks {I : IM} {K : Option AV → IM → Prop} (h : K none (cpd I 238 114 241 0 52)) : CALL S0 183 [vR 237] I K := by
  refine e183 ?_
  unfold D183_0
  have key : ∀ n : Nat, n ≤ 52 → GO S0 183 2 [vR 237, vI ((52 - n : Nat) : Int)] [] (cpd I 238 114 241 0 (52 - n)) K := by
    intro n
    induction n with
    | zero =>
      intro _
      refine g183_2 _ _ K ?_
      unfold D183_2
      rw [if_pos (by omega)]
      exact h
    | succ n ih =>
      intro hn
      refine g183_2 _ _ K ?_
      unfold D183_2 inR
      rw [if_neg (by omega)]
      refine ⟨by omega, by omega, by omega, fun I5 e5 => ⟨by omega, ?_⟩⟩
      have e1 : I5 = cpd I 238 114 241 0 (52 - n) := by
        rw [e5, show (114 + ((52 - (n + 1) : Nat) : Int)).toNat = 114 + (52 - (n + 1)) by omega, show (((52 - (n + 1) : Nat) : Int)).toNat = 0 + (52 - (n + 1)) by omega, cpd_c (by decide), cpd_s (by decide), show 52 - (n + 1) + 1 = 52 - n by omega]
      rw [e1, show ((52 - (n + 1) : Nat) : Int) + 1 = ((52 - n : Nat) : Int) by omega]
      exact ih (by omega)
  have := key 52 (Nat.le_refl _)
  rw [show 52 - 52 = 0 from rfl, cpd_0] at this
  exact this
