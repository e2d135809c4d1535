/-! level 2: the class' piece grows -/
/-- I' is I but for the piece -/
def FP (I I' : IM) : Prop := ∀ o k, o ≠ 192 → I' o k = I o k
theorem FP_up {I I' : IM} {k : Nat} {x : Int} (h : FP I I') : FP I (iup I' 192 k x) := fun o' k' a => by
  rw [iup_ne (Or.inl a)]
  exact h o' k' a
theorem FP_o {I I' : IM} (h : FP I I') {o : Nat} (h1 : o ≠ 192) : I' o = I o := funext fun k => h o k h1
theorem FP_refl {I : IM} : FP I I := fun _ _ _ => rfl
theorem FP_trans {I I' I'' : IM} (h : FP I I') (h' : FP I' I'') : FP I I'' := fun o k a => (h' o k a).trans (h o k a)
def bd (x : Int) : Prop := -1000000 ≤ x ∧ x ≤ 1000000
theorem k_goOn {x1 x2 : Int} {I : IM} {K : Option AV → IM → Prop} (hx : 0 ≤ x1 ∧ x1 < 13) (hp : 0 ≤ I 192 1 ∧ I 192 1 < 13) (hb : bd (I 192 2) ∧ bd (I 192 3) ∧ bd (I 192 4) ∧ bd (I 192 5) ∧ bd (I 192 6) ∧ bd (I 192 7) ∧ bd (I 192 8)) (ht : bd (I (11 + (I 192 1).toNat) x1.toNat) ∧ bd (I 4 x1.toNat) ∧ bd (I 6 x1.toNat) ∧ bd (I 7 x1.toNat) ∧ bd (I 8 x1.toNat) ∧ bd x2)
    (h : ∀ I', FP I I' → I' 192 1 = x1 → I' 192 9 = (if I 192 2 + (I 192 6 + I (11 + (I 192 1).toNat) x1.toNat) ≤ x2 then I 192 9 else 0) →
      ((0 < I 4 x1.toNat - (I 192 6 + I (11 + (I 192 1).toNat) x1.toNat) - I 192 3 ∧ I' 192 2 = I 192 3 ∧ I' 192 3 = I 192 3 ∧ I' 192 6 = I 4 x1.toNat - I 192 3 + I 6 x1.toNat) ∨
       (I 4 x1.toNat - (I 192 6 + I (11 + (I 192 1).toNat) x1.toNat) - I 192 3 ≤ 0 ∧
        ((I 4 x1.toNat - (I 192 6 + I (11 + (I 192 1).toNat) x1.toNat) ≤ I 192 2 ∧ I' 192 2 = I 192 2) ∨ (I 192 2 < I 4 x1.toNat - (I 192 6 + I (11 + (I 192 1).toNat) x1.toNat) ∧ I' 192 2 = I 4 x1.toNat - (I 192 6 + I (11 + (I 192 1).toNat) x1.toNat))) ∧
        ((I 192 3 ≤ x2 - (I 192 6 + I (11 + (I 192 1).toNat) x1.toNat) ∧ I' 192 3 = I 192 3) ∨ (x2 - (I 192 6 + I (11 + (I 192 1).toNat) x1.toNat) < I 192 3 ∧ I' 192 3 = x2 - (I 192 6 + I (11 + (I 192 1).toNat) x1.toNat))) ∧
        I' 192 6 = I 192 6 + I (11 + (I 192 1).toNat) x1.toNat + I 6 x1.toNat)) →
      I' 192 7 = I 192 7 + I (11 + (I 192 1).toNat) x1.toNat → I' 192 4 = I 192 4 + I 7 x1.toNat → I' 192 5 = I 192 5 + I 8 x1.toNat →
      ((I' 192 8 = I 192 8 + I 7 x1.toNat ∨ I' 192 8 = I 192 5 + I 7 x1.toNat ∨ I' 192 8 = I 192 5 + I 8 x1.toNat) ∧ I 192 8 + I 7 x1.toNat ≤ I' 192 8 ∧ I 192 5 + I 7 x1.toNat ≤ I' 192 8 ∧ I 192 5 + I 8 x1.toNat ≤ I' 192 8) → K none I') : CALL S0 50 [vR 192, vI x1, vI x2] I K := by
  refine e50 ?_
  unfold bd at hb ht
  generalize hW : I (11 + (I 192 1).toNat) x1.toNat = W at h ht
  generalize hO : I 4 x1.toNat = O at h ht
  generalize hS : I 6 x1.toNat = Sv at h ht
  generalize hDn : I 7 x1.toNat = Dn at h ht
  generalize hUp : I 8 x1.toNat = Up at h ht
  -- the end
  have d244 : ∀ (J : IM) (x8 x9 x10 t1 : Int), FP I J → J 192 9 = (if I 192 2 + (I 192 6 + W) ≤ x2 then I 192 9 else 0) → J 192 7 = I 192 7 + W → J 192 4 = I 192 4 → J 192 5 = I 192 5 →
      ((0 < O - (I 192 6 + W) - I 192 3 ∧ J 192 2 = I 192 3 ∧ J 192 3 = I 192 3 ∧ J 192 6 = O - I 192 3 + Sv) ∨
       (O - (I 192 6 + W) - I 192 3 ≤ 0 ∧ ((O - (I 192 6 + W) ≤ I 192 2 ∧ J 192 2 = I 192 2) ∨ (I 192 2 < O - (I 192 6 + W) ∧ J 192 2 = O - (I 192 6 + W))) ∧ ((I 192 3 ≤ x2 - (I 192 6 + W) ∧ J 192 3 = I 192 3) ∨ (x2 - (I 192 6 + W) < I 192 3 ∧ J 192 3 = x2 - (I 192 6 + W))) ∧ J 192 6 = I 192 6 + W + Sv)) →
      ((t1 = I 192 8 + Dn ∨ t1 = I 192 5 + Dn ∨ t1 = I 192 5 + Up) ∧ I 192 8 + Dn ≤ t1 ∧ I 192 5 + Dn ≤ t1 ∧ I 192 5 + Up ≤ t1) → D50_244 x1 x2 W O Dn Up (I 192 6 + W) x8 x9 x10 t1 J K := by
    intro J x8 x9 x10 t1 f j9 j7 j4 j5 j6 ht1
    unfold D50_244 inR
    intro I1 e1
    have a4 : I1 192 4 = I 192 4 := by rw [e1]; simp [iup, j4]
    rw [a4]
    refine ⟨by omega, fun I3 e3 => ?_⟩
    have a5 : I3 192 5 = I 192 5 := by rw [e3, e1]; simp [iup, j5]
    rw [a5]
    refine ⟨by omega, fun I5 e5 I6 e6 => ?_⟩
    have z : ∀ k, k ≠ 8 → k ≠ 4 → k ≠ 5 → k ≠ 1 → I6 192 k = J 192 k := fun k h8 h4 h5 h1 => by rw [e6, e5, e3, e1, iup_ne (Or.inr h1), iup_ne (Or.inr h5), iup_ne (Or.inr h4), iup_ne (Or.inr h8)]
    have z2 := z 2 (by decide) (by decide) (by decide) (by decide)
    have z3 := z 3 (by decide) (by decide) (by decide) (by decide)
    have z6 := z 6 (by decide) (by decide) (by decide) (by decide)
    have z7 := z 7 (by decide) (by decide) (by decide) (by decide)
    have z9 := z 9 (by decide) (by decide) (by decide) (by decide)
    have z8 : I6 192 8 = t1 := by rw [e6, e5, e3, e1]; simp [iup]
    refine h I6 (by rw [e6, e5, e3, e1]; exact FP_up (FP_up (FP_up (FP_up f)))) (by rw [e6, iup_same]) (by rw [z9, j9]) ?_ (by rw [z7, j7]) (by rw [e6, e5, e3]; simp [iup]) (by rw [e6, e5]; simp [iup]) (by rw [z8]; exact ht1)
    rw [z2, z3, z6]
    exact j6
  have d189 : ∀ (J : IM) (x8 : Int) (u9 u10 : AV), FP I J → J 192 9 = (if I 192 2 + (I 192 6 + W) ≤ x2 then I 192 9 else 0) → J 192 7 = I 192 7 → J 192 4 = I 192 4 → J 192 5 = I 192 5 → J 192 8 = I 192 8 →
      ((0 < O - (I 192 6 + W) - I 192 3 ∧ J 192 2 = I 192 3 ∧ J 192 3 = I 192 3 ∧ J 192 6 = O - I 192 3 + Sv) ∨
       (O - (I 192 6 + W) - I 192 3 ≤ 0 ∧ ((O - (I 192 6 + W) ≤ I 192 2 ∧ J 192 2 = I 192 2) ∨ (I 192 2 < O - (I 192 6 + W) ∧ J 192 2 = O - (I 192 6 + W))) ∧ ((I 192 3 ≤ x2 - (I 192 6 + W) ∧ J 192 3 = I 192 3) ∨ (x2 - (I 192 6 + W) < I 192 3 ∧ J 192 3 = x2 - (I 192 6 + W))) ∧ J 192 6 = I 192 6 + W + Sv)) →
      D50_189 x1 x2 W O Dn Up (I 192 6 + W) x8 u9 u10 J K := by
    intro J x8 u9 u10 f j9 j7 j4 j5 j8 j6
    unfold D50_189 inR
    rw [j7]
    refine ⟨by omega, fun I2 e2 => ?_⟩
    have z : ∀ k, k ≠ 7 → I2 192 k = J 192 k := fun k h7 => by rw [e2, iup_ne (Or.inr h7)]
    have f2 : FP I I2 := by rw [e2]; exact FP_up f
    have d226 : ∀ x6' : Int, (x6' = Dn ∨ x6' = Up) → Dn ≤ x6' → Up ≤ x6' → D50_226 x1 x2 W O Dn Up (I 192 6 + W) x8 (I 192 8 + Dn) u10 (I 192 5) x6' I2 K := by
      intro m hm h1 h2
      unfold D50_226 inR
      refine ⟨by omega, ?_⟩
      have go : ∀ t1 x10 : Int, ((t1 = I 192 8 + Dn ∨ t1 = I 192 5 + Dn ∨ t1 = I 192 5 + Up) ∧ I 192 8 + Dn ≤ t1 ∧ I 192 5 + Dn ≤ t1 ∧ I 192 5 + Up ≤ t1) → D50_244 x1 x2 W O Dn Up (I 192 6 + W) x8 (I 192 8 + Dn) x10 t1 I2 K := by
        intro t1 x10 ht1
        refine d244 I2 x8 _ _ t1 f2 (by rw [z 9 (by decide), j9]) (by rw [e2, iup_same]) (by rw [z 4 (by decide), j4]) (by rw [z 5 (by decide), j5]) ?_ ht1
        rw [z 2 (by decide), z 3 (by decide), z 6 (by decide)]
        exact j6
      split
      · exact go _ _ (by omega)
      · exact go _ _ (by omega)
    rw [z 8 (by decide), z 5 (by decide), j8, j5]
    refine ⟨by omega, ?_⟩
    split
    · exact d226 Up (Or.inr rfl) (by omega) (by omega)
    · exact d226 Dn (Or.inl rfl) (by omega) (by omega)
  have d72 : ∀ (J : IM) (u8 u9 u10 : AV), FP I J → J 192 9 = (if I 192 2 + (I 192 6 + W) ≤ x2 then I 192 9 else 0) → (∀ k, k ≠ 9 → J 192 k = I 192 k) → D50_72 x1 x2 W O Dn Up (I 192 6 + W) u8 u9 u10 J K := by
    intro J u8 u9 u10 f j9 j
    unfold D50_72 inR
    rw [j 3 (by decide), j 2 (by decide)]
    refine ⟨by omega, by omega, ?_⟩
    split
    · rename_i c
      have d144 : ∀ t1 : Int, ((O - (I 192 6 + W) ≤ I 192 2 ∧ t1 = I 192 2) ∨ (I 192 2 < O - (I 192 6 + W) ∧ t1 = O - (I 192 6 + W))) → D50_144 x1 x2 W O Dn Up (I 192 6 + W) (O - (I 192 6 + W) - I 192 3) u9 u10 t1 J K := by
        intro t1 ht1
        unfold D50_144 inR
        intro I1 e1
        have z1 : ∀ k, k ≠ 2 → I1 192 k = J 192 k := fun k h7 => by rw [e1, iup_ne (Or.inr h7)]
        refine ⟨by omega, ?_⟩
        rw [z1 3 (by decide), j 3 (by decide)]
        have d170 : ∀ t2 : Int, ((I 192 3 ≤ x2 - (I 192 6 + W) ∧ t2 = I 192 3) ∨ (x2 - (I 192 6 + W) < I 192 3 ∧ t2 = x2 - (I 192 6 + W))) → D50_170 x1 x2 W O Dn Up (I 192 6 + W) (O - (I 192 6 + W) - I 192 3) u9 u10 t2 I1 K := by
          intro t2 ht2
          unfold D50_170 inR
          intro I2 e2
          rw [show I2 6 x1.toNat = Sv by rw [e2, e1, iup_ne (Or.inl (by decide)), iup_ne (Or.inl (by decide)), f 6 _ (by decide), hS]]
          refine ⟨by omega, by omega, fun I4 e4 => ?_⟩
          have z4 : ∀ k, k ≠ 2 → k ≠ 3 → k ≠ 6 → I4 192 k = J 192 k := fun k h2 h3 h6 => by rw [e4, e2, e1, iup_ne (Or.inr h6), iup_ne (Or.inr h3), iup_ne (Or.inr h2)]
          refine d189 I4 _ _ _ (by rw [e4, e2, e1]; exact FP_up (FP_up (FP_up f))) (by rw [z4 9 (by decide) (by decide) (by decide), j9]) (by rw [z4 7 (by decide) (by decide) (by decide), j 7 (by decide)]) (by rw [z4 4 (by decide) (by decide) (by decide), j 4 (by decide)]) (by rw [z4 5 (by decide) (by decide) (by decide), j 5 (by decide)]) (by rw [z4 8 (by decide) (by decide) (by decide), j 8 (by decide)]) (Or.inr ⟨c, ?_, ?_, by rw [e4, iup_same]⟩)
          · rw [show I4 192 2 = t1 by rw [e4, e2, e1]; simp [iup]]
            exact ht1
          · rw [show I4 192 3 = t2 by rw [e4, e2]; simp [iup]]
            exact ht2
        split
        · exact d170 _ (by omega)
        · exact d170 _ (by omega)
      split
      · exact d144 _ (by omega)
      · exact d144 _ (by omega)
    · rename_i c
      intro I5 e5
      rw [show I5 6 x1.toNat = Sv by rw [e5, iup_ne (Or.inl (by decide)), f 6 _ (by decide), hS]]
      refine ⟨by omega, by omega, by omega, fun I9 e9 => ?_⟩
      have z4 : ∀ k, k ≠ 2 → k ≠ 6 → I9 192 k = J 192 k := fun k h2 h6 => by rw [e9, e5, iup_ne (Or.inr h6), iup_ne (Or.inr h2)]
      refine d189 I9 _ _ _ (by rw [e9, e5]; exact FP_up (FP_up f)) (by rw [z4 9 (by decide) (by decide), j9]) (by rw [z4 7 (by decide) (by decide), j 7 (by decide)]) (by rw [z4 4 (by decide) (by decide), j 4 (by decide)]) (by rw [z4 5 (by decide) (by decide), j 5 (by decide)]) (by rw [z4 8 (by decide) (by decide), j 8 (by decide)]) (Or.inl ⟨by omega, by rw [e9, e5]; simp [iup], by rw [z4 3 (by decide) (by decide), j 3 (by decide)], by rw [e9, iup_same]; omega⟩)
  unfold D50_0 inR
  rw [show 1 + 10 + (I 192 1).toNat = 11 + (I 192 1).toNat by omega, hW, hO, hDn, hUp]
  refine ⟨hp, hx, by omega, by omega, ?_⟩
  split
  · rename_i c
    exact d72 I _ _ _ FP_refl (by rw [if_pos c]) (fun _ _ => rfl)
  · rename_i c
    intro I6 e6
    exact d72 I6 _ _ _ (by rw [e6]; exact FP_up FP_refl) (by rw [e6, iup_same, if_neg c]) (fun k hk => by rw [e6, iup_ne (Or.inr hk)])
