/-! level 2: class and model call by call: image, undo -/
theorem icp_in {I : IM} {s sp d dp n k : Nat} (h1 : dp ≤ k) (h2 : k < dp + n) : icp I s sp d dp n d k = I s (sp + (k - dp)) := if_pos ⟨rfl, h1, h2⟩
theorem icp_out {I : IM} {s sp d dp n o k : Nat} (h : o ≠ d ∨ k < dp ∨ dp + n ≤ k) : icp I s sp d dp n o k = I o k := if_neg (by omega)
theorem icp_0 {I : IM} {s d n k : Nat} (h : k < n) : icp I s 0 d 0 n d k = I s k := by
  rw [icp_in (by omega) (by omega)]
  congr 1
  omega
theorem k_copyBook {a b : Nat} {I : IM} {K : Option AV → IM → Prop} (ha : isBk a) (hb : isBk b) (hne : a ≠ b) (h : ∀ J, (∀ o k, (o < a ∨ a + 22 < o) → J o k = I o k) → J a 0 = I b 0 → (∀ w o, w < 8 → o < 13 → J (a + 1 + w) o = I (b + 1 + w) o) → (∀ x y, x < 13 → y < 13 → J (a + 10 + x) y = I (b + 10 + x) y) → K none J) : CALL S0 125 [vR a, vR b] I K := by
  refine e125 ha hb ?_
  unfold D125_0
  have dd : a + 22 < b ∨ b + 22 < a := by
    rcases ha with e | e <;> rcases hb with g | g <;> omega
  intro I1 e1
  refine ⟨by omega, fun I3 e3 I4 e4 I5 e5 I6 e6 I7 e7 I8 e8 I9 e9 I10 e10 => ?_⟩
  have f10 : ∀ o k, (o < a ∨ a + 8 < o) → I10 o k = I o k := fun o k z => by
    rw [e10, icp_out (by omega), e9, icp_out (by omega), e8, icp_out (by omega), e7, icp_out (by omega), e6, icp_out (by omega), e5, icp_out (by omega), e4, icp_out (by omega), e3, icp_out (by omega), e1, iup_ne (by omega)]
  have n10 : I10 a 0 = I b 0 := by
    rw [e10, icp_out (by omega), e9, icp_out (by omega), e8, icp_out (by omega), e7, icp_out (by omega), e6, icp_out (by omega), e5, icp_out (by omega), e4, icp_out (by omega), e3, icp_out (by omega), e1, iup_same]
  have v10 : ∀ w o, w < 8 → o < 13 → I10 (a + 1 + w) o = I (b + 1 + w) o := by
    intro w o hw ho
    rcases (show w = 0 ∨ w = 1 ∨ w = 2 ∨ w = 3 ∨ w = 4 ∨ w = 5 ∨ w = 6 ∨ w = 7 by omega) with e | e | e | e | e | e | e | e <;> subst e
    · rw [e10, icp_out (by omega), e9, icp_out (by omega), e8, icp_out (by omega), e7, icp_out (by omega), e6, icp_out (by omega), e5, icp_out (by omega), e4, icp_out (by omega), e3, Nat.add_zero, icp_0 ho, e1, iup_ne (by omega), Nat.add_zero]
    · rw [e10, icp_out (by omega), e9, icp_out (by omega), e8, icp_out (by omega), e7, icp_out (by omega), e6, icp_out (by omega), e5, icp_out (by omega), e4, icp_0 ho, e3, icp_out (by omega), e1, iup_ne (by omega)]
    · rw [e10, icp_out (by omega), e9, icp_out (by omega), e8, icp_out (by omega), e7, icp_out (by omega), e6, icp_out (by omega), e5, icp_0 ho, e4, icp_out (by omega), e3, icp_out (by omega), e1, iup_ne (by omega)]
    · rw [e10, icp_out (by omega), e9, icp_out (by omega), e8, icp_out (by omega), e7, icp_out (by omega), e6, icp_0 ho, e5, icp_out (by omega), e4, icp_out (by omega), e3, icp_out (by omega), e1, iup_ne (by omega)]
    · rw [e10, icp_out (by omega), e9, icp_out (by omega), e8, icp_out (by omega), e7, icp_0 ho, e6, icp_out (by omega), e5, icp_out (by omega), e4, icp_out (by omega), e3, icp_out (by omega), e1, iup_ne (by omega)]
    · rw [e10, icp_out (by omega), e9, icp_out (by omega), e8, icp_0 ho, e7, icp_out (by omega), e6, icp_out (by omega), e5, icp_out (by omega), e4, icp_out (by omega), e3, icp_out (by omega), e1, iup_ne (by omega)]
    · rw [e10, icp_out (by omega), e9, icp_0 ho, e8, icp_out (by omega), e7, icp_out (by omega), e6, icp_out (by omega), e5, icp_out (by omega), e4, icp_out (by omega), e3, icp_out (by omega), e1, iup_ne (by omega)]
    · rw [e10, icp_0 ho, e9, icp_out (by omega), e8, icp_out (by omega), e7, icp_out (by omega), e6, icp_out (by omega), e5, icp_out (by omega), e4, icp_out (by omega), e3, icp_out (by omega), e1, iup_ne (by omega)]
  have key : ∀ j i : Nat, i + j = 13 → ∀ J : IM, (∀ o k, (o < a + 10 ∨ a + 22 < o) → J o k = I10 o k) → (∀ x y, x < i → y < 13 → J (a + 10 + x) y = I (b + 10 + x) y) → GO S0 125 130 [vR a, vR b, vI (i : Int)] [] J K := by
    intro j
    induction j with
    | zero =>
      intro i e J f g
      refine g125_130 a b ha hb _ J K ?_
      unfold D125_130
      rw [if_pos (by omega)]
      exact h J (fun o k z => by rw [f o k (by omega)]; exact f10 o k (by omega)) (by rw [f _ _ (by omega)]; exact n10) (fun w o hw ho => by rw [f _ _ (by omega)]; exact v10 w o hw ho) (fun x y hx hy => g x y (by omega) hy)
    | succ j ih =>
      intro i e J f g
      refine g125_130 a b ha hb _ J K ?_
      unfold D125_130 inR
      rw [if_neg (by omega), Int.toNat_natCast]
      refine ⟨by omega, by omega, fun I4 e4 => ⟨by omega, ?_⟩⟩
      have := ih (i + 1) (by omega) I4 (fun o k z => by rw [e4, icp_out (by omega)]; exact f o k z) (fun x y hx hy => by
        by_cases c : x = i
        · rw [c, e4, icp_0 hy, f _ _ (by omega)]
          exact f10 _ _ (by omega)
        · rw [e4, icp_out (by omega)]; exact g x y (by omega) hy)
      rw [show ((i + 1 : Nat) : Int) = (i : Int) + 1 by omega] at this
      exact this
  exact key 13 0 rfl I10 (fun _ _ _ => rfl) (fun x y hx => by omega)
theorem k_copyFleet {a b : Nat} {I : IM} {K : Option AV → IM → Prop} (ha : isFl a) (hb : isFl b) (hne : a ≠ b) (h : ∀ J, (∀ o k, (o < a + 1 ∨ a + 4 < o) → J o k = I o k) → (∀ v, v < 4 → J (a + 1) v = I (b + 1) v ∧ J (a + 2) v = I (b + 2) v ∧ J (a + 3) v = I (b + 3) v) → (∀ w, w < 3 → J (a + 4) w = I (b + 4) w) → K none J) : CALL S0 126 [vR a, vR b] I K := by
  refine e126 ha hb ?_
  unfold D126_0
  have dd : a + 4 < b ∨ b + 4 < a := by
    rcases ha with e | e <;> rcases hb with g | g <;> omega
  refine ⟨by omega, fun I2 e2 I3 e3 I4 e4 => ⟨by omega, fun I6 e6 => h I6 (fun o k z => ?_) (fun v hv => ⟨?_, ?_, ?_⟩) (fun w hw => ?_)⟩⟩
  · rw [e6, icp_out (by omega), e4, icp_out (by omega), e3, icp_out (by omega), e2, icp_out (by omega)]
  · rw [e6, icp_out (by omega), e4, icp_out (by omega), e3, icp_out (by omega), e2, icp_0 hv]
  · rw [e6, icp_out (by omega), e4, icp_out (by omega), e3, icp_0 hv, e2, icp_out (by omega)]
  · rw [e6, icp_out (by omega), e4, icp_0 hv, e3, icp_out (by omega), e2, icp_out (by omega)]
  · rw [e6, icp_0 hw, e4, icp_out (by omega), e3, icp_out (by omega), e2, icp_out (by omega)]
theorem BKof_cp {I J : IM} {b f b' f' : Nat} {G : Nat → Int} (h : BKof I b f G) (h0 : J b' 0 = I b 0) (h1 : ∀ w o, w < 8 → o < 13 → J (b' + 1 + w) o = I (b + 1 + w) o) (h2 : ∀ x y, x < 13 → y < 13 → J (b' + 10 + x) y = I (b + 10 + x) y) (h3 : ∀ v, v < 4 → J (f' + 1) v = I (f + 1) v ∧ J (f' + 2) v = I (f + 2) v ∧ J (f' + 3) v = I (f + 3) v) (h4 : ∀ w, w < 3 → J (f' + 4) w = I (f + 4) w) : BKof J b' f' G := by
  obtain ⟨a1, a2, a3, a4, a5, a6, a7⟩ := h
  refine ⟨h0.trans a1, fun o ho w hw => (h1 w o hw (by omega)).trans (a2 o ho w hw), ⟨(h1 0 12 (by omega) (by omega)).trans a3.1, (h1 1 12 (by omega) (by omega)).trans a3.2⟩, ⟨(h1 2 12 (by omega) (by omega)).trans a4.1, (h1 4 12 (by omega) (by omega)).trans a4.2.1, (h1 5 12 (by omega) (by omega)).trans a4.2.2.1, (h1 6 12 (by omega) (by omega)).trans a4.2.2.2⟩, fun x y hx hy => (h2 x y hx hy).trans (a5 x y hx hy), fun v hv => ?_, fun w hw => (h4 w hw).trans (a7 w hw)⟩
  rw [(h3 v hv).1, (h3 v hv).2.1, (h3 v hv).2.2]
  exact a6 v hv
theorem s_image {I : IM} (h : REL I) : BOTH 124 249 [] I := by
  have hn := h.1.1.1.2
  unfold BOTH
  refine e124 ?_
  unfold D124_0
  refine k_copyBook (Or.inr rfl) (Or.inl rfl) (by decide) fun J1 f1 a1 a2 a3 => ⟨rfl, ?_⟩
  refine k_copyFleet (Or.inr rfl) (Or.inl rfl) (by decide) fun J2 f2 b1 b2 => ⟨rfl, ?_⟩
  refine k_copy rd64 rd29 (by decide) (fun v hv => by rw [f2 _ _ (by omega), f1 _ _ (by omega)]; exact h.2.1.1 v hv) fun J3 f3 s3 l3 => ⟨rfl, fun I4 e4 => ⟨_, rfl, ?_⟩⟩
  have f4 : ∀ o k, (o ≠ 0 ∨ k ≠ 6) → (o < 36 ∨ 70 < o) → I4 o k = I o k := fun o k a b => by rw [e4, iup_ne a, f3 _ _ (by omega), f2 _ _ (by omega), f1 _ _ (by omega)]
  have f43 : ∀ o k, o ≠ 0 → I4 o k = J3 o k := fun o k a => by rw [e4, iup_ne (Or.inl a)]
  have bk : BKof I4 36 59 (I 238) := BKof_cp h.1.2 (by rw [f43 _ _ (by decide), f3 _ _ (by omega), f2 _ _ (by omega), a1]) (fun w o hw ho => by rw [f43 _ _ (by omega), f3 _ _ (by omega), f2 _ _ (by omega), a2 w o hw ho]) (fun x y hx hy => by rw [f43 _ _ (by omega), f3 _ _ (by omega), f2 _ _ (by omega), a3 x y hx hy]) (fun v hv => by rw [f43 _ _ (by decide), f43 _ _ (by decide), f43 _ _ (by decide), f3 _ _ (by omega), f3 _ _ (by omega), f3 _ _ (by omega), (b1 v hv).1, (b1 v hv).2.1, (b1 v hv).2.2, f1 _ _ (by omega), f1 _ _ (by omega), f1 _ _ (by omega)]; exact ⟨rfl, rfl, rfl⟩) (fun w hw => by rw [f43 _ _ (by decide), f3 _ _ (by omega), b2 w hw, f1 _ _ (by omega)])
  have i6 : I4 0 6 = 1 := by rw [e4, iup_same]
  have l4 : ∀ v, v < 4 → LC I4 64 v = LM I 238 114 v := fun v hv => by
    rw [LC_cg (f43 _ _ (by decide)) (fun k => f43 _ _ (by omega)), l3 v hv, ← rl_eq h hv]
    exact LC_cg (by rw [f2 _ _ (by omega), f1 _ _ (by omega)]) (fun k => by rw [f2 _ _ (by omega), f1 _ _ (by omega)])
  have z4 : SZC I4 64 := fun v hv => by rw [f43 _ _ (by decide)]; exact s3 v hv
  refine e249 ?_
  unfold D249_0
  have key : ∀ m : Nat, m ≤ 166 → GO S0 249 2 [vR 237, vI ((166 - m : Nat) : Int)] [] (cpd I4 238 0 239 0 (166 - m)) (fun v' I2 => v' = some (vI (I4 1 0)) ∧ REL I2 ∧ SC I I2) := by
    intro m
    induction m with
    | zero =>
      intro _
      refine g249_2 _ _ _ ?_
      unfold D249_2
      rw [if_pos (by omega)]
      intro I2 e2
      have g : ∀ o k, (o ≠ 237 ∨ k ≠ 2) → (o ≠ 239 ∨ 166 ≤ k) → I2 o k = I4 o k := fun o k a b => by rw [e2, iup_ne a, cpd_out (by omega)]
      have g9 : ∀ k, k < 166 → I2 239 k = I 238 k := fun k hk => by
        rw [e2, iup_ne (Or.inl (by decide)), cpd_in (by omega) (by omega), f4 _ _ (by omega) (by omega)]
        congr 1
        omega
      have gf : ∀ o k, (o ≠ 0 ∨ k ≠ 6) → (o < 36 ∨ 70 < o) → (o ≠ 237 ∨ k ≠ 2) → o ≠ 239 → I2 o k = I o k := fun o k a b c d => (g o k c (Or.inl d)).trans (f4 o k a b)
      have glo : ∀ k, k < 114 → I2 238 k = I 238 k := fun k _ => gf _ _ (by omega) (by omega) (by omega) (by omega)
      have eM : ∀ v, v < 4 → LM I2 239 114 v = LM I 238 114 v := fun v hv => LM_congr (h.2.1.2.1 v hv) (fun k hk => g9 _ (by omega))
      have fo : ∀ o, o ≠ 0 → (o < 36 ∨ 70 < o) → o ≠ 237 → o ≠ 239 → I2 o = I o := fun o a b c d => funext fun k => gf o k (Or.inl a) b (Or.inl c) d
      obtain ⟨h1, h2, h3, h4, h5, h6, h7⟩ := h
      refine ⟨?_, ⟨RB_fr h1 (fun o k _ _ => gf o k (by omega) (by omega) (by omega) (by omega)) glo, SAR_fr h2 (fun v _ => gf _ _ (by omega) (by omega) (by omega) (by omega)) (fun v k _ _ => gf _ _ (by omega) (by omega) (by omega) (by omega)) (fun k _ => gf _ _ (by omega) (by omega) (by omega) (by omega)) glo hn, ⟨?_, ?_, fun _ => ⟨GR_lo (fun k hk => g9 k (by omega)) h1.1, ?_, fun v hv => ?_, fun v hv => ?_, fun v hv => ?_, ?_⟩⟩, RS_fr h4 (fun o k _ _ => gf o k (by omega) (by omega) (by omega) (by omega)) (fo 240 (by decide) (by decide) (by decide) (by decide)) (gf _ _ (by omega) (by omega) (by omega) (by omega)) glo hn, RT_fr h5 (gf _ _ (by omega) (by omega) (by omega) (by omega)) (gf _ _ (by omega) (by omega) (by omega) (by omega)) (fo _ (by decide) (by decide) (by decide) (by decide)) (fo _ (by decide) (by decide) (by decide) (by decide)), RP_fr h6 (gf _ _ (by omega) (by omega) (by omega) (by omega)) (gf _ _ (by omega) (by omega) (by omega) (by omega)) (fo _ (by decide) (by decide) (by decide) (by decide)) (fo _ (by decide) (by decide) (by decide) (by decide)), RW_fr h7 (fun o k _ _ => gf o k (by omega) (by omega) (by omega) (by omega)) (fo _ (by decide) (by decide) (by decide) (by decide)) (fo _ (by decide) (by decide) (by decide) (by decide))⟩, fun o k a => gf o k (by omega) (by omega) (by omega) (by omega)⟩
      · rw [glo 5 (by omega), f4 1 0 (by omega) (by omega)]
        congr 2
        exact h1.2.1.symm
      · rw [g _ _ (by omega) (by omega), i6, e2, iup_same]
      · rw [e2, iup_same]; omega
      · refine BKof_lo (G := I 238) (fun k hk => g9 k (by omega)) (BKof_cp bk (g _ _ (by omega) (by omega)) (fun w o hw ho => g _ _ (by omega) (by omega)) (fun x y hx hy => g _ _ (by omega) (by omega)) (fun v hv => ⟨g _ _ (by omega) (by omega), g _ _ (by omega) (by omega), g _ _ (by omega) (by omega)⟩) (fun w hw => g _ _ (by omega) (by omega)))
      · rw [g _ _ (by omega) (by omega)]; exact z4 v hv
      · rw [g9 _ (by omega)]; exact h2.2.1 v hv
      · rw [eM v hv, ← l4 v hv]
        exact LC_cg (g _ _ (by omega) (by omega)) (fun k => g _ _ (by omega) (by omega))
      · exact VR_eq eM (VR_lo (fun k hk => g9 k (by omega)) hn h2.2.2.2)
    | succ m ih =>
      intro hm
      refine g249_2 _ _ _ ?_
      unfold D249_2 inR
      rw [if_neg (by omega)]
      refine ⟨by omega, fun I5 e5 => ⟨by omega, ?_⟩⟩
      have e1 : I5 = cpd I4 238 0 239 0 (166 - m) := by
        rw [e5, show (((166 - (m + 1) : Nat) : Int)).toNat = 0 + (166 - (m + 1)) by omega, cpd_c (by decide), cpd_s (by decide), show 166 - (m + 1) + 1 = 166 - m by omega]
      rw [e1, show ((166 - (m + 1) : Nat) : Int) + 1 = ((166 - m : Nat) : Int) by omega]
      exact ih (by omega)
  have := key 166 (Nat.le_refl _)
  rw [show 166 - 166 = 0 from rfl, cpd_0] at this
  exact this
theorem s_undo {I : IM} (h : REL I) : BOTH 127 250 [] I := by
  obtain ⟨r1, r2, r3⟩ := h.2.2.1
  rcases r2 with z | z
  · refine both_q (-3) h (fun K hK => ?_) (fun J f hJ K hK => ?_)
    · refine e127 ?_
      unfold D127_0
      rw [if_pos (by omega)]
      exact hK I FS_refl
    · refine e250 ?_
      unfold D250_0
      rw [f 237 2 (by unfold SCR; omega), if_pos z]
      exact hK J FS_refl
  · obtain ⟨q1, q2, q3, q4, q5, q6⟩ := r3 z
    unfold BOTH
    refine e127 ?_
    unfold D127_0
    rw [if_neg (by omega)]
    refine k_copyBook (Or.inl rfl) (Or.inr rfl) (by decide) fun J1 f1 a1 a2 a3 => ⟨rfl, ?_⟩
    refine k_copyFleet (Or.inl rfl) (Or.inr rfl) (by decide) fun J2 f2 b1 b2 => ⟨rfl, ?_⟩
    refine k_copy rd29 rd64 (by decide) (fun v hv => by rw [f2 _ _ (by omega), f1 _ _ (by omega)]; exact q3 v hv) fun J3 f3 s3 l3 => ⟨rfl, ?_⟩
    refine k_forget ⟨rfl, _, rfl, ?_⟩
    generalize hI4 : iup J3 78 2 0 = I4
    have e4 : I4 = iup J3 78 2 0 := hI4.symm
    have f4 : ∀ o k, (o ≠ 78 ∨ k ≠ 2) → (o < 1 ∨ 35 < o) → I4 o k = I o k := fun o k a b => by rw [e4, iup_ne a, f3 _ _ (by omega), f2 _ _ (by omega), f1 _ _ (by omega)]
    have f43 : ∀ o k, o ≠ 78 → I4 o k = J3 o k := fun o k a => by rw [e4, iup_ne (Or.inl a)]
    have bk : BKof I4 1 24 (I 239) := BKof_cp q2 (by rw [f43 _ _ (by decide), f3 _ _ (by omega), f2 _ _ (by omega), a1]) (fun w o hw ho => by rw [f43 _ _ (by omega), f3 _ _ (by omega), f2 _ _ (by omega), a2 w o hw ho]) (fun x y hx hy => by rw [f43 _ _ (by omega), f3 _ _ (by omega), f2 _ _ (by omega), a3 x y hx hy]) (fun v hv => by rw [f43 _ _ (by decide), f43 _ _ (by decide), f43 _ _ (by decide), f3 _ _ (by omega), f3 _ _ (by omega), f3 _ _ (by omega), (b1 v hv).1, (b1 v hv).2.1, (b1 v hv).2.2, f1 _ _ (by omega), f1 _ _ (by omega), f1 _ _ (by omega)]; exact ⟨rfl, rfl, rfl⟩) (fun w hw => by rw [f43 _ _ (by decide), f3 _ _ (by omega), b2 w hw, f1 _ _ (by omega)])
    have l4 : ∀ v, v < 4 → LC I4 29 v = LM I 239 114 v := fun v hv => by
      rw [LC_cg (f43 _ _ (by decide)) (fun k => f43 _ _ (by omega)), l3 v hv, ← q5 v hv]
      exact LC_cg (by rw [f2 _ _ (by omega), f1 _ _ (by omega)]) (fun k => by rw [f2 _ _ (by omega), f1 _ _ (by omega)])
    have z4 : SZC I4 29 := fun v hv => by rw [f43 _ _ (by decide)]; exact s3 v hv
    refine e250 ?_
    unfold D250_0
    rw [f4 237 2 (by omega) (by omega), if_neg (by omega)]
    have key : ∀ m : Nat, m ≤ 166 → GO S0 250 12 [vR 237, vI ((166 - m : Nat) : Int)] [] (cpd I4 239 0 238 0 (166 - m)) (fun v' I2 => v' = some (vI (I4 1 0)) ∧ REL I2 ∧ SC I I2) := by
      intro m
      induction m with
      | zero =>
        intro _
        refine g250_12 _ _ _ ?_
        unfold D250_12
        rw [if_pos (by omega)]
        refine m_forgets ⟨_, rfl, ?_⟩
        generalize hI2 : iup (cpd I4 239 0 238 0 (166 - 0)) 237 4 0 = I2
        have e2 : I2 = iup (cpd I4 239 0 238 0 (166 - 0)) 237 4 0 := hI2.symm
        have g : ∀ o k, (o ≠ 237 ∨ k ≠ 4) → (o ≠ 238 ∨ 166 ≤ k) → I2 o k = I4 o k := fun o k a b => by rw [e2, iup_ne a, cpd_out (by omega)]
        have g8 : ∀ k, k < 166 → I2 238 k = I 239 k := fun k hk => by
          rw [e2, iup_ne (Or.inl (by decide)), cpd_in (by omega) (by omega), f4 _ _ (by omega) (by omega)]
          congr 1
          omega
        have gf : ∀ o k, (o ≠ 78 ∨ k ≠ 2) → (o < 1 ∨ 35 < o) → (o ≠ 237 ∨ k ≠ 4) → o ≠ 238 → I2 o k = I o k := fun o k a b c d => (g o k c (Or.inl d)).trans (f4 o k a b)
        have eM : ∀ v, v < 4 → LM I2 238 114 v = LM I 239 114 v := fun v hv => LM_congr (q4 v hv) (fun k hk => g8 _ (by omega))
        have fo : ∀ o, o ≠ 78 → (o < 1 ∨ 35 < o) → o ≠ 237 → o ≠ 238 → I2 o = I o := fun o a b c d => funext fun k => gf o k (Or.inl a) b (Or.inl c) d
        have hG2 : GR (I2 238) := GR_lo (fun k hk => g8 k (by omega)) q1
        have r3' := h.2.2.1
        obtain ⟨h1, h2, h3, ⟨c, n, n1, n2, n3, n4, n5, n6⟩, h5, h6, h7⟩ := h
        refine ⟨?_, ⟨⟨hG2, ?_⟩, ⟨fun v hv => by rw [g _ _ (by omega) (by omega)]; exact z4 v hv, fun v hv => by rw [g8 _ (by omega)]; exact q4 v hv, fun v hv => ?_, VR_eq eM (VR_lo (fun k hk => g8 k (by omega)) q1.1.2 q6)⟩, RI_fr r3' (fun o k _ _ => gf o k (by omega) (by omega) (by omega) (by omega)) (fo 239 (by decide) (by decide) (by decide) (by decide)) (gf _ _ (by omega) (by omega) (by omega) (by omega)) (gf _ _ (by omega) (by omega) (by omega) (by omega)), RS_0 (n := n) (by rw [e2, iup_same]) (by rw [g _ _ (by omega) (by omega), e4, iup_same]) (by rw [gf _ _ (by omega) (by omega) (by omega) (by omega)]; exact n4) n5, RT_fr h5 (gf _ _ (by omega) (by omega) (by omega) (by omega)) (gf _ _ (by omega) (by omega) (by omega) (by omega)) (fo _ (by decide) (by decide) (by decide) (by decide)) (fo _ (by decide) (by decide) (by decide) (by decide)), RP_fr h6 (gf _ _ (by omega) (by omega) (by omega) (by omega)) (gf _ _ (by omega) (by omega) (by omega) (by omega)) (fo _ (by decide) (by decide) (by decide) (by decide)) (fo _ (by decide) (by decide) (by decide) (by decide)), RW_fr h7 (fun o k _ _ => gf o k (by omega) (by omega) (by omega) (by omega)) (fo _ (by decide) (by decide) (by decide) (by decide)) (fo _ (by decide) (by decide) (by decide) (by decide))⟩, fun o k a => gf o k (by omega) (by omega) (by omega) (by omega)⟩
        · rw [cpd_in (by omega) (by omega), bk.1, f4 _ _ (by omega) (by omega)]
        · exact BKof_lo (G := I 239) (fun k hk => g8 k (by omega)) (BKof_cp bk (g _ _ (by omega) (by omega)) (fun w o hw ho => g _ _ (by omega) (by omega)) (fun x y hx hy => g _ _ (by omega) (by omega)) (fun v hv => ⟨g _ _ (by omega) (by omega), g _ _ (by omega) (by omega), g _ _ (by omega) (by omega)⟩) (fun w hw => g _ _ (by omega) (by omega)))
        · rw [eM v hv, ← l4 v hv]
          exact LC_cg (g _ _ (by omega) (by omega)) (fun k => g _ _ (by omega) (by omega))
      | succ m ih =>
        intro hm
        refine g250_12 _ _ _ ?_
        unfold D250_12 inR
        rw [if_neg (by omega)]
        refine ⟨by omega, fun I5 e5 => ⟨by omega, ?_⟩⟩
        have e1 : I5 = cpd I4 239 0 238 0 (166 - m) := by
          rw [e5, show (((166 - (m + 1) : Nat) : Int)).toNat = 0 + (166 - (m + 1)) by omega, cpd_c (by decide), cpd_s (by decide), show 166 - (m + 1) + 1 = 166 - m by omega]
        rw [e1, show ((166 - (m + 1) : Nat) : Int) + 1 = ((166 - m : Nat) : Int) by omega]
        exact ih (by omega)
    have := key 166 (Nat.le_refl _)
    rw [show 166 - 166 = 0 from rfl, cpd_0] at this
    exact this
