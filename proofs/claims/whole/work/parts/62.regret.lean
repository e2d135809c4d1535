/-! level 2: class and model call by call: priced, placed, regret, first, fill, ruin -/
theorem fs_fv {I J : IM} (h : FV I J) : FS I J := fun o k a => by
  unfold SCR at a
  exact h o k (by omega) (by omega) (by omega) (by omega) (by omega)
theorem fs_fx {I J : IM} (h : FX I J) : FS I J := fun o k a => by
  unfold SCR at a
  exact h o k (by omega) (by omega) (by omega) (by omega) (by omega) (by omega)
theorem fs_fw {I J : IM} (h : FW I J) : FS I J := fun o k a => by
  unfold SCR at a
  exact h o k (by omega) (by omega)
theorem s_priced {x1 x2 : Int} {I : IM} (h : REL I) : BOTH 98 225 [vI x1, vI x2] I := by
  have hcn : I 1 0 = I 238 5 := h.1.2.1
  have hG := h.1.1
  have hV := rel_VR h
  have hC := rel_CF h
  have vr := @vanF_r (LM I 238 114) x1
  by_cases c0 : 0 ≤ x1 ∧ x1 < I 238 5
  · by_cases c1 : 0 ≤ x2 ∧ x2 ≤ 3
    · by_cases cv : vanF (LM I 238 114) x1 < 0
      · obtain ⟨v, rfl⟩ : ∃ v : Nat, x2 = v := ⟨x2.toNat, by omega⟩
        have hv : v < 4 := by omega
        have inv := pr_inv hG hV c0 hv
        refine both_q (if prQ (I 238) (LM I 238 114) x1 v = -1 then -5 else prP (I 238) (LM I 238 114) x1 v) h (fun K hK => ?_) (fun J f hJ K hK => ?_)
        · refine e98 ?_
          unfold D98_0
          refine k_isOrder ⟨_, rfl, ?_⟩
          rw [hcn, b2i_t c0, if_neg (by decide)]
          refine k_isVan ⟨_, rfl, ?_⟩
          rw [b2i_t c1, if_neg (by decide)]
          refine c_vanOf hC.2.1 hC.2.2 ⟨_, rfl, ?_⟩
          rw [if_pos (by omega)]
          refine c_weigh hG hV hC c0 cv fun J1 f1 w1 => ⟨rfl, by omega, ?_⟩
          have fs1 : FS I J1 := fun o k a => by
            unfold SCR at a
            exact f1 o k (by omega) (by omega) (by omega)
          rw [Int.toNat_natCast, (w1 v hv).1]
          have hh := hK J1 fs1
          rcases inv with ⟨i1, i2⟩ | ⟨k, i1, i2, i3, i4, i5⟩
          · rw [if_pos i1] at hh
            rw [if_pos i2]
            exact hh
          · rw [if_neg (by omega)] at hh
            rw [if_neg (by omega)]
            exact hh
        · have mJ : MF (I 238) (LM I 238 114) J := MF_238 (rel_MF h) (fs238 f)
          refine e225 ?_
          unfold D225_0
          refine n_isOrder hG mJ ⟨_, rfl, ?_⟩
          rw [b2i_t c0, if_neg (by decide)]
          refine m_isVan ⟨_, rfl, ?_⟩
          rw [b2i_t c1, if_neg (by decide)]
          refine n_isLeft mJ ⟨_, rfl, ?_⟩
          rw [b2i_t cv, if_neg (by decide)]
          refine n_prices hv hG hV mJ c0 cv fun J1 f1 q1 q2 => ⟨rfl, ?_⟩
          rw [q1, q2]
          have hh := hK J1 (fs_fv f1)
          rcases inv with ⟨i1, i2⟩ | ⟨k, i1, i2, i3, i4, i5⟩
          · rw [if_pos i1] at hh
            rw [if_neg (by unfold e5F; rw [if_pos i1]; decide)]
            exact hh
          · rw [if_neg (by omega)] at hh
            rw [if_pos (by unfold e5F; rw [if_neg (by omega)]; omega)]
            exact hh
      · refine both_q (-3) h (fun K hK => ?_) (fun J f hJ K hK => ?_)
        · refine e98 ?_
          unfold D98_0
          refine k_isOrder ⟨_, rfl, ?_⟩
          rw [hcn, b2i_t c0, if_neg (by decide)]
          refine k_isVan ⟨_, rfl, ?_⟩
          rw [b2i_t c1, if_neg (by decide)]
          refine c_vanOf hC.2.1 hC.2.2 ⟨_, rfl, ?_⟩
          rw [if_neg (by omega)]
          exact hK I FS_refl
        · have mJ : MF (I 238) (LM I 238 114) J := MF_238 (rel_MF h) (fs238 f)
          refine e225 ?_
          unfold D225_0
          refine n_isOrder hG mJ ⟨_, rfl, ?_⟩
          rw [b2i_t c0, if_neg (by decide)]
          refine m_isVan ⟨_, rfl, ?_⟩
          rw [b2i_t c1, if_neg (by decide)]
          refine n_isLeft mJ ⟨_, rfl, ?_⟩
          rw [b2i_f cv, if_pos rfl]
          exact hK J FS_refl
    · refine both_q (-1) h (fun K hK => ?_) (fun J f hJ K hK => ?_)
      · refine e98 ?_
        unfold D98_0
        refine k_isOrder ⟨_, rfl, ?_⟩
        rw [hcn, b2i_t c0, if_neg (by decide)]
        refine k_isVan ⟨_, rfl, ?_⟩
        rw [b2i_f c1, if_pos rfl]
        exact hK I FS_refl
      · have mJ : MF (I 238) (LM I 238 114) J := MF_238 (rel_MF h) (fs238 f)
        refine e225 ?_
        unfold D225_0
        refine n_isOrder hG mJ ⟨_, rfl, ?_⟩
        rw [b2i_t c0, if_neg (by decide)]
        refine m_isVan ⟨_, rfl, ?_⟩
        rw [b2i_f c1, if_pos rfl]
        exact hK J FS_refl
  · refine both_q (-1) h (fun K hK => ?_) (fun J f hJ K hK => ?_)
    · refine e98 ?_
      unfold D98_0
      refine k_isOrder ⟨_, rfl, ?_⟩
      rw [hcn, b2i_f c0, if_pos rfl]
      exact hK I FS_refl
    · have mJ : MF (I 238) (LM I 238 114) J := MF_238 (rel_MF h) (fs238 f)
      refine e225 ?_
      unfold D225_0
      refine n_isOrder hG mJ ⟨_, rfl, ?_⟩
      rw [b2i_f c0, if_pos rfl]
      exact hK J FS_refl
theorem s_placed {x1 x2 : Int} {I : IM} (h : REL I) : BOTH 100 227 [vI x1, vI x2] I := by
  have hcn : I 1 0 = I 238 5 := h.1.2.1
  have hG := h.1.1
  have hV := rel_VR h
  have hC := rel_CF h
  have vr := @vanF_r (LM I 238 114) x1
  by_cases c0 : 0 ≤ x1 ∧ x1 < I 238 5
  · by_cases c1 : 0 ≤ x2 ∧ x2 ≤ 3
    · by_cases cv : vanF (LM I 238 114) x1 < 0
      · obtain ⟨v, rfl⟩ : ∃ v : Nat, x2 = v := ⟨x2.toNat, by omega⟩
        have hv : v < 4 := by omega
        have inv := pr_inv hG hV c0 hv
        refine both_q (e5F (prQ (I 238) (LM I 238 114) x1 v)) h (fun K hK => ?_) (fun J f hJ K hK => ?_)
        · refine e100 ?_
          unfold D100_0
          refine k_isOrder ⟨_, rfl, ?_⟩
          rw [hcn, b2i_t c0, if_neg (by decide)]
          refine k_isVan ⟨_, rfl, ?_⟩
          rw [b2i_t c1, if_neg (by decide)]
          refine c_vanOf hC.2.1 hC.2.2 ⟨_, rfl, ?_⟩
          rw [if_pos (by omega)]
          refine c_weigh hG hV hC c0 cv fun J1 f1 w1 => ⟨rfl, by omega, ?_⟩
          have fs1 : FS I J1 := fun o k a => by
            unfold SCR at a
            exact f1 o k (by omega) (by omega) (by omega)
          rw [Int.toNat_natCast, (w1 v hv).2]
          exact k_orLacking ⟨_, rfl, hK J1 fs1⟩
        · have mJ : MF (I 238) (LM I 238 114) J := MF_238 (rel_MF h) (fs238 f)
          refine e227 ?_
          unfold D227_0
          refine n_isOrder hG mJ ⟨_, rfl, ?_⟩
          rw [b2i_t c0, if_neg (by decide)]
          refine m_isVan ⟨_, rfl, ?_⟩
          rw [b2i_t c1, if_neg (by decide)]
          refine n_isLeft mJ ⟨_, rfl, ?_⟩
          rw [b2i_t cv, if_neg (by decide)]
          refine n_prices hv hG hV mJ c0 cv fun J1 f1 q1 q2 => ⟨rfl, ?_⟩
          rw [q1]
          exact hK J1 (fs_fv f1)
      · refine both_q (-3) h (fun K hK => ?_) (fun J f hJ K hK => ?_)
        · refine e100 ?_
          unfold D100_0
          refine k_isOrder ⟨_, rfl, ?_⟩
          rw [hcn, b2i_t c0, if_neg (by decide)]
          refine k_isVan ⟨_, rfl, ?_⟩
          rw [b2i_t c1, if_neg (by decide)]
          refine c_vanOf hC.2.1 hC.2.2 ⟨_, rfl, ?_⟩
          rw [if_neg (by omega)]
          exact hK I FS_refl
        · have mJ : MF (I 238) (LM I 238 114) J := MF_238 (rel_MF h) (fs238 f)
          refine e227 ?_
          unfold D227_0
          refine n_isOrder hG mJ ⟨_, rfl, ?_⟩
          rw [b2i_t c0, if_neg (by decide)]
          refine m_isVan ⟨_, rfl, ?_⟩
          rw [b2i_t c1, if_neg (by decide)]
          refine n_isLeft mJ ⟨_, rfl, ?_⟩
          rw [b2i_f cv, if_pos rfl]
          exact hK J FS_refl
    · refine both_q (-1) h (fun K hK => ?_) (fun J f hJ K hK => ?_)
      · refine e100 ?_
        unfold D100_0
        refine k_isOrder ⟨_, rfl, ?_⟩
        rw [hcn, b2i_t c0, if_neg (by decide)]
        refine k_isVan ⟨_, rfl, ?_⟩
        rw [b2i_f c1, if_pos rfl]
        exact hK I FS_refl
      · have mJ : MF (I 238) (LM I 238 114) J := MF_238 (rel_MF h) (fs238 f)
        refine e227 ?_
        unfold D227_0
        refine n_isOrder hG mJ ⟨_, rfl, ?_⟩
        rw [b2i_t c0, if_neg (by decide)]
        refine m_isVan ⟨_, rfl, ?_⟩
        rw [b2i_f c1, if_pos rfl]
        exact hK J FS_refl
  · refine both_q (-1) h (fun K hK => ?_) (fun J f hJ K hK => ?_)
    · refine e100 ?_
      unfold D100_0
      refine k_isOrder ⟨_, rfl, ?_⟩
      rw [hcn, b2i_f c0, if_pos rfl]
      exact hK I FS_refl
    · have mJ : MF (I 238) (LM I 238 114) J := MF_238 (rel_MF h) (fs238 f)
      refine e227 ?_
      unfold D227_0
      refine n_isOrder hG mJ ⟨_, rfl, ?_⟩
      rw [b2i_f c0, if_pos rfl]
      exact hK J FS_refl
theorem s_regret {x1 x2 : Int} {I : IM} (h : REL I) : BOTH 101 228 [vI x1, vI x2] I := by
  have hcn : I 1 0 = I 238 5 := h.1.2.1
  have hG := h.1.1
  have hV := rel_VR h
  have hC := rel_CF h
  have vr := @vanF_r (LM I 238 114) x1
  by_cases c0 : 0 ≤ x1 ∧ x1 < I 238 5
  · by_cases c1 : 1 ≤ x2 ∧ x2 ≤ 4
    · by_cases cv : vanF (LM I 238 114) x1 < 0
      · obtain ⟨k, rfl⟩ : ∃ v : Nat, x2 = v := ⟨x2.toNat, by omega⟩
        refine both_q (rgt (I 238) (LM I 238 114) x1 k) h (fun K hK => ?_) (fun J f hJ K hK => ?_)
        · refine e101 ?_
          unfold D101_0
          refine k_isOrder ⟨_, rfl, ?_⟩
          rw [hcn, b2i_t c0, if_neg (by decide)]
          refine k_within ⟨_, rfl, ?_⟩
          rw [b2i_t c1, if_neg (by decide)]
          refine c_vanOf hC.2.1 hC.2.2 ⟨_, rfl, ?_⟩
          rw [if_pos (by omega)]
          refine c_weigh hG hV hC c0 cv fun J1 f1 w1 => ⟨rfl, ?_⟩
          refine c_regretBy (P := prP (I 238) (LM I 238 114) x1) (fun v hv => (w1 v hv).1) (fun v hv => prP_b hG hV c0 hv) (by omega) fun J2 f2 => ⟨_, rfl, hK J2 (fun o k a => ?_)⟩
          unfold SCR at a
          rw [f2 o k (by omega)]
          exact f1 o k (by omega) (by omega) (by omega)
        · have mJ : MF (I 238) (LM I 238 114) J := MF_238 (rel_MF h) (fs238 f)
          refine e228 ?_
          unfold D228_0
          refine n_isOrder hG mJ ⟨_, rfl, ?_⟩
          rw [b2i_t c0, if_neg (by decide)]
          refine m_isIn ⟨_, rfl, ?_⟩
          rw [b2i_t c1, if_neg (by decide)]
          refine n_isLeft mJ ⟨_, rfl, ?_⟩
          rw [b2i_t cv, if_neg (by decide)]
          exact n_regretOf hG hV mJ c0 cv (by omega) fun J1 f1 _ => ⟨_, rfl, hK J1 (fs_fx f1)⟩
      · refine both_q (-3) h (fun K hK => ?_) (fun J f hJ K hK => ?_)
        · refine e101 ?_
          unfold D101_0
          refine k_isOrder ⟨_, rfl, ?_⟩
          rw [hcn, b2i_t c0, if_neg (by decide)]
          refine k_within ⟨_, rfl, ?_⟩
          rw [b2i_t c1, if_neg (by decide)]
          refine c_vanOf hC.2.1 hC.2.2 ⟨_, rfl, ?_⟩
          rw [if_neg (by omega)]
          exact hK I FS_refl
        · have mJ : MF (I 238) (LM I 238 114) J := MF_238 (rel_MF h) (fs238 f)
          refine e228 ?_
          unfold D228_0
          refine n_isOrder hG mJ ⟨_, rfl, ?_⟩
          rw [b2i_t c0, if_neg (by decide)]
          refine m_isIn ⟨_, rfl, ?_⟩
          rw [b2i_t c1, if_neg (by decide)]
          refine n_isLeft mJ ⟨_, rfl, ?_⟩
          rw [b2i_f cv, if_pos rfl]
          exact hK J FS_refl
    · refine both_q (-2) h (fun K hK => ?_) (fun J f hJ K hK => ?_)
      · refine e101 ?_
        unfold D101_0
        refine k_isOrder ⟨_, rfl, ?_⟩
        rw [hcn, b2i_t c0, if_neg (by decide)]
        refine k_within ⟨_, rfl, ?_⟩
        rw [b2i_f c1, if_pos rfl]
        exact hK I FS_refl
      · have mJ : MF (I 238) (LM I 238 114) J := MF_238 (rel_MF h) (fs238 f)
        refine e228 ?_
        unfold D228_0
        refine n_isOrder hG mJ ⟨_, rfl, ?_⟩
        rw [b2i_t c0, if_neg (by decide)]
        refine m_isIn ⟨_, rfl, ?_⟩
        rw [b2i_f c1, if_pos rfl]
        exact hK J FS_refl
  · refine both_q (-1) h (fun K hK => ?_) (fun J f hJ K hK => ?_)
    · refine e101 ?_
      unfold D101_0
      refine k_isOrder ⟨_, rfl, ?_⟩
      rw [hcn, b2i_f c0, if_pos rfl]
      exact hK I FS_refl
    · have mJ : MF (I 238) (LM I 238 114) J := MF_238 (rel_MF h) (fs238 f)
      refine e228 ?_
      unfold D228_0
      refine n_isOrder hG mJ ⟨_, rfl, ?_⟩
      rw [b2i_f c0, if_pos rfl]
      exact hK J FS_refl
theorem s_first {x1 : Int} {I : IM} (h : REL I) : BOTH 103 231 [vI x1] I := by
  have hG := h.1.1
  have hV := rel_VR h
  have hC := rel_CF h
  by_cases c1 : 1 ≤ x1 ∧ x1 ≤ 4
  · obtain ⟨k, rfl⟩ : ∃ v : Nat, x1 = v := ⟨x1.toNat, by omega⟩
    refine both_q (e5F (frs (I 238) (LM I 238 114) k)) h (fun K hK => ?_) (fun J f hJ K hK => ?_)
    · refine e103 ?_
      unfold D103_0
      refine k_within ⟨_, rfl, ?_⟩
      rw [b2i_t c1, if_neg (by decide)]
      refine c_choose hG hV hC (by omega) fun J1 f1 s6 s7 => ⟨rfl, ?_⟩
      rw [s6]
      exact k_orLacking ⟨_, rfl, hK J1 (fs_fw f1)⟩
    · have mJ : MF (I 238) (LM I 238 114) J := MF_238 (rel_MF h) (fs238 f)
      refine e231 ?_
      unfold D231_0
      refine m_isIn ⟨_, rfl, ?_⟩
      rw [b2i_t c1, if_neg (by decide)]
      exact n_firstOf hG hV mJ (by omega) fun J1 f1 => ⟨_, rfl, hK J1 (fs_fx f1)⟩
  · refine both_q (-2) h (fun K hK => ?_) (fun J f hJ K hK => ?_)
    · refine e103 ?_
      unfold D103_0
      refine k_within ⟨_, rfl, ?_⟩
      rw [b2i_f c1, if_pos rfl]
      exact hK I FS_refl
    · refine e231 ?_
      unfold D231_0
      refine m_isIn ⟨_, rfl, ?_⟩
      rw [b2i_f c1, if_pos rfl]
      exact hK J FS_refl
/-- the end of an act that is a step, if it did anything -/
theorem cs_keep {I J2 J3 : IM} {R' : Nat → List Int} {G : Nat → Int} (c2 : CF G R' J2) (fb : ∀ o k, ¬ SCR o k → (o < 29 ∨ 35 < o) → (o < 78 ∨ 191 < o) → J2 o k = I o k) (f3 : ∀ o k, (o < 78 ∨ 191 < o) → J3 o k = J2 o k) (ck : CK I J3 true) : CS I J3 R' true :=
  ⟨fun o k a b c => (f3 o k c).trans (fb o k a b c), fun v hv => by rw [f3 _ _ (by omega)]; exact c2.2.1 v hv, fun v hv => (LC_cg (f3 _ _ (by omega)) (fun k => f3 _ _ (by omega))).trans (c2.2.2 v hv), ck⟩
theorem fc_fb {I J1 J2 : IM} (f1 : ∀ o k, ¬ (72 ≤ o ∧ o ≤ 77) → J1 o k = I o k) (f2 : FC J1 J2) : ∀ o k, ¬ SCR o k → (o < 29 ∨ 35 < o) → (o < 78 ∨ 191 < o) → J2 o k = I o k := fun o k a b c => by
  unfold SCR at a
  rw [f2 o k (by omega), f1 o k (by omega)]
theorem c_tail {n : Nat} {I J1 J2 : IM} {R' : Nat → List Int} {K : Option AV → IM → Prop} (h : REL I) (f1 : ∀ o k, ¬ (72 ≤ o ∧ o ≤ 77) → J1 o k = I o k) (s1 : SZC J1 71) (l1 : ∀ v, v < 4 → LC J1 71 v = LC I 29 v) (f2 : FC J1 J2) (c2 : CF (I 238) R' J2) (hK : ∀ J, CS I J R' (decide (0 < n)) → K (some (vI (n : Int))) J) : if (n : Int) ≤ 0 then K (some (vI (n : Int))) J2 else CALL S0 77 [vR 78, vR 71] J2 (fun v I8 => v = none ∧ K (some (vI (n : Int))) I8) := by
  have fb := fc_fb f1 f2
  by_cases z : n = 0
  · rw [if_pos (by omega)]
    rw [decide_eq_false (by omega)] at hK
    exact hK J2 ⟨fb, c2.2.1, c2.2.2, fun o k a b => by rw [f2 o k (by omega), f1 o k (by omega)]⟩
  · rw [if_neg (by omega)]
    rw [decide_eq_true (by omega)] at hK
    exact c_keep (I := I) h rd71 (Or.inr rfl) (fun v hv => by rw [f2 _ _ (by omega)]; exact s1 v hv) (fun v hv => (LC_cg (f2 _ _ (by omega)) (fun k => f2 _ _ (by omega))).trans (l1 v hv)) (fun o k a b => by rw [f2 o k (by omega), f1 o k (by omega)]) fun J3 f3 ck => ⟨rfl, hK J3 (cs_keep c2 fb f3 ck)⟩
theorem n_tail {n : Nat} {J J1 J2 : IM} {G : Nat → Int} {R' : Nat → List Int} {K : Option AV → IM → Prop} (hc : ∃ c : Nat, J 237 4 = c ∧ c ≤ 16) (f1 : ∀ o k, o ≠ 247 → J1 o k = J o k) (k1 : ∀ k, k < 52 → J1 247 k = J 238 (114 + k)) (f2 : FM J1 J2) (m2 : MF G R' J2) (hK : ∀ J', MS J J' R' (decide (0 < n)) → K (some (vI (n : Int))) J') : if (n : Int) ≤ 0 then K (some (vI (n : Int))) J2 else CALL S0 203 [vR 237] J2 (fun v I8 => v = none ∧ K (some (vI (n : Int))) I8) := by
  have fb : ∀ o k, ¬ SCR o k → (o ≠ 238 ∨ k < 114) → J2 o k = J o k := fun o k a b => by
    unfold SCR at a
    rw [f2 o k (by omega), f1 o k (by omega)]
  have e40 : J2 240 = J 240 := funext fun k => by rw [f2 240 k (by omega), f1 240 k (by omega)]
  have e4 : J2 237 4 = J 237 4 := by rw [f2 237 4 (by omega), f1 237 4 (by omega)]
  by_cases z : n = 0
  · rw [if_pos (by omega)]
    rw [decide_eq_false (by omega)] at hK
    exact hK J2 ⟨fun o k a b _ _ => fb o k a b, m2.2.1, m2.2.2, e40, e4⟩
  · rw [if_neg (by omega)]
    rw [decide_eq_true (by omega)] at hK
    refine n_steps (I := J) hc e4 e40 (fun k hk => by rw [f2 247 k (by omega)]; exact k1 k hk) fun J3 f3 mk => ⟨rfl, hK J3 ⟨fun o k a b c d => (f3 o k c d).trans (fb o k a b), ?_, ?_, mk⟩⟩
    · exact (MF_238 m2 (funext fun k => f3 238 k (by decide) (by omega))).2.1
    · exact (MF_238 m2 (funext fun k => f3 238 k (by decide) (by omega))).2.2
theorem n_marks {J : IM} {K : Option AV → IM → Prop} (h : ∀ J1, (∀ o k, o ≠ 247 → J1 o k = J o k) → (∀ k, k < 52 → J1 247 k = J 238 (114 + k)) → K none J1) : CALL S0 202 [vR 237] J K :=
  m_marks (h _ (fun o k a => cpd_out (Or.inl a)) (fun k hk => by rw [cpd_in (by omega) (by omega)]; congr 1))
theorem jst {I J : IM} (h : REL I) (e : J 237 4 = I 237 4) : ∃ c : Nat, J 237 4 = c ∧ c ≤ 16 := by rw [e]; exact rel_st h
theorem s_fill {x1 : Int} {I : IM} (h : REL I) : BOTH 106 233 [vI x1] I := by
  have hG := h.1.1
  have hV := rel_VR h
  have hC := rel_CF h
  by_cases c1 : 1 ≤ x1 ∧ x1 ≤ 4
  · obtain ⟨k, rfl⟩ : ∃ v : Nat, x1 = v := ⟨x1.toNat, by omega⟩
    refine both_r ((fiF (I 238) k 12 (LM I 238 114)).2 : Nat) (fiF (I 238) k 12 (LM I 238 114)).1 (decide (0 < (fiF (I 238) k 12 (LM I 238 114)).2)) h (fiF_VR hG 12 _ hV) (fun K hK => ?_) (fun J hJ eJ K hK => ?_)
    · refine e106 ?_
      unfold D106_0
      refine k_within ⟨_, rfl, ?_⟩
      rw [b2i_t c1, if_neg (by decide)]
      refine k_copy rd71 rd29 (by decide) hC.2.1 fun J1 f1 s1 l1 => ⟨rfl, ?_⟩
      have C1 := CF_fr hC (J' := J1) (fun o k a => f1 o k (by omega))
      refine c_fillBy hG hV C1 (by omega) fun J2 f2 c2 => ⟨_, rfl, ?_⟩
      exact c_tail h (fun o k a => f1 o k (by omega)) s1 l1 f2 c2 hK
    · have mJ : MF (I 238) (LM I 238 114) J := MF_238 (rel_MF h) eJ
      refine e233 ?_
      unfold D233_0
      refine m_isIn ⟨_, rfl, ?_⟩
      rw [b2i_t c1, if_neg (by decide)]
      refine n_marks fun J1 f1 k1 => ⟨rfl, ?_⟩
      have M1 := MF_238 mJ (J' := J1) (funext fun j => f1 238 j (by decide))
      refine n_fills hG hV M1 (by omega) fun J2 f2 m2 => ⟨_, rfl, ?_⟩
      exact n_tail (jst h (hJ.1 237 4 (by unfold SCR; omega) (by omega) (by omega))) f1 k1 f2 m2 hK
  · refine both_q (-2) h (fun K hK => ?_) (fun J f hJ K hK => ?_)
    · refine e106 ?_
      unfold D106_0
      refine k_within ⟨_, rfl, ?_⟩
      rw [b2i_f c1, if_pos rfl]
      exact hK I FS_refl
    · refine e233 ?_
      unfold D233_0
      refine m_isIn ⟨_, rfl, ?_⟩
      rw [b2i_f c1, if_pos rfl]
      exact hK J FS_refl
theorem s_ruin {x1 x2 : Int} {I : IM} (h : REL I) : BOTH 108 235 [vI x1, vI x2] I := by
  have hcn : I 1 0 = I 238 5 := h.1.2.1
  have hG := h.1.1
  have hV := rel_VR h
  have hC := rel_CF h
  by_cases c0 : 0 ≤ x1 ∧ x1 < I 238 5
  · by_cases c1 : 1 ≤ x2 ∧ x2 ≤ 12
    · obtain ⟨n, rfl⟩ : ∃ v : Nat, x2 = v := ⟨x2.toNat, by omega⟩
      refine both_r ((ruF (I 238) x1 n (LM I 238 114)).2 : Nat) (ruF (I 238) x1 n (LM I 238 114)).1 (decide (0 < (ruF (I 238) x1 n (LM I 238 114)).2)) h (ruF_VR hG n _ hV) (fun K hK => ?_) (fun J hJ eJ K hK => ?_)
      · refine e108 ?_
        unfold D108_0
        refine k_isOrder ⟨_, rfl, ?_⟩
        rw [hcn, b2i_t c0, if_neg (by decide)]
        refine k_within ⟨_, rfl, ?_⟩
        rw [b2i_t c1, if_neg (by decide)]
        refine k_copy rd71 rd29 (by decide) hC.2.1 fun J1 f1 s1 l1 => ⟨rfl, ?_⟩
        have C1 := CF_fr hC (J' := J1) (fun o k a => f1 o k (by omega))
        refine c_ruin hG hV C1 c0 (by omega) fun J2 f2 c2 => ⟨_, rfl, ?_⟩
        exact c_tail h (fun o k a => f1 o k (by omega)) s1 l1 f2 c2 hK
      · have mJ : MF (I 238) (LM I 238 114) J := MF_238 (rel_MF h) eJ
        refine e235 ?_
        unfold D235_0
        refine n_isOrder hG mJ ⟨_, rfl, ?_⟩
        rw [b2i_t c0, if_neg (by decide)]
        refine m_isIn ⟨_, rfl, ?_⟩
        rw [b2i_t c1, if_neg (by decide)]
        refine n_marks fun J1 f1 k1 => ⟨rfl, ?_⟩
        have M1 := MF_238 mJ (J' := J1) (funext fun j => f1 238 j (by decide))
        refine n_ruins hG hV M1 c0 (by omega) fun J2 f2 m2 => ⟨_, rfl, ?_⟩
        exact n_tail (jst h (hJ.1 237 4 (by unfold SCR; omega) (by omega) (by omega))) f1 k1 f2 m2 hK
    · refine both_q (-2) h (fun K hK => ?_) (fun J f hJ K hK => ?_)
      · refine e108 ?_
        unfold D108_0
        refine k_isOrder ⟨_, rfl, ?_⟩
        rw [hcn, b2i_t c0, if_neg (by decide)]
        refine k_within ⟨_, rfl, ?_⟩
        rw [b2i_f c1, if_pos rfl]
        exact hK I FS_refl
      · have mJ : MF (I 238) (LM I 238 114) J := MF_238 (rel_MF h) (fs238 f)
        refine e235 ?_
        unfold D235_0
        refine n_isOrder hG mJ ⟨_, rfl, ?_⟩
        rw [b2i_t c0, if_neg (by decide)]
        refine m_isIn ⟨_, rfl, ?_⟩
        rw [b2i_f c1, if_pos rfl]
        exact hK J FS_refl
  · refine both_q (-1) h (fun K hK => ?_) (fun J f hJ K hK => ?_)
    · refine e108 ?_
      unfold D108_0
      refine k_isOrder ⟨_, rfl, ?_⟩
      rw [hcn, b2i_f c0, if_pos rfl]
      exact hK I FS_refl
    · have mJ : MF (I 238) (LM I 238 114) J := MF_238 (rel_MF h) (fs238 f)
      refine e235 ?_
      unfold D235_0
      refine n_isOrder hG mJ ⟨_, rfl, ?_⟩
      rw [b2i_f c0, if_pos rfl]
      exact hK J FS_refl
