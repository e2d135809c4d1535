/-! level 2: class and model call by call: told, row, set, get -/
theorem vb_f : ∀ b0 b1 b2 b3 : Bool, iorF (iorF (iorF (cond b0 0 1) (cond b1 0 2)) (cond b2 0 4)) (cond b3 0 8) = cond b3 (cond b2 (cond b1 (cond b0 0 (iorF 0 (ishlF 1 0))) (iorF (cond b0 0 (iorF 0 (ishlF 1 0))) (ishlF 1 1))) (iorF (cond b1 (cond b0 0 (iorF 0 (ishlF 1 0))) (iorF (cond b0 0 (iorF 0 (ishlF 1 0))) (ishlF 1 1))) (ishlF 1 2))) (iorF (cond b2 (cond b1 (cond b0 0 (iorF 0 (ishlF 1 0))) (iorF (cond b0 0 (iorF 0 (ishlF 1 0))) (ishlF 1 1))) (iorF (cond b1 (cond b0 0 (iorF 0 (ishlF 1 0))) (iorF (cond b0 0 (iorF 0 (ishlF 1 0))) (ishlF 1 1))) (ishlF 1 2))) (ishlF 1 3)) := by decide +kernel
theorem k_vanBits {J : IM} {K : Option AV → IM → Prop} (h : K (some (vI (iorF (iorF (iorF (cond (decide (J 30 0 ≤ 0)) 0 1) (cond (decide (J 30 1 ≤ 0)) 0 2)) (cond (decide (J 30 2 ≤ 0)) 0 4)) (cond (decide (J 30 3 ≤ 0)) 0 8)))) J) : CALL S0 115 [vR 29] J K := by
  refine e115 rd29 ?_
  unfold D115_0
  rw [vb_f] at h
  have step : ∀ v : Nat, v < 4 → ∀ x : Int, GO S0 115 4 [vR 29, vI (cond (decide (J 30 v ≤ 0)) x (iorF x (ishlF 1 (v : Int)))), vI ((v : Int) + 1)] [] J K → GO S0 115 4 [vR 29, vI x, vI (v : Int)] [] J K := by
    intro v hv x hx
    refine g115_4 29 rd29 _ _ J K ?_
    unfold D115_4 inR
    rw [if_neg (by omega), Int.toNat_natCast]
    refine ⟨by omega, ?_⟩
    split
    · rename_i c
      rw [decide_eq_true (show J 30 v ≤ 0 from c)] at hx
      exact ⟨by omega, hx⟩
    · rename_i c
      rw [decide_eq_false (show ¬ J 30 v ≤ 0 from c)] at hx
      exact ⟨by omega, hx⟩
  refine step 0 (by omega) _ (step 1 (by omega) _ (step 2 (by omega) _ (step 3 (by omega) _ ?_)))
  refine g115_4 29 rd29 _ _ J K ?_
  unfold D115_4
  rw [if_pos (by omega)]
  exact h
theorem s_told {x1 : Int} {I : IM} (h : REL I) : BOTH 114 240 [vI x1] I := by
  have hcn : I 1 0 = I 238 5 := h.1.2.1
  have hn := h.1.1.1
  have rs := rr_sum h.2.1
  have sz0 : 0 ≤ I 30 0 ∧ I 30 0 ≤ 12 := h.2.1.1 0 (by omega)
  have sz1 : 0 ≤ I 30 1 ∧ I 30 1 ≤ 12 := h.2.1.1 1 (by omega)
  have sz2 : 0 ≤ I 30 2 ∧ I 30 2 ≤ 12 := h.2.1.1 2 (by omega)
  have sz3 : 0 ≤ I 30 3 ∧ I 30 3 ≤ 12 := h.2.1.1 3 (by omega)
  have fl := h.1.2.2.2.2.2.2.1
  by_cases c : (0 ≤ x1 ∧ x1 ≤ 10) ∨ (20 ≤ x1 ∧ x1 ≤ 31)
  · rcases (show x1 = 0 ∨ x1 = 1 ∨ x1 = 2 ∨ x1 = 3 ∨ x1 = 4 ∨ x1 = 5 ∨ x1 = 6 ∨ x1 = 7 ∨ x1 = 8 ∨ x1 = 9 ∨ x1 = 10 ∨ x1 = 20 ∨ x1 = 21 ∨ x1 = 22 ∨ x1 = 23 ∨ x1 = 24 ∨ x1 = 25 ∨ x1 = 26 ∨ x1 = 27 ∨ x1 = 28 ∨ x1 = 29 ∨ x1 = 30 ∨ x1 = 31 by omega) with e | e | e | e | e | e | e | e | e | e | e | e | e | e | e | e | e | e | e | e | e | e | e <;> subst e
    · refine both_q (I 238 5) h (fun K hK => ?_) (fun J f hJ K hK => ?_)
      · refine e114 ?_
        unfold D114_0
        refine k_within ⟨_, rfl, ?_⟩
        rw [show b2i ((20 : Int) ≤ 0 ∧ (0 : Int) ≤ 23) = 0 from rfl, if_pos rfl]
        refine k_within ⟨_, rfl, ?_⟩
        rw [show b2i ((24 : Int) ≤ 0 ∧ (0 : Int) ≤ 27) = 0 from rfl, if_pos rfl]
        refine k_within ⟨_, rfl, ?_⟩
        rw [show b2i ((28 : Int) ≤ 0 ∧ (0 : Int) ≤ 31) = 0 from rfl, if_pos rfl]
        rw [if_pos rfl]
        rw [hcn]
        exact hK I FS_refl
      · refine e240 ?_
        unfold D240_0
        refine m_isIn ⟨_, rfl, ?_⟩
        rw [show b2i ((20 : Int) ≤ 0 ∧ (0 : Int) ≤ 31) = 0 from rfl, if_pos rfl, if_pos rfl]
        rw [fs238 f]
        exact hK J FS_refl
    · refine both_q (I 238 5 - (I 30 0 + I 30 1 + I 30 2 + I 30 3)) h (fun K hK => ?_) (fun J f hJ K hK => ?_)
      · refine e114 ?_
        unfold D114_0
        refine k_within ⟨_, rfl, ?_⟩
        rw [show b2i ((20 : Int) ≤ 1 ∧ (1 : Int) ≤ 23) = 0 from rfl, if_pos rfl]
        refine k_within ⟨_, rfl, ?_⟩
        rw [show b2i ((24 : Int) ≤ 1 ∧ (1 : Int) ≤ 27) = 0 from rfl, if_pos rfl]
        refine k_within ⟨_, rfl, ?_⟩
        rw [show b2i ((28 : Int) ≤ 1 ∧ (1 : Int) ≤ 31) = 0 from rfl, if_pos rfl]
        rw [if_neg (by decide), if_pos rfl]
        refine k_stopsInAll rd29 h.2.1.1 ⟨_, rfl, ?_⟩
        rw [hcn]
        unfold inR
        refine ⟨?_, hK I FS_refl⟩
        show -2147483648 ≤ I 238 5 - (I 30 0 + I 30 1 + I 30 2 + I 30 3) ∧ I 238 5 - (I 30 0 + I 30 1 + I 30 2 + I 30 3) ≤ 2147483647
        omega
      · refine e240 ?_
        unfold D240_0
        refine m_isIn ⟨_, rfl, ?_⟩
        rw [show b2i ((20 : Int) ≤ 1 ∧ (1 : Int) ≤ 31) = 0 from rfl, if_pos rfl, if_neg (by decide), if_pos rfl]
        refine e241 ?_
        unfold D241_0 inR
        have s0 : I 238 (114 + 13 * (0 : Int).toNat) = I 30 0 := (rr_sz h.2.1 (v := 0) (by omega)).symm
        have s1 : I 238 (114 + 13 * (1 : Int).toNat) = I 30 1 := (rr_sz h.2.1 (v := 1) (by omega)).symm
        have s2 : I 238 (114 + 13 * (2 : Int).toNat) = I 30 2 := (rr_sz h.2.1 (v := 2) (by omega)).symm
        have s3 : I 238 (114 + 13 * (3 : Int).toNat) = I 30 3 := (rr_sz h.2.1 (v := 3) (by omega)).symm
        refine m_stopsOf (by omega) ⟨_, rfl, ?_⟩
        rw [fs238 f, s0]
        refine ⟨by omega, m_stopsOf (by omega) ⟨_, rfl, ?_⟩⟩
        rw [fs238 f, s1]
        refine ⟨by omega, m_stopsOf (by omega) ⟨_, rfl, ?_⟩⟩
        rw [fs238 f, s2]
        refine ⟨by omega, m_stopsOf (by omega) ⟨_, rfl, ?_⟩⟩
        rw [fs238 f, s3]
        refine ⟨by omega, _, rfl, ?_⟩
        rw [show I 238 5 - I 30 0 - I 30 1 - I 30 2 - I 30 3 = I 238 5 - (I 30 0 + I 30 1 + I 30 2 + I 30 3) by omega]
        exact hK J FS_refl
    · refine both_q (iorF (iorF (iorF (cond (decide (I 30 0 ≤ 0)) 0 1) (cond (decide (I 30 1 ≤ 0)) 0 2)) (cond (decide (I 30 2 ≤ 0)) 0 4)) (cond (decide (I 30 3 ≤ 0)) 0 8)) h (fun K hK => ?_) (fun J f hJ K hK => ?_)
      · refine e114 ?_
        unfold D114_0
        refine k_within ⟨_, rfl, ?_⟩
        rw [show b2i ((20 : Int) ≤ 2 ∧ (2 : Int) ≤ 23) = 0 from rfl, if_pos rfl]
        refine k_within ⟨_, rfl, ?_⟩
        rw [show b2i ((24 : Int) ≤ 2 ∧ (2 : Int) ≤ 27) = 0 from rfl, if_pos rfl]
        refine k_within ⟨_, rfl, ?_⟩
        rw [show b2i ((28 : Int) ≤ 2 ∧ (2 : Int) ≤ 31) = 0 from rfl, if_pos rfl]
        rw [if_neg (by decide), if_neg (by decide), if_pos rfl]
        exact k_vanBits ⟨_, rfl, hK I FS_refl⟩
      · refine e240 ?_
        unfold D240_0
        refine m_isIn ⟨_, rfl, ?_⟩
        rw [show b2i ((20 : Int) ≤ 2 ∧ (2 : Int) ≤ 31) = 0 from rfl, if_pos rfl, if_neg (by decide), if_neg (by decide), if_pos rfl]
        have s0 : I 238 (114 + 13 * (0 : Int).toNat) = I 30 0 := (rr_sz h.2.1 (v := 0) (by omega)).symm
        have s1 : I 238 (114 + 13 * (1 : Int).toNat) = I 30 1 := (rr_sz h.2.1 (v := 1) (by omega)).symm
        have s2 : I 238 (114 + 13 * (2 : Int).toNat) = I 30 2 := (rr_sz h.2.1 (v := 2) (by omega)).symm
        have s3 : I 238 (114 + 13 * (3 : Int).toNat) = I 30 3 := (rr_sz h.2.1 (v := 3) (by omega)).symm
        have hh := hK J FS_refl
        have d3 : ∀ t0 t1 : Int, iorF (iorF t0 t1) (cond (decide (I 30 3 ≤ 0)) 0 8) = (iorF (iorF (iorF (cond (decide (I 30 0 ≤ 0)) 0 1) (cond (decide (I 30 1 ≤ 0)) 0 2)) (cond (decide (I 30 2 ≤ 0)) 0 4)) (cond (decide (I 30 3 ≤ 0)) 0 8)) → D240_144 2 t0 t1 J K := by
          intro t0 t1 et
          rw [← et] at hh
          unfold D240_144
          refine m_stopsOf (by omega) ⟨_, rfl, ?_⟩
          rw [fs238 f, s3]
          split
          · rename_i c; rw [decide_eq_true c] at hh; exact hh
          · rename_i c; rw [decide_eq_false c] at hh; exact hh
        have d2 : ∀ t0 t1 : Int, iorF t0 t1 = iorF (cond (decide (I 30 0 ≤ 0)) 0 1) (cond (decide (I 30 1 ≤ 0)) 0 2) → D240_130 2 t0 t1 J K := by
          intro t0 t1 et
          unfold D240_130
          refine m_stopsOf (by omega) ⟨_, rfl, ?_⟩
          rw [fs238 f, s2, et]
          split
          · rename_i c; exact d3 _ _ (by rw [decide_eq_true c]; rfl)
          · rename_i c; exact d3 _ _ (by rw [decide_eq_false c]; rfl)
        have d1 : ∀ t0 : Int, t0 = cond (decide (I 30 0 ≤ 0)) 0 1 → D240_117 2 t0 J K := by
          intro t0 et
          unfold D240_117
          refine m_stopsOf (by omega) ⟨_, rfl, ?_⟩
          rw [fs238 f, s1, et]
          split
          · rename_i c; exact d2 _ _ (by rw [decide_eq_true c]; rfl)
          · rename_i c; exact d2 _ _ (by rw [decide_eq_false c]; rfl)
        refine m_stopsOf (by omega) ⟨_, rfl, ?_⟩
        rw [fs238 f, s0]
        split
        · rename_i c; exact d1 _ (by rw [decide_eq_true c]; rfl)
        · rename_i c; exact d1 _ (by rw [decide_eq_false c]; rfl)
    · refine both_q (I 237 4) h (fun K hK => ?_) (fun J f hJ K hK => ?_)
      · refine e114 ?_
        unfold D114_0
        refine k_within ⟨_, rfl, ?_⟩
        rw [show b2i ((20 : Int) ≤ 3 ∧ (3 : Int) ≤ 23) = 0 from rfl, if_pos rfl]
        refine k_within ⟨_, rfl, ?_⟩
        rw [show b2i ((24 : Int) ≤ 3 ∧ (3 : Int) ≤ 27) = 0 from rfl, if_pos rfl]
        refine k_within ⟨_, rfl, ?_⟩
        rw [show b2i ((28 : Int) ≤ 3 ∧ (3 : Int) ≤ 31) = 0 from rfl, if_pos rfl]
        rw [if_neg (by decide), if_neg (by decide), if_neg (by decide), if_pos rfl]
        rw [(show I 78 2 = I 237 4 by obtain ⟨c, n, a1, a2, _⟩ := h.2.2.2.1; omega)]
        exact hK I FS_refl
      · refine e240 ?_
        unfold D240_0
        refine m_isIn ⟨_, rfl, ?_⟩
        rw [show b2i ((20 : Int) ≤ 3 ∧ (3 : Int) ≤ 31) = 0 from rfl, if_pos rfl, if_neg (by decide), if_neg (by decide), if_neg (by decide), if_pos rfl]
        rw [f 237 4 (by unfold SCR; omega)]
        exact hK J FS_refl
    · refine both_q (I 237 16) h (fun K hK => ?_) (fun J f hJ K hK => ?_)
      · refine e114 ?_
        unfold D114_0
        refine k_within ⟨_, rfl, ?_⟩
        rw [show b2i ((20 : Int) ≤ 4 ∧ (4 : Int) ≤ 23) = 0 from rfl, if_pos rfl]
        refine k_within ⟨_, rfl, ?_⟩
        rw [show b2i ((24 : Int) ≤ 4 ∧ (4 : Int) ≤ 27) = 0 from rfl, if_pos rfl]
        refine k_within ⟨_, rfl, ?_⟩
        rw [show b2i ((28 : Int) ≤ 4 ∧ (4 : Int) ≤ 31) = 0 from rfl, if_pos rfl]
        rw [if_neg (by decide), if_neg (by decide), if_neg (by decide), if_neg (by decide), if_pos rfl]
        rw [h.2.2.2.2.1.1]
        exact hK I FS_refl
      · refine e240 ?_
        unfold D240_0
        refine m_isIn ⟨_, rfl, ?_⟩
        rw [show b2i ((20 : Int) ≤ 4 ∧ (4 : Int) ≤ 31) = 0 from rfl, if_pos rfl, if_neg (by decide), if_neg (by decide), if_neg (by decide), if_neg (by decide), if_pos rfl]
        rw [f 237 16 (by unfold SCR; omega)]
        exact hK J FS_refl
    · refine both_q (I 237 18) h (fun K hK => ?_) (fun J f hJ K hK => ?_)
      · refine e114 ?_
        unfold D114_0
        refine k_within ⟨_, rfl, ?_⟩
        rw [show b2i ((20 : Int) ≤ 5 ∧ (5 : Int) ≤ 23) = 0 from rfl, if_pos rfl]
        refine k_within ⟨_, rfl, ?_⟩
        rw [show b2i ((24 : Int) ≤ 5 ∧ (5 : Int) ≤ 27) = 0 from rfl, if_pos rfl]
        refine k_within ⟨_, rfl, ?_⟩
        rw [show b2i ((28 : Int) ≤ 5 ∧ (5 : Int) ≤ 31) = 0 from rfl, if_pos rfl]
        rw [if_neg (by decide), if_neg (by decide), if_neg (by decide), if_neg (by decide), if_neg (by decide), if_pos rfl]
        rw [h.2.2.2.2.2.1.1]
        exact hK I FS_refl
      · refine e240 ?_
        unfold D240_0
        refine m_isIn ⟨_, rfl, ?_⟩
        rw [show b2i ((20 : Int) ≤ 5 ∧ (5 : Int) ≤ 31) = 0 from rfl, if_pos rfl, if_neg (by decide), if_neg (by decide), if_neg (by decide), if_neg (by decide), if_neg (by decide), if_pos rfl]
        rw [f 237 18 (by unfold SCR; omega)]
        exact hK J FS_refl
    · refine both_q (I 238 (2 + 0)) h (fun K hK => ?_) (fun J f hJ K hK => ?_)
      · refine e114 ?_
        unfold D114_0
        refine k_within ⟨_, rfl, ?_⟩
        rw [show b2i ((20 : Int) ≤ 6 ∧ (6 : Int) ≤ 23) = 0 from rfl, if_pos rfl]
        refine k_within ⟨_, rfl, ?_⟩
        rw [show b2i ((24 : Int) ≤ 6 ∧ (6 : Int) ≤ 27) = 0 from rfl, if_pos rfl]
        refine k_within ⟨_, rfl, ?_⟩
        rw [show b2i ((28 : Int) ≤ 6 ∧ (6 : Int) ≤ 31) = 0 from rfl, if_pos rfl]
        rw [if_neg (by decide), if_neg (by decide), if_neg (by decide), if_neg (by decide), if_neg (by decide), if_neg (by decide), if_pos rfl]
        have hh := hK I FS_refl
        rw [← h.1.2.2.2.2.2.2.2 0 (by omega)] at hh
        exact hh
      · refine e240 ?_
        unfold D240_0
        refine m_isIn ⟨_, rfl, ?_⟩
        rw [show b2i ((20 : Int) ≤ 6 ∧ (6 : Int) ≤ 31) = 0 from rfl, if_pos rfl, if_neg (by decide), if_neg (by decide), if_neg (by decide), if_neg (by decide), if_neg (by decide), if_neg (by decide), if_pos rfl]
        refine ⟨by decide, by decide, by decide, ?_⟩
        rw [fs238 f]
        exact hK J FS_refl
    · refine both_q (I 238 (2 + 1)) h (fun K hK => ?_) (fun J f hJ K hK => ?_)
      · refine e114 ?_
        unfold D114_0
        refine k_within ⟨_, rfl, ?_⟩
        rw [show b2i ((20 : Int) ≤ 7 ∧ (7 : Int) ≤ 23) = 0 from rfl, if_pos rfl]
        refine k_within ⟨_, rfl, ?_⟩
        rw [show b2i ((24 : Int) ≤ 7 ∧ (7 : Int) ≤ 27) = 0 from rfl, if_pos rfl]
        refine k_within ⟨_, rfl, ?_⟩
        rw [show b2i ((28 : Int) ≤ 7 ∧ (7 : Int) ≤ 31) = 0 from rfl, if_pos rfl]
        rw [if_neg (by decide), if_neg (by decide), if_neg (by decide), if_neg (by decide), if_neg (by decide), if_neg (by decide), if_neg (by decide), if_pos rfl]
        have hh := hK I FS_refl
        rw [← h.1.2.2.2.2.2.2.2 1 (by omega)] at hh
        exact hh
      · refine e240 ?_
        unfold D240_0
        refine m_isIn ⟨_, rfl, ?_⟩
        rw [show b2i ((20 : Int) ≤ 7 ∧ (7 : Int) ≤ 31) = 0 from rfl, if_pos rfl, if_neg (by decide), if_neg (by decide), if_neg (by decide), if_neg (by decide), if_neg (by decide), if_neg (by decide), if_neg (by decide), if_pos rfl]
        refine ⟨by decide, by decide, by decide, ?_⟩
        rw [fs238 f]
        exact hK J FS_refl
    · refine both_q (I 238 (2 + 2)) h (fun K hK => ?_) (fun J f hJ K hK => ?_)
      · refine e114 ?_
        unfold D114_0
        refine k_within ⟨_, rfl, ?_⟩
        rw [show b2i ((20 : Int) ≤ 8 ∧ (8 : Int) ≤ 23) = 0 from rfl, if_pos rfl]
        refine k_within ⟨_, rfl, ?_⟩
        rw [show b2i ((24 : Int) ≤ 8 ∧ (8 : Int) ≤ 27) = 0 from rfl, if_pos rfl]
        refine k_within ⟨_, rfl, ?_⟩
        rw [show b2i ((28 : Int) ≤ 8 ∧ (8 : Int) ≤ 31) = 0 from rfl, if_pos rfl]
        rw [if_neg (by decide), if_neg (by decide), if_neg (by decide), if_neg (by decide), if_neg (by decide), if_neg (by decide), if_neg (by decide), if_neg (by decide), if_pos rfl]
        have hh := hK I FS_refl
        rw [← h.1.2.2.2.2.2.2.2 2 (by omega)] at hh
        exact hh
      · refine e240 ?_
        unfold D240_0
        refine m_isIn ⟨_, rfl, ?_⟩
        rw [show b2i ((20 : Int) ≤ 8 ∧ (8 : Int) ≤ 31) = 0 from rfl, if_pos rfl, if_neg (by decide), if_neg (by decide), if_neg (by decide), if_neg (by decide), if_neg (by decide), if_neg (by decide), if_neg (by decide), if_neg (by decide), if_pos rfl]
        refine ⟨by decide, by decide, by decide, ?_⟩
        rw [fs238 f]
        exact hK J FS_refl
    · refine both_q (I 238 0) h (fun K hK => ?_) (fun J f hJ K hK => ?_)
      · refine e114 ?_
        unfold D114_0
        refine k_within ⟨_, rfl, ?_⟩
        rw [show b2i ((20 : Int) ≤ 9 ∧ (9 : Int) ≤ 23) = 0 from rfl, if_pos rfl]
        refine k_within ⟨_, rfl, ?_⟩
        rw [show b2i ((24 : Int) ≤ 9 ∧ (9 : Int) ≤ 27) = 0 from rfl, if_pos rfl]
        refine k_within ⟨_, rfl, ?_⟩
        rw [show b2i ((28 : Int) ≤ 9 ∧ (9 : Int) ≤ 31) = 0 from rfl, if_pos rfl]
        rw [if_neg (by decide), if_neg (by decide), if_neg (by decide), if_neg (by decide), if_neg (by decide), if_neg (by decide), if_neg (by decide), if_neg (by decide), if_neg (by decide), if_pos rfl]
        have hh := hK I FS_refl
        rw [← h.1.2.2.2.1.1] at hh
        exact hh
      · refine e240 ?_
        unfold D240_0
        refine m_isIn ⟨_, rfl, ?_⟩
        rw [show b2i ((20 : Int) ≤ 9 ∧ (9 : Int) ≤ 31) = 0 from rfl, if_pos rfl, if_neg (by decide), if_neg (by decide), if_neg (by decide), if_neg (by decide), if_neg (by decide), if_neg (by decide), if_neg (by decide), if_neg (by decide), if_neg (by decide), if_pos rfl]
        refine ⟨by decide, by decide, by decide, ?_⟩
        rw [fs238 f]
        exact hK J FS_refl
    · refine both_q (I 238 1) h (fun K hK => ?_) (fun J f hJ K hK => ?_)
      · refine e114 ?_
        unfold D114_0
        refine k_within ⟨_, rfl, ?_⟩
        rw [show b2i ((20 : Int) ≤ 10 ∧ (10 : Int) ≤ 23) = 0 from rfl, if_pos rfl]
        refine k_within ⟨_, rfl, ?_⟩
        rw [show b2i ((24 : Int) ≤ 10 ∧ (10 : Int) ≤ 27) = 0 from rfl, if_pos rfl]
        refine k_within ⟨_, rfl, ?_⟩
        rw [show b2i ((28 : Int) ≤ 10 ∧ (10 : Int) ≤ 31) = 0 from rfl, if_pos rfl]
        rw [if_neg (by decide), if_neg (by decide), if_neg (by decide), if_neg (by decide), if_neg (by decide), if_neg (by decide), if_neg (by decide), if_neg (by decide), if_neg (by decide), if_neg (by decide), if_pos rfl]
        have hh := hK I FS_refl
        rw [← h.1.2.2.2.1.2] at hh
        exact hh
      · refine e240 ?_
        unfold D240_0
        refine m_isIn ⟨_, rfl, ?_⟩
        rw [show b2i ((20 : Int) ≤ 10 ∧ (10 : Int) ≤ 31) = 0 from rfl, if_pos rfl, if_neg (by decide), if_neg (by decide), if_neg (by decide), if_neg (by decide), if_neg (by decide), if_neg (by decide), if_neg (by decide), if_neg (by decide), if_neg (by decide), if_neg (by decide), if_pos rfl]
        refine ⟨by decide, by decide, by decide, ?_⟩
        rw [fs238 f]
        exact hK J FS_refl
    · refine both_q (I 238 (102 + 3 * 0)) h (fun K hK => ?_) (fun J f hJ K hK => ?_)
      · refine e114 ?_
        unfold D114_0
        refine k_within ⟨_, rfl, ?_⟩
        rw [show b2i ((20 : Int) ≤ 20 ∧ (20 : Int) ≤ 23) = 1 from rfl, if_neg (by decide)]
        refine ⟨by decide, by decide, ?_⟩
        have hh := hK I FS_refl
        rw [← (fl 0 (by omega)).1] at hh
        exact hh
      · refine e240 ?_
        unfold D240_0
        refine m_isIn ⟨_, rfl, ?_⟩
        rw [show b2i ((20 : Int) ≤ 20 ∧ (20 : Int) ≤ 31) = 1 from rfl, if_neg (by decide)]
        refine ⟨by decide, by decide, by decide, by decide, by decide, by decide, by decide, ?_⟩
        rw [fs238 f]
        exact hK J FS_refl
    · refine both_q (I 238 (102 + 3 * 1)) h (fun K hK => ?_) (fun J f hJ K hK => ?_)
      · refine e114 ?_
        unfold D114_0
        refine k_within ⟨_, rfl, ?_⟩
        rw [show b2i ((20 : Int) ≤ 21 ∧ (21 : Int) ≤ 23) = 1 from rfl, if_neg (by decide)]
        refine ⟨by decide, by decide, ?_⟩
        have hh := hK I FS_refl
        rw [← (fl 1 (by omega)).1] at hh
        exact hh
      · refine e240 ?_
        unfold D240_0
        refine m_isIn ⟨_, rfl, ?_⟩
        rw [show b2i ((20 : Int) ≤ 21 ∧ (21 : Int) ≤ 31) = 1 from rfl, if_neg (by decide)]
        refine ⟨by decide, by decide, by decide, by decide, by decide, by decide, by decide, ?_⟩
        rw [fs238 f]
        exact hK J FS_refl
    · refine both_q (I 238 (102 + 3 * 2)) h (fun K hK => ?_) (fun J f hJ K hK => ?_)
      · refine e114 ?_
        unfold D114_0
        refine k_within ⟨_, rfl, ?_⟩
        rw [show b2i ((20 : Int) ≤ 22 ∧ (22 : Int) ≤ 23) = 1 from rfl, if_neg (by decide)]
        refine ⟨by decide, by decide, ?_⟩
        have hh := hK I FS_refl
        rw [← (fl 2 (by omega)).1] at hh
        exact hh
      · refine e240 ?_
        unfold D240_0
        refine m_isIn ⟨_, rfl, ?_⟩
        rw [show b2i ((20 : Int) ≤ 22 ∧ (22 : Int) ≤ 31) = 1 from rfl, if_neg (by decide)]
        refine ⟨by decide, by decide, by decide, by decide, by decide, by decide, by decide, ?_⟩
        rw [fs238 f]
        exact hK J FS_refl
    · refine both_q (I 238 (102 + 3 * 3)) h (fun K hK => ?_) (fun J f hJ K hK => ?_)
      · refine e114 ?_
        unfold D114_0
        refine k_within ⟨_, rfl, ?_⟩
        rw [show b2i ((20 : Int) ≤ 23 ∧ (23 : Int) ≤ 23) = 1 from rfl, if_neg (by decide)]
        refine ⟨by decide, by decide, ?_⟩
        have hh := hK I FS_refl
        rw [← (fl 3 (by omega)).1] at hh
        exact hh
      · refine e240 ?_
        unfold D240_0
        refine m_isIn ⟨_, rfl, ?_⟩
        rw [show b2i ((20 : Int) ≤ 23 ∧ (23 : Int) ≤ 31) = 1 from rfl, if_neg (by decide)]
        refine ⟨by decide, by decide, by decide, by decide, by decide, by decide, by decide, ?_⟩
        rw [fs238 f]
        exact hK J FS_refl
    · refine both_q (I 238 (103 + 3 * 0)) h (fun K hK => ?_) (fun J f hJ K hK => ?_)
      · refine e114 ?_
        unfold D114_0
        refine k_within ⟨_, rfl, ?_⟩
        rw [show b2i ((20 : Int) ≤ 24 ∧ (24 : Int) ≤ 23) = 0 from rfl, if_pos rfl]
        refine k_within ⟨_, rfl, ?_⟩
        rw [show b2i ((24 : Int) ≤ 24 ∧ (24 : Int) ≤ 27) = 1 from rfl, if_neg (by decide)]
        refine ⟨by decide, by decide, ?_⟩
        have hh := hK I FS_refl
        rw [← (fl 0 (by omega)).2.1] at hh
        exact hh
      · refine e240 ?_
        unfold D240_0
        refine m_isIn ⟨_, rfl, ?_⟩
        rw [show b2i ((20 : Int) ≤ 24 ∧ (24 : Int) ≤ 31) = 1 from rfl, if_neg (by decide)]
        refine ⟨by decide, by decide, by decide, by decide, by decide, by decide, by decide, ?_⟩
        rw [fs238 f]
        exact hK J FS_refl
    · refine both_q (I 238 (103 + 3 * 1)) h (fun K hK => ?_) (fun J f hJ K hK => ?_)
      · refine e114 ?_
        unfold D114_0
        refine k_within ⟨_, rfl, ?_⟩
        rw [show b2i ((20 : Int) ≤ 25 ∧ (25 : Int) ≤ 23) = 0 from rfl, if_pos rfl]
        refine k_within ⟨_, rfl, ?_⟩
        rw [show b2i ((24 : Int) ≤ 25 ∧ (25 : Int) ≤ 27) = 1 from rfl, if_neg (by decide)]
        refine ⟨by decide, by decide, ?_⟩
        have hh := hK I FS_refl
        rw [← (fl 1 (by omega)).2.1] at hh
        exact hh
      · refine e240 ?_
        unfold D240_0
        refine m_isIn ⟨_, rfl, ?_⟩
        rw [show b2i ((20 : Int) ≤ 25 ∧ (25 : Int) ≤ 31) = 1 from rfl, if_neg (by decide)]
        refine ⟨by decide, by decide, by decide, by decide, by decide, by decide, by decide, ?_⟩
        rw [fs238 f]
        exact hK J FS_refl
    · refine both_q (I 238 (103 + 3 * 2)) h (fun K hK => ?_) (fun J f hJ K hK => ?_)
      · refine e114 ?_
        unfold D114_0
        refine k_within ⟨_, rfl, ?_⟩
        rw [show b2i ((20 : Int) ≤ 26 ∧ (26 : Int) ≤ 23) = 0 from rfl, if_pos rfl]
        refine k_within ⟨_, rfl, ?_⟩
        rw [show b2i ((24 : Int) ≤ 26 ∧ (26 : Int) ≤ 27) = 1 from rfl, if_neg (by decide)]
        refine ⟨by decide, by decide, ?_⟩
        have hh := hK I FS_refl
        rw [← (fl 2 (by omega)).2.1] at hh
        exact hh
      · refine e240 ?_
        unfold D240_0
        refine m_isIn ⟨_, rfl, ?_⟩
        rw [show b2i ((20 : Int) ≤ 26 ∧ (26 : Int) ≤ 31) = 1 from rfl, if_neg (by decide)]
        refine ⟨by decide, by decide, by decide, by decide, by decide, by decide, by decide, ?_⟩
        rw [fs238 f]
        exact hK J FS_refl
    · refine both_q (I 238 (103 + 3 * 3)) h (fun K hK => ?_) (fun J f hJ K hK => ?_)
      · refine e114 ?_
        unfold D114_0
        refine k_within ⟨_, rfl, ?_⟩
        rw [show b2i ((20 : Int) ≤ 27 ∧ (27 : Int) ≤ 23) = 0 from rfl, if_pos rfl]
        refine k_within ⟨_, rfl, ?_⟩
        rw [show b2i ((24 : Int) ≤ 27 ∧ (27 : Int) ≤ 27) = 1 from rfl, if_neg (by decide)]
        refine ⟨by decide, by decide, ?_⟩
        have hh := hK I FS_refl
        rw [← (fl 3 (by omega)).2.1] at hh
        exact hh
      · refine e240 ?_
        unfold D240_0
        refine m_isIn ⟨_, rfl, ?_⟩
        rw [show b2i ((20 : Int) ≤ 27 ∧ (27 : Int) ≤ 31) = 1 from rfl, if_neg (by decide)]
        refine ⟨by decide, by decide, by decide, by decide, by decide, by decide, by decide, ?_⟩
        rw [fs238 f]
        exact hK J FS_refl
    · refine both_q (I 238 (104 + 3 * 0)) h (fun K hK => ?_) (fun J f hJ K hK => ?_)
      · refine e114 ?_
        unfold D114_0
        refine k_within ⟨_, rfl, ?_⟩
        rw [show b2i ((20 : Int) ≤ 28 ∧ (28 : Int) ≤ 23) = 0 from rfl, if_pos rfl]
        refine k_within ⟨_, rfl, ?_⟩
        rw [show b2i ((24 : Int) ≤ 28 ∧ (28 : Int) ≤ 27) = 0 from rfl, if_pos rfl]
        refine k_within ⟨_, rfl, ?_⟩
        rw [show b2i ((28 : Int) ≤ 28 ∧ (28 : Int) ≤ 31) = 1 from rfl, if_neg (by decide)]
        refine ⟨by decide, by decide, ?_⟩
        have hh := hK I FS_refl
        rw [← (fl 0 (by omega)).2.2] at hh
        exact hh
      · refine e240 ?_
        unfold D240_0
        refine m_isIn ⟨_, rfl, ?_⟩
        rw [show b2i ((20 : Int) ≤ 28 ∧ (28 : Int) ≤ 31) = 1 from rfl, if_neg (by decide)]
        refine ⟨by decide, by decide, by decide, by decide, by decide, by decide, by decide, ?_⟩
        rw [fs238 f]
        exact hK J FS_refl
    · refine both_q (I 238 (104 + 3 * 1)) h (fun K hK => ?_) (fun J f hJ K hK => ?_)
      · refine e114 ?_
        unfold D114_0
        refine k_within ⟨_, rfl, ?_⟩
        rw [show b2i ((20 : Int) ≤ 29 ∧ (29 : Int) ≤ 23) = 0 from rfl, if_pos rfl]
        refine k_within ⟨_, rfl, ?_⟩
        rw [show b2i ((24 : Int) ≤ 29 ∧ (29 : Int) ≤ 27) = 0 from rfl, if_pos rfl]
        refine k_within ⟨_, rfl, ?_⟩
        rw [show b2i ((28 : Int) ≤ 29 ∧ (29 : Int) ≤ 31) = 1 from rfl, if_neg (by decide)]
        refine ⟨by decide, by decide, ?_⟩
        have hh := hK I FS_refl
        rw [← (fl 1 (by omega)).2.2] at hh
        exact hh
      · refine e240 ?_
        unfold D240_0
        refine m_isIn ⟨_, rfl, ?_⟩
        rw [show b2i ((20 : Int) ≤ 29 ∧ (29 : Int) ≤ 31) = 1 from rfl, if_neg (by decide)]
        refine ⟨by decide, by decide, by decide, by decide, by decide, by decide, by decide, ?_⟩
        rw [fs238 f]
        exact hK J FS_refl
    · refine both_q (I 238 (104 + 3 * 2)) h (fun K hK => ?_) (fun J f hJ K hK => ?_)
      · refine e114 ?_
        unfold D114_0
        refine k_within ⟨_, rfl, ?_⟩
        rw [show b2i ((20 : Int) ≤ 30 ∧ (30 : Int) ≤ 23) = 0 from rfl, if_pos rfl]
        refine k_within ⟨_, rfl, ?_⟩
        rw [show b2i ((24 : Int) ≤ 30 ∧ (30 : Int) ≤ 27) = 0 from rfl, if_pos rfl]
        refine k_within ⟨_, rfl, ?_⟩
        rw [show b2i ((28 : Int) ≤ 30 ∧ (30 : Int) ≤ 31) = 1 from rfl, if_neg (by decide)]
        refine ⟨by decide, by decide, ?_⟩
        have hh := hK I FS_refl
        rw [← (fl 2 (by omega)).2.2] at hh
        exact hh
      · refine e240 ?_
        unfold D240_0
        refine m_isIn ⟨_, rfl, ?_⟩
        rw [show b2i ((20 : Int) ≤ 30 ∧ (30 : Int) ≤ 31) = 1 from rfl, if_neg (by decide)]
        refine ⟨by decide, by decide, by decide, by decide, by decide, by decide, by decide, ?_⟩
        rw [fs238 f]
        exact hK J FS_refl
    · refine both_q (I 238 (104 + 3 * 3)) h (fun K hK => ?_) (fun J f hJ K hK => ?_)
      · refine e114 ?_
        unfold D114_0
        refine k_within ⟨_, rfl, ?_⟩
        rw [show b2i ((20 : Int) ≤ 31 ∧ (31 : Int) ≤ 23) = 0 from rfl, if_pos rfl]
        refine k_within ⟨_, rfl, ?_⟩
        rw [show b2i ((24 : Int) ≤ 31 ∧ (31 : Int) ≤ 27) = 0 from rfl, if_pos rfl]
        refine k_within ⟨_, rfl, ?_⟩
        rw [show b2i ((28 : Int) ≤ 31 ∧ (31 : Int) ≤ 31) = 1 from rfl, if_neg (by decide)]
        refine ⟨by decide, by decide, ?_⟩
        have hh := hK I FS_refl
        rw [← (fl 3 (by omega)).2.2] at hh
        exact hh
      · refine e240 ?_
        unfold D240_0
        refine m_isIn ⟨_, rfl, ?_⟩
        rw [show b2i ((20 : Int) ≤ 31 ∧ (31 : Int) ≤ 31) = 1 from rfl, if_neg (by decide)]
        refine ⟨by decide, by decide, by decide, by decide, by decide, by decide, by decide, ?_⟩
        rw [fs238 f]
        exact hK J FS_refl
  · refine both_q (-1) h (fun K hK => ?_) (fun J f hJ K hK => ?_)
    · refine e114 ?_
      unfold D114_0
      refine k_within ⟨_, rfl, ?_⟩
      rw [b2i_f (by omega), if_pos rfl]
      refine k_within ⟨_, rfl, ?_⟩
      rw [b2i_f (by omega), if_pos rfl]
      refine k_within ⟨_, rfl, ?_⟩
      rw [b2i_f (by omega), if_pos rfl, if_neg (by omega), if_neg (by omega), if_neg (by omega), if_neg (by omega), if_neg (by omega), if_neg (by omega), if_neg (by omega), if_neg (by omega), if_neg (by omega), if_neg (by omega), if_neg (by omega)]
      exact hK I FS_refl
    · refine e240 ?_
      unfold D240_0
      refine m_isIn ⟨_, rfl, ?_⟩
      rw [b2i_f (by omega), if_pos rfl, if_neg (by omega), if_neg (by omega), if_neg (by omega), if_neg (by omega), if_neg (by omega), if_neg (by omega), if_neg (by omega), if_neg (by omega), if_neg (by omega), if_neg (by omega), if_neg (by omega)]
      exact hK J FS_refl
/-- a row changes -/
def RWr (J : IM) (r : Nat) : Prop := (J 236 r = -11 ∧ J 250 r = -1) ∨ (J 236 r = J 250 r ∧ 0 ≤ J 250 r ∧ J 250 r ≤ 40 ∧ ∀ k : Nat, (k : Int) < J 250 r → J (232 + r) k = J 251 (40 * r + k))
theorem rel_row {I J1 J2 : IM} {r : Nat} (h : REL I) (hr : r < 4) (f1 : ∀ o k, (o ≠ 236 ∨ k ≠ r) → o ≠ 232 + r → J1 o k = I o k) (f2 : ∀ o k, (o ≠ 250 ∨ k ≠ r) → (o ≠ 251 ∨ k < 40 * r ∨ 40 * r + 40 ≤ k) → J2 o k = J1 o k) (hw : RWr J2 r) : REL J2 ∧ SC I J2 := by
  have f : ∀ o k, (o < 232 ∨ 236 < o) → o ≠ 250 → o ≠ 251 → J2 o k = I o k := fun o k a b c => (f2 o k (Or.inl b) (Or.inl c)).trans (f1 o k (by omega) (by omega))
  refine ⟨REL_side h (fun o k _ _ _ _ _ _ _ a b c => f o k a b c) (RT_fr h.2.2.2.2.1 (f _ _ (by omega) (by omega) (by omega)) (f _ _ (by omega) (by omega) (by omega)) (funext fun k => f _ _ (by omega) (by omega) (by omega)) (funext fun k => f _ _ (by omega) (by omega) (by omega))) (RP_fr h.2.2.2.2.2.1 (f _ _ (by omega) (by omega) (by omega)) (f _ _ (by omega) (by omega) (by omega)) (funext fun k => f _ _ (by omega) (by omega) (by omega)) (funext fun k => f _ _ (by omega) (by omega) (by omega))) (fun r' hr' => ?_), fun o k a => f o k (by omega) (by omega) (by omega)⟩
  by_cases c : r' = r
  · rw [c]; exact hw
  · have old := h.2.2.2.2.2.2 r' hr'
    have a1 : J2 236 r' = I 236 r' := (f2 _ _ (by omega) (by omega)).trans (f1 _ _ (by omega) (by omega))
    have a2 : J2 250 r' = I 250 r' := (f2 _ _ (by omega) (by omega)).trans (f1 _ _ (by omega) (by omega))
    rw [a1, a2]
    rcases old with z | ⟨z1, z2, z3, z4⟩
    · exact Or.inl z
    · refine Or.inr ⟨z1, z2, z3, fun k hk => ?_⟩
      rw [f2 (232 + r') k (by omega) (by omega), f1 (232 + r') k (by omega) (by omega), f2 251 _ (by omega) (by omega), f1 251 _ (by omega) (by omega)]
      exact z4 k hk
theorem s_row {x1 x2 : Int} {I : IM} (h : REL I) : BOTH 116 242 [vI x1, vI x2] I := by
  by_cases c0 : 0 ≤ x1 ∧ x1 ≤ 3
  · by_cases c1 : x2 ≤ 40
    · by_cases c2 : 0 ≤ x2
      · obtain ⟨r, rfl⟩ : ∃ r : Nat, x1 = r := ⟨x1.toNat, by omega⟩
        obtain ⟨n, rfl⟩ : ∃ r : Nat, x2 = r := ⟨x2.toNat, by omega⟩
        unfold BOTH
        refine e116 ?_
        unfold D116_0
        refine k_isRow ⟨_, rfl, ?_⟩
        rw [b2i_t c0, if_neg (by decide), if_pos c1, if_pos c2, Int.toNat_natCast]
        refine ⟨by omega, fun I7 e7 => ?_⟩
        have ck : ∀ j k : Nat, k + j = n → ∀ J1 : IM, (∀ o i, (o ≠ 236 ∨ i ≠ r) → (o ≠ 232 + r ∨ k ≤ i) → J1 o i = I o i) → J1 236 r = n → (∀ i, i < k → J1 (232 + r) i = 0) → GO S0 116 34 [vR 0, vI (r : Int), vI (n : Int), vI (k : Int)] [] J1 (fun v I1 => ∃ a, v = some (vI a) ∧ CALL S0 242 [vR 237, vI (r : Int), vI (n : Int)] I1 (fun v' I2 => v' = some (vI a) ∧ REL I2 ∧ SC I I2)) := by
          intro j
          induction j with
          | zero =>
            intro k e J1 f1 s1 z1
            refine g116_34 _ _ _ J1 _ ?_
            unfold D116_34
            rw [if_pos (by omega)]
            refine ⟨_, rfl, e242 ?_⟩
            unfold D242_0
            refine m_isRow ⟨_, rfl, ?_⟩
            rw [b2i_t c0, if_neg (by decide), if_pos c1, if_pos c2, Int.toNat_natCast]
            refine ⟨by omega, fun I7 e7 => ?_⟩
            have mk : ∀ j m : Nat, m + j = n → ∀ J2 : IM, (∀ o i, (o ≠ 250 ∨ i ≠ r) → (o ≠ 251 ∨ i < 40 * r ∨ 40 * r + m ≤ i) → J2 o i = J1 o i) → J2 250 r = n → (∀ i, i < m → J2 251 (40 * r + i) = 0) → GO S0 242 34 [vR 237, vI (r : Int), vI (n : Int), vI (m : Int)] [] J2 (fun v' I2 => v' = some (vI 1) ∧ REL I2 ∧ SC I I2) := by
              intro j
              induction j with
              | zero =>
                intro m e2 J2 f2 s2 z2
                refine g242_34 _ _ _ J2 _ ?_
                unfold D242_34
                rw [if_pos (by omega)]
                have := rel_row (J1 := J1) (J2 := J2) h (by omega) (fun o i a b => f1 o i a (Or.inl b)) (fun o i a b => f2 o i a (by omega)) (Or.inr ⟨by rw [f2 236 r (by omega) (by omega), s1, s2], by omega, by omega, fun i hi => by rw [f2 (232 + r) i (by omega) (by omega), z1 i (by omega), z2 i (by omega)]⟩)
                exact ⟨rfl, this.1, this.2⟩
              | succ j ih =>
                intro m e2 J2 f2 s2 z2
                refine g242_34 _ _ _ J2 _ ?_
                unfold D242_34 inR
                rw [if_neg (by omega), show (40 * (r : Int) + (m : Int)).toNat = 40 * r + m by omega]
                refine ⟨by omega, by omega, by omega, fun I5 e5 => ⟨by omega, ?_⟩⟩
                have := ih (m + 1) (by omega) I5 (fun o i a b => by rw [e5, iup_ne (by omega)]; exact f2 o i a (by omega)) (by rw [e5, iup_ne (Or.inl (by decide))]; exact s2) (fun i hi => by
                  by_cases c : i = m
                  · rw [e5, c, iup_same]
                  · rw [e5, iup_ne (Or.inr (by omega))]; exact z2 i (by omega))
                rw [show ((m + 1 : Nat) : Int) = (m : Int) + 1 by omega] at this
                exact this
            exact mk n 0 (by omega) I7 (fun o i a b => by rw [e7, iup_ne a]) (by rw [e7, iup_same]) (fun i hi => by omega)
          | succ j ih =>
            intro k e J1 f1 s1 z1
            refine g116_34 _ _ _ J1 _ ?_
            unfold D116_34 inR
            rw [if_neg (by omega), Int.toNat_natCast, Int.toNat_natCast]
            refine ⟨by omega, by omega, fun I4 e4 => ⟨by omega, ?_⟩⟩
            have := ih (k + 1) (by omega) I4 (fun o i a b => by rw [e4, iup_ne (by omega)]; exact f1 o i a (by omega)) (by rw [e4, iup_ne (by omega)]; exact s1) (fun i hi => by
              by_cases c : i = k
              · rw [e4, c, iup_same]
              · rw [e4, iup_ne (Or.inr (by omega))]; exact z1 i (by omega))
            rw [show ((k + 1 : Nat) : Int) = (k : Int) + 1 by omega] at this
            exact this
        exact ck n 0 (by omega) I7 (fun o i a b => by rw [e7, iup_ne a]) (by rw [e7, iup_same]) (fun i hi => by omega)
      · refine both_q (-14) h (fun K hK => ?_) (fun J f hJ K hK => ?_)
        · refine e116 ?_
          unfold D116_0
          refine k_isRow ⟨_, rfl, ?_⟩
          rw [b2i_t c0, if_neg (by decide), if_pos c1, if_neg c2]
          exact hK I FS_refl
        · refine e242 ?_
          unfold D242_0
          refine m_isRow ⟨_, rfl, ?_⟩
          rw [b2i_t c0, if_neg (by decide), if_pos c1, if_neg c2]
          exact hK J FS_refl
    · refine both_q (-2) h (fun K hK => ?_) (fun J f hJ K hK => ?_)
      · refine e116 ?_
        unfold D116_0
        refine k_isRow ⟨_, rfl, ?_⟩
        rw [b2i_t c0, if_neg (by decide), if_neg c1]
        exact hK I FS_refl
      · refine e242 ?_
        unfold D242_0
        refine m_isRow ⟨_, rfl, ?_⟩
        rw [b2i_t c0, if_neg (by decide), if_neg c1]
        exact hK J FS_refl
  · refine both_q (-1) h (fun K hK => ?_) (fun J f hJ K hK => ?_)
    · refine e116 ?_
      unfold D116_0
      refine k_isRow ⟨_, rfl, ?_⟩
      rw [b2i_f c0, if_pos rfl]
      exact hK I FS_refl
    · refine e242 ?_
      unfold D242_0
      refine m_isRow ⟨_, rfl, ?_⟩
      rw [b2i_f c0, if_pos rfl]
      exact hK J FS_refl
theorem s_set {x1 x2 x3 : Int} {I : IM} (h : REL I) : BOTH 118 244 [vI x1, vI x2, vI x3] I := by
  by_cases c0 : 0 ≤ x1 ∧ x1 ≤ 3
  · obtain ⟨r, rfl⟩ : ∃ r : Nat, x1 = r := ⟨x1.toNat, by omega⟩
    rcases h.2.2.2.2.2.2 r (by omega) with ⟨z1, z2⟩ | ⟨z1, z2, z3, z4⟩
    · refine both_q (-11) h (fun K hK => ?_) (fun J f hJ K hK => ?_)
      · refine e118 ?_
        unfold D118_0
        refine k_isRow ⟨_, rfl, ?_⟩
        rw [b2i_t c0, if_neg (by decide), Int.toNat_natCast, if_pos z1]
        exact ⟨by omega, hK I FS_refl⟩
      · refine e244 ?_
        unfold D244_0
        refine m_isRow ⟨_, rfl, ?_⟩
        rw [b2i_t c0, if_neg (by decide), Int.toNat_natCast, f 250 r (by unfold SCR; omega), if_neg (by omega)]
        exact ⟨by omega, hK J FS_refl⟩
    · by_cases c1 : 0 ≤ x2 ∧ x2 ≤ I 250 r - 1
      · obtain ⟨i, rfl⟩ : ∃ r : Nat, x2 = r := ⟨x2.toNat, by omega⟩
        unfold BOTH
        refine e118 ?_
        unfold D118_0 inR
        refine k_isRow ⟨_, rfl, ?_⟩
        rw [b2i_t c0, if_neg (by decide), Int.toNat_natCast, if_neg (by omega), z1]
        refine ⟨by omega, by omega, k_within ⟨_, rfl, ?_⟩⟩
        rw [b2i_t c1, if_neg (by decide), Int.toNat_natCast]
        refine ⟨by omega, fun J1 e1 => ⟨_, rfl, e244 ?_⟩⟩
        unfold D244_0 inR
        refine m_isRow ⟨_, rfl, ?_⟩
        have s1 : J1 250 r = I 250 r := by rw [e1, iup_ne (Or.inl (by omega))]
        rw [b2i_t c0, if_neg (by decide), Int.toNat_natCast, s1, if_pos (by omega)]
        refine ⟨by omega, by omega, m_isIn ⟨_, rfl, ?_⟩⟩
        rw [b2i_t c1, if_neg (by decide), show (40 * (r : Int) + (i : Int)).toNat = 40 * r + i by omega]
        refine ⟨by omega, by omega, by omega, fun J2 e2 => ?_⟩
        have := rel_row (J1 := J1) (J2 := J2) h (r := r) (by omega) (fun o k a b => by rw [e1, iup_ne (Or.inl b)]) (fun o k a b => by rw [e2, iup_ne (by omega)]) (Or.inr ⟨by rw [e2, iup_ne (Or.inl (by decide)), iup_ne (Or.inl (by decide)), s1, e1, iup_ne (Or.inl (by omega))]; exact z1, by rw [e2, iup_ne (Or.inl (by decide)), s1]; exact z2, by rw [e2, iup_ne (Or.inl (by decide)), s1]; exact z3, fun k hk => by
          rw [e2, iup_ne (Or.inl (by decide)), s1] at hk
          by_cases c : k = i
          · rw [c, e2, iup_ne (Or.inl (by omega)), iup_same, e1, iup_same]
          · rw [e2, iup_ne (Or.inl (by omega)), iup_ne (Or.inr (by omega)), e1, iup_ne (Or.inr c), iup_ne (Or.inl (by omega))]
            exact z4 k hk⟩)
        exact ⟨rfl, this.1, this.2⟩
      · refine both_q (-13) h (fun K hK => ?_) (fun J f hJ K hK => ?_)
        · refine e118 ?_
          unfold D118_0 inR
          refine k_isRow ⟨_, rfl, ?_⟩
          rw [b2i_t c0, if_neg (by decide), Int.toNat_natCast, if_neg (by omega), z1]
          refine ⟨by omega, by omega, k_within ⟨_, rfl, ?_⟩⟩
          rw [b2i_f c1, if_pos rfl]
          exact hK I FS_refl
        · refine e244 ?_
          unfold D244_0 inR
          refine m_isRow ⟨_, rfl, ?_⟩
          rw [b2i_t c0, if_neg (by decide), Int.toNat_natCast, f 250 r (by unfold SCR; omega), if_pos z2]
          refine ⟨by omega, by omega, m_isIn ⟨_, rfl, ?_⟩⟩
          rw [b2i_f c1, if_pos rfl]
          exact hK J FS_refl
  · refine both_q (-1) h (fun K hK => ?_) (fun J f hJ K hK => ?_)
    · refine e118 ?_
      unfold D118_0
      refine k_isRow ⟨_, rfl, ?_⟩
      rw [b2i_f c0, if_pos rfl]
      exact hK I FS_refl
    · refine e244 ?_
      unfold D244_0
      refine m_isRow ⟨_, rfl, ?_⟩
      rw [b2i_f c0, if_pos rfl]
      exact hK J FS_refl
theorem s_get {x1 x2 : Int} {I : IM} (h : REL I) : BOTHL 119 245 [vI x1, vI x2] I := by
  by_cases c0 : 0 ≤ x1 ∧ x1 ≤ 3
  · obtain ⟨r, rfl⟩ : ∃ r : Nat, x1 = r := ⟨x1.toNat, by omega⟩
    have rw4 := h.2.2.2.2.2.2 r (by omega)
    have rg1 : -11 ≤ I 236 r ∧ I 236 r ≤ 40 ∧ -1 ≤ I 250 r ∧ I 250 r ≤ 40 := by
      rcases rw4 with z | z <;> omega
    by_cases c1 : 0 ≤ x2 ∧ x2 ≤ I 250 r - 1
    · have z4 : I 236 r = I 250 r ∧ ∀ k : Nat, (k : Int) < I 250 r → I (232 + r) k = I 251 (40 * r + k) := by
        rcases rw4 with z | z
        · omega
        · exact ⟨z.1, z.2.2.2⟩
      obtain ⟨i, rfl⟩ : ∃ r : Nat, x2 = r := ⟨x2.toNat, by omega⟩
      refine both_ql (I 251 (40 * r + i)) h (fun K hK => ?_) (fun J f hJ K hK => ?_)
      · refine e119 ?_
        unfold D119_0 inR
        refine k_isRow ⟨_, rfl, ?_⟩
        rw [b2i_t c0, if_neg (by decide), Int.toNat_natCast, z4.1]
        refine ⟨by omega, by omega, k_within ⟨_, rfl, ?_⟩⟩
        rw [b2i_t c1, if_neg (by decide), Int.toNat_natCast, z4.2 i (by omega)]
        exact ⟨by omega, hK I FS_refl⟩
      · refine e245 ?_
        unfold D245_0 inR
        refine m_isRow ⟨_, rfl, ?_⟩
        rw [b2i_t c0, if_neg (by decide), Int.toNat_natCast, f 250 r (by unfold SCR; omega)]
        refine ⟨by omega, by omega, m_isIn ⟨_, rfl, ?_⟩⟩
        rw [b2i_t c1, if_neg (by decide), show (40 * (r : Int) + (i : Int)).toNat = 40 * r + i by omega, f 251 _ (by unfold SCR; omega)]
        exact ⟨by omega, by omega, by omega, hK J FS_refl⟩
    · refine both_ql (-9223372036854775808) h (fun K hK => ?_) (fun J f hJ K hK => ?_)
      · refine e119 ?_
        unfold D119_0 inR
        refine k_isRow ⟨_, rfl, ?_⟩
        rw [b2i_t c0, if_neg (by decide), Int.toNat_natCast]
        refine ⟨by omega, by omega, k_within ⟨_, rfl, ?_⟩⟩
        rw [b2i_f (by rcases rw4 with z | z <;> omega), if_pos rfl]
        exact hK I FS_refl
      · refine e245 ?_
        unfold D245_0 inR
        refine m_isRow ⟨_, rfl, ?_⟩
        rw [b2i_t c0, if_neg (by decide), Int.toNat_natCast, f 250 r (by unfold SCR; omega)]
        refine ⟨by omega, by omega, m_isIn ⟨_, rfl, ?_⟩⟩
        rw [b2i_f c1, if_pos rfl]
        exact hK J FS_refl
  · refine both_ql (-9223372036854775808) h (fun K hK => ?_) (fun J f hJ K hK => ?_)
    · refine e119 ?_
      unfold D119_0
      refine k_isRow ⟨_, rfl, ?_⟩
      rw [b2i_f c0, if_pos rfl]
      exact hK I FS_refl
    · refine e245 ?_
      unfold D245_0
      refine m_isRow ⟨_, rfl, ?_⟩
      rw [b2i_f c0, if_pos rfl]
      exact hK J FS_refl
