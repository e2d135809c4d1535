/-! level 2: the law, from its start to its end -/
theorem chk_get : ∃ I : IM, arunU 0 400 0 [vR 1000, vU, vU, vU] [] ((fun _ _ => 0), []) = some ([vR 1000, vR 0, vR 237, vI 0], [], (I, S0)) ∧ chkI I = true := by
  have h := chk_ok
  unfold chkS at h
  generalize arunU 0 400 0 [vR 1000, vU, vU, vU] [] ((fun _ _ => 0), []) = r at h ⊢
  match r, h with
  | none, h => cases h
  | some (ls, st, (I, S)), h =>
    simp only [Bool.and_eq_true, decide_eq_true_eq] at h
    obtain ⟨⟨⟨h1, h2⟩, h3⟩, h4⟩ := h
    subst h1 h2 h3
    exact ⟨I, rfl, h4⟩
theorem chk_use {I : IM} (h : chkI I = true) : (∀ o k, o < 24 → k < 13 → I o k = 0) ∧ (∀ v, v < 4 → I 25 v = 100 ∧ I 26 v = 0 ∧ I 27 v = 600 ∧ I 30 v = 0 ∧ I 236 v = -11 ∧ I 250 v = -1) ∧ (I 28 0 = 1 ∧ I 28 1 = 0 ∧ I 28 2 = 0) ∧ (∀ k, k < 166 → I 238 k = g00 k) ∧ (I 237 2 = 0 ∧ I 237 4 = 0 ∧ I 237 16 = 0 ∧ I 237 18 = 0 ∧ I 78 1 = 0 ∧ I 78 2 = 0 ∧ I 208 1 = 0 ∧ I 210 1 = 0) := by
  unfold chkI at h
  simp only [Bool.and_eq_true, List.all_eq_true, List.mem_range, decide_eq_true_eq] at h
  obtain ⟨⟨⟨⟨h1, h2⟩, h3⟩, h4⟩, h5⟩ := h
  exact ⟨fun o k ho hk => h1 o ho k hk, h2, h3, h4, h5⟩
theorem start_rel {I : IM} (h1 : ∀ o k, o < 24 → k < 13 → I o k = 0) (h2 : ∀ v, v < 4 → I 25 v = 100 ∧ I 26 v = 0 ∧ I 27 v = 600 ∧ I 30 v = 0 ∧ I 236 v = -11 ∧ I 250 v = -1) (h3 : I 28 0 = 1 ∧ I 28 1 = 0 ∧ I 28 2 = 0) (h4 : ∀ k, k < 166 → I 238 k = g00 k) (h5 : I 237 2 = 0 ∧ I 237 4 = 0 ∧ I 237 16 = 0 ∧ I 237 18 = 0 ∧ I 78 1 = 0 ∧ I 78 2 = 0 ∧ I 208 1 = 0 ∧ I 210 1 = 0) : REL I := by
  obtain ⟨e1, e2, e3, e4, e5, e6, e7, e8⟩ := h5
  have g0 : ∀ k, k < 166 → k ≠ 2 → (k < 102 ∨ 114 ≤ k) → I 238 k = 0 := fun k a b c => by
    rw [h4 k a]
    unfold g00
    rw [if_neg b, if_neg (by omega)]
  have gv : ∀ v, v < 4 → I 238 (102 + 3 * v) = 100 ∧ I 238 (103 + 3 * v) = 0 ∧ I 238 (104 + 3 * v) = 600 := fun v hv => by
    rw [h4 _ (by omega), h4 _ (by omega), h4 _ (by omega)]
    rcases (show v = 0 ∨ v = 1 ∨ v = 2 ∨ v = 3 by omega) with e | e | e | e <;> subst e <;> decide
  have g2 : I 238 2 = 1 := by rw [h4 2 (by omega)]; rfl
  have hz : ∀ k, k = 0 ∨ k = 1 ∨ k = 3 ∨ k = 4 ∨ k = 5 → I 238 k = 0 := fun k a => g0 k (by omega) (by omega) (by omega)
  have z0 := hz 0 (by omega)
  have z1 := hz 1 (by omega)
  have z3 := hz 3 (by omega)
  have z4 := hz 4 (by omega)
  have z5 := hz 5 (by omega)
  have G : GR (I 238) := by
    refine ⟨by omega, fun o ho => ?_, by omega, by omega, fun v hv => ?_⟩
    · rw [g0 (6 + 8 * o + 0) (by omega) (by omega) (by omega), g0 (6 + 8 * o + 1) (by omega) (by omega) (by omega), g0 (6 + 8 * o + 2) (by omega) (by omega) (by omega), g0 (6 + 8 * o + 3) (by omega) (by omega) (by omega), g0 (6 + 8 * o + 4) (by omega) (by omega) (by omega), g0 (6 + 8 * o + 5) (by omega) (by omega) (by omega), g0 (6 + 8 * o + 6) (by omega) (by omega) (by omega), g0 (6 + 8 * o + 7) (by omega) (by omega) (by omega)]
      omega
    · have := gv v hv
      omega
  have lm : ∀ v, v < 4 → I 238 (114 + 13 * v) = 0 := fun v hv => g0 _ (by omega) (by omega) (by omega)
  have sm : SZM I 238 114 := fun v hv => by rw [lm v hv]; omega
  have lmn : ∀ v, v < 4 → LM I 238 114 v = [] := fun v hv => List.length_eq_zero_iff.mp (by rw [LM_len, lm v hv]; rfl)
  have V : VR (I 238) (LM I 238 114) := VR_eq (R := fun _ => []) lmn (V0_VR V0_nil (fun v hv => gd_nil G hv))
  have ws : WSC I := fun a b ha hb => by
    rw [h1 (11 + a) b (by omega) (by omega), h1 2 a (by omega) (by omega), h1 2 b (by omega) (by omega), h1 3 a (by omega) (by omega), h1 3 b (by omega) (by omega)]
    decide
  refine ⟨⟨G, BK_mk ?_ (fun o ho w hw => ?_) ⟨?_, ?_⟩ ⟨?_, ?_, ?_, ?_⟩ ws (fun v hv => ?_) (fun w hw => ?_)⟩, ⟨fun v hv => ?_, sm, fun v hv => ?_, V⟩, ⟨?_, Or.inl e1, fun z => by omega⟩, RS_0 (n := 0) e2 e6 e5 (by omega), ⟨by omega, by omega, fun k hk => by omega⟩, ⟨by omega, by omega, fun k hk => by omega⟩, fun r hr => Or.inl ⟨(h2 r hr).2.2.2.2.1, (h2 r hr).2.2.2.2.2⟩⟩
  · rw [h1 1 0 (by omega) (by omega), z5]
  · rw [h1 _ _ (by omega) (by omega), g0 _ (by omega) (by omega) (by omega)]
  · rw [h1 _ _ (by omega) (by omega), z0]
  · rw [h1 _ _ (by omega) (by omega), z1]
  · exact h1 _ _ (by omega) (by omega)
  · exact h1 _ _ (by omega) (by omega)
  · exact h1 _ _ (by omega) (by omega)
  · exact h1 _ _ (by omega) (by omega)
  · have a := h2 v hv
    have b := gv v hv
    rw [b.1, b.2.1, b.2.2]
    exact ⟨a.1, a.2.1, a.2.2.1⟩
  · rcases (show w = 0 ∨ w = 1 ∨ w = 2 by omega) with e | e | e <;> subst e
    · exact h3.1.trans g2.symm
    · exact h3.2.1.trans z3.symm
    · exact h3.2.2.trans z4.symm
  · rw [show I (29 + 1) v = 0 from (h2 v hv).2.2.2.1]; omega
  · rw [lmn v hv]
    refine List.length_eq_zero_iff.mp ?_
    rw [LC_len, show I (29 + 1) v = 0 from (h2 v hv).2.2.2.1]
    rfl
  · rw [h1 0 6 (by omega) (by omega), e1]
theorem s0_sl : sl S0 ≤ 7302250 := by decide +kernel
theorem abs_law : AbsLaw := by
  intro L xs hL
  obtain ⟨I, hI, hc⟩ := chk_get
  obtain ⟨c1, c2, c3, c4, c5⟩ := chk_use hc
  obtain ⟨J, aJ, sJ, go⟩ := arunU_ag _ _ _ _ _ (scrI L xs) _ _ _ _ _ hI (Nat.zero_le _) (fun o k ho => by
    unfold scrI
    rw [if_neg (by omega), if_neg (by omega)])
  have rl : REL J := start_rel (fun o k ho hk => by rw [aJ o k (by omega)]; exact c1 o k ho hk) (fun v hv => by rw [aJ 25 v (by decide), aJ 26 v (by decide), aJ 27 v (by decide), aJ 30 v (by decide), aJ 236 v (by decide), aJ 250 v (by decide)]; exact c2 v hv) (by rw [aJ 28 0 (by decide), aJ 28 1 (by decide), aJ 28 2 (by decide)]; exact c3) (fun k hk => by rw [aJ 238 k (by decide)]; exact c4 k hk) (by rw [aJ 237 2 (by decide), aJ 237 4 (by decide), aJ 237 16 (by decide), aJ 237 18 (by decide), aJ 78 1 (by decide), aJ 78 2 (by decide), aJ 208 1 (by decide), aJ 210 1 (by decide)]; exact c5)
  have l1 : J 1001 0 = (L : Int) := by
    rw [sJ 1001 0 (by decide)]
    unfold scrI
    rw [if_neg (by decide), if_pos ⟨rfl, rfl⟩]
  obtain ⟨g, v, J2, e, k⟩ := law_loop L 0 J (by omega) rl (by decide) (by omega) (by omega) (fun k => by
    rw [sJ 1000 k (by decide)]
    unfold scrI
    rw [if_pos rfl]
    exact i32_in _) (by decide)
  obtain ⟨g', hg⟩ := go g _ e
  rw [k] at hg
  exact ⟨g', (J2, S0), hg, s0_sl⟩
