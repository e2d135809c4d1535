/-! level 2: class and model call by call: depot, tape, paper, rows (laid by program) -/
theorem rr_sum {I : IM} (h : RR I) : (0 ≤ I 30 0 ∧ I 30 0 = I 238 114) ∧ (0 ≤ I 30 1 ∧ I 30 1 = I 238 127) ∧ (0 ≤ I 30 2 ∧ I 30 2 = I 238 140) ∧ (0 ≤ I 30 3 ∧ I 30 3 = I 238 153) :=
  ⟨⟨(h.1 0 (by omega)).1, rr_sz h (v := 0) (by omega)⟩, ⟨(h.1 1 (by omega)).1, rr_sz h (v := 1) (by omega)⟩, ⟨(h.1 2 (by omega)).1, rr_sz h (v := 2) (by omega)⟩, ⟨(h.1 3 (by omega)).1, rr_sz h (v := 3) (by omega)⟩⟩
theorem depot_rel {x y : Int} {I J : IM} (h : REL I) (hx : 0 ≤ x ∧ x ≤ 40) (hy : 0 ≤ y ∧ y ≤ 40) (he : ∀ v, v < 4 → LM I 238 114 v = [])
    (f : ∀ o k, (o ≠ 2 ∨ k ≠ 12) → (o ≠ 3 ∨ k ≠ 12) → (o < 11 ∨ 23 < o) → (o ≠ 238 ∨ 1 < k) → (o ≠ 78 ∨ k ≠ 2) → (o ≠ 237 ∨ k ≠ 4) → J o k = I o k) (a0 : J 2 12 = x) (a1 : J 3 12 = y) (aw : WSC J) (g0 : J 238 0 = x) (g1 : J 238 1 = y) (z : J 237 4 = 0 ∧ J 78 2 = 0) : REL J := by
  have hG := h.1.1
  have g : ∀ k, 1 < k → J 238 k = I 238 k := fun k hk => f 238 k (by omega) (by omega) (by omega) (by omega) (by omega) (by omega)
  have GR' : GR (J 238) := by
    refine ⟨by rw [g 5 (by omega)]; exact hG.1, fun q hq => ?_, by rw [g0, g1]; exact ⟨hx, hy⟩, by rw [g 2 (by omega), g 3 (by omega), g 4 (by omega)]; exact hG.2.2.2.1, fun v hv => by rw [g (102 + 3 * v) (by omega), g (103 + 3 * v) (by omega), g (104 + 3 * v) (by omega)]; exact hG.2.2.2.2 v hv⟩
    rw [g (6 + 8 * q + 0) (by omega), g (6 + 8 * q + 1) (by omega), g (6 + 8 * q + 2) (by omega), g (6 + 8 * q + 3) (by omega), g (6 + 8 * q + 4) (by omega), g (6 + 8 * q + 5) (by omega), g (6 + 8 * q + 6) (by omega), g (6 + 8 * q + 7) (by omega)]
    exact hG.2.1 q hq
  refine REL_book h (fun q k a b c d => f q k (by omega) (by omega) (by omega) (by omega) d c) (fun k hk => g k (by omega)) ⟨GR', ?_⟩ (fun R hR hz => VR_ch hR GR' (by rw [g 5 (by omega)]; omega) (fun v hv ne => ?_)) (Or.inl z)
  · obtain ⟨h1, h2, h3, h4, h5, h6, h7⟩ := h.1.2
    have o' : ∀ q k, q < 29 → (q < 11 ∨ 23 < q) → (q < 2 ∨ 3 < q ∨ k ≠ 12) → J q k = I q k := fun q k a b c => f q k (by omega) (by omega) b (by omega) (by omega) (by omega)
    exact BK_mk (by rw [o' 1 0 (by omega) (by omega) (by omega), g 5 (by omega)]; exact h1) (fun q hq w hw => by rw [o' (1 + 1 + w) q (by omega) (by omega) (by omega), g (6 + 8 * q + w) (by omega)]; exact h2 q hq w hw) ⟨a0.trans g0.symm, a1.trans g1.symm⟩ (by rw [o' (1 + 3) 12 (by omega) (by omega) (by omega), o' (1 + 5) 12 (by omega) (by omega) (by omega), o' (1 + 6) 12 (by omega) (by omega) (by omega), o' (1 + 7) 12 (by omega) (by omega) (by omega)]; exact h4) aw (fun v hv => by rw [o' (24 + 1) v (by omega) (by omega) (by omega), o' (24 + 2) v (by omega) (by omega) (by omega), o' (24 + 3) v (by omega) (by omega) (by omega), g (102 + 3 * v) (by omega), g (103 + 3 * v) (by omega), g (104 + 3 * v) (by omega)]; exact h6 v hv) (fun w hw => by rw [o' (24 + 4) w (by omega) (by omega) (by omega), g (2 + w) (by omega)]; exact h7 w hw)
  · rcases hz with q | q
    · exact absurd ((q v hv).trans (he v hv)) ne
    · exact absurd z q
theorem s_depot {x1 x2 : Int} {I : IM} (h : REL I) : BOTH 13 129 [vI x1, vI x2] I := by
  unfold BOTH
  have hcn : I 1 0 = I 238 5 := h.1.2.1
  have hcr := h.1.1.1
  have rs := rr_sum h.2.1
  by_cases c0 : 0 ≤ x1 ∧ x1 ≤ 40
  · by_cases c1 : 0 ≤ x2 ∧ x2 ≤ 40
    · by_cases c2 : I 30 0 + I 30 1 + I 30 2 + I 30 3 ≤ 0
      · refine e13 ?_
        unfold D13_0
        refine k_within ⟨_, rfl, ?_⟩
        rw [b2i_t c0, if_neg (by decide)]
        refine k_within ⟨_, rfl, ?_⟩
        rw [b2i_t c1, if_neg (by decide)]
        refine k_stopsInAll (r := 29) rd29 h.2.1.1 ⟨_, rfl, ?_⟩
        rw [if_pos (show I (29 + 1) 0 + I (29 + 1) 1 + I (29 + 1) 2 + I (29 + 1) 3 ≤ 0 from c2)]
        refine k_placeAt (p := 12) (by omega) c0 c1 (fun q hq => rb_xy h.1 hq) (BK_ws h.1.2) fun J f a0 a1 aw => ⟨rfl, ?_⟩
        refine k_forget ⟨rfl, ?_⟩
        have o : ∀ k, iup J 78 2 0 238 k = I 238 k := fun k => by rw [iup_ne (Or.inl (by decide)), f 238 k (by omega) (by omega) (by omega)]
        refine ⟨_, rfl, ?_⟩
        refine e129 ?_
        unfold D129_0
        refine m_isIn ⟨_, rfl, ?_⟩
        rw [b2i_t c0, if_neg (by decide)]
        refine m_isIn ⟨_, rfl, ?_⟩
        rw [b2i_t c1, if_neg (by decide)]
        skip
        refine m_isEmpty (fun v hv => by rw [o]; exact h.2.1.2.1 v hv) ⟨_, rfl, ?_⟩
        rw [o, o, o, o, b2i_t (by omega), if_neg (by decide)]
        intro J3 e3 J4 e4
        refine m_forgets ⟨_, rfl, rfl, ?_, ?_⟩
        · rw [e4, e3]
          refine depot_rel (x := x1) (y := x2) h c0 c1 (fun v hv => List.length_eq_zero_iff.mp ?_) (fun o k b1 b2 b3 b4 b5 b6 => ?_) ?_ ?_ ?_ ?_ ?_ ⟨by rw [iup_same], ?_⟩
          · rw [LM_len]
            rcases (show v = 0 ∨ v = 1 ∨ v = 2 ∨ v = 3 by omega) with e | e | e | e <;> subst e
            · show (I 238 114).toNat = 0; omega
            · show (I 238 127).toNat = 0; omega
            · show (I 238 140).toNat = 0; omega
            · show (I 238 153).toNat = 0; omega
          · rw [iup_ne (by omega), iup_ne (by omega), iup_ne (by omega), iup_ne (by omega), f o k b1 b2 b3]
          · simp [iup, a0]
          · simp [iup, a1]
          · exact WSC_fr aw (fun o k b1 b2 => by rw [iup_ne (by omega), iup_ne (by omega), iup_ne (by omega), iup_ne (by omega)])
          · simp [iup]
          · simp [iup]
          · simp [iup]
        · rw [e4, e3]
          refine SC_up (SC_up (SC_up (SC_up (fun o k b => ?_) (by decide)) (by decide)) (by decide)) (by decide)
          rw [f o k (by omega) (by omega) (by omega)]
      · refine e13 ?_
        unfold D13_0
        refine k_within ⟨_, rfl, ?_⟩
        rw [b2i_t c0, if_neg (by decide)]
        refine k_within ⟨_, rfl, ?_⟩
        rw [b2i_t c1, if_neg (by decide)]
        refine k_stopsInAll (r := 29) rd29 h.2.1.1 ⟨_, rfl, ?_⟩
        rw [if_neg (show ¬ I (29 + 1) 0 + I (29 + 1) 1 + I (29 + 1) 2 + I (29 + 1) 3 ≤ 0 from c2)]
        refine ⟨_, rfl, ?_⟩
        refine e129 ?_
        unfold D129_0
        refine m_isIn ⟨_, rfl, ?_⟩
        rw [b2i_t c0, if_neg (by decide)]
        refine m_isIn ⟨_, rfl, ?_⟩
        rw [b2i_t c1, if_neg (by decide)]
        refine m_isEmpty h.2.1.2.1 ⟨_, rfl, ?_⟩
        rw [b2i_f (by omega), if_pos rfl]
        exact ⟨rfl, h, fun _ _ _ => rfl⟩
    · refine e13 ?_
      unfold D13_0
      refine k_within ⟨_, rfl, ?_⟩
      rw [b2i_t c0, if_neg (by decide)]
      refine k_within ⟨_, rfl, ?_⟩
      rw [b2i_f c1, if_pos rfl]
      refine ⟨_, rfl, ?_⟩
      refine e129 ?_
      unfold D129_0
      refine m_isIn ⟨_, rfl, ?_⟩
      rw [b2i_t c0, if_neg (by decide)]
      refine m_isIn ⟨_, rfl, ?_⟩
      rw [b2i_f c1, if_pos rfl]
      exact ⟨rfl, h, fun _ _ _ => rfl⟩
  · refine e13 ?_
    unfold D13_0
    refine k_within ⟨_, rfl, ?_⟩
    rw [b2i_f c0, if_pos rfl]
    refine ⟨_, rfl, ?_⟩
    refine e129 ?_
    unfold D129_0
    refine m_isIn ⟨_, rfl, ?_⟩
    rw [b2i_f c0, if_pos rfl]
    exact ⟨rfl, h, fun _ _ _ => rfl⟩
/-- the tape, the paper, or the rows change -/
theorem REL_side {I I' : IM} (h : REL I) (f : ∀ o k, (o ≠ 208 ∨ k ≠ 1) → o ≠ 209 → o ≠ 244 → (o ≠ 237 ∨ (k ≠ 16 ∧ k ≠ 18)) → (o ≠ 210 ∨ k ≠ 1) → o ≠ 211 → o ≠ 246 → (o < 232 ∨ 236 < o) → o ≠ 250 → o ≠ 251 → I' o k = I o k) (hT : RT I') (hP : RP I') (hW : RW I') : REL I' := by
  obtain ⟨h1, h2, h3, h4, h5, h6, h7⟩ := h
  have n : ∀ o k, (o < 208 ∨ (212 ≤ o ∧ o < 232) ∨ (238 ≤ o ∧ o ≤ 240)) → I' o k = I o k := fun o k a => f o k (by omega) (by omega) (by omega) (by omega) (by omega) (by omega) (by omega) (by omega) (by omega) (by omega)
  have m : ∀ k, (k = 2 ∨ k = 4) → I' 237 k = I 237 k := fun k a => f 237 k (by omega) (by omega) (by omega) (by omega) (by omega) (by omega) (by omega) (by omega) (by omega) (by omega)
  have g : ∀ k, k < 114 → I' 238 k = I 238 k := fun k _ => n 238 k (by omega)
  have hn := h1.1.1.2
  exact ⟨RB_fr h1 (fun o k _ _ => n o k (by omega)) g, SAR_fr h2 (fun v _ => n _ _ (by omega)) (fun v k _ _ => n _ _ (by omega)) (fun k _ => n _ _ (by omega)) g hn, RI_fr h3 (fun o k _ _ => n o k (by omega)) (funext fun k => n 239 k (by omega)) (n 0 6 (by omega)) (m 2 (by omega)), RS_fr h4 (fun o k _ _ => n o k (by omega)) (funext fun k => n 240 k (by omega)) (m 4 (by omega)) g hn, hT, hP, hW⟩
theorem clear_rel {I : IM} (h : REL I) : REL (iup (iup I 208 1 0) 237 16 0) := by
  have z : ∀ o k, (o ≠ 208 ∨ k ≠ 1) → (o ≠ 237 ∨ k ≠ 16) → iup (iup I 208 1 0) 237 16 0 o k = I o k := fun o k a b => by rw [iup_ne b, iup_ne a]
  have zo : ∀ o, o ≠ 208 → o ≠ 237 → iup (iup I 208 1 0) 237 16 0 o = I o := fun o a b => funext fun k => z o k (Or.inl a) (Or.inl b)
  refine REL_side h (fun o k a _ _ b _ _ _ _ _ _ => z o k a (by omega)) ⟨by simp [iup], by rw [iup_same]; omega, fun k hk => by rw [iup_same] at hk; omega⟩ (RP_fr h.2.2.2.2.2.1 (z _ _ (by omega) (by omega)) (z _ _ (by omega) (by omega)) (zo _ (by omega) (by omega)) (zo _ (by omega) (by omega))) (RW_fr h.2.2.2.2.2.2 (fun o k _ _ => z o k (by omega) (by omega)) (zo _ (by omega) (by omega)) (zo _ (by omega) (by omega)))
theorem s_clear {I : IM} (h : REL I) : BOTH 28 145 [] I := by
  unfold BOTH
  refine e28 ?_
  unfold D28_0
  intro I1 e1
  refine ⟨_, rfl, e145 ?_⟩
  unfold D145_0
  intro I2 e2
  rw [e2, e1]
  refine ⟨?_, clear_rel h, SC_up (SC_up SC_refl (by decide)) (by decide)⟩
  rw [iup_ne (Or.inl (by decide)), h.2.2.2.2.1.1]
theorem feed_rel {x : Int} {n : Nat} {I : IM} (h : REL I) (hx : 1 ≤ x ∧ x ≤ 127) (hn : I 237 16 = n) (h1 : n < 160) : REL (iup (iup (iup (iup I 209 n x) 208 1 ((n : Int) + 1)) 244 n x) 237 16 ((n : Int) + 1)) := by
  generalize hJ : iup (iup (iup (iup I 209 n x) 208 1 ((n : Int) + 1)) 244 n x) 237 16 ((n : Int) + 1) = J
  have z : ∀ o k, (o ≠ 208 ∨ k ≠ 1) → (o ≠ 237 ∨ k ≠ 16) → (o ≠ 209 ∨ k ≠ n) → (o ≠ 244 ∨ k ≠ n) → J o k = I o k := fun o k a b c d => by rw [← hJ, iup_ne b, iup_ne d, iup_ne a, iup_ne c]
  have zo : ∀ o, o ≠ 208 → o ≠ 237 → o ≠ 209 → o ≠ 244 → J o = I o := fun o a b c d => funext fun k => z o k (Or.inl a) (Or.inl b) (Or.inl c) (Or.inl d)
  have t := h.2.2.2.2.1
  refine REL_side h (fun o k a b c d _ _ _ _ _ _ => z o k a (by omega) (by omega) (by omega)) ⟨by rw [← hJ]; simp [iup], by rw [← hJ, iup_same]; omega, fun k hk => ?_⟩ (RP_fr h.2.2.2.2.2.1 (z _ _ (by omega) (by omega) (by omega) (by omega)) (z _ _ (by omega) (by omega) (by omega) (by omega)) (zo _ (by omega) (by omega) (by omega) (by omega)) (zo _ (by omega) (by omega) (by omega) (by omega))) (RW_fr h.2.2.2.2.2.2 (fun o k _ _ => z o k (by omega) (by omega) (by omega) (by omega)) (zo _ (by omega) (by omega) (by omega) (by omega)) (zo _ (by omega) (by omega) (by omega) (by omega)))
  have hk' : k ≤ n := by
    rw [show J 237 16 = (n : Int) + 1 by rw [← hJ, iup_same]] at hk
    omega
  by_cases c : k = n
  · rw [c, show J 209 n = x by rw [← hJ]; simp [iup], show J 244 n = x by rw [← hJ]; simp [iup]]
    exact ⟨rfl, hx⟩
  · rw [z 209 k (by omega) (by omega) (by omega) (by omega), z 244 k (by omega) (by omega) (by omega) (by omega)]
    exact t.2.2 k (by omega)
theorem s_feed {x1 : Int} {I : IM} (h : REL I) : BOTH 26 144 [vI x1] I := by
  unfold BOTH
  have hcn : I 1 0 = I 238 5 := h.1.2.1
  have hcr := h.1.1.1
  have ht := h.2.2.2.2.1
  have ht1 := ht.1
  have ht2 := ht.2.1
  by_cases c0 : 1 ≤ x1 ∧ x1 ≤ 127
  · by_cases c1 : I 237 16 < 160
    · refine e26 ?_
      unfold D26_0
      refine k_within ⟨_, rfl, ?_⟩
      rw [b2i_t c0, if_neg (by decide)]
      refine e27 (Or.inl rfl) ?_
      unfold D27_0
      rw [show txn 208 = 160 from rfl, if_pos (by omega)]
      obtain ⟨n, hn⟩ : ∃ n : Nat, I 237 16 = n := ⟨(I 237 16).toNat, by omega⟩
      refine ⟨by omega, by omega, fun J1 e1 => ?_⟩
      rw [show (I 208 1).toNat = n by omega, show (208 + 1 : Nat) = 209 from rfl] at e1
      have f1 : J1 208 1 = n := by rw [e1, iup_ne (Or.inl (by decide))]; omega
      rw [f1]
      refine ⟨by unfold inR; omega, fun J2 e2 => ⟨_, rfl, ?_⟩⟩
      rw [if_neg (by decide)]
      refine ⟨_, rfl, ?_⟩
      refine e144 ?_
      unfold D144_0
      refine m_isIn ⟨_, rfl, ?_⟩
      rw [b2i_t c0, if_neg (by decide)]
      skip
      have f2 : J2 237 16 = n := by rw [e2, e1]; simp [iup, hn]
      rw [f2, if_neg (by omega)]
      refine ⟨by omega, fun J3 e3 => ?_⟩
      have f3 : J3 237 16 = n := by rw [e3, iup_ne (Or.inl (by decide)), f2]
      rw [f3]
      refine ⟨by unfold inR; omega, fun J4 e4 => ?_⟩
      rw [Int.toNat_natCast] at e3
      rw [e4, e3, e2, e1]
      refine ⟨?_, feed_rel h c0 hn (by omega), SC_up (SC_up (SC_up (SC_up SC_refl (by decide)) (by decide)) (by decide)) (by decide)⟩
      simp [iup]
    · refine e26 ?_
      unfold D26_0
      refine k_within ⟨_, rfl, ?_⟩
      rw [b2i_t c0, if_neg (by decide)]
      refine e27 (Or.inl rfl) ?_
      unfold D27_0
      rw [show txn 208 = 160 from rfl, if_neg (by omega)]
      refine ⟨_, rfl, ?_⟩
      rw [if_pos rfl]
      refine ⟨_, rfl, ?_⟩
      refine e144 ?_
      unfold D144_0
      refine m_isIn ⟨_, rfl, ?_⟩
      rw [b2i_t c0, if_neg (by decide)]
      rw [if_pos (by omega)]
      exact ⟨rfl, h, fun _ _ _ => rfl⟩
  · refine e26 ?_
    unfold D26_0
    refine k_within ⟨_, rfl, ?_⟩
    rw [b2i_f c0, if_pos rfl]
    refine ⟨_, rfl, ?_⟩
    refine e144 ?_
    unfold D144_0
    refine m_isIn ⟨_, rfl, ?_⟩
    rw [b2i_f c0, if_pos rfl]
    exact ⟨rfl, h, fun _ _ _ => rfl⟩
theorem s_paper {x1 : Int} {I : IM} (h : REL I) : BOTH 56 174 [vI x1] I := by
  unfold BOTH
  have hp := h.2.2.2.2.2.1
  have hp1 := hp.1
  have hp2 := hp.2.1
  refine e56 ?_
  unfold D56_0
  refine e34 (Or.inr rfl) ?_
  unfold D34_0
  have md : ∀ K, ((0 ≤ x1 ∧ x1 ≤ I 237 18 - 1) → K (some (vI (I 246 x1.toNat))) I) → (¬ (0 ≤ x1 ∧ x1 ≤ I 237 18 - 1) → K (some (vI (-1))) I) → CALL S0 174 [vR 237, vI x1] I K := by
    intro K k1 k0
    refine e174 ?_
    unfold D174_0 inR
    refine ⟨by omega, m_isIn ⟨_, rfl, ?_⟩⟩
    by_cases c : 0 ≤ x1 ∧ x1 ≤ I 237 18 - 1
    · rw [b2i_t c, if_neg (by decide)]
      exact ⟨by omega, k1 c⟩
    · rw [b2i_f c, if_pos rfl]
      exact k0 c
  split
  · exact ⟨_, rfl, _, rfl, md _ (fun c => by omega) (fun _ => ⟨rfl, h, SC_refl⟩)⟩
  · split
    · exact ⟨_, rfl, _, rfl, md _ (fun c => by omega) (fun _ => ⟨rfl, h, SC_refl⟩)⟩
    · refine ⟨⟨by omega, ?_⟩, _, rfl, _, rfl, md _ (fun c => ⟨?_, h, SC_refl⟩) (fun c => by omega)⟩
      · show x1 < 64; omega
      · rw [show (210 + 1 : Nat) = 211 from rfl, hp.2.2 x1.toNat (by omega)]
