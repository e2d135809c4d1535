/-! level 2: class and model call by call: take, back -/
theorem rel_of' {I J1 J2 : IM} {R : Nat → List Int} (h : REL I) (c1 : ∀ o k, ¬ SCR o k → (o < 29 ∨ 35 < o) → (o < 78 ∨ 191 < o) → J1 o k = I o k) (c2 : SZC J1 29) (c3 : ∀ v, v < 4 → LC J1 29 v = R v) (m1 : ∀ o k, ¬ SCR o k → (o ≠ 238 ∨ k < 114) → o ≠ 240 → (o ≠ 237 ∨ k ≠ 4) → J2 o k = J1 o k) (m2 : SZM J2 238 114) (m3 : ∀ v, v < 4 → LM J2 238 114 v = R v) (hV : VR (I 238) R) (hS : RS J2) : REL J2 ∧ SC I J2 := by
  obtain ⟨h1, h2, h3, h4, h5, h6, h7⟩ := h
  have hn := h1.1.1.2
  have f : ∀ o k, ¬ SCR o k → (o < 29 ∨ 35 < o) → (o < 78 ∨ 191 < o) → (o ≠ 238 ∨ k < 114) → o ≠ 240 → (o ≠ 237 ∨ k ≠ 4) → J2 o k = I o k := fun o k a b c d e g => (m1 o k a d e g).trans (c1 o k a b c)
  have fo : ∀ o k, (o < 29 ∨ (36 ≤ o ∧ o < 71) ∨ (208 ≤ o ∧ o ≤ 211) ∨ (231 ≤ o ∧ o ≤ 236) ∨ (o = 237 ∧ (k = 2 ∨ k = 16 ∨ k = 18)) ∨ (o = 238 ∧ k < 114) ∨ o = 239 ∨ o = 244 ∨ o = 246 ∨ 250 ≤ o) → J2 o k = I o k := fun o k a => f o k (by unfold SCR; omega) (by omega) (by omega) (by omega) (by omega) (by omega)
  have fm : ∀ o k, (o < 71 ∨ (78 ≤ o ∧ o < 192)) → J2 o k = J1 o k := fun o k a => m1 o k (by unfold SCR; omega) (by omega) (by omega) (by omega)
  have g : ∀ k, k < 114 → J2 238 k = I 238 k := fun k hk => fo 238 k (by omega)
  refine ⟨⟨RB_fr h1 (fun o k _ _ => fo o k (by omega)) g, ⟨fun v hv => by rw [fm _ _ (by omega)]; exact c2 v hv, m2, fun v hv => ?_, VR_eq m3 (VR_lo g hn hV)⟩, RI_fr h3 (fun o k _ _ => fo o k (by omega)) (funext fun k => fo 239 k (by omega)) (fo 0 6 (by omega)) (fo 237 2 (by omega)), hS, RT_fr h5 (fo 208 1 (by omega)) (fo 237 16 (by omega)) (funext fun k => fo 209 k (by omega)) (funext fun k => fo 244 k (by omega)), RP_fr h6 (fo 210 1 (by omega)) (fo 237 18 (by omega)) (funext fun k => fo 211 k (by omega)) (funext fun k => fo 246 k (by omega)), RW_fr h7 (fun o k _ _ => fo o k (by omega)) (funext fun k => fo 250 k (by omega)) (funext fun k => fo 251 k (by omega))⟩, fun o k a => fo o k (by omega)⟩
  rw [m3 v hv, ← c3 v hv]
  exact LC_cg (fm _ _ (by omega)) (fun k => fm _ _ (by omega))
/-- without the order x, that is in a round -/
def outR (R : Nat → List Int) (x : Int) : Nat → List Int := setR R (vanF R x).toNat ((R (vanF R x).toNat).eraseIdx (idx x (R (vanF R x).toNat)))
theorem outR_eq {R R' : Nat → List Int} {x : Int} (h : ∀ v, v < 4 → R v = R' v) (hx : 0 ≤ vanF R x) : ∀ v, v < 4 → outR R x v = outR R' x v := by
  intro v hv
  have hw := (vanF_mem hx).1
  unfold outR
  rw [← vanF_eq h, ← h _ hw]
  by_cases c : v = (vanF R x).toNat
  · rw [c, setR_s, setR_s]
  · rw [setR_n c, setR_n c]; exact h v hv
theorem VR_out {G : Nat → Int} {R : Nat → List Int} {x : Int} (hG : GR G) (h : VR G R) (hx : 0 ≤ vanF R x) : VR G (outR R x) := by
  obtain ⟨h1, h2, _⟩ := vanF_mem hx
  exact VR_er hG h h1 (idx_lt h2).1
theorem c_del {r : Nat} {x : Int} {R : Nat → List Int} {J : IM} {K : Option AV → IM → Prop} (hr : isRd r) (hs : SZC J r) (hL : ∀ v, v < 4 → LC J r v = R v) (hx : 0 ≤ vanF R x) (h : ∀ J', (∀ p j, p ≠ r + 1 → (p < r + 3 ∨ r + 6 < p) → J' p j = J p j) → SZC J' r → (∀ w, w < 4 → LC J' r w = outR R x w) → K none J') : CALL S0 80 [vR r, vI x] J K := by
  have hx' : 0 ≤ vanF (LC J r) x := by rw [vanF_eq hL]; exact hx
  exact k_del hr hs hx' fun J' f s l => h J' f s fun w hw => (l w hw).trans (outR_eq hL hx' w hw)
/-- the model takes an order out of what it tries -/
theorem n_out {x : Int} {R : Nat → List Int} {J : IM} {K : Option AV → IM → Prop} (hs : SZM J 242 0) (hL : ∀ v, v < 4 → LM J 242 0 v = R v) (hx : 0 ≤ vanF R x) (h : ∀ J', (∀ p j, p ≠ 242 → J' p j = J p j) → SZM J' 242 0 → (∀ w, w < 4 → LM J' 242 0 w = outR R x w) → K none J') : CALL S0 207 [vR 242, vI (vanF R x), vI (placeF R x)] J K := by
  obtain ⟨h1, h2, h3⟩ := vanF_mem hx
  have il := idx_lt h2
  rw [h3]
  have e : vanF R x = ((vanF R x).toNat : Int) := by omega
  have main : CALL S0 207 [vR 242, vI ((vanF R x).toNat : Int), vI ((idx x (R (vanF R x).toNat) : Nat) : Int)] J K := by
    refine m_del s0_242 h1 hs (by rw [hL _ h1]; exact il.1) fun J' f s l => h J' f s fun w hw => ?_
    rw [l w hw]
    unfold outR
    by_cases c : w = (vanF R x).toNat
    · rw [c, setR_s, setR_s, hL _ h1]
    · rw [setR_n c, setR_n c]; exact hL w hw
  rw [← e] at main
  exact main
theorem s_take {x1 : Int} {I : IM} (h : REL I) : BOTH 79 206 [vI x1] I := by
  have hcn : I 1 0 = I 238 5 := h.1.2.1
  have hG := h.1.1
  have hV := rel_VR h
  have hC := rel_CF h
  have vr := @vanF_r (LM I 238 114) x1
  by_cases c : 0 ≤ x1 ∧ x1 < I 238 5
  · by_cases cv : 0 ≤ vanF (LM I 238 114) x1
    · refine both_r (vanF (LM I 238 114) x1) (outR (LM I 238 114) x1) true h (VR_out hG hV cv) (fun K hK => ?_) (fun J hJ eJ K hK => ?_)
      · refine e79 ?_
        unfold D79_0
        refine k_isOrder ⟨_, rfl, ?_⟩
        rw [hcn, b2i_t c, if_neg (by decide)]
        refine c_vanOf hC.2.1 hC.2.2 ⟨_, rfl, ?_⟩
        rw [if_neg (by omega)]
        refine c_keep (I := I) h rd29 (Or.inl rfl) hC.2.1 (fun w hw => rfl) (fun o k a b => rfl) fun J2 f2 ck => ⟨rfl, ?_⟩
        have q2 := CF_fr hC (J' := J2) (fun o k a => f2 o k (by omega))
        refine c_del rd29 q2.2.1 q2.2.2 cv fun J3 f3 s3 l3 => ⟨rfl, hK J3 ⟨fun o k a1 a2 a3 => ?_, s3, l3, ?_⟩⟩
        · rw [f3 o k (by omega) (by omega), f2 o k (by omega)]
        · obtain ⟨n', c', b1, b2, b3, b4, b5, b6, b7, b8⟩ := ck
          refine ⟨n', c', b1, b2, b3, by rw [f3 _ _ (by omega) (by omega)]; exact b4, by rw [f3 _ _ (by omega) (by omega)]; exact b5, fun o k d1 d2 d3 => by rw [f3 _ _ (by omega) (by omega)]; exact b6 o k d1 d2 d3, fun w hw => by rw [f3 _ _ (by omega) (by omega)]; exact b7 w hw, fun w hw => (LC_cg (f3 _ _ (by omega) (by omega)) (fun k => f3 _ _ (by omega) (by omega))).trans (b8 w hw)⟩
      · have mJ : MF (I 238) (LM I 238 114) J := MF_238 (rel_MF h) eJ
        have jJ : ∀ o k, (o = 240 ∨ (o = 237 ∧ k = 4) ∨ o = 238) → J o k = I o k := fun o k a => hJ.1 o k (by unfold SCR; omega) (by omega) (by omega)
        refine e206 ?_
        unfold D206_0
        refine n_isOrder hG mJ ⟨_, rfl, ?_⟩
        rw [b2i_t c, if_neg (by decide)]
        refine n_vanOf mJ ⟨_, rfl, ?_⟩
        rw [if_pos (by omega)]
        refine m_marks ⟨rfl, ?_⟩
        generalize hJ1 : cpd J 238 114 247 0 52 = J1
        have f1 : ∀ o k, o ≠ 247 → J1 o k = J o k := fun o k a => by rw [← hJ1, cpd_out (Or.inl a)]
        have k1 : ∀ k, k < 52 → J1 247 k = I 238 (114 + k) := fun k hk => by
          rw [← hJ1, cpd_in (by omega) (by omega), Nat.sub_zero]
          exact jJ _ _ (by omega)
        have m1 : MF (I 238) (LM I 238 114) J1 := MF_238 mJ (funext fun k => f1 238 k (by decide))
        refine n_tries m1 fun J2 f2 s2 l2 => ⟨rfl, ?_⟩
        have m2 : MF (I 238) (LM I 238 114) J2 := MF_238 m1 (funext fun k => f2 238 k (by decide))
        refine n_placeOf m2 cv ⟨_, rfl, ?_⟩
        refine n_out s2 l2 cv fun J3 f3 s3 l3 => ⟨rfl, ?_⟩
        have m3 : MF (I 238) (LM I 238 114) J3 := MF_238 m2 (funext fun k => f3 238 k (by decide))
        refine n_becomes (G := I 238) (R := outR (LM I 238 114) x1) m3.1 s3 l3 fun J4 f4 m4 => ⟨rfl, ?_⟩
        have f14 : ∀ o k, (o ≠ 238 ∨ k < 114) → o ≠ 242 → o ≠ 247 → J4 o k = J o k := fun o k a b d => (f4 o k a).trans ((f3 o k b).trans ((f2 o k b).trans (f1 o k d)))
        refine n_steps (I := J) (by rw [jJ 237 4 (by omega)]; exact rel_st h) (f14 _ _ (by omega) (by decide) (by decide)) (funext fun k => f14 _ _ (by omega) (by decide) (by decide)) (fun k hk => by rw [f4 _ _ (by omega), f3 _ _ (by decide), f2 _ _ (by decide), k1 k hk]; exact (jJ _ _ (by omega)).symm) fun J5 f5 mk => ⟨rfl, hK J5 ⟨fun o k a1 a2 a3 a4 => ?_, ?_, ?_, mk⟩⟩
        · rw [f5 o k a3 a4]
          unfold SCR at a1
          exact f14 o k a2 (by omega) (by omega)
        · exact (MF_238 m4 (funext fun k => f5 238 k (by decide) (by omega))).2.1
        · exact (MF_238 m4 (funext fun k => f5 238 k (by decide) (by omega))).2.2
    · refine both_q (-3) h (fun K hK => ?_) (fun J f hJ K hK => ?_)
      · refine e79 ?_
        unfold D79_0
        refine k_isOrder ⟨_, rfl, ?_⟩
        rw [hcn, b2i_t c, if_neg (by decide)]
        refine c_vanOf hC.2.1 hC.2.2 ⟨_, rfl, ?_⟩
        rw [if_pos (by omega)]
        exact hK I FS_refl
      · have mJ : MF (I 238) (LM I 238 114) J := MF_238 (rel_MF h) (fs238 f)
        refine e206 ?_
        unfold D206_0
        refine n_isOrder hG mJ ⟨_, rfl, ?_⟩
        rw [b2i_t c, if_neg (by decide)]
        refine n_vanOf mJ ⟨_, rfl, ?_⟩
        rw [if_neg (by omega)]
        exact hK J FS_refl
  · refine both_q (-1) h (fun K hK => ?_) (fun J f hJ K hK => ?_)
    · refine e79 ?_
      unfold D79_0
      refine k_isOrder ⟨_, rfl, ?_⟩
      rw [hcn, b2i_f c, if_pos rfl]
      exact hK I FS_refl
    · have mJ : MF (I 238) (LM I 238 114) J := MF_238 (rel_MF h) (fs238 f)
      refine e206 ?_
      unfold D206_0
      refine n_isOrder hG mJ ⟨_, rfl, ?_⟩
      rw [b2i_f c, if_pos rfl]
      exact hK J FS_refl
theorem s_back {I : IM} (h : REL I) : BOTH 112 197 [] I := by
  obtain ⟨c, n, a1, a2, a3, a4, a5, a6⟩ := h.2.2.2.1
  by_cases z : c = 0
  · refine both_q (-3) h (fun K hK => ?_) (fun J f hJ K hK => ?_)
    · refine e112 ?_
      unfold D112_0
      refine e113 rd29 ?_
      unfold D113_0
      rw [if_pos (by omega)]
      refine ⟨_, rfl, ?_⟩
      rw [if_pos rfl]
      exact hK I FS_refl
    · refine e197 ?_
      unfold D197_0
      rw [f 237 4 (by unfold SCR; omega), if_pos (by omega)]
      exact hK J FS_refl
  · have s0 := a6 0 (by omega)
    have er : rg n 0 = 80 + 7 * ((n + 15) % 16) := by unfold rg; rw [Nat.sub_zero]
    rw [er, Nat.sub_zero] at s0
    unfold BOTH
    refine e112 ?_
    unfold D112_0
    refine e113 rd29 ?_
    unfold D113_0 inR
    rw [if_neg (by omega)]
    refine ⟨by omega, fun I3 e3 => ?_⟩
    have f3 : ∀ o k, (o ≠ 78 ∨ k ≠ 2) → I3 o k = I o k := fun o k a => by rw [e3, iup_ne a]
    rw [f3 78 1 (by omega), a4, Int.tmod_eq_emod_of_nonneg (by omega), Int.tdiv_eq_ediv_of_nonneg (by omega)]
    refine ⟨by omega, by omega, by omega, fun I7 e7 => ?_⟩
    have f7 : ∀ o k, (o ≠ 78 ∨ (k ≠ 1 ∧ k ≠ 2)) → I7 o k = I o k := fun o k a => by rw [e7, iup_ne (by omega)]; exact f3 o k (by omega)
    have n7 : I7 78 1 = (((n + 15) % 16 : Nat) : Int) := by rw [e7, iup_same]; omega
    rw [n7, Int.toNat_natCast]
    refine ⟨by omega, ?_⟩
    have eC : ∀ v, v < 4 → LC I7 (80 + 7 * ((n + 15) % 16)) v = LC I (80 + 7 * ((n + 15) % 16)) v := fun v hv => LC_cg (f7 _ _ (by omega)) (fun k => f7 _ _ (by omega))
    refine k_copy rd29 (q79 (by omega)) (by omega) (fun v hv => by rw [f7 _ _ (by omega)]; exact s0.1 v hv) fun J1 g1 t1 l1 => ⟨rfl, _, rfl, ?_⟩
    rw [if_neg (by decide)]
    have c7 : J1 78 2 = (c : Int) - 1 := by rw [g1 _ _ (by omega), e7, iup_ne (Or.inr (by decide)), e3, iup_same, a2]
    refine ⟨_, rfl, ?_⟩
    have j1 : ∀ o k, (o < 29 ∨ 35 < o) → (o ≠ 78 ∨ (k ≠ 1 ∧ k ≠ 2)) → J1 o k = I o k := fun o k a b => by rw [g1 _ _ (by omega)]; exact f7 o k b
    refine e197 ?_
    unfold D197_0 inR
    rw [j1 237 4 (by omega) (by omega), a1, if_neg (by omega)]
    refine ⟨by omega, fun J3 e3' => ?_⟩
    have h3 : ∀ o k, (o ≠ 237 ∨ k ≠ 4) → J3 o k = J1 o k := fun o k a => by rw [e3', iup_ne a]
    have c3 : J3 237 4 = ((c - 1 : Nat) : Int) := by rw [e3', iup_same]; omega
    have key : ∀ m : Nat, m ≤ 52 → GO S0 197 22 [vR 237, vI ((52 - m : Nat) : Int)] [] (cpd J3 240 (52 * (c - 1)) 238 114 (52 - m)) (fun v' I2 => v' = some (vI (J1 78 2)) ∧ REL I2 ∧ SC I I2) := by
      intro m
      induction m with
      | zero =>
        intro _
        refine g197_22 _ _ _ ?_
        unfold D197_22
        rw [if_pos (by omega), cpd_out (by omega), c3, c7]
        have hs : ∀ k, k < 52 → cpd J3 240 (52 * (c - 1)) 238 114 (52 - 0) 238 (114 + k) = I 240 (52 * (c - 1) + k) := fun k hk => by
          rw [cpd_in (by omega) (by omega), h3 _ _ (by omega), j1 _ _ (by omega) (by omega)]
          congr 1
          omega
        have hM : ∀ v, v < 4 → LM (cpd J3 240 (52 * (c - 1)) 238 114 (52 - 0)) 238 114 v = LM I 240 (52 * (c - 1)) v := fun v hv => LM_congr (s0.2.1 v hv) (fun k hk => by rw [Nat.add_assoc, Nat.add_assoc]; exact hs _ (by omega))
        have fz : ∀ o k, (o ≠ 238 ∨ k < 114) → (o ≠ 237 ∨ k ≠ 4) → cpd J3 240 (52 * (c - 1)) 238 114 (52 - 0) o k = J1 o k := fun o k a b => by rw [cpd_out (by omega)]; exact h3 o k b
        have := rel_of' (J1 := J1) (J2 := cpd J3 240 (52 * (c - 1)) 238 114 (52 - 0)) (R := LM I 240 (52 * (c - 1))) h (fun o k _ b d => j1 o k b (by omega)) t1 (fun v hv => (l1 v hv).trans ((eC v hv).trans (s0.2.2.1 v hv))) (fun o k _ a _ b => fz o k a b) (fun v hv => by rw [hs _ (by omega)]; exact s0.2.1 v hv) hM s0.2.2.2 ⟨c - 1, (n + 15) % 16, by rw [cpd_out (by omega)]; exact c3, by rw [fz _ _ (by omega) (by omega), c7]; omega, by omega, by rw [fz _ _ (by omega) (by omega), g1 _ _ (by omega)]; exact n7, by omega, fun i hi => ?_⟩
        · exact ⟨by congr 2; omega, this.1, this.2⟩
        · have er2 : rg ((n + 15) % 16) i = rg n (i + 1) := by unfold rg; congr 2; omega
          have hr : 80 ≤ rg n (i + 1) ∧ rg n (i + 1) ≤ 185 := by unfold rg; omega
          have aa := a6 (i + 1) (by omega)
          rw [show c - 1 - (i + 1) = c - 1 - 1 - i by omega] at aa
          rw [er2]
          exact SAR_mv aa (fun v hv => by rw [fz _ _ (by omega) (by omega)]; exact j1 _ _ (by omega) (by omega)) (fun v k hv _ => by rw [fz _ _ (by omega) (by omega)]; exact j1 _ _ (by omega) (by omega)) (fun k hk => by rw [fz _ _ (by omega) (by omega)]; exact j1 _ _ (by omega) (by omega)) (fun k hk => by rw [fz _ _ (by omega) (by omega)]; exact j1 _ _ (by omega) (by omega)) h.1.1.1.2
      | succ m ih =>
        intro hm
        refine g197_22 _ _ _ ?_
        unfold D197_22 inR
        rw [if_neg (by omega), cpd_out (o := 237) (by omega), c3]
        refine ⟨by omega, by omega, by omega, by omega, by omega, fun I7' e7' => ⟨by omega, ?_⟩⟩
        have e1 : I7' = cpd J3 240 (52 * (c - 1)) 238 114 (52 - m) := by
          rw [e7', show (114 + ((52 - (m + 1) : Nat) : Int)).toNat = 114 + (52 - (m + 1)) by omega, show (52 * ((c - 1 : Nat) : Int) + ((52 - (m + 1) : Nat) : Int)).toNat = 52 * (c - 1) + (52 - (m + 1)) by omega, cpd_c (by decide), cpd_s (by decide), show 52 - (m + 1) + 1 = 52 - m by omega]
        rw [e1, show ((52 - (m + 1) : Nat) : Int) + 1 = ((52 - m : Nat) : Int) by omega]
        exact ih (by omega)
    have := key 52 (Nat.le_refl _)
    rw [show 52 - 52 = 0 from rfl, cpd_0] at this
    exact this
