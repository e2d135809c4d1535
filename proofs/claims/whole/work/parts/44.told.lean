/-! level 2: class and model call by call: what is told, without rounds (laid by program) -/
theorem b2i_t {p : Prop} [Decidable p] (h : p) : b2i p = 1 := if_pos h
theorem b2i_f {p : Prop} [Decidable p] (h : ¬ p) : b2i p = 0 := if_neg h
theorem SC_up {I I' : IM} {o k : Nat} {x : Int} (h : SC I I') (ho : o < 1000) : SC I (iup I' o k x) := fun o' k' a => by
  rw [iup_ne (Or.inl (by omega))]
  exact h o' k' a
theorem SC_refl {I : IM} : SC I I := fun _ _ _ => rfl
theorem vanF_eq {R R' : Nat → List Int} (h : ∀ v, v < 4 → R v = R' v) (o : Int) : vanF R o = vanF R' o := by
  unfold vanF
  rw [h 0 (by omega), h 1 (by omega), h 2 (by omega), h 3 (by omega)]
theorem placeF_eq {R R' : Nat → List Int} (h : ∀ v, v < 4 → R v = R' v) (o : Int) : placeF R o = placeF R' o := by
  unfold placeF
  rw [h 0 (by omega), h 1 (by omega), h 2 (by omega), h 3 (by omega)]
theorem rr_sz {I : IM} (h : RR I) {v : Nat} (hv : v < 4) : I 30 v = I 238 (114 + 13 * v) := by
  have a := h.1 v hv
  have b := h.2.1 v hv
  have c := congrArg List.length (h.2.2.1 v hv)
  rw [LC_len, LM_len] at c
  rw [show (29 + 1 : Nat) = 30 from rfl] at a c
  omega
theorem rr_at {I : IM} (h : RR I) {v k : Nat} (hv : v < 4) (hk : (k : Int) < I 30 v) : I (32 + v) k = I 238 (114 + 13 * v + 1 + k) := by
  have e := rr_sz h hv
  have c := h.2.2.1 v hv
  have a : (LC I 29 v)[k]? = some (I (29 + 3 + v) k) := LC_get (by rw [show (29 + 1 : Nat) = 30 from rfl]; omega)
  rw [c] at a
  unfold LM at a
  rw [ln_get (by omega)] at a
  exact (Option.some.inj a).symm
theorem s_way {x1 x2 : Int} {I : IM} (h : REL I) : BOTH 57 175 [vI x1, vI x2] I := by
  unfold BOTH
  have hcn : I 1 0 = I 238 5 := h.1.2.1
  have hcr := h.1.1.1
  have good : ∀ a b : Int, (a = -1 ∨ (0 ≤ a ∧ a < I 238 5)) → (b = -1 ∨ (0 ≤ b ∧ b < I 238 5)) → I (11 + (cd a).toNat) (cd b).toNat = wy (I 238) a b := by
    intro a b ha hb
    have e := h.1.2.2.2.2.2.1 (cd a).toNat (cd b).toNat (by have := cd_r (a := a) (by omega); omega) (by have := cd_r (a := b) (by omega); omega)
    rw [wy_dc (by omega) (by omega)] at e
    exact e
  have k28 : ∀ K : Option AV → IM → Prop, (x1 = -1 ∨ (0 ≤ x1 ∧ x1 < I 238 5)) → (x2 = -1 ∨ (0 ≤ x2 ∧ x2 < I 238 5)) → K (some (vI (wy (I 238) x1 x2))) I → D57_28 x1 x2 I K := by
    intro K h1 h2 hK
    have g := good x1 x2 h1 h2
    rw [← g] at hK
    have k46 : D57_46 x1 x2 (cd x1) I K := by
      unfold D57_46
      have r1 := cd_r (a := x1) (by omega)
      refine ⟨r1, ?_⟩
      rw [show 1 + 10 + (cd x1).toNat = 11 + (cd x1).toNat by omega]
      split
      · rename_i c
        rw [c] at hK
        exact hK
      · rename_i c
        refine ⟨by omega, ?_⟩
        rw [show cd x2 = x2 by unfold cd; rw [if_neg (by omega)]] at hK
        exact hK
    unfold D57_28
    split
    · rename_i c
      rw [show cd x1 = 12 by unfold cd; rw [if_pos (by omega)]] at k46
      exact k46
    · rename_i c
      rw [show cd x1 = x1 by unfold cd; rw [if_neg (by omega)]] at k46
      exact k46
  by_cases c1 : x1 = -1 ∨ (0 ≤ x1 ∧ x1 < I 238 5)
  · by_cases c2 : x2 = -1 ∨ (0 ≤ x2 ∧ x2 < I 238 5)
    · have fin : D175_26 x1 x2 I (fun v' I2 => v' = some (vI (wy (I 238) x1 x2)) ∧ REL I2 ∧ SC I I2) := by
        unfold D175_26
        exact m_wayOf h.1.1 (by omega) (by omega) ⟨_, rfl, rfl, h, SC_refl⟩
      have fin2 : D175_13 x1 x2 I (fun v' I2 => v' = some (vI (wy (I 238) x1 x2)) ∧ REL I2 ∧ SC I I2) := by
        unfold D175_13
        split
        · exact fin
        · refine m_isOrder hcr ⟨_, rfl, ?_⟩
          rw [b2i_t (by omega), if_neg (by decide)]
          exact fin
      have fin3 : CALL S0 175 [vR 237, vI x1, vI x2] I (fun v' I2 => v' = some (vI (wy (I 238) x1 x2)) ∧ REL I2 ∧ SC I I2) := by
        refine e175 ?_
        unfold D175_0
        split
        · exact fin2
        · refine m_isOrder hcr ⟨_, rfl, ?_⟩
          rw [b2i_t (by omega), if_neg (by decide)]
          exact fin2
      have k13 : D57_13 x1 x2 I (fun v I1 => ∃ a, v = some (vI a) ∧ CALL S0 175 [vR 237, vI x1, vI x2] I1 (fun v' I2 => v' = some (vI a) ∧ REL I2 ∧ SC I I2)) := by
        unfold D57_13
        split
        · exact k28 _ c1 c2 ⟨_, rfl, fin3⟩
        · refine k_isOrder ⟨_, rfl, ?_⟩
          rw [hcn, b2i_t (by omega), if_neg (by decide)]
          exact k28 _ c1 c2 ⟨_, rfl, fin3⟩
      refine e57 ?_
      unfold D57_0
      split
      · exact k13
      · refine k_isOrder ⟨_, rfl, ?_⟩
        rw [hcn, b2i_t (by omega), if_neg (by decide)]
        exact k13
    · have fin3 : CALL S0 175 [vR 237, vI x1, vI x2] I (fun v' I2 => v' = some (vI (-1)) ∧ REL I2 ∧ SC I I2) := by
        have fin2 : D175_13 x1 x2 I (fun v' I2 => v' = some (vI (-1)) ∧ REL I2 ∧ SC I I2) := by
          unfold D175_13
          rw [if_neg (by omega)]
          refine m_isOrder hcr ⟨_, rfl, ?_⟩
          rw [b2i_f (by omega), if_pos rfl]
          exact ⟨rfl, h, SC_refl⟩
        refine e175 ?_
        unfold D175_0
        split
        · exact fin2
        · refine m_isOrder hcr ⟨_, rfl, ?_⟩
          rw [b2i_t (by omega), if_neg (by decide)]
          exact fin2
      have k13 : D57_13 x1 x2 I (fun v I1 => ∃ a, v = some (vI a) ∧ CALL S0 175 [vR 237, vI x1, vI x2] I1 (fun v' I2 => v' = some (vI a) ∧ REL I2 ∧ SC I I2)) := by
        unfold D57_13
        rw [if_neg (by omega)]
        refine k_isOrder ⟨_, rfl, ?_⟩
        rw [hcn, b2i_f (by omega), if_pos rfl]
        exact ⟨_, rfl, fin3⟩
      refine e57 ?_
      unfold D57_0
      split
      · exact k13
      · refine k_isOrder ⟨_, rfl, ?_⟩
        rw [hcn, b2i_t (by omega), if_neg (by decide)]
        exact k13
  · refine e57 ?_
    unfold D57_0
    rw [if_neg (by omega)]
    refine k_isOrder ⟨_, rfl, ?_⟩
    rw [hcn, b2i_f (by omega), if_pos rfl]
    refine ⟨_, rfl, ?_⟩
    refine e175 ?_
    unfold D175_0
    rw [if_neg (by omega)]
    refine m_isOrder hcr ⟨_, rfl, ?_⟩
    rw [b2i_f (by omega), if_pos rfl]
    exact ⟨rfl, h, SC_refl⟩
/-- the book changes; the rounds may stay -/
theorem VR_ch {G G' : Nat → Int} {R : Nat → List Int} (h : VR G R) (hG : GR G') (hn : G 5 ≤ G' 5) (ha : ∀ v, v < 4 → R v ≠ [] → (AG G G' v (-1) ∧ G' (102 + 3 * v) = G (102 + 3 * v)) ∧ ∀ x ∈ R v, AG G G' v x) : VR G' R := by
  refine ⟨h.1, fun v hv x hx => by have := h.2.1 v hv x hx; omega, h.2.2.1, fun v hv => ?_⟩
  by_cases c : R v = []
  · rw [c]; exact gd_nil hG hv
  · have := ha v hv c
    exact (gdV_ag this.2 this.1.1 this.1.2).mpr (h.2.2.2 v hv)
theorem REL_book {I I' : IM} (h : REL I) (f : ∀ o k, (o = 0 ∨ 29 ≤ o) → o ≠ 238 → (o ≠ 237 ∨ k ≠ 4) → (o ≠ 78 ∨ k ≠ 2) → I' o k = I o k) (f2 : ∀ k, 114 ≤ k → I' 238 k = I 238 k) (hB : RB I') (hV : ∀ R, VR (I 238) R → (∀ v, v < 4 → R v = LM I 238 114 v) ∨ ¬ (I' 237 4 = 0 ∧ I' 78 2 = 0) → VR (I' 238) R) (hz : (I' 237 4 = 0 ∧ I' 78 2 = 0) ∨ (I' 237 4 = I 237 4 ∧ I' 78 2 = I 78 2)) : REL I' := by
  obtain ⟨r1, r2, r3, r4, r5, r6, r7⟩ := h
  have oo : ∀ q, (q = 0 ∨ 29 ≤ q) → q ≠ 238 → q ≠ 237 → q ≠ 78 → I' q = I q := fun q a b c d => funext fun k => f q k a b (Or.inl c) (Or.inl d)
  have eM : ∀ v, v < 4 → LM I' 238 114 v = LM I 238 114 v := fun v hv => LM_congr (r2.2.1 v hv) (fun k hk => f2 _ (by omega))
  have eC : ∀ v, v < 4 → LC I' 29 v = LC I 29 v := fun v hv => LC_congr (f _ _ (by omega) (by omega) (by omega) (by omega)) (fun k _ => f _ _ (by omega) (by omega) (by omega) (by omega))
  refine ⟨hB, ⟨fun v hv => by rw [f (29 + 1) v (by omega) (by omega) (by omega) (by omega)]; exact r2.1 v hv, fun v hv => by rw [f2 _ (by omega)]; exact r2.2.1 v hv, fun v hv => by rw [eM v hv, eC v hv]; exact r2.2.2.1 v hv, VR_eq eM (hV _ r2.2.2.2 (Or.inl (fun _ _ => rfl)))⟩, RI_fr r3 (fun q k a b => f q k (by omega) (by omega) (by omega) (by omega)) (oo 239 (by decide) (by decide) (by decide) (by decide)) (f 0 6 (by omega) (by omega) (by omega) (by omega)) (f 237 2 (by omega) (by omega) (by omega) (by omega)), ?_, RT_fr r5 (f 208 1 (by omega) (by omega) (by omega) (by omega)) (f 237 16 (by omega) (by omega) (by omega) (by omega)) (oo 209 (by decide) (by decide) (by decide) (by decide)) (oo 244 (by decide) (by decide) (by decide) (by decide)), RP_fr r6 (f 210 1 (by omega) (by omega) (by omega) (by omega)) (f 237 18 (by omega) (by omega) (by omega) (by omega)) (oo 211 (by decide) (by decide) (by decide) (by decide)) (oo 246 (by decide) (by decide) (by decide) (by decide)), RW_fr r7 (fun q k a b => f q k (by omega) (by omega) (by omega) (by omega)) (oo 250 (by decide) (by decide) (by decide) (by decide)) (oo 251 (by decide) (by decide) (by decide) (by decide))⟩
  obtain ⟨c, n, a1, a2, a3, a4, a5, a6⟩ := r4
  have en : I' 78 1 = n := by rw [f 78 1 (by omega) (by omega) (by omega) (by omega)]; exact a4
  by_cases z : I' 237 4 = 0 ∧ I' 78 2 = 0
  · exact RS_0 z.1 z.2 en a5
  · rcases hz with y | ⟨y1, y2⟩
    · exact absurd y z
    refine ⟨c, n, by rw [y1]; exact a1, by rw [y2]; exact a2, a3, en, a5, fun i hi => ?_⟩
    have hr : 80 ≤ rg n i ∧ rg n i ≤ 185 := by unfold rg; omega
    obtain ⟨b1, b2, b3, b4⟩ := a6 i hi
    have eM : ∀ v, v < 4 → LM I' 240 (52 * (c - 1 - i)) v = LM I 240 (52 * (c - 1 - i)) v := fun v hv => LM_congr (b2 v hv) (fun k hk => f _ _ (by omega) (by omega) (by omega) (by omega))
    have eC : ∀ v, v < 4 → LC I' (rg n i) v = LC I (rg n i) v := fun v hv => LC_congr (f _ _ (by omega) (by omega) (by omega) (by omega)) (fun k _ => f _ _ (by omega) (by omega) (by omega) (by omega))
    exact ⟨fun v hv => by rw [f (rg n i + 1) v (by omega) (by omega) (by omega) (by omega)]; exact b1 v hv, fun v hv => by rw [f 240 _ (by omega) (by omega) (by omega) (by omega)]; exact b2 v hv, fun v hv => by rw [eM v hv, eC v hv]; exact b3 v hv, VR_eq eM (hV _ b4 (Or.inr z))⟩
theorem AG_of {G G' : Nat → Int} {v : Nat} {a : Int} (h : ∀ k, (0 ≤ a → 6 + 8 * a.toNat ≤ k → k < 13 + 8 * a.toNat → G' k = G k) ∧ (a < 0 → (k = 0 ∨ k = 1 ∨ k = 103 + 3 * v ∨ k = 104 + 3 * v) → G' k = G k)) : AG G G' v a := by
  unfold AG nx ny opn cls nw
  split
  · rename_i c
    rw [(h _).1 c (by omega) (by omega), (h _).1 c (by omega) (by omega), (h _).1 c (by omega) (by omega), (h _).1 c (by omega) (by omega), (h _).1 c (by omega) (by omega), (h _).1 c (by omega) (by omega), (h _).1 c (by omega) (by omega)]
    exact ⟨rfl, rfl, rfl, rfl, rfl, rfl, rfl⟩
  · rename_i c
    rw [(h _).2 (by omega) (by omega), (h _).2 (by omega) (by omega), (h _).2 (by omega) (by omega), (h _).2 (by omega) (by omega)]
    exact ⟨rfl, rfl, rfl, rfl, rfl, rfl, rfl⟩
theorem wy_of {G G' : Nat → Int} (h : ∀ o, o < 12 → G' (6 + 8 * o + 0) = G (6 + 8 * o + 0) ∧ G' (6 + 8 * o + 1) = G (6 + 8 * o + 1)) (h0 : G' 0 = G 0 ∧ G' 1 = G 1) {a b : Int} (ha : a < 12) (hb : b < 12) : wy G' a b = wy G a b := by
  have e : ∀ c : Int, c < 12 → nx G' c = nx G c ∧ ny G' c = ny G c := by
    intro c hc
    unfold nx ny
    split
    · exact ⟨(h _ (by omega)).1, (h _ (by omega)).2⟩
    · exact h0
  unfold wy
  rw [(e a ha).1, (e a ha).2, (e b hb).1, (e b hb).2]
theorem price_rel {x1 x2 : Int} {I : IM} (h : REL I) (h1 : 0 ≤ x1 ∧ x1 ≤ 2) (h2 : 0 ≤ x2 ∧ (x1 = 2 → x2 ≤ 999) ∧ (x1 ≠ 2 → x2 ≤ 9)) : REL (iup (iup I 28 x1.toNat x2) 238 (2 + x1).toNat x2) := by
  obtain ⟨p, hp⟩ : ∃ p : Nat, x1 = p := ⟨x1.toNat, by omega⟩
  rw [show (2 + x1).toNat = 2 + p by omega, show x1.toNat = p by omega]
  generalize hJ : iup (iup I 28 p x2) 238 (2 + p) x2 = J
  have g : ∀ k, (k ≠ 2 + p) → J 238 k = I 238 k := fun k hk => by rw [← hJ, iup_ne (Or.inr hk), iup_ne (Or.inl (by decide))]
  have gp : J 238 (2 + p) = x2 := by rw [← hJ, iup_same]
  have o : ∀ o k, o ≠ 28 → o ≠ 238 → J o k = I o k := fun o k a b => by rw [← hJ, iup_ne (Or.inl b), iup_ne (Or.inl a)]
  have op : ∀ k, k ≠ p → J 28 k = I 28 k := fun k hk => by rw [← hJ, iup_ne (Or.inl (by decide)), iup_ne (Or.inr hk)]
  have opp : J 28 p = x2 := by rw [← hJ, iup_ne (Or.inl (by decide)), iup_same]
  have hG := h.1.1
  have GR' : GR (J 238) := by
    refine ⟨by rw [g 5 (by omega)]; exact hG.1, fun q hq => ?_, by rw [g 0 (by omega), g 1 (by omega)]; exact hG.2.2.1, ?_, fun v hv => by rw [g (102 + 3 * v) (by omega), g (103 + 3 * v) (by omega), g (104 + 3 * v) (by omega)]; exact hG.2.2.2.2 v hv⟩
    · rw [g (6 + 8 * q + 0) (by omega), g (6 + 8 * q + 1) (by omega), g (6 + 8 * q + 2) (by omega), g (6 + 8 * q + 3) (by omega), g (6 + 8 * q + 4) (by omega), g (6 + 8 * q + 5) (by omega), g (6 + 8 * q + 6) (by omega), g (6 + 8 * q + 7) (by omega)]
      exact hG.2.1 q hq
    · have b := hG.2.2.2.1
      rcases (show p = 0 ∨ p = 1 ∨ p = 2 by omega) with e | e | e <;> subst e
      · rw [show (2 : Nat) = 2 + 0 from rfl, gp, g 3 (by omega), g 4 (by omega)]; omega
      · rw [show (3 : Nat) = 2 + 1 from rfl, gp, g 2 (by omega), g 4 (by omega)]; omega
      · rw [show (4 : Nat) = 2 + 2 from rfl, gp, g 2 (by omega), g 3 (by omega)]; omega
  have ag : ∀ v, v < 4 → ∀ a : Int, a < 12 → AG (I 238) (J 238) v a := fun v hv a ha => AG_of (fun k => ⟨fun _ _ _ => g k (by omega), fun _ _ => g k (by omega)⟩)
  have vr : ∀ R, VR (I 238) R → VR (J 238) R := fun R hR => VR_ch hR GR' (by rw [g 5 (by omega)]; omega) (fun v hv _ => ⟨⟨ag v hv _ (by omega), g _ (by omega)⟩, fun x hx => ag v hv x (by have := hR.2.1 v hv x hx; have := hG.1; omega)⟩)
  refine REL_book h (fun q k a b c d => o q k (by omega) b) (fun k hk => g k (by omega)) ⟨GR', ?_⟩ (fun R hR _ => vr R hR) (Or.inr ⟨o _ _ (by omega) (by omega), o _ _ (by omega) (by omega)⟩)
  obtain ⟨h1, h2, h3, h4, h5, h6, h7⟩ := h.1.2
  refine ⟨by rw [o 1 0 (by omega) (by omega), g 5 (by omega)]; exact h1, fun q hq w hw => by rw [o (1 + 1 + w) q (by omega) (by omega), g (6 + 8 * q + w) (by omega)]; exact h2 q hq w hw, by rw [o (1 + 1) 12 (by omega) (by omega), o (1 + 2) 12 (by omega) (by omega), g 0 (by omega), g 1 (by omega)]; exact h3, by rw [o (1 + 3) 12 (by omega) (by omega), o (1 + 5) 12 (by omega) (by omega), o (1 + 6) 12 (by omega) (by omega), o (1 + 7) 12 (by omega) (by omega)]; exact h4, fun a b ha hb => by rw [o (1 + 10 + a) b (by omega) (by omega), wy_ag (v := 0) (ag 0 (by omega) _ dc_lt) (ag 0 (by omega) _ dc_lt)]; exact h5 a b ha hb, fun v hv => by rw [o (24 + 1) v (by omega) (by omega), o (24 + 2) v (by omega) (by omega), o (24 + 3) v (by omega) (by omega), g (102 + 3 * v) (by omega), g (103 + 3 * v) (by omega), g (104 + 3 * v) (by omega)]; exact h6 v hv, fun w hw => ?_⟩
  by_cases c : w = p
  · rw [c, gp]; exact opp
  · rw [g (2 + w) (by omega)]
    exact (op w c).trans (h7 w hw)
theorem s_price {x1 x2 : Int} {I : IM} (h : REL I) : BOTH 25 143 [vI x1, vI x2] I := by
  unfold BOTH
  by_cases c0 : 0 ≤ x1 ∧ x1 ≤ 2
  · have go : ∀ M : Int, ((x1 = 2 ∧ M = 999) ∨ (x1 ≠ 2 ∧ M = 9)) → ∀ u u' : AV, D25_26 x1 x2 u x2 0 M I (fun v I1 => ∃ a, v = some (vI a) ∧ CALL S0 143 [vR 237, vI x1, vI x2] I1 (fun v' I2 => v' = some (vI a) ∧ REL I2 ∧ SC I I2)) := by
      intro M hM u u'
      have md : ∀ I1 : IM, ∀ K, D143_26 x1 x2 vU x2 0 M I1 K → CALL S0 143 [vR 237, vI x1, vI x2] I1 K := by
        intro I1 K hK
        refine e143 ?_
        unfold D143_0
        refine m_isIn ⟨_, rfl, ?_⟩
        rw [b2i_t c0, if_neg (by decide)]
        rcases hM with ⟨z1, z2⟩ | ⟨z1, z2⟩
        · rw [if_pos z1, ← z2]; exact hK
        · rw [if_neg z1, ← z2]; exact hK
      unfold D25_26
      refine k_within ⟨_, rfl, ?_⟩
      by_cases c1 : 0 ≤ x2 ∧ x2 ≤ M
      · rw [b2i_t c1, if_neg (by decide)]
        refine ⟨by omega, fun I5 e5 => ⟨_, rfl, md I5 _ ?_⟩⟩
        unfold D143_26 inR
        refine m_isIn ⟨_, rfl, ?_⟩
        rw [b2i_t c1, if_neg (by decide)]
        refine ⟨by omega, by omega, fun I6 e6 => ?_⟩
        have r := price_rel (x1 := x1) (x2 := x2) h c0 (by omega)
        rw [e6, e5]
        refine ⟨?_, r, SC_up (SC_up SC_refl (by decide)) (by decide)⟩
        rw [iup_ne (Or.inl (by decide)), show (2 + x1).toNat = 2 + x1.toNat by omega, ← h.1.2.2.2.2.2.2.2 x1.toNat (by omega)]
      · rw [b2i_f c1, if_pos rfl]
        refine ⟨_, rfl, md I _ ?_⟩
        unfold D143_26
        refine m_isIn ⟨_, rfl, ?_⟩
        rw [b2i_f c1, if_pos rfl]
        exact ⟨rfl, h, SC_refl⟩
    refine e25 ?_
    unfold D25_0
    refine k_within ⟨_, rfl, ?_⟩
    rw [b2i_t c0, if_neg (by decide)]
    split
    · rename_i c
      exact go 999 (Or.inl ⟨c, rfl⟩) _ vU
    · rename_i c
      exact go 9 (Or.inr ⟨c, rfl⟩) _ vU
  · refine e25 ?_
    unfold D25_0
    refine k_within ⟨_, rfl, ?_⟩
    rw [b2i_f c0, if_pos rfl]
    refine ⟨_, rfl, ?_⟩
    refine e143 ?_
    unfold D143_0
    refine m_isIn ⟨_, rfl, ?_⟩
    rw [b2i_f c0, if_pos rfl]
    exact ⟨rfl, h, SC_refl⟩
theorem s_stops {x1 : Int} {I : IM} (h : REL I) : BOTH 61 178 [vI x1] I := by
  unfold BOTH
  have hcn : I 1 0 = I 238 5 := h.1.2.1
  have hcr := h.1.1.1
  by_cases c0 : 0 ≤ x1 ∧ x1 ≤ 3
  · refine e61 ?_
    unfold D61_0
    refine k_isVan ⟨_, rfl, ?_⟩
    rw [b2i_t c0, if_neg (by decide)]
    refine ⟨by omega, ?_⟩
    refine ⟨_, rfl, ?_⟩
    refine e178 ?_
    unfold D178_0
    refine m_isVan ⟨_, rfl, ?_⟩
    rw [b2i_t c0, if_neg (by decide)]
    refine m_stopsOf (by omega) ⟨_, rfl, ?_⟩
    refine ⟨?_, h, SC_refl⟩
    rw [rr_sz h.2.1 (v := x1.toNat) (by omega)]
  · refine e61 ?_
    unfold D61_0
    refine k_isVan ⟨_, rfl, ?_⟩
    rw [b2i_f c0, if_pos rfl]
    refine ⟨_, rfl, ?_⟩
    refine e178 ?_
    unfold D178_0
    refine m_isVan ⟨_, rfl, ?_⟩
    rw [b2i_f c0, if_pos rfl]
    exact ⟨rfl, h, fun _ _ _ => rfl⟩
theorem s_stop {x1 x2 : Int} {I : IM} (h : REL I) : BOTH 62 179 [vI x1, vI x2] I := by
  unfold BOTH
  by_cases c0 : 0 ≤ x1 ∧ x1 ≤ 3
  · have sz := h.2.1.1 x1.toNat (by omega)
    have es := rr_sz h.2.1 (v := x1.toNat) (by omega)
    rw [show (29 + 1 : Nat) = 30 from rfl] at sz
    refine e62 ?_
    unfold D62_0 inR
    refine k_isVan ⟨_, rfl, ?_⟩
    rw [b2i_t c0, if_neg (by decide)]
    refine ⟨by omega, by omega, k_within ⟨_, rfl, ?_⟩⟩
    have md : ∀ K, (b2i (0 ≤ x2 ∧ x2 ≤ I 30 x1.toNat - 1) = 0 → K (some (vI (-1))) I) → (b2i (0 ≤ x2 ∧ x2 ≤ I 30 x1.toNat - 1) ≠ 0 → K (some (vI (I 238 (114 + 13 * x1.toNat + 1 + x2.toNat)))) I) → CALL S0 179 [vR 237, vI x1, vI x2] I K := by
      intro K k0 k1
      refine e179 ?_
      unfold D179_0 inR
      refine m_isVan ⟨_, rfl, ?_⟩
      rw [b2i_t c0, if_neg (by decide)]
      refine m_stopsOf (by omega) ⟨_, rfl, ?_⟩
      rw [← es]
      refine ⟨by omega, m_isIn ⟨_, rfl, ?_⟩⟩
      split
      · rename_i c; exact k0 c
      · rename_i c
        have cc : 0 ≤ x2 ∧ x2 ≤ I 30 x1.toNat - 1 := Decidable.byContradiction (fun z => c (b2i_f z))
        refine ⟨by omega, by omega, by omega, by omega, by omega, ?_⟩
        rw [show (114 + 13 * x1 + 1 + x2).toNat = 114 + 13 * x1.toNat + 1 + x2.toNat by omega]
        exact k1 c
    split
    · rename_i c
      exact ⟨_, rfl, md _ (fun _ => ⟨rfl, h, SC_refl⟩) (fun z => absurd c z)⟩
    · rename_i c
      have cc : 0 ≤ x2 ∧ x2 ≤ I 30 x1.toNat - 1 := Decidable.byContradiction (fun z => c (b2i_f z))
      refine ⟨by omega, _, rfl, md _ (fun z => absurd z c) (fun _ => ⟨?_, h, SC_refl⟩)⟩
      rw [show (29 + 3 + x1.toNat) = 32 + x1.toNat from rfl, rr_at h.2.1 (v := x1.toNat) (k := x2.toNat) (by omega) (by omega)]
  · refine e62 ?_
    unfold D62_0
    refine k_isVan ⟨_, rfl, ?_⟩
    rw [b2i_f c0, if_pos rfl]
    refine ⟨_, rfl, ?_⟩
    refine e179 ?_
    unfold D179_0
    refine m_isVan ⟨_, rfl, ?_⟩
    rw [b2i_f c0, if_pos rfl]
    exact ⟨rfl, h, SC_refl⟩
