/-! level 2: moves: the class weighs, scans, descends -/
theorem ite01 {p : Prop} [Decidable p] : (if p then (1 : Int) else 0) = 0 ∨ (if p then (1 : Int) else 0) = 1 := by
  by_cases h : p
  · rw [if_pos h]; exact Or.inr rfl
  · rw [if_neg h]; exact Or.inl rfl
theorem mv_01 {R : Nat → List Int} {kind a b c : Int} : mvB R kind a b c = 0 ∨ mvB R kind a b c = 1 := by
  unfold mvB
  by_cases k0 : kind = 0
  · rw [if_pos k0]; exact ite01
  · rw [if_neg k0]
    by_cases k1 : kind = 1
    · rw [if_pos k1]; exact ite01
    · rw [if_neg k1]
      by_cases k2 : kind = 2
      · rw [if_pos k2]; exact ite01
      · rw [if_neg k2]
        by_cases k3 : kind = 3
        · rw [if_pos k3]; exact ite01
        · rw [if_neg k3]; exact Or.inl rfl
theorem c_wm {kind a b c : Int} {G : Nat → Int} {R : Nat → List Int} {J : IM} {K : Option AV → IM → Prop} (hG : GR G) (hV : VR G R) (hC : CF G R J) (hm : mvB R kind a b c = 1) (hw : ∀ v, v < 4 → J 196 v = csV G v (R v)) (h : ∀ J' : IM, (∀ p q : Nat, p ≠ 192 → (p ≠ 195 ∨ (q ≠ 4 ∧ q ≠ 5 ∧ q ≠ 6)) → p ≠ 198 → (p < 198 ∨ 203 < p) → J' p q = J p q) → (chB R kind a b c = 0 → K (some (vI (-3))) J') ∧ (chB R kind a b c = 1 → maB G R kind a b c = 1 → J' 195 6 = gnF G R kind a b c → TF (mkR R kind a b c) J' → K (some (vI 1)) J') ∧ (chB R kind a b c = 1 → ¬ maB G R kind a b c = 1 → K (some (vI (-7))) J')) : CALL S0 85 [vR 195, vI kind, vI a, vI b, vI c] J K := by
  refine e85 ?_
  unfold D85_0
  obtain ⟨v0, q2, q3, q4, q5⟩ := mk_V0 hG (VR_V0 hV) hm
  refine c_changes hC hm hV.1 ⟨_, rfl, ?_⟩
  rcases @ch_01 R kind a b c with z | z
  · rw [z, if_pos rfl]
    exact (h J (fun _ _ _ _ _ _ => rfl)).1 z
  · rw [z, if_neg (by decide)]
    refine k_copy rd197 rd29 (by decide) hC.2.1 fun J1 f1 s1 l1 => ⟨rfl, ?_⟩
    have C1 := CF_fr hC (J' := J1) (fun o k a => f1 o k (by omega))
    have T1 : TF R J1 := ⟨s1, fun v hv => (l1 v hv).trans (hC.2.2 v hv)⟩
    refine c_shape hG hV C1 T1 hm fun J2 f2 o1 o2 T2 => ⟨rfl, ?_⟩
    have C2 := CF_fr C1 (J' := J2) (fun o k a => f2 o k (by omega) (by omega) (by omega))
    have R12' := V0_R12 hG v0
    have w2 : ∀ v, v < 4 → J2 196 v = csV G v (R v) := fun v hv => by rw [f2 196 v (by omega) (by omega) (by omega), f1 196 v (by omega)]; exact hw v hv
    have g2 : ∀ p q, p ≠ 192 → (p ≠ 195 ∨ (q ≠ 4 ∧ q ≠ 5 ∧ q ≠ 6)) → p ≠ 198 → (p < 198 ∨ 203 < p) → J2 p q = J p q := fun p q b1 b2 b3 b4 => by rw [f2 p q (by omega) b3 (by omega), f1 p q (by omega)]
    rw [o1]
    have b1 := cs_good hG q4 (VR_12 hG hV q4) (hV.2.2.2 _ q4)
    refine c_costOf rd197 q4 hG C2.1 T2.1 R12' T2.2 fun J3 f3 => ⟨fun g1 => ⟨_, rfl, ?_⟩, fun g1 => ⟨_, rfl, ?_⟩⟩
    · have b2 := cs_good hG q4 (fun x hx => R12' _ q4 x hx) g1
      have g3 : ∀ p q, p ≠ 192 → (p ≠ 195 ∨ (q ≠ 4 ∧ q ≠ 5 ∧ q ≠ 6)) → p ≠ 198 → (p < 198 ∨ 203 < p) → J3 p q = J p q := fun p q b1 b2 b3 b4 => by rw [f3 p q b1]; exact g2 p q b1 b2 b3 b4
      rw [if_neg (by omega), f3 195 4 (by decide), o1, Int.toNat_natCast, f3 196 _ (by decide), w2 _ q4]
      refine ⟨by omega, by unfold inR; omega, fun I11 e11 => ?_⟩
      have f11 : ∀ p q, (p ≠ 195 ∨ q ≠ 6) → I11 p q = J3 p q := fun p q a => by rw [e11, iup_ne a]
      rw [f11 195 5 (by omega), f11 195 4 (by omega), f3 195 4 (by decide), f3 195 5 (by decide), o1, o2]
      have T3 := TF_fr T2 (J' := I11) (fun p j a => by rw [f11 p j (by omega), f3 p j (by omega)])
      by_cases c1 : ((othV R kind a b : Nat) : Int) = ((oneV R kind a : Nat) : Int)
      · rw [if_pos c1]
        have c2 : othV R kind a b = oneV R kind a := by omega
        have ma : maB G R kind a b c = 1 := by unfold maB; rw [c2, if_pos ⟨z, gz_1.mpr g1, gz_1.mpr g1⟩]
        refine (h I11 (fun p q b1 b2 b3 b4 => by rw [f11 p q (by omega)]; exact g3 p q b1 b2 b3 b4)).2.1 z ma ?_ T3
        unfold gnF
        rw [mk_csA hG hV hm, if_pos c2, e11, iup_same]
        omega
      · rw [if_neg c1]
        have c2 : ¬ othV R kind a b = oneV R kind a := by omega
        have b3 := cs_good hG q5 (VR_12 hG hV q5) (hV.2.2.2 _ q5)
        have C3 := CF_fr C2 (J' := I11) (fun o k a => by rw [f11 o k (by omega), f3 o k (by omega)])
        refine c_costOf rd197 q5 hG C3.1 T3.1 R12' T3.2 fun J4 f4 => ⟨fun g5 => ⟨_, rfl, ?_⟩, fun g5 => ⟨_, rfl, ?_⟩⟩
        · have b4 := cs_good hG q5 (fun x hx => R12' _ q5 x hx) g5
          have x6 : J4 195 6 = csV G (oneV R kind a) (R (oneV R kind a)) - csV G (oneV R kind a) (mkR R kind a b c (oneV R kind a)) := by rw [f4 _ _ (by decide), e11, iup_same]
          rw [if_neg (by omega), f4 195 5 (by decide), f11 195 5 (by omega), f3 195 5 (by decide), o2, Int.toNat_natCast, f4 196 _ (by decide), f11 196 _ (by omega), f3 196 _ (by decide), w2 _ q5, x6]
          refine ⟨by omega, by unfold inR; omega, by unfold inR; omega, fun I19 e19 => ?_⟩
          have f19 : ∀ p q, (p ≠ 195 ∨ q ≠ 6) → I19 p q = J4 p q := fun p q a => by rw [e19, iup_ne a]
          have ma : maB G R kind a b c = 1 := by unfold maB; rw [if_pos ⟨z, gz_1.mpr g1, gz_1.mpr g5⟩]
          refine (h I19 (fun p q b1 b2 b3 b4 => by rw [f19 p q (by omega), f4 p q b1, f11 p q (by omega)]; exact g3 p q b1 b2 b3 b4)).2.1 z ma ?_ (TF_fr T3 (fun p j a => by rw [f19 p j (by omega), f4 p j (by omega)]))
          unfold gnF
          rw [mk_csA hG hV hm, if_neg c2, e19, iup_same]
        · rw [if_pos rfl]
          refine (h J4 (fun p q b1 b2 b3 b4 => by rw [f4 p q b1, f11 p q (by omega)]; exact g3 p q b1 b2 b3 b4)).2.2 z ?_
          unfold maB
          rw [if_neg (fun y => g5 (gz_1.mp y.2.2))]
          decide
    · rw [if_pos rfl]
      refine (h J3 (fun p q b1 b2 b3 b4 => by rw [f3 p q b1]; exact g2 p q b1 b2 b3 b4)).2.2 z ?_
      unfold maB
      rw [if_neg (fun y => g1 (gz_1.mp y.2.1))]
      decide
theorem c_mostC {kind : Int} {a b : Nat} {G : Nat → Int} {R : Nat → List Int} {J : IM} {K : Option AV → IM → Prop} (hC : CF G R J) (h12 : ∀ v, v < 4 → (R v).length ≤ 12) (hk : 0 ≤ kind ∧ kind ≤ 3) (h : ∀ M : Int, -1 ≤ M → M ≤ 208 → (∀ c : Nat, M < c → ¬ mvB R kind (a : Int) (b : Int) (c : Int) = 1) → K (some (vI M)) J) : CALL S0 93 [vR 195, vI kind, vI (a : Int), vI (b : Int)] J K := by
  refine e93 ?_
  unfold D93_0
  have vr := @vanF_r R (a : Int)
  unfold mvB at h
  by_cases k0 : kind = 0
  · rw [if_pos k0]
    simp only [if_pos k0] at h
    refine k_isVan ⟨_, rfl, ?_⟩
    by_cases hb : 0 ≤ (b : Int) ∧ (b : Int) ≤ 3
    · rw [b2i_t hb, if_neg (by decide)]
      have l := h12 b (by omega)
      refine c_vanOf hC.2.1 hC.2.2 ⟨_, rfl, ?_⟩
      by_cases ha : vanF R (a : Int) = -1
      · rw [if_pos ha]
        exact h (-1) (by omega) (by omega) (fun c _ z => by have := (if1 z).1; omega)
      · rw [if_neg ha]
        refine c_last hC (by omega) l ⟨_, rfl, h _ (by split <;> omega) (by split <;> omega) (fun c hc z => ?_)⟩
        have := (if1 z).2.2.2
        rw [Int.toNat_natCast] at this
        omega
    · rw [b2i_f hb, if_pos rfl]
      exact h (-1) (by omega) (by omega) (fun c _ z => hb (if1 z).2.1)
  · rw [if_neg k0]
    simp only [if_neg k0] at h
    by_cases k1 : kind = 1
    · rw [if_pos k1]
      simp only [if_pos k1] at h
      by_cases hab : (b : Int) ≤ a
      · rw [if_pos hab]
        exact h (-1) (by omega) (by omega) (fun c _ z => by have := (if1 z).1; omega)
      · rw [if_neg hab]
        exact h 0 (by omega) (by omega) (fun c hc z => by have := (if1 z).2.1; omega)
    · rw [if_neg k1]
      simp only [if_neg k1] at h
      by_cases k2 : kind = 2
      · rw [if_pos k2]
        simp only [if_pos k2] at h
        by_cases hab : (b : Int) ≤ a
        · rw [if_pos hab]
          exact h (-1) (by omega) (by omega) (fun c _ z => by have := (if1 z).2.2.1; omega)
        · rw [if_neg hab]
          refine k_isVan ⟨_, rfl, ?_⟩
          by_cases hb : 0 ≤ (b : Int) ∧ (b : Int) ≤ 3
          · rw [b2i_t hb, if_neg (by decide)]
            have l1 := h12 a (by omega)
            have l2 := h12 b (by omega)
            rw [Int.toNat_natCast, Int.toNat_natCast, CF_len hC (v := a) (by omega), CF_len hC (v := b) (by omega)]
            refine ⟨by omega, by omega, by unfold inR; omega, by unfold inR; omega, h _ (by omega) (by omega) (fun c hc z => ?_)⟩
            have := (if1 z).2.2.2.2
            rw [Int.toNat_natCast, Int.toNat_natCast] at this
            omega
          · rw [b2i_f hb, if_pos rfl]
            exact h (-1) (by omega) (by omega) (fun c _ z => hb (if1 z).2.1)
      · rw [if_neg k2]
        have k3 : kind = 3 := by omega
        simp only [if_neg k2, if_pos k3] at h
        refine k_isVan ⟨_, rfl, ?_⟩
        by_cases ha : 0 ≤ (a : Int) ∧ (a : Int) ≤ 3
        · rw [b2i_t ha, if_neg (by decide)]
          have l1 := h12 a (by omega)
          rw [Int.toNat_natCast, CF_len hC (v := a) (by omega)]
          refine ⟨by omega, by unfold inR; omega, h _ (by omega) (by omega) (fun c hc z => ?_)⟩
          have := (if1 z).2.2.2
          rw [Int.toNat_natCast] at this
          omega
        · rw [b2i_f ha, if_pos rfl]
          exact h (-1) (by omega) (by omega) (fun c _ z => ha (if1 z).1)
/-- the class' scan as it stands -/
def SCN (J : IM) (s : SS) : Prop := J 195 7 = s.1 ∧ J 195 11 = s.2.2.2.2 ∧ (0 < s.2.2.2.2 → J 195 8 = s.2.1 ∧ J 195 9 = s.2.2.1 ∧ J 195 10 = s.2.2.2.1)
theorem SCN_fr {J J' : IM} {s : SS} (h : SCN J s) (f : ∀ q, 7 ≤ q → q ≤ 11 → J' 195 q = J 195 q) : SCN J' s := by
  unfold SCN
  rw [f 7 (by omega) (by omega), f 11 (by omega) (by omega), f 8 (by omega) (by omega), f 9 (by omega) (by omega), f 10 (by omega) (by omega)]
  exact h
theorem c_note {a b c : Int} {s : SS} {g m : Int} {J : IM} {K : Option AV → IM → Prop} (hs : SCN J s) (hg : J 195 6 = g) (h1 : 0 ≤ s.1 ∧ s.1 ≤ m) (hm : m ≤ 100000) (h0 : 0 ≤ s.2.2.2.2) (h : ∀ J', (∀ p q, (p ≠ 195 ∨ q < 7 ∨ 11 < q) → J' p q = J p q) → SCN J' (s.1 + 1, if s.2.2.2.2 < g then (a, b, c, g) else s.2) → K none J') : CALL S0 94 [vR 195, vI a, vI b, vI c] J K := by
  refine e94 ?_
  unfold D94_0 inR
  obtain ⟨s1, s2, s3⟩ := hs
  rw [s1]
  refine ⟨by omega, fun I2 e2 => ?_⟩
  have f2 : ∀ p q, (p ≠ 195 ∨ q ≠ 7) → I2 p q = J p q := fun p q z => by rw [e2, iup_ne z]
  rw [f2 195 6 (by omega), f2 195 11 (by omega), hg, s2]
  by_cases c1 : g ≤ s.2.2.2.2
  · rw [if_pos c1]
    refine h I2 (fun p q z => f2 p q (by omega)) ?_
    rw [if_neg (by omega)]
    refine ⟨by rw [e2, iup_same], (f2 _ _ (by omega)).trans s2, fun z => ?_⟩
    have := s3 z
    rw [f2 195 8 (by omega), f2 195 9 (by omega), f2 195 10 (by omega)]
    exact this
  · rw [if_neg c1]
    intro I4 e4 I5 e5 I6 e6 I7 e7
    refine h I7 (fun p q z => by rw [e7, iup_ne (by omega), e6, iup_ne (by omega), e5, iup_ne (by omega), e4, iup_ne (by omega)]; exact f2 p q (by omega)) ?_
    rw [if_pos (by omega)]
    refine ⟨?_, ?_, fun _ => ⟨?_, ?_, ?_⟩⟩
    · rw [e7, iup_ne (by omega), e6, iup_ne (by omega), e5, iup_ne (by omega), e4, iup_ne (by omega), e2, iup_same]
    · rw [e7, iup_ne (by omega), e6, iup_ne (by omega), e5, iup_ne (by omega), e4, iup_same]
    · rw [e7, iup_ne (by omega), e6, iup_ne (by omega), e5, iup_same]
    · rw [e7, iup_ne (by omega), e6, iup_same]
    · rw [e7, iup_same]
theorem c_scan {kind : Int} {G : Nat → Int} {R : Nat → List Int} {J : IM} {K : Option AV → IM → Prop} (hG : GR G) (hV : VR G R) (hC : CF G R J) (hk : 0 ≤ kind ∧ kind ≤ 3) (h : ∀ J', FK J J' → SCN J' (scn G R kind) → (∀ v, v < 4 → J' 196 v = csV G v (R v)) → K none J') : CALL S0 92 [vR 195, vI kind] J K := by
  refine e92 ?_
  unfold D92_0
  refine c_weighNow hG hV hC fun J1 f1 w1 => ⟨rfl, fun I2 e2 I3 e3 => ?_⟩
  have f3 : ∀ p q, (p ≠ 195 ∨ (q ≠ 7 ∧ q ≠ 11)) → I3 p q = J1 p q := fun p q z => by rw [e3, iup_ne (by omega), e2, iup_ne (by omega)]
  have h12 := hV.1
  -- places
  have cl : ∀ (a b : Nat), ∀ M : Int, -1 ≤ M → M ≤ 208 → (∀ c : Nat, M < c → ¬ mvB R kind (a : Int) (b : Int) (c : Int) = 1) → ∀ (s0 : SS) (m0 : Int), m0 ≤ 90000 → SI G R kind m0 s0 → (∀ L, FK J L → (∀ v, v < 4 → L 196 v = csV G v (R v)) → SCN L (scC G R kind (a : Int) (b : Int) 209 s0) → ∀ u u' : AV, GO S0 92 24 [vR 195, vI kind, vI (a : Int), vI ((b : Int) + 1), u, u'] [] L K) → ∀ t c : Nat, ((c : Int) + t = M + 1) → ∀ L, FK J L → (∀ v, v < 4 → L 196 v = csV G v (R v)) → SCN L (scC G R kind (a : Int) (b : Int) c s0) → b < 12 → GO S0 92 42 [vR 195, vI kind, vI (a : Int), vI (b : Int), vI M, vI (c : Int)] [] L K := by
    intro a b M m1 m2 mstop s0 m0 hm0 si0 hK t
    induction t with
    | zero =>
      intro c e L f w s hb
      refine g92_42 _ _ _ _ _ L K ?_
      unfold D92_42 inR
      rw [if_pos (by omega)]
      refine ⟨by omega, hK L f w ?_ _ _⟩
      have := scC_stop (G := G) (s := s0) (n := c) (fun c' hc' => mstop c' (by omega)) (209 - c)
      rw [show c + (209 - c) = 209 by omega] at this
      rw [this]
      exact s
    | succ t ih =>
      intro c e L f w s hb
      refine g92_42 _ _ _ _ _ L K ?_
      unfold D92_42 inR
      rw [if_neg (by omega)]
      have C := CF_fk hC f
      have es : scC G R kind (a : Int) (b : Int) (c + 1) s0 = stF G R kind (a : Int) (b : Int) (c : Int) (scC G R kind (a : Int) (b : Int) c s0) := rfl
      have si := SI_C (a := (a : Int)) (b := (b : Int)) hG hV si0 c
      have nx : ∀ L', FK J L' → (∀ v, v < 4 → L' 196 v = csV G v (R v)) → SCN L' (scC G R kind (a : Int) (b : Int) (c + 1) s0) → GO S0 92 42 [vR 195, vI kind, vI (a : Int), vI (b : Int), vI M, vI ((c : Int) + 1)] [] L' K := fun L' f' w' s' => by
        have := ih (c + 1) (by omega) L' f' w' s' hb
        rw [show ((c + 1 : Nat) : Int) = (c : Int) + 1 by omega] at this
        exact this
      refine c_isMove C h12 (by unfold inR; omega) ⟨_, rfl, ?_⟩
      by_cases mv : mvB R kind (a : Int) (b : Int) (c : Int) = 1
      · rw [mv, if_neg (by decide)]
        refine c_wm hG hV C mv w fun L1 f1 => ⟨fun z => ⟨_, rfl, ?_⟩, fun z ma x6 T => ⟨_, rfl, ?_⟩, fun z ma => ⟨_, rfl, ?_⟩⟩
        · rw [if_neg (by decide)]
          refine ⟨by omega, nx L1 (FK_trans f (fun p j a b => f1 p j a (by omega) (by omega) (by omega))) (fun v hv => (f1 196 v (by decide) (by omega) (by decide) (by omega)).trans (w v hv)) ?_⟩
          rw [es]
          unfold stF
          rw [if_neg (fun y => by have := (if1 y.2).1; omega)]
          exact SCN_fr s (fun q h1 h2 => f1 195 q (by decide) (by omega) (by decide) (by omega))
        · rw [if_pos rfl]
          have s1 := SCN_fr s (J' := L1) (fun q h1 h2 => f1 195 q (by decide) (by omega) (by decide) (by omega))
          refine c_note (m := m0 + c) s1 x6 si.1 (by omega) si.2.1 fun L2 f2 s2 => ⟨rfl, by omega, nx L2 (FK_trans f (fun p j a b => by rw [f2 p j (by omega), f1 p j a (by omega) (by omega) (by omega)])) (fun v hv => by rw [f2 196 v (by omega), f1 196 v (by decide) (by omega) (by decide) (by omega)]; exact w v hv) ?_⟩
          rw [es]
          unfold stF
          rw [if_pos ⟨mv, ma⟩]
          exact s2
        · rw [if_neg (by decide)]
          refine ⟨by omega, nx L1 (FK_trans f (fun p j a b => f1 p j a (by omega) (by omega) (by omega))) (fun v hv => (f1 196 v (by decide) (by omega) (by decide) (by omega)).trans (w v hv)) ?_⟩
          rw [es]
          unfold stF
          rw [if_neg (fun y => ma y.2)]
          exact SCN_fr s (fun q h1 h2 => f1 195 q (by decide) (by omega) (by decide) (by omega))
      · have m0' : mvB R kind (a : Int) (b : Int) (c : Int) = 0 := by
          rcases @mv_01 R kind (a : Int) (b : Int) (c : Int) with y | y
          · exact y
          · exact absurd y mv
        rw [m0', if_pos rfl]
        refine ⟨by omega, nx L f w ?_⟩
        rw [es]
        unfold stF
        rw [if_neg (fun y => mv y.1)]
        exact s
  have bl : ∀ (a : Nat) (s0 : SS) (m0 : Int), m0 ≤ 60000 → SI G R kind m0 s0 → (∀ L, FK J L → (∀ v, v < 4 → L 196 v = csV G v (R v)) → SCN L (scB G R kind (a : Int) 12 s0) → ∀ u u' u'' : AV, GO S0 92 16 [vR 195, vI kind, vI ((a : Int) + 1), u, u', u''] [] L K) → ∀ t b : Nat, b + t = 12 → ∀ L, FK J L → (∀ v, v < 4 → L 196 v = csV G v (R v)) → SCN L (scB G R kind (a : Int) b s0) → a < 12 → ∀ u u' : AV, GO S0 92 24 [vR 195, vI kind, vI (a : Int), vI (b : Int), u, u'] [] L K := by
    intro a s0 m0 hm0 si0 hK t
    induction t with
    | zero =>
      intro b e L f w s ha u u'
      refine g92_24 _ _ _ _ _ L K ?_
      unfold D92_24 inR
      rw [if_pos (by omega)]
      rw [show b = 12 by omega] at s
      exact ⟨by omega, hK L f w s _ _ _⟩
    | succ t ih =>
      intro b e L f w s ha u u'
      refine g92_24 _ _ _ _ _ L K ?_
      unfold D92_24
      rw [if_neg (by omega)]
      refine c_mostC (CF_fk hC f) h12 hk fun M m1 m2 mstop => ⟨_, rfl, ?_⟩
      have si := SI_B (a := (a : Int)) hG hV si0 b
      obtain ⟨t', ht'⟩ : ∃ t' : Nat, (0 : Int) + t' = M + 1 := ⟨(M + 1).toNat, by omega⟩
      refine cl a b M m1 m2 mstop (scB G R kind (a : Int) b s0) (m0 + 209 * b) (by omega) si (fun L' f' w' s' u u' => ?_) t' 0 ht' L f w s (by omega)
      have := ih (b + 1) (by omega) L' f' w' s' ha u u'
      rw [show ((b + 1 : Nat) : Int) = (b : Int) + 1 by omega] at this
      exact this
  have al : ∀ t a : Nat, a + t = 12 → ∀ L, FK J L → (∀ v, v < 4 → L 196 v = csV G v (R v)) → SCN L (scA G R kind a (0, 0, 0, 0, 0)) → ∀ u u' u'' : AV, GO S0 92 16 [vR 195, vI kind, vI (a : Int), u, u', u''] [] L K := by
    intro t
    induction t with
    | zero =>
      intro a e L f w s u u' u''
      refine g92_16 _ _ _ _ _ L K ?_
      unfold D92_16
      rw [if_pos (by omega)]
      rw [show a = 12 by omega] at s
      exact h L f s w
    | succ t ih =>
      intro a e L f w s u u' u''
      refine g92_16 _ _ _ _ _ L K ?_
      unfold D92_16
      rw [if_neg (by omega)]
      have si := SI_A (kind := kind) hG hV SI_0 a
      refine bl a (scA G R kind a (0, 0, 0, 0, 0)) (0 + 2508 * a) (by omega) si (fun L' f' w' s' u u' u'' => ?_) 12 0 rfl L f w s (by omega) u' u''
      have := ih (a + 1) (by omega) L' f' w' s' u u' u''
      rw [show ((a + 1 : Nat) : Int) = (a : Int) + 1 by omega] at this
      exact this
  exact al 12 0 rfl I3 (fun p j a b => by rw [f3 p j (by omega)]; exact f1 p j a (by omega)) (fun v hv => (f3 196 v (by omega)).trans (w1 v hv)) ⟨by rw [e3, iup_ne (by omega), e2, iup_same]; rfl, by rw [e3, iup_same]; rfl, fun z => by exfalso; revert z; show ¬ (0 : Int) < 0; omega⟩ _ _ _
theorem c_descend {n : Nat} {G : Nat → Int} {R : Nat → List Int} {J : IM} {K : Option AV → IM → Prop} (hG : GR G) (hV : VR G R) (hC : CF G R J) (hn : n ≤ 40) (h : ∀ J', FC J J' → CF G (dsF G n R).1 J' → K (some (vI ((dsF G n R).2 : Nat))) J') : CALL S0 96 [vR 195, vI (n : Int)] J K := by
  refine e96 ?_
  unfold D96_0
  have fcfk : ∀ {I J : IM}, FK I J → FC I J := fun f o k a => f o k (by omega) (by omega)
  have loop : ∀ f c : Nat, c + f = n → ∀ R L, VR G R → FC J L → CF G R L → (∀ J', FC J J' → CF G (dsF G f R).1 J' → K (some (vI (((dsF G f R).2 + c : Nat) : Int))) J') → ∀ u : AV, GO S0 96 4 [vR 195, vI (n : Int), vI (c : Int), vI 1, u] [] L K := by
    intro f
    induction f with
    | zero =>
      intro c e R L hV fL cL hK u
      refine g96_4 _ _ _ _ L K ?_
      unfold D96_4
      rw [if_pos (by omega)]
      have hh := hK L fL cL
      rw [show ((dsF G 0 R).2 + c : Nat) = c from Nat.zero_add c] at hh
      exact hh
    | succ f ih =>
      intro c e R L hV fL cL hK u
      refine g96_4 _ _ _ _ L K ?_
      unfold D96_4
      rw [if_neg (by omega), if_neg (by decide)]
      unfold dsF at hK
      have kinds : ∀ m : Nat, m ≤ 4 → fkF G R 4 = fkF G R m → ∀ L, FC J L → CF G R L → GO S0 96 18 [vR 195, vI (n : Int), vI (c : Int), vI 0, vI ((4 - m : Nat) : Int)] [] L K := by
        intro m
        induction m with
        | zero =>
          intro _ ek L fL cL
          refine g96_18 _ _ _ _ L K ?_
          unfold D96_18
          rw [if_pos (by omega)]
          refine g96_4 _ _ _ _ L K ?_
          unfold D96_4
          rw [if_neg (by omega), if_pos rfl]
          rw [if_pos (show fkF G R 4 = 4 from ek)] at hK
          have hh := hK L fL cL
          rw [show ((R, 0) : (Nat → List Int) × Nat).2 + c = c from Nat.zero_add c] at hh
          exact hh
        | succ m ihm =>
          intro hm ek L fL cL
          refine g96_18 _ _ _ _ L K ?_
          unfold D96_18 inR
          rw [if_neg (by omega), if_pos rfl]
          have ekk : fkF G R (m + 1) = if 0 < (scn G R ((3 - m : Nat) : Int)).2.2.2.2 then 3 - m else fkF G R m := rfl
          rw [show ((4 - (m + 1) : Nat) : Int) = ((3 - m : Nat) : Int) by omega]
          refine c_scan hG hV cL (by omega) fun L1 f1 s1 w1 => ⟨rfl, ?_⟩
          rw [s1.2.1]
          have FL1 := FC_trans fL (fcfk f1)
          have CL1 := CF_fk cL f1
          have sI := scn_I (kind := ((3 - m : Nat) : Int)) hG hV
          by_cases z : (scn G R ((3 - m : Nat) : Int)).2.2.2.2 ≤ 0
          · rw [if_pos z]
            rw [if_neg (by omega)] at ekk
            refine ⟨by omega, ?_⟩
            have := ihm (by omega) (ek.trans ekk) L1 FL1 CL1
            rw [show ((4 - m : Nat) : Int) = ((3 - m : Nat) : Int) + 1 by omega] at this
            exact this
          · rw [if_neg z]
            rw [if_pos (by omega)] at ekk
            have fk := ek.trans ekk
            rw [if_neg (by omega), fk] at hK
            have sv := sI.2.2.2 (by omega)
            have sx := s1.2.2 (by omega)
            rw [sx.1, sx.2.1, sx.2.2]
            have vb := bm_VR hG hV (kd := 3 - m) (by omega)
            refine c_wm hG hV CL1 sv.1 w1 fun L2 f2 => ⟨fun q => ?_, fun q ma x6 T => ⟨_, rfl, ?_⟩, fun q ma => absurd sv.2 ma⟩
            · have := (if1 sv.2).1
              omega
            · refine k_copy rd29 rd197 (by decide) T.1 fun L3 f3 s3 l3 => ⟨rfl, by omega, by omega, ?_⟩
              have F3 : FC J L3 := FC_trans FL1 (fun o k a => by rw [f3 o k (by omega), f2 o k (by omega) (by omega) (by omega) (by omega)])
              have C3 : CF G (bmR G R (3 - m)) L3 := ⟨BK_fp CL1.1 (fun o k ho => by rw [f3 o k (by omega), f2 o k (by omega) (by omega) (by omega) (by omega)]), s3, fun v hv => (l3 v hv).trans (T.2 v hv)⟩
              have := ih (c + 1) (by omega) _ L3 vb F3 C3 (fun J' fJ cJ => by
                have := hK J' fJ cJ
                rw [show (dsF G f (bmR G R (3 - m))).2 + (c + 1) = (dsF G f (bmR G R (3 - m))).2 + 1 + c by omega]
                exact this) (vI (((3 - m : Nat) : Int) + 1))
              rw [show ((c + 1 : Nat) : Int) = (c : Int) + 1 by omega] at this
              refine g96_18 _ _ _ _ L3 K ?_
              unfold D96_18
              split
              · exact this
              · rw [if_neg (by decide)]
                exact this
      exact kinds 4 (Nat.le_refl _) rfl L fL cL
  exact loop n 0 (Nat.zero_add _) R J hV FC_refl hC h vU
