/-! level 2: moves: the model weighs, goes over, descends -/
theorem n_isOther {G : Nat → Int} {R T : Nat → List Int} {J : IM} {K : Option AV → IM → Prop} (hM : MF G R J) (hT : TQ T J) (h0 : (∀ v, v < 4 → T v = R v) → K (some (vI 0)) J) (h1 : (¬ ∀ v, v < 4 → T v = R v) → K (some (vI 1)) J) : CALL S0 215 [vR 237] J K := by
  refine e215 ?_
  unfold D215_0
  have tl : ∀ v, v < 4 → (T v).length ≤ 12 := fun v hv => by have := LM_le hT.1 hv; rw [hT.2 v hv] at this; exact this
  have outer : ∀ t v : Nat, v + t = 4 → (∀ w, w < v → T w = R w) → ∀ u : AV, GO S0 215 2 [vR 237, vI (v : Int), u] [] J K := by
    intro t
    induction t with
    | zero =>
      intro v e hw u
      refine g215_2 _ _ J K ?_
      unfold D215_2
      rw [if_pos (by omega)]
      exact h0 (fun w hw' => hw w (by omega))
    | succ t ih =>
      intro v e hw u
      have hv : v < 4 := by omega
      refine g215_2 _ _ J K ?_
      unfold D215_2 inR
      rw [if_neg (by omega), show (13 * (v : Int)).toNat = 13 * v by omega, show (114 + 13 * (v : Int)).toNat = 114 + 13 * v by omega, TQ_len hT hv, MF_len hM hv]
      refine ⟨by omega, by omega, by omega, by omega, ?_⟩
      by_cases el : ((T v).length : Int) = ((R v).length : Int)
      · rw [if_pos el]
        have el' : (T v).length = (R v).length := by omega
        have inner : ∀ t' k : Nat, k + t' = (T v).length → (∀ j, j < k → (T v)[j]? = (R v)[j]?) → GO S0 215 35 [vR 237, vI (v : Int), vI (k : Int)] [] J K := by
          intro t'
          induction t' with
          | zero =>
            intro k e' hj
            refine g215_35 _ _ J K ?_
            unfold D215_35 inR
            rw [show (13 * (v : Int)).toNat = 13 * v by omega, TQ_len hT hv, if_pos (by omega)]
            refine ⟨by omega, by omega, by omega, ?_⟩
            have ev : T v = R v := List.ext_getElem? fun j => by
              by_cases c : j < k
              · exact hj j c
              · rw [List.getElem?_eq_none (by omega), List.getElem?_eq_none (by omega)]
            have := ih (v + 1) (by omega) (fun w hw' => by
              by_cases c : w = v
              · rw [c]; exact ev
              · exact hw w (by omega)) (vI (k : Int))
            rw [show ((v + 1 : Nat) : Int) = (v : Int) + 1 by omega] at this
            exact this
          | succ t' ih' =>
            intro k e' hj
            have l12 := tl v hv
            refine g215_35 _ _ J K ?_
            unfold D215_35 inR
            rw [show (13 * (v : Int)).toNat = 13 * v by omega, TQ_len hT hv, if_neg (by omega)]
            refine ⟨by omega, by omega, m_at s0_242 (by omega) (by omega) ⟨_, rfl, ?_⟩⟩
            have g1 := TQ_get hT hv (k := k) (by omega)
            have g2 := MF_get hM hv (k := k) (by omega)
            rw [Int.toNat_natCast, Int.toNat_natCast, show (114 + 13 * (v : Int) + 1 + (k : Int)).toNat = 114 + 13 * v + 1 + k by omega]
            refine ⟨by omega, by omega, by omega, by omega, ?_⟩
            by_cases c : J 242 (13 * v + 1 + k) = J 238 (114 + 13 * v + 1 + k)
            · rw [if_pos c]
              refine ⟨by omega, ?_⟩
              have := ih' (k + 1) (by omega) (fun j hj' => by
                by_cases d : j = k
                · rw [d, g1, g2, c]
                · exact hj j (by omega))
              rw [show ((k + 1 : Nat) : Int) = (k : Int) + 1 by omega] at this
              exact this
            · rw [if_neg c]
              refine h1 (fun z => c ?_)
              rw [z v hv, g2] at g1
              exact (Option.some.inj g1).symm
        exact inner (T v).length 0 (Nat.zero_add _) (fun j hj => by omega)
      · rw [if_neg el]
        exact h1 (fun z => el (by rw [z v hv]))
  exact outer 4 0 rfl (fun w hw => by omega) vU
def FY (I J : IM) : Prop := ∀ p j, p ≠ 241 → p ≠ 242 → p ≠ 243 → p ≠ 248 → (p ≠ 237 ∨ j < 8 ∨ 12 < j) → J p j = I p j
theorem FY_trans {I J L : IM} (h : FY I J) (h' : FY J L) : FY I L := fun p j a b c d e => (h' p j a b c d e).trans (h p j a b c d e)
theorem FY_fd {I J : IM} (h : FD I J) : FY I J := fun p j a b c d e => h p j (by omega) c
theorem FY_o {I J : IM} (h : FY I J) {o : Nat} (h1 : o ≠ 237) (h2 : o ≠ 241) (h3 : o ≠ 242) (h4 : o ≠ 243) (h5 : o ≠ 248) : J o = I o := funext fun j => h o j h2 h3 h4 h5 (Or.inl h1)
theorem n_mayBe {kind a b c : Int} {G : Nat → Int} {R : Nat → List Int} {J : IM} {K : Option AV → IM → Prop} (hG : GR G) (hV : VR G R) (hM : MF G R J) (hm : mvB R kind a b c = 1) (h : ∀ J', FY J J' → TQ (mkR R kind a b c) J' → (maB G R kind a b c = 1 → K (some (vI 1)) J') ∧ (¬ maB G R kind a b c = 1 → K (some (vI 0)) J')) : CALL S0 211 [vR 237, vI kind, vI a, vI b, vI c] J K := by
  refine e211 ?_
  unfold D211_0
  obtain ⟨v0, q2, q3, q4, q5⟩ := mk_V0 hG (VR_V0 hV) hm
  have hs := mk_same hG hV hm
  have hg := mk_good hG hV hm
  refine n_makes hG hV hM hm fun J1 f1 T1 => ⟨rfl, ?_⟩
  have M1 := MF_238 hM (J' := J1) (funext fun j => f1 238 j (by decide) (by decide))
  have F1 : FY J J1 := fun p j _ b _ d _ => f1 p j b d
  refine n_isOther M1 T1 (fun z => ⟨_, rfl, ?_⟩) (fun z => ⟨_, rfl, ?_⟩)
  · rw [if_pos rfl]
    refine (h J1 F1 T1).2 (fun y => ?_)
    have := (if1 y).1
    have := hs.mpr z
    omega
  · rw [if_neg (by decide)]
    have ch : chB R kind a b c = 1 := by
      rcases @ch_01 R kind a b c with y | y
      · exact absurd (hs.mp y) z
      · exact y
    refine n_isGood hG M1.1 T1.1 (V0_R12 hG v0) T1.2 fun J2 f2 => ⟨fun g => ⟨_, rfl, ?_⟩, fun g => ⟨_, rfl, ?_⟩⟩
    · rw [if_neg (by decide)]
      refine (h J2 (FY_trans F1 (FY_fd f2)) (TQ_o T1 (FD_o f2 (by decide) (by decide)))).1 ?_
      have := hg.mp g
      unfold maB
      rw [if_pos ⟨ch, gz_1.mpr this.1, gz_1.mpr this.2⟩]
    · rw [if_pos rfl]
      refine (h J2 (FY_trans F1 (FY_fd f2)) (TQ_o T1 (FD_o f2 (by decide) (by decide)))).2 (fun y => g ?_)
      have := (if1 y).2
      exact hg.mpr ⟨gz_1.mp this.1, gz_1.mp this.2⟩
theorem csA_b {G : Nat → Int} {R : Nat → List Int} (hG : GR G) (hl : ∀ v, v < 4 → (R v).length ≤ 12) (hR : R12 R) : 0 ≤ csA G R ∧ csA G R ≤ 10000000 := by
  have a := cs4_b hG hl hR 4 (Nat.le_refl _)
  have hn := hG.1
  have b := pen_b (R := R) hG (G 5).toNat (by omega)
  unfold csA
  omega
theorem n_gained {G : Nat → Int} {R R' : Nat → List Int} {J : IM} {K : Option AV → IM → Prop} (hG : GR G) (hM : MF G R J) (hl : ∀ v, v < 4 → (R v).length ≤ 12) (hR : R12 R) (hl' : ∀ v, v < 4 → (R' v).length ≤ 12) (hR' : R12 R') (hT : TQ R' J) (h : ∀ J', FY J J' → J' 242 = J 242 → K (some (vI (csA G R - csA G R'))) J') : CALL S0 217 [vR 237] J K := by
  refine e217 ?_
  unfold D217_0
  have b1 := csA_b hG hl hR
  have b2 := csA_b hG hl' hR'
  refine n_looks hM fun J1 f1 s1 l1 => ⟨rfl, ?_⟩
  have e1 : J1 238 = J 238 := funext fun j => f1 238 j (by decide)
  have t1 : J1 242 = J 242 := funext fun j => f1 242 j (by decide)
  refine n_costOf (Or.inl rfl) hG (fun k hk => by rw [e1]; exact hM.1 k hk) s1 hR l1 fun J2 f2 => ⟨_, rfl, ?_⟩
  have e2 : J2 238 = J 238 := (FD_o f2 (by decide) (by decide)).trans e1
  have t2 : J2 242 = J 242 := (FD_o f2 (by decide) (by decide)).trans t1
  have T2 := TQ_o hT t2
  refine n_costOf (Or.inr rfl) hG (fun k hk => by rw [e2]; exact hM.1 k hk) T2.1 hR' T2.2 fun J3 f3 => ⟨_, rfl, ?_⟩
  have t3 : J3 242 = J 242 := (FD_o f3 (by decide) (by decide)).trans t2
  exact ⟨by unfold inR; omega, h J3 (fun p j a b c d e => by rw [(FD_trans f2 f3) p j (by omega) c, f1 p j a]) t3⟩
def SCM (J : IM) (s : SS) : Prop := J 237 26 = s.1 ∧ J 237 25 = s.2.2.2.2 ∧ (0 < s.2.2.2.2 → J 237 22 = s.2.1 ∧ J 237 23 = s.2.2.1 ∧ J 237 24 = s.2.2.2.1)
theorem SCM_fr {J J' : IM} {s : SS} (h : SCM J s) (f : ∀ q, 22 ≤ q → q ≤ 26 → J' 237 q = J 237 q) : SCM J' s := by
  unfold SCM
  rw [f 26 (by omega) (by omega), f 25 (by omega) (by omega), f 22 (by omega) (by omega), f 23 (by omega) (by omega), f 24 (by omega) (by omega)]
  exact h
def FZ (I J : IM) : Prop := ∀ p j, p ≠ 241 → p ≠ 242 → p ≠ 243 → p ≠ 248 → (p ≠ 237 ∨ j < 8 ∨ (12 < j ∧ j < 22) ∨ 26 < j) → J p j = I p j
theorem FZ_refl {I : IM} : FZ I I := fun _ _ _ _ _ _ _ => rfl
theorem FZ_trans {I J L : IM} (h : FZ I J) (h' : FZ J L) : FZ I L := fun p j a b c d e => (h' p j a b c d e).trans (h p j a b c d e)
theorem FZ_fy {I J : IM} (h : FY I J) : FZ I J := fun p j a b c d e => h p j a b c d (by omega)
theorem MF_fz {G : Nat → Int} {R : Nat → List Int} {J J' : IM} (h : MF G R J) (f : FZ J J') : MF G R J' := MF_238 h (funext fun j => f 238 j (by decide) (by decide) (by decide) (by decide) (by omega))
theorem n_goesBy {kind a b c m : Int} {s : SS} {G : Nat → Int} {R : Nat → List Int} {J : IM} {K : Option AV → IM → Prop} (hG : GR G) (hV : VR G R) (hM : MF G R J) (hc : inR c) (hs : SCM J s) (si : SI G R kind m s) (hm : m ≤ 100000) (h : ∀ J', FZ J J' → SCM J' (stF G R kind a b c s) → K none J') : CALL S0 221 [vR 237, vI kind, vI a, vI b, vI c] J K := by
  refine e221 ?_
  unfold D221_0
  refine n_isMove hG hV hM hc ⟨_, rfl, ?_⟩
  by_cases mv : mvB R kind a b c = 1
  · rw [mv, if_neg (by decide)]
    obtain ⟨v0, q2, q3, q4, q5⟩ := mk_V0 hG (VR_V0 hV) mv
    refine n_mayBe hG hV hM mv fun J1 f1 T1 => ⟨fun ma => ⟨_, rfl, ?_⟩, fun ma => ⟨_, rfl, ?_⟩⟩
    · rw [if_neg (by decide)]
      have s1 := SCM_fr hs (J' := J1) (fun q h1 h2 => f1 237 q (by decide) (by decide) (by decide) (by decide) (by omega))
      rw [s1.1]
      have b1 := si.1
      refine ⟨by unfold inR; omega, fun I8 e8 => ?_⟩
      have f8 : ∀ p q, (p ≠ 237 ∨ q ≠ 26) → I8 p q = J1 p q := fun p q z => by rw [e8, iup_ne z]
      have M8 := MF_238 (MF_fz hM (FZ_fy f1)) (J' := I8) (funext fun j => f8 238 j (by omega))
      refine n_gained hG M8 hV.1 (VR_R12 hG hV) v0.1 (V0_R12 hG v0) (TQ_o T1 (funext fun j => f8 242 j (by omega))) fun J2 f2 t2 => ⟨_, rfl, ?_⟩
      rw [show csA G R - csA G (mkR R kind a b c) = gnF G R kind a b c from rfl]
      have g2 : ∀ p j, p ≠ 241 → p ≠ 242 → p ≠ 243 → p ≠ 248 → (p ≠ 237 ∨ j < 8 ∨ (12 < j ∧ j ≠ 26)) → J2 p j = J p j := fun p j a b c d e => by rw [f2 p j a b c d (by omega), f8 p j (by omega), f1 p j a b c d (by omega)]
      have x25 : J2 237 25 = s.2.2.2.2 := (g2 237 25 (by decide) (by decide) (by decide) (by decide) (by omega)).trans hs.2.1
      have x26 : J2 237 26 = s.1 + 1 := by rw [f2 237 26 (by decide) (by decide) (by decide) (by decide) (by omega), e8, iup_same]
      have es : stF G R kind a b c s = (s.1 + 1, if s.2.2.2.2 < gnF G R kind a b c then (a, b, c, gnF G R kind a b c) else s.2) := by unfold stF; rw [if_pos ⟨mv, ma⟩]
      rw [es] at h
      rw [x25]
      by_cases y : s.2.2.2.2 < gnF G R kind a b c
      · rw [if_pos y] at h ⊢
        intro I12 e12 I13 e13 I14 e14 I15 e15
        refine h I15 (fun p j a b c d e => by rw [e15, iup_ne (by omega), e14, iup_ne (by omega), e13, iup_ne (by omega), e12, iup_ne (by omega)]; exact g2 p j a b c d (by omega)) ⟨?_, ?_, fun _ => ⟨?_, ?_, ?_⟩⟩
        · rw [e15, iup_ne (by omega), e14, iup_ne (by omega), e13, iup_ne (by omega), e12, iup_ne (by omega)]; exact x26
        · rw [e15, iup_same]
        · rw [e15, iup_ne (by omega), e14, iup_ne (by omega), e13, iup_ne (by omega), e12, iup_same]
        · rw [e15, iup_ne (by omega), e14, iup_ne (by omega), e13, iup_same]
        · rw [e15, iup_ne (by omega), e14, iup_same]
      · rw [if_neg y] at h ⊢
        refine h J2 (fun p j a b c d e => g2 p j a b c d (by omega)) ⟨x26, x25, fun z => ?_⟩
        have := hs.2.2 z
        rw [g2 237 22 (by decide) (by decide) (by decide) (by decide) (by omega), g2 237 23 (by decide) (by decide) (by decide) (by decide) (by omega), g2 237 24 (by decide) (by decide) (by decide) (by decide) (by omega)]
        exact this
    · rw [if_pos rfl]
      refine h J1 (FZ_fy f1) ?_
      unfold stF
      rw [if_neg (fun y => ma y.2)]
      exact SCM_fr hs (fun q h1 h2 => f1 237 q (by decide) (by decide) (by decide) (by decide) (by omega))
  · rcases @mv_01 R kind a b c with y | y
    · rw [y, if_pos rfl]
      refine h J FZ_refl ?_
      unfold stF
      rw [if_neg (fun z => mv z.1)]
      exact hs
    · exact absurd y mv
theorem n_goesOver {kind : Int} {G : Nat → Int} {R : Nat → List Int} {J : IM} {K : Option AV → IM → Prop} (hG : GR G) (hV : VR G R) (hM : MF G R J) (hk : 0 ≤ kind ∧ kind ≤ 3) (h : ∀ J', FZ J J' → SCM J' (scn G R kind) → K none J') : CALL S0 220 [vR 237, vI kind] J K := by
  refine e220 ?_
  unfold D220_0
  intro I1 e1 I2 e2
  have f2 : FZ J I2 := fun p j a b c d e => by rw [e2, iup_ne (by omega), e1, iup_ne (by omega)]
  have go : ∀ M : Nat, M ≤ 208 → (∀ a b : Nat, ∀ c : Nat, M < c → ¬ mvB R kind (a : Int) (b : Int) (c : Int) = 1) → ∀ u u' : AV, GO S0 220 39 [vR 237, vI kind, vI (M : Int), vI 0, u, u'] [] I2 K := by
    intro M hM208 stop
    have cl : ∀ (a b : Nat) (s0 : SS) (m0 : Int), m0 ≤ 90000 → SI G R kind m0 s0 → (∀ L, FZ J L → SCM L (scC G R kind (a : Int) (b : Int) 209 s0) → ∀ u : AV, GO S0 220 48 [vR 237, vI kind, vI (M : Int), vI (a : Int), vI ((b : Int) + 1), u] [] L K) → ∀ t c : Nat, c + t = M + 1 → ∀ L, FZ J L → SCM L (scC G R kind (a : Int) (b : Int) c s0) → b < 12 → GO S0 220 58 [vR 237, vI kind, vI (M : Int), vI (a : Int), vI (b : Int), vI (c : Int)] [] L K := by
      intro a b s0 m0 hm0 si0 hK t
      induction t with
      | zero =>
        intro c e L f s hb
        refine g220_58 _ _ _ _ _ L K ?_
        unfold D220_58 inR
        rw [if_pos (by omega)]
        refine ⟨by omega, hK L f ?_ _⟩
        have := scC_stop (G := G) (s := s0) (n := c) (fun c' hc' => stop a b c' (by omega)) (209 - c)
        rw [show c + (209 - c) = 209 by omega] at this
        rw [this]
        exact s
      | succ t ih =>
        intro c e L f s hb
        refine g220_58 _ _ _ _ _ L K ?_
        unfold D220_58 inR
        rw [if_neg (by omega)]
        have si := SI_C (a := (a : Int)) (b := (b : Int)) hG hV si0 c
        refine n_goesBy (m := m0 + c) hG hV (MF_fz hM f) (by unfold inR; omega) s si (by omega) fun L1 f1 s1 => ⟨rfl, by omega, ?_⟩
        have := ih (c + 1) (by omega) L1 (FZ_trans f f1) s1 hb
        rw [show ((c + 1 : Nat) : Int) = (c : Int) + 1 by omega] at this
        exact this
    have bl : ∀ (a : Nat) (s0 : SS) (m0 : Int), m0 ≤ 60000 → SI G R kind m0 s0 → (∀ L, FZ J L → SCM L (scB G R kind (a : Int) 12 s0) → ∀ u u' : AV, GO S0 220 39 [vR 237, vI kind, vI (M : Int), vI ((a : Int) + 1), u, u'] [] L K) → ∀ t b : Nat, b + t = 12 → ∀ L, FZ J L → SCM L (scB G R kind (a : Int) b s0) → a < 12 → ∀ u : AV, GO S0 220 48 [vR 237, vI kind, vI (M : Int), vI (a : Int), vI (b : Int), u] [] L K := by
      intro a s0 m0 hm0 si0 hK t
      induction t with
      | zero =>
        intro b e L f s ha u
        refine g220_48 _ _ _ _ _ L K ?_
        unfold D220_48 inR
        rw [if_pos (by omega)]
        rw [show b = 12 by omega] at s
        exact ⟨by omega, hK L f s _ _⟩
      | succ t ih =>
        intro b e L f s ha u
        refine g220_48 _ _ _ _ _ L K ?_
        unfold D220_48
        rw [if_neg (by omega)]
        have si := SI_B (a := (a : Int)) hG hV si0 b
        refine cl a b (scB G R kind (a : Int) b s0) (m0 + 209 * b) (by omega) si (fun L' f' s' u => ?_) (M + 1) 0 (by omega) L f s (by omega)
        have := ih (b + 1) (by omega) L' f' s' ha u
        rw [show ((b + 1 : Nat) : Int) = (b : Int) + 1 by omega] at this
        exact this
    have al : ∀ t a : Nat, a + t = 12 → ∀ L, FZ J L → SCM L (scA G R kind a (0, 0, 0, 0, 0)) → ∀ u u' : AV, GO S0 220 39 [vR 237, vI kind, vI (M : Int), vI (a : Int), u, u'] [] L K := by
      intro t
      induction t with
      | zero =>
        intro a e L f s u u'
        refine g220_39 _ _ _ _ _ L K ?_
        unfold D220_39
        rw [if_pos (by omega)]
        rw [show a = 12 by omega] at s
        exact h L f s
      | succ t ih =>
        intro a e L f s u u'
        refine g220_39 _ _ _ _ _ L K ?_
        unfold D220_39
        rw [if_neg (by omega)]
        have si := SI_A (kind := kind) hG hV SI_0 a
        refine bl a (scA G R kind a (0, 0, 0, 0, 0)) (0 + 2508 * a) (by omega) si (fun L' f' s' u u' => ?_) 12 0 rfl L f s (by omega) u'
        have := ih (a + 1) (by omega) L' f' s' u u'
        rw [show ((a + 1 : Nat) : Int) = (a : Int) + 1 by omega] at this
        exact this
    intro u u'
    exact al 12 0 rfl I2 f2 ⟨by rw [e2, iup_same]; rfl, by rw [e2, iup_ne (by omega), e1, iup_same]; rfl, fun z => by exfalso; revert z; show ¬ (0 : Int) < 0; omega⟩ u u'
  have st : ∀ (M : Nat), (kind = 0 → 12 ≤ M) → (kind = 1 → 0 ≤ M) → (kind = 2 → 208 ≤ M) → (kind = 3 → 12 ≤ M) → ∀ a b : Nat, ∀ c : Nat, M < c → ¬ mvB R kind (a : Int) (b : Int) (c : Int) = 1 := by
    intro M k0 k1 k2 k3 a b c hc mv
    have := mv_c hV.1 mv
    omega
  by_cases k0 : kind = 0
  · rw [if_pos k0]
    unfold D220_19
    exact go 12 (by omega) (st 12 (by omega) (by omega) (by omega) (by omega)) _ _
  · rw [if_neg k0]
    by_cases k3 : kind = 3
    · rw [if_pos k3]
      unfold D220_19
      exact go 12 (by omega) (st 12 (by omega) (by omega) (by omega) (by omega)) _ _
    · rw [if_neg k3]
      by_cases k1 : kind = 1
      · rw [if_pos k1]
        exact go 0 (by omega) (st 0 (by omega) (by omega) (by omega) (by omega)) _ _
      · rw [if_neg k1]
        exact go 208 (by omega) (st 208 (by omega) (by omega) (by omega) (by omega)) _ _
theorem n_descends {n : Nat} {G : Nat → Int} {R : Nat → List Int} {J : IM} {K : Option AV → IM → Prop} (hG : GR G) (hV : VR G R) (hM : MF G R J) (hn : n ≤ 40) (h : ∀ J', FM J J' → MF G (dsF G n R).1 J' → K (some (vI ((dsF G n R).2 : Nat))) J') : CALL S0 224 [vR 237, vI (n : Int)] J K := by
  refine e224 ?_
  unfold D224_0
  have fm : ∀ {I J : IM}, FZ I J → FM I J := fun f o k a => f o k (by omega) (by omega) (by omega) (by omega) (by omega)
  have loop : ∀ f c : Nat, c + f = n → ∀ R L, VR G R → FM J L → MF G R L → (∀ J', FM J J' → MF G (dsF G f R).1 J' → K (some (vI (((dsF G f R).2 + c : Nat) : Int))) J') → GO S0 224 4 [vR 237, vI (n : Int), vI (c : Int), vI 0] [] L K := by
    intro f
    induction f with
    | zero =>
      intro c e R L hV fL cL hK
      refine g224_4 _ _ _ L K ?_
      unfold D224_4
      rw [if_pos (by omega)]
      have hh := hK L fL cL
      rw [show ((dsF G 0 R).2 + c : Nat) = c from Nat.zero_add c] at hh
      exact hh
    | succ f ih =>
      intro c e R L hV fL cL hK
      unfold dsF at hK
      have kinds : ∀ m : Nat, m ≤ 4 → fkF G R 4 = fkF G R m → ∀ L, FM J L → MF G R L → GO S0 224 4 [vR 237, vI (n : Int), vI (c : Int), vI ((4 - m : Nat) : Int)] [] L K := by
        intro m
        induction m with
        | zero =>
          intro _ ek L fL cL
          refine g224_4 _ _ _ L K ?_
          unfold D224_4
          rw [if_neg (by omega), if_pos (by omega)]
          rw [if_pos (show fkF G R 4 = 4 from ek)] at hK
          have hh := hK L fL cL
          rw [show ((R, 0) : (Nat → List Int) × Nat).2 + c = c from Nat.zero_add c] at hh
          exact hh
        | succ m ihm =>
          intro hm ek L fL cL
          refine g224_4 _ _ _ L K ?_
          unfold D224_4 inR
          rw [if_neg (by omega), if_neg (by omega)]
          have ekk : fkF G R (m + 1) = if 0 < (scn G R ((3 - m : Nat) : Int)).2.2.2.2 then 3 - m else fkF G R m := rfl
          rw [show ((4 - (m + 1) : Nat) : Int) = ((3 - m : Nat) : Int) by omega]
          refine n_goesOver hG hV cL (by omega) fun L1 f1 s1 => ⟨rfl, by omega, ?_⟩
          rw [s1.2.1]
          have FL1 := FM_trans fL (fm f1)
          have CL1 := MF_fz cL f1
          have sI := scn_I (kind := ((3 - m : Nat) : Int)) hG hV
          have s0 := sI.2.1
          by_cases z : (scn G R ((3 - m : Nat) : Int)).2.2.2.2 = 0
          · rw [if_pos z]
            rw [if_neg (by omega)] at ekk
            have := ihm (by omega) (ek.trans ekk) L1 FL1 CL1
            rw [show ((4 - m : Nat) : Int) = ((3 - m : Nat) : Int) + 1 by omega] at this
            exact this
          · rw [if_neg z]
            rw [if_pos (by omega)] at ekk
            have fk := ek.trans ekk
            rw [if_neg (by omega), fk] at hK
            have sv := sI.2.2.2 (by omega)
            have sx := s1.2.2 (by omega)
            rw [sx.1, sx.2.1, sx.2.2, show ((3 - m : Nat) : Int) + 1 - 1 = ((3 - m : Nat) : Int) by omega]
            have vb := bm_VR hG hV (kd := 3 - m) (by omega)
            refine ⟨by omega, n_makes hG hV CL1 sv.1 fun L2 f2 T2 => ⟨rfl, ?_⟩⟩
            have lo2 : ∀ k, k < 114 → L2 238 k = G k := fun k hk => by rw [f2 238 k (by decide) (by decide)]; exact CL1.1 k hk
            refine n_becomes (G := G) (R := bmR G R (3 - m)) lo2 T2.1 T2.2 fun L3 f3 M3 => ⟨rfl, by omega, ?_⟩
            have F3 : FM J L3 := FM_trans FL1 (fun o k a => by rw [f3 o k (by omega), f2 o k (by omega) (by omega)])
            have := ih (c + 1) (by omega) _ L3 vb F3 M3 (fun J' fJ cJ => by
              have := hK J' fJ cJ
              rw [show (dsF G f (bmR G R (3 - m))).2 + (c + 1) = (dsF G f (bmR G R (3 - m))).2 + 1 + c by omega]
              exact this)
            rw [show ((c + 1 : Nat) : Int) = (c : Int) + 1 by omega] at this
            exact this
      exact kinds 4 (Nat.le_refl _) rfl L fL cL
  exact loop n 0 (Nat.zero_add _) R J hV FM_refl hM h
