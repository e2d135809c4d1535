/-! level 2: prices, regrets, filling, ruin: the model -/
def e5F (x : Int) : Int := if x = -1 then -5 else x
def FV (I J : IM) : Prop := ∀ p j, p ≠ 241 → p ≠ 242 → p ≠ 243 → p ≠ 245 → (p ≠ 237 ∨ j < 8 ∨ (12 < j ∧ j < 27) ∨ 28 < j) → J p j = I p j
theorem FV_trans {I J L : IM} (h : FV I J) (h' : FV J L) : FV I L := fun p j a b c d e => (h' p j a b c d e).trans (h p j a b c d e)
theorem fv_of {J J' : IM} (f : FM J J') (e : J' 238 = J 238) (g : ∀ o, (o = 248 ∨ o = 249) → J' o = J o) (q : ∀ k, (k < 8 ∨ 12 < k) → J' 237 k = J 237 k) : ∀ p j, p ≠ 241 → p ≠ 242 → p ≠ 243 → p ≠ 245 → (p ≠ 237 ∨ j < 8 ∨ 12 < j) → J' p j = J p j := by
  intro p j a b c d r
  by_cases c1 : p = 237
  · rw [c1]; exact q j (by omega)
  · by_cases c2 : p = 238
    · rw [c2, e]
    · by_cases c3 : p = 248 ∨ p = 249
      · rw [g p c3]
      · exact f p j (by omega)
theorem n_prices {o : Int} {v : Nat} {G : Nat → Int} {R : Nat → List Int} {J : IM} {K : Option AV → IM → Prop} (hv : v < 4) (hG : GR G) (hV : VR G R) (hM : MF G R J) (ho : 0 ≤ o ∧ o < G 5) (hl : vanF R o < 0) (h : ∀ J', FV J J' → J' 237 27 = e5F (prQ G R o v) → J' 237 28 = prP G R o v → K none J') : CALL S0 226 [vR 237, vI o, vI (v : Int)] J K := by
  refine e226 ?_
  unfold D226_0
  intro I1 e1 I2 e2
  have hn := hG.1
  have hR := VR_R12 hG hV
  have room := VR_room hG hV hv ho hl
  have gd := hV.2.2.2 v hv
  have key : ∀ t k : Nat, k + t = (R v).length + 1 → ∀ L, FV J L → L 237 27 = e5F (prS G v (R v) o k).1 → L 237 28 = (prS G v (R v) o k).2 → ∀ u : AV, GO S0 226 15 [vR 237, vI o, vI (v : Int), vI (k : Int), u] [] L K := by
    intro t
    induction t with
    | zero =>
      intro k e L f q1 q2 u
      refine g226_15 _ _ _ _ L K ?_
      unfold D226_15
      have M := MF_238 hM (J' := L) (funext fun j => f 238 j (by decide) (by decide) (by decide) (by decide) (by omega))
      refine n_stopsOf hv M ⟨_, rfl, ?_⟩
      rw [if_pos (by omega)]
      rw [show k = (R v).length + 1 by omega] at q1 q2
      exact h L f q1 q2
    | succ t ih =>
      intro k e L f q1 q2 u
      refine g226_15 _ _ _ _ L K ?_
      unfold D226_15 inR
      have M := MF_238 hM (J' := L) (funext fun j => f 238 j (by decide) (by decide) (by decide) (by decide) (by omega))
      refine n_stopsOf hv M ⟨_, rfl, ?_⟩
      rw [if_neg (by omega)]
      have inv := prS_inv hG hv (hR v hv) (o := o) (by omega) gd k (by omega)
      have ek1 : prS G v (R v) o (k + 1) = if gz G v ((R v).insertIdx k o) = 1 ∧ csV G v ((R v).insertIdx k o) - csV G v (R v) < (prS G v (R v) o k).2 then ((k : Int), csV G v ((R v).insertIdx k o) - csV G v (R v)) else prS G v (R v) o k := rfl
      refine n_isGoodWith hv hG M hR (by omega) room (by omega) fun L1 f1 e1' s1 l1 g1 r1 => ⟨fun g => ⟨_, rfl, ?_⟩, fun g => ⟨_, rfl, ?_⟩⟩
      · rw [if_neg (by decide)]
        have F1 := fv_of f1 e1' g1 r1
        have hV2 := VR_in hG hV hv ho hl (k := k) (by omega) g
        refine n_moreBy (R' := setR R v ((R v).insertIdx k o)) hv hG (MF_238 M e1') hR (VR_R12 hG hV2) (hV.1 v hv) (hV2.1 v hv) s1 l1 fun L2 f2 e2' g2 r2 => ⟨_, rfl, ?_⟩
        rw [setR_s]
        have F2 := fv_of f2 e2' (fun o ho => g2 o (by omega)) r2
        have F12 : ∀ p j, p ≠ 241 → p ≠ 242 → p ≠ 243 → p ≠ 245 → (p ≠ 237 ∨ j < 8 ∨ 12 < j) → L2 p j = L p j := fun p j a b c d r => (F2 p j a b c d r).trans (F1 p j a b c d r)
        have b1 := cs_good hG hv (hR v hv) gd
        have b2 := cs_good hG hv (fun x hx => VR_R12 hG hV2 v hv x (by rw [setR_s]; exact hx)) g
        have w1 : L2 237 27 = e5F (prS G v (R v) o k).1 := (F12 237 27 (by decide) (by decide) (by decide) (by decide) (by omega)).trans q1
        have w2 : L2 237 28 = (prS G v (R v) o k).2 := (F12 237 28 (by decide) (by decide) (by decide) (by decide) (by omega)).trans q2
        rw [w1, w2]
        have put : csV G v ((R v).insertIdx k o) - csV G v (R v) < (prS G v (R v) o k).2 → D226_63 o (v : Int) (k : Int) (csV G v ((R v).insertIdx k o) - csV G v (R v)) L2 K := by
          intro lt
          rw [if_pos ⟨gz_1.mpr g, lt⟩] at ek1
          unfold D226_63 inR
          intro I1 e1 I2 e2
          refine ⟨by omega, ?_⟩
          have := ih (k + 1) (by omega) I2 (fun p j a b c d r => by rw [e2, iup_ne (by omega), e1, iup_ne (by omega), F12 p j a b c d (by omega)]; exact f p j a b c d r) (by rw [ek1, e2, iup_ne (Or.inr (by decide)), e1, iup_same]; unfold e5F; rw [if_neg (by show ¬ (k : Int) = -1; omega)]) (by rw [ek1, e2, iup_same]) (vI (csV G v ((R v).insertIdx k o) - csV G v (R v)))
          rw [show ((k + 1 : Nat) : Int) = (k : Int) + 1 by omega] at this
          exact this
        rcases inv with ⟨i1, i2⟩ | ⟨m, i1, i2, i3, i4, i5⟩
        · rw [show e5F (prS G v (R v) o k).1 = -5 by unfold e5F; rw [if_pos i1], if_pos (by decide)]
          exact put (by omega)
        · rw [show e5F (prS G v (R v) o k).1 = (m : Int) by unfold e5F; rw [i1, if_neg (by omega)], if_neg (by omega)]
          by_cases c : csV G v ((R v).insertIdx k o) - csV G v (R v) < (prS G v (R v) o k).2
          · rw [if_pos c]; exact put c
          · rw [if_neg c]
            rw [if_neg (fun z => c z.2)] at ek1
            refine ⟨by omega, ?_⟩
            have := ih (k + 1) (by omega) L2 (fun p j a b c d r => (F12 p j a b c d (by omega)).trans (f p j a b c d r)) (by rw [ek1]; exact w1) (by rw [ek1]; exact w2) (vI (csV G v ((R v).insertIdx k o) - csV G v (R v)))
            rw [show ((k + 1 : Nat) : Int) = (k : Int) + 1 by omega] at this
            exact this
      · rw [if_pos rfl]
        have F1 := fv_of f1 e1' g1 r1
        rw [if_neg (fun z => g (gz_1.mp z.1))] at ek1
        refine ⟨by omega, ?_⟩
        have := ih (k + 1) (by omega) L1 (fun p j a b c d r => (F1 p j a b c d (by omega)).trans (f p j a b c d r)) (by rw [ek1]; exact (F1 237 27 (by decide) (by decide) (by decide) (by decide) (by omega)).trans q1) (by rw [ek1]; exact (F1 237 28 (by decide) (by decide) (by decide) (by decide) (by omega)).trans q2) u
        rw [show ((k + 1 : Nat) : Int) = (k : Int) + 1 by omega] at this
        exact this
  exact key _ 0 (Nat.zero_add _) I2 (fun p j a b c d r => by rw [e2, iup_ne (by omega), e1, iup_ne (by omega)]) (by rw [e2, iup_ne (Or.inr (by decide)), e1, iup_same]; rfl) (by rw [e2, iup_same]; rfl) vU
/-- which van is the cheapest, as the model keeps it -/
def LV (P Q : Nat → Int) (n : Nat) (J : IM) : Prop := (J 237 31 = -1 ∧ J 237 30 = 100000 ∧ ∀ v, v < n → P v = 100000) ∨ (∃ m, n = m + 1 ∧ J 237 31 = (chs P m : Nat) ∧ J 237 30 = P (chs P m) ∧ J 237 32 = Q (chs P m) ∧ ¬ P (chs P m) = 100000)
def FX (I J : IM) : Prop := ∀ p j, p ≠ 241 → p ≠ 242 → p ≠ 243 → p ≠ 245 → p ≠ 249 → (p ≠ 237 ∨ j < 8 ∨ (12 < j ∧ j < 27) ∨ 32 < j) → J p j = I p j
theorem FX_trans {I J L : IM} (h : FX I J) (h' : FX J L) : FX I L := fun p j a b c d e g => (h' p j a b c d e g).trans (h p j a b c d e g)
theorem n_sorts {o : Int} {G : Nat → Int} {R : Nat → List Int} {J : IM} {K : Option AV → IM → Prop} (hG : GR G) (hV : VR G R) (hM : MF G R J) (ho : 0 ≤ o ∧ o < G 5) (hl : vanF R o < 0) (h : ∀ J', FX J J' → (∀ j, j < 4 → J' 249 j = srt (prP G R o) 4 j) → LV (prP G R o) (prQ G R o) 4 J' → K none J') : CALL S0 230 [vR 237, vI o] J K := by
  refine e230 ?_
  unfold D230_0
  intro I1 e1 I2 e2
  generalize hP : prP G R o = P at h
  generalize hQ : prQ G R o = Q at h
  have shift : ∀ n : Nat, n < 4 → ∀ k0 : Nat, k0 < 4 → ∀ B L, L 237 28 = P n → (∀ j, L 249 j = B j) → (∀ L', (∀ p j, p ≠ 249 → L' p j = L p j) → (∀ j, L' 249 j = shf (P n) k0 B j) → ∀ u : AV, GO S0 230 14 [vR 237, vI o, vI ((n : Int) + 1), u] [] L' K) → GO S0 230 73 [vR 237, vI o, vI (n : Int), vI (k0 : Int)] [] L K := by
    intro n hn k0
    induction k0 with
    | zero =>
      intro _ B L x s hK
      refine g230_73 _ _ _ L K ?_
      unfold D230_73
      rw [if_pos (by omega)]
      unfold D230_112 inR
      refine ⟨by omega, fun I3 e3 => ⟨by omega, hK I3 (fun p j a => by rw [e3, iup_ne (Or.inl a)]) (fun j => ?_) _⟩⟩
      rw [e3, Int.toNat_natCast, x]
      unfold shf
      by_cases c : j = 0
      · rw [c, udp_s]; exact iup_same
      · rw [udp_n c, iup_ne (Or.inr c), s j]
    | succ k0 ih =>
      intro hk0 B L x s hK
      refine g230_73 _ _ _ L K ?_
      unfold D230_73 inR
      rw [if_neg (by omega), show (((k0 + 1 : Nat) : Int) - 1).toNat = k0 by omega, Int.toNat_natCast, s k0, x]
      refine ⟨by omega, by omega, ?_⟩
      unfold shf at hK
      by_cases c : B k0 ≤ P n
      · rw [if_pos c]
        rw [if_pos c] at hK
        unfold D230_112 inR
        refine ⟨by omega, fun I3 e3 => ⟨by omega, hK I3 (fun p j a => by rw [e3, iup_ne (Or.inl a)]) (fun j => ?_) _⟩⟩
        rw [e3, Int.toNat_natCast, x]
        by_cases d : j = k0 + 1
        · rw [d, udp_s, iup_same]
        · rw [udp_n d, iup_ne (Or.inr d), s j]
      · rw [if_neg c]
        rw [if_neg c] at hK
        refine ⟨by omega, fun I7 e7 => ⟨by omega, ?_⟩⟩
        have f7 : ∀ p j, p ≠ 249 → I7 p j = L p j := fun p j a => by rw [e7, iup_ne (Or.inl a)]
        have := ih (by omega) (udp B (k0 + 1) (B k0)) I7 (by rw [f7 _ _ (by decide)]; exact x) (fun j => by
          rw [e7]
          by_cases d : j = k0 + 1
          · rw [d, udp_s, iup_same]
          · rw [udp_n d, iup_ne (Or.inr d), s j]) (fun L' f' s' u => hK L' (fun p j a => (f' p j a).trans (f7 p j a)) s' u)
        rw [show ((k0 + 1 : Nat) : Int) + (-1) = (k0 : Int) by omega]
        exact this
  have outer : ∀ t n : Nat, n + t = 4 → ∀ L, FX J L → (∀ j, j < n → L 249 j = srt P n j) → LV P Q n L → ∀ u : AV, GO S0 230 14 [vR 237, vI o, vI (n : Int), u] [] L K := by
    intro t
    induction t with
    | zero =>
      intro n e L f s lv u
      refine g230_14 _ _ _ L K ?_
      unfold D230_14
      rw [if_pos (by omega)]
      rw [show n = 4 by omega] at s lv
      exact h L f s lv
    | succ t ih =>
      intro n e L f s lv u
      have hv : n < 4 := by omega
      refine g230_14 _ _ _ L K ?_
      unfold D230_14
      rw [if_neg (by omega)]
      have M := MF_238 hM (J' := L) (funext fun j => f 238 j (by decide) (by decide) (by decide) (by decide) (by decide) (by omega))
      refine n_prices hv hG hV M ho hl fun L1 f1 q1 q2 => ⟨rfl, ?_⟩
      have inv := pr_inv hG hV ho hv
      rw [hP] at inv q2
      rw [hQ] at inv q1
      have F1 : FX J L1 := FX_trans f (fun p j a b c d e g => f1 p j a b c d (by omega))
      have s1 : ∀ j, j < n → L1 249 j = srt P n j := fun j hj => (f1 249 j (by decide) (by decide) (by decide) (by decide) (by omega)).trans (s j hj)
      have g31 : L1 237 31 = L 237 31 := f1 237 31 (by decide) (by decide) (by decide) (by decide) (by omega)
      have g30 : L1 237 30 = L 237 30 := f1 237 30 (by decide) (by decide) (by decide) (by decide) (by omega)
      have g32 : L1 237 32 = L 237 32 := f1 237 32 (by decide) (by decide) (by decide) (by decide) (by omega)
      have go : ∀ L2, FX J L2 → L2 237 28 = P n → (∀ j, L2 249 j = L1 249 j) → LV P Q (n + 1) L2 → GO S0 230 73 [vR 237, vI o, vI (n : Int), vI (n : Int)] [] L2 K := by
        intro L2 f2 x2 s2 lv2
        refine shift n hv n hv (fun j => L2 249 j) L2 x2 (fun _ => rfl) fun L3 f3 s3 u => ?_
        refine ih (n + 1) (by omega) L3 (fun p j a b c d e g => (f3 p j e).trans (f2 p j a b c d e g)) (fun j hj => by
          rw [s3 j]
          exact shf_cg n _ _ (fun i hi => by rw [s2 i]; exact s1 i hi) j (by omega)) ?_ u
        unfold LV at lv2 ⊢
        rw [f3 _ _ (by decide), f3 _ _ (by decide), f3 _ _ (by decide)]
        exact lv2
      have keep : LV P Q (n + 1) L1 → GO S0 230 73 [vR 237, vI o, vI (n : Int), vI (n : Int)] [] L1 K := fun lv2 => go L1 F1 q2 (fun _ => rfl) lv2
      have put : chs P n = n → ¬ P n = 100000 → Q n = L1 237 27 → D230_50 o (n : Int) u L1 K := by
        intro ec ne eq
        unfold D230_50
        intro I1 e1 I2 e2 I3 e3
        have z : ∀ p j, (p ≠ 237 ∨ j < 30 ∨ 32 < j) → I3 p j = L1 p j := fun p j a => by rw [e3, iup_ne (by omega), e2, iup_ne (by omega), e1, iup_ne (by omega)]
        refine go I3 (fun p j a b c d e g => (z p j (by omega)).trans (F1 p j a b c d e g)) ((z _ _ (by omega)).trans q2) (fun j => z 249 j (by omega)) (Or.inr ⟨n, rfl, ?_, ?_, ?_, by rw [ec]; exact ne⟩)
        · rw [ec, e3, iup_ne (Or.inr (by decide)), e2, iup_ne (Or.inr (by decide)), e1, iup_same]
        · rw [ec, e3, iup_ne (Or.inr (by decide)), e2, iup_same, e1, iup_ne (Or.inr (by decide))]; exact q2
        · rw [ec, e3, iup_same, e2, iup_ne (Or.inr (by decide)), e1, iup_ne (Or.inr (by decide))]; exact eq.symm
      rw [q1]
      rcases inv with ⟨i1, i2⟩ | ⟨k, i1, i2, i3, i4, i5⟩
      · rw [show e5F (Q n) = -5 by unfold e5F; rw [if_pos i1], if_pos (by omega)]
        refine keep ?_
        rcases lv with ⟨a, b, c⟩ | ⟨m, a, b, c, d, g⟩
        · exact Or.inl ⟨g31.trans a, g30.trans b, fun v hv => by
            by_cases y : v = n
            · rw [y]; exact i2
            · exact c v (by omega)⟩
        · have le : ¬ P n < P (chs P m) := by
            have := prP_b hG hV ho (v := chs P m) (by have := chs_le (P := P) m; omega)
            rw [hP] at this
            omega
          have ec : chs P (m + 1) = chs P m := by
            show (if P (chs P m) ≤ P (m + 1) then chs P m else m + 1) = chs P m
            rw [if_pos (by rw [← a]; omega)]
          exact Or.inr ⟨m + 1, by omega, by rw [ec, g31]; exact b, by rw [ec, g30]; exact c, by rw [ec, g32]; exact d, by rw [ec]; exact g⟩
      · have eQ : e5F (Q n) = Q n := by unfold e5F; rw [if_neg (by omega)]
        rw [eQ, if_neg (by omega)]
        rw [eQ] at q1
        rcases lv with ⟨a, b, c⟩ | ⟨m, a, b, c, d, g⟩
        · rw [g31, a, if_pos (by decide)]
          refine put ?_ (by omega) q1.symm
          cases n with
          | zero => rfl
          | succ n =>
            unfold chs
            rw [if_neg]
            have := c (chs P n) (by have := chs_le (P := P) n; omega)
            omega
        · rw [g31, b, if_neg (by omega), g30, c, q2]
          subst a
          by_cases y : P (chs P m) ≤ P (m + 1)
          · rw [if_pos y]
            have ec : chs P (m + 1) = chs P m := by show (if P (chs P m) ≤ P (m + 1) then chs P m else m + 1) = chs P m; rw [if_pos y]
            exact keep (Or.inr ⟨m + 1, rfl, by rw [ec, g31]; exact b, by rw [ec, g30]; exact c, by rw [ec, g32]; exact d, by rw [ec]; exact g⟩)
          · rw [if_neg y]
            exact put (by unfold chs; rw [if_neg y]) (by omega) q1.symm
  exact outer 4 0 rfl I2 (fun p j a b c d e g => by rw [e2, iup_ne (by omega), e1, iup_ne (by omega)]) (fun j hj => by omega) (Or.inl ⟨by rw [e2, iup_ne (Or.inr (by decide)), e1, iup_same], by rw [e2, iup_same], fun v hv => by omega⟩) vU
theorem n_regretOf {o : Int} {k : Nat} {G : Nat → Int} {R : Nat → List Int} {J : IM} {K : Option AV → IM → Prop} (hG : GR G) (hV : VR G R) (hM : MF G R J) (ho : 0 ≤ o ∧ o < G 5) (hl : vanF R o < 0) (hk : 1 ≤ k ∧ k ≤ 4) (h : ∀ J', FX J J' → LV (prP G R o) (prQ G R o) 4 J' → K (some (vI (rgt G R o k))) J') : CALL S0 229 [vR 237, vI o, vI (k : Int)] J K := by
  refine e229 ?_
  unfold D229_0
  have sb := srt_b (P := prP G R o) 4 (fun v hv => prP_b hG hV ho hv)
  refine n_sorts hG hV hM ho hl fun L f s lv => ⟨rfl, ?_⟩
  have last : ∀ t i : Nat, i + t = k - 1 → GO S0 229 10 [vR 237, vI o, vI (k : Int), vI (rgs (srt (prP G R o) 4) i), vI ((i : Int) + 1)] [] L K := by
    intro t
    induction t with
    | zero =>
      intro i e
      refine g229_10 _ _ _ _ L K ?_
      unfold D229_10
      rw [if_pos (by omega), show i = k - 1 by omega]
      exact h L f lv
    | succ t ih =>
      intro i e
      refine g229_10 _ _ _ _ L K ?_
      unfold D229_10 inR
      have b0 := sb 0 (by omega)
      have b1 := sb (i + 1) (by omega)
      have b2 := rgs_b sb i (by omega)
      rw [if_neg (by omega), show ((i : Int) + 1).toNat = i + 1 by omega, s (i + 1) (by omega), s 0 (by omega)]
      exact ⟨by omega, by omega, by omega, by omega, ih (i + 1) (by omega)⟩
  exact last (k - 1) 0 (by omega)
theorem n_firstOf {k : Nat} {G : Nat → Int} {R : Nat → List Int} {J : IM} {K : Option AV → IM → Prop} (hG : GR G) (hV : VR G R) (hM : MF G R J) (hk : 1 ≤ k ∧ k ≤ 4) (h : ∀ J', FX J J' → K (some (vI (e5F (frs G R k)))) J') : CALL S0 232 [vR 237, vI (k : Int)] J K := by
  refine e232 ?_
  unfold D232_0
  have hn := hG.1
  have key : ∀ t o : Nat, o + t = (G 5).toNat → ∀ L, FX J L → ∀ u : AV, GO S0 232 11 [vR 237, vI (k : Int), vI (e5F (frS G R k o).1), vI (frS G R k o).2.1, vI (frS G R k o).2.2, vI (o : Int), u] [] L K := by
    intro t
    induction t with
    | zero =>
      intro o e L f u
      refine g232_11 _ _ _ _ _ _ L K ?_
      unfold D232_11
      have M := MF_238 hM (J' := L) (funext fun j => f 238 j (by decide) (by decide) (by decide) (by decide) (by decide) (by omega))
      rw [M.1 5 (by omega), if_pos (by omega), show o = (G 5).toNat by omega]
      exact h L f
    | succ t ih =>
      intro o e L f u
      refine g232_11 _ _ _ _ _ _ L K ?_
      unfold D232_11 inR
      have M := MF_238 hM (J' := L) (funext fun j => f 238 j (by decide) (by decide) (by decide) (by decide) (by decide) (by omega))
      rw [M.1 5 (by omega), if_neg (by omega)]
      have ef : frS G R k (o + 1) = if vanF R (o : Int) < 0 ∧ ¬ prP G R (o : Int) (chV G R (o : Int)) = 100000 ∧ ((frS G R k o).1 = -1 ∨ (frS G R k o).2.1 < rgt G R (o : Int) k ∨ (rgt G R (o : Int) k = (frS G R k o).2.1 ∧ prP G R (o : Int) (chV G R (o : Int)) < (frS G R k o).2.2)) then ((o : Int), rgt G R (o : Int) k, prP G R (o : Int) (chV G R (o : Int))) else frS G R k o := rfl
      have nx : ∀ L', FX J L' → frS G R k (o + 1) = frS G R k o → ∀ u : AV, GO S0 232 11 [vR 237, vI (k : Int), vI (e5F (frS G R k o).1), vI (frS G R k o).2.1, vI (frS G R k o).2.2, vI ((o : Int) + 1), u] [] L' K := by
        intro L' f' ee u
        have := ih (o + 1) (by omega) L' f' u
        rw [ee, show ((o + 1 : Nat) : Int) = (o : Int) + 1 by omega] at this
        exact this
      refine n_isLeft M ⟨_, rfl, ?_⟩
      by_cases c : vanF R (o : Int) < 0
      · rw [b2i_t c, if_neg (by decide)]
        have ho : 0 ≤ (o : Int) ∧ (o : Int) < G 5 := by omega
        refine n_regretOf hG hV M ho c hk fun L1 f1 lv => ⟨_, rfl, ?_⟩
        have F1 := FX_trans f f1
        have inv := frS_inv (G := G) (R := R) (k := k) o
        have lv' : (L1 237 31 = -1 ∧ prP G R (o : Int) (chV G R (o : Int)) = 100000) ∨ (L1 237 31 = (chV G R (o : Int) : Nat) ∧ L1 237 30 = prP G R (o : Int) (chV G R (o : Int)) ∧ ¬ prP G R (o : Int) (chV G R (o : Int)) = 100000) := by
          rcases lv with ⟨a, b, c⟩ | ⟨m, a, b, c, d, g⟩
          · exact Or.inl ⟨a, c _ chV_lt⟩
          · rw [show m = 3 by omega] at b c g
            exact Or.inr ⟨b, c, g⟩
        rcases lv' with ⟨a, b⟩ | ⟨a, b, d⟩
        · rw [a, if_pos (by decide)]
          exact ⟨by omega, nx L1 F1 (by rw [ef, if_neg (fun z => z.2.1 b)]) _⟩
        · rw [a, if_neg (by omega)]
          have take : ((frS G R k o).1 = -1 ∨ (frS G R k o).2.1 < rgt G R (o : Int) k ∨ (rgt G R (o : Int) k = (frS G R k o).2.1 ∧ prP G R (o : Int) (chV G R (o : Int)) < (frS G R k o).2.2)) → D232_78 (k : Int) (e5F (frS G R k o).1) (frS G R k o).2.1 (frS G R k o).2.2 (o : Int) (rgt G R (o : Int) k) L1 K := by
            intro ht
            rw [if_pos ⟨c, d, ht⟩] at ef
            unfold D232_78 inR
            rw [b]
            refine ⟨by omega, ?_⟩
            have := ih (o + 1) (by omega) L1 F1 (vI (rgt G R (o : Int) k))
            rw [ef, show ((o + 1 : Nat) : Int) = (o : Int) + 1 by omega, show e5F ((o : Int), rgt G R (o : Int) k, prP G R (o : Int) (chV G R (o : Int))).1 = (o : Int) by unfold e5F; rw [if_neg (by show ¬ (o : Int) = -1; omega)]] at this
            exact this
          have keep : ¬ ((frS G R k o).1 = -1 ∨ (frS G R k o).2.1 < rgt G R (o : Int) k ∨ (rgt G R (o : Int) k = (frS G R k o).2.1 ∧ prP G R (o : Int) (chV G R (o : Int)) < (frS G R k o).2.2)) → ∀ u : AV, GO S0 232 11 [vR 237, vI (k : Int), vI (e5F (frS G R k o).1), vI (frS G R k o).2.1, vI (frS G R k o).2.2, vI ((o : Int) + 1), u] [] L1 K := fun ht u => nx L1 F1 (by rw [ef, if_neg (fun z => ht z.2.2)]) u
          have e5 : (frS G R k o).1 = -1 ∧ e5F (frS G R k o).1 = -5 ∨ ¬ (frS G R k o).1 = -1 ∧ 0 ≤ (frS G R k o).1 ∧ e5F (frS G R k o).1 = (frS G R k o).1 := by
            unfold e5F
            rcases inv with z | ⟨m, _, z, _⟩
            · exact Or.inl ⟨z, by rw [if_pos z]⟩
            · exact Or.inr ⟨by omega, by omega, by rw [if_neg (by omega)]⟩
          rcases e5 with ⟨y1, y2⟩ | ⟨y1, y2, y3⟩
          · rw [if_pos (by omega)]
            exact take (Or.inl y1)
          · rw [if_neg (by omega)]
            by_cases h2 : rgt G R (o : Int) k < (frS G R k o).2.1
            · rw [if_pos h2]; exact ⟨by omega, keep (by omega) _⟩
            · rw [if_neg h2]
              by_cases h3 : rgt G R (o : Int) k = (frS G R k o).2.1
              · rw [if_pos h3, b]
                by_cases h4 : prP G R (o : Int) (chV G R (o : Int)) < (frS G R k o).2.2
                · rw [if_pos h4]; exact take (Or.inr (Or.inr ⟨h3, h4⟩))
                · rw [if_neg h4]; exact ⟨by omega, keep (by omega) _⟩
              · rw [if_neg h3]; exact take (Or.inr (Or.inl (by omega)))
      · rw [b2i_f c, if_pos rfl]
        exact ⟨by omega, nx L f (by rw [ef, if_neg (fun z => c z.1)]) _⟩
  exact key (G 5).toNat 0 (Nat.zero_add _) J (fun _ _ _ _ _ _ _ _ => rfl) vU
theorem FM_fx {I J : IM} (h : FX I J) : FM I J := fun o k a => h o k (by omega) (by omega) (by omega) (by omega) (by omega) (by omega)
theorem n_fills {k : Nat} {G : Nat → Int} {R : Nat → List Int} {J : IM} {K : Option AV → IM → Prop} (hG : GR G) (hV : VR G R) (hM : MF G R J) (hk : 1 ≤ k ∧ k ≤ 4) (h : ∀ J', FM J J' → MF G (fiF G k 12 R).1 J' → K (some (vI ((fiF G k 12 R).2 : Nat))) J') : CALL S0 234 [vR 237, vI (k : Int)] J K := by
  refine e234 ?_
  unfold D234_0
  have loop : ∀ f c : Nat, c + f = 12 → ∀ R L, VR G R → 12 ≤ totR R + f → FM J L → MF G R L → (∀ J', FM J J' → MF G (fiF G k f R).1 J' → K (some (vI (((fiF G k f R).2 + c : Nat) : Int))) J') → GO S0 234 8 [vR 237, vI (k : Int), vI (c : Int), vI (e5F (frs G R k))] [] L K := by
    intro f
    induction f with
    | zero =>
      intro c e R L hV ht fL cL hK
      refine g234_8 _ _ _ L K ?_
      unfold D234_8
      have full := frs_full hG hV (k := k) (by omega)
      have hh := hK L fL cL
      rw [show ((fiF G k 0 R).2 + c : Nat) = c from Nat.zero_add c] at hh
      rw [if_pos (by unfold e5F; split <;> omega)]
      exact hh
    | succ f ih =>
      intro c e R L hV ht fL cL hK
      refine g234_8 _ _ _ L K ?_
      unfold D234_8 inR
      unfold fiF at hK
      by_cases c0 : frs G R k < 0
      · rw [if_pos c0] at hK
        rw [if_pos (by unfold e5F; split <;> omega)]
        have hh := hK L fL cL
        rw [show ((R, 0) : (Nat → List Int) × Nat).2 + c = c from Nat.zero_add c] at hh
        exact hh
      · rw [if_neg c0] at hK
        have e5 : e5F (frs G R k) = frs G R k := by unfold e5F; rw [if_neg (by omega)]
        rw [e5, if_neg c0]
        obtain ⟨v1, p, pe, pl⟩ := VR_in1 hG hV (k := k) (by omega)
        obtain ⟨i1, i2, i3⟩ := frs_inv hG (R := R) (k := k) (by omega)
        have tt := tot_in1 hG hV (k := k) (by omega)
        have cv := chV_lt (G := G) (R := R) (o := frs G R k)
        have room := VR_room hG hV cv ⟨by omega, i1⟩ i2
        refine n_sorts hG hV cL ⟨by omega, i1⟩ i2 fun L1 f1 _ lv => ⟨rfl, ?_⟩
        have M1 := MF_238 cL (J' := L1) (funext fun j => f1 238 j (by decide) (by decide) (by decide) (by decide) (by decide) (by omega))
        have lv' : L1 237 31 = (chV G R (frs G R k) : Nat) ∧ L1 237 32 = prQ G R (frs G R k) (chV G R (frs G R k)) := by
          rcases lv with ⟨a, b, c⟩ | ⟨m, a, b, c, d, g⟩
          · exact absurd (c _ cv) i3
          · rw [show m = 3 by omega] at b d
            exact ⟨b, d⟩
        refine n_tries M1 fun L2 f2 s2 l2 => ⟨rfl, ?_⟩
        rw [f2 _ _ (by decide), f2 _ _ (by decide), lv'.1, lv'.2, pe]
        refine m_ins s0_242 cv s2 (by rw [l2 _ cv]; exact room) (by rw [l2 _ cv]; exact pl) fun L3 f3 s3 l3 => ⟨rfl, ?_⟩
        have l3' : ∀ w, w < 4 → LM L3 242 0 w = inR1 G R (frs G R k) w := fun w hw => by
          rw [l3 w hw]
          unfold inR1
          rw [pe, Int.toNat_natCast, l2 _ cv]
          by_cases d : w = chV G R (frs G R k)
          · rw [d, setR_s, setR_s]
          · rw [setR_n d, setR_n d]; exact l2 w hw
        refine n_becomes (G := G) (R := inR1 G R (frs G R k)) (fun j hj => by rw [f3 _ _ (by decide), f2 _ _ (by decide)]; exact M1.1 j hj) s3 l3' fun L4 f4 M4 => ⟨rfl, by omega, ?_⟩
        have F4 : FM J L4 := FM_trans fL (FM_trans (FM_fx f1) (fun o k a => by rw [f4 o k (by omega), f3 o k (by omega), f2 o k (by omega)]))
        refine n_firstOf hG v1 M4 hk fun L5 f5 => ⟨_, rfl, ?_⟩
        have M5 := MF_238 M4 (J' := L5) (funext fun j => f5 238 j (by decide) (by decide) (by decide) (by decide) (by decide) (by omega))
        have := ih (c + 1) (by omega) _ L5 v1 (by omega) (FM_trans F4 (FM_fx f5)) M5 (fun J' fJ cJ => by
          have := hK J' fJ cJ
          rw [show (fiF G k f (inR1 G R (frs G R k))).2 + (c + 1) = (fiF G k f (inR1 G R (frs G R k))).2 + 1 + c by omega]
          exact this)
        rw [show ((c + 1 : Nat) : Int) = (c : Int) + 1 by omega] at this
        exact this
  refine n_firstOf hG hV hM hk fun L f => ⟨_, rfl, ?_⟩
  exact loop 12 0 rfl R L hV (by omega) (FM_fx f) (MF_238 hM (funext fun j => f 238 j (by decide) (by decide) (by decide) (by decide) (by decide) (by omega))) h
theorem n_wayOf {a b : Int} {G : Nat → Int} {J : IM} {K : Option AV → IM → Prop} (hG : GR G) (hlo : ∀ k, k < 114 → J 238 k = G k) (ha : a < 12) (hb : b < 12) (h : K (some (vI (wy G a b))) J) : CALL S0 166 [vR 237, vI a, vI b] J K :=
  m_wayOf (gr_lo hG hlo) ha hb (by rw [wy_lo hlo ha hb]; exact h)
theorem n_nearest {o : Int} {G : Nat → Int} {R : Nat → List Int} {J : IM} {K : Option AV → IM → Prop} (hG : GR G) (hM : MF G R J) (ho : 0 ≤ o ∧ o < G 5) (h : K (some (vI (nrs G R o))) J) : CALL S0 237 [vR 237, vI o] J K := by
  refine e237 ?_
  unfold D237_0
  have hn := hG.1
  have key : ∀ t k : Nat, k + t = (G 5).toNat → GO S0 237 4 [vR 237, vI o, vI (nrS G R o k), vI (k : Int)] [] J K := by
    intro t
    induction t with
    | zero =>
      intro k e
      refine g237_4 _ _ _ J K ?_
      unfold D237_4
      rw [hM.1 5 (by omega), if_pos (by omega), show k = (G 5).toNat by omega]
      exact h
    | succ t ih =>
      intro k e
      refine g237_4 _ _ _ J K ?_
      unfold D237_4 inR
      rw [hM.1 5 (by omega), if_neg (by omega)]
      have := ih (k + 1) (by omega)
      rw [show ((k + 1 : Nat) : Int) = (k : Int) + 1 by omega] at this
      have ef : nrS G R o (k + 1) = if 0 ≤ vanF R (k : Int) ∧ (nrS G R o k = -1 ∨ wy G o (k : Int) < wy G o (nrS G R o k)) then (k : Int) else nrS G R o k := rfl
      refine n_isLeft hM ⟨_, rfl, ?_⟩
      by_cases c : vanF R (k : Int) < 0
      · rw [b2i_t c, if_neg (by decide)]
        rw [ef, if_neg (fun z => by omega)] at this
        exact ⟨by omega, this⟩
      · rw [b2i_f c, if_pos rfl]
        rcases nrS_inv (G := G) (R := R) (o := o) k with z | ⟨m, m1, m2, m3⟩
        · rw [if_pos (by omega)]
          rw [ef, if_pos ⟨by omega, Or.inl z⟩] at this
          exact ⟨by omega, this⟩
        · rw [m2] at ef ⊢
          rw [if_neg (by omega)]
          refine n_wayOf hG hM.1 (by omega) (by omega) ⟨_, rfl, n_wayOf hG hM.1 (by omega) (by omega) ⟨_, rfl, ?_⟩⟩
          rw [@wy_sym G (k : Int) o, @wy_sym G (m : Int) o]
          by_cases w : wy G o (m : Int) ≤ wy G o (k : Int)
          · rw [if_pos w]
            rw [ef, if_neg (fun z => by omega)] at this
            exact ⟨by omega, this⟩
          · rw [if_neg w]
            rw [ef, if_pos ⟨by omega, Or.inr (by omega)⟩] at this
            exact ⟨by omega, this⟩
  exact key (G 5).toNat 0 (Nat.zero_add _)
theorem n_ruins {o : Int} {n : Nat} {G : Nat → Int} {R : Nat → List Int} {J : IM} {K : Option AV → IM → Prop} (hG : GR G) (hV : VR G R) (hM : MF G R J) (ho : 0 ≤ o ∧ o < G 5) (hn : n ≤ 12) (h : ∀ J', FM J J' → MF G (ruF G o n R).1 J' → K (some (vI ((ruF G o n R).2 : Nat))) J') : CALL S0 236 [vR 237, vI o, vI (n : Int)] J K := by
  refine e236 ?_
  unfold D236_0
  have loop : ∀ f c : Nat, c + f = n → ∀ R L, VR G R → FM J L → MF G R L → (∀ J', FM J J' → MF G (ruF G o f R).1 J' → K (some (vI (((ruF G o f R).2 + c : Nat) : Int))) J') → GO S0 236 9 [vR 237, vI o, vI (n : Int), vI (c : Int), vI (nrs G R o)] [] L K := by
    intro f
    induction f with
    | zero =>
      intro c e R L hV fL cL hK
      refine g236_9 _ _ _ _ L K ?_
      unfold D236_9
      rw [if_pos (by omega)]
      have hh := hK L fL cL
      rw [show ((ruF G o 0 R).2 + c : Nat) = c from Nat.zero_add c] at hh
      exact hh
    | succ f ih =>
      intro c e R L hV fL cL hK
      refine g236_9 _ _ _ _ L K ?_
      unfold D236_9 inR
      rw [if_neg (by omega)]
      unfold ruF at hK
      rcases nrs_inv (R := R) (o := o) hG with z | ⟨z1, z2, z3⟩
      · rw [if_pos (by omega)]
        rw [if_pos (by omega)] at hK
        have hh := hK L fL cL
        rw [show ((R, 0) : (Nat → List Int) × Nat).2 + c = c from Nat.zero_add c] at hh
        exact hh
      · rw [if_neg (by omega)]
        rw [if_neg (by omega)] at hK
        refine n_tries cL fun L1 f1 s1 l1 => ⟨rfl, ?_⟩
        have M1 := MF_238 cL (J' := L1) (funext fun j => f1 238 j (by decide))
        refine n_vanOf M1 ⟨_, rfl, n_placeOf M1 z3 ⟨_, rfl, n_out s1 l1 z3 fun L2 f2 s2 l2 => ⟨rfl, ?_⟩⟩⟩
        refine n_becomes (G := G) (R := outR R (nrs G R o)) (fun j hj => by rw [f2 _ _ (by decide)]; exact M1.1 j hj) s2 l2 fun L3 f3 M3 => ⟨rfl, by omega, ?_⟩
        have v1 := VR_out hG hV z3
        refine n_nearest hG M3 ho ⟨_, rfl, ?_⟩
        have := ih (c + 1) (by omega) _ L3 v1 (FM_trans fL (fun o k a => by rw [f3 o k (by omega), f2 o k (by omega), f1 o k (by omega)])) M3 (fun J' fJ cJ => by
          have := hK J' fJ cJ
          rw [show (ruF G o f (outR R (nrs G R o))).2 + (c + 1) = (ruF G o f (outR R (nrs G R o))).2 + 1 + c by omega]
          exact this)
        rw [show ((c + 1 : Nat) : Int) = (c : Int) + 1 by omega] at this
        exact this
  refine n_nearest hG hM ho ⟨_, rfl, ?_⟩
  exact loop n 0 (Nat.zero_add _) R J hV FM_refl hM h
