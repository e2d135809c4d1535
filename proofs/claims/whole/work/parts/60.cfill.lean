/-! level 2: prices, regrets, filling, ruin: the class -/
theorem c_weigh {o : Int} {G : Nat → Int} {R : Nat → List Int} {J : IM} {K : Option AV → IM → Prop} (hG : GR G) (hV : VR G R) (hC : CF G R J) (ho : 0 ≤ o ∧ o < G 5) (hl : vanF R o < 0) (h : ∀ J', (∀ p j, p ≠ 192 → p ≠ 205 → p ≠ 206 → J' p j = J p j) → (∀ v, v < 4 → J' 205 v = prP G R o v ∧ J' 206 v = prQ G R o v) → K none J') : CALL S0 99 [vR 204, vI o] J K := by
  refine e99 ?_
  unfold D99_0
  have hn := hG.1
  have hR := VR_R12 hG hV
  have outer : ∀ t v : Nat, v + t = 4 → ∀ J', (∀ p j, p ≠ 192 → p ≠ 205 → p ≠ 206 → J' p j = J p j) → (∀ w, w < v → J' 205 w = prP G R o w ∧ J' 206 w = prQ G R o w) → ∀ u u' u'' : AV, GO S0 99 2 [vR 204, vI o, vI (v : Int), u, u', u''] [] J' K := by
    intro t
    induction t with
    | zero =>
      intro v e J' f g u u' u''
      refine g99_2 _ _ _ _ _ J' K ?_
      unfold D99_2
      rw [if_pos (by omega)]
      exact h J' f (fun w hw => g w (by omega))
    | succ t iht =>
      intro v e J' f g u u' u''
      have hv : v < 4 := by omega
      have l12 := hV.1 v hv
      have room := VR_room hG hV hv ho hl
      have cl := CF_len hC hv
      have gd := hV.2.2.2 v hv
      have b1 := cs_good hG hv (hR v hv) gd
      refine g99_2 _ _ _ _ _ J' K ?_
      unfold D99_2
      rw [if_neg (by omega)]
      have C' := CF_fr hC (J' := J') (fun o k a => f o k (by omega) (by omega) (by omega))
      refine c_costOf rd29 hv hG C'.1 C'.2.1 hR C'.2.2 fun J1 f1 => ⟨fun _ => ⟨_, rfl, by omega, fun I5 e5 I6 e6 => ?_⟩, fun z => absurd gd z⟩
      rw [Int.toNat_natCast] at e5 e6
      have inner : ∀ j k : Nat, k + j = (R v).length + 1 → ∀ L, (∀ p j, p ≠ 192 → p ≠ 205 → p ≠ 206 → L p j = J p j) → (∀ w, w < v → L 205 w = prP G R o w ∧ L 206 w = prQ G R o w) → L 205 v = (prS G v (R v) o k).2 → L 206 v = (prS G v (R v) o k).1 → ∀ u : AV, GO S0 99 38 [vR 204, vI o, vI (v : Int), vI (csV G v (R v)), vI (k : Int), u] [] L K := by
        intro j
        induction j with
        | zero =>
          intro k ek L fL gL p2 p1 u
          refine g99_38 _ _ _ _ _ L K ?_
          unfold D99_38 inR
          rw [Int.toNat_natCast, fL 30 v (by decide) (by decide) (by decide), if_pos (by omega)]
          refine ⟨by omega, by omega, ?_⟩
          have := iht (v + 1) (by omega) L fL (fun w hw => by
            by_cases c : w = v
            · rw [c, p2, p1, show k = (R v).length + 1 by omega]; exact ⟨rfl, rfl⟩
            · exact gL w (by omega)) (vI (csV G v (R v))) (vI (k : Int)) u
          rw [show ((v + 1 : Nat) : Int) = (v : Int) + 1 by omega] at this
          exact this
        | succ j ih =>
          intro k ek L fL gL p2 p1 u
          refine g99_38 _ _ _ _ _ L K ?_
          unfold D99_38 inR
          rw [Int.toNat_natCast, fL 30 v (by decide) (by decide) (by decide), if_neg (by omega)]
          refine ⟨by omega, ?_⟩
          have CL := CF_fr hC (J' := L) (fun o k a => fL o k (by omega) (by omega) (by omega))
          have inv := prS_inv hG hv (hR v hv) (o := o) (by omega) gd k (by omega)
          have ek1 : prS G v (R v) o (k + 1) = if gz G v ((R v).insertIdx k o) = 1 ∧ csV G v ((R v).insertIdx k o) - csV G v (R v) < (prS G v (R v) o k).2 then ((k : Int), csV G v ((R v).insertIdx k o) - csV G v (R v)) else prS G v (R v) o k := rfl
          refine c_costWith hv hG CL hR (by omega) room (by omega) fun L1 f1 => ⟨fun g => ⟨_, rfl, ?_⟩, fun g => ⟨_, rfl, ?_⟩⟩
          · have b2 := cs_good hG hv (fun x hx => by
              rcases (List.mem_insertIdx (by omega)).mp hx with e | e
              · rw [e]; omega
              · exact hR v hv x e) g
            have q2 : L1 205 v = (prS G v (R v) o k).2 := by rw [f1 _ _ (by decide)]; exact p2
            rw [if_neg (by omega), q2]
            refine ⟨by omega, ?_⟩
            by_cases c : (prS G v (R v) o k).2 ≤ csV G v ((R v).insertIdx k o) - csV G v (R v)
            · rw [if_pos c]
              refine ⟨by omega, ?_⟩
              rw [if_neg (fun z => by omega)] at ek1
              exact ih (k + 1) (by omega) L1 (fun p j a b c => by rw [f1 _ _ a]; exact fL p j a b c) (fun w hw => by rw [f1 _ _ (by decide), f1 _ _ (by decide)]; exact gL w hw) (by rw [ek1]; exact q2) (by rw [ek1, f1 _ _ (by decide)]; exact p1) _
            · rw [if_neg c]
              intro I11 e11 I12 e12
              refine ⟨by omega, ?_⟩
              rw [if_pos ⟨gz_1.mpr g, by omega⟩] at ek1
              refine ih (k + 1) (by omega) I12 (fun p j a b c => by rw [e12, iup_ne (Or.inl c), e11, iup_ne (Or.inl b), f1 _ _ a]; exact fL p j a b c) (fun w hw => by rw [e12, iup_ne (Or.inl (by decide)), iup_ne (Or.inr (by omega)), e11, iup_ne (Or.inr (by omega)), iup_ne (Or.inl (by decide)), f1 _ _ (by decide), f1 _ _ (by decide)]; exact gL w hw) ?_ ?_ _
              · rw [ek1, e12, iup_ne (Or.inl (by decide)), e11, iup_same]
              · rw [ek1, e12, iup_same]
          · rw [if_pos rfl]
            refine ⟨by omega, ?_⟩
            rw [if_neg (fun z => g (gz_1.mp z.1))] at ek1
            exact ih (k + 1) (by omega) L1 (fun p j a b c => by rw [f1 _ _ a]; exact fL p j a b c) (fun w hw => by rw [f1 _ _ (by decide), f1 _ _ (by decide)]; exact gL w hw) (by rw [ek1, f1 _ _ (by decide)]; exact p2) (by rw [ek1, f1 _ _ (by decide)]; exact p1) _
      exact inner _ 0 (Nat.zero_add _) I6 (fun p j a b c => by rw [e6, iup_ne (Or.inl c), e5, iup_ne (Or.inl b), f1 _ _ a]; exact f p j a b c) (fun w hw => by rw [e6, iup_ne (Or.inl (by decide)), iup_ne (Or.inr (by omega)), e5, iup_ne (Or.inr (by omega)), iup_ne (Or.inl (by decide)), f1 _ _ (by decide), f1 _ _ (by decide)]; exact g w hw) (by rw [e6, iup_ne (Or.inl (by decide)), e5, iup_same]; rfl) (by rw [e6, iup_same]; rfl) _
  exact outer 4 0 rfl J (fun _ _ _ _ _ => rfl) (fun w hw => by omega) _ _ _
theorem c_regretBy {k : Nat} {P : Nat → Int} {J : IM} {K : Option AV → IM → Prop} (hP : ∀ v, v < 4 → J 205 v = P v) (hb : ∀ v, v < 4 → -30000 ≤ P v ∧ P v ≤ 100000) (hk : 1 ≤ k ∧ k ≤ 4) (h : ∀ J', (∀ p j, p ≠ 207 → J' p j = J p j) → K (some (vI (rgs (srt P 4) (k - 1)))) J') : CALL S0 102 [vR 204, vI (k : Int)] J K := by
  refine e102 ?_
  unfold D102_0
  have sb := srt_b 4 hb
  have last : ∀ J', (∀ p j, p ≠ 207 → J' p j = J p j) → (∀ j, j < 4 → J' 207 j = srt P 4 j) → ∀ t i : Nat, i + t = k - 1 → GO S0 102 72 [vR 204, vI (k : Int), vI (rgs (srt P 4) i), vI ((i : Int) + 1)] [] J' K := by
    intro J' f s t
    induction t with
    | zero =>
      intro i e
      refine g102_72 _ _ _ J' K ?_
      unfold D102_72
      rw [if_pos (by omega), show i = k - 1 by omega]
      exact h J' f
    | succ t ih =>
      intro i e
      refine g102_72 _ _ _ J' K ?_
      unfold D102_72 inR
      have b0 := sb 0 (by omega)
      have b1 := sb (i + 1) (by omega)
      have b2 := rgs_b sb i (by omega)
      rw [if_neg (by omega), if_neg (by omega), show ((i : Int) + 1).toNat = i + 1 by omega, s (i + 1) (by omega), s 0 (by omega)]
      exact ⟨by omega, by omega, by omega, by omega, ih (i + 1) (by omega)⟩
  have shift : ∀ i : Nat, i < 4 → ∀ k0 : Nat, k0 < 4 → ∀ B J', (∀ p j, p ≠ 207 → J' p j = J p j) → (∀ j, J' 207 j = B j) → (∀ L, (∀ p j, p ≠ 207 → L p j = J p j) → (∀ j, L 207 j = shf (P i) k0 B j) → ∀ u : AV, GO S0 102 2 [vR 204, vI (k : Int), vI ((i : Int) + 1), u] [] L K) → GO S0 102 9 [vR 204, vI (k : Int), vI (i : Int), vI (k0 : Int)] [] J' K := by
    intro i hi k0
    induction k0 with
    | zero =>
      intro _ B J' f s hK
      refine g102_9 _ _ _ J' K ?_
      unfold D102_9
      rw [if_pos (by omega)]
      unfold D102_50 inR
      refine ⟨by omega, by omega, fun I3 e3 => ⟨by omega, hK I3 (fun p j a => by rw [e3, iup_ne (Or.inl a)]; exact f p j a) (fun j => ?_) _⟩⟩
      rw [e3, Int.toNat_natCast, Int.toNat_natCast, f 205 i (by decide), hP i hi]
      unfold shf
      by_cases c : j = 0
      · rw [c, udp_s]; exact iup_same
      · rw [udp_n c, iup_ne (Or.inr c), s j]
    | succ k0 ih =>
      intro hk0 B J' f s hK
      refine g102_9 _ _ _ J' K ?_
      unfold D102_9 inR
      rw [if_neg (by omega), show (((k0 + 1 : Nat) : Int) - 1).toNat = k0 by omega, Int.toNat_natCast, Int.toNat_natCast, s k0, f 205 i (by decide), hP i hi]
      refine ⟨by omega, by omega, by omega, ?_⟩
      unfold shf at hK
      by_cases c : B k0 ≤ P i
      · rw [if_pos c]
        rw [if_pos c] at hK
        unfold D102_50 inR
        refine ⟨by omega, by omega, fun I3 e3 => ⟨by omega, hK I3 (fun p j a => by rw [e3, iup_ne (Or.inl a)]; exact f p j a) (fun j => ?_) _⟩⟩
        rw [e3, Int.toNat_natCast, Int.toNat_natCast, f 205 i (by decide), hP i hi]
        by_cases d : j = k0 + 1
        · rw [d, udp_s, iup_same]
        · rw [udp_n d, iup_ne (Or.inr d), s j]
      · rw [if_neg c]
        rw [if_neg c] at hK
        refine ⟨by omega, fun I7 e7 => ⟨by omega, ?_⟩⟩
        have := ih (by omega) (udp B (k0 + 1) (B k0)) I7 (fun p j a => by rw [e7, iup_ne (Or.inl a)]; exact f p j a) (fun j => by
          rw [e7]
          by_cases d : j = k0 + 1
          · rw [d, udp_s, iup_same]
          · rw [udp_n d, iup_ne (Or.inr d), s j]) hK
        rw [show ((k0 + 1 : Nat) : Int) + (-1) = (k0 : Int) by omega]
        exact this
  have outer : ∀ t i : Nat, i + t = 4 → ∀ J', (∀ p j, p ≠ 207 → J' p j = J p j) → (∀ j, j < i → J' 207 j = srt P i j) → ∀ u : AV, GO S0 102 2 [vR 204, vI (k : Int), vI (i : Int), u] [] J' K := by
    intro t
    induction t with
    | zero =>
      intro i e J' f s u
      refine g102_2 _ _ _ J' K ?_
      unfold D102_2
      rw [if_pos (by omega)]
      rw [show i = 4 by omega] at s
      exact last J' f s (k - 1) 0 (by omega)
    | succ t ih =>
      intro i e J' f s u
      refine g102_2 _ _ _ J' K ?_
      unfold D102_2
      rw [if_neg (by omega)]
      exact shift i (by omega) i (by omega) (fun j => J' 207 j) J' f (fun _ => rfl) fun L fL sL u => ih (i + 1) (by omega) L fL (fun j hj => by
        rw [sL j]
        exact shf_cg i _ _ s j (by omega)) u
  exact outer 4 0 rfl J (fun _ _ _ => rfl) (fun j hj => by omega) vU
theorem c_cheapest {P : Nat → Int} {J : IM} {K : Option AV → IM → Prop} (hP : ∀ v, v < 4 → J 205 v = P v) (h : K (some (vI ((chs P 3 : Nat) : Int))) J) : CALL S0 105 [vR 204] J K := by
  refine e105 ?_
  unfold D105_0
  have key : ∀ t n : Nat, n + t = 3 → GO S0 105 4 [vR 204, vI ((chs P n : Nat) : Int), vI ((n : Int) + 1)] [] J K := by
    intro t
    induction t with
    | zero =>
      intro n e
      refine g105_4 _ _ J K ?_
      unfold D105_4
      rw [if_pos (by omega), show n = 3 by omega]
      exact h
    | succ t ih =>
      intro n e
      refine g105_4 _ _ J K ?_
      unfold D105_4 inR
      have l := chs_le (P := P) n
      rw [if_neg (by omega), show ((n : Int) + 1).toNat = n + 1 by omega, Int.toNat_natCast, hP _ (by omega), hP _ (by omega)]
      have := ih (n + 1) (by omega)
      unfold chs at this
      refine ⟨by omega, by omega, ?_⟩
      split
      · rename_i c
        rw [if_pos c] at this
        exact ⟨by omega, this⟩
      · rename_i c
        rw [if_neg c] at this
        exact ⟨by omega, this⟩
  exact key 3 0 rfl
/-- frame of filling in the class, rounds aside -/
def FW (I J : IM) : Prop := ∀ p j, p ≠ 192 → (p < 204 ∨ 207 < p) → J p j = I p j
theorem FW_trans {I J L : IM} (h : FW I J) (h' : FW J L) : FW I L := fun p j a b => (h' p j a b).trans (h p j a b)
theorem c_choose {k : Nat} {G : Nat → Int} {R : Nat → List Int} {J : IM} {K : Option AV → IM → Prop} (hG : GR G) (hV : VR G R) (hC : CF G R J) (hk : 1 ≤ k ∧ k ≤ 4) (h : ∀ J', FW J J' → J' 204 6 = frs G R k → (0 ≤ frs G R k → J' 204 7 = (chV G R (frs G R k) : Nat) ∧ J' 204 8 = prQ G R (frs G R k) (chV G R (frs G R k))) → K none J') : CALL S0 104 [vR 204, vI (k : Int)] J K := by
  refine e104 ?_
  unfold D104_0
  have hn := hG.1
  have hR := VR_R12 hG hV
  intro I1 e1
  have f1 : FW J I1 := fun p j a b => by rw [e1, iup_ne (Or.inl (by omega))]
  have C1 := CF_fr hC (J' := I1) (fun o k a => f1 o k (by omega) (by omega))
  refine k_bits rd29 C1.2.1 (oc_of hR C1.2.2) fun S hS => ⟨_, rfl, ?_⟩
  have hS2 : ∀ o, o < 32 → (bt S o = true ↔ 0 ≤ vanF R (o : Int)) := fun o ho => by rw [hS.2 o ho, vanF_eq C1.2.2]
  have key : ∀ t o : Nat, o + t = (G 5).toNat → ∀ L, FW J L → L 204 6 = (frS G R k o).1 → (0 ≤ (frS G R k o).1 → L 204 7 = (chV G R (frS G R k o).1 : Nat) ∧ L 204 8 = prQ G R (frS G R k o).1 (chV G R (frS G R k o).1)) → ∀ u u' : AV, GO S0 104 21 [vR 204, vI (k : Int), vI (frS G R k o).2.1, vI (frS G R k o).2.2, vI S, vI (o : Int), u, u'] [] L K := by
    intro t
    induction t with
    | zero =>
      intro o e L f s6 s7 u u'
      refine g104_21 _ _ _ _ _ _ _ L K ?_
      unfold D104_21
      have C := CF_fr hC (J' := L) (fun o k a => f o k (by omega) (by omega))
      rw [C.1.1, if_pos (by omega)]
      rw [show o = (G 5).toNat by omega] at s6 s7
      exact h L f s6 s7
    | succ t ih =>
      intro o e L f s6 s7 u u'
      refine g104_21 _ _ _ _ _ _ _ L K ?_
      unfold D104_21 inR
      have C := CF_fr hC (J' := L) (fun o k a => f o k (by omega) (by omega))
      rw [C.1.1, if_neg (by omega)]
      have b := hS2 o (by omega)
      have b1 := @bt_1 S o (by omega)
      have ef : frS G R k (o + 1) = if vanF R (o : Int) < 0 ∧ ¬ prP G R (o : Int) (chV G R (o : Int)) = 100000 ∧ ((frS G R k o).1 = -1 ∨ (frS G R k o).2.1 < rgt G R (o : Int) k ∨ (rgt G R (o : Int) k = (frS G R k o).2.1 ∧ prP G R (o : Int) (chV G R (o : Int)) < (frS G R k o).2.2)) then ((o : Int), rgt G R (o : Int) k, prP G R (o : Int) (chV G R (o : Int))) else frS G R k o := rfl
      have nx : ∀ L', FW J L' → frS G R k (o + 1) = frS G R k o → L' 204 6 = L 204 6 → L' 204 7 = L 204 7 → L' 204 8 = L 204 8 → ∀ u u' : AV, GO S0 104 21 [vR 204, vI (k : Int), vI (frS G R k o).2.1, vI (frS G R k o).2.2, vI S, vI ((o : Int) + 1), u, u'] [] L' K := by
        intro L' f' ee q6 q7 q8 u u'
        have := ih (o + 1) (by omega) L' f' (by rw [ee, q6]; exact s6) (by rw [ee, q7, q8]; exact s7) u u'
        rw [ee, show ((o + 1 : Nat) : Int) = (o : Int) + 1 by omega] at this
        exact this
      by_cases c : 0 ≤ vanF R (o : Int)
      · rw [if_pos (b1.mpr (b.mpr c))]
        exact ⟨by omega, nx L f (by rw [ef, if_neg (fun z => by omega)]) rfl rfl rfl _ _⟩
      · rw [if_neg (fun z => c (b.mp (b1.mp z)))]
        have ho : 0 ≤ (o : Int) ∧ (o : Int) < G 5 := by omega
        refine c_weigh hG hV C ho (by omega) fun L1 f1 w1 => ⟨rfl, ?_⟩
        have w2 : ∀ v, v < 4 → L1 205 v = prP G R (o : Int) v := fun v hv => (w1 v hv).1
        refine c_cheapest w2 ⟨_, rfl, ?_⟩
        rw [show ((chs (prP G R (o : Int)) 3 : Nat) : Int) = ((chV G R (o : Int) : Nat) : Int) from rfl]
        have cl := chV_lt (G := G) (R := R) (o := (o : Int))
        have F1 : FW J L1 := FW_trans f (fun p j a b => f1 p j a (by omega) (by omega))
        rw [Int.toNat_natCast, w2 _ cl]
        refine ⟨by omega, ?_⟩
        by_cases d : prP G R (o : Int) (chV G R (o : Int)) = 100000
        · rw [if_pos d]
          exact ⟨by omega, nx L1 F1 (by rw [ef, if_neg (fun z => z.2.1 d)]) (f1 _ _ (by decide) (by decide) (by decide)) (f1 _ _ (by decide) (by decide) (by decide)) (f1 _ _ (by decide) (by decide) (by decide)) _ _⟩
        · rw [if_neg d]
          refine c_regretBy w2 (fun v hv => prP_b hG hV ho hv) hk fun L2 f2 => ⟨_, rfl, ?_⟩
          rw [show rgs (srt (prP G R (o : Int)) 4) (k - 1) = rgt G R (o : Int) k from rfl]
          have F2 : FW J L2 := FW_trans F1 (fun p j a b => f2 p j (by omega))
          have g6 : L2 204 6 = L 204 6 := (f2 _ _ (by decide)).trans (f1 _ _ (by decide) (by decide) (by decide))
          have g7 : L2 204 7 = L 204 7 := (f2 _ _ (by decide)).trans (f1 _ _ (by decide) (by decide) (by decide))
          have g8 : L2 204 8 = L 204 8 := (f2 _ _ (by decide)).trans (f1 _ _ (by decide) (by decide) (by decide))
          have w3 : L2 205 (chV G R (o : Int)) = prP G R (o : Int) (chV G R (o : Int)) := (f2 _ _ (by decide)).trans (w2 _ cl)
          have w4 : L2 206 (chV G R (o : Int)) = prQ G R (o : Int) (chV G R (o : Int)) := (f2 _ _ (by decide)).trans (w1 _ cl).2
          have take : ((frS G R k o).1 = -1 ∨ (frS G R k o).2.1 < rgt G R (o : Int) k ∨ (rgt G R (o : Int) k = (frS G R k o).2.1 ∧ prP G R (o : Int) (chV G R (o : Int)) < (frS G R k o).2.2)) → D104_112 (k : Int) (frS G R k o).2.1 (frS G R k o).2.2 S (o : Int) ((chV G R (o : Int) : Nat) : Int) (rgt G R (o : Int) k) L2 K := by
            intro ht
            unfold D104_112 inR
            intro I1 e1 I2 e2
            rw [Int.toNat_natCast]
            refine ⟨by omega, fun I4 e4 => ⟨by omega, ?_⟩⟩
            rw [if_pos ⟨by omega, d, ht⟩] at ef
            have z5 : ∀ p j, p ≠ 204 → I4 p j = L2 p j := fun p j a => by rw [e4, iup_ne (Or.inl a), e2, iup_ne (Or.inl a), e1, iup_ne (Or.inl a)]
            have := ih (o + 1) (by omega) I4 (FW_trans F2 (fun p j a b => z5 p j (by omega))) (by rw [ef, e4, iup_ne (Or.inr (by decide)), e2, iup_ne (Or.inr (by decide)), e1, iup_same]) (fun _ => ⟨by rw [ef, e4, iup_ne (Or.inr (by decide)), e2, iup_same], by
              rw [ef, e4, iup_same, e2, iup_ne (Or.inl (by decide)), e1, iup_ne (Or.inl (by decide))]
              exact w4⟩) (vI ((chV G R (o : Int) : Nat) : Int)) (vI (rgt G R (o : Int) k))
            rw [ef, show ((o + 1 : Nat) : Int) = (o : Int) + 1 by omega] at this
            rw [z5 205 _ (by decide), w3]
            exact this
          have keep : ¬ ((frS G R k o).1 = -1 ∨ (frS G R k o).2.1 < rgt G R (o : Int) k ∨ (rgt G R (o : Int) k = (frS G R k o).2.1 ∧ prP G R (o : Int) (chV G R (o : Int)) < (frS G R k o).2.2)) → ∀ u u' : AV, GO S0 104 21 [vR 204, vI (k : Int), vI (frS G R k o).2.1, vI (frS G R k o).2.2, vI S, vI ((o : Int) + 1), u, u'] [] L2 K := fun ht u u' => nx L2 F2 (by rw [ef, if_neg (fun z => ht z.2.2)]) g6 g7 g8 u u'
          rw [g6, s6, w3]
          by_cases h1 : (frS G R k o).1 = -1
          · rw [if_pos h1]; exact take (Or.inl h1)
          · rw [if_neg h1]
            by_cases h2 : (frS G R k o).2.1 < rgt G R (o : Int) k
            · rw [if_pos h2]; exact take (Or.inr (Or.inl h2))
            · rw [if_neg h2]
              by_cases h3 : rgt G R (o : Int) k = (frS G R k o).2.1
              · rw [if_pos h3]
                by_cases h4 : (frS G R k o).2.2 ≤ prP G R (o : Int) (chV G R (o : Int))
                · rw [if_pos h4]; exact ⟨by omega, keep (by omega) _ _⟩
                · rw [if_neg h4]; exact take (Or.inr (Or.inr ⟨h3, by omega⟩))
              · rw [if_neg h3]; exact ⟨by omega, keep (by omega) _ _⟩
  exact key (G 5).toNat 0 (Nat.zero_add _) I1 f1 (by rw [e1, iup_same]; rfl) (fun z => by exfalso; revert z; show ¬ (0 : Int) ≤ -1; omega) vU vU
theorem c_fillBy {k : Nat} {G : Nat → Int} {R : Nat → List Int} {J : IM} {K : Option AV → IM → Prop} (hG : GR G) (hV : VR G R) (hC : CF G R J) (hk : 1 ≤ k ∧ k ≤ 4) (h : ∀ J', FC J J' → CF G (fiF G k 12 R).1 J' → K (some (vI ((fiF G k 12 R).2 : Nat))) J') : CALL S0 107 [vR 204, vI (k : Int)] J K := by
  refine e107 ?_
  unfold D107_0
  have loop : ∀ f c : Nat, c + f = 12 → ∀ R L, VR G R → FC J L → CF G R L → L 204 6 = frs G R k → (0 ≤ frs G R k → L 204 7 = (chV G R (frs G R k) : Nat) ∧ L 204 8 = prQ G R (frs G R k) (chV G R (frs G R k))) → (∀ J', FC J J' → CF G (fiF G k f R).1 J' → K (some (vI (((fiF G k f R).2 + c : Nat) : Int))) J') → GO S0 107 7 [vR 204, vI (k : Int), vI (c : Int)] [] L K := by
    intro f
    induction f with
    | zero =>
      intro c e R L hV fL cL s6 s7 hK
      refine g107_7 _ _ L K ?_
      unfold D107_7
      have hh := hK L fL cL
      rw [show ((fiF G k 0 R).2 + c : Nat) = c from Nat.zero_add c] at hh
      split
      · exact hh
      · rw [if_pos (by omega)]; exact hh
    | succ f ih =>
      intro c e R L hV fL cL s6 s7 hK
      refine g107_7 _ _ L K ?_
      unfold D107_7 inR
      rw [s6]
      unfold fiF at hK
      have inv := @frS_inv G R k (G 5).toNat
      rw [show (frS G R k (G 5).toNat).1 = frs G R k from rfl] at inv
      by_cases c0 : frs G R k < 0
      · rw [if_pos c0] at hK
        rw [if_pos (by omega)]
        have hh := hK L fL cL
        rw [show ((R, 0) : (Nat → List Int) × Nat).2 + c = c from Nat.zero_add c] at hh
        exact hh
      · rw [if_neg c0] at hK
        rw [if_neg (by omega), if_neg (by omega)]
        obtain ⟨v1, p, pe, pl⟩ := VR_in1 hG hV (k := k) (by omega)
        obtain ⟨i1, i2, i3⟩ := frs_inv hG (R := R) (k := k) (by omega)
        have st := s7 (by omega)
        have cv := chV_lt (G := G) (R := R) (o := frs G R k)
        rw [st.1, st.2, pe]
        have room := VR_room hG hV cv ⟨by omega, i1⟩ i2
        refine k_ins rd29 cv cL.2.1 (by rw [cL.2.2 _ cv]; exact room) (by rw [cL.2.2 _ cv]; exact pl) fun L1 f1 s1 l1 => ⟨rfl, by omega, ?_⟩
        have c1 : CF G (inR1 G R (frs G R k)) L1 := ⟨BK_fp cL.1 (fun o k ho => f1 o k (by omega) (by omega)), s1, fun w hw => by
          rw [l1 w hw]
          unfold inR1
          rw [pe, Int.toNat_natCast, cL.2.2 _ cv]
          by_cases d : w = chV G R (frs G R k)
          · rw [d, setR_s, setR_s]
          · rw [setR_n d, setR_n d]; exact cL.2.2 w hw⟩
        have F1 : FC J L1 := FC_trans fL (fun o k a => f1 o k (by omega) (by omega))
        refine c_choose hG v1 c1 hk fun L2 f2 t6 t7 => ⟨rfl, ?_⟩
        have c2 := CF_fr c1 (J' := L2) (fun o k a => f2 o k (by omega) (by omega))
        have := ih (c + 1) (by omega) _ L2 v1 (FC_trans F1 (fun o k a => f2 o k (by omega) (by omega))) c2 t6 t7 (fun J' fJ cJ => by
          have := hK J' fJ cJ
          rw [show (fiF G k f (inR1 G R (frs G R k))).2 + (c + 1) = (fiF G k f (inR1 G R (frs G R k))).2 + 1 + c by omega]
          exact this)
        rw [show ((c + 1 : Nat) : Int) = (c : Int) + 1 by omega] at this
        exact this
  refine c_choose hG hV hC hk fun L f s6 s7 => ⟨rfl, ?_⟩
  exact loop 12 0 rfl R L hV (fun o k a => f o k (by omega) (by omega)) (CF_fr hC (fun o k a => f o k (by omega) (by omega))) s6 s7 h
theorem c_nearest {o : Int} {G : Nat → Int} {R : Nat → List Int} {J : IM} {K : Option AV → IM → Prop} (hG : GR G) (hR : R12 R) (hC : CF G R J) (ho : 0 ≤ o ∧ o < G 5) (h : K (some (vI (nrs G R o))) J) : CALL S0 110 [vR 204, vI o] J K := by
  refine e110 ?_
  unfold D110_0
  have hn := hG.1
  refine k_bits rd29 hC.2.1 (oc_of hR hC.2.2) fun S hS => ⟨_, rfl, ?_⟩
  have hS2 : ∀ o, o < 32 → (bt S o = true ↔ 0 ≤ vanF R (o : Int)) := fun o ho => by rw [hS.2 o ho, vanF_eq hC.2.2]
  have wy' : ∀ a : Nat, a < 12 → J (1 + 10 + o.toNat) a = wy G o (a : Int) := fun a ha => by
    have e := hC.1.2.2.2.2.1 o.toNat a (by omega) (by omega)
    rw [e]
    unfold dc
    rw [if_pos (by omega), if_pos (by omega), show ((o.toNat : Nat) : Int) = o by omega]
  have key : ∀ t k : Nat, k + t = (G 5).toNat → GO S0 110 13 [vR 204, vI o, vI (nrS G R o k), vI S, vI (k : Int)] [] J K := by
    intro t
    induction t with
    | zero =>
      intro k e
      refine g110_13 _ _ _ _ J K ?_
      unfold D110_13
      rw [hC.1.1, if_pos (by omega), show k = (G 5).toNat by omega]
      exact h
    | succ t ih =>
      intro k e
      refine g110_13 _ _ _ _ J K ?_
      unfold D110_13 inR
      rw [hC.1.1, if_neg (by omega)]
      have b := hS2 k (by omega)
      have b1 := @bt_1 S k (by omega)
      have := ih (k + 1) (by omega)
      rw [show ((k + 1 : Nat) : Int) = (k : Int) + 1 by omega] at this
      have ef : nrS G R o (k + 1) = if 0 ≤ vanF R (k : Int) ∧ (nrS G R o k = -1 ∨ wy G o (k : Int) < wy G o (nrS G R o k)) then (k : Int) else nrS G R o k := rfl
      by_cases c : 0 ≤ vanF R (k : Int)
      · rw [if_pos (b1.mpr (b.mpr c))]
        by_cases d : nrS G R o k = -1
        · rw [if_pos d]
          rw [ef, if_pos ⟨c, Or.inl d⟩] at this
          exact ⟨by omega, this⟩
        · rw [if_neg d]
          rcases nrS_inv (G := G) (R := R) (o := o) k with z | ⟨m, m1, m2, m3⟩
          · exact absurd z d
          · rw [m2] at ef d ⊢
            rw [Int.toNat_natCast, Int.toNat_natCast, wy' m (by omega), wy' k (by omega)]
            refine ⟨by omega, by omega, by omega, ?_⟩
            by_cases w : wy G o (m : Int) ≤ wy G o (k : Int)
            · rw [if_pos w]
              rw [ef, if_neg (fun z => by omega)] at this
              exact ⟨by omega, this⟩
            · rw [if_neg w]
              rw [ef, if_pos ⟨c, Or.inr (by omega)⟩] at this
              exact ⟨by omega, this⟩
      · rw [if_neg (fun z => c (b.mp (b1.mp z)))]
        rw [ef, if_neg (fun z => c z.1)] at this
        exact ⟨by omega, this⟩
  exact key (G 5).toNat 0 (Nat.zero_add _)
theorem c_ruin {o : Int} {n : Nat} {G : Nat → Int} {R : Nat → List Int} {J : IM} {K : Option AV → IM → Prop} (hG : GR G) (hV : VR G R) (hC : CF G R J) (ho : 0 ≤ o ∧ o < G 5) (hn : n ≤ 12) (h : ∀ J', FC J J' → CF G (ruF G o n R).1 J' → K (some (vI ((ruF G o n R).2 : Nat))) J') : CALL S0 109 [vR 204, vI o, vI (n : Int)] J K := by
  refine e109 ?_
  unfold D109_0
  have loop : ∀ f c : Nat, c + f = n → ∀ R L, VR G R → FC J L → CF G R L → (∀ J', FC J J' → CF G (ruF G o f R).1 J' → K (some (vI (((ruF G o f R).2 + c : Nat) : Int))) J') → GO S0 109 9 [vR 204, vI o, vI (n : Int), vI (c : Int), vI (nrs G R o)] [] L K := by
    intro f
    induction f with
    | zero =>
      intro c e R L hV fL cL hK
      refine g109_9 _ _ _ _ L K ?_
      unfold D109_9
      rw [if_pos (by omega)]
      have hh := hK L fL cL
      rw [show ((ruF G o 0 R).2 + c : Nat) = c from Nat.zero_add c] at hh
      exact hh
    | succ f ih =>
      intro c e R L hV fL cL hK
      refine g109_9 _ _ _ _ L K ?_
      unfold D109_9 inR
      rw [if_neg (by omega)]
      unfold ruF at hK
      rcases nrs_inv (R := R) (o := o) hG with z | ⟨z1, z2, z3⟩
      · rw [if_pos z]
        rw [if_pos (by omega)] at hK
        have hh := hK L fL cL
        rw [show ((R, 0) : (Nat → List Int) × Nat).2 + c = c from Nat.zero_add c] at hh
        exact hh
      · rw [if_neg (by omega)]
        rw [if_neg (by omega)] at hK
        refine c_del rd29 cL.2.1 cL.2.2 z3 fun L1 f1 s1 l1 => ⟨rfl, by omega, ?_⟩
        have c1 : CF G (outR R (nrs G R o)) L1 := ⟨BK_fp cL.1 (fun o k ho => f1 o k (by omega) (by omega)), s1, l1⟩
        have v1 := VR_out hG hV z3
        refine c_nearest hG (VR_R12 hG v1) c1 ho ⟨_, rfl, ?_⟩
        have := ih (c + 1) (by omega) _ L1 v1 (FC_trans fL (fun o k a => f1 o k (by omega) (by omega))) c1 (fun J' fJ cJ => by
          have := hK J' fJ cJ
          rw [show (ruF G o f (outR R (nrs G R o))).2 + (c + 1) = (ruF G o f (outR R (nrs G R o))).2 + 1 + c by omega]
          exact this)
        rw [show ((c + 1 : Nat) : Int) = (c : Int) + 1 by omega] at this
        exact this
  refine c_nearest hG (VR_R12 hG hV) hC ho ⟨_, rfl, ?_⟩
  exact loop n 0 (Nat.zero_add _) R J hV FC_refl hC h
