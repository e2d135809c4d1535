/-! level 2: class and model call by call: driven, latest, slack -/
theorem lvs_ge {G : Nat → Int} {v : Nat} {N : Nat → Int} {s : Int} (hG : GR G) : ∀ k, okN N (k + 1) → s ≤ lvs G v N s k
  | 0, h => by
    have h2 := nw_b hG (w := 4) (by omega) (h 0 (by omega))
    rw [show lvs G v N s 0 = s + nw G 4 (N 0) from rfl]
    omega
  | k + 1, h => by
    have h1 := lvs_ge (v := v) (s := s) hG k (fun i hi => h i (by omega))
    have h2 := nw_b hG (w := 4) (by omega) (h (k + 1) (by omega))
    have h4 := wy_b hG (h k (by omega)) (h (k + 1) (by omega))
    rw [show lvs G v N s (k + 1) = (if lvs G v N s k + wy G (N k) (N (k + 1)) < opn G v (N (k + 1)) then opn G v (N (k + 1)) else lvs G v N s k + wy G (N k) (N (k + 1))) + nw G 4 (N (k + 1)) from rfl]
    split <;> omega
theorem k_stopAt {r v i : Nat} {I : IM} {K : Option AV → IM → Prop} (hr : isRd r) (hv : v < 4) (hs : SZC I r) (ho : OC I r) (h : K (some (vI (cd (gN (LC I r v) (-1) (i + 1))))) I) : CALL S0 66 [vR r, vI (v : Int), vI (i : Int)] I K := by
  refine e66 hr ?_
  unfold D66_0
  have sz := hs v hv
  rw [if_neg (by omega), Int.toNat_natCast, Int.toNat_natCast]
  refine ⟨by omega, ?_⟩
  rw [gN_s] at h
  split
  · rename_i c
    rw [List.getElem?_eq_none (by rw [LC_len]; omega)] at h
    exact h
  · rename_i c
    have e := LC_get (I := I) (r := r) (v := v) (k := i) (by omega)
    have b := ho v hv _ (List.mem_of_getElem? e)
    rw [e] at h
    refine ⟨by omega, ?_⟩
    have e2 : cd ((some (I (r + 3 + v) i)).getD (-1)) = I (r + 3 + v) i := by
      show cd (I (r + 3 + v) i) = _
      unfold cd
      rw [if_neg (by omega)]
    rw [e2] at h
    exact h
theorem LC_cg {I J : IM} {r v : Nat} (h0 : J (r + 1) v = I (r + 1) v) (h1 : ∀ k, J (r + 3 + v) k = I (r + 3 + v) k) : LC J r v = LC I r v := LC_congr h0 (fun k _ => h1 k)
theorem k_driveTo {r v k : Nat} {G : Nat → Int} {I : IM} {K : Option AV → IM → Prop} (hr : isRd r) (hv : v < 4) (hG : GR G) (hB : BK I G) (hs : SZC I r) (ho : OC I r) (hk : (k : Int) ≤ I (r + 1) v) (h : ∀ J, (∀ o j, o ≠ 194 → J o j = I o j) → J 194 2 = cms G v (gN (LC I r v) (-1)) (G (103 + 3 * v)) (k + 1) → J 194 3 = bgs G v (gN (LC I r v) (-1)) (G (103 + 3 * v)) (k + 1) → J 194 4 = lvs G v (gN (LC I r v) (-1)) (G (103 + 3 * v)) (k + 1) → J 194 5 = lds G (gN (LC I r v) (-1)) ((LC I r v).length + 2) (k + 2) → K none J) : CALL S0 65 [vR 194, vR r, vI (v : Int), vI (k : Int)] I K := by
  refine e65 hr ?_
  unfold D65_0
  have hrr := rd_rng hr
  have sz := hs v hv
  have hll := @LC_len I r v
  have hfl := hB.2.2.2.2.2.1 v hv
  generalize hN : gN (LC I r v) (-1) = N at h
  have okn : ∀ n, okN N n := fun n => by rw [← hN]; exact gN_b (fun x hx => ho v hv x hx) n
  have n0 : N 0 = -1 := by rw [← hN, gN_0]
  have nL : N ((LC I r v).length + 1) = -1 := by rw [← hN, gN_s, List.getElem?_eq_none (by omega)]; rfl
  have hsb := hG.2.2.2.2 v hv
  generalize hS : G (103 + 3 * v) = s at h hsb
  rw [Int.toNat_natCast]
  refine ⟨by omega, fun I2 e2 I3 e3 => ?_⟩
  have nd : ∀ a, nw G a (-1) = 0 := fun a => by unfold nw; rw [if_neg (by omega)]
  have drive : ∀ j i : Nat, i + j = k + 1 → ∀ J : IM, (∀ o j, o ≠ 194 → J o j = I o j) → J 194 4 = lvs G v N s i → J 194 5 = lds G N ((LC I r v).length + 2) (i + 1) → (1 ≤ i → J 194 2 = cms G v N s i ∧ J 194 3 = bgs G v N s i) → ∀ u : AV, GO S0 65 71 [vR 194, vR r, vI (v : Int), vI (k : Int), vI (cd (N i)), vI (i : Int), u] [] J K := by
    intro j
    induction j with
    | zero =>
      intro i e J f j4 j5 jj u
      refine g65_71 r hr _ _ _ _ _ J K ?_
      unfold D65_71
      rw [if_pos (by omega)]
      have := jj (by omega)
      rw [show i = k + 1 by omega] at j4 j5 this
      exact h J f this.1 this.2 j4 j5
    | succ j ih =>
      intro i e J f j4 j5 jj u
      refine g65_71 r hr _ _ _ _ _ J K ?_
      unfold D65_71 inR
      rw [if_neg (by omega)]
      have eL : LC J r v = LC I r v := LC_cg (f _ _ (by omega)) (fun k => f _ _ (by omega))
      refine k_stopAt hr hv (fun w hw => by rw [f _ _ (by omega)]; exact hs w hw) (fun w hw x hx => ho w hw x (by rw [← LC_cg (f (r + 1) w (by omega)) (fun k => f (r + 3 + w) k (by omega))]; exact hx)) ⟨_, rfl, ?_⟩
      rw [eL, hN]
      have ci := cd_r (okn (i + 1) i (by omega))
      have cj := cd_r (okn (i + 2) (i + 1) (by omega))
      have w := wy_b hG (okn (i + 1) i (by omega)) (okn (i + 2) (i + 1) (by omega))
      have l := lvs_b (N := N) hG hv (s := s) (by omega) i (okn _)
      have lg := lvs_ge (v := v) (N := N) (s := s) hG i (okn _)
      have n4 := nw_b hG (w := 4) (by omega) (okn (i + 2) (i + 1) (by omega))
      have n5 := nw_b hG (w := 5) (by omega) (okn (i + 2) (i + 1) (by omega))
      have n6 := nw_b hG (w := 6) (by omega) (okn (i + 2) (i + 1) (by omega))
      have op := opn_b hG hv (okn (i + 2) (i + 1) (by omega))
      have eW : J (1 + 10 + (cd (N i)).toNat) (cd (N (i + 1))).toNat = wy G (N i) (N (i + 1)) := by
        rw [f _ _ (by omega), hB.2.2.2.2.1 _ _ (by omega) (by omega), wy_dc (okn (i + 1) i (by omega)) (okn (i + 2) (i + 1) (by omega))]
      have eK : ∀ a, a = 4 ∨ a = 5 ∨ a = 6 → I (2 + a) (cd (N (i + 1))).toNat = nw G a (N (i + 1)) := fun a ha => bk_w hB ha (okn (i + 2) (i + 1) (by omega))
      have e6 : I 6 (cd (N (i + 1))).toNat = nw G 4 (N (i + 1)) := eK 4 (by omega)
      have e7 : I 7 (cd (N (i + 1))).toNat = nw G 5 (N (i + 1)) := eK 5 (by omega)
      have e8 : I 8 (cd (N (i + 1))).toNat = nw G 6 (N (i + 1)) := eK 6 (by omega)
      have eC : cms G v N s (i + 1) = lvs G v N s i + wy G (N i) (N (i + 1)) := rfl
      have eB : bgs G v N s (i + 1) = if cms G v N s (i + 1) < opn G v (N (i + 1)) then opn G v (N (i + 1)) else cms G v N s (i + 1) := rfl
      have eO : (if cms G v N s (i + 1) < I 4 (cd (N (i + 1))).toNat then I 4 (cd (N (i + 1))).toNat else cms G v N s (i + 1)) = bgs G v N s (i + 1) := by
        rw [eB]
        by_cases z : N (i + 1) < 0
        · have z2 : opn G v (N (i + 1)) = s := by unfold opn; rw [if_neg (by omega)]; exact hS
          have z3 : I 4 (cd (N (i + 1))).toNat = 0 := by unfold cd; rw [if_pos z]; exact hB.2.2.2.1.1
          rw [z2, z3, if_neg (by omega), if_neg (by omega)]
        · have z3 : I 4 (cd (N (i + 1))).toNat = opn G v (N (i + 1)) := by
            unfold cd opn
            rw [if_neg z, if_pos (by omega)]
            exact hB.2.1 _ (by have := okn (i + 2) (i + 1) (by omega); omega) 2 (by omega)
          rw [z3]
      have el := @bl_s G v N s (i + 1)
      have hds := sms_b (w := 5) (by omega) hG (N := N) ((LC I r v).length + 2) (okn _)
      have hd1 := sms_b (w := 5) (by omega) hG (N := N) (i + 1) (okn _)
      have hd2 := sms_b (w := 6) (by omega) hG (N := N) (i + 1) (okn _)
      have eD : lds G N ((LC I r v).length + 2) (i + 1) = sms G 5 N ((LC I r v).length + 2) + sms G 6 N (i + 1) - sms G 5 N (i + 1) := rfl
      have eD2 : lds G N ((LC I r v).length + 2) (i + 1) + (nw G 6 (N (i + 1)) - nw G 5 (N (i + 1))) = lds G N ((LC I r v).length + 2) (i + 1 + 1) := by
        unfold lds
        rw [show sms G 6 N (i + 1 + 1) = sms G 6 N (i + 1) + nw G 6 (N (i + 1)) from rfl, show sms G 5 N (i + 1 + 1) = sms G 5 N (i + 1) + nw G 5 (N (i + 1)) from rfl]
        omega
      rw [eW, j4, ← eC]
      have bB := bgs_b (N := N) hG hv (s := s) (by omega) (i + 1) (okn _)
      have bL := lvs_b (N := N) hG hv (s := s) (by omega) (i + 1) (okn _)
      refine ⟨by omega, by omega, by omega, fun I7 e7' I8 e8' => ?_⟩
      have f7 : ∀ o j, o ≠ 194 → I7 o j = I o j := fun o j a => by rw [e7', iup_ne (Or.inl a)]; exact f o j a
      have s7 : I7 194 2 = cms G v N s (i + 1) := by rw [e7', iup_same]
      rw [s7, f7 4 _ (by decide), eO] at e8'
      have f8 : ∀ o j, o ≠ 194 → I8 o j = I o j := fun o j a => by rw [e8', iup_ne (Or.inl a)]; exact f7 o j a
      have s8 : I8 194 3 = bgs G v N s (i + 1) := by rw [e8', iup_same]
      rw [s8, f8 6 _ (by decide), e6, ← el]
      refine ⟨by omega, fun I10 e10 => ?_⟩
      have f10 : ∀ o j, o ≠ 194 → I10 o j = I o j := fun o j a => by rw [e10, iup_ne (Or.inl a)]; exact f8 o j a
      have s10 : I10 194 5 = lds G N ((LC I r v).length + 2) (i + 1) := by rw [e10, iup_ne (Or.inr (by decide)), e8', iup_ne (Or.inr (by decide)), e7', iup_ne (Or.inr (by decide))]; exact j5
      rw [s10, f10 8 _ (by decide), f10 7 _ (by decide), e7, e8, eD2]
      refine ⟨by omega, by omega, fun I13 e13 => ⟨by omega, ?_⟩⟩
      have := ih (i + 1) (by omega) I13 (fun o j a => by rw [e13, iup_ne (Or.inl a)]; exact f10 o j a) (by rw [e13, iup_ne (Or.inr (by decide)), e10, iup_same]) (by rw [e13, iup_same]) (fun _ => ⟨by rw [e13, iup_ne (Or.inr (by decide)), e10, iup_ne (Or.inr (by decide)), e8', iup_ne (Or.inr (by decide)), s7], by rw [e13, iup_ne (Or.inr (by decide)), e10, iup_ne (Or.inr (by decide)), s8]⟩) (vI (cd (N (i + 1))))
      rw [show ((i + 1 : Nat) : Int) = (i : Int) + 1 by omega] at this
      exact this
  have aboard : ∀ j i : Nat, i + j = (LC I r v).length → ∀ J : IM, (∀ o j, o ≠ 194 → J o j = I o j) → J 194 4 = s → J 194 5 = sms G 5 N (i + 1) → GO S0 65 21 [vR 194, vR r, vI (v : Int), vI (k : Int), vI (i : Int), vU, vU] [] J K := by
    intro j
    induction j with
    | zero =>
      intro i e J f j4 j5
      refine g65_21 r hr _ _ _ _ _ J K ?_
      unfold D65_21
      rw [Int.toNat_natCast, f _ _ (by omega), if_pos (by omega)]
      refine ⟨by omega, ?_⟩
      have := drive (k + 1) 0 (Nat.zero_add _) J f (by rw [j4, show lvs G v N s 0 = s + nw G 4 (N 0) from rfl, n0, nd]; omega) (by
        unfold lds
        rw [j5, show (LC I r v).length + 2 = (LC I r v).length + 1 + 1 from rfl, show sms G 5 N ((LC I r v).length + 1 + 1) = sms G 5 N ((LC I r v).length + 1) + nw G 5 (N ((LC I r v).length + 1)) from rfl, nL, nd, show sms G 6 N (0 + 1) = 0 + nw G 6 (N 0) from rfl, show sms G 5 N (0 + 1) = 0 + nw G 5 (N 0) from rfl, n0, nd, nd, show i = (LC I r v).length by omega]
        omega) (fun z => by omega) vU
      rw [n0] at this
      exact this
    | succ j ih =>
      intro i e J f j4 j5
      refine g65_21 r hr _ _ _ _ _ J K ?_
      unfold D65_21 inR
      have eN : N (i + 1) = I (r + 3 + v) i := by rw [← hN, gN_s, LC_get (by omega)]; rfl
      have b := ho v hv _ (List.mem_of_getElem? (LC_get (I := I) (r := r) (v := v) (k := i) (by omega)))
      have e7 : I 7 (I (r + 3 + v) i).toNat = nw G 5 (N (i + 1)) := by
        have := bk_w hB (w := 5) (by omega) (a := N (i + 1)) (by omega)
        unfold cd at this
        rw [if_neg (by omega), eN] at this
        rw [eN]
        exact this
      have hd1 := sms_b (w := 5) (by omega) hG (N := N) (i + 1) (okn _)
      have n5 := nw_b hG (w := 5) (by omega) (okn (i + 2) (i + 1) (by omega))
      rw [Int.toNat_natCast, Int.toNat_natCast, f _ _ (by omega), if_neg (by omega), f (r + 3 + v) i (by omega), f 7 _ (by decide), e7, j5]
      refine ⟨by omega, by omega, by omega, by omega, fun I6 e6 => ⟨by omega, ?_⟩⟩
      have := ih (i + 1) (by omega) I6 (fun o j a => by rw [e6, iup_ne (Or.inl a)]; exact f o j a) (by rw [e6, iup_ne (Or.inr (by decide))]; exact j4) (by rw [e6, iup_same]; rfl)
      rw [show ((i + 1 : Nat) : Int) = (i : Int) + 1 by omega] at this
      exact this
  refine aboard _ 0 (Nat.zero_add _) I3 (fun o j a => by rw [e3, iup_ne (Or.inl a), e2, iup_ne (Or.inl a)]) (by rw [e3, iup_ne (Or.inr (by decide)), e2, iup_same, show I 26 v = G (103 + 3 * v) from hfl.2.1]; exact hS) (by rw [e3, iup_same, show sms G 5 N (0 + 1) = 0 + nw G 5 (N 0) from rfl, n0, nd]; rfl)
theorem k_latestAt {r v k : Nat} {G : Nat → Int} {I : IM} {K : Option AV → IM → Prop} (hr : isRd r) (hv : v < 4) (hG : GR G) (hB : BK I G) (hs : SZC I r) (ho : OC I r) (hk : (k : Int) ≤ I (r + 1) v) (h : K (some (vI (lts G v (gN (LC I r v) (-1)) ((LC I r v).length + 1) ((LC I r v).length - k)))) I) : CALL S0 68 [vR 194, vR r, vI (v : Int), vI (k : Int)] I K := by
  refine e68 hr ?_
  unfold D68_0 inR
  have hrr := rd_rng hr
  have sz := hs v hv
  have hll := @LC_len I r v
  have hfl := hB.2.2.2.2.2.1 v hv
  generalize hn : (LC I r v).length = n at h hll
  generalize hN : gN (LC I r v) (-1) = N at h
  have okn : ∀ n, okN N n := fun n => by rw [← hN]; exact gN_b (fun x hx => ho v hv x hx) n
  have nL : N (n + 1) = -1 := by rw [← hN, gN_s, List.getElem?_eq_none (by omega)]; rfl
  rw [Int.toNat_natCast]
  refine ⟨by omega, by omega, ?_⟩
  have key : ∀ j d : Nat, d + j = n - k → ∀ u u' : AV, GO S0 68 25 [vR 194, vR r, vI (v : Int), vI (k : Int), vI (lts G v N (n + 1) d), vI (cd (N (n + 1 - d))), vI ((n : Int) - 1 - d), u, u'] [] I K := by
    intro j
    induction j with
    | zero =>
      intro d e u u'
      refine g68_25 r hr _ _ _ _ _ _ _ I K ?_
      unfold D68_25
      rw [if_pos (by omega), show d = n - k by omega]
      exact h
    | succ j ih =>
      intro d e u u'
      refine g68_25 r hr _ _ _ _ _ _ _ I K ?_
      unfold D68_25 inR
      rw [if_neg (by omega)]
      obtain ⟨i, hi⟩ : ∃ i : Nat, n = i + 1 + d := ⟨n - 1 - d, by omega⟩
      rw [show (n : Int) - 1 - d = (i : Int) by omega]
      refine k_stopAt hr hv hs ho ⟨_, rfl, ?_⟩
      rw [hN, show n + 1 - d = i + 2 by omega]
      have ci := cd_r (okn (i + 2) (i + 1) (by omega))
      have cj := cd_r (okn (i + 3) (i + 2) (by omega))
      have w := wy_b hG (okn (i + 2) (i + 1) (by omega)) (okn (i + 3) (i + 2) (by omega))
      have n4 := nw_b hG (w := 4) (by omega) (okn (i + 2) (i + 1) (by omega))
      have l := lts_b (v := v) (e := n + 1) (N := N) hG hv (okn _) d (by omega)
      have eW : I (1 + 10 + (cd (N (i + 1))).toNat) (cd (N (i + 2))).toNat = wy G (N (i + 1)) (N (i + 2)) := by
        rw [hB.2.2.2.2.1 _ _ (by omega) (by omega), wy_dc (okn (i + 2) (i + 1) (by omega)) (okn (i + 3) (i + 2) (by omega))]
      have e6 : I 6 (cd (N (i + 1))).toNat = nw G 4 (N (i + 1)) := bk_w hB (w := 4) (by omega) (okn (i + 2) (i + 1) (by omega))
      have eN : N (i + 1) = I (r + 3 + v) i := by rw [← hN, gN_s, LC_get (by omega)]; rfl
      have b := ho v hv _ (List.mem_of_getElem? (LC_get (I := I) (r := r) (v := v) (k := i) (by omega)))
      have e5 : I 5 (cd (N (i + 1))).toNat = cls G v (N (i + 1)) := by
        unfold cd cls
        rw [if_neg (by omega), if_pos (by omega)]
        exact hB.2.1 _ (by omega) 3 (by omega)
      rw [eW, e6, e5]
      refine ⟨by omega, by omega, by omega, by omega, by omega, ?_⟩
      have := ih (d + 1) (by omega) (vI (cd (N (i + 1)))) (vI (lts G v N (n + 1) d - wy G (N (i + 1)) (N (i + 2)) - nw G 4 (N (i + 1))))
      rw [show lts G v N (n + 1) (d + 1) = if lts G v N (n + 1) d - wy G (N (n + 1 - d - 1)) (N (n + 1 - d)) - nw G 4 (N (n + 1 - d - 1)) < cls G v (N (n + 1 - d - 1)) then lts G v N (n + 1) d - wy G (N (n + 1 - d - 1)) (N (n + 1 - d)) - nw G 4 (N (n + 1 - d - 1)) else cls G v (N (n + 1 - d - 1)) from rfl, show n + 1 - (d + 1) = i + 1 by omega, show n + 1 - d - 1 = i + 1 by omega, show n + 1 - d = i + 2 by omega, show (n : Int) - 1 - ((d + 1 : Nat) : Int) = (i : Int) + (-1) by omega] at this
      exact this
  have := key (n - k) 0 (Nat.zero_add _) vU vU
  rw [show lts G v N (n + 1) 0 = cls G v (N (n + 1)) from rfl, show n + 1 - 0 = n + 1 from rfl, nL, show (n : Int) - 1 - ((0 : Nat) : Int) = I (r + 1) v - 1 by omega, show cls G v (-1) = I 27 v from hfl.2.2.symm] at this
  exact this
theorem k_isStop {x1 x2 : Int} {I : IM} {K : Option AV → IM → Prop} (h : K (some (vI (b2i ((0 ≤ x1 ∧ x1 ≤ 3) ∧ 0 ≤ x2 ∧ x2 ≤ I 30 x1.toNat)))) I) : CALL S0 64 [vR 0, vI x1, vI x2] I K := by
  refine e64 ?_
  unfold D64_0
  refine k_isVan ⟨_, rfl, ?_⟩
  by_cases c : 0 ≤ x1 ∧ x1 ≤ 3
  · rw [b2i_t c, if_neg (by decide)]
    refine ⟨by omega, k_within ⟨_, rfl, ?_⟩⟩
    by_cases c2 : 0 ≤ x2 ∧ x2 ≤ I 30 x1.toNat
    · rw [b2i_t ⟨c, c2⟩] at h
      rw [b2i_t c2, if_neg (by decide)]
      exact h
    · rw [b2i_f (fun z => c2 z.2)] at h
      rw [b2i_f c2, if_pos rfl]
      exact h
  · rw [b2i_f (fun z => c z.1)] at h
    rw [b2i_f c, if_pos rfl]
    exact h
theorem m_isStop {x1 x2 : Int} {I : IM} {K : Option AV → IM → Prop} (h : K (some (vI (b2i ((0 ≤ x1 ∧ x1 ≤ 3) ∧ 0 ≤ x2 ∧ x2 ≤ I 238 (114 + 13 * x1.toNat))))) I) : CALL S0 181 [vR 237, vI x1, vI x2] I K := by
  refine e181 ?_
  unfold D181_0
  refine m_isVan ⟨_, rfl, ?_⟩
  by_cases c : 0 ≤ x1 ∧ x1 ≤ 3
  · rw [b2i_t c, if_neg (by decide)]
    refine m_stopsOf (by omega) ⟨_, rfl, m_isIn ⟨_, rfl, ?_⟩⟩
    by_cases c2 : 0 ≤ x2 ∧ x2 ≤ I 238 (114 + 13 * x1.toNat)
    · rw [b2i_t ⟨c, c2⟩] at h
      rw [b2i_t c2, if_neg (by decide)]
      exact h
    · rw [b2i_f (fun z => c2 z.2)] at h
      rw [b2i_f c2, if_pos rfl]
      exact h
  · rw [b2i_f (fun z => c z.1)] at h
    rw [b2i_f c, if_pos rfl]
    exact h
theorem m_drivesTo {v k : Nat} {I : IM} {K : Option AV → IM → Prop} (h : REL I) (hv : v < 4) (hk : (k : Int) ≤ I 238 (114 + 13 * v)) (hK : ∀ J, FS I J → ND J (gN (LM I 238 114 v) (-1)) ((LM I 238 114 v).length + 2) → J 237 9 = cms (I 238) v (gN (LM I 238 114 v) (-1)) (I 238 (103 + 3 * v)) (k + 1) → J 237 10 = bgs (I 238) v (gN (LM I 238 114 v) (-1)) (I 238 (103 + 3 * v)) (k + 1) → J 237 11 = lvs (I 238) v (gN (LM I 238 114 v) (-1)) (I 238 (103 + 3 * v)) (k + 1) → K none J) : CALL S0 182 [vR 237, vI (v : Int), vI (k : Int)] I K := by
  refine e182 ?_
  unfold D182_0 inR
  have ll := LM_le h.2.1.2.1 hv
  have le := @LM_len I 238 114 v
  have hG := h.1.1
  have hsb := hG.2.2.2.2 v hv
  refine m_lk h fun J1 f1 s1 o1 l1 => ⟨rfl, m_wholeOf s0_241 (by decide) (by decide) hv s1 fun J2 f2 n2 => ⟨rfl, ?_⟩⟩
  rw [l1 v hv] at n2
  have g1 := fs238 f1
  have g2 : J2 238 = I 238 := (FD_o f2 (by decide) (by decide)).trans g1
  refine m_openOf hv (by omega) ⟨_, rfl, by omega, ?_⟩
  rw [g2, show opn (I 238) v (-1) = I 238 (103 + 3 * v) from rfl]
  refine m_drives (k := k + 1) hv (by rw [g2]; exact hG) (by omega) n2 (gN_b (fun x hx => rl_om h v hv x hx) _) (by omega) (by omega) fun J3 f3 n3 c9 c10 c11 c12 => ⟨rfl, ?_⟩
  rw [g2] at c9 c10 c11
  exact hK J3 (FS_trans f1 (FS_fd (FD_trans f2 f3))) n3 c9 c10 c11
theorem m_loadBehind {k n : Nat} {N : Nat → Int} {x1 : Int} {I : IM} {K : Option AV → IM → Prop} (hG : GR (I 238)) (hn : n ≤ 14) (hN : ND I N n) (hk : okN N n) (h0 : N 0 = -1) (hkn : k + 1 < n) (h : K (some (vI (lds (I 238) N n (k + 2)))) I) : CALL S0 184 [vR 237, vI x1, vI (k : Int)] I K := by
  refine e184 ?_
  unfold D184_0
  refine m_sumOf (w := 5) (by omega) hG hn hN hk ⟨_, rfl, ?_⟩
  have key : ∀ j i : Nat, i + j = k + 2 → GO S0 184 9 [vR 237, vI x1, vI (k : Int), vI (lds (I 238) N n i), vI (i : Int)] [] I K := by
    intro j
    induction j with
    | zero =>
      intro i e
      refine g184_9 _ _ _ _ I K ?_
      unfold D184_9 inR
      rw [if_pos (by omega)]
      rw [show i = k + 2 by omega]
      exact ⟨by omega, h⟩
    | succ j ih =>
      intro i e
      refine g184_9 _ _ _ _ I K ?_
      unfold D184_9 inR
      have h2 := sms_b (w := 5) (by omega) hG n hk
      have h3 := sms_b (w := 6) (by omega) hG i (fun i hi => hk i (by omega))
      have h4 := sms_b (w := 5) (by omega) hG i (fun i hi => hk i (by omega))
      have h5 := nw_b hG (w := 5) (by omega) (hk i (by omega))
      have h6 := nw_b hG (w := 6) (by omega) (hk i (by omega))
      have h7 := hk i (by omega)
      have e1 : lds (I 238) N n (i + 1) = lds (I 238) N n i + (nw (I 238) 6 (N i) - nw (I 238) 5 (N i)) := by
        unfold lds
        rw [show sms (I 238) 6 N (i + 1) = sms (I 238) 6 N i + nw (I 238) 6 (N i) from rfl, show sms (I 238) 5 N (i + 1) = sms (I 238) 5 N i + nw (I 238) 5 (N i) from rfl]
        omega
      have e2 : lds (I 238) N n i = sms (I 238) 5 N n + sms (I 238) 6 N i - sms (I 238) 5 N i := rfl
      have := ih (i + 1) (by omega)
      rw [show ((i + 1 : Nat) : Int) = (i : Int) + 1 by omega, e1] at this
      rw [if_neg (by omega), Int.toNat_natCast, hN.2 i (by omega)]
      refine ⟨by omega, by omega, ?_⟩
      unfold nw at h5 h6 this
      split
      · rename_i c
        rw [if_pos c] at h5 h6
        rw [if_pos c, if_pos c] at this
        refine m_ofOrder (x1 := N i) (x2 := 6) (by omega) (by omega) ⟨_, rfl, ?_⟩
        rw [hN.2 i (by omega)]
        refine m_ofOrder (x1 := N i) (x2 := 5) (by omega) (by omega) ⟨_, rfl, ?_⟩
        rw [show (6 : Int).toNat = 6 from rfl, show (5 : Int).toNat = 5 from rfl]
        exact ⟨by omega, by omega, by omega, this⟩
      · rename_i c
        rw [if_neg c, if_neg c] at this
        exact ⟨by omega, by omega, this⟩
  have k1 := key (k + 1) 1 (by omega)
  have e0 : lds (I 238) N n 1 = sms (I 238) 5 N n := by
    unfold lds
    rw [show sms (I 238) 6 N 1 = 0 + nw (I 238) 6 (N 0) from rfl, show sms (I 238) 5 N 1 = 0 + nw (I 238) 5 (N 0) from rfl, h0]
    unfold nw
    rw [if_neg (by omega), if_neg (by omega)]
    omega
  rw [e0] at k1
  exact k1
theorem fs_194 {I J : IM} (f : ∀ o j, o ≠ 194 → J o j = I o j) : FS I J := fun o k a => f o k (fun e => a (by unfold SCR; omega))
theorem s_driven {x1 x2 x3 : Int} {I : IM} (h : REL I) : BOTH 63 180 [vI x1, vI x2, vI x3] I := by
  by_cases c0 : (0 ≤ x1 ∧ x1 ≤ 3) ∧ 0 ≤ x2 ∧ x2 ≤ I 30 x1.toNat
  · have es : I 30 x1.toNat = I 238 (114 + 13 * x1.toNat) := rr_sz h.2.1 (by omega)
    by_cases c1 : 0 ≤ x3 ∧ x3 ≤ 4
    · obtain ⟨v, rfl⟩ : ∃ v : Nat, x1 = v := ⟨x1.toNat, by omega⟩
      obtain ⟨k, rfl⟩ : ∃ k : Nat, x2 = k := ⟨x2.toNat, by omega⟩
      have hv : v < 4 := by omega
      rw [Int.toNat_natCast] at c0 es
      have ll := LM_le h.2.1.2.1 hv
      have le := @LM_len I 238 114 v
      have hG := h.1.1
      have okn : ∀ n, okN (gN (LM I 238 114 v) (-1)) n := fun n => gN_b (fun x hx => rl_om h v hv x hx) n
      have hsb := hG.2.2.2.2 v hv
      have b1 := bgs_b (N := gN (LM I 238 114 v) (-1)) hG hv (s := I 238 (103 + 3 * v)) (by omega) (k + 1) (okn _)
      have b2 := lvs_b (N := gN (LM I 238 114 v) (-1)) hG hv (s := I 238 (103 + 3 * v)) (by omega) (k + 1) (okn _)
      have b3 := lvs_b (N := gN (LM I 238 114 v) (-1)) hG hv (s := I 238 (103 + 3 * v)) (by omega) k (okn _)
      have b4 := wy_b hG (okn (k + 1) k (by omega)) (okn (k + 2) (k + 1) (by omega))
      have b5 : cms (I 238) v (gN (LM I 238 114 v) (-1)) (I 238 (103 + 3 * v)) (k + 1) = lvs (I 238) v (gN (LM I 238 114 v) (-1)) (I 238 (103 + 3 * v)) k + wy (I 238) (gN (LM I 238 114 v) (-1) k) (gN (LM I 238 114 v) (-1) (k + 1)) := rfl
      rcases (show x3 = 0 ∨ x3 = 1 ∨ x3 = 2 ∨ x3 = 3 ∨ x3 = 4 by omega) with e | e | e | e | e <;> subst e
      · refine both_q (cms (I 238) v (gN (LM I 238 114 v) (-1)) (I 238 (103 + 3 * v)) (k + 1)) h (fun K hK => ?_) (fun J f hJ K hK => ?_)
        · refine e63 ?_
          unfold D63_0
          refine k_isStop ⟨_, rfl, ?_⟩
          rw [Int.toNat_natCast, b2i_t (by omega), if_neg (by decide)]
          refine k_within ⟨_, rfl, ?_⟩
          rw [show b2i ((0 : Int) ≤ 0 ∧ (0 : Int) ≤ 4) = 1 from rfl, if_neg (by decide)]
          refine k_driveTo (r := 29) rd29 hv hG h.1.2 h.2.1.1 (rl_oc h) c0.2.2 fun J f c2 c3 c4 c5 => ⟨rfl, ?_⟩
          rw [rl_eq h hv] at c2 c3 c4 c5
          rw [if_pos rfl, c2]
          exact hK J (fs_194 f)
        · have e5 : J 238 = I 238 := fs238 f
          refine e180 ?_
          unfold D180_0
          refine m_isStop ⟨_, rfl, ?_⟩
          rw [e5, Int.toNat_natCast, b2i_t (by omega), if_neg (by decide)]
          refine m_isIn ⟨_, rfl, ?_⟩
          rw [show b2i ((0 : Int) ≤ 0 ∧ (0 : Int) ≤ 4) = 1 from rfl, if_neg (by decide)]
          refine m_drivesTo hJ hv (by rw [e5]; omega) fun J2 f2 n2 c2 c3 c4 => ⟨rfl, ?_⟩
          rw [e5, fs_LM f] at c2 c3 c4
          rw [fs_LM f] at n2
          rw [if_pos rfl, c2]
          exact hK J2 f2
      · refine both_q (bgs (I 238) v (gN (LM I 238 114 v) (-1)) (I 238 (103 + 3 * v)) (k + 1) - cms (I 238) v (gN (LM I 238 114 v) (-1)) (I 238 (103 + 3 * v)) (k + 1)) h (fun K hK => ?_) (fun J f hJ K hK => ?_)
        · refine e63 ?_
          unfold D63_0
          refine k_isStop ⟨_, rfl, ?_⟩
          rw [Int.toNat_natCast, b2i_t (by omega), if_neg (by decide)]
          refine k_within ⟨_, rfl, ?_⟩
          rw [show b2i ((0 : Int) ≤ 1 ∧ (1 : Int) ≤ 4) = 1 from rfl, if_neg (by decide)]
          refine k_driveTo (r := 29) rd29 hv hG h.1.2 h.2.1.1 (rl_oc h) c0.2.2 fun J f c2 c3 c4 c5 => ⟨rfl, ?_⟩
          rw [rl_eq h hv] at c2 c3 c4 c5
          rw [if_neg (by decide), if_pos rfl, c3, c2]
          unfold inR
          refine ⟨by omega, ?_⟩
          exact hK J (fs_194 f)
        · have e5 : J 238 = I 238 := fs238 f
          refine e180 ?_
          unfold D180_0
          refine m_isStop ⟨_, rfl, ?_⟩
          rw [e5, Int.toNat_natCast, b2i_t (by omega), if_neg (by decide)]
          refine m_isIn ⟨_, rfl, ?_⟩
          rw [show b2i ((0 : Int) ≤ 1 ∧ (1 : Int) ≤ 4) = 1 from rfl, if_neg (by decide)]
          refine m_drivesTo hJ hv (by rw [e5]; omega) fun J2 f2 n2 c2 c3 c4 => ⟨rfl, ?_⟩
          rw [e5, fs_LM f] at c2 c3 c4
          rw [fs_LM f] at n2
          rw [if_neg (by decide), if_pos rfl, c3, c2]
          unfold inR
          exact ⟨by omega, hK J2 f2⟩
      · refine both_q (bgs (I 238) v (gN (LM I 238 114 v) (-1)) (I 238 (103 + 3 * v)) (k + 1)) h (fun K hK => ?_) (fun J f hJ K hK => ?_)
        · refine e63 ?_
          unfold D63_0
          refine k_isStop ⟨_, rfl, ?_⟩
          rw [Int.toNat_natCast, b2i_t (by omega), if_neg (by decide)]
          refine k_within ⟨_, rfl, ?_⟩
          rw [show b2i ((0 : Int) ≤ 2 ∧ (2 : Int) ≤ 4) = 1 from rfl, if_neg (by decide)]
          refine k_driveTo (r := 29) rd29 hv hG h.1.2 h.2.1.1 (rl_oc h) c0.2.2 fun J f c2 c3 c4 c5 => ⟨rfl, ?_⟩
          rw [rl_eq h hv] at c2 c3 c4 c5
          rw [if_neg (by decide), if_neg (by decide), if_pos rfl, c3]
          exact hK J (fs_194 f)
        · have e5 : J 238 = I 238 := fs238 f
          refine e180 ?_
          unfold D180_0
          refine m_isStop ⟨_, rfl, ?_⟩
          rw [e5, Int.toNat_natCast, b2i_t (by omega), if_neg (by decide)]
          refine m_isIn ⟨_, rfl, ?_⟩
          rw [show b2i ((0 : Int) ≤ 2 ∧ (2 : Int) ≤ 4) = 1 from rfl, if_neg (by decide)]
          refine m_drivesTo hJ hv (by rw [e5]; omega) fun J2 f2 n2 c2 c3 c4 => ⟨rfl, ?_⟩
          rw [e5, fs_LM f] at c2 c3 c4
          rw [fs_LM f] at n2
          rw [if_neg (by decide), if_neg (by decide), if_pos rfl, c3]
          exact hK J2 f2
      · refine both_q (lvs (I 238) v (gN (LM I 238 114 v) (-1)) (I 238 (103 + 3 * v)) (k + 1)) h (fun K hK => ?_) (fun J f hJ K hK => ?_)
        · refine e63 ?_
          unfold D63_0
          refine k_isStop ⟨_, rfl, ?_⟩
          rw [Int.toNat_natCast, b2i_t (by omega), if_neg (by decide)]
          refine k_within ⟨_, rfl, ?_⟩
          rw [show b2i ((0 : Int) ≤ 3 ∧ (3 : Int) ≤ 4) = 1 from rfl, if_neg (by decide)]
          refine k_driveTo (r := 29) rd29 hv hG h.1.2 h.2.1.1 (rl_oc h) c0.2.2 fun J f c2 c3 c4 c5 => ⟨rfl, ?_⟩
          rw [rl_eq h hv] at c2 c3 c4 c5
          rw [if_neg (by decide), if_neg (by decide), if_neg (by decide), if_pos rfl, c4]
          exact hK J (fs_194 f)
        · have e5 : J 238 = I 238 := fs238 f
          refine e180 ?_
          unfold D180_0
          refine m_isStop ⟨_, rfl, ?_⟩
          rw [e5, Int.toNat_natCast, b2i_t (by omega), if_neg (by decide)]
          refine m_isIn ⟨_, rfl, ?_⟩
          rw [show b2i ((0 : Int) ≤ 3 ∧ (3 : Int) ≤ 4) = 1 from rfl, if_neg (by decide)]
          refine m_drivesTo hJ hv (by rw [e5]; omega) fun J2 f2 n2 c2 c3 c4 => ⟨rfl, ?_⟩
          rw [e5, fs_LM f] at c2 c3 c4
          rw [fs_LM f] at n2
          rw [if_neg (by decide), if_neg (by decide), if_neg (by decide), if_pos rfl, c4]
          exact hK J2 f2
      · refine both_q (lds (I 238) (gN (LM I 238 114 v) (-1)) ((LM I 238 114 v).length + 2) (k + 2)) h (fun K hK => ?_) (fun J f hJ K hK => ?_)
        · refine e63 ?_
          unfold D63_0
          refine k_isStop ⟨_, rfl, ?_⟩
          rw [Int.toNat_natCast, b2i_t (by omega), if_neg (by decide)]
          refine k_within ⟨_, rfl, ?_⟩
          rw [show b2i ((0 : Int) ≤ 4 ∧ (4 : Int) ≤ 4) = 1 from rfl, if_neg (by decide)]
          refine k_driveTo (r := 29) rd29 hv hG h.1.2 h.2.1.1 (rl_oc h) c0.2.2 fun J f c2 c3 c4 c5 => ⟨rfl, ?_⟩
          rw [rl_eq h hv] at c2 c3 c4 c5
          rw [if_neg (by decide), if_neg (by decide), if_neg (by decide), if_neg (by decide), c5]
          exact hK J (fs_194 f)
        · have e5 : J 238 = I 238 := fs238 f
          refine e180 ?_
          unfold D180_0
          refine m_isStop ⟨_, rfl, ?_⟩
          rw [e5, Int.toNat_natCast, b2i_t (by omega), if_neg (by decide)]
          refine m_isIn ⟨_, rfl, ?_⟩
          rw [show b2i ((0 : Int) ≤ 4 ∧ (4 : Int) ≤ 4) = 1 from rfl, if_neg (by decide)]
          refine m_drivesTo hJ hv (by rw [e5]; omega) fun J2 f2 n2 c2 c3 c4 => ⟨rfl, ?_⟩
          rw [e5, fs_LM f] at c2 c3 c4
          rw [fs_LM f] at n2
          rw [if_neg (by decide), if_neg (by decide), if_neg (by decide), if_neg (by decide)]
          have e6 : J2 238 = I 238 := (fs238 f2).trans e5
          refine m_loadBehind (by rw [e6]; exact hG) (by omega) n2 (okn _) gN_0 (by omega) ⟨_, rfl, ?_⟩
          rw [e6]
          exact hK J2 f2
    · refine both_q (-1) h (fun K hK => ?_) (fun J f hJ K hK => ?_)
      · refine e63 ?_
        unfold D63_0
        refine k_isStop ⟨_, rfl, ?_⟩
        rw [b2i_t c0, if_neg (by decide)]
        refine k_within ⟨_, rfl, ?_⟩
        rw [b2i_f c1, if_pos rfl]
        exact hK I FS_refl
      · refine e180 ?_
        unfold D180_0
        refine m_isStop ⟨_, rfl, ?_⟩
        rw [fs238 f, b2i_t (by omega), if_neg (by decide)]
        refine m_isIn ⟨_, rfl, ?_⟩
        rw [b2i_f c1, if_pos rfl]
        exact hK J FS_refl
  · have c2 : ¬ ((0 ≤ x1 ∧ x1 ≤ 3) ∧ 0 ≤ x2 ∧ x2 ≤ I 238 (114 + 13 * x1.toNat)) := fun z => c0 (by rw [rr_sz h.2.1 (v := x1.toNat) (by omega)]; exact z)
    refine both_q (-1) h (fun K hK => ?_) (fun J f hJ K hK => ?_)
    · refine e63 ?_
      unfold D63_0
      refine k_isStop ⟨_, rfl, ?_⟩
      rw [b2i_f c0, if_pos rfl]
      exact hK I FS_refl
    · refine e180 ?_
      unfold D180_0
      refine m_isStop ⟨_, rfl, ?_⟩
      rw [fs238 f, b2i_f c2, if_pos rfl]
      exact hK J FS_refl
theorem s_latest {x1 x2 : Int} {I : IM} (h : REL I) : BOTH 67 185 [vI x1, vI x2] I := by
  by_cases c0 : (0 ≤ x1 ∧ x1 ≤ 3) ∧ 0 ≤ x2 ∧ x2 ≤ I 30 x1.toNat
  · have es : I 30 x1.toNat = I 238 (114 + 13 * x1.toNat) := rr_sz h.2.1 (by omega)
    obtain ⟨v, rfl⟩ : ∃ v : Nat, x1 = v := ⟨x1.toNat, by omega⟩
    obtain ⟨k, rfl⟩ : ∃ k : Nat, x2 = k := ⟨x2.toNat, by omega⟩
    have hv : v < 4 := by omega
    rw [Int.toNat_natCast] at c0 es
    have ll := LM_le h.2.1.2.1 hv
    have le := @LM_len I 238 114 v
    have hG := h.1.1
    have okn : ∀ n, okN (gN (LM I 238 114 v) (-1)) n := fun n => gN_b (fun x hx => rl_om h v hv x hx) n
    have hsb := hG.2.2.2.2 v hv
    have b1 := bgs_b (N := gN (LM I 238 114 v) (-1)) hG hv (s := I 238 (103 + 3 * v)) (by omega) (k + 1) (okn _)
    have b2 := lvs_b (N := gN (LM I 238 114 v) (-1)) hG hv (s := I 238 (103 + 3 * v)) (by omega) (k + 1) (okn _)
    have b6 := lts_b (N := gN (LM I 238 114 v) (-1)) hG hv (e := (LM I 238 114 v).length + 1) (okn _) ((LM I 238 114 v).length - k) (by omega)
    refine both_q (lts (I 238) v (gN (LM I 238 114 v) (-1)) ((LM I 238 114 v).length + 1) ((LM I 238 114 v).length - k)) h (fun K hK => ?_) (fun J f hJ K hK => ?_)
    · refine e67 ?_
      unfold D67_0
      refine k_isStop ⟨_, rfl, ?_⟩
      rw [Int.toNat_natCast, b2i_t (by omega), if_neg (by decide)]
      refine k_latestAt (r := 29) rd29 hv hG h.1.2 h.2.1.1 (rl_oc h) c0.2.2 ⟨_, rfl, ?_⟩
      rw [rl_eq h hv]
      exact hK I FS_refl
    · have e5 : J 238 = I 238 := fs238 f
      refine e185 ?_
      unfold D185_0
      refine m_isStop ⟨_, rfl, ?_⟩
      rw [e5, Int.toNat_natCast, b2i_t (by omega), if_neg (by decide)]
      refine m_lk hJ fun J1 f1 s1 o1 l1 => ⟨rfl, m_wholeOf s0_241 (by decide) (by decide) hv s1 fun J2 f2 n2 => ⟨rfl, ?_⟩⟩
      rw [l1 v hv, fs_LM f] at n2
      have g2 : J2 238 = I 238 := (FD_o f2 (by decide) (by decide)).trans ((fs238 f1).trans e5)
      unfold inR
      refine ⟨by omega, ?_⟩
      rw [show (k : Int) + 1 = ((k + 1 : Nat) : Int) by omega]
      refine m_latestOf hv (by rw [g2]; exact hG) (by omega) n2 (okn _) (by omega) ⟨_, rfl, ?_⟩
      rw [g2, show (LM I 238 114 v).length + 2 - 1 = (LM I 238 114 v).length + 1 from rfl, show (LM I 238 114 v).length + 1 - (k + 1) = (LM I 238 114 v).length - k by omega]
      exact hK J2 (FS_trans f1 (FS_fd f2))
  · have c2 : ¬ ((0 ≤ x1 ∧ x1 ≤ 3) ∧ 0 ≤ x2 ∧ x2 ≤ I 238 (114 + 13 * x1.toNat)) := fun z => c0 (by rw [rr_sz h.2.1 (v := x1.toNat) (by omega)]; exact z)
    refine both_q (-1) h (fun K hK => ?_) (fun J f hJ K hK => ?_)
    · refine e67 ?_
      unfold D67_0
      refine k_isStop ⟨_, rfl, ?_⟩
      rw [b2i_f c0, if_pos rfl]
      exact hK I FS_refl
    · refine e185 ?_
      unfold D185_0
      refine m_isStop ⟨_, rfl, ?_⟩
      rw [fs238 f, b2i_f c2, if_pos rfl]
      exact hK J FS_refl
theorem s_slack {x1 x2 : Int} {I : IM} (h : REL I) : BOTH 69 187 [vI x1, vI x2] I := by
  by_cases c0 : (0 ≤ x1 ∧ x1 ≤ 3) ∧ 0 ≤ x2 ∧ x2 ≤ I 30 x1.toNat
  · have es : I 30 x1.toNat = I 238 (114 + 13 * x1.toNat) := rr_sz h.2.1 (by omega)
    obtain ⟨v, rfl⟩ : ∃ v : Nat, x1 = v := ⟨x1.toNat, by omega⟩
    obtain ⟨k, rfl⟩ : ∃ k : Nat, x2 = k := ⟨x2.toNat, by omega⟩
    have hv : v < 4 := by omega
    rw [Int.toNat_natCast] at c0 es
    have ll := LM_le h.2.1.2.1 hv
    have le := @LM_len I 238 114 v
    have hG := h.1.1
    have okn : ∀ n, okN (gN (LM I 238 114 v) (-1)) n := fun n => gN_b (fun x hx => rl_om h v hv x hx) n
    have hsb := hG.2.2.2.2 v hv
    have b1 := bgs_b (N := gN (LM I 238 114 v) (-1)) hG hv (s := I 238 (103 + 3 * v)) (by omega) (k + 1) (okn _)
    have b2 := lvs_b (N := gN (LM I 238 114 v) (-1)) hG hv (s := I 238 (103 + 3 * v)) (by omega) (k + 1) (okn _)
    have b6 := lts_b (N := gN (LM I 238 114 v) (-1)) hG hv (e := (LM I 238 114 v).length + 1) (okn _) ((LM I 238 114 v).length - k) (by omega)
    refine both_q ((lts (I 238) v (gN (LM I 238 114 v) (-1)) ((LM I 238 114 v).length + 1) ((LM I 238 114 v).length - k)) - bgs (I 238) v (gN (LM I 238 114 v) (-1)) (I 238 (103 + 3 * v)) (k + 1)) h (fun K hK => ?_) (fun J f hJ K hK => ?_)
    · refine e69 ?_
      unfold D69_0
      refine k_isStop ⟨_, rfl, ?_⟩
      rw [Int.toNat_natCast, b2i_t (by omega), if_neg (by decide)]
      refine k_driveTo (r := 29) rd29 hv hG h.1.2 h.2.1.1 (rl_oc h) c0.2.2 fun J f c2 c3 c4 c5 => ⟨rfl, ?_⟩
      rw [rl_eq h hv] at c3
      have eL : LC J 29 v = LM I 238 114 v := (LC_cg (f _ _ (by omega)) (fun k => f _ _ (by omega))).trans (rl_eq h hv)
      refine k_latestAt (r := 29) rd29 hv hG (BK_fp h.1.2 (fun o k ho => f o k (by omega))) (fun w hw => by rw [f _ _ (by omega)]; exact h.2.1.1 w hw) (fun w hw x hx => rl_oc h w hw x (by rw [← LC_cg (f (29 + 1) w (by omega)) (fun k => f (29 + 3 + w) k (by omega))]; exact hx)) (by rw [f _ _ (by omega)]; exact c0.2.2) ⟨_, rfl, ?_⟩
      rw [eL, c3]
      unfold inR
      exact ⟨by omega, hK J (fs_194 f)⟩
    · have e5 : J 238 = I 238 := fs238 f
      refine e187 ?_
      unfold D187_0
      refine m_isStop ⟨_, rfl, ?_⟩
      rw [e5, Int.toNat_natCast, b2i_t (by omega), if_neg (by decide)]
      refine m_drivesTo hJ hv (by rw [e5]; omega) fun J2 f2 n2 c2 c3 c4 => ⟨rfl, ?_⟩
      rw [e5, fs_LM f] at c3
      rw [fs_LM f] at n2
      have g2 : J2 238 = I 238 := (fs238 f2).trans e5
      unfold inR
      refine ⟨by omega, ?_⟩
      rw [show (k : Int) + 1 = ((k + 1 : Nat) : Int) by omega]
      refine m_latestOf hv (by rw [g2]; exact hG) (by omega) n2 (okn _) (by omega) ⟨_, rfl, ?_⟩
      rw [g2, show (LM I 238 114 v).length + 2 - 1 = (LM I 238 114 v).length + 1 from rfl, show (LM I 238 114 v).length + 1 - (k + 1) = (LM I 238 114 v).length - k by omega, c3]
      exact ⟨by omega, hK J2 f2⟩
  · have c2 : ¬ ((0 ≤ x1 ∧ x1 ≤ 3) ∧ 0 ≤ x2 ∧ x2 ≤ I 238 (114 + 13 * x1.toNat)) := fun z => c0 (by rw [rr_sz h.2.1 (v := x1.toNat) (by omega)]; exact z)
    refine both_q (-1) h (fun K hK => ?_) (fun J f hJ K hK => ?_)
    · refine e69 ?_
      unfold D69_0
      refine k_isStop ⟨_, rfl, ?_⟩
      rw [b2i_f c0, if_pos rfl]
      exact hK I FS_refl
    · refine e187 ?_
      unfold D187_0
      refine m_isStop ⟨_, rfl, ?_⟩
      rw [fs238 f, b2i_f c2, if_pos rfl]
      exact hK J FS_refl
