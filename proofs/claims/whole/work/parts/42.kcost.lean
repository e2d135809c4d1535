/-! level 2: what the class' judge says of rounds -/
theorem tps_e {G : Nat → Int} {N : Nat → Int} (hN : ∀ k, nw G 5 (N k) = 0 ∧ nw G 6 (N k) = 0) : ∀ n, sms G 5 N n = 0 ∧ sms G 6 N n = 0
  | 0 => ⟨rfl, rfl⟩
  | n + 1 => by
    have := tps_e hN n
    have := hN n
    rw [show sms G 5 N (n + 1) = sms G 5 N n + nw G 5 (N n) from rfl, show sms G 6 N (n + 1) = sms G 6 N n + nw G 6 (N n) from rfl]
    omega
theorem gd_nil {G : Nat → Int} {v : Nat} (hG : GR G) (hv : v < 4) : gdV G v [] := by
  have h0 := hG.2.2.2.2 v hv
  have hN : ∀ k, gN [] (-1) k = -1 := fun k => by
    unfold gN
    split
    · rfl
    · rfl
  have w0 : ∀ k, nw G 5 (gN [] (-1) k) = 0 ∧ nw G 6 (gN [] (-1) k) = 0 := fun k => by rw [hN]; exact ⟨rfl, rfl⟩
  have s0 := tps_e w0
  unfold gdV
  constructor
  · show ltf G v (gN [] (-1)) (G (103 + 3 * v)) (0 + 1) = 0
    refine ltf_s.mpr ⟨rfl, ?_⟩
    have e1 : cms G v (gN [] (-1)) (G (103 + 3 * v)) (0 + 1) = lvs G v (gN [] (-1)) (G (103 + 3 * v)) 0 + wy G (gN [] (-1) 0) (gN [] (-1) (0 + 1)) := rfl
    have e2 : bgs G v (gN [] (-1)) (G (103 + 3 * v)) (0 + 1) = if cms G v (gN [] (-1)) (G (103 + 3 * v)) (0 + 1) < opn G v (gN [] (-1) (0 + 1)) then opn G v (gN [] (-1) (0 + 1)) else cms G v (gN [] (-1)) (G (103 + 3 * v)) (0 + 1) := rfl
    have e3 : lvs G v (gN [] (-1)) (G (103 + 3 * v)) 0 = G (103 + 3 * v) + nw G 4 (gN [] (-1) 0) := rfl
    rw [e2, e1, e3, hN, hN]
    have e4 : wy G (-1) (-1) = 0 := by unfold wy; simp
    have e5 : nw G 4 (-1) = 0 := rfl
    have e6 : opn G v (-1) = G (103 + 3 * v) := rfl
    have e7 : cls G v (-1) = G (104 + 3 * v) := rfl
    rw [e4, e5, e6, e7]
    split <;> omega
  · have e : ∀ n, tps G (gN [] (-1)) n n = 0 := by
      intro n
      induction n with
      | zero => rfl
      | succ n ih =>
        rw [tps_s, ih, (w0 n).1, (w0 n).2, (s0 n).2]
        rfl
    rw [e]
    omega
theorem hrs_0 {G : Nat → Int} {v : Nat} {N : Nat → Int} {n : Nat} (hG : GR G) (hn : 1 ≤ n) (hk : okN N n) : 0 ≤ hrs G v N n 0 := by
  have h3 := drs_b (N := N) hG (n - 1) (fun i hi => hk i (by omega))
  have h4 := sms_b (N := N) (w := 4) (by omega) hG n hk
  unfold hrs
  rw [if_neg (by decide), if_pos rfl]
  split <;> omega
theorem csV_0 {G : Nat → Int} {v : Nat} {L : List Int} (hG : GR G) (ho : ∀ x ∈ L, 0 ≤ x ∧ x < 12) : 0 ≤ csV G v L := by
  have hk : okN (gN L (-1)) (L.length + 2) := gN_b ho _
  have h1 := drs_b (N := gN L (-1)) hG (L.length + 1) hk
  have h2 := hrs_0 (v := v) hG (by omega) hk
  have h3 := Int.mul_nonneg hG.2.2.2.1.1.1 h1.1
  have h4 := Int.mul_nonneg hG.2.2.2.1.2.1.1 h2
  have h5 := hG.2.2.2.1.2.2
  unfold csV
  split <;> omega
theorem PI_hrs {I : IM} {G : Nat → Int} {v : Nat} {N : Nat → Int} {k : Nat} (h : PI I G v N k) : I 192 6 = hrs G v N (k + 1) 0 ∧ I 192 3 = hrs G v N (k + 1) 2 ∧ I 192 2 = hrs G v N (k + 1) 1 := by
  obtain ⟨_, _, _, _, _, _, p3, pr⟩ := h
  unfold PR at pr
  unfold hrs
  rw [Nat.add_sub_cancel, lts_lfs]
  refine ⟨?_, ?_, ?_⟩
  · rw [if_neg (by decide), if_pos rfl]
    split <;> omega
  · rw [if_pos rfl]
    exact p3
  · rw [if_neg (by decide), if_neg (by decide)]
    split
    · split <;> omega
    · omega
theorem k_costOfPart {v : Nat} {G : Nat → Int} {L : List Int} {J : IM} {K : Option AV → IM → Prop} (hv : v < 4) (hG : GR G) (hB : BK J G) (hl : 1 ≤ L.length ∧ L.length ≤ 12) (ho : ∀ x ∈ L, 0 ≤ x ∧ x < 12)
    (h0 : ltf G v (gN L (-1)) (opn G v (gN L (-1) 0)) (L.length + 1) = 0 → PI J G v (gN L (-1)) (L.length + 1)) (h1 : ltf G v (gN L (-1)) (opn G v (gN L (-1) 0)) (L.length + 1) = 1 → J 192 9 = 0)
    (h : (gdV G v L → K (some (vI (csV G v L))) J) ∧ (¬ gdV G v L → K (some (vI (-1))) J)) : CALL S0 51 [vR 193, vI (v : Int)] J K := by
  refine e51 ?_
  unfold D51_0 inR
  have ea : opn G v (gN L (-1) 0) = G (103 + 3 * v) := by rw [gN_0]; rfl
  rw [ea] at h0 h1
  unfold gdV at h
  have hk : okN (gN L (-1)) (L.length + 2) := gN_b ho _
  have b1 := drs_b (N := gN L (-1)) hG (L.length + 1) hk
  have b2 := hrs_b hG hv (n := L.length + 2) (by omega) hk 0
  have b3 := mul_b (n := 60000) hG.2.2.2.1.1 (b := drs G (gN L (-1)) (L.length + 1)) (by omega)
  have b4 := mul_b (n := 60000) hG.2.2.2.1.2.1 (b := hrs G v (gN L (-1)) (L.length + 2) 0) (by omega)
  have b5 := hG.2.2.2.1.2.2
  rcases @ltf_01 G v (gN L (-1)) (G (103 + 3 * v)) (L.length + 1) with z | z
  · have p := h0 z
    have ph := PI_hrs p
    rw [show L.length + 1 + 1 = L.length + 2 from rfl] at ph
    obtain ⟨_, p9, p7, _, _, p8, _, _⟩ := p
    rw [p9, if_neg (by decide), p8, Int.toNat_natCast, (hB.2.2.2.2.2.1 v hv).1]
    refine ⟨by omega, ?_⟩
    rw [show J 28 0 = G 2 from hB.2.2.2.2.2.2 0 (by omega), show J 28 1 = G 3 from hB.2.2.2.2.2.2 1 (by omega), show J 28 2 = G 4 from hB.2.2.2.2.2.2 2 (by omega), p7, ph.1]
    split
    · rename_i c
      have := h.1 ⟨z, c⟩
      unfold csV at this
      rw [if_neg (by omega)] at this
      exact ⟨by omega, by omega, by omega, by omega, this⟩
    · rename_i c
      exact h.2 (fun q => c q.2)
  · rw [if_pos (h1 z)]
    exact h.2 (fun q => by omega)
theorem k_costWith {r v kk : Nat} {G : Nat → Int} {x : Int} {I : IM} {K : Option AV → IM → Prop} (hr : isRd r) (hv : v < 4) (hG : GR G) (hB : BK I G) (hs : SZC I r) (ho : OC I r) (hx : 0 ≤ x ∧ x < 12) (hkk : (kk : Int) ≤ I (r + 1) v) (hl : I (r + 1) v < 12)
    (h : ∀ J', FP I J' → (gdV G v ((LC I r v).insertIdx kk x) → K (some (vI (csV G v ((LC I r v).insertIdx kk x)))) J') ∧ (¬ gdV G v ((LC I r v).insertIdx kk x) → K (some (vI (-1))) J')) : CALL S0 76 [vR 193, vR r, vI (v : Int), vI x, vI (kk : Int)] I K := by
  refine e76 hr ?_
  unfold D76_0
  have hsz := hs v hv
  have hLl := @LC_len I r v
  have hL'l : ((LC I r v).insertIdx kk x).length = (LC I r v).length + 1 := by rw [List.length_insertIdx, if_pos (by omega)]
  refine k_goRound (L' := (LC I r v).insertIdx kk x) hr hv hG hB hs ho (by omega) (Or.inr ⟨hx.1, hx.2, by omega, by omega, by rw [Int.toNat_natCast]⟩) fun J' f h0 h1 => ⟨rfl, ?_⟩
  have hh := h J' f
  exact k_costOfPart hv hG (BK_fp hB (fun o k ho => f o k (by omega))) (by omega) (fun y hy => by
    rcases (List.mem_insertIdx (by omega)).mp hy with z | z
    · rw [z]; exact hx
    · exact ho v hv y z) h0 h1 ⟨fun g => ⟨_, rfl, hh.1 g⟩, fun g => ⟨_, rfl, hh.2 g⟩⟩
theorem k_costOf {r v : Nat} {G : Nat → Int} {I : IM} {K : Option AV → IM → Prop} (hr : isRd r) (hv : v < 4) (hG : GR G) (hB : BK I G) (hs : SZC I r) (ho : OC I r)
    (h : ∀ J', FP I J' → (gdV G v (LC I r v) → K (some (vI (csV G v (LC I r v)))) J') ∧ (¬ gdV G v (LC I r v) → K (some (vI (-1))) J')) : CALL S0 47 [vR 193, vR r, vI (v : Int)] I K := by
  refine e47 hr ?_
  unfold D47_0
  have hsz := hs v hv
  have hLl := @LC_len I r v
  rw [Int.toNat_natCast]
  refine ⟨by omega, ?_⟩
  split
  · rename_i c
    have := (h I FP_refl).1
    have e : LC I r v = [] := List.length_eq_zero_iff.mp (by omega)
    rw [e] at this
    exact this (gd_nil hG hv)
  · rename_i c
    refine k_goRound (L' := LC I r v) hr hv hG hB hs ho (by omega) (Or.inl ⟨rfl, rfl, rfl⟩) fun J' f h0 h1 => ⟨rfl, ?_⟩
    have hh := h J' f
    exact k_costOfPart hv hG (BK_fp hB (fun o k ho => f o k (by omega))) (by omega) (ho v hv) h0 h1 ⟨fun g => ⟨_, rfl, hh.1 g⟩, fun g => ⟨_, rfl, hh.2 g⟩⟩
theorem k_bits {r : Nat} {I : IM} {K : Option AV → IM → Prop} (hr : isRd r) (hs : SZC I r) (ho : OC I r) (h : ∀ S, BS (LC I r) S → K (some (vI S)) I) : CALL S0 52 [vR r] I K := by
  refine e52 hr ?_
  unfold D52_0
  have outer : ∀ j v : Nat, v + j = 4 → ∀ S : Int, inR S → (∀ o, o < 32 → (bt S o = true ↔ ∃ w, w < v ∧ (o : Int) ∈ LC I r w)) → ∀ u : AV, GO S0 52 4 [vR r, vI S, vI (v : Int), u] [] I K := by
    intro j
    induction j with
    | zero =>
      intro v e S hS0 hS u
      refine g52_4 r hr _ _ _ I K ?_
      unfold D52_4
      rw [if_pos (by omega)]
      refine h S ⟨hS0, fun o ho => ?_⟩
      rw [hS o ho]
      have := @vanF_neg (LC I r) (o : Int)
      constructor
      · rintro ⟨w, h1, h2⟩
        by_cases c : vanF (LC I r) (o : Int) < 0
        · exact absurd h2 (this.mp c w (by omega))
        · omega
      · intro h1
        by_cases c : ∃ w, w < v ∧ (o : Int) ∈ LC I r w
        · exact c
        · have := this.mpr (fun w hw hm => c ⟨w, by omega, hm⟩)
          omega
    | succ j ih =>
      intro v e S hS0 hS u
      refine g52_4 r hr _ _ _ I K ?_
      unfold D52_4
      rw [if_neg (by omega)]
      have sz := hs v (by omega)
      have inner : ∀ i k : Nat, k + i = (LC I r v).length → ∀ T : Int, inR T → (∀ o, o < 32 → (bt T o = true ↔ (∃ w, w < v ∧ (o : Int) ∈ LC I r w) ∨ ∃ m, m < k ∧ (LC I r v)[m]? = some (o : Int))) → GO S0 52 11 [vR r, vI T, vI (v : Int), vI (k : Int)] [] I K := by
        have sl := @LC_len I r v
        intro i
        induction i with
        | zero =>
          intro k ek T hT0 hT
          refine g52_11 r hr _ _ _ I K ?_
          unfold D52_11 inR
          rw [Int.toNat_natCast, if_pos (by omega)]
          refine ⟨by omega, by omega, ?_⟩
          exact ih (v + 1) (by omega) T hT0 (fun o hO => by
            rw [hT o hO]
            constructor
            · rintro (⟨w, h1, h2⟩ | ⟨m, h1, h2⟩)
              · exact ⟨w, by omega, h2⟩
              · exact ⟨v, by omega, List.mem_of_getElem? h2⟩
            · rintro ⟨w, h1, h2⟩
              by_cases c : w = v
              · right
                rw [c] at h2
                obtain ⟨m, hm⟩ := List.mem_iff_getElem?.mp h2
                refine ⟨m, ?_, hm⟩
                have := (List.getElem?_eq_some_iff.mp hm).1
                omega
              · exact Or.inl ⟨w, by omega, h2⟩) _
        | succ i ih2 =>
          intro k ek T hT0 hT
          refine g52_11 r hr _ _ _ I K ?_
          unfold D52_11 inR
          rw [Int.toNat_natCast, Int.toNat_natCast, if_neg (by omega)]
          refine ⟨by omega, by omega, by omega, ?_⟩
          have eg := @LC_get I r v k (by omega)
          have hx := ho v (by omega) _ (List.mem_of_getElem? eg)
          have := ih2 (k + 1) (by omega) _ (@ior_in T (ishlF 1 (I (r + 3 + v) k))) (bits_step (R := LC I r) hx hT (fun o => by
            constructor
            · rintro (h1 | ⟨m, h1, h2⟩)
              · exact Or.inl (Or.inl h1)
              · by_cases c : m = k
                · rw [c, eg] at h2
                  exact Or.inr (Option.some.inj h2).symm
                · exact Or.inl (Or.inr ⟨m, by omega, h2⟩)
            · rintro ((h1 | ⟨m, h1, h2⟩) | h1)
              · exact Or.inl h1
              · exact Or.inr ⟨m, by omega, h2⟩
              · exact Or.inr ⟨k, by omega, by rw [eg, h1]⟩))
          rw [show (((k + 1 : Nat)) : Int) = (k : Int) + 1 by omega] at this
          exact this
      exact inner (LC I r v).length 0 (by omega) S hS0 (fun o hO => by
        rw [hS o hO]
        constructor
        · exact fun z => Or.inl z
        · rintro (z | ⟨m, h1, _⟩)
          · exact z
          · omega)
  exact outer 4 0 rfl 0 (by decide) (fun o _ => by rw [bt_0]; constructor; (intro z; cases z); (rintro ⟨w, h1, _⟩; omega)) vU
theorem cs4_b {G : Nat → Int} {R : Nat → List Int} (hG : GR G) (hl : ∀ v, v < 4 → (R v).length ≤ 12) (ho : ∀ v, v < 4 → ∀ x ∈ R v, 0 ≤ x ∧ x < 12) : ∀ v : Nat, v ≤ 4 → 0 ≤ cs4 G R v ∧ cs4 G R v ≤ 2000000 * (v : Int)
  | 0, _ => by unfold cs4; omega
  | v + 1, hv => by
    have h1 := cs4_b hG hl ho v (by omega)
    have h2 := csV_b (v := v) hG (by omega) (hl v (by omega)) (ho v (by omega))
    have h3 := csV_0 (v := v) hG (ho v (by omega))
    unfold cs4
    omega
theorem k_costOfAll {r : Nat} {G : Nat → Int} {I : IM} {K : Option AV → IM → Prop} (hr : isRd r) (hG : GR G) (hB : BK I G) (hs : SZC I r) (ho : OC I r)
    (h : ∀ J', FP I J' → ((∀ v, v < 4 → gdV G v (LC I r v)) → K (some (vI (csA G (LC I r)))) J') ∧ (¬ (∀ v, v < 4 → gdV G v (LC I r v)) → K (some (vI (-1))) J')) : CALL S0 46 [vR 193, vR r] I K := by
  refine e46 hr ?_
  unfold D46_0
  have hrr := rd_rng hr
  have hcb := cs4_b (R := LC I r) hG (fun v hv => by have := hs v hv; rw [LC_len]; omega) ho
  have fL : ∀ J, FP I J → ∀ v, v < 4 → LC J r v = LC I r v := fun J f v hv => by
    unfold LC
    rw [f (r + 1) v (by omega)]
    exact ln_congr (fun k _ => f _ _ (by omega))
  have last : ∀ j k : Nat, k + j = (G 5).toNat → ∀ S : Int, BS (LC I r) S → (∀ v, v < 4 → gdV G v (LC I r v)) → ∀ J, FP I J → GO S0 46 44 [vR 193, vR r, vI (cs4 G (LC I r) 4 + pen G (LC I r) k), vI S, vI (k : Int)] [] J K := by
    have hn := hG.1
    intro j
    induction j with
    | zero =>
      intro k e S hS hg J fJ
      refine g46_44 r hr _ _ _ J K ?_
      unfold D46_44
      rw [fJ 1 0 (by decide), hB.1, if_pos (by omega), show k = (G 5).toNat by omega]
      exact (h J fJ).1 hg
    | succ j ih =>
      intro k e S hS hg J fJ
      refine g46_44 r hr _ _ _ J K ?_
      unfold D46_44 inR
      have h1 := hcb 4 (by omega)
      have h2 := pen_b (R := LC I r) hG k (by omega)
      have h3 := (hG.2.1 k (by omega)).2.2.2.2.2.2
      have h4 := hS.2 k (by omega)
      have h5 := @bt_z S k (by omega)
      have := ih (k + 1) (by omega) S hS hg J fJ
      unfold pen at this
      rw [fJ 1 0 (by decide), hB.1, if_neg (by omega)]
      split
      · rename_i c
        have c2 : vanF (LC I r) (k : Int) < 0 := by
          have z := h5.mp c
          rw [z] at h4
          have := h4.mpr
          simp at this
          exact this
        rw [if_pos c2] at this
        have e9 : J 9 k = G (6 + 8 * k + 7) := by rw [fJ 9 k (by decide)]; exact hB.2.1 k (by omega) 7 (by omega)
        rw [Int.toNat_natCast, e9]
        refine ⟨by omega, by omega, by omega, ?_⟩
        rw [Int.add_assoc]
        exact this
      · rename_i c
        have c2 : ¬ vanF (LC I r) (k : Int) < 0 := by
          have z : bt S k = true := by
            cases e2 : bt S k
            · exact absurd (h5.mpr e2) c
            · rfl
          have := h4.mp z
          omega
        rw [if_neg c2, Int.add_zero] at this
        exact ⟨by omega, this⟩
  have outer : ∀ j v : Nat, v + j = 4 → (∀ w, w < v → gdV G w (LC I r w)) → ∀ u : AV, ∀ J, FP I J → GO S0 46 4 [vR 193, vR r, vI (cs4 G (LC I r) v), vI (v : Int), u] [] J K := by
    intro j
    induction j with
    | zero =>
      intro v e hg u J fJ
      refine g46_4 r hr _ _ _ J K ?_
      unfold D46_4
      rw [if_pos (by omega)]
      have sJ : SZC J r := fun v hv => by rw [fJ (r + 1) v (by omega)]; exact hs v hv
      refine k_bits hr sJ (fun v hv x hx => ho v hv x (by rw [fL J fJ v hv] at hx; exact hx)) fun S hS => ⟨_, rfl, ?_⟩
      have hS' : BS (LC I r) S := ⟨hS.1, fun o hO => by
        rw [hS.2 o hO]
        unfold vanF
        rw [fL J fJ 0 (by omega), fL J fJ 1 (by omega), fL J fJ 2 (by omega), fL J fJ 3 (by omega)]⟩
      have := last (G 5).toNat 0 (by omega) S hS' (fun w hw => hg w (by omega)) J fJ
      rw [show cs4 G (LC I r) 4 + pen G (LC I r) 0 = cs4 G (LC I r) 4 by unfold pen; omega] at this
      rw [show v = 4 by omega]
      exact this
    | succ j ih =>
      intro v e hg u J fJ
      refine g46_4 r hr _ _ _ J K ?_
      unfold D46_4 inR
      rw [if_neg (by omega)]
      have sJ : SZC J r := fun v hv => by rw [fJ (r + 1) v (by omega)]; exact hs v hv
      have h1 := hcb v (by omega)
      have h2 := hcb (v + 1) (by omega)
      have h3 := csV_0 (v := v) hG (ho v (by omega))
      refine k_costOf hr (by omega) hG (BK_fp hB (fun o k ho => fJ o k (by omega))) sJ (fun v hv x hx => ho v hv x (by rw [fL J fJ v hv] at hx; exact hx)) fun J' f' => ?_
      rw [fL J fJ v (by omega)]
      refine ⟨fun g => ⟨_, rfl, ?_⟩, fun g => ⟨_, rfl, ?_⟩⟩
      · rw [if_neg (by omega)]
        have e4 : cs4 G (LC I r) v + csV G v (LC I r v) = cs4 G (LC I r) (v + 1) := rfl
        rw [e4]
        exact ⟨by omega, by omega, ih (v + 1) (by omega) (fun w hw => by
          by_cases c : w = v
          · rw [c]; exact g
          · exact hg w (by omega)) _ J' (FP_trans fJ f')⟩
      · rw [if_pos rfl]
        exact (h J' (FP_trans fJ f')).2 (fun z => g (z v (by omega)))
  exact outer 4 0 rfl (fun w hw => by omega) vU I FP_refl
