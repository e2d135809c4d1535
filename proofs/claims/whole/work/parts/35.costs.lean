/-! level 2: the model's rounds driven, good or not, and what they cost -/
theorem ND_fd {I I' : IM} {N : Nat → Int} {n : Nat} (h : ND I N n) (h1 : I' 237 8 = I 237 8) (h2 : I' 243 = I 243) : ND I' N n := ⟨h1.trans h.1, fun k hk => by rw [h2]; exact h.2 k hk⟩
theorem m_drives {v k n : Nat} (hv : v < 4) {N : Nat → Int} {s : Int} {I : IM} {K : Option AV → IM → Prop} (hG : GR (I 238)) (hn : n ≤ 14) (hN : ND I N n) (hk : okN N n) (hkn : k < n) (hs : 0 ≤ s ∧ s ≤ 999) (h : ∀ I', FD I I' → ND I' N n → I' 237 9 = cms (I 238) v N s k → I' 237 10 = bgs (I 238) v N s k → I' 237 11 = lvs (I 238) v N s k → I' 237 12 = ltf (I 238) v N s k → K none I') : CALL S0 164 [vR 237, vI (v : Int), vI s, vI (k : Int)] I K := by
  refine e164 ?_
  unfold D164_0
  intro I1 e1 I2 e2
  have f2 : FD I I2 := by rw [e2, e1]; exact FD_up (FD_up FD_refl (Or.inl ⟨rfl, by omega, by omega⟩)) (Or.inl ⟨rfl, by omega, by omega⟩)
  have g2 : I2 243 = I 243 := by rw [e2, e1]; funext j; rw [iup_ne (Or.inl (by decide)), iup_ne (Or.inl (by decide))]
  have b2 := FD_o f2 (o := 238) (by decide) (by decide)
  have h0 := nw_b hG (w := 4) (by omega) (hk 0 (by omega))
  rw [g2, hN.2 0 (by omega)]
  refine m_serviceOf (hk 0 (by omega)) ⟨_, rfl, ?_⟩
  rw [b2]
  unfold inR
  refine ⟨by omega, fun I6 e6 I7 e7 => ?_⟩
  have f7 : FD I I7 := by rw [e7, e6]; exact FD_up (FD_up f2 (Or.inl ⟨rfl, by omega, by omega⟩)) (Or.inl ⟨rfl, by omega, by omega⟩)
  have g7 : I7 243 = I 243 := by rw [e7, e6]; funext j; rw [iup_ne (Or.inl (by decide)), iup_ne (Or.inl (by decide)), g2]
  have n7 : I7 237 8 = I 237 8 := by rw [e7, e6, e2, e1]; simp [iup]
  have key : ∀ j i : Nat, i + j = k → ∀ J : IM, FD I J → ND J N n → J 237 9 = cms (I 238) v N s i → J 237 10 = bgs (I 238) v N s i → J 237 11 = lvs (I 238) v N s i → J 237 12 = ltf (I 238) v N s i → GO S0 164 34 [vR 237, vI (v : Int), vI s, vI (k : Int), vI ((i : Int) + 1)] [] J K := by
    intro j
    induction j with
    | zero =>
      intro i e J fJ nJ j9 j10 j11 j12
      refine g164_34 _ _ _ _ J K ?_
      unfold D164_34
      rw [if_pos (by omega)]
      rw [show i = k by omega] at j9 j10 j11 j12
      exact h J fJ nJ j9 j10 j11 j12
    | succ j ih =>
      intro i e J fJ nJ j9 j10 j11 j12
      refine g164_34 _ _ _ _ J K ?_
      unfold D164_34 inR
      have bJ := FD_o fJ (o := 238) (by decide) (by decide)
      have gJ : GR (J 238) := by rw [bJ]; exact hG
      have h1 := lvs_b (N := N) hG hv hs i (fun m hm => hk m (by omega))
      have h1' := bgs_b (N := N) hG hv hs (i + 1) (fun m hm => hk m (by omega))
      have h1'' := lvs_b (N := N) hG hv hs (i + 1) (fun m hm => hk m (by omega))
      have h2 := wy_b hG (hk i (by omega)) (hk (i + 1) (by omega))
      have h3 := opn_b hG hv (hk (i + 1) (by omega))
      have h4 := nw_b hG (w := 4) (by omega) (hk (i + 1) (by omega))
      rw [if_neg (by omega), show ((i : Int) + 1 - 1).toNat = i by omega, show ((i : Int) + 1).toNat = i + 1 by omega, nJ.2 i (by omega), nJ.2 (i + 1) (by omega)]
      refine ⟨by omega, by omega, by omega, m_wayOf gJ (hk i (by omega)) (hk (i + 1) (by omega)) ⟨_, rfl, ?_⟩⟩
      rw [bJ, j11]
      have ec : cms (I 238) v N s (i + 1) = lvs (I 238) v N s i + wy (I 238) (N i) (N (i + 1)) := rfl
      rw [← ec]
      refine ⟨by omega, fun I8 e8 => ?_⟩
      have f8 : FD I I8 := by rw [e8]; exact FD_up fJ (Or.inl ⟨rfl, by omega, by omega⟩)
      have b8 := FD_o f8 (o := 238) (by decide) (by decide)
      have x8 : I8 243 (i + 1) = N (i + 1) := by rw [e8, iup_ne (Or.inl (by decide))]; exact nJ.2 (i + 1) (by omega)
      rw [x8]
      refine m_openOf hv (hk (i + 1) (by omega)) ⟨_, rfl, ?_⟩
      rw [b8, show I8 237 9 = cms (I 238) v N s (i + 1) by rw [e8, iup_same]]
      have eb : bgs (I 238) v N s (i + 1) = if cms (I 238) v N s (i + 1) < opn (I 238) v (N (i + 1)) then opn (I 238) v (N (i + 1)) else cms (I 238) v N s (i + 1) := rfl
      rw [← eb]
      intro I11 e11
      have f11 : FD I I11 := by rw [e11]; exact FD_up f8 (Or.inl ⟨rfl, by omega, by omega⟩)
      have b11 := FD_o f11 (o := 238) (by decide) (by decide)
      have x11 : I11 243 (i + 1) = N (i + 1) := by rw [e11, iup_ne (Or.inl (by decide))]; exact x8
      rw [x11]
      refine m_closeOf hv (hk (i + 1) (by omega)) ⟨_, rfl, ?_⟩
      rw [b11, show I11 237 10 = bgs (I 238) v N s (i + 1) by rw [e11, iup_same]]
      have y12 : I11 237 12 = ltf (I 238) v N s i := by rw [e11, e8, iup_ne (Or.inr (by decide)), iup_ne (Or.inr (by decide))]; exact j12
      rw [y12]
      have l01 : ∀ m, ltf (I 238) v N s m = 0 ∨ ltf (I 238) v N s m = 1 := by
        intro m
        induction m with
        | zero => exact Or.inl rfl
        | succ m im =>
          rw [show ltf (I 238) v N s (m + 1) = if bgs (I 238) v N s (m + 1) ≤ cls (I 238) v (N (m + 1)) then ltf (I 238) v N s m else 1 from rfl]
          split
          · exact im
          · exact Or.inr rfl
      have fin : ∀ t2 : Int, iorF (ltf (I 238) v N s i) t2 = ltf (I 238) v N s (i + 1) → D164_121 (v : Int) s (k : Int) ((i : Int) + 1) (ltf (I 238) v N s i) t2 I11 K := by
        intro t2 et
        unfold D164_121 inR
        rw [et]
        refine ⟨l01 _, fun J2 e2 => ⟨by omega, ?_⟩⟩
        have f2 : FD I J2 := by rw [e2]; exact FD_up f11 (Or.inl ⟨rfl, by omega, by omega⟩)
        have b2 := FD_o f2 (o := 238) (by decide) (by decide)
        rw [show ((i : Int) + 1).toNat = i + 1 by omega, show J2 243 (i + 1) = N (i + 1) by rw [e2, iup_ne (Or.inl (by decide))]; exact x11]
        refine m_serviceOf (hk (i + 1) (by omega)) ⟨_, rfl, ?_⟩
        rw [b2, show J2 237 10 = bgs (I 238) v N s (i + 1) by rw [e2, e11]; simp [iup]]
        refine ⟨by omega, fun J7 e7 => ⟨by omega, ?_⟩⟩
        have := ih (i + 1) (by omega) J7 (by rw [e7]; exact FD_up f2 (Or.inl ⟨rfl, by omega, by omega⟩)) (ND_fd nJ (by rw [e7, e2, e11, e8]; simp [iup]) (by funext m; rw [e7, e2, e11, e8]; simp [iup])) (by rw [e7, e2, e11, e8]; simp [iup]) (by rw [e7, e2, e11]; simp [iup]) (by rw [e7, iup_same]; exact h1'.2.2.symm) (by rw [e7, e2]; simp [iup])
        rw [show (((i + 1 : Nat) : Int)) = (i : Int) + 1 by omega] at this
        exact this
      have el : ltf (I 238) v N s (i + 1) = if bgs (I 238) v N s (i + 1) ≤ cls (I 238) v (N (i + 1)) then ltf (I 238) v N s i else 1 := rfl
      split
      · rename_i c
        rw [if_pos c] at el
        refine fin 0 ?_
        rw [el]
        rcases l01 i with z | z <;> rw [z] <;> decide
      · rename_i c
        rw [if_neg c] at el
        refine fin 1 ?_
        rw [el]
        rcases l01 i with z | z <;> rw [z] <;> decide
  exact key k 0 (by omega) I7 f7 (ND_fd hN n7 g7) (by rw [e7, e6, e2, e1]; simp [iup, cms]) (by rw [e7, e6, e2, e1]; simp [iup, bgs]) (by rw [e7, e6]; simp [iup, lvs]) (by rw [e7]; simp [iup, ltf])
theorem gN_b {L : List Int} {i : Int} (h : ∀ x ∈ L, 0 ≤ x ∧ x < 12) (n : Nat) : okN (gN L i) n := by
  intro k _
  unfold gN
  split
  · cases e : L[(i + k).toNat]? with
    | none => simp
    | some x => simp; exact (h x (List.mem_of_getElem? e)).2
  · omega
theorem m_nodesOf {q : Nat} (hq : S0[q]? = some (100, 52, [])) (hq1 : q ≠ 237) (hq2 : q ≠ 243) {v : Nat} (hv : v < 4) {i j : Int} (hi : -1 ≤ i ∧ i ≤ j ∧ j ≤ 12) {I : IM} {K : Option AV → IM → Prop} (hs : SZM I q 0) (h : ∀ I', FD I I' → ND I' (gN (LM I q 0 v) i) (j + 1 - i).toNat → K none I') : CALL S0 161 [vR 237, vR q, vI (v : Int), vI i, vI j] I K := by
  refine e161 hq ?_
  unfold D161_0
  intro I1 e1
  have key : ∀ m k : Nat, k + m = (j + 1 - i).toNat → ∀ J : IM, FD I J → ND J (gN (LM I q 0 v) i) k → GO S0 161 8 [vR 237, vR q, vI (v : Int), vI i, vI j, vI (i + k)] [] J K := by
    intro m
    induction m with
    | zero =>
      intro k e J fJ nJ
      refine g161_8 q _ _ _ _ hq J K ?_
      unfold D161_8
      rw [if_pos (by omega)]
      rw [show k = (j + 1 - i).toNat by omega] at nJ
      exact h J fJ nJ
    | succ m ih =>
      intro k e J fJ nJ
      refine g161_8 q _ _ _ _ hq J K ?_
      unfold D161_8 inR
      rw [if_neg (by omega)]
      have bq := FD_o fJ (o := q) hq1 hq2
      have sz := hs v hv
      rw [Nat.zero_add] at sz
      refine m_sizeOf hq (by omega) ⟨_, rfl, ?_⟩
      rw [Int.toNat_natCast, bq]
      refine ⟨by omega, m_isIn ⟨_, rfl, ?_⟩⟩
      have fin : ∀ t : Int, t = gN (LM I q 0 v) i k → D161_52 q (v : Int) i j (i + k) (J 237 8) t J K := by
        intro t et
        unfold D161_52 inR
        rw [nJ.1, Int.toNat_natCast]
        refine ⟨by omega, fun J2 e2 => ?_⟩
        have x2 : J2 237 8 = k := by rw [e2, iup_ne (Or.inl (by decide))]; exact nJ.1
        rw [x2]
        refine ⟨by omega, fun J4 e4 => ⟨by omega, ?_⟩⟩
        have := ih (k + 1) (by omega) J4 (by rw [e4, e2]; exact FD_up (FD_up fJ (Or.inr rfl)) (Or.inl ⟨rfl, by omega, by omega⟩)) ⟨by rw [e4, iup_same]; omega, fun r hr => by
          rw [e4, iup_ne (Or.inl (by decide)), e2]
          by_cases c : r = k
          · rw [c, iup_same]; exact et
          · rw [iup_ne (Or.inr c)]; exact nJ.2 r (by omega)⟩
        rw [show i + ((k + 1 : Nat) : Int) = i + k + 1 by omega] at this
        exact this
      have eL : ∀ r : Nat, r < (I q (13 * v)).toNat → (LM I q 0 v)[r]? = some (I q (13 * v + 1 + r)) := by
        intro r hr
        unfold LM
        rw [Nat.zero_add]
        exact ln_get hr
      have eLl : (LM I q 0 v).length = (I q (13 * v)).toNat := by unfold LM; rw [Nat.zero_add, ln_len]
      by_cases c : 0 ≤ i + k ∧ i + k ≤ I q (13 * v) - 1
      · rw [show b2i (0 ≤ i + k ∧ i + k ≤ I q (13 * v) - 1) = 1 from if_pos c, if_neg (by decide)]
        refine m_at hq (by omega) (by omega) ⟨_, rfl, ?_⟩
        rw [Int.toNat_natCast, bq]
        refine fin _ ?_
        unfold gN
        rw [if_pos c.1, eL _ (by omega)]
        rfl
      · rw [show b2i (0 ≤ i + k ∧ i + k ≤ I q (13 * v) - 1) = 0 from if_neg c, if_pos rfl]
        refine fin _ ?_
        unfold gN
        split
        · rw [List.getElem?_eq_none (by rw [eLl]; omega)]; rfl
        · rfl
  have k0 := key (j + 1 - i).toNat 0 (by omega) I1 (by rw [e1]; exact FD_up FD_refl (Or.inl ⟨rfl, by omega, by omega⟩)) ⟨by rw [e1, iup_same]; rfl, fun r hr => by omega⟩
  rw [show i + ((0 : Nat) : Int) = i by omega] at k0
  exact k0
theorem m_wholeOf {q : Nat} (hq : S0[q]? = some (100, 52, [])) (hq1 : q ≠ 237) (hq2 : q ≠ 243) {v : Nat} (hv : v < 4) {I : IM} {K : Option AV → IM → Prop} (hs : SZM I q 0) (h : ∀ I', FD I I' → ND I' (gN (LM I q 0 v) (-1)) ((LM I q 0 v).length + 2) → K none I') : CALL S0 160 [vR 237, vR q, vI (v : Int)] I K := by
  refine e160 hq ?_
  unfold D160_0
  have sz := hs v hv
  rw [Nat.zero_add] at sz
  refine m_sizeOf hq (by omega) ⟨_, rfl, ?_⟩
  rw [Int.toNat_natCast]
  refine m_nodesOf hq hq1 hq2 hv (by omega) hs fun I' f n => ⟨rfl, h I' f ?_⟩
  rw [show (LM I q 0 v).length + 2 = (I q (13 * v) + 1 - (-1)).toNat by unfold LM; rw [Nat.zero_add, ln_len]; omega]
  exact n
/-- what no run of nodes overruns -/
theorem hrs_b {G : Nat → Int} {v : Nat} {N : Nat → Int} {n : Nat} (hG : GR G) (hv : v < 4) (hn : 1 ≤ n ∧ n ≤ 14) (hk : okN N n) (w : Int) : -30000 ≤ hrs G v N n w ∧ hrs G v N n w ≤ 60000 := by
  have h1 := lts_b hG hv (e := n - 1) (N := N) (fun i hi => hk i (by omega)) (n - 1) (Nat.le_refl _)
  have h0 := opn_b hG hv (hk 0 (by omega))
  have h2 := lvs_b (N := N) hG hv (s := opn G v (N 0)) (by omega) (n - 1) (fun i hi => hk i (by omega))
  have h3 := drs_b (N := N) hG (n - 1) (fun i hi => hk i (by omega))
  have h4 := sms_b (N := N) (w := 4) (by omega) hG n hk
  unfold hrs
  split
  · omega
  · split
    · split <;> omega
    · split
      · split <;> omega
      · omega
theorem m_hoursOf {v n : Nat} (hv : v < 4) {N : Nat → Int} {w : Int} {I : IM} {K : Option AV → IM → Prop} (hG : GR (I 238)) (hn : 1 ≤ n ∧ n ≤ 14) (hN : ND I N n) (hk : okN N n) (h : ∀ I', FD I I' → ND I' N n → K (some (vI (hrs (I 238) v N n w))) I') : CALL S0 191 [vR 237, vI (v : Int), vI w] I K := by
  refine e191 ?_
  unfold D191_0
  have h1 := lts_b hG hv (e := n - 1) (N := N) (fun i hi => hk i (by omega)) (n - 1) (Nat.le_refl _)
  have h0 := opn_b hG hv (hk 0 (by omega))
  have h2 := lvs_b (N := N) hG hv (s := opn (I 238) v (N 0)) (by omega) (n - 1) (fun i hi => hk i (by omega))
  have h3 := drs_b (N := N) hG (n - 1) (fun i hi => hk i (by omega))
  have h4 := sms_b (N := N) (w := 4) (by omega) hG n hk
  refine m_latestOf (k := 0) hv hG hn hN hk (by omega) ⟨_, rfl, ?_⟩
  rw [show n - 1 - 0 = n - 1 from rfl]
  unfold hrs at h
  split
  · rename_i c
    have := h I FD_refl hN
    rw [if_pos c] at this
    exact this
  · rename_i c
    simp only [if_neg c] at h
    rw [hN.2 0 (by omega)]
    refine m_openOf hv (hk 0 (by omega)) ⟨_, rfl, ?_⟩
    unfold inR
    rw [hN.1]
    refine ⟨by omega, ?_⟩
    rw [show (n : Int) - 1 = ((n - 1 : Nat) : Int) by omega]
    refine m_drives hv hG (by omega) hN hk (by omega) (by omega) fun I7 f7 n7 _ _ z11 _ => ⟨rfl, ?_⟩
    have b7 := FD_o f7 (o := 238) (by decide) (by decide)
    have g7 : GR (I7 238) := by rw [b7]; exact hG
    refine m_driveOf g7 hn n7 hk ⟨_, rfl, ?_⟩
    refine m_sumOf (w := 4) (by omega) g7 (by omega) n7 hk ⟨_, rfl, ?_⟩
    rw [z11, b7]
    have := h I7 f7 n7
    refine ⟨by omega, by omega, ?_⟩
    split
    · rename_i c2
      simp only [if_pos c2] at this
      unfold D191_72
      split
      · rename_i c3
        rw [if_pos c3] at this
        rw [if_pos rfl]
        exact this
      · rename_i c3
        rw [if_neg c3] at this
        rw [if_pos rfl]
        unfold inR
        exact ⟨by omega, this⟩
    · rename_i c2
      simp only [if_neg c2] at this
      unfold D191_72
      split
      · rename_i c3
        rw [if_pos c3] at this
        rw [if_neg (by decide)]
        unfold inR
        exact ⟨by omega, this⟩
      · rename_i c3
        rw [if_neg c3] at this
        rw [if_neg (by decide)]
        exact this
theorem m_toldOf {v n : Nat} (hv : v < 4) {N : Nat → Int} {w : Int} {I : IM} {K : Option AV → IM → Prop} (hG : GR (I 238)) (hn : 1 ≤ n ∧ n ≤ 14) (hN : ND I N n) (hk : okN N n) (h : ∀ I', FD I I' → K (some (vI (tld (I 238) v N n w))) I') : CALL S0 189 [vR 237, vI (v : Int), vI w] I K := by
  refine e189 ?_
  unfold D189_0
  unfold tld at h
  split
  · rename_i c
    have := h I FD_refl
    rw [if_pos c] at this
    exact m_driveOf hG hn hN hk ⟨_, rfl, this⟩
  · rename_i c
    simp only [if_neg c] at h
    split
    · rename_i c
      have := h I FD_refl
      rw [if_pos c] at this
      exact m_sumOf (w := 5) (by omega) hG (by omega) hN hk ⟨_, rfl, this⟩
    · rename_i c
      simp only [if_neg c] at h
      split
      · rename_i c
        have := h I FD_refl
        rw [if_pos c] at this
        exact m_sumOf (w := 6) (by omega) hG (by omega) hN hk ⟨_, rfl, this⟩
      · rename_i c
        simp only [if_neg c] at h
        split
        · rename_i c
          have := h I FD_refl
          rw [if_pos c] at this
          exact m_topOf hG (by omega) hN hk ⟨_, rfl, this⟩
        · rename_i c
          simp only [if_neg c] at h
          exact m_hoursOf hv hG hn hN hk fun I' f _ => ⟨_, rfl, h I' f⟩
/-- a round is good; what it costs -/
def gdV (G : Nat → Int) (v : Nat) (L : List Int) : Prop := ltf G v (gN L (-1)) (G (103 + 3 * v)) (L.length + 1) = 0 ∧ tps G (gN L (-1)) (L.length + 2) (L.length + 2) ≤ G (102 + 3 * v)
def csV (G : Nat → Int) (v : Nat) (L : List Int) : Int := if L.length = 0 then 0 else G 4 + G 2 * drs G (gN L (-1)) (L.length + 1) + G 3 * hrs G v (gN L (-1)) (L.length + 2) 0
/-- the orders of a round are orders -/
def OM (I : IM) (q b : Nat) : Prop := ∀ v, v < 4 → ∀ x ∈ LM I q b v, 0 ≤ x ∧ x < 12
theorem LM_len {I : IM} {q b v : Nat} : (LM I q b v).length = (I q (b + 13 * v)).toNat := by unfold LM; rw [ln_len]
theorem LM_le {I : IM} {q b v : Nat} (hs : SZM I q b) (hv : v < 4) : (LM I q b v).length ≤ 12 := by
  have := hs v hv
  rw [LM_len]
  omega
theorem m_isGoodOf {q : Nat} (hq : S0[q]? = some (100, 52, [])) (hq1 : q ≠ 237) (hq2 : q ≠ 243) {v : Nat} (hv : v < 4) {I : IM} {K : Option AV → IM → Prop} (hG : GR (I 238)) (hs : SZM I q 0) (ho : OM I q 0) (h : ∀ I', FD I I' → (gdV (I 238) v (LM I q 0 v) → K (some (vI 1)) I') ∧ (¬ gdV (I 238) v (LM I q 0 v) → K (some (vI 0)) I')) : CALL S0 159 [vR 237, vR q, vI (v : Int)] I K := by
  refine e159 hq ?_
  unfold D159_0
  have hl := LM_le hs hv
  refine m_wholeOf hq hq1 hq2 hv hs fun I1 f1 n1 => ⟨rfl, ?_⟩
  have hk : okN (gN (LM I q 0 v) (-1)) ((LM I q 0 v).length + 2) := gN_b (ho v hv) _
  have b1 := FD_o f1 (o := 238) (by decide) (by decide)
  refine m_openOf hv (by omega) ⟨_, rfl, ?_⟩
  unfold inR
  rw [n1.1, b1]
  refine ⟨by omega, ?_⟩
  have eo : opn (I 238) v (-1) = I 238 (103 + 3 * v) := rfl
  have h0 := hG.2.2.2.2 v hv
  rw [eo, show (((LM I q 0 v).length + 2 : Nat) : Int) - 1 = (((LM I q 0 v).length + 1 : Nat) : Int) by omega]
  refine m_drives hv (by rw [b1]; exact hG) (by omega) n1 hk (by omega) (by omega) fun I5 f5 n5 _ _ _ z12 => ⟨rfl, ?_⟩
  rw [b1] at z12
  rw [z12]
  have f5' := FD_trans f1 f5
  have b5 := FD_o f5' (o := 238) (by decide) (by decide)
  have := h I5 f5'
  unfold gdV at this
  split
  · rename_i c
    rw [c] at this
    refine m_topOf (by rw [b5]; exact hG) (by omega) n5 hk ⟨_, rfl, ?_⟩
    rw [b5]
    refine ⟨by omega, by omega, by omega, ?_⟩
    rw [show (102 + 3 * (v : Int)).toNat = 102 + 3 * v by omega]
    split
    · exact this.2 (by omega)
    · exact this.1 ⟨rfl, by omega⟩
  · rename_i c
    exact this.2 (fun z => c z.1)
theorem m_isGood {q : Nat} (hq : S0[q]? = some (100, 52, [])) (hq1 : q ≠ 237) (hq2 : q ≠ 243) {I : IM} {K : Option AV → IM → Prop} (hG : GR (I 238)) (hs : SZM I q 0) (ho : OM I q 0) (h : ∀ I', FD I I' → ((∀ v, v < 4 → gdV (I 238) v (LM I q 0 v)) → K (some (vI 1)) I') ∧ (¬ (∀ v, v < 4 → gdV (I 238) v (LM I q 0 v)) → K (some (vI 0)) I')) : CALL S0 158 [vR 237, vR q] I K := by
  refine e158 hq ?_
  unfold D158_0
  have key : ∀ j v : Nat, v + j = 4 → (∀ u, u < v → gdV (I 238) u (LM I q 0 u)) → ∀ J, FD I J → GO S0 158 2 [vR 237, vR q, vI (v : Int)] [] J K := by
    intro j
    induction j with
    | zero =>
      intro v e hg J fJ
      refine g158_2 q _ hq J K ?_
      unfold D158_2
      rw [if_pos (by omega)]
      exact (h J fJ).1 (fun u hu => hg u (by omega))
    | succ j ih =>
      intro v e hg J fJ
      refine g158_2 q _ hq J K ?_
      unfold D158_2
      rw [if_neg (by omega)]
      have bJ := FD_o fJ (o := 238) (by decide) (by decide)
      have bq := FD_o fJ (o := q) hq1 hq2
      have eq : ∀ u, LM J q 0 u = LM I q 0 u := fun u => by unfold LM ln; rw [bq]
      refine m_isGoodOf hq hq1 hq2 (by omega) (by rw [bJ]; exact hG) (fun u hu => by rw [bq]; exact hs u hu) (fun u hu => by rw [eq]; exact ho u hu) fun I' f' => ?_
      rw [eq, bJ]
      have f2 := FD_trans fJ f'
      refine ⟨fun g => ⟨_, rfl, ?_⟩, fun g => ⟨_, rfl, ?_⟩⟩
      · rw [if_neg (by decide)]
        unfold inR
        refine ⟨by omega, ?_⟩
        exact ih (v + 1) (by omega) (fun u hu => by
          by_cases c : u = v
          · rw [c]; exact g
          · exact hg u (by omega)) I' f2
      · rw [if_pos rfl]
        exact (h I' f2).2 (fun z => g (z v (by omega)))
  exact key 4 0 rfl (fun u hu => by omega) I FD_refl
theorem mul_b {a b m n : Int} (ha : 0 ≤ a ∧ a ≤ m) (hb : -n ≤ b ∧ b ≤ n) : -(m * n) ≤ a * b ∧ a * b ≤ m * n := by
  have hn : 0 ≤ n := by omega
  have h1 : a * n ≤ m * n := Int.mul_le_mul_of_nonneg_right ha.2 hn
  have h2 : a * b ≤ a * n := Int.mul_le_mul_of_nonneg_left hb.2 ha.1
  have h3 : a * (-n) ≤ a * b := Int.mul_le_mul_of_nonneg_left hb.1 ha.1
  rw [Int.mul_neg] at h3
  omega
theorem csV_b {G : Nat → Int} {v : Nat} {L : List Int} (hG : GR G) (hv : v < 4) (hl : L.length ≤ 12) (ho : ∀ x ∈ L, 0 ≤ x ∧ x < 12) : -2000000 ≤ csV G v L ∧ csV G v L ≤ 2000000 := by
  have hk : okN (gN L (-1)) (L.length + 2) := gN_b ho _
  have h1 := drs_b (N := gN L (-1)) hG (L.length + 1) hk
  have h2 := hrs_b hG hv (n := L.length + 2) (by omega) hk 0
  have h3 := mul_b (n := 60000) hG.2.2.2.1.1 (b := drs G (gN L (-1)) (L.length + 1)) (by omega)
  have h4 := mul_b (n := 60000) hG.2.2.2.1.2.1 (b := hrs G v (gN L (-1)) (L.length + 2) 0) (by omega)
  have h5 := hG.2.2.2.1.2.2
  unfold csV
  split <;> omega
theorem m_costOfVan {q : Nat} (hq : S0[q]? = some (100, 52, [])) (hq1 : q ≠ 237) (hq2 : q ≠ 243) {v : Nat} (hv : v < 4) {I : IM} {K : Option AV → IM → Prop} (hG : GR (I 238)) (hs : SZM I q 0) (ho : OM I q 0) (h : ∀ I', FD I I' → K (some (vI (csV (I 238) v (LM I q 0 v)))) I') : CALL S0 195 [vR 237, vR q, vI (v : Int)] I K := by
  refine e195 hq ?_
  unfold D195_0
  have hl := LM_le hs hv
  have sz := hs v hv
  have sl := @LM_len I q 0 v
  rw [Nat.zero_add] at sz sl
  refine m_sizeOf hq (by omega) ⟨_, rfl, ?_⟩
  rw [Int.toNat_natCast]
  have hk : okN (gN (LM I q 0 v) (-1)) ((LM I q 0 v).length + 2) := gN_b (ho v hv) _
  have h1 := drs_b (N := gN (LM I q 0 v) (-1)) hG ((LM I q 0 v).length + 1) hk
  have h2 := hrs_b hG hv (n := (LM I q 0 v).length + 2) (by omega) hk 0
  have h3 := mul_b (n := 60000) hG.2.2.2.1.1 (b := drs (I 238) (gN (LM I q 0 v) (-1)) ((LM I q 0 v).length + 1)) (by omega)
  have h4 := mul_b (n := 60000) hG.2.2.2.1.2.1 (b := hrs (I 238) v (gN (LM I q 0 v) (-1)) ((LM I q 0 v).length + 2) 0) (by omega)
  have h5 := hG.2.2.2.1.2.2
  unfold csV at h
  split
  · rename_i c
    have := h I FD_refl
    rw [if_pos (by omega)] at this
    exact this
  · rename_i c
    simp only [if_neg (show ¬ (LM I q 0 v).length = 0 by omega)] at h
    refine m_wholeOf hq hq1 hq2 hv hs fun I1 f1 n1 => ⟨rfl, ?_⟩
    have b1 := FD_o f1 (o := 238) (by decide) (by decide)
    refine m_driveOf (by rw [b1]; exact hG) (by omega) n1 hk ⟨_, rfl, ?_⟩
    unfold inR
    rw [b1, show (LM I q 0 v).length + 2 - 1 = (LM I q 0 v).length + 1 from rfl]
    refine ⟨by omega, by omega, ?_⟩
    refine m_hoursOf hv (by rw [b1]; exact hG) (by omega) n1 hk fun I9 f9 n9 => ⟨_, rfl, ?_⟩
    rw [b1]
    exact ⟨by omega, by omega, h I9 (FD_trans f1 f9)⟩
