/-! level 2: the class drives a whole round, one more order in it or none -/
theorem gN_0 {L : List Int} : gN L (-1) 0 = -1 := by unfold gN; rw [if_neg (by omega)]
theorem gN_s {L : List Int} {k : Nat} : gN L (-1) (k + 1) = (L[k]?).getD (-1) := by
  unfold gN
  rw [if_pos (by omega), show (-1 + ((k + 1 : Nat) : Int)).toNat = k by omega]
def OC (I : IM) (r : Nat) : Prop := ∀ v, v < 4 → ∀ x ∈ LC I r v, 0 ≤ x ∧ x < 12
theorem LC_len {I : IM} {r v : Nat} : (LC I r v).length = (I (r + 1) v).toNat := by unfold LC; rw [ln_len]
theorem LC_get {I : IM} {r v k : Nat} (h : k < (I (r + 1) v).toNat) : (LC I r v)[k]? = some (I (r + 3 + v) k) := by
  unfold LC
  rw [ln_get h, Nat.zero_add]
theorem k_beginAt {G : Nat → Int} {v : Nat} {N : Nat → Int} {x o c : Int} {I : IM} {K : Option AV → IM → Prop} (hG : GR G) (hv : v < 4) (hk : okN N 1) (hB : BK I G) (hx : x = cd (N 0)) (ho : o = opn G v (N 0)) (hc : c = cls G v (N 0)) (h : ∀ J', FP I J' → PI J' G v N 0 → K none J') : CALL S0 49 [vR 192, vI x, vI o, vI c] I K := by
  refine e49 ?_
  unfold D49_0
  have hx' := cd_r (hk 0 (by omega))
  have h0 := opn_b hG hv (hk 0 (by omega))
  intro I1 e1 I2 e2 I3 e3
  refine ⟨by omega, fun I5 e5 I6 e6 I7 e7 I8 e8 => ?_⟩
  have t4 : I 6 x.toNat = nw G 4 (N 0) := by rw [hx]; exact bk_w hB (w := 4) (by omega) (hk 0 (by omega))
  have t5 : I 7 x.toNat = nw G 5 (N 0) := by rw [hx]; exact bk_w hB (w := 5) (by omega) (hk 0 (by omega))
  have t6 : I 8 x.toNat = nw G 6 (N 0) := by rw [hx]; exact bk_w hB (w := 6) (by omega) (hk 0 (by omega))
  have s3 : I3 6 x.toNat = nw G 4 (N 0) := by rw [e3, e2, e1]; simp [iup, t4]
  have s6 : I6 7 x.toNat = nw G 5 (N 0) := by rw [e6, e5, e3, e2, e1]; simp [iup, t5]
  have s7 : I7 8 x.toNat = nw G 6 (N 0) := by rw [e7, e6, e5, e3, e2, e1]; simp [iup, t6]
  rw [s3] at e5
  rw [s6] at e7
  rw [s7] at e8
  have f8 : FP I I8 := by rw [e8, e7, e6, e5, e3, e2, e1]; exact FP_up (FP_up (FP_up (FP_up (FP_up (FP_up (FP_up FP_refl))))))
  have v4 : I8 192 4 = nw G 5 (N 0) := by rw [e8, e7]; simp [iup]
  have v5 : I8 192 5 = nw G 6 (N 0) := by rw [e8]; simp [iup]
  have v1 : I8 192 1 = x := by rw [e8, e7, e6, e5, e3, e2, e1]; simp [iup]
  have v2 : I8 192 2 = o := by rw [e8, e7, e6, e5, e3, e2]; simp [iup]
  have v3 : I8 192 3 = c := by rw [e8, e7, e6, e5, e3]; simp [iup]
  have v6 : I8 192 6 = nw G 4 (N 0) := by rw [e8, e7, e6, e5]; simp [iup]
  have v7 : I8 192 7 = 0 := by rw [e8, e7, e6]; simp [iup]
  rw [v4, v5]
  have fin : ∀ t : Int, t = tps G N 1 1 → ∀ I12, I12 = iup I8 192 8 t → ∀ I13, I13 = iup I12 192 9 1 → K none I13 := by
    intro t ht I12 e12 I13 e13
    refine h I13 (by rw [e13, e12]; exact FP_up (FP_up f8)) ?_
    have z : ∀ k, k ≠ 8 → k ≠ 9 → I13 192 k = I8 192 k := fun k h8 h9 => by rw [e13, e12, iup_ne (Or.inr h9), iup_ne (Or.inr h8)]
    refine ⟨by rw [z 1 (by decide) (by decide), v1, hx], by rw [e13, iup_same], by rw [z 7 (by decide) (by decide), v7]; rfl, ?_, ?_, by rw [e13, e12, ← ht]; simp [iup], by rw [z 3 (by decide) (by decide), v3, hc]; rfl, ?_⟩
    · rw [z 4 (by decide) (by decide), v4, show sms G 5 N (0 + 1) = 0 + nw G 5 (N 0) from rfl]; omega
    · rw [z 5 (by decide) (by decide), v5, show sms G 6 N (0 + 1) = 0 + nw G 6 (N 0) from rfl]; omega
    · rw [z 6 (by decide) (by decide), v6, z 2 (by decide) (by decide), v2, ho]
      unfold PR
      rw [show lvs G v N (opn G v (N 0)) 0 = opn G v (N 0) + nw G 4 (N 0) from rfl, show lfs G v N 0 = cls G v (N 0) from rfl, show drs G N 0 = 0 from rfl, show sms G 4 N (0 + 1) = 0 + nw G 4 (N 0) from rfl]
      left
      omega
  have ts : tps G N 1 1 = if nw G 5 (N 0) < nw G 6 (N 0) then nw G 6 (N 0) else nw G 5 (N 0) := by
    have := @tps_s G N 0
    rw [this, show tps G N 0 0 = 0 from rfl, show sms G 6 N 0 = 0 from rfl]
    split <;> split <;> omega
  split
  · exact fin _ (by rw [ts]; split <;> omega)
  · exact fin _ (by rw [ts]; split <;> omega)
theorem k_goRound {r v : Nat} {G : Nat → Int} {L' : List Int} {x3 x4 : Int} {I : IM} {K : Option AV → IM → Prop} (hr : isRd r) (hv : v < 4) (hG : GR G) (hB : BK I G) (hs : SZC I r) (ho : OC I r) (hl : L'.length ≤ 12)
    (hx : (x3 = -1 ∧ x4 = -1 ∧ L' = LC I r v) ∨ (0 ≤ x3 ∧ x3 < 12 ∧ 0 ≤ x4 ∧ x4 ≤ I (r + 1) v ∧ L' = (LC I r v).insertIdx x4.toNat x3))
    (h : ∀ J', FP I J' → (ltf G v (gN L' (-1)) (opn G v (gN L' (-1) 0)) (L'.length + 1) = 0 → PI J' G v (gN L' (-1)) (L'.length + 1)) → (ltf G v (gN L' (-1)) (opn G v (gN L' (-1) 0)) (L'.length + 1) = 1 → J' 192 9 = 0) → K none J') : CALL S0 48 [vR 193, vR r, vI (v : Int), vI x3, vI x4] I K := by
  refine e48 hr ?_
  unfold D48_0
  rw [Int.toNat_natCast]
  have hLo : ∀ x ∈ L', 0 ≤ x ∧ x < 12 := by
    rcases hx with ⟨_, _, e⟩ | ⟨a, b, c, d, e⟩
    · rw [e]; exact ho v hv
    · rw [e]
      intro y hy
      rcases (List.mem_insertIdx (by rw [LC_len]; omega)).mp hy with z | z
      · rw [z]; exact ⟨a, b⟩
      · exact ho v hv y z
  have hk : ∀ n, okN (gN L' (-1)) n := fun n => gN_b hLo n
  have hfl := hB.2.2.2.2.2.1 v hv
  have hrr := rd_rng hr
  have hsz := hs v hv
  refine ⟨by omega, k_beginAt (N := gN L' (-1)) hG hv (hk 1) hB (by rw [gN_0]; rfl) (by rw [gN_0]; exact hfl.2.1) (by rw [gN_0]; exact hfl.2.2) fun I2 f2 p2 => ⟨rfl, ?_⟩⟩
  -- the end
  have ex : ∀ J x7, FP I J → (ST J G v (gN L' (-1)) L'.length (10000 + 5000 * (L'.length : Int)) ∨ ∃ j b, j ≤ L'.length ∧ b ≤ 100000 ∧ ltf G v (gN L' (-1)) (opn G v (gN L' (-1) 0)) j = 1 ∧ J 192 9 = 0 ∧ PW J b) → D48_130 r (v : Int) x3 x4 (r + 3 + v) (I (r + 1) v) x7 J K := by
    intro J x7 fJ hj
    unfold D48_130
    rw [Int.toNat_natCast]
    have bJ : BK J G := BK_fp hB (fun o k ho => fJ o k (by omega))
    have e27 : J 27 v = cls G v (-1) := by rw [fJ 27 v (by decide)]; exact hfl.2.2
    refine ⟨by omega, ?_⟩
    rcases hj with st | ⟨j, b, h1, h2, h3, h4, h5⟩
    · refine k_go1 (k := L'.length) hG hv (hk _) (by omega) bJ (fun _ => by rw [gN_0]; decide) st (by omega) (by rw [gN_s, List.getElem?_eq_none (by omega)]; rfl) (by rw [gN_s, List.getElem?_eq_none (by omega)]; exact e27) fun J' f' st' => ⟨rfl, ?_⟩
      refine h J' (FP_trans fJ f') (fun z => ?_) (fun z => ?_)
      · rcases st' with ⟨_, p⟩ | ⟨q, _, _⟩
        · exact p
        · omega
      · rcases st' with ⟨q, _⟩ | ⟨_, p, _⟩
        · omega
        · exact p
    · have h0 := hG.2.2.2.2 v hv
      refine k_goOnP hG bJ (by omega) (by rw [e27]; show 0 ≤ G (104 + 3 * v) ∧ G (104 + 3 * v) ≤ 999; omega) h5 (by omega) fun I' W O Sv Dn Up _ _ _ _ _ f _ _ a9 _ _ _ _ _ => ⟨rfl, ?_⟩
      refine h I' (FP_trans fJ f) (fun z => ?_) (fun _ => by rw [a9, h4]; split <;> rfl)
      have := @ltf_mono G v (gN L' (-1)) (opn G v (gN L' (-1) 0)) j (L'.length + 1 - j) (by rw [show j + (L'.length + 1 - j) = L'.length + 1 by omega]; exact z)
      omega
  have late : ∀ J j, j ≤ L'.length → FP I J → ST J G v (gN L' (-1)) j (10000 + 5000 * (j : Int)) → J 192 9 = 0 → ∀ x7, D48_130 r (v : Int) x3 x4 (r + 3 + v) (I (r + 1) v) x7 J K := by
    intro J j hj fJ st z x7
    refine ex J x7 fJ (Or.inr ⟨j, 10000 + 5000 * (j : Int), hj, by omega, ?_⟩)
    rcases st with ⟨_, p⟩ | p
    · have := p.2.1; omega
    · exact p
  -- one stop of the row
  have one : ∀ (J : IM) (i j : Nat) (K' : Option AV → IM → Prop), FP I J → (i : Int) < I (r + 1) v → j + 1 ≤ L'.length → L'[j]? = (LC I r v)[i]? → ST J G v (gN L' (-1)) j (10000 + 5000 * (j : Int)) → (∀ J', FP I J' → ST J' G v (gN L' (-1)) (j + 1) (10000 + 5000 * ((j + 1 : Nat) : Int)) → K' none J') → (0 ≤ J (r + 3 + v) i ∧ J (r + 3 + v) i < 13) ∧ CALL S0 50 [vR 192, vI (J (r + 3 + v) i), vI (J 5 (J (r + 3 + v) i).toNat)] J K' := by
    intro J i j K' fJ hi hj hL st hK
    have bJ : BK J G := BK_fp hB (fun o k ho => fJ o k (by omega))
    have eg := @LC_get I r v i (by omega)
    have hm := ho v hv _ (List.mem_of_getElem? eg)
    have eq : J (r + 3 + v) i = I (r + 3 + v) i := fJ _ _ (by omega)
    have eN : gN L' (-1) (j + 1) = I (r + 3 + v) i := by rw [gN_s, hL, eg]; rfl
    rw [eq]
    refine ⟨by omega, k_go1 (k := j) hG hv (hk _) (by omega) bJ (fun _ => by rw [gN_0]; decide) st (by omega) (by rw [eN]; unfold cd; rw [if_neg (by omega)]) (by rw [eN]; unfold cls; rw [if_pos hm.1]; exact bJ.2.1 _ (by omega) 3 (by omega)) fun J' f' st' => hK J' (FP_trans fJ f') ?_⟩
    rw [show 10000 + 5000 * ((j + 1 : Nat) : Int) = 10000 + 5000 * (j : Int) + 5000 by omega]
    exact st'
  have tail : ∀ t i j : Nat, (i : Int) + t = I (r + 1) v → j + t = L'.length → (∀ i', i ≤ i' → (i' : Int) ≠ x4) → (∀ m, m < t → L'[j + m]? = (LC I r v)[i + m]?) → ∀ J, FP I J → ST J G v (gN L' (-1)) j (10000 + 5000 * (j : Int)) → GO S0 48 46 [vR 193, vR r, vI (v : Int), vI x3, vI x4, vR (r + 3 + v), vI (I (r + 1) v), vI (i : Int)] [] J K := by
    intro t
    induction t with
    | zero =>
      intro i j hi hj h4 _ J fJ st
      refine g48_46 r hr _ _ _ _ _ _ (rd_3 hr hv) J K ?_
      unfold D48_46
      rw [if_neg (by omega)]
      split
      · rename_i c
        exact late J j (by omega) fJ st c _
      · rw [if_neg (h4 i (Nat.le_refl _))]
        unfold D48_92 inR
        rw [if_pos (by omega)]
        refine ⟨by omega, ?_⟩
        refine g48_46 r hr _ _ _ _ _ _ (rd_3 hr hv) J K ?_
        unfold D48_46
        rw [if_pos (by omega)]
        rw [show j = L'.length by omega] at st
        exact ex J _ fJ (Or.inl st)
    | succ t ih =>
      intro i j hi hj h4 hL J fJ st
      refine g48_46 r hr _ _ _ _ _ _ (rd_3 hr hv) J K ?_
      unfold D48_46
      rw [if_neg (by omega)]
      split
      · rename_i c
        exact late J j (by omega) fJ st c _
      · rw [if_neg (h4 i (Nat.le_refl _))]
        unfold D48_92 inR
        rw [if_neg (by omega), Int.toNat_natCast]
        refine ⟨by omega, ?_⟩
        refine one J i j _ fJ (by omega) (by omega) (by have := hL 0 (by omega); rw [Nat.add_zero, Nat.add_zero] at this; exact this) st fun J' f' st' => ⟨rfl, by omega, ?_⟩
        exact ih (i + 1) (j + 1) (by omega) (by omega) (fun i' hi' => h4 i' (by omega)) (fun m hm => by have := hL (m + 1) (by omega); rw [show j + 1 + m = j + (m + 1) by omega, show i + 1 + m = i + (m + 1) by omega]; exact this) J' f' st'
  have st0 : ST I2 G v (gN L' (-1)) 0 (10000 + 5000 * ((0 : Nat) : Int)) := Or.inl ⟨rfl, p2⟩
  rcases hx with ⟨a, b, c⟩ | ⟨a, b, c, d, e⟩
  · refine tail L'.length 0 0 (by rw [c, LC_len]; omega) (by omega) (fun i' _ => by omega) (fun m _ => by rw [c]) I2 f2 st0
  · obtain ⟨n, hn⟩ : ∃ n : Nat, I (r + 1) v = n := ⟨(I (r + 1) v).toNat, by omega⟩
    obtain ⟨kk, hkk⟩ : ∃ n : Nat, x4 = n := ⟨x4.toNat, by omega⟩
    have hLl : (LC I r v).length = n := by rw [LC_len]; omega
    have eL : ∀ i, L'[i]? = if i < kk then (LC I r v)[i]? else if i = kk then (if i ≤ (LC I r v).length then some x3 else none) else (LC I r v)[i - 1]? := by
      intro i
      rw [e, hkk, Int.toNat_natCast]
      exact List.getElem?_insertIdx
    have hL'l : L'.length = n + 1 := by rw [e, List.length_insertIdx, hLl, if_pos (by omega)]
    have head : ∀ t i : Nat, i + t = kk → ∀ J, FP I J → ST J G v (gN L' (-1)) i (10000 + 5000 * (i : Int)) → GO S0 48 46 [vR 193, vR r, vI (v : Int), vI x3, vI x4, vR (r + 3 + v), vI (I (r + 1) v), vI (i : Int)] [] J K := by
      intro t
      induction t with
      | zero =>
        intro i hi J fJ st
        refine g48_46 r hr _ _ _ _ _ _ (rd_3 hr hv) J K ?_
        unfold D48_46
        rw [if_neg (by omega)]
        split
        · rename_i c2
          exact late J i (by omega) fJ st c2 _
        · rw [if_pos (by omega), if_neg (by omega)]
          have bJ : BK J G := BK_fp hB (fun o k ho => fJ o k (by omega))
          have eN : gN L' (-1) (i + 1) = x3 := by
            rw [gN_s, eL, if_neg (by omega), if_pos (by omega), if_pos (by omega)]; rfl
          refine ⟨by omega, k_go1 (k := i) hG hv (hk _) (by omega) bJ (fun _ => by rw [gN_0]; decide) st (by omega) (by rw [eN]; unfold cd; rw [if_neg (by omega)]) (by rw [eN]; unfold cls; rw [if_pos a]; exact bJ.2.1 _ (by omega) 3 (by omega)) fun J' f' st' => ⟨rfl, ?_⟩⟩
          have f'' := FP_trans fJ f'
          rw [show 10000 + 5000 * (i : Int) + 5000 = 10000 + 5000 * ((i + 1 : Nat) : Int) by omega] at st'
          unfold D48_92 inR
          split
          · refine ⟨by omega, ?_⟩
            refine g48_46 r hr _ _ _ _ _ _ (rd_3 hr hv) J' K ?_
            unfold D48_46
            rw [if_pos (by omega)]
            rw [show i + 1 = L'.length by omega] at st'
            exact ex J' _ f'' (Or.inl st')
          · rw [Int.toNat_natCast]
            refine ⟨by omega, ?_⟩
            refine one J' i (i + 1) _ f'' (by omega) (by omega) (by rw [eL, if_neg (by omega), if_neg (by omega)]; rfl) st' fun J3 f3 st3 => ⟨rfl, by omega, ?_⟩
            exact tail (n - (i + 1)) (i + 1) (i + 1 + 1) (by omega) (by omega) (fun i' hi' => by omega) (fun m hm => by rw [eL, if_neg (by omega), if_neg (by omega), show i + 1 + 1 + m - 1 = i + 1 + m by omega]) J3 f3 st3
      | succ t ih =>
        intro i hi J fJ st
        refine g48_46 r hr _ _ _ _ _ _ (rd_3 hr hv) J K ?_
        unfold D48_46
        rw [if_neg (by omega)]
        split
        · rename_i c2
          exact late J i (by omega) fJ st c2 _
        · rw [if_neg (by omega)]
          unfold D48_92 inR
          rw [if_neg (by omega), Int.toNat_natCast]
          refine ⟨by omega, ?_⟩
          refine one J i i _ fJ (by omega) (by omega) (by rw [eL, if_pos (by omega)]) st fun J' f' st' => ⟨rfl, by omega, ?_⟩
          exact ih (i + 1) (by omega) J' f' st'
    exact head kk 0 (by omega) I2 f2 st0
