/-! level 2: class and model call by call: piece, whole, cost, left -/
theorem gN_i {L : List Int} {i m : Nat} : gN L (i : Int) m = gN L (-1) (i + 1 + m) := by
  rw [show i + 1 + m = i + m + 1 by omega, gN_s]
  unfold gN
  rw [if_pos (by omega), show ((i : Int) + m).toNat = i + m by omega]
theorem pc_le {G : Nat → Int} {v c : Nat} {N N' : Nat → Int} {s : Int} (hN : ∀ m, N m = N' (c + 1 + m)) : ∀ m, bgs G v N (opn G v (N 0)) m ≤ bgs G v N' s (c + 1 + m)
  | 0 => by
    rw [show bgs G v N (opn G v (N 0)) 0 = opn G v (N 0) from rfl, hN 0, show bgs G v N' s (c + 1 + 0) = if cms G v N' s (c + 1) < opn G v (N' (c + 1)) then opn G v (N' (c + 1)) else cms G v N' s (c + 1) from rfl]
    show opn G v (N' (c + 1)) ≤ _
    split <;> omega
  | m + 1 => by
    have ih := pc_le (G := G) (v := v) (s := s) hN m
    have e1 := @bl_s G v N (opn G v (N 0)) m
    have e2 := @bl_s G v N' s (c + 1 + m)
    have e3 : cms G v N (opn G v (N 0)) (m + 1) = lvs G v N (opn G v (N 0)) m + wy G (N m) (N (m + 1)) := rfl
    have e4 : cms G v N' s (c + 1 + m + 1) = lvs G v N' s (c + 1 + m) + wy G (N' (c + 1 + m)) (N' (c + 1 + m + 1)) := rfl
    have h1 := hN m
    have h2 : N (m + 1) = N' (c + 1 + m + 1) := hN (m + 1)
    rw [show c + 1 + (m + 1) = c + 1 + m + 1 by omega, show bgs G v N (opn G v (N 0)) (m + 1) = if cms G v N (opn G v (N 0)) (m + 1) < opn G v (N (m + 1)) then opn G v (N (m + 1)) else cms G v N (opn G v (N 0)) (m + 1) from rfl, show bgs G v N' s (c + 1 + m + 1) = if cms G v N' s (c + 1 + m + 1) < opn G v (N' (c + 1 + m + 1)) then opn G v (N' (c + 1 + m + 1)) else cms G v N' s (c + 1 + m + 1) from rfl, ← h2]
    rw [← h1, ← h2] at e4
    rw [← h1] at e2
    split <;> split <;> omega
theorem pc_lt {G : Nat → Int} {v c n : Nat} {N N' : Nat → Int} {s : Int} (hN : ∀ m, N m = N' (c + 1 + m)) (hz : ltf G v N' s n = 0) : ∀ m, c + 1 + m ≤ n → ltf G v N (opn G v (N 0)) m = 0
  | 0, _ => rfl
  | m + 1, hm => by
    refine ltf_s.mpr ⟨pc_lt hN hz m (by omega), ?_⟩
    have h1 := pc_le (G := G) (v := v) (s := s) hN (m + 1)
    have z : ltf G v N' s (c + 1 + m + 1) = 0 := ltf_mono (n - (c + 1 + m + 1)) (by rw [show c + 1 + m + 1 + (n - (c + 1 + m + 1)) = n by omega]; exact hz)
    have h2 := (ltf_s.mp z).2
    rw [hN (m + 1)]
    exact Int.le_trans h1 h2
theorem k_tell {x1 : Int} {v k : Nat} {G : Nat → Int} {N : Nat → Int} {I : IM} {K : Option AV → IM → Prop} (p : PI I G v N k) (hx : 0 ≤ x1 ∧ x1 ≤ 6) (h : K (some (vI (tld G v N (k + 1) x1))) I) : CALL S0 71 [vR 192, vI x1] I K := by
  refine e71 ?_
  unfold D71_0
  unfold tld at h
  have ph := PI_hrs p
  obtain ⟨_, _, p7, p4, p5, p8, _, _⟩ := p
  rcases (show x1 = 0 ∨ x1 = 1 ∨ x1 = 2 ∨ x1 = 3 ∨ x1 = 4 ∨ x1 = 5 ∨ x1 = 6 by omega) with e | e | e | e | e | e | e <;> subst e
  · rw [if_pos rfl, ph.1]
    rw [if_neg (by decide), if_neg (by decide), if_neg (by decide), if_neg (by decide)] at h
    exact h
  · rw [if_neg (by decide), if_pos rfl, ph.2.2]
    rw [if_neg (by decide), if_neg (by decide), if_neg (by decide), if_neg (by decide)] at h
    exact h
  · rw [if_neg (by decide), if_neg (by decide), if_pos rfl, ph.2.1]
    rw [if_neg (by decide), if_neg (by decide), if_neg (by decide), if_neg (by decide)] at h
    exact h
  · rw [if_neg (by decide), if_neg (by decide), if_neg (by decide), if_pos rfl, p7]
    rw [if_pos rfl] at h
    exact h
  · rw [if_neg (by decide), if_neg (by decide), if_neg (by decide), if_neg (by decide), if_pos rfl, p4]
    rw [if_neg (by decide), if_pos rfl] at h
    exact h
  · rw [if_neg (by decide), if_neg (by decide), if_neg (by decide), if_neg (by decide), if_neg (by decide), if_pos rfl, p5]
    rw [if_neg (by decide), if_neg (by decide), if_pos rfl] at h
    exact h
  · rw [if_neg (by decide), if_neg (by decide), if_neg (by decide), if_neg (by decide), if_neg (by decide), if_neg (by decide), p8]
    rw [if_neg (by decide), if_neg (by decide), if_neg (by decide), if_pos rfl] at h
    exact h
theorem s_piece {x1 x2 x3 x4 : Int} {I : IM} (h : REL I) : BOTH 70 188 [vI x1, vI x2, vI x3, vI x4] I := by
  by_cases c0 : 0 ≤ x1 ∧ x1 ≤ 3
  · have es : I 30 x1.toNat = I 238 (114 + 13 * x1.toNat) := rr_sz h.2.1 (by omega)
    have sz := h.2.1.2.1 x1.toNat (by omega)
    by_cases c1 : 0 ≤ x2 ∧ x2 ≤ x3 ∧ x3 ≤ I 30 x1.toNat - 1
    · by_cases c2 : 0 ≤ x4 ∧ x4 ≤ 6
      · obtain ⟨v, rfl⟩ : ∃ v : Nat, x1 = v := ⟨x1.toNat, by omega⟩
        obtain ⟨i, rfl⟩ : ∃ k : Nat, x2 = k := ⟨x2.toNat, by omega⟩
        obtain ⟨j, rfl⟩ : ∃ k : Nat, x3 = k := ⟨x3.toNat, by omega⟩
        have hv : v < 4 := by omega
        rw [Int.toNat_natCast] at c1 es sz
        have ll := LM_le h.2.1.2.1 hv
        have le := @LM_len I 238 114 v
        have hG := h.1.1
        have okn : ∀ c n, okN (gN (LM I 238 114 v) c) n := fun c n => gN_b (fun x hx => rl_om h v hv x hx) n
        have gd := h.2.1.2.2.2.2.2.2 v hv
        have el : ∀ k : Nat, k ≤ j → gN (LM I 238 114 v) (-1) (k + 1) = I (32 + v) k ∧ 0 ≤ I (32 + v) k ∧ I (32 + v) k < 12 := by
          intro k hk
          have e1 := LC_get (I := I) (r := 29) (v := v) (k := k) (by rw [show I (29 + 1) v = I 30 v from rfl]; omega)
          have e2 := rl_oc h v hv _ (List.mem_of_getElem? e1)
          rw [rl_eq h hv] at e1
          rw [gN_s, e1]
          exact ⟨rfl, e2⟩
        have hN : ∀ m, gN (LM I 238 114 v) (i : Int) m = gN (LM I 238 114 v) (-1) (i + 1 + m) := fun m => gN_i
        have lt0 := pc_lt hN gd.1
        have o1 : ∀ k : Nat, k ≤ j → I 4 (I (32 + v) k).toNat = opn (I 238) v (I (32 + v) k) ∧ I 5 (I (32 + v) k).toNat = cls (I 238) v (I (32 + v) k) := by
          intro k hk
          have b := el k hk
          unfold opn cls
          rw [if_pos b.2.1, if_pos b.2.1]
          exact ⟨h.1.2.2.1 _ (by omega) 2 (by omega), h.1.2.2.1 _ (by omega) 3 (by omega)⟩
        refine both_q (tld (I 238) v (gN (LM I 238 114 v) (i : Int)) (j - i + 1) x4) h (fun K hK => ?_) (fun J f hJ K hK => ?_)
        · have loop : ∀ t k : Nat, i + k + t = j → ∀ J : IM, FP I J → PI J (I 238) v (gN (LM I 238 114 v) (i : Int)) k → GO S0 70 93 [vR 0, vI (v : Int), vI (i : Int), vI (j : Int), vI x4, vR (29 + 3 + v), vI ((i + k + 1 : Nat) : Int)] [] J K := by
            intro t
            induction t with
            | zero =>
              intro k e J f p
              refine g70_93 _ _ _ _ _ _ (rd_3 rd29 hv) J K ?_
              unfold D70_93
              rw [if_pos (by omega)]
              rw [show j - i = k by omega] at hK
              exact k_tell p c2 ⟨_, rfl, hK J (FS_fp f)⟩
            | succ t ih =>
              intro k e J f p
              refine g70_93 _ _ _ _ _ _ (rd_3 rd29 hv) J K ?_
              unfold D70_93 inR
              have b := el (i + k + 1) (by omega)
              have oo := o1 (i + k + 1) (by omega)
              have eN : gN (LM I 238 114 v) (i : Int) (k + 1) = I (32 + v) (i + k + 1) := by rw [hN, show i + 1 + (k + 1) = i + k + 1 + 1 by omega]; exact b.1
              rw [if_neg (by omega), Int.toNat_natCast, f (29 + 3 + v) _ (by omega), show 29 + 3 + v = 32 + v by omega, f 5 _ (by decide)]
              refine ⟨by omega, by omega, ?_⟩
              have bK := BK_fp h.1.2 (fun o k ho => f o k (by omega))
              refine k_go1 (N := gN (LM I 238 114 v) (i : Int)) (k := k) (b := 10000) hG hv (okn _ _) (by omega) bK (fun z => by omega) (Or.inl ⟨lt0 k (by omega), p⟩) (by omega) (by rw [eN]; unfold cd; rw [if_neg (by omega)]) (by rw [eN]; exact oo.2) fun J' f' s' => ⟨rfl, by omega, ?_⟩
              rcases s' with ⟨_, p'⟩ | ⟨z, _⟩
              · have := ih (k + 1) (by omega) J' (FP_trans f f') p'
                rw [show ((i + (k + 1) + 1 : Nat) : Int) = ((i + k + 1 : Nat) : Int) + 1 by omega] at this
                exact this
              · have := lt0 (k + 1) (by omega)
                omega
          have b := el i (by omega)
          have oo := o1 i (by omega)
          have eN : gN (LM I 238 114 v) (i : Int) 0 = I (32 + v) i := by rw [hN]; exact b.1
          refine e70 ?_
          unfold D70_0 inR
          refine k_isVan ⟨_, rfl, ?_⟩
          rw [b2i_t c0, if_neg (by decide), if_neg (by omega), if_neg (by omega), Int.toNat_natCast, Int.toNat_natCast, if_neg (by omega), show 29 + 3 + v = 32 + v by omega]
          refine ⟨by omega, k_within ⟨_, rfl, ?_⟩⟩
          rw [b2i_t c2, if_neg (by decide)]
          refine ⟨by omega, by omega, k_beginAt (N := gN (LM I 238 114 v) (i : Int)) hG hv (okn _ 1) h.1.2 (by rw [eN]; unfold cd; rw [if_neg (by omega)]) (by rw [eN]; exact oo.1) (by rw [eN]; exact oo.2) fun J' f' p' => ⟨rfl, by omega, ?_⟩⟩
          exact loop (j - i) 0 (by omega) J' f' p'
        · have e5 : J 238 = I 238 := fs238 f
          refine e188 ?_
          unfold D188_0 inR
          refine m_isVan ⟨_, rfl, ?_⟩
          rw [b2i_t c0, if_neg (by decide)]
          refine m_stopsOf (by omega) ⟨_, rfl, ?_⟩
          rw [e5, Int.toNat_natCast]
          refine ⟨by omega, m_isIn ⟨_, rfl, ?_⟩⟩
          rw [b2i_t (by omega), if_neg (by decide)]
          refine m_isIn ⟨_, rfl, ?_⟩
          rw [b2i_t (by omega), if_neg (by decide)]
          refine m_isIn ⟨_, rfl, ?_⟩
          rw [b2i_t c2, if_neg (by decide)]
          refine m_lk hJ fun J1 f1 s1 o1 l1 => ⟨rfl, m_nodesOf s0_241 (by decide) (by decide) hv (by omega) s1 fun J2 f2 n2 => ⟨rfl, ?_⟩⟩
          rw [l1 v hv, fs_LM f, show ((j : Int) + 1 - i).toNat = j - i + 1 by omega] at n2
          have g2 : J2 238 = I 238 := (FD_o f2 (by decide) (by decide)).trans ((fs238 f1).trans e5)
          refine m_toldOf hv (by rw [g2]; exact hG) (by omega) n2 (okn _ _) fun J3 f3 => ⟨_, rfl, ?_⟩
          rw [g2]
          exact hK J3 (FS_trans f1 (FS_fd (FD_trans f2 f3)))
      · refine both_q (-1) h (fun K hK => ?_) (fun J f hJ K hK => ?_)
        · refine e70 ?_
          unfold D70_0
          refine k_isVan ⟨_, rfl, ?_⟩
          rw [b2i_t c0, if_neg (by decide), if_neg (by omega), if_neg (by omega)]
          refine ⟨by omega, ?_⟩
          rw [if_neg (by omega)]
          refine k_within ⟨_, rfl, ?_⟩
          rw [b2i_f c2, if_pos rfl]
          exact hK I FS_refl
        · refine e188 ?_
          unfold D188_0 inR
          refine m_isVan ⟨_, rfl, ?_⟩
          rw [b2i_t c0, if_neg (by decide)]
          refine m_stopsOf (by omega) ⟨_, rfl, ?_⟩
          rw [fs238 f]
          refine ⟨by omega, m_isIn ⟨_, rfl, ?_⟩⟩
          rw [b2i_t (by omega), if_neg (by decide)]
          refine m_isIn ⟨_, rfl, ?_⟩
          rw [b2i_t (by omega), if_neg (by decide)]
          refine m_isIn ⟨_, rfl, ?_⟩
          rw [b2i_f c2, if_pos rfl]
          exact hK J FS_refl
    · refine both_q (-1) h (fun K hK => ?_) (fun J f hJ K hK => ?_)
      · refine e70 ?_
        unfold D70_0
        refine k_isVan ⟨_, rfl, ?_⟩
        rw [b2i_t c0, if_neg (by decide)]
        split
        · exact hK I FS_refl
        · split
          · exact hK I FS_refl
          · refine ⟨by omega, ?_⟩
            rw [if_pos (by omega)]
            exact hK I FS_refl
      · refine e188 ?_
        unfold D188_0 inR
        refine m_isVan ⟨_, rfl, ?_⟩
        rw [b2i_t c0, if_neg (by decide)]
        refine m_stopsOf (by omega) ⟨_, rfl, ?_⟩
        rw [fs238 f]
        refine ⟨by omega, m_isIn ⟨_, rfl, ?_⟩⟩
        by_cases c3 : 0 ≤ x3 ∧ x3 ≤ I 238 (114 + 13 * x1.toNat) - 1
        · rw [b2i_t c3, if_neg (by decide)]
          refine m_isIn ⟨_, rfl, ?_⟩
          rw [b2i_f (by omega), if_pos rfl]
          exact hK J FS_refl
        · rw [b2i_f c3, if_pos rfl]
          exact hK J FS_refl
  · refine both_q (-1) h (fun K hK => ?_) (fun J f hJ K hK => ?_)
    · refine e70 ?_
      unfold D70_0
      refine k_isVan ⟨_, rfl, ?_⟩
      rw [b2i_f c0, if_pos rfl]
      exact hK I FS_refl
    · refine e188 ?_
      unfold D188_0
      refine m_isVan ⟨_, rfl, ?_⟩
      rw [b2i_f c0, if_pos rfl]
      exact hK J FS_refl
theorem s_whole {x1 x2 : Int} {I : IM} (h : REL I) : BOTH 72 192 [vI x1, vI x2] I := by
  by_cases c0 : 0 ≤ x1 ∧ x1 ≤ 3
  · by_cases c2 : 0 ≤ x2 ∧ x2 ≤ 6
    · obtain ⟨v, rfl⟩ : ∃ v : Nat, x1 = v := ⟨x1.toNat, by omega⟩
      have hv : v < 4 := by omega
      have ll := LM_le h.2.1.2.1 hv
      have hG := h.1.1
      have okn : ∀ c n, okN (gN (LM I 238 114 v) c) n := fun c n => gN_b (fun x hx => rl_om h v hv x hx) n
      have gd := h.2.1.2.2.2.2.2.2 v hv
      refine both_q (tld (I 238) v (gN (LM I 238 114 v) (-1)) ((LM I 238 114 v).length + 2) x2) h (fun K hK => ?_) (fun J f hJ K hK => ?_)
      · refine e72 ?_
        unfold D72_0
        refine k_isVan ⟨_, rfl, ?_⟩
        rw [b2i_t c0, if_neg (by decide)]
        refine k_within ⟨_, rfl, ?_⟩
        rw [b2i_t c2, if_neg (by decide)]
        refine k_goRound (L' := LC I 29 v) rd29 hv hG h.1.2 h.2.1.1 (rl_oc h) (by rw [rl_eq h hv]; omega) (Or.inl ⟨rfl, rfl, rfl⟩) fun J' f p _ => ⟨rfl, ?_⟩
        rw [rl_eq h hv] at p
        refine k_tell (p (by rw [gN_0]; exact gd.1)) c2 ⟨_, rfl, hK J' (FS_fp f)⟩
      · have e5 : J 238 = I 238 := fs238 f
        refine e192 ?_
        unfold D192_0
        refine m_isVan ⟨_, rfl, ?_⟩
        rw [b2i_t c0, if_neg (by decide)]
        refine m_isIn ⟨_, rfl, ?_⟩
        rw [b2i_t c2, if_neg (by decide)]
        refine m_lk hJ fun J1 f1 s1 o1 l1 => ⟨rfl, m_wholeOf s0_241 (by decide) (by decide) hv s1 fun J2 f2 n2 => ⟨rfl, ?_⟩⟩
        rw [l1 v hv, fs_LM f] at n2
        have g2 : J2 238 = I 238 := (FD_o f2 (by decide) (by decide)).trans ((fs238 f1).trans e5)
        refine m_toldOf hv (by rw [g2]; exact hG) (by omega) n2 (okn _ _) fun J3 f3 => ⟨_, rfl, ?_⟩
        rw [g2]
        exact hK J3 (FS_trans f1 (FS_fd (FD_trans f2 f3)))
    · refine both_q (-1) h (fun K hK => ?_) (fun J f hJ K hK => ?_)
      · refine e72 ?_
        unfold D72_0
        refine k_isVan ⟨_, rfl, ?_⟩
        rw [b2i_t c0, if_neg (by decide)]
        refine k_within ⟨_, rfl, ?_⟩
        rw [b2i_f c2, if_pos rfl]
        exact hK I FS_refl
      · refine e192 ?_
        unfold D192_0
        refine m_isVan ⟨_, rfl, ?_⟩
        rw [b2i_t c0, if_neg (by decide)]
        refine m_isIn ⟨_, rfl, ?_⟩
        rw [b2i_f c2, if_pos rfl]
        exact hK J FS_refl
  · refine both_q (-1) h (fun K hK => ?_) (fun J f hJ K hK => ?_)
    · refine e72 ?_
      unfold D72_0
      refine k_isVan ⟨_, rfl, ?_⟩
      rw [b2i_f c0, if_pos rfl]
      exact hK I FS_refl
    · refine e192 ?_
      unfold D192_0
      refine m_isVan ⟨_, rfl, ?_⟩
      rw [b2i_f c0, if_pos rfl]
      exact hK J FS_refl
theorem pen_eq {G : Nat → Int} {R R' : Nat → List Int} (h : ∀ v, v < 4 → R v = R' v) : ∀ k, pen G R k = pen G R' k
  | 0 => rfl
  | k + 1 => by
    unfold pen
    rw [pen_eq h k, vanF_eq h]
theorem cs4_eq {G : Nat → Int} {R R' : Nat → List Int} (h : ∀ v, v < 4 → R v = R' v) : ∀ k, k ≤ 4 → cs4 G R k = cs4 G R' k
  | 0, _ => rfl
  | k + 1, hk => by
    unfold cs4
    rw [cs4_eq h k (by omega), h k (by omega)]
theorem csA_eq {G : Nat → Int} {R R' : Nat → List Int} (h : ∀ v, v < 4 → R v = R' v) : csA G R = csA G R' := by
  unfold csA
  rw [cs4_eq h 4 (by omega), pen_eq h]
theorem s_cost {x1 : Int} {I : IM} (h : REL I) : BOTH 73 193 [vI x1] I := by
  have hG := h.1.1
  by_cases c0 : x1 = -1
  · subst c0
    refine both_q (csA (I 238) (LM I 238 114)) h (fun K hK => ?_) (fun J f hJ K hK => ?_)
    · refine e73 ?_
      unfold D73_0
      rw [if_pos rfl]
      refine k_costOfAll (r := 29) rd29 hG h.1.2 h.2.1.1 (rl_oc h) fun J' f => ⟨fun _ => ⟨_, rfl, ?_⟩, fun z => absurd (fun v hv => ?_) z⟩
      · rw [csA_eq (fun v hv => rl_eq h hv)]
        exact hK J' (FS_fp f)
      · rw [rl_eq h hv]
        exact h.2.1.2.2.2.2.2.2 v hv
    · have e5 : J 238 = I 238 := fs238 f
      refine e193 ?_
      unfold D193_0
      rw [if_pos rfl]
      unfold D193_14
      refine m_lk hJ fun J1 f1 s1 o1 l1 => ⟨rfl, ?_⟩
      have g1 : J1 238 = I 238 := (fs238 f1).trans e5
      rw [if_neg (by decide)]
      refine m_costOf s0_241 (by decide) (by decide) (by rw [g1]; exact hG) s1 o1 fun J2 f2 => ⟨_, rfl, ?_⟩
      rw [g1, csA_eq (fun v hv => l1 v hv), fs_LM f]
      exact hK J2 (FS_trans f1 (FS_fd f2))
  · by_cases c1 : 0 ≤ x1 ∧ x1 ≤ 3
    · obtain ⟨v, rfl⟩ : ∃ v : Nat, x1 = v := ⟨x1.toNat, by omega⟩
      have hv : v < 4 := by omega
      refine both_q (csV (I 238) v (LM I 238 114 v)) h (fun K hK => ?_) (fun J f hJ K hK => ?_)
      · refine e73 ?_
        unfold D73_0
        rw [if_neg c0]
        refine k_isVan ⟨_, rfl, ?_⟩
        rw [b2i_t c1, if_neg (by decide)]
        refine k_costOf (r := 29) rd29 hv hG h.1.2 h.2.1.1 (rl_oc h) fun J' f => ⟨fun _ => ⟨_, rfl, ?_⟩, fun z => absurd ?_ z⟩
        · rw [rl_eq h hv]
          exact hK J' (FS_fp f)
        · rw [rl_eq h hv]
          exact h.2.1.2.2.2.2.2.2 v hv
      · have e5 : J 238 = I 238 := fs238 f
        refine e193 ?_
        unfold D193_0
        rw [if_neg c0]
        refine m_isVan ⟨_, rfl, ?_⟩
        rw [b2i_t c1, if_neg (by decide)]
        unfold D193_14
        refine m_lk hJ fun J1 f1 s1 o1 l1 => ⟨rfl, ?_⟩
        have g1 : J1 238 = I 238 := (fs238 f1).trans e5
        rw [if_pos (by omega)]
        refine m_costOfVan s0_241 (by decide) (by decide) hv (by rw [g1]; exact hG) s1 o1 fun J2 f2 => ⟨_, rfl, ?_⟩
        rw [g1, l1 v hv, fs_LM f]
        exact hK J2 (FS_trans f1 (FS_fd f2))
    · refine both_q (-1) h (fun K hK => ?_) (fun J f hJ K hK => ?_)
      · refine e73 ?_
        unfold D73_0
        rw [if_neg c0]
        refine k_isVan ⟨_, rfl, ?_⟩
        rw [b2i_f c1, if_pos rfl]
        exact hK I FS_refl
      · refine e193 ?_
        unfold D193_0
        rw [if_neg c0]
        refine m_isVan ⟨_, rfl, ?_⟩
        rw [b2i_f c1, if_pos rfl]
        exact hK J FS_refl
/-- the bits of those that are left -/
def lfb (R : Nat → List Int) : Nat → Int
  | 0 => 0
  | k + 1 => if vanF R (k : Int) < 0 then iorF (lfb R k) (ishlF 1 (k : Int)) else iorF (lfb R k) 0
theorem bt_or0 {S : Int} {o : Nat} : bt (iorF S 0) o = bt S o := by
  unfold bt iorF
  rw [Int32.ofInt_toInt, Int32.toBitVec_or, BitVec.getLsbD_or]
  have : (Int32.ofInt 0).toBitVec.getLsbD o = false := @bt_0 o
  rw [this, Bool.or_false]
theorem lfb_in {R : Nat → List Int} : ∀ k, inR (lfb R k)
  | 0 => by unfold lfb inR; omega
  | k + 1 => by
    unfold lfb
    split <;> exact ior_in
theorem bt_lfb {R : Nat → List Int} {o : Nat} (ho : o < 32) : ∀ k, k ≤ 12 → (bt (lfb R k) o = true ↔ (o < k ∧ vanF R (o : Int) < 0))
  | 0, _ => by
    unfold lfb
    rw [bt_0]
    constructor
    · intro z; cases z
    · intro z; omega
  | k + 1, hk => by
    have ih := bt_lfb (R := R) ho k (by omega)
    unfold lfb
    split
    · rename_i c
      rw [bt_or (by omega) ho, Bool.or_eq_true, ih, decide_eq_true_eq]
      constructor
      · rintro (z | z)
        · exact ⟨by omega, z.2⟩
        · rw [z]; exact ⟨by omega, c⟩
      · intro z
        by_cases e : o = k
        · exact Or.inr e
        · exact Or.inl ⟨by omega, z.2⟩
    · rename_i c
      rw [bt_or0, ih]
      constructor
      · intro z; exact ⟨by omega, z.2⟩
      · intro z
        by_cases e : o = k
        · rw [e] at z; exact absurd z.2 c
        · exact ⟨by omega, z.2⟩
theorem msk_f : ∀ n : Fin 13, ∀ o : Fin 32, bt (ishlF 1 (n.1 : Int) - 1) o.1 = decide (o.1 < n.1) := by decide +kernel
theorem msk_in : ∀ n : Fin 13, inR (ishlF 1 (n.1 : Int) - 1) := by decide +kernel
theorem m1_f : ∀ o : Fin 32, (Int32.ofInt (-1)).toBitVec.getLsbD o.1 = true := by decide +kernel
theorem bt_not {A S : Int} {o : Nat} (ho : o < 32) : bt (iandF A (ixorF S (-1))) o = (bt A o && !bt S o) := by
  unfold bt iandF ixorF
  rw [Int32.ofInt_toInt, Int32.ofInt_toInt, Int32.toBitVec_and, BitVec.getLsbD_and, Int32.toBitVec_xor, BitVec.getLsbD_xor, m1_f ⟨o, ho⟩, Bool.xor_true]
theorem s_left {I : IM} (h : REL I) : BOTH 74 196 [] I := by
  have hn := h.1.1.1
  have hcn : I 1 0 = I 238 5 := h.1.2.1
  obtain ⟨n, en⟩ : ∃ n : Nat, I 238 5 = n := ⟨(I 238 5).toNat, by omega⟩
  refine both_q (lfb (LM I 238 114) n) h (fun K hK => ?_) (fun J f hJ K hK => ?_)
  · refine e74 ?_
    unfold D74_0
    rw [hcn, en]
    refine ⟨msk_in ⟨n, by omega⟩, k_bits rd29 h.2.1.1 (rl_oc h) fun S hS => ⟨_, rfl, ?_⟩⟩
    have e : iandF (ishlF 1 (n : Int) - 1) (ixorF S (-1)) = lfb (LM I 238 114) n := by
      refine bt_eq (by unfold iandF; exact i32_in _) (lfb_in n) fun o ho => ?_
      have a := bt_lfb (R := LM I 238 114) ho n (by omega)
      have b := hS.2 o ho
      rw [vanF_eq (R' := LM I 238 114) (fun v hv => rl_eq h hv)] at b
      have mk : bt (ishlF 1 (n : Int) - 1) o = decide (o < n) := msk_f ⟨n, by omega⟩ ⟨o, ho⟩
      rw [bt_not ho, mk, Bool.eq_iff_iff, a, Bool.and_eq_true, decide_eq_true_eq, Bool.not_eq_true', Bool.eq_false_iff, ne_eq, b]
      constructor
      · intro z; exact ⟨z.1, by omega⟩
      · intro z; exact ⟨z.1, by omega⟩
    rw [e]
    exact hK I FS_refl
  · have e5 : J 238 = I 238 := fs238 f
    refine e196 ?_
    unfold D196_0
    have key : ∀ j k : Nat, k + j = n → GO S0 196 4 [vR 237, vI (lfb (LM I 238 114) k), vI (k : Int)] [] J K := by
      intro j
      induction j with
      | zero =>
        intro k e
        refine g196_4 _ _ J K ?_
        unfold D196_4
        rw [e5, en, if_pos (by omega), show k = n by omega]
        exact hK J FS_refl
      | succ j ih =>
        intro k e
        refine g196_4 _ _ J K ?_
        unfold D196_4 inR
        rw [e5, en, if_neg (by omega)]
        refine m_isLeft hJ.2.1.2.1 ⟨_, rfl, ?_⟩
        rw [fs_LM f]
        have := ih (k + 1) (by omega)
        rw [show ((k + 1 : Nat) : Int) = (k : Int) + 1 by omega] at this
        unfold lfb at this
        by_cases c : vanF (LM I 238 114) (k : Int) < 0
        · rw [if_pos c] at this
          rw [b2i_t c, if_neg (by decide)]
          exact ⟨by omega, this⟩
        · rw [if_neg c] at this
          rw [b2i_f c, if_pos rfl]
          exact ⟨by omega, this⟩
    exact key n 0 (Nat.zero_add _)
