/-! level 2: class and model call by call: lay -/
def layP (R : Nat → List Int) (n : Nat) (i : Int) : Nat → Nat → Nat → Nat → (Nat → Int) → (Nat → Int) × Int
  | 0, _, _, _, A => (A, 0)
  | f + 1, v, s, k, A => if 4 ≤ v then (A, (k : Int) - i) else if (R v).length < s then layP R n i f (v + 1) 0 k A else if k < n then layP R n i f v (s + 1) (k + 1) (fun j => if j = k then ((R v)[s]?).getD (-1) else A j) else (A, -13)
theorem k_layL {r n : Nat} {x2 : Int} {R : Nat → List Int} {I : IM} {K : Option AV → IM → Prop} (hr : r < 4) (hn : I 236 r = n) (hn40 : n ≤ 40) (hx : 0 ≤ x2 ∧ x2 ≤ 40) (hl : ∀ v, v < 4 → I 30 v = ((R v).length : Int)) (hl12 : ∀ v, v < 4 → (R v).length ≤ 12) (hg : ∀ v k, v < 4 → k < (R v).length → (R v)[k]? = some (I (32 + v) k)) : ∀ f v s k A J, v ≤ 4 → s ≤ 13 → (v = 4 → s = 0) → 14 * (4 - v) + 1 ≤ f + s → k ≤ 40 → (∀ o j, o ≠ 232 + r → J o j = I o j) → (∀ j, j < n → J (232 + r) j = A j) → (∀ J', (∀ o j, o ≠ 232 + r → J' o j = I o j) → (∀ j, j < n → J' (232 + r) j = (layP R n x2 f v s k A).1 j) → K (some (vI (layP R n x2 f v s k A).2)) J') → (v < 4 → GO S0 120 56 [vR 0, vI (r : Int), vI x2, vI (k : Int), vI (v : Int), vI (s : Int)] [] J K) ∧ (s = 0 → ∀ u, GO S0 120 47 [vR 0, vI (r : Int), vI x2, vI (k : Int), vI (v : Int), u] [] J K) := by
  intro f
  induction f with
  | zero => intro v s k A J a1 a2 a3 a4; omega
  | succ f ih =>
    intro v s k A J a1 a2 a3 a4 a5 fJ gJ hK
    have main : v < 4 → GO S0 120 56 [vR 0, vI (r : Int), vI x2, vI (k : Int), vI (v : Int), vI (s : Int)] [] J K := by
      intro hv
      refine g120_56 _ _ _ _ _ J K ?_
      unfold D120_56 inR
      rw [Int.toNat_natCast, Int.toNat_natCast, fJ 30 v (by omega), fJ 236 r (by omega), hl v hv, hn]
      refine ⟨by omega, ?_⟩
      unfold layP at hK
      rw [if_neg (by omega)] at hK
      have l12 := hl12 v hv
      by_cases c : (R v).length < s
      · rw [if_pos c] at hK
        rw [if_pos (by omega)]
        refine ⟨by omega, ?_⟩
        have := (ih (v + 1) 0 k A J (by omega) (by omega) (by omega) (by omega) a5 fJ gJ hK).2 rfl (vI (s : Int))
        exact this
      · rw [if_neg c] at hK
        rw [if_neg (by omega)]
        refine ⟨by omega, ?_⟩
        by_cases d : k < n
        · rw [if_pos d] at hK
          rw [if_pos (by omega)]
          have nx : ∀ x J', J' = iup J (232 + r) k x → x = ((R v)[s]?).getD (-1) → GO S0 120 56 [vR 0, vI (r : Int), vI x2, vI ((k : Int) + 1), vI (v : Int), vI ((s : Int) + 1)] [] J' K := by
            intro x J' e ex
            have := (ih v (s + 1) (k + 1) (fun j => if j = k then ((R v)[s]?).getD (-1) else A j) J' a1 (by omega) (by omega) (by omega) (by omega) (fun o j b => by rw [e, iup_ne (Or.inl b)]; exact fJ o j b) (fun j hj => by
              by_cases y : j = k
              · rw [e, y, iup_same, ex]; simp
              · rw [e, iup_ne (Or.inr y), gJ j hj]; simp [y]) hK).1 hv
            exact this
          by_cases w : (R v).length ≤ s
          · rw [if_pos (by omega)]
            refine ⟨by omega, fun I8 e8 => ⟨by omega, by omega, nx (-1) I8 (by rw [e8, Int.toNat_natCast]) ?_⟩⟩
            rw [List.getElem?_eq_none w]
            rfl
          · rw [if_neg (by omega), Int.toNat_natCast, Int.toNat_natCast]
            refine ⟨by omega, by omega, fun I13 e13 => ⟨by omega, by omega, nx _ I13 e13 ?_⟩⟩
            rw [hg v s hv (by omega), fJ _ _ (by omega), show 29 + 3 + v = 32 + v by omega]
            rfl
        · rw [if_neg d] at hK
          rw [if_neg (by omega)]
          exact hK J fJ gJ
    refine ⟨main, fun hs u => ?_⟩
    subst hs
    refine g120_47 _ _ _ _ _ J K ?_
    unfold D120_47 inR
    by_cases hv : v < 4
    · rw [if_neg (by omega)]
      exact main hv
    · rw [if_pos (by omega)]
      unfold layP at hK
      rw [if_pos (by omega)] at hK
      exact ⟨by omega, hK J fJ gJ⟩
theorem m_layL {r n : Nat} {x2 : Int} {R : Nat → List Int} {I : IM} {K : Option AV → IM → Prop} (hr : r < 4) (hn : I 250 r = n) (hn40 : n ≤ 40) (hx : 0 ≤ x2 ∧ x2 ≤ 40) (hl : ∀ v, v < 4 → I 238 (114 + 13 * v) = ((R v).length : Int)) (hl12 : ∀ v, v < 4 → (R v).length ≤ 12) (hg : ∀ v k, v < 4 → k < (R v).length → (R v)[k]? = some (I 238 (114 + 13 * v + 1 + k))) : ∀ f v s k A J, v ≤ 4 → s ≤ 13 → (v = 4 → s = 0) → 14 * (4 - v) + 1 ≤ f + s → k ≤ 40 → (∀ o j, (o ≠ 251 ∨ j < 40 * r ∨ 40 * r + 40 ≤ j) → J o j = I o j) → (∀ j, j < n → J 251 (40 * r + j) = A j) → (∀ J', (∀ o j, (o ≠ 251 ∨ j < 40 * r ∨ 40 * r + 40 ≤ j) → J' o j = I o j) → (∀ j, j < n → J' 251 (40 * r + j) = (layP R n x2 f v s k A).1 j) → K (some (vI (layP R n x2 f v s k A).2)) J') → (v < 4 → GO S0 246 48 [vR 237, vI (r : Int), vI x2, vI (k : Int), vI (v : Int), vI (s : Int)] [] J K) ∧ (s = 0 → ∀ u, GO S0 246 39 [vR 237, vI (r : Int), vI x2, vI (k : Int), vI (v : Int), u] [] J K) := by
  intro f
  induction f with
  | zero => intro v s k A J a1 a2 a3 a4; omega
  | succ f ih =>
    intro v s k A J a1 a2 a3 a4 a5 fJ gJ hK
    have main : v < 4 → GO S0 246 48 [vR 237, vI (r : Int), vI x2, vI (k : Int), vI (v : Int), vI (s : Int)] [] J K := by
      intro hv
      refine g246_48 _ _ _ _ _ J K ?_
      unfold D246_48 inR
      refine m_stopsOf (by omega) ⟨_, rfl, ?_⟩
      rw [Int.toNat_natCast, Int.toNat_natCast, fJ 238 _ (by omega), fJ 250 r (by omega), hl v hv, hn]
      unfold layP at hK
      rw [if_neg (by omega)] at hK
      have l12 := hl12 v hv
      by_cases c : (R v).length < s
      · rw [if_pos c] at hK
        rw [if_pos (by omega)]
        refine ⟨by omega, ?_⟩
        exact (ih (v + 1) 0 k A J (by omega) (by omega) (by omega) (by omega) a5 fJ gJ hK).2 rfl (vI (s : Int))
      · rw [if_neg c] at hK
        rw [if_neg (by omega)]
        refine ⟨by omega, ?_⟩
        by_cases d : k < n
        · rw [if_pos d] at hK
          rw [if_pos (by omega)]
          refine ⟨by omega, by omega, m_stopsOf (by omega) ⟨_, rfl, ?_⟩⟩
          rw [Int.toNat_natCast, fJ 238 _ (by omega), hl v hv, show (40 * (r : Int) + (k : Int)).toNat = 40 * r + k by omega]
          have nx : ∀ x J', J' = iup J 251 (40 * r + k) x → x = ((R v)[s]?).getD (-1) → GO S0 246 48 [vR 237, vI (r : Int), vI x2, vI ((k : Int) + 1), vI (v : Int), vI ((s : Int) + 1)] [] J' K := by
            intro x J' e ex
            have := (ih v (s + 1) (k + 1) (fun j => if j = k then ((R v)[s]?).getD (-1) else A j) J' a1 (by omega) (by omega) (by omega) (by omega) (fun o j b => by rw [e, iup_ne (by omega)]; exact fJ o j b) (fun j hj => by
              by_cases y : j = k
              · rw [e, y, iup_same, ex]; simp
              · rw [e, iup_ne (Or.inr (by omega)), gJ j hj]; simp [y]) hK).1 hv
            exact this
          by_cases w : (R v).length ≤ s
          · rw [if_pos (by omega)]
            refine ⟨by omega, fun I8 e8 => ⟨by omega, by omega, nx (-1) I8 e8 ?_⟩⟩
            rw [List.getElem?_eq_none w]
            rfl
          · rw [if_neg (by omega), show (114 + 13 * (v : Int) + 1 + (s : Int)).toNat = 114 + 13 * v + 1 + s by omega]
            refine ⟨by omega, by omega, by omega, by omega, by omega, by omega, fun I13 e13 => ⟨by omega, by omega, nx _ I13 e13 ?_⟩⟩
            rw [hg v s hv (by omega), fJ _ _ (by omega)]
            rfl
        · rw [if_neg d] at hK
          rw [if_neg (by omega)]
          exact hK J fJ gJ
    refine ⟨main, fun hs u => ?_⟩
    subst hs
    refine g246_39 _ _ _ _ _ J K ?_
    unfold D246_39 inR
    by_cases hv : v < 4
    · rw [if_neg (by omega)]
      exact main hv
    · rw [if_pos (by omega)]
      unfold layP at hK
      rw [if_pos (by omega)] at hK
      exact ⟨by omega, hK J fJ gJ⟩
theorem rl_getC {I : IM} (h : REL I) : ∀ v k, v < 4 → k < (LM I 238 114 v).length → (LM I 238 114 v)[k]? = some (I (32 + v) k) := by
  intro v k hv hk
  rw [← rl_eq h hv] at hk ⊢
  rw [LC_get (by rw [LC_len] at hk; exact hk), show 29 + 3 + v = 32 + v by omega]
theorem LM_get {I : IM} {q b v k : Nat} (hk : k < (LM I q b v).length) : (LM I q b v)[k]? = some (I q (b + 13 * v + 1 + k)) := by
  rw [LM_len] at hk
  unfold LM
  exact ln_get hk
theorem s_lay {x1 x2 : Int} {I : IM} (h : REL I) (hx2 : inR x2) : BOTH 120 246 [vI x1, vI x2] I := by
  by_cases c0 : 0 ≤ x1 ∧ x1 ≤ 3
  · obtain ⟨r, rfl⟩ : ∃ r : Nat, x1 = r := ⟨x1.toNat, by omega⟩
    rcases h.2.2.2.2.2.2 r (by omega) with ⟨z1, z2⟩ | ⟨z1, z2, z3, z4⟩
    · refine both_q (-11) h (fun K hK => ?_) (fun J f hJ K hK => ?_)
      · refine e120 ?_
        unfold D120_0
        refine k_isRow ⟨_, rfl, ?_⟩
        rw [b2i_t c0, if_neg (by decide), Int.toNat_natCast, if_pos z1]
        exact ⟨by omega, hK I FS_refl⟩
      · refine e246 ?_
        unfold D246_0
        refine m_isRow ⟨_, rfl, ?_⟩
        rw [b2i_t c0, if_neg (by decide), Int.toNat_natCast, f 250 r (by unfold SCR; omega), if_neg (by omega)]
        exact ⟨by omega, hK J FS_refl⟩
    · by_cases c1 : 0 ≤ x2 ∧ x2 ≤ I 250 r - 1
      · obtain ⟨i, rfl⟩ : ∃ r : Nat, x2 = r := ⟨x2.toNat, by omega⟩
        obtain ⟨n, hn⟩ : ∃ n : Nat, I 250 r = n := ⟨(I 250 r).toNat, by omega⟩
        rw [hn] at z1 z2 z3 z4 c1
        unfold BOTH
        refine e120 ?_
        unfold D120_0 inR
        refine k_isRow ⟨_, rfl, ?_⟩
        rw [b2i_t c0, if_neg (by decide), Int.toNat_natCast, if_neg (by omega), z1]
        refine ⟨by omega, by omega, k_within ⟨_, rfl, ?_⟩⟩
        rw [b2i_t c1, if_neg (by decide)]
        refine (k_layL (R := LM I 238 114) (by omega) z1 (by omega) (by omega) (fun v hv => CF_len (rel_CF h) hv) (fun v hv => LM_le h.2.1.2.1 hv) (rl_getC h) 57 0 0 i (fun j => I (232 + r) j) I (by omega) (by omega) (by omega) (by omega) (by omega) (fun _ _ _ => rfl) (fun _ _ => rfl) fun J1 f1 g1 => ?_).2 rfl vU
        refine ⟨_, rfl, e246 ?_⟩
        unfold D246_0
        refine m_isRow ⟨_, rfl, ?_⟩
        rw [b2i_t c0, if_neg (by decide), Int.toNat_natCast, f1 250 r (by omega), hn, if_pos (by omega), if_pos (by omega)]
        refine ⟨by omega, ?_⟩
        refine (m_layL (R := LM I 238 114) (I := J1) (by omega) (by rw [f1 250 r (by omega)]; exact hn) (by omega) (by omega) (fun v hv => by rw [f1 238 _ (by omega)]; exact MF_len (rel_MF h) hv) (fun v hv => LM_le h.2.1.2.1 hv) (fun v k hv hk => by rw [f1 238 _ (by omega)]; exact LM_get hk) 57 0 0 i (fun j => I (232 + r) j) J1 (by omega) (by omega) (by omega) (by omega) (by omega) (fun _ _ _ => rfl) (fun j hj => by rw [f1 251 _ (by omega)]; exact (z4 j (by omega)).symm) fun J2 f2 g2 => ?_).2 rfl vU
        have := rel_row (J1 := J1) (J2 := J2) h (r := r) (by omega) (fun o k a b => f1 o k b) (fun o k a b => f2 o k b) (Or.inr ⟨by rw [f2 236 r (by omega), f1 236 r (by omega), f2 250 r (by omega), f1 250 r (by omega), z1, hn], by rw [f2 250 r (by omega), f1 250 r (by omega)]; omega, by rw [f2 250 r (by omega), f1 250 r (by omega)]; omega, fun k hk => by
          rw [f2 250 r (by omega), f1 250 r (by omega)] at hk
          rw [f2 (232 + r) k (by omega), g1 k (by omega), g2 k (by omega)]⟩)
        exact ⟨rfl, this.1, this.2⟩
      · refine both_q (-13) h (fun K hK => ?_) (fun J f hJ K hK => ?_)
        · refine e120 ?_
          unfold D120_0 inR
          refine k_isRow ⟨_, rfl, ?_⟩
          rw [b2i_t c0, if_neg (by decide), Int.toNat_natCast, if_neg (by omega), z1]
          refine ⟨by omega, by omega, k_within ⟨_, rfl, ?_⟩⟩
          rw [b2i_f c1, if_pos rfl]
          exact hK I FS_refl
        · have e250 : J 250 r = I 250 r := f 250 r (by unfold SCR; omega)
          have fin : ∀ k : Int, I 250 r ≤ k → ∀ u, GO S0 246 39 [vR 237, vI (r : Int), vI x2, vI k, vI 0, u] [] J K := by
            intro k hk u
            refine g246_39 _ _ _ _ _ J K ?_
            unfold D246_39
            rw [if_neg (by omega)]
            refine g246_48 _ _ _ _ _ J K ?_
            unfold D246_48
            have sz := h.2.1.2.1 0 (by omega)
            refine m_stopsOf (by omega) ⟨_, rfl, ?_⟩
            rw [fs238 f, if_neg (by show ¬ I 238 (114 + 13 * 0) < 0; omega), Int.toNat_natCast, e250, if_neg (by omega)]
            exact ⟨by omega, hK J FS_refl⟩
          refine e246 ?_
          unfold D246_0
          refine m_isRow ⟨_, rfl, ?_⟩
          rw [b2i_t c0, if_neg (by decide), Int.toNat_natCast, e250, if_pos z2]
          refine ⟨by omega, ?_⟩
          split
          · exact fin x2 (by omega) vU
          · exact fin _ (Int.le_refl _) vU
  · refine both_q (-1) h (fun K hK => ?_) (fun J f hJ K hK => ?_)
    · refine e120 ?_
      unfold D120_0
      refine k_isRow ⟨_, rfl, ?_⟩
      rw [b2i_f c0, if_pos rfl]
      exact hK I FS_refl
    · refine e246 ?_
      unfold D246_0
      refine m_isRow ⟨_, rfl, ?_⟩
      rw [b2i_f c0, if_pos rfl]
      exact hK J FS_refl
