/-! level 2: class and model call by call: what rounds tell -/
theorem both_q {cm mm : Nat} {as : List AV} {I : IM} (a : Int) (h : REL I) (hc : ∀ K : Option AV → IM → Prop, (∀ J, FS I J → K (some (vI a)) J) → CALL S0 cm (vR 0 :: as) I K) (hm : ∀ J, FS I J → REL J → ∀ K : Option AV → IM → Prop, (∀ J', FS J J' → K (some (vI a)) J') → CALL S0 mm (vR 237 :: as) J K) : BOTH cm mm as I :=
  hc _ fun J f => ⟨a, rfl, hm J f (REL_fr h f) _ fun J' f' => ⟨rfl, REL_fr (REL_fr h f) f', SC_trans (SC_fs f) (SC_fs f')⟩⟩
theorem both_ql {cm mm : Nat} {as : List AV} {I : IM} (a : Int) (h : REL I) (hc : ∀ K : Option AV → IM → Prop, (∀ J, FS I J → K (some (vL a)) J) → CALL S0 cm (vR 0 :: as) I K) (hm : ∀ J, FS I J → REL J → ∀ K : Option AV → IM → Prop, (∀ J', FS J J' → K (some (vL a)) J') → CALL S0 mm (vR 237 :: as) J K) : BOTHL cm mm as I :=
  hc _ fun J f => ⟨a, rfl, hm J f (REL_fr h f) _ fun J' f' => ⟨rfl, REL_fr (REL_fr h f) f', SC_trans (SC_fs f) (SC_fs f')⟩⟩
theorem fs238 {I J : IM} (f : FS I J) : J 238 = I 238 := FS_o f (fun k => by unfold SCR; omega)
theorem fs29 {I J : IM} (f : FS I J) {o k : Nat} (ho : o < 71) : J o k = I o k := f o k (by unfold SCR; omega)
theorem rl_om {I : IM} (h : REL I) : OM I 238 114 := fun v hv x hx => by
  have a := h.2.1.2.2.2.2.1 v hv x hx
  have b := h.1.1.1
  omega
theorem rl_eq {I : IM} (h : REL I) {v : Nat} (hv : v < 4) : LC I 29 v = LM I 238 114 v := h.2.1.2.2.1 v hv
theorem rl_oc {I : IM} (h : REL I) : OC I 29 := fun v hv x hx => rl_om h v hv x (by rw [← rl_eq h hv]; exact hx)
theorem fs_LM {I J : IM} (f : FS I J) : LM J 238 114 = LM I 238 114 := by
  funext v
  unfold LM ln
  rw [fs238 f]
theorem cpd_fs {I : IM} {c sp d n : Nat} (hd : ∀ k, SCR d k) : FS I (cpd I c sp d 0 n) := fun o k a => if_neg (fun z => a (by rw [z.1]; exact hd k))
theorem cpd_at {I : IM} {c sp d n k : Nat} (hk : k < n) : cpd I c sp d 0 n d k = I c (sp + k) := by
  unfold cpd
  rw [if_pos (by omega), Nat.sub_zero]
theorem cpd_SZ {I : IM} {c sp d : Nat} (h : SZM I c sp) : SZM (cpd I c sp d 0 52) d 0 := fun v hv => by
  rw [cpd_at (by omega), Nat.zero_add]
  exact h v hv
theorem cpd_LM {I : IM} {c sp d : Nat} (h : SZM I c sp) {v : Nat} (hv : v < 4) : LM (cpd I c sp d 0 52) d 0 v = LM I c sp v := LM_congr (h v hv) (fun k hk => by rw [Nat.zero_add, cpd_at (by omega)]; congr 1; omega)
theorem m_lk {I : IM} {K : Option AV → IM → Prop} (h : REL I) (hK : ∀ J, FS I J → SZM J 241 0 → OM J 241 0 → (∀ v, v < 4 → LM J 241 0 v = LM I 238 114 v) → K none J) : CALL S0 183 [vR 237] I K :=
  m_looks (hK _ (cpd_fs (fun k => by unfold SCR; omega)) (cpd_SZ h.2.1.2.1) (fun v hv x hx => rl_om h v hv x (by rw [← cpd_LM (d := 241) h.2.1.2.1 hv]; exact hx)) (fun v hv => cpd_LM h.2.1.2.1 hv))
theorem idx_ne {o : Int} : ∀ {L : List Int} {i : Nat}, i < idx o L → L[i]? ≠ some o
  | [], i, h => by simp
  | x :: l, 0, h => by
    unfold idx at h
    split at h
    · omega
    · rename_i c; simp [c]
  | x :: l, i + 1, h => by
    unfold idx at h
    split at h
    · omega
    · have := idx_ne (o := o) (L := l) (i := i) (by omega)
      simpa using this
theorem vanF_mem {R : Nat → List Int} {o : Int} (h : 0 ≤ vanF R o) : (vanF R o).toNat < 4 ∧ o ∈ R (vanF R o).toNat ∧ placeF R o = idx o (R (vanF R o).toNat) := by
  unfold vanF at h ⊢
  unfold placeF
  by_cases m0 : o ∈ R 0
  · simp [m0]
  · by_cases m1 : o ∈ R 1
    · simp [m0, m1]
    · by_cases m2 : o ∈ R 2
      · simp [m0, m1, m2]
      · by_cases m3 : o ∈ R 3
        · simp [m0, m1, m2, m3]
        · simp [m0, m1, m2, m3] at h
theorem placeF_neg {R : Nat → List Int} {o : Int} (h : vanF R o < 0) : placeF R o = -1 := by
  have := vanF_neg.mp h
  unfold placeF
  rw [if_neg (this 0 (by omega)), if_neg (this 1 (by omega)), if_neg (this 2 (by omega)), if_neg (this 3 (by omega))]
theorem m_placeOf {o : Int} {I : IM} {K : Option AV → IM → Prop} (hs : SZM I 238 114) (hv : 0 ≤ vanF (LM I 238 114) o) (h : K (some (vI (placeF (LM I 238 114) o))) I) : CALL S0 177 [vR 237, vI o] I K := by
  refine e177 ?_
  unfold D177_0
  refine m_vanOf hs ⟨_, rfl, ?_⟩
  obtain ⟨h1, h2, h3⟩ := vanF_mem hv
  rw [h3] at h
  generalize hw : (vanF (LM I 238 114) o).toNat = v at h1 h2 h
  rw [show vanF (LM I 238 114) o = (v : Int) by omega]
  have il := idx_lt h2
  have sz := hs v h1
  rw [LM_len] at il
  have key : ∀ j k : Nat, k + j = idx o (LM I 238 114 v) → GO S0 177 8 [vR 237, vI o, vI (v : Int), vI (k : Int)] [] I K := by
    intro j
    induction j with
    | zero =>
      intro k e
      refine g177_8 _ _ _ I K ?_
      unfold D177_8 inR
      have e2 := il.2
      rw [← e, Nat.add_zero] at e2
      unfold LM at e2
      rw [ln_get (by omega)] at e2
      rw [show (114 + 13 * (v : Int) + 1 + (k : Int)).toNat = 114 + 13 * v + 1 + k by omega, Option.some.inj e2, if_pos rfl]
      refine ⟨by omega, by omega, by omega, by omega, by omega, ?_⟩
      rw [show k = idx o (LM I 238 114 v) by omega]
      exact h
    | succ j ih =>
      intro k e
      refine g177_8 _ _ _ I K ?_
      unfold D177_8 inR
      have e2 := idx_ne (o := o) (L := LM I 238 114 v) (i := k) (by omega)
      unfold LM at e2
      rw [ln_get (by omega)] at e2
      rw [show (114 + 13 * (v : Int) + 1 + (k : Int)).toNat = 114 + 13 * v + 1 + k by omega, if_neg (fun z => e2 (by rw [z]))]
      refine ⟨by omega, by omega, by omega, by omega, by omega, by omega, ?_⟩
      exact ih (k + 1) (by omega)
  exact key _ 0 (Nat.zero_add _)
theorem s_of {x1 x2 : Int} {I : IM} (h : REL I) : BOTH 58 176 [vI x1, vI x2] I := by
  have hcn : I 1 0 = I 238 5 := h.1.2.1
  have hcr := h.1.1.1
  by_cases c0 : 0 ≤ x1 ∧ x1 < I 238 5
  · have bk : ∀ w, w < 8 → I (2 + w) x1.toNat = I 238 (6 + 8 * x1.toNat + w) := fun w hw => by
      have e := h.1.2.2.1 x1.toNat (by omega) w hw
      rw [show 1 + 1 + w = 2 + w by omega] at e
      exact e
    have eV : vanF (LC I 29) x1 = vanF (LM I 238 114) x1 := vanF_eq (fun v hv => rl_eq h hv) x1
    have eP : placeF (LC I 29) x1 = placeF (LM I 238 114) x1 := placeF_eq (fun v hv => rl_eq h hv) x1
    have vr := @vanF_r (LM I 238 114) x1
    by_cases c1 : 0 ≤ x2 ∧ x2 ≤ 9
    · rcases (show x2 = 0 ∨ x2 = 1 ∨ x2 = 2 ∨ x2 = 3 ∨ x2 = 4 ∨ x2 = 5 ∨ x2 = 6 ∨ x2 = 7 ∨ x2 = 8 ∨ x2 = 9 by omega) with e | e | e | e | e | e | e | e | e | e <;> subst e
      · refine both_q (I 238 (6 + 8 * x1.toNat + 0)) h (fun K hK => ?_) (fun J f hJ K hK => ?_)
        · refine e58 ?_
          unfold D58_0
          refine k_isOrder ⟨_, rfl, ?_⟩
          rw [hcn, b2i_t c0, if_neg (by decide), if_pos rfl]
          exact ⟨by omega, by rw [show I 2 x1.toNat = I 238 (6 + 8 * x1.toNat + 0) from bk 0 (by omega)]; exact hK I FS_refl⟩
        · have e5 : J 238 = I 238 := fs238 f
          refine e176 ?_
          unfold D176_0
          refine m_isOrder hJ.1.1.1 ⟨_, rfl, ?_⟩
          rw [e5, b2i_t c0, if_neg (by decide)]
          refine m_isIn ⟨_, rfl, ?_⟩
          rw [show b2i ((0 : Int) ≤ 0 ∧ (0 : Int) ≤ 9) = 1 from rfl, if_neg (by decide), if_neg (by decide)]
          refine m_ofOrder (by omega) (by omega) ⟨_, rfl, ?_⟩
          rw [e5]
          exact hK J FS_refl
      · refine both_q (I 238 (6 + 8 * x1.toNat + 1)) h (fun K hK => ?_) (fun J f hJ K hK => ?_)
        · refine e58 ?_
          unfold D58_0
          refine k_isOrder ⟨_, rfl, ?_⟩
          rw [hcn, b2i_t c0, if_neg (by decide), if_neg (by decide), if_pos rfl]
          exact ⟨by omega, by rw [show I 3 x1.toNat = I 238 (6 + 8 * x1.toNat + 1) from bk 1 (by omega)]; exact hK I FS_refl⟩
        · have e5 : J 238 = I 238 := fs238 f
          refine e176 ?_
          unfold D176_0
          refine m_isOrder hJ.1.1.1 ⟨_, rfl, ?_⟩
          rw [e5, b2i_t c0, if_neg (by decide)]
          refine m_isIn ⟨_, rfl, ?_⟩
          rw [show b2i ((0 : Int) ≤ 1 ∧ (1 : Int) ≤ 9) = 1 from rfl, if_neg (by decide), if_neg (by decide)]
          refine m_ofOrder (by omega) (by omega) ⟨_, rfl, ?_⟩
          rw [e5]
          exact hK J FS_refl
      · refine both_q (I 238 (6 + 8 * x1.toNat + 2)) h (fun K hK => ?_) (fun J f hJ K hK => ?_)
        · refine e58 ?_
          unfold D58_0
          refine k_isOrder ⟨_, rfl, ?_⟩
          rw [hcn, b2i_t c0, if_neg (by decide), if_neg (by decide), if_neg (by decide), if_pos rfl]
          exact ⟨by omega, by rw [show I 4 x1.toNat = I 238 (6 + 8 * x1.toNat + 2) from bk 2 (by omega)]; exact hK I FS_refl⟩
        · have e5 : J 238 = I 238 := fs238 f
          refine e176 ?_
          unfold D176_0
          refine m_isOrder hJ.1.1.1 ⟨_, rfl, ?_⟩
          rw [e5, b2i_t c0, if_neg (by decide)]
          refine m_isIn ⟨_, rfl, ?_⟩
          rw [show b2i ((0 : Int) ≤ 2 ∧ (2 : Int) ≤ 9) = 1 from rfl, if_neg (by decide), if_neg (by decide)]
          refine m_ofOrder (by omega) (by omega) ⟨_, rfl, ?_⟩
          rw [e5]
          exact hK J FS_refl
      · refine both_q (I 238 (6 + 8 * x1.toNat + 3)) h (fun K hK => ?_) (fun J f hJ K hK => ?_)
        · refine e58 ?_
          unfold D58_0
          refine k_isOrder ⟨_, rfl, ?_⟩
          rw [hcn, b2i_t c0, if_neg (by decide), if_neg (by decide), if_neg (by decide), if_neg (by decide), if_pos rfl]
          exact ⟨by omega, by rw [show I 5 x1.toNat = I 238 (6 + 8 * x1.toNat + 3) from bk 3 (by omega)]; exact hK I FS_refl⟩
        · have e5 : J 238 = I 238 := fs238 f
          refine e176 ?_
          unfold D176_0
          refine m_isOrder hJ.1.1.1 ⟨_, rfl, ?_⟩
          rw [e5, b2i_t c0, if_neg (by decide)]
          refine m_isIn ⟨_, rfl, ?_⟩
          rw [show b2i ((0 : Int) ≤ 3 ∧ (3 : Int) ≤ 9) = 1 from rfl, if_neg (by decide), if_neg (by decide)]
          refine m_ofOrder (by omega) (by omega) ⟨_, rfl, ?_⟩
          rw [e5]
          exact hK J FS_refl
      · refine both_q (I 238 (6 + 8 * x1.toNat + 4)) h (fun K hK => ?_) (fun J f hJ K hK => ?_)
        · refine e58 ?_
          unfold D58_0
          refine k_isOrder ⟨_, rfl, ?_⟩
          rw [hcn, b2i_t c0, if_neg (by decide), if_neg (by decide), if_neg (by decide), if_neg (by decide), if_neg (by decide), if_pos rfl]
          exact ⟨by omega, by rw [show I 6 x1.toNat = I 238 (6 + 8 * x1.toNat + 4) from bk 4 (by omega)]; exact hK I FS_refl⟩
        · have e5 : J 238 = I 238 := fs238 f
          refine e176 ?_
          unfold D176_0
          refine m_isOrder hJ.1.1.1 ⟨_, rfl, ?_⟩
          rw [e5, b2i_t c0, if_neg (by decide)]
          refine m_isIn ⟨_, rfl, ?_⟩
          rw [show b2i ((0 : Int) ≤ 4 ∧ (4 : Int) ≤ 9) = 1 from rfl, if_neg (by decide), if_neg (by decide)]
          refine m_ofOrder (by omega) (by omega) ⟨_, rfl, ?_⟩
          rw [e5]
          exact hK J FS_refl
      · refine both_q (I 238 (6 + 8 * x1.toNat + 5)) h (fun K hK => ?_) (fun J f hJ K hK => ?_)
        · refine e58 ?_
          unfold D58_0
          refine k_isOrder ⟨_, rfl, ?_⟩
          rw [hcn, b2i_t c0, if_neg (by decide), if_neg (by decide), if_neg (by decide), if_neg (by decide), if_neg (by decide), if_neg (by decide), if_pos rfl]
          exact ⟨by omega, by rw [show I 7 x1.toNat = I 238 (6 + 8 * x1.toNat + 5) from bk 5 (by omega)]; exact hK I FS_refl⟩
        · have e5 : J 238 = I 238 := fs238 f
          refine e176 ?_
          unfold D176_0
          refine m_isOrder hJ.1.1.1 ⟨_, rfl, ?_⟩
          rw [e5, b2i_t c0, if_neg (by decide)]
          refine m_isIn ⟨_, rfl, ?_⟩
          rw [show b2i ((0 : Int) ≤ 5 ∧ (5 : Int) ≤ 9) = 1 from rfl, if_neg (by decide), if_neg (by decide)]
          refine m_ofOrder (by omega) (by omega) ⟨_, rfl, ?_⟩
          rw [e5]
          exact hK J FS_refl
      · refine both_q (I 238 (6 + 8 * x1.toNat + 6)) h (fun K hK => ?_) (fun J f hJ K hK => ?_)
        · refine e58 ?_
          unfold D58_0
          refine k_isOrder ⟨_, rfl, ?_⟩
          rw [hcn, b2i_t c0, if_neg (by decide), if_neg (by decide), if_neg (by decide), if_neg (by decide), if_neg (by decide), if_neg (by decide), if_neg (by decide), if_pos rfl]
          exact ⟨by omega, by rw [show I 8 x1.toNat = I 238 (6 + 8 * x1.toNat + 6) from bk 6 (by omega)]; exact hK I FS_refl⟩
        · have e5 : J 238 = I 238 := fs238 f
          refine e176 ?_
          unfold D176_0
          refine m_isOrder hJ.1.1.1 ⟨_, rfl, ?_⟩
          rw [e5, b2i_t c0, if_neg (by decide)]
          refine m_isIn ⟨_, rfl, ?_⟩
          rw [show b2i ((0 : Int) ≤ 6 ∧ (6 : Int) ≤ 9) = 1 from rfl, if_neg (by decide), if_neg (by decide)]
          refine m_ofOrder (by omega) (by omega) ⟨_, rfl, ?_⟩
          rw [e5]
          exact hK J FS_refl
      · refine both_q (I 238 (6 + 8 * x1.toNat + 7)) h (fun K hK => ?_) (fun J f hJ K hK => ?_)
        · refine e58 ?_
          unfold D58_0
          refine k_isOrder ⟨_, rfl, ?_⟩
          rw [hcn, b2i_t c0, if_neg (by decide), if_neg (by decide), if_neg (by decide), if_neg (by decide), if_neg (by decide), if_neg (by decide), if_neg (by decide), if_neg (by decide), if_pos rfl]
          exact ⟨by omega, by rw [show I 9 x1.toNat = I 238 (6 + 8 * x1.toNat + 7) from bk 7 (by omega)]; exact hK I FS_refl⟩
        · have e5 : J 238 = I 238 := fs238 f
          refine e176 ?_
          unfold D176_0
          refine m_isOrder hJ.1.1.1 ⟨_, rfl, ?_⟩
          rw [e5, b2i_t c0, if_neg (by decide)]
          refine m_isIn ⟨_, rfl, ?_⟩
          rw [show b2i ((0 : Int) ≤ 7 ∧ (7 : Int) ≤ 9) = 1 from rfl, if_neg (by decide), if_neg (by decide)]
          refine m_ofOrder (by omega) (by omega) ⟨_, rfl, ?_⟩
          rw [e5]
          exact hK J FS_refl
      · refine both_q (if vanF (LM I 238 114) x1 = -1 then -5 else vanF (LM I 238 114) x1) h (fun K hK => ?_) (fun J f hJ K hK => ?_)
        · refine e58 ?_
          unfold D58_0
          refine k_isOrder ⟨_, rfl, ?_⟩
          rw [hcn, b2i_t c0, if_neg (by decide), if_neg (by decide), if_neg (by decide), if_neg (by decide), if_neg (by decide), if_neg (by decide), if_neg (by decide), if_neg (by decide), if_neg (by decide), if_pos rfl]
          refine k_vanOf (r := 29) rd29 h.2.1.1 ⟨_, rfl, k_orLacking ⟨_, rfl, ?_⟩⟩
          rw [eV]
          exact hK I FS_refl
        · have e5 : J 238 = I 238 := fs238 f
          refine e176 ?_
          unfold D176_0
          refine m_isOrder hJ.1.1.1 ⟨_, rfl, ?_⟩
          rw [e5, b2i_t c0, if_neg (by decide)]
          refine m_isIn ⟨_, rfl, ?_⟩
          rw [show b2i ((0 : Int) ≤ 8 ∧ (8 : Int) ≤ 9) = 1 from rfl, if_neg (by decide), if_pos (by decide)]
          refine m_isLeft hJ.2.1.2.1 ⟨_, rfl, ?_⟩
          rw [fs_LM f]
          have hh := hK J FS_refl
          by_cases c : vanF (LM I 238 114) x1 = -1
          · rw [if_pos c] at hh
            rw [b2i_t (by omega), if_neg (by decide)]
            exact hh
          · rw [if_neg c] at hh
            rw [b2i_f (by omega), if_pos rfl, if_pos rfl]
            refine m_vanOf hJ.2.1.2.1 ⟨_, rfl, ?_⟩
            rw [fs_LM f]
            exact hh
      · refine both_q (if vanF (LM I 238 114) x1 = -1 then -5 else placeF (LM I 238 114) x1) h (fun K hK => ?_) (fun J f hJ K hK => ?_)
        · refine e58 ?_
          unfold D58_0
          refine k_isOrder ⟨_, rfl, ?_⟩
          rw [hcn, b2i_t c0, if_neg (by decide), if_neg (by decide), if_neg (by decide), if_neg (by decide), if_neg (by decide), if_neg (by decide), if_neg (by decide), if_neg (by decide), if_neg (by decide), if_neg (by decide), if_pos rfl]
          refine k_placeOf (r := 29) rd29 h.2.1.1 ⟨_, rfl, k_orLacking ⟨_, rfl, ?_⟩⟩
          rw [eP]
          have hh := hK I FS_refl
          by_cases c : vanF (LM I 238 114) x1 = -1
          · rw [if_pos c] at hh
            rw [placeF_neg (by omega), if_pos rfl]
            exact hh
          · rw [if_neg c] at hh
            rw [if_neg (by have := (vanF_mem (R := LM I 238 114) (o := x1) (by omega)).2.2; omega)]
            exact hh
        · have e5 : J 238 = I 238 := fs238 f
          refine e176 ?_
          unfold D176_0
          refine m_isOrder hJ.1.1.1 ⟨_, rfl, ?_⟩
          rw [e5, b2i_t c0, if_neg (by decide)]
          refine m_isIn ⟨_, rfl, ?_⟩
          rw [show b2i ((0 : Int) ≤ 9 ∧ (9 : Int) ≤ 9) = 1 from rfl, if_neg (by decide), if_pos (by decide)]
          refine m_isLeft hJ.2.1.2.1 ⟨_, rfl, ?_⟩
          rw [fs_LM f]
          have hh := hK J FS_refl
          by_cases c : vanF (LM I 238 114) x1 = -1
          · rw [if_pos c] at hh
            rw [b2i_t (by omega), if_neg (by decide)]
            exact hh
          · rw [if_neg c] at hh
            rw [b2i_f (by omega), if_pos rfl, if_neg (by decide)]
            refine m_placeOf hJ.2.1.2.1 (by rw [fs_LM f]; omega) ⟨_, rfl, ?_⟩
            rw [fs_LM f]
            exact hh
    · refine both_q (-1) h (fun K hK => ?_) (fun J f hJ K hK => ?_)
      · refine e58 ?_
        unfold D58_0
        refine k_isOrder ⟨_, rfl, ?_⟩
        rw [hcn, b2i_t c0, if_neg (by decide), if_neg (by omega), if_neg (by omega), if_neg (by omega), if_neg (by omega), if_neg (by omega), if_neg (by omega), if_neg (by omega), if_neg (by omega), if_neg (by omega), if_neg (by omega)]
        exact hK I FS_refl
      · refine e176 ?_
        unfold D176_0
        refine m_isOrder hJ.1.1.1 ⟨_, rfl, ?_⟩
        rw [fs238 f, b2i_t c0, if_neg (by decide)]
        refine m_isIn ⟨_, rfl, ?_⟩
        rw [b2i_f c1, if_pos rfl]
        exact hK J FS_refl
  · refine both_q (-1) h (fun K hK => ?_) (fun J f hJ K hK => ?_)
    · refine e58 ?_
      unfold D58_0
      refine k_isOrder ⟨_, rfl, ?_⟩
      rw [hcn, b2i_f c0, if_pos rfl]
      exact hK I FS_refl
    · refine e176 ?_
      unfold D176_0
      refine m_isOrder hJ.1.1.1 ⟨_, rfl, ?_⟩
      rw [fs238 f, b2i_f c0, if_pos rfl]
      exact hK J FS_refl
