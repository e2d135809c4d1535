/-! level 2: class and model call by call: spell -/
theorem VR_total {G : Nat → Int} {R : Nat → List Int} (hG : GR G) (h : VR G R) : (R 0).length + (R 1).length + (R 2).length + (R 3).length ≤ (G 5).toNat := by
  have hn := hG.1
  obtain ⟨_, h2, ⟨h3, h4⟩, _⟩ := h
  have nd : (R 0 ++ (R 1 ++ (R 2 ++ R 3))).Nodup := by
    rw [List.nodup_append, List.nodup_append, List.nodup_append]
    refine ⟨h3 0 (by omega), ⟨h3 1 (by omega), ⟨h3 2 (by omega), h3 3 (by omega), fun a ha b hb e => ?_⟩, fun a ha b hb e => ?_⟩, fun a ha b hb e => ?_⟩
    · rw [e] at ha; exact h4 2 3 (by omega) (by omega) (by omega) b ha hb
    · rw [e] at ha
      rcases List.mem_append.mp hb with z | z
      · exact h4 1 2 (by omega) (by omega) (by omega) b ha z
      · exact h4 1 3 (by omega) (by omega) (by omega) b ha z
    · rw [e] at ha
      rcases List.mem_append.mp hb with z | z
      · exact h4 0 1 (by omega) (by omega) (by omega) b ha z
      · rcases List.mem_append.mp z with z | z
        · exact h4 0 2 (by omega) (by omega) (by omega) b ha z
        · exact h4 0 3 (by omega) (by omega) (by omega) b ha z
  have := nd_len (G 5).toNat _ nd (fun x hx => by
    have q : 0 ≤ x ∧ x < G 5 := by
      rcases List.mem_append.mp hx with z | z
      · exact h2 0 (by omega) x z
      · rcases List.mem_append.mp z with z | z
        · exact h2 1 (by omega) x z
        · rcases List.mem_append.mp z with z | z
          · exact h2 2 (by omega) x z
          · exact h2 3 (by omega) x z
    omega)
  rw [List.length_append, List.length_append, List.length_append] at this
  omega
def num2 (o : Int) : List Int := if o ≤ 9 then [48 + o] else [49, 48 + (o - 10)]
theorem num2_len {o : Int} : (num2 o).length ≤ 2 := by unfold num2; split <;> simp
def spL (T : List Int) : List Int → List Int
  | [] => T
  | o :: l => spL (T ++ (44 :: num2 o)) l
def spV (v : Nat) (L : List Int) (T : List Int) : List Int := match L with
  | [] => T
  | o :: l => spL (T ++ ((if T.length = 0 then [] else [59]) ++ ((48 + (v : Int)) :: 58 :: num2 o))) l
def spA (R : Nat → List Int) : Nat → List Int
  | 0 => []
  | v + 1 => spV v (R v) (spA R v)
def preL (R : Nat → List Int) : Nat → Nat
  | 0 => 0
  | v + 1 => preL R v + (3 * (R v).length + 2)
theorem preL_le {R : Nat → List Int} {v : Nat} : ∀ d, preL R v ≤ preL R (v + d)
  | 0 => Nat.le_refl _
  | d + 1 => by
    have := preL_le (R := R) (v := v) d
    rw [show preL R (v + (d + 1)) = preL R (v + d) + (3 * (R (v + d)).length + 2) from rfl]
    omega
def TXS (J : IM) (o1 s1 o2 : Nat) (T : List Int) : Prop := J o1 s1 = (T.length : Int) ∧ ∀ k x, T[k]? = some x → J o2 k = x
theorem txs_add {J J' : IM} {o1 s1 o2 : Nat} {T : List Int} {c : Int} (h : TXS J o1 s1 o2 T) (h1 : J' o1 s1 = (T.length : Int) + 1) (h2 : J' o2 T.length = c) (h3 : ∀ k, k ≠ T.length → J' o2 k = J o2 k) : TXS J' o1 s1 o2 (T ++ [c]) := by
  refine ⟨by rw [h1, List.length_append]; simp, fun k x hx => ?_⟩
  by_cases e : k = T.length
  · rw [e, List.getElem?_append_right (Nat.le_refl _), Nat.sub_self] at hx
    rw [e, h2]
    simpa using hx
  · have hl : k < T.length := by
      have := List.getElem?_eq_some_iff.mp hx
      obtain ⟨q, _⟩ := this
      rw [List.length_append] at q
      simp at q
      omega
    rw [List.getElem?_append_left hl] at hx
    rw [h3 k e]
    exact h.2 k x hx
def F54 (I J : IM) : Prop := ∀ o k, (o ≠ 210 ∨ k ≠ 1) → o ≠ 211 → J o k = I o k
def F172 (I J : IM) : Prop := ∀ o k, (o ≠ 237 ∨ k ≠ 18) → o ≠ 246 → J o k = I o k
theorem F54_trans {I J L : IM} (h : F54 I J) (h' : F54 J L) : F54 I L := fun o k a b => (h' o k a b).trans (h o k a b)
theorem F172_trans {I J L : IM} (h : F172 I J) (h' : F172 J L) : F172 I L := fun o k a b => (h' o k a b).trans (h o k a b)
theorem k_tx {T : List Int} {c : Int} {J : IM} {K : Option AV → IM → Prop} (ht : TXS J 210 1 211 T) (hc : 0 ≤ c ∧ c ≤ 127) (hl : T.length < 64) (h : ∀ J', F54 J J' → TXS J' 210 1 211 (T ++ [c]) → K (some (vI 1)) J') : CALL S0 27 [vR 210, vI c] J K := by
  refine e27 (Or.inr rfl) ?_
  unfold D27_0
  have hl' := ht.1
  rw [show txn 210 = 64 from rfl, if_pos (by omega)]
  refine ⟨by omega, by omega, fun J1 e1 => ?_⟩
  rw [show (J 210 1).toNat = T.length by omega, show (210 + 1 : Nat) = 211 from rfl] at e1
  have f1 : J1 210 1 = (T.length : Int) := by rw [e1, iup_ne (Or.inl (by decide))]; exact hl'
  rw [f1]
  refine ⟨by unfold inR; omega, fun J2 e2 => h J2 (fun o k a b => by rw [e2, iup_ne a, e1, iup_ne (Or.inl b)]) (txs_add ht (by rw [e2, iup_same]) (by rw [e2, iup_ne (Or.inl (by decide)), e1, iup_same]) (fun k hk => by rw [e2, iup_ne (Or.inl (by decide)), e1, iup_ne (Or.inr hk)]))⟩
theorem m_tx {T : List Int} {c : Int} {J : IM} {K : Option AV → IM → Prop} (ht : TXS J 237 18 246 T) (hl : T.length < 160) (h : ∀ J', F172 J J' → TXS J' 237 18 246 (T ++ [c]) → K none J') : CALL S0 173 [vR 237, vI c] J K := by
  refine e173 ?_
  unfold D173_0
  have hl' := ht.1
  refine ⟨by omega, fun J1 e1 => ?_⟩
  rw [show (J 237 18).toNat = T.length by omega] at e1
  have f1 : J1 237 18 = (T.length : Int) := by rw [e1, iup_ne (Or.inl (by decide))]; exact hl'
  rw [f1]
  refine ⟨by unfold inR; omega, fun J2 e2 => h J2 (fun o k a b => by rw [e2, iup_ne a, e1, iup_ne (Or.inl b)]) (txs_add ht (by rw [e2, iup_same]) (by rw [e2, iup_ne (Or.inl (by decide)), e1, iup_same]) (fun k hk => by rw [e2, iup_ne (Or.inl (by decide)), e1, iup_ne (Or.inr hk)]))⟩
theorem k_num {T : List Int} {x : Int} {J : IM} {K : Option AV → IM → Prop} (ht : TXS J 210 1 211 T) (hx : 0 ≤ x ∧ x < 12) (hl : T.length + 2 ≤ 64) (h : ∀ J', F54 J J' → TXS J' 210 1 211 (T ++ num2 x) → K none J') : CALL S0 55 [vR 210, vI x] J K := by
  refine e55 (Or.inr rfl) ?_
  unfold D55_0 inR
  have e1 : Int.tdiv x 10 = x / 10 := Int.tdiv_eq_ediv_of_nonneg hx.1
  have e2 : Int.tmod x 10 = x % 10 := Int.tmod_eq_emod_of_nonneg hx.1
  split
  · rename_i c
    unfold D55_18 inR
    rw [e1, e2]
    refine ⟨by omega, by omega, k_tx ht (by omega) (by omega) fun J' f t => ⟨_, rfl, h J' f ?_⟩⟩
    unfold num2
    rw [if_pos (by omega), show 48 + x = 48 + x % 10 by omega]
    exact t
  · rename_i c
    rw [e1]
    refine ⟨by omega, by omega, k_tx ht (by omega) (by omega) fun J1 f1 t1 => ⟨_, rfl, ?_⟩⟩
    unfold D55_18 inR
    rw [e1, e2]
    refine ⟨by omega, by omega, k_tx t1 (by omega) (by simp only [List.length_append, List.length_cons, List.length_nil]; omega) fun J' f t => ⟨_, rfl, h J' (F54_trans f1 f) ?_⟩⟩
    unfold num2
    rw [if_neg (by omega), show (49 : Int) = 48 + x / 10 by omega, show 48 + (x - 10) = 48 + x % 10 by omega]
    rw [List.append_assoc] at t
    exact t
theorem drop_c {L : List Int} {k : Nat} {x : Int} (h : L[k]? = some x) : L.drop k = x :: L.drop (k + 1) := by
  obtain ⟨hk, e⟩ := List.getElem?_eq_some_iff.mp h
  rw [List.drop_eq_getElem_cons hk, e]
theorem spV_c {v : Nat} {L T l : List Int} {o : Int} (e : L = o :: l) : spV v L T = spL (T ++ ((if T.length = 0 then [] else [59]) ++ ((48 + (v : Int)) :: 58 :: num2 o))) l := by
  rw [e]
  rfl
theorem s_spell {I : IM} (h : REL I) : BOTH 54 172 [] I := by
  have hG := h.1.1
  have hV := rel_VR h
  have hR := VR_R12 hG hV
  have tot := VR_total hG hV
  have hn := hG.1
  generalize hRR : LM I 238 114 = R at hV hR tot
  have cl : ∀ v, v < 4 → I 30 v = ((R v).length : Int) := fun v hv => by rw [← hRR]; exact CF_len (rel_CF h) hv
  have ml : ∀ v, v < 4 → I 238 (114 + 13 * v) = ((R v).length : Int) := fun v hv => by rw [← hRR]; exact MF_len (rel_MF h) hv
  have cg : ∀ v k, v < 4 → k < (R v).length → (R v)[k]? = some (I (32 + v) k) := by rw [← hRR]; exact rl_getC h
  have mg : ∀ v k, v < 4 → k < (R v).length → (R v)[k]? = some (I 238 (114 + 13 * v + 1 + k)) := fun v k hv hk => by
    rw [← hRR] at hk ⊢
    exact LM_get hk
  have l12 : ∀ v, v < 4 → (R v).length ≤ 12 := hV.1
  have p4 : preL R 4 ≤ 44 := by
    show 0 + (3 * (R 0).length + 2) + (3 * (R 1).length + 2) + (3 * (R 2).length + 2) + (3 * (R 3).length + 2) ≤ 44
    omega
  have pm : ∀ v, v ≤ 4 → preL R v ≤ 44 := fun v hv => by
    have := preL_le (R := R) (v := v) (4 - v)
    rw [show v + (4 - v) = 4 by omega] at this
    omega
  have b12 : ∀ v k, v < 4 → k < (R v).length → 0 ≤ I (32 + v) k ∧ I (32 + v) k < 12 := fun v k hv hk => hR v hv _ (List.mem_of_getElem? (cg v k hv hk))
  have n2 : ∀ x, (num2 x).length ≤ 2 := fun x => num2_len
  -- the class
  have kmain : ∀ K : Option AV → IM → Prop, (∀ J, F54 I J → TXS J 210 1 211 (spA R 4) → (spA R 4).length ≤ 44 → K (some (vI ((spA R 4).length : Int))) J) → CALL S0 54 [vR 0] I K := by
    intro K hK
    refine e54 ?_
    unfold D54_0
    intro I1 e1
    have vans : ∀ t v : Nat, v + t = 4 → ∀ J, F54 I J → TXS J 210 1 211 (spA R v) → (spA R v).length ≤ preL R v → ∀ u u' : AV, GO S0 54 10 [vR 0, vI (v : Int), u, u'] [] J K := by
      intro t
      induction t with
      | zero =>
        intro v e J f tx hb u u'
        refine g54_10 _ _ _ J K ?_
        unfold D54_10
        rw [if_pos (by omega), tx.1]
        rw [show v = 4 by omega] at tx hb ⊢
        exact hK J f tx (Nat.le_trans hb p4)
      | succ t iht =>
        intro v e J f tx hb u u'
        have hv : v < 4 := by omega
        have pv := pm (v + 1) (by omega)
        have pe : preL R (v + 1) = preL R v + (3 * (R v).length + 2) := rfl
        have f30 : ∀ J, F54 I J → J 30 v = ((R v).length : Int) := fun J f => (f 30 v (by omega) (by omega)).trans (cl v hv)
        have rest : ∀ j k : Nat, k + j = (R v).length → 1 ≤ k → ∀ T J, F54 I J → TXS J 210 1 211 T → T.length + 3 * j ≤ preL R (v + 1) → spL T ((R v).drop k) = spA R (v + 1) → GO S0 54 51 [vR 0, vI (v : Int), vI ((R v).length : Int), vI (k : Int)] [] J K := by
          intro j
          induction j with
          | zero =>
            intro k ek k1 T J f tx hb hs
            refine g54_51 _ _ _ J K ?_
            unfold D54_51 inR
            rw [if_pos (by omega)]
            rw [List.drop_eq_nil_of_le (by omega)] at hs
            refine ⟨by omega, ?_⟩
            have := iht (v + 1) (by omega) J f (by rw [← hs]; exact tx) (by rw [← hs]; show T.length ≤ _; omega) (vI ((R v).length : Int)) (vI (k : Int))
            rw [show ((v + 1 : Nat) : Int) = (v : Int) + 1 by omega] at this
            exact this
          | succ j ih =>
            intro k ek k1 T J f tx hb hs
            refine g54_51 _ _ _ J K ?_
            unfold D54_51
            rw [if_neg (by omega), if_neg (by omega)]
            unfold D54_68
            rw [if_neg (by omega)]
            unfold D54_83 inR
            have gk := cg v k hv (by omega)
            have bk := b12 v k hv (by omega)
            refine k_tx tx (by omega) (by omega) fun J1 f1 t1 => ⟨_, rfl, by omega, by have := l12 v hv; omega, ?_⟩
            rw [Int.toNat_natCast, Int.toNat_natCast, f1 _ _ (by omega) (by omega), f _ _ (by omega) (by omega), show 29 + 3 + v = 32 + v by omega]
            refine k_num t1 bk (by simp only [List.length_append, List.length_cons, List.length_nil]; omega) fun J2 f2 t2 => ⟨rfl, by have := l12 v hv; omega, ?_⟩
            rw [List.append_assoc] at t2
            have := n2 (I (32 + v) k)
            have := ih (k + 1) (by omega) (by omega) (T ++ (44 :: num2 (I (32 + v) k))) J2 (F54_trans f (F54_trans f1 f2)) t2 (by rw [List.length_append, List.length_cons]; omega) (by rw [← hs, drop_c gk]; rfl)
            rw [show ((k + 1 : Nat) : Int) = (k : Int) + 1 by omega] at this
            exact this
        refine g54_10 _ _ _ J K ?_
        unfold D54_10
        rw [if_neg (by omega), Int.toNat_natCast, f30 J f]
        refine ⟨by omega, ?_⟩
        by_cases z : (R v).length = 0
        · rw [if_pos (by omega)]
          refine g54_51 _ _ _ J K ?_
          unfold D54_51 inR
          rw [if_pos (by omega)]
          have es : spA R (v + 1) = spA R v := by
            rw [show spA R (v + 1) = spV v (R v) (spA R v) from rfl, List.length_eq_zero_iff.mp z]
            rfl
          refine ⟨by omega, ?_⟩
          have := iht (v + 1) (by omega) J f (by rw [es]; exact tx) (by rw [es]; omega) (vI ((R v).length : Int)) (vI 0)
          rw [show ((v + 1 : Nat) : Int) = (v : Int) + 1 by omega] at this
          exact this
        · rw [if_neg (by omega)]
          have g0 := cg v 0 hv (by omega)
          have b0 := b12 v 0 hv (by omega)
          have eL : R v = I (32 + v) 0 :: (R v).drop 1 := by have := drop_c g0; rw [List.drop_zero] at this; exact this
          have tail : ∀ J1, F54 I J1 → TXS J1 210 1 211 (spA R v ++ (if (spA R v).length = 0 then [] else [59])) → GO S0 54 51 [vR 0, vI (v : Int), vI ((R v).length : Int), vI 0] [] J1 K := by
            intro J1 f1 t1
            have s1 : (spA R v ++ (if (spA R v).length = 0 then [] else [(59 : Int)])).length ≤ (spA R v).length + 1 := by rw [List.length_append]; split <;> simp
            generalize hP : (spA R v ++ (if (spA R v).length = 0 then [] else [(59 : Int)])) = P at t1 s1
            refine g54_51 _ _ _ J1 K ?_
            unfold D54_51
            rw [if_neg (by omega), if_pos rfl]
            refine k_num t1 (by omega) (by omega) fun J2 f2 t2 => ⟨rfl, ?_⟩
            have ev : num2 (v : Int) = [48 + (v : Int)] := by unfold num2; rw [if_pos (by omega)]
            rw [ev] at t2
            unfold D54_68
            rw [if_pos rfl]
            unfold D54_83 inR
            refine k_tx t2 (by omega) (by simp only [List.length_append, List.length_cons, List.length_nil]; omega) fun J3 f3 t3 => ⟨_, rfl, by omega, by omega, ?_⟩
            rw [Int.toNat_natCast, show (0 : Int).toNat = 0 from rfl, f3 _ _ (by omega) (by omega), f2 _ _ (by omega) (by omega), f1 _ _ (by omega) (by omega), show 29 + 3 + v = 32 + v by omega]
            refine k_num t3 b0 (by simp only [List.length_append, List.length_cons, List.length_nil]; omega) fun J4 f4 t4 => ⟨rfl, by omega, ?_⟩
            have nn := n2 (I (32 + v) 0)
            have := rest ((R v).length - 1) 1 (by omega) (by omega) _ J4 (F54_trans f1 (F54_trans f2 (F54_trans f3 f4))) t4 (by simp only [List.length_append, List.length_cons, List.length_nil]; omega) (by
              rw [show spA R (v + 1) = spV v (R v) (spA R v) from rfl, spV_c eL, ← hP]
              congr 1
              simp only [List.append_assoc, List.cons_append, List.nil_append])
            exact this
          by_cases y : (spA R v).length = 0
          · rw [if_pos (by rw [tx.1]; omega)]
            exact tail J f (by rw [if_pos y, List.append_nil]; exact tx)
          · rw [if_neg (by rw [tx.1]; omega)]
            refine k_tx tx (by omega) (by omega) fun J1 f1 t1 => ⟨_, rfl, ?_⟩
            exact tail J1 (F54_trans f f1) (by rw [if_neg y]; exact t1)
    exact vans 4 0 rfl I1 (fun o k a b => by rw [e1, iup_ne a]) ⟨by rw [e1, iup_same]; rfl, fun k x hx => by simp [spA] at hx⟩ (by simp [spA]) vU vU
  -- the model
  have mmain : ∀ J0, F54 I J0 → ∀ K : Option AV → IM → Prop, (∀ J, F172 J0 J → TXS J 237 18 246 (spA R 4) → K (some (vI ((spA R 4).length : Int))) J) → CALL S0 172 [vR 237] J0 K := by
    intro J0 f0 K hK
    refine e172 ?_
    unfold D172_0
    intro I1 e1
    have vans : ∀ t v : Nat, v + t = 4 → ∀ J, F172 J0 J → TXS J 237 18 246 (spA R v) → (spA R v).length ≤ preL R v → ∀ u u' : AV, GO S0 172 7 [vR 237, vI (v : Int), u, u'] [] J K := by
      intro t
      induction t with
      | zero =>
        intro v e J f tx hb u u'
        refine g172_7 _ _ _ J K ?_
        unfold D172_7
        rw [if_pos (by omega), tx.1]
        rw [show v = 4 by omega] at tx hb ⊢
        exact hK J f tx
      | succ t iht =>
        intro v e J f tx hb u u'
        have hv : v < 4 := by omega
        have pv := pm (v + 1) (by omega)
        have pe : preL R (v + 1) = preL R v + (3 * (R v).length + 2) := rfl
        have f8 : ∀ J k, F172 J0 J → J 238 k = I 238 k := fun J k f => (f 238 k (by omega) (by omega)).trans (f0 238 k (by omega) (by omega))
        have num : ∀ (k : Nat) (x : Int), (0 ≤ x ∧ x < 12) → k ≤ 12 → ∀ T J, TXS J 237 18 246 T → T.length + 3 ≤ 160 → F172 J0 J → ∀ c : Int, (∀ J', F172 J0 J' → TXS J' 237 18 246 (T ++ (c :: num2 x)) → GO S0 172 14 [vR 237, vI (v : Int), vI ((k : Int) + 1), vI x] [] J' K) → D172_81 (v : Int) (k : Int) x c J K := by
          intro k x hx hk T J tx hl f c hG'
          have e2 : Int.tmod x 10 = x % 10 := Int.tmod_eq_emod_of_nonneg hx.1
          have e1 : Int.tdiv x 10 = x / 10 := Int.tdiv_eq_ediv_of_nonneg hx.1
          unfold D172_81
          refine m_tx tx (by omega) fun J1 f1 t1 => ⟨rfl, ?_⟩
          have l1 : (T ++ [c]).length = T.length + 1 := by simp
          split
          · rename_i y
            unfold D172_96 inR
            rw [e1, e2]
            refine ⟨by omega, by omega, m_tx t1 (by omega) fun J2 f2 t2 => ⟨rfl, by omega, hG' J2 (F172_trans f (F172_trans f1 f2)) ?_⟩⟩
            rw [show 48 + x % 10 = 48 + x by omega, List.append_assoc] at t2
            unfold num2
            rw [if_pos y]
            exact t2
          · rename_i y
            refine m_tx t1 (by omega) fun J2 f2 t2 => ⟨rfl, ?_⟩
            unfold D172_96 inR
            rw [e1, e2]
            refine ⟨by omega, by omega, m_tx t2 (by simp only [List.length_append, List.length_cons, List.length_nil]; omega) fun J3 f3 t3 => ⟨rfl, by omega, hG' J3 (F172_trans f (F172_trans f1 (F172_trans f2 f3))) ?_⟩⟩
            rw [show 48 + x % 10 = 48 + (x - 10) by omega, List.append_assoc, List.append_assoc] at t3
            unfold num2
            rw [if_neg y]
            exact t3
        have rest : ∀ j k : Nat, k + j = (R v).length → 1 ≤ k → ∀ T J, F172 J0 J → TXS J 237 18 246 T → T.length + 3 * j ≤ preL R (v + 1) → spL T ((R v).drop k) = spA R (v + 1) → ∀ u : AV, GO S0 172 14 [vR 237, vI (v : Int), vI (k : Int), u] [] J K := by
          intro j
          induction j with
          | zero =>
            intro k ek k1 T J f tx hb hs u
            refine g172_14 _ _ _ J K ?_
            unfold D172_14 inR
            refine m_stopsOf (by omega) ⟨_, rfl, ?_⟩
            rw [Int.toNat_natCast, f8 J _ f, ml v hv, if_pos (by omega)]
            rw [List.drop_eq_nil_of_le (by omega)] at hs
            refine ⟨by omega, ?_⟩
            have := iht (v + 1) (by omega) J f (by rw [← hs]; exact tx) (by rw [← hs]; show T.length ≤ _; omega) (vI (k : Int)) u
            rw [show ((v + 1 : Nat) : Int) = (v : Int) + 1 by omega] at this
            exact this
          | succ j ih =>
            intro k ek k1 T J f tx hb hs u
            have lv := l12 v hv
            refine g172_14 _ _ _ J K ?_
            unfold D172_14 inR
            refine m_stopsOf (by omega) ⟨_, rfl, ?_⟩
            have gk := mg v k hv (by omega)
            have bk := hR v hv _ (List.mem_of_getElem? gk)
            rw [Int.toNat_natCast, f8 J _ f, ml v hv, if_neg (by omega), if_neg (by omega), show (114 + 13 * (v : Int) + 1 + (k : Int)).toNat = 114 + 13 * v + 1 + k by omega, f8 J _ f]
            refine ⟨by omega, by omega, by omega, by omega, by omega, ?_⟩
            unfold D172_57
            rw [if_neg (by omega)]
            unfold D172_69
            rw [if_neg (by omega)]
            refine num k _ bk (by omega) T J tx (by omega) f 44 fun J' f' t' => ?_
            have nn := n2 (I 238 (114 + 13 * v + 1 + k))
            have := ih (k + 1) (by omega) (by omega) _ J' f' t' (by rw [List.length_append, List.length_cons]; omega) (by rw [← hs, drop_c gk]; rfl) (vI (I 238 (114 + 13 * v + 1 + k)))
            rw [show ((k + 1 : Nat) : Int) = (k : Int) + 1 by omega] at this
            exact this
        refine g172_7 _ _ _ J K ?_
        unfold D172_7
        rw [if_neg (by omega)]
        refine g172_14 _ _ _ J K ?_
        unfold D172_14 inR
        refine m_stopsOf (by omega) ⟨_, rfl, ?_⟩
        rw [Int.toNat_natCast, f8 J _ f, ml v hv]
        by_cases z : (R v).length = 0
        · rw [if_pos (by omega)]
          have es : spA R (v + 1) = spA R v := by
            rw [show spA R (v + 1) = spV v (R v) (spA R v) from rfl, List.length_eq_zero_iff.mp z]
            rfl
          refine ⟨by omega, ?_⟩
          have := iht (v + 1) (by omega) J f (by rw [es]; exact tx) (by rw [es]; omega) (vI 0) u'
          rw [show ((v + 1 : Nat) : Int) = (v : Int) + 1 by omega] at this
          exact this
        · have g0 := mg v 0 hv (by omega)
          have b0 := hR v hv _ (List.mem_of_getElem? g0)
          have eL : R v = I 238 (114 + 13 * v + 1 + 0) :: (R v).drop 1 := by have := drop_c g0; rw [List.drop_zero] at this; exact this
          have lv := l12 v hv
          rw [if_neg (by omega), if_pos rfl, show (114 + 13 * (v : Int) + 1 + 0).toNat = 114 + 13 * v + 1 + 0 by omega, f8 J _ f]
          refine ⟨by omega, by omega, by omega, by omega, by omega, ?_⟩
          have tail : ∀ J1, F172 J0 J1 → TXS J1 237 18 246 (spA R v ++ (if (spA R v).length = 0 then [] else [59])) → D172_57 (v : Int) 0 (I 238 (114 + 13 * v + 1 + 0)) J1 K := by
            intro J1 f1 t1
            have s1 : (spA R v ++ (if (spA R v).length = 0 then [] else [(59 : Int)])).length ≤ (spA R v).length + 1 := by rw [List.length_append]; split <;> simp
            generalize hP : (spA R v ++ (if (spA R v).length = 0 then [] else [(59 : Int)])) = P at t1 s1
            unfold D172_57 inR
            rw [if_pos rfl]
            refine ⟨by omega, m_tx t1 (by omega) fun J2 f2 t2 => ⟨rfl, ?_⟩⟩
            unfold D172_69
            rw [if_pos rfl]
            refine num 0 _ b0 (by omega) _ J2 t2 (by simp only [List.length_append, List.length_cons, List.length_nil]; omega) (F172_trans f1 f2) 58 fun J' f' t' => ?_
            have nn := n2 (I 238 (114 + 13 * v + 1 + 0))
            have := rest ((R v).length - 1) 1 (by omega) (by omega) _ J' f' t' (by simp only [List.length_append, List.length_cons, List.length_nil]; omega) (by
              rw [show spA R (v + 1) = spV v (R v) (spA R v) from rfl, spV_c eL, ← hP]
              congr 1
              simp only [List.append_assoc, List.cons_append, List.nil_append]) (vI (I 238 (114 + 13 * v + 1 + 0)))
            exact this
          by_cases y : (spA R v).length = 0
          · rw [if_pos (by rw [tx.1]; omega)]
            exact tail J f (by rw [if_pos y, List.append_nil]; exact tx)
          · rw [if_neg (by rw [tx.1]; omega)]
            refine m_tx tx (by omega) fun J1 f1 t1 => ⟨rfl, ?_⟩
            exact tail J1 (F172_trans f f1) (by rw [if_neg y]; exact t1)
    exact vans 4 0 rfl I1 (fun o k a b => by rw [e1, iup_ne a]) ⟨by rw [e1, iup_same]; rfl, fun k x hx => by simp [spA] at hx⟩ (by simp [spA]) vU vU
  unfold BOTH
  refine kmain _ fun J f tx hb => ⟨_, rfl, mmain J f _ fun J2 f2 t2 => ⟨rfl, ?_, fun o k a => (f2 o k (by omega) (by omega)).trans (f o k (by omega) (by omega))⟩⟩
  have g : ∀ o k, (o ≠ 210 ∨ k ≠ 1) → o ≠ 211 → (o ≠ 237 ∨ k ≠ 18) → o ≠ 246 → J2 o k = I o k := fun o k a b c d => (f2 o k c d).trans (f o k a b)
  have go : ∀ o, o ≠ 210 → o ≠ 211 → o ≠ 237 → o ≠ 246 → J2 o = I o := fun o a b c d => funext fun k => g o k (Or.inl a) b (Or.inl c) d
  refine REL_side h (fun o k _ _ _ b c d e _ _ _ => g o k c d (by omega) e) (RT_fr h.2.2.2.2.1 (g _ _ (by omega) (by omega) (by omega) (by omega)) (g _ _ (by omega) (by omega) (by omega) (by omega)) (go _ (by decide) (by decide) (by decide) (by decide)) (go _ (by decide) (by decide) (by decide) (by decide))) ⟨?_, ?_, fun k hk => ?_⟩ (RW_fr h.2.2.2.2.2.2 (fun o k _ _ => g o k (by omega) (by omega) (by omega) (by omega)) (go _ (by decide) (by decide) (by decide) (by decide)) (go _ (by decide) (by decide) (by decide) (by decide)))
  · rw [f2 210 1 (by omega) (by omega), tx.1, t2.1]
  · rw [t2.1]; omega
  · rw [t2.1] at hk
    have hx : (spA R 4)[k]? = some ((spA R 4)[k]'(by omega)) := List.getElem?_eq_getElem (by omega)
    rw [f2 211 k (by omega) (by omega), tx.2 k _ hx, t2.2 k _ hx]
