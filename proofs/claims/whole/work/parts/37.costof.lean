/-! level 2: what all rounds cost, as the model counts -/
theorem bits_step {R : Nat → List Int} {P Q : Nat → Prop} {S : Int} {x : Int} (hx : 0 ≤ x ∧ x < 12) (h : ∀ o, o < 32 → (bt S o = true ↔ P o)) (hQ : ∀ o, Q o ↔ (P o ∨ (o : Int) = x)) : ∀ o, o < 32 → (bt (iorF S (ishlF 1 x)) o = true ↔ Q o) := by
  intro o ho
  have e : x = ((x.toNat : Nat) : Int) := by omega
  rw [e, bt_or (by omega) ho, hQ, ← h o ho, Bool.or_eq_true, decide_eq_true_eq, show o = x.toNat ↔ (o : Int) = x by omega]
theorem m_costOf {q : Nat} (hq : S0[q]? = some (100, 52, [])) (hq1 : q ≠ 237) (hq2 : q ≠ 243) {I : IM} {K : Option AV → IM → Prop} (hG : GR (I 238)) (hs : SZM I q 0) (ho : OM I q 0) (h : ∀ I', FD I I' → K (some (vI (csA (I 238) (LM I q 0)))) I') : CALL S0 194 [vR 237, vR q] I K := by
  refine e194 hq ?_
  unfold D194_0
  have hc : ∀ v, v < 4 → -2000000 ≤ csV (I 238) v (LM I q 0 v) ∧ csV (I 238) v (LM I q 0 v) ≤ 2000000 := fun v hv => csV_b hG hv (LM_le hs hv) (ho v hv)
  have hc4 : ∀ v : Nat, v ≤ 4 → -2000000 * (v : Int) ≤ cs4 (I 238) (LM I q 0) v ∧ cs4 (I 238) (LM I q 0) v ≤ 2000000 * (v : Int) := by
    intro v
    induction v with
    | zero => intro _; unfold cs4; omega
    | succ v ih =>
      intro hv
      have := ih (by omega)
      have := hc v (by omega)
      unfold cs4
      omega
  have last : ∀ j k : Nat, k + j = (I 238 5).toNat → ∀ S : Int, BS (LM I q 0) S → ∀ u : AV, ∀ J, FD I J → GO S0 194 67 [vR 237, vR q, vI (cs4 (I 238) (LM I q 0) 4 + pen (I 238) (LM I q 0) k), vI S, vI (k : Int), u] [] J K := by
    have hn := hG.1
    intro j
    induction j with
    | zero =>
      intro k e S hS u J fJ
      refine g194_67 q _ _ _ _ hq J K ?_
      unfold D194_67
      rw [FD_o fJ (o := 238) (by decide) (by decide), if_pos (by omega), show k = (I 238 5).toNat by omega]
      exact h J fJ
    | succ j ih =>
      intro k e S hS u J fJ
      refine g194_67 q _ _ _ _ hq J K ?_
      unfold D194_67 inR
      have b := FD_o fJ (o := 238) (by decide) (by decide)
      have h1 := hc4 4 (by omega)
      have h2 := pen_b (R := LM I q 0) hG k (by omega)
      have h3 := (hG.2.1 k (by omega)).2.2.2.2.2.2
      have h4 := hS.2 k (by omega)
      have h5 := @bt_z S k (by omega)
      have := ih (k + 1) (by omega) S hS u J fJ
      unfold pen at this
      rw [b, if_neg (by omega)]
      split
      · rename_i c
        refine m_ofOrder (x1 := (k : Int)) (x2 := 7) (by omega) (by omega) ⟨_, rfl, ?_⟩
        have c2 : vanF (LM I q 0) (k : Int) < 0 := by
          have z := h5.mp c
          rw [z] at h4
          have := h4.mpr
          simp at this
          exact this
        rw [if_pos c2] at this
        rw [Int.toNat_natCast, b]
        rw [show (7 : Int).toNat = 7 from rfl]
        refine ⟨by omega, by omega, ?_⟩
        rw [Int.add_assoc]
        exact this
      · rename_i c
        have c2 : ¬ vanF (LM I q 0) (k : Int) < 0 := by
          have z : bt S k = true := by
            cases e2 : bt S k
            · exact absurd (h5.mpr e2) c
            · rfl
          have := h4.mp z
          omega
        rw [if_neg c2] at this
        refine ⟨by omega, by omega, ?_⟩
        rw [Int.add_assoc]
        exact this
  have outer : ∀ j v : Nat, v + j = 4 → ∀ S : Int, inR S → (∀ o, o < 32 → (bt S o = true ↔ ∃ w, w < v ∧ (o : Int) ∈ LM I q 0 w)) → ∀ u : AV, ∀ J, FD I J → GO S0 194 7 [vR 237, vR q, vI (cs4 (I 238) (LM I q 0) v), vI S, vI (v : Int), u] [] J K := by
    intro j
    induction j with
    | zero =>
      intro v e S hS0 hS u J fJ
      refine g194_7 q _ _ _ _ hq J K ?_
      unfold D194_7
      rw [if_pos (by omega), show v = 4 by omega]
      have := last (I 238 5).toNat 0 (by omega) S ⟨hS0, fun o ho => by
        rw [hS o ho]
        have := @vanF_neg (LM I q 0) (o : Int)
        constructor
        · rintro ⟨w, h1, h2⟩
          by_cases c : vanF (LM I q 0) (o : Int) < 0
          · exact absurd h2 (this.mp c w (by omega))
          · omega
        · intro h1
          by_cases c : ∃ w, w < v ∧ (o : Int) ∈ LM I q 0 w
          · exact c
          · have := this.mpr (fun w hw hm => c ⟨w, by omega, hm⟩)
            omega⟩ u J fJ
      rw [show cs4 (I 238) (LM I q 0) 4 + pen (I 238) (LM I q 0) 0 = cs4 (I 238) (LM I q 0) 4 by unfold pen; omega] at this
      exact this
    | succ j ih =>
      intro v e S hS0 hS u J fJ
      refine g194_7 q _ _ _ _ hq J K ?_
      unfold D194_7
      rw [if_neg (by omega)]
      have bJ := FD_o fJ (o := 238) (by decide) (by decide)
      have bq := FD_o fJ (o := q) hq1 hq2
      have eq : ∀ u, LM J q 0 u = LM I q 0 u := fun u => by unfold LM ln; rw [bq]
      have hcv := hc v (by omega)
      have hcv4 := hc4 v (by omega)
      refine m_costOfVan hq hq1 hq2 (by omega) (by rw [bJ]; exact hG) (fun u hu => by rw [bq]; exact hs u hu) (fun u hu => by rw [eq]; exact ho u hu) fun I' f' => ⟨_, rfl, ?_⟩
      rw [eq, bJ]
      unfold inR
      refine ⟨by omega, ?_⟩
      have f2 := FD_trans fJ f'
      have e4 : cs4 (I 238) (LM I q 0) v + csV (I 238) v (LM I q 0 v) = cs4 (I 238) (LM I q 0) (v + 1) := rfl
      rw [e4]
      have inner : ∀ i k : Nat, k + i = (LM I q 0 v).length → ∀ T : Int, inR T → (∀ o, o < 32 → (bt T o = true ↔ (∃ w, w < v ∧ (o : Int) ∈ LM I q 0 w) ∨ ∃ r, r < k ∧ (LM I q 0 v)[r]? = some (o : Int))) → GO S0 194 26 [vR 237, vR q, vI (cs4 (I 238) (LM I q 0) (v + 1)), vI T, vI (v : Int), vI (k : Int)] [] I' K := by
        have bq' := FD_o f2 (o := q) hq1 hq2
        have sz := hs v (by omega)
        have sl := @LM_len I q 0 v
        rw [Nat.zero_add] at sz sl
        intro i
        induction i with
        | zero =>
          intro k ek T hT0 hT
          refine g194_26 q _ _ _ _ hq I' K ?_
          unfold D194_26
          refine m_sizeOf hq (by omega) ⟨_, rfl, ?_⟩
          rw [Int.toNat_natCast, bq', if_pos (by omega)]
          unfold inR
          refine ⟨by omega, ?_⟩
          exact ih (v + 1) (by omega) T hT0 (fun o hO => by
            rw [hT o hO]
            constructor
            · rintro (⟨w, h1, h2⟩ | ⟨r, h1, h2⟩)
              · exact ⟨w, by omega, h2⟩
              · exact ⟨v, by omega, List.mem_of_getElem? h2⟩
            · rintro ⟨w, h1, h2⟩
              by_cases c : w = v
              · right
                rw [c] at h2
                obtain ⟨r, hr⟩ := List.mem_iff_getElem?.mp h2
                refine ⟨r, ?_, hr⟩
                have := (List.getElem?_eq_some_iff.mp hr).1
                omega
              · exact Or.inl ⟨w, by omega, h2⟩) _ I' f2
        | succ i ih2 =>
          intro k ek T hT0 hT
          refine g194_26 q _ _ _ _ hq I' K ?_
          unfold D194_26
          refine m_sizeOf hq (by omega) ⟨_, rfl, ?_⟩
          rw [Int.toNat_natCast, bq', if_neg (by omega)]
          refine m_at hq (by omega) (by omega) ⟨_, rfl, ?_⟩
          rw [Int.toNat_natCast, Int.toNat_natCast, bq']
          unfold inR
          refine ⟨by omega, ?_⟩
          have eg : (LM I q 0 v)[k]? = some (I q (13 * v + 1 + k)) := by
            unfold LM
            rw [Nat.zero_add]
            exact ln_get (by omega)
          have hx := ho v (by omega) _ (List.mem_of_getElem? eg)
          have := ih2 (k + 1) (by omega) _ (@ior_in T (ishlF 1 (I q (13 * v + 1 + k)))) (bits_step (R := LM I q 0) hx hT (fun o => by
            constructor
            · rintro (h1 | ⟨r, h1, h2⟩)
              · exact Or.inl (Or.inl h1)
              · by_cases c : r = k
                · rw [c, eg] at h2
                  exact Or.inr (Option.some.inj h2).symm
                · exact Or.inl (Or.inr ⟨r, by omega, h2⟩)
            · rintro ((h1 | ⟨r, h1, h2⟩) | h1)
              · exact Or.inl h1
              · exact Or.inr ⟨r, by omega, h2⟩
              · exact Or.inr ⟨k, by omega, by rw [eg, h1]⟩))
          rw [show (((k + 1 : Nat)) : Int) = (k : Int) + 1 by omega] at this
          exact this
      exact inner (LM I q 0 v).length 0 (by omega) S hS0 (fun o hO => by
        rw [hS o hO]
        constructor
        · exact fun z => Or.inl z
        · rintro (z | ⟨r, h1, _⟩)
          · exact z
          · omega)
  exact outer 4 0 rfl 0 (by decide) (fun o _ => by rw [bt_0]; constructor; (intro z; cases z); (rintro ⟨w, h1, _⟩; omega)) vU I FD_refl
