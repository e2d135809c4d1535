/-! level 2: moves: the model -/
def TQ (T : Nat → List Int) (J : IM) : Prop := SZM J 242 0 ∧ ∀ v, v < 4 → LM J 242 0 v = T v
theorem TQ_o {T : Nat → List Int} {J J' : IM} (h : TQ T J) (e : J' 242 = J 242) : TQ T J' := ⟨fun v hv => by rw [e]; exact h.1 v hv, fun v hv => by rw [← h.2 v hv]; unfold LM ln; rw [e]⟩
theorem TQ_eq {T T' : Nat → List Int} {J : IM} (h : TQ T J) (e : ∀ v, v < 4 → T v = T' v) : TQ T' J := ⟨h.1, fun v hv => (h.2 v hv).trans (e v hv)⟩
theorem TQ_len {T : Nat → List Int} {J : IM} (h : TQ T J) {v : Nat} (hv : v < 4) : J 242 (13 * v) = ((T v).length : Int) := by
  have ll := @LM0_len J 242 v
  rw [h.2 v hv] at ll
  have sz := h.1 v hv
  rw [Nat.zero_add] at sz
  omega
theorem TQ_get {T : Nat → List Int} {J : IM} (h : TQ T J) {v k : Nat} (hv : v < 4) (hk : k < (T v).length) : (T v)[k]? = some (J 242 (13 * v + 1 + k)) := by
  have e := @LM_get J 242 0 v k (by rw [h.2 v hv]; exact hk)
  rw [h.2 v hv, Nat.zero_add] at e
  exact e
theorem LMq_ext {J : IM} {v : Nat} {L : List Int} (h1 : J 242 (13 * v) = (L.length : Int)) (h2 : ∀ k, k < L.length → L[k]? = some (J 242 (13 * v + 1 + k))) : LM J 242 0 v = L := by
  unfold LM
  rw [Nat.zero_add, h1, Int.toNat_natCast]
  exact ln_ext rfl h2
theorem MF_get {G : Nat → Int} {R : Nat → List Int} {J : IM} (h : MF G R J) {v k : Nat} (hv : v < 4) (hk : k < (R v).length) : (R v)[k]? = some (J 238 (114 + 13 * v + 1 + k)) := by
  have e := @LM_get J 238 114 v k (by rw [h.2.2 v hv]; exact hk)
  rw [h.2.2 v hv] at e
  exact e
theorem n_inRound {a : Int} {G : Nat → Int} {R : Nat → List Int} {J : IM} {K : Option AV → IM → Prop} (hG : GR G) (h2 : ∀ v, v < 4 → ∀ x ∈ R v, 0 ≤ x ∧ x < G 5) (hM : MF G R J) (h : K (some (vI (b2i (0 ≤ vanF R a)))) J) : CALL S0 210 [vR 237, vI a] J K := by
  refine e210 ?_
  unfold D210_0
  refine n_isOrder hG hM ⟨_, rfl, ?_⟩
  by_cases c : 0 ≤ a ∧ a < G 5
  · rw [b2i_t c, if_neg (by decide)]
    refine n_isLeft hM ⟨_, rfl, ?_⟩
    by_cases z : vanF R a < 0
    · rw [b2i_t z, if_neg (by decide)]
      rw [b2i_f (by omega)] at h
      exact h
    · rw [b2i_f z, if_pos rfl]
      rw [b2i_t (by omega)] at h
      exact h
  · rw [b2i_f c, if_pos rfl]
    rw [b2i_f (fun z => c (h2 _ (vanF_mem z).1 a (vanF_mem z).2.1))] at h
    exact h
theorem n_isMove {kind a b c : Int} {G : Nat → Int} {R : Nat → List Int} {J : IM} {K : Option AV → IM → Prop} (hG : GR G) (hV : VR G R) (hM : MF G R J) (hc : inR c) (h : K (some (vI (mvB R kind a b c))) J) : CALL S0 209 [vR 237, vI kind, vI a, vI b, vI c] J K := by
  refine e209 ?_
  unfold D209_0
  unfold mvB at h
  have h12 := hV.1
  by_cases k0 : kind = 0
  · rw [if_pos k0] at h ⊢
    refine n_inRound hG hV.2.1 hM ⟨_, rfl, ?_⟩
    by_cases ha : 0 ≤ vanF R a
    · rw [b2i_t ha, if_neg (by decide)]
      refine m_isVan ⟨_, rfl, ?_⟩
      by_cases hb : 0 ≤ b ∧ b ≤ 3
      · rw [b2i_t hb, if_neg (by decide)]
        obtain ⟨B, rfl⟩ : ∃ n : Nat, b = n := ⟨b.toNat, by omega⟩
        rw [Int.toNat_natCast] at h
        have l := h12 B (by omega)
        refine n_stopsOf (by omega) hM ⟨_, rfl, n_vanOf hM ⟨_, rfl, ?_⟩⟩
        have fin : ∀ t : Int, t = (if vanF R a = (B : Int) then 1 else 0) → D209_69 kind a (B : Int) c c 0 ((R B).length : Int) t J K := by
          intro t et
          unfold D209_69 inR
          have t01 : 0 ≤ t ∧ t ≤ 1 := by rw [et]; split <;> omega
          refine ⟨by omega, m_isIn ⟨_, rfl, ?_⟩⟩
          rw [et]
          by_cases z : 0 ≤ c ∧ c ≤ ((R B).length : Int) - (if vanF R a = (B : Int) then 1 else 0)
          · rw [b2i_t z, if_neg (by decide)]
            rw [if_pos ⟨ha, hb, z.1, z.2⟩] at h
            exact h
          · rw [b2i_f z, if_pos rfl]
            rw [if_neg (fun y => z y.2.2)] at h
            exact h
        by_cases y : vanF R a = (B : Int)
        · rw [if_pos y]; exact fin 1 (by rw [if_pos y])
        · rw [if_neg y]; exact fin 0 (by rw [if_neg y])
      · rw [b2i_f hb, if_pos rfl]
        rw [if_neg (fun z => hb z.2.1)] at h
        exact h
    · rw [b2i_f ha, if_pos rfl]
      rw [if_neg (fun z => ha z.1)] at h
      exact h
  · rw [if_neg k0] at h ⊢
    by_cases k1 : kind = 1
    · rw [if_pos k1] at h ⊢
      refine n_inRound hG hV.2.1 hM ⟨_, rfl, ?_⟩
      by_cases ha : 0 ≤ vanF R a
      · rw [b2i_t ha, if_neg (by decide)]
        refine n_inRound hG hV.2.1 hM ⟨_, rfl, ?_⟩
        by_cases hb : 0 ≤ vanF R b
        · rw [b2i_t hb, if_neg (by decide)]
          by_cases hab : b ≤ a
          · rw [if_pos hab]
            rw [if_neg (fun z => by omega)] at h
            exact h
          · rw [if_neg hab]
            by_cases hc0 : c = 0
            · rw [if_pos hc0]
              rw [if_pos ⟨by omega, hc0, ha, hb⟩] at h
              exact h
            · rw [if_neg hc0]
              rw [if_neg (fun z => hc0 z.2.1)] at h
              exact h
        · rw [b2i_f hb, if_pos rfl]
          rw [if_neg (fun z => hb z.2.2.2)] at h
          exact h
      · rw [b2i_f ha, if_pos rfl]
        rw [if_neg (fun z => ha z.2.2.1)] at h
        exact h
    · rw [if_neg k1] at h ⊢
      by_cases k2 : kind = 2
      · rw [if_pos k2] at h ⊢
        refine m_isVan ⟨_, rfl, ?_⟩
        by_cases ha : 0 ≤ a ∧ a ≤ 3
        · rw [b2i_t ha, if_neg (by decide)]
          refine m_isVan ⟨_, rfl, ?_⟩
          by_cases hb : 0 ≤ b ∧ b ≤ 3
          · rw [b2i_t hb, if_neg (by decide)]
            by_cases hab : b ≤ a
            · rw [if_pos hab]
              rw [if_neg (fun z => by omega)] at h
              exact h
            · rw [if_neg hab]
              by_cases hc0 : c < 0
              · rw [if_pos hc0]
                rw [if_neg (fun z => by omega)] at h
                exact h
              · rw [if_neg hc0, Int.tmod_eq_emod_of_nonneg (by omega), Int.tdiv_eq_ediv_of_nonneg (by omega)]
                obtain ⟨A, rfl⟩ : ∃ n : Nat, a = n := ⟨a.toNat, by omega⟩
                obtain ⟨B, rfl⟩ : ∃ n : Nat, b = n := ⟨b.toNat, by omega⟩
                rw [Int.toNat_natCast, Int.toNat_natCast] at h
                refine ⟨by unfold inR; omega, n_stopsOf (by omega) hM ⟨_, rfl, ?_⟩⟩
                by_cases hi : ((R A).length : Int) < c % 16
                · rw [if_pos hi]
                  rw [if_neg (fun z => by omega)] at h
                  exact h
                · rw [if_neg hi]
                  refine n_stopsOf (by omega) hM ⟨_, rfl, ?_⟩
                  by_cases hj : ((R B).length : Int) < c / 16
                  · rw [if_pos hj]
                    rw [if_neg (fun z => by omega)] at h
                    exact h
                  · rw [if_neg hj]
                    rw [if_pos ⟨ha, hb, by omega, by omega, by omega, by omega⟩] at h
                    exact h
          · rw [b2i_f hb, if_pos rfl]
            rw [if_neg (fun z => hb z.2.1)] at h
            exact h
        · rw [b2i_f ha, if_pos rfl]
          rw [if_neg (fun z => ha z.1)] at h
          exact h
      · rw [if_neg k2] at h ⊢
        by_cases k3 : kind = 3
        · rw [if_pos k3] at h ⊢
          refine m_isVan ⟨_, rfl, ?_⟩
          by_cases ha : 0 ≤ a ∧ a ≤ 3
          · rw [b2i_t ha, if_neg (by decide)]
            obtain ⟨A, rfl⟩ : ∃ n : Nat, a = n := ⟨a.toNat, by omega⟩
            rw [Int.toNat_natCast] at h
            have l := h12 A (by omega)
            refine n_stopsOf (by omega) hM ⟨_, rfl, by unfold inR; omega, m_isIn ⟨_, rfl, ?_⟩⟩
            by_cases hcl : 0 ≤ c ∧ c ≤ ((R A).length : Int) - 1
            · rw [b2i_t hcl, if_neg (by decide)]
              refine ⟨by unfold inR; omega, m_isIn ⟨_, rfl, ?_⟩⟩
              by_cases hb : 0 ≤ b ∧ b ≤ c - 1
              · rw [b2i_t hb, if_neg (by decide)]
                rw [if_pos ⟨ha, hb.1, by omega, by omega⟩] at h
                exact h
              · rw [b2i_f hb, if_pos rfl]
                rw [if_neg (fun z => by omega)] at h
                exact h
            · rw [b2i_f hcl, if_pos rfl]
              rw [if_neg (fun z => by omega)] at h
              exact h
          · rw [b2i_f ha, if_pos rfl]
            rw [if_neg (fun z => ha z.1)] at h
            exact h
        · rw [if_neg k3] at h ⊢
          exact h
/-- a van's row cut short; one more behind it -/
theorem TQ_cut {T : Nat → List Int} {J J' : IM} {A i : Nat} (h : TQ T J) (hA : A < 4) (hi : i ≤ (T A).length) (e : J' = iup J 242 (13 * A) (i : Int)) : TQ (setR T A ((T A).take i)) J' := by
  have hl : (T A).length ≤ 12 := by have := LM_le h.1 hA; rw [h.2 A hA] at this; exact this
  have f : ∀ j, j ≠ 13 * A → J' 242 j = J 242 j := fun j hj => by rw [e, iup_ne (Or.inr hj)]
  refine ⟨fun v hv => ?_, fun v hv => ?_⟩
  · rw [Nat.zero_add]
    by_cases c : v = A
    · rw [c, e, iup_same]; omega
    · rw [f _ (by omega)]
      have := h.1 v hv
      rw [Nat.zero_add] at this
      exact this
  · by_cases c : v = A
    · subst c
      have ll : ((T v).take i).length = i := by rw [List.length_take]; omega
      rw [setR_s]
      refine LMq_ext (by rw [e, iup_same, ll]) (fun k hk => ?_)
      rw [ll] at hk
      rw [List.getElem?_take, if_pos hk, f _ (by omega)]
      exact TQ_get h hv (by omega)
    · rw [setR_n c, ← h.2 v hv]
      exact LM_cg (by rw [Nat.zero_add]; exact f _ (by omega)) (fun k hk => by
        have := h.1 v hv
        rw [Nat.zero_add]
        rw [Nat.zero_add] at hk this
        exact f _ (by omega))
theorem m_app {T : Nat → List Int} {A k : Nat} {x : Int} {J : IM} {K : Option AV → IM → Prop} (hA : A < 4) (h : TQ T J) (hk : k = (T A).length) (h12 : (T A).length < 12) (hK : ∀ J', (∀ p j, p ≠ 242 → J' p j = J p j) → TQ (setR T A (T A ++ [x])) J' → K none J') : CALL S0 157 [vR 242, vI (A : Int), vI (k : Int), vI x] J K :=
  m_ins s0_242 hA h.1 (by rw [h.2 A hA]; exact h12) (by rw [h.2 A hA]; omega) fun J' f s l => hK J' f ⟨s, fun w hw => by
    rw [l w hw, h.2 A hA]
    have ap : (T A).insertIdx k x = T A ++ [x] := by
      rw [hk]
      exact List.insertIdx_length_self
    rw [ap]
    by_cases c : w = A
    · rw [c, setR_s, setR_s]
    · rw [setR_n c, setR_n c]; exact h.2 w hw⟩
theorem setR_setR {R : Nat → List Int} {v : Nat} {L M : List Int} : setR (setR R v L) v M = setR R v M := by
  funext w
  by_cases c : w = v
  · rw [c, setR_s, setR_s]
  · rw [setR_n c, setR_n c, setR_n c]
theorem n_crosses {A B i j : Nat} {R : Nat → List Int} {J : IM} {K : Option AV → IM → Prop} (hA : A < 4) (hB : B < 4) (ne : A ≠ B) (h12 : ∀ v, v < 4 → (R v).length ≤ 12) (hT : TQ R J) (hi : i ≤ (R A).length) (hj : j ≤ (R B).length) (hl1 : i + ((R B).length - j) ≤ 12) (hl2 : j + ((R A).length - i) ≤ 12) (h : ∀ J', (∀ p q, p ≠ 242 → p ≠ 248 → J' p q = J p q) → TQ (crR R A B i j) J' → K none J') : CALL S0 213 [vR 237, vI (A : Int), vI (B : Int), vI (i : Int), vI (j : Int)] J K := by
  refine e213 ?_
  unfold D213_0
  have la := h12 A hA
  have lb := h12 B hB
  have oA : (A : Int) < 4 := by omega
  refine m_sizeOf s0_242 (by omega) ⟨_, rfl, ?_⟩
  rw [Int.toNat_natCast, TQ_len hT hA]
  refine ⟨by unfold inR; omega, ?_⟩
  rw [show ((R A).length : Int) - (i : Int) = (((R A).length - i : Nat) : Int) by omega]
  generalize hof : (R A).length - i = of
  generalize hot : (R B).length - j = ot
  -- the last loop: the tail goes behind B
  have l3 : ∀ t k : Nat, k + t = of → ∀ L T, (∀ p q, p ≠ 242 → p ≠ 248 → L p q = J p q) → (∀ q, q < of → (R A)[i + q]? = some (L 248 q)) → TQ T L → T A = (R A).take i ++ (R B).drop j → T B = (R B).take j ++ ((R A).drop i).take k → (∀ v, v ≠ A → v ≠ B → T v = R v) → GO S0 213 129 [vR 237, vI (A : Int), vI (B : Int), vI (i : Int), vI (j : Int), vI (of : Int), vI (ot : Int), vI (k : Int)] [] L K := by
    intro t
    induction t with
    | zero =>
      intro k e L T f g tq ta tb to
      refine g213_129 _ _ _ _ _ _ _ L K ?_
      unfold D213_129
      rw [if_pos (by omega)]
      obtain ⟨c1, c2, c3⟩ := cr_at (R := R) (i := i) (j := j) ne
      refine h L f (TQ_eq tq fun v hv => ?_)
      by_cases d1 : v = A
      · rw [d1, ta, c1]
      · by_cases d2 : v = B
        · rw [d2, tb, c2, List.take_of_length_le (i := k) (l := (R A).drop i) (by rw [List.length_drop]; omega)]
        · rw [to v d1 d2, c3 v d1 d2]
    | succ t ih =>
      intro k e L T f g tq ta tb to
      refine g213_129 _ _ _ _ _ _ _ L K ?_
      unfold D213_129 inR
      rw [if_neg (by omega), Int.toNat_natCast]
      have lt : (T B).length = j + k := by rw [tb, List.length_append, List.length_take, List.length_take, List.length_drop]; omega
      refine ⟨by omega, by omega, ?_⟩
      rw [show (j : Int) + (k : Int) = ((j + k : Nat) : Int) by omega]
      refine m_app hB tq lt.symm (by omega) fun L' f' tq' => ⟨rfl, by omega, ?_⟩
      have := ih (k + 1) (by omega) L' _ (fun p q a b => (f' p q a).trans (f p q a b)) (fun q hq => by rw [f' 248 q (by decide)]; exact g q hq) tq' (by rw [setR_n ne]; exact ta) (by
        rw [setR_s, tb, List.append_assoc]
        congr 1
        have gk := g k (by omega)
        rw [← List.getElem?_drop] at gk
        rw [List.take_add_one, gk]
        rfl) (fun v n1 n2 => by rw [setR_n n2]; exact to v n1 n2)
      rw [show ((k + 1 : Nat) : Int) = (k : Int) + 1 by omega] at this
      exact this
  -- the middle loop: what is behind j of B goes behind A
  have l2 : ∀ t k : Nat, k + t = ot → ∀ L T, (∀ p q, p ≠ 242 → p ≠ 248 → L p q = J p q) → (∀ q, q < of → (R A)[i + q]? = some (L 248 q)) → TQ T L → T A = (R A).take i ++ ((R B).drop j).take k → (∀ v, v ≠ A → T v = R v) → GO S0 213 76 [vR 237, vI (A : Int), vI (B : Int), vI (i : Int), vI (j : Int), vI (of : Int), vI (ot : Int), vI (k : Int)] [] L K := by
    intro t
    induction t with
    | zero =>
      intro k e L T f g tq ta to
      refine g213_76 _ _ _ _ _ _ _ L K ?_
      unfold D213_76 inR
      rw [if_pos (by omega), show (13 * (B : Int)).toNat = 13 * B by omega]
      refine ⟨by omega, by omega, fun I4 e4 => ?_⟩
      have tb : T B = R B := to B (Ne.symm ne)
      have tq4 := TQ_cut tq hB (i := j) (by rw [tb]; exact hj) e4
      have := l3 of 0 (by omega) I4 _ (fun p q a b => by rw [e4, iup_ne (Or.inl a)]; exact f p q a b) (fun q hq => by rw [e4, iup_ne (Or.inl (by decide))]; exact g q hq) tq4 (by rw [setR_n ne, ta, List.take_of_length_le (i := k) (l := (R B).drop j) (by rw [List.length_drop]; omega)]) (by rw [setR_s, tb, List.take_zero, List.append_nil]) (fun v n1 n2 => by rw [setR_n n2]; exact to v n1)
      exact this
    | succ t ih =>
      intro k e L T f g tq ta to
      refine g213_76 _ _ _ _ _ _ _ L K ?_
      unfold D213_76 inR
      rw [if_neg (by omega)]
      have tb : T B = R B := to B (Ne.symm ne)
      have lt : (T A).length = i + k := by rw [ta, List.length_append, List.length_take, List.length_take, List.length_drop]; omega
      refine ⟨by omega, by omega, m_at s0_242 (by omega) (by omega) ⟨_, rfl, ?_⟩⟩
      rw [Int.toNat_natCast, show ((j : Int) + (k : Int)).toNat = j + k by omega, show (i : Int) + (k : Int) = ((i + k : Nat) : Int) by omega]
      have gk := TQ_get tq hB (k := j + k) (by rw [tb]; omega)
      rw [tb] at gk
      refine m_app hA tq lt.symm (by omega) fun L' f' tq' => ⟨rfl, by omega, ?_⟩
      have := ih (k + 1) (by omega) L' _ (fun p q a b => (f' p q a).trans (f p q a b)) (fun q hq => by rw [f' 248 q (by decide)]; exact g q hq) tq' (by
        rw [setR_s, ta, List.append_assoc]
        congr 1
        rw [← List.getElem?_drop] at gk
        rw [List.take_add_one, gk]
        rfl) (fun v n1 => by rw [setR_n n1]; exact to v n1)
      rw [show ((k + 1 : Nat) : Int) = (k : Int) + 1 by omega] at this
      exact this
  -- the first loop: the tail of A
  have l1 : ∀ t k : Nat, k + t = of → ∀ L, (∀ p q, p ≠ 248 → L p q = J p q) → (∀ q, q < k → (R A)[i + q]? = some (L 248 q)) → ∀ u : AV, GO S0 213 16 [vR 237, vI (A : Int), vI (B : Int), vI (i : Int), vI (j : Int), vI (of : Int), vI (k : Int), u] [] L K := by
    intro t
    induction t with
    | zero =>
      intro k e L f g u
      refine g213_16 _ _ _ _ _ _ _ L K ?_
      unfold D213_16 inR
      rw [if_pos (by omega), show (13 * (A : Int)).toNat = 13 * A by omega]
      refine ⟨by omega, by omega, fun I4 e4 => ?_⟩
      have tqL := TQ_o hT (J' := L) (funext fun q => f 242 q (by decide))
      have tq4 := TQ_cut tqL hA hi e4
      refine m_sizeOf s0_242 (by omega) ⟨_, rfl, ?_⟩
      rw [Int.toNat_natCast, TQ_len tq4 hB, setR_n (Ne.symm ne)]
      refine ⟨by omega, ?_⟩
      rw [show ((R B).length : Int) - (j : Int) = (ot : Int) by omega]
      exact l2 ot 0 (by omega) I4 _ (fun p q a b => by rw [e4, iup_ne (Or.inl a)]; exact f p q b) (fun q hq => by rw [e4, iup_ne (Or.inl (by decide))]; exact g q (by omega)) tq4 (by rw [setR_s, List.take_zero, List.append_nil]) (fun v n1 => setR_n n1)
    | succ t ih =>
      intro k e L f g u
      refine g213_16 _ _ _ _ _ _ _ L K ?_
      unfold D213_16 inR
      rw [if_neg (by omega)]
      refine ⟨by omega, m_at s0_242 (by omega) (by omega) ⟨_, rfl, ?_⟩⟩
      rw [Int.toNat_natCast, show ((i : Int) + (k : Int)).toNat = i + k by omega, Int.toNat_natCast, f 242 _ (by decide)]
      refine ⟨by omega, fun I12 e12 => ⟨by omega, ?_⟩⟩
      have gk := TQ_get hT hA (k := i + k) (by omega)
      have := ih (k + 1) (by omega) I12 (fun p q a => by rw [e12, iup_ne (Or.inl a)]; exact f p q a) (fun q hq => by
        by_cases c : q = k
        · rw [c, e12, iup_same]; exact gk
        · rw [e12, iup_ne (Or.inr c)]; exact g q (by omega)) u
      rw [show ((k + 1 : Nat) : Int) = (k : Int) + 1 by omega] at this
      exact this
  exact l1 of 0 (by omega) J (fun _ _ _ => rfl) (fun q hq => by omega) vU
theorem n_turns {A B D : Nat} {R : Nat → List Int} {J : IM} {K : Option AV → IM → Prop} (hA : A < 4) (h12 : ∀ v, v < 4 → (R v).length ≤ 12) (hT : TQ R J) (hb : B < D) (hd : D < (R A).length) (h : ∀ J', (∀ p q, p ≠ 242 → p ≠ 248 → J' p q = J p q) → TQ (setR R A (tnL (R A) B D)) J' → K none J') : CALL S0 214 [vR 237, vI (A : Int), vI (B : Int), vI (D : Int)] J K := by
  refine e214 ?_
  unfold D214_0
  have la := h12 A hA
  have l2 : ∀ t k : Nat, k + t = D + 1 → B ≤ k → ∀ L, (∀ p q, p ≠ 248 → (p ≠ 242 ∨ q < 13 * A + 1 + B ∨ 13 * A + 1 + k ≤ q) → L p q = J p q) → (∀ q, B ≤ q → q ≤ D → (R A)[q]? = some (L 248 q)) → (∀ q, B ≤ q → q < k → (R A)[B + D - q]? = some (L 242 (13 * A + 1 + q))) → GO S0 214 36 [vR 237, vI (A : Int), vI (B : Int), vI (D : Int), vI (k : Int)] [] L K := by
    intro t
    induction t with
    | zero =>
      intro k e hk L f g g2
      refine g214_36 _ _ _ _ L K ?_
      unfold D214_36
      rw [if_pos (by omega)]
      refine h L (fun p q a b => f p q b (Or.inl a)) ⟨fun v hv => ?_, fun v hv => ?_⟩
      · rw [Nat.zero_add, f _ _ (by decide) (by omega)]
        have := hT.1 v hv
        rw [Nat.zero_add] at this
        exact this
      · by_cases c : v = A
        · subst c
          have pl := (tn_perm (L := R v) (b := B) (c := D) (by omega)).length_eq
          rw [setR_s]
          refine LMq_ext (by rw [f _ _ (by decide) (by omega), pl]; exact TQ_len hT hv) (fun m hm' => ?_)
          rw [pl] at hm'
          rw [tn_get (by omega) (by omega)]
          by_cases d : B ≤ m ∧ m ≤ D
          · rw [if_pos d]; exact g2 m d.1 (by omega)
          · rw [if_neg d, f _ _ (by decide) (by omega)]
            exact TQ_get hT hv hm'
        · rw [setR_n c, ← hT.2 v hv]
          exact LM_cg (by rw [Nat.zero_add]; exact f _ _ (by decide) (by omega)) (fun k hk => by
            have := hT.1 v hv
            rw [Nat.zero_add]
            rw [Nat.zero_add] at hk this
            exact f _ _ (by decide) (by omega))
    | succ t ih =>
      intro k e hk L f g g2
      refine g214_36 _ _ _ _ L K ?_
      unfold D214_36 inR
      rw [if_neg (by omega), show (13 * (A : Int) + 1 + (k : Int)).toNat = 13 * A + 1 + k by omega, show ((B : Int) + (D : Int) - (k : Int)).toNat = B + D - k by omega]
      refine ⟨by omega, by omega, by omega, by omega, by omega, by omega, by omega, fun I9 e9 => ⟨by omega, ?_⟩⟩
      have := ih (k + 1) (by omega) (by omega) I9 (fun p q a b => by rw [e9, iup_ne (by omega)]; exact f p q a (by omega)) (fun q a b => by rw [e9, iup_ne (Or.inl (by decide))]; exact g q a b) (fun q a b => by
        by_cases c : q = k
        · rw [c, e9, iup_same]; exact g _ (by omega) (by omega)
        · rw [e9, iup_ne (Or.inr (by omega))]; exact g2 q a (by omega))
      rw [show ((k + 1 : Nat) : Int) = (k : Int) + 1 by omega] at this
      exact this
  have l1 : ∀ t k : Nat, k + t = D + 1 → B ≤ k → ∀ L, (∀ p q, p ≠ 248 → L p q = J p q) → (∀ q, B ≤ q → q < k → (R A)[q]? = some (L 248 q)) → GO S0 214 3 [vR 237, vI (A : Int), vI (B : Int), vI (D : Int), vI (k : Int)] [] L K := by
    intro t
    induction t with
    | zero =>
      intro k e hk L f g
      refine g214_3 _ _ _ _ L K ?_
      unfold D214_3
      rw [if_pos (by omega)]
      exact l2 (D + 1 - B) B (by omega) (Nat.le_refl _) L (fun p q a _ => f p q a) (fun q a b => g q a (by omega)) (fun q a b => by omega)
    | succ t ih =>
      intro k e hk L f g
      refine g214_3 _ _ _ _ L K ?_
      unfold D214_3 inR
      rw [if_neg (by omega)]
      refine m_at s0_242 (by omega) (by omega) ⟨_, rfl, by omega, fun I5 e5 => ⟨by omega, ?_⟩⟩
      rw [Int.toNat_natCast, Int.toNat_natCast, f 242 _ (by decide)] at e5
      have := ih (k + 1) (by omega) (by omega) I5 (fun p q a => by rw [e5, iup_ne (Or.inl a)]; exact f p q a) (fun q a b => by
        by_cases c : q = k
        · rw [c, e5, iup_same]; exact TQ_get hT hA (by omega)
        · rw [e5, iup_ne (Or.inr c)]; exact g q a (by omega))
      rw [show ((k + 1 : Nat) : Int) = (k : Int) + 1 by omega] at this
      exact this
  exact l1 (D + 1 - B) B (by omega) (Nat.le_refl _) J (fun _ _ _ => rfl) (fun q a b => by omega)
theorem n_makes {kind a b c : Int} {G : Nat → Int} {R : Nat → List Int} {J : IM} {K : Option AV → IM → Prop} (hG : GR G) (hV : VR G R) (hM : MF G R J) (hm : mvB R kind a b c = 1) (h : ∀ J', (∀ p q, p ≠ 242 → p ≠ 248 → J' p q = J p q) → TQ (mkR R kind a b c) J' → K none J') : CALL S0 212 [vR 237, vI kind, vI a, vI b, vI c] J K := by
  refine e212 ?_
  unfold D212_0
  have hn := hG.1
  have hR := VR_R12 hG hV
  obtain ⟨h1, h2, h3⟩ := VR_V0 hV
  have v0 := (mk_V0 hG (VR_V0 hV) hm).1
  refine n_tries hM fun J1 f1 s1 l1 => ⟨rfl, ?_⟩
  have M1 := MF_238 hM (J' := J1) (funext fun j => f1 238 j (by decide))
  have T1 : TQ R J1 := ⟨s1, l1⟩
  unfold mvB at hm
  by_cases k0 : kind = 0
  · rw [if_pos k0] at hm ⊢
    have hc : 0 ≤ vanF R a ∧ (0 ≤ b ∧ b ≤ 3) ∧ 0 ≤ c ∧ c ≤ ((R b.toNat).length : Int) - (if vanF R a = b then 1 else 0) := if1 hm
    obtain ⟨ha, hb, hc0, hcl⟩ := hc
    have eR : mkR R kind a b c = shR R a b c := by unfold mkR; rw [if_pos k0]
    rw [eR] at h
    obtain ⟨B, rfl⟩ : ∃ n : Nat, b = n := ⟨b.toNat, by omega⟩
    obtain ⟨c, rfl⟩ : ∃ n : Nat, c = n := ⟨c.toNat, by omega⟩
    rw [Int.toNat_natCast] at hcl
    have hB : B < 4 := by omega
    have hw := vanF_mem ha
    have aG := h2 _ hw.1 a hw.2.1
    have ol := out_len ha (v := B)
    refine n_vanOf M1 ⟨_, rfl, n_placeOf M1 ha ⟨_, rfl, n_out s1 l1 ha fun J2 f2 s2 l2 => ⟨rfl, ?_⟩⟩⟩
    have om := out_mem (x := a) h3 ha hB
    have on : (outR R a B).Nodup := by
      unfold outR
      by_cases d : B = (vanF R a).toNat
      · rw [d, setR_s]; exact (h3.1 _ hw.1).sublist (List.eraseIdx_sublist _ _)
      · rw [setR_n d]; exact h3.1 B hB
    have room : (outR R a B).length < 12 := by
      have := nd_len 12 (a :: outR R a B) (List.nodup_cons.mpr ⟨fun z => (om.mp z).2 rfl, on⟩) (fun x hx => by
        rcases List.mem_cons.mp hx with e | e
        · rw [e]; omega
        · have := hR B hB x ((out_mem h3 ha hB).mp e).1; omega)
      rw [List.length_cons] at this
      omega
    refine m_ins s0_242 hB s2 (by rw [l2 B hB]; exact room) (by
      rw [l2 B hB, ol]
      by_cases z : vanF R a = (B : Int)
      · rw [if_pos z] at hcl ⊢; omega
      · rw [if_neg z] at hcl ⊢; omega) fun J3 f3 s3 l3 => ⟨rfl, ?_⟩
    refine h J3 (fun p q z1 _ => by rw [f3 p q z1, f2 p q z1, f1 p q z1]) ⟨s3, fun w hw' => ?_⟩
    rw [l3 w hw']
    unfold shR
    rw [Int.toNat_natCast, Int.toNat_natCast, l2 B hB]
    by_cases d : w = B
    · rw [d, setR_s, setR_s]
    · rw [setR_n d, setR_n d]; exact l2 w hw'
  · rw [if_neg k0] at hm ⊢
    by_cases k1 : kind = 1
    · rw [if_pos k1] at hm ⊢
      have hc : a < b ∧ c = 0 ∧ 0 ≤ vanF R a ∧ 0 ≤ vanF R b := if1 hm
      obtain ⟨hab, hc0, ha, hb⟩ := hc
      have eR : mkR R kind a b c = swR R a b := by unfold mkR; rw [if_neg k0, if_pos k1]
      rw [eR] at h
      have wa := vanF_mem ha
      have wb := vanF_mem hb
      have ia := idx_lt wa.2.1
      have ib := idx_lt wb.2.1
      have la := h1 _ wa.1
      have lb := h1 _ wb.1
      generalize hva : (vanF R a).toNat = A at *
      generalize hvb : (vanF R b).toNat = B at *
      have eva : vanF R a = (A : Int) := by omega
      have evb : vanF R b = (B : Int) := by omega
      refine n_vanOf M1 ⟨_, rfl, ?_⟩
      rw [eva]
      refine ⟨by unfold inR; omega, by unfold inR; omega, n_placeOf M1 ha ⟨_, rfl, ?_⟩⟩
      rw [wa.2.2]
      refine ⟨by unfold inR; omega, by omega, fun I18 e18 => ?_⟩
      rw [show (13 * (A : Int) + 1 + ((idx a (R A) : Nat) : Int)).toNat = 13 * A + 1 + idx a (R A) by omega] at e18
      have f18 : ∀ p q, (p ≠ 242 ∨ q ≠ 13 * A + 1 + idx a (R A)) → I18 p q = J1 p q := fun p q z => by rw [e18, iup_ne z]
      have M18 := MF_238 M1 (J' := I18) (funext fun j => f18 238 j (by omega))
      refine n_vanOf M18 ⟨_, rfl, ?_⟩
      rw [evb]
      refine ⟨by unfold inR; omega, by unfold inR; omega, n_placeOf M18 hb ⟨_, rfl, ?_⟩⟩
      rw [wb.2.2]
      refine ⟨by unfold inR; omega, by omega, fun I27 e27 => ?_⟩
      rw [show (13 * (B : Int) + 1 + ((idx b (R B) : Nat) : Int)).toNat = 13 * B + 1 + idx b (R B) by omega] at e27
      have f27 : ∀ p q, (p ≠ 242 ∨ q ≠ 13 * B + 1 + idx b (R B)) → I27 p q = I18 p q := fun p q z => by rw [e27, iup_ne z]
      refine h I27 (fun p q z1 _ => by rw [f27 p q (by omega), f18 p q (by omega), f1 p q z1]) ⟨fun v hv => ?_, fun v hv => ?_⟩
      · rw [Nat.zero_add, f27 _ _ (by omega), f18 _ _ (by omega)]
        have := s1 v hv
        rw [Nat.zero_add] at this
        exact this
      · have lv : (swR R a b v).length = (R v).length := List.length_map _
        have l12 := h1 v hv
        refine LMq_ext (by rw [f27 _ _ (by omega), f18 _ _ (by omega), lv]; exact TQ_len T1 hv) (fun k hk => ?_)
        rw [lv] at hk
        have gk := TQ_get T1 hv hk
        have mk := List.mem_of_getElem? gk
        rw [show (swR R a b v)[k]? = Option.map (sw a b) (R v)[k]? from List.getElem?_map, gk, Option.map_some]
        congr 1
        by_cases y1 : v = B ∧ k = idx b (R B)
        · have eb : J1 242 (13 * v + 1 + k) = b := by
            rw [y1.1, y1.2] at gk ⊢
            exact Option.some.inj (gk.symm.trans ib.2)
          rw [eb, e27, y1.1, y1.2, iup_same]
          unfold sw
          rw [if_neg (by omega), if_pos rfl]
        · have nb : J1 242 (13 * v + 1 + k) ≠ b := fun z => y1 (by
            rw [z] at gk mk
            have ev : v = B := in_one h3 hv wb.1 mk wb.2.1
            exact ⟨ev, by rw [← ev]; exact (idx_of (h3.1 v hv) gk).symm⟩)
          rw [f27 _ _ (by omega)]
          by_cases y2 : v = A ∧ k = idx a (R A)
          · have ea : J1 242 (13 * v + 1 + k) = a := by
              rw [y2.1, y2.2] at gk ⊢
              exact Option.some.inj (gk.symm.trans ia.2)
            rw [ea, e18, y2.1, y2.2, iup_same]
            unfold sw
            rw [if_pos rfl]
          · rw [f18 _ _ (by omega)]
            have na : J1 242 (13 * v + 1 + k) ≠ a := fun z => y2 (by
              rw [z] at gk mk
              have ev : v = A := in_one h3 hv wa.1 mk wa.2.1
              exact ⟨ev, by rw [← ev]; exact (idx_of (h3.1 v hv) gk).symm⟩)
            unfold sw
            rw [if_neg na, if_neg nb]
    · rw [if_neg k1] at hm ⊢
      by_cases k2 : kind = 2
      · rw [if_pos k2] at hm ⊢
        have hc : (0 ≤ a ∧ a ≤ 3) ∧ (0 ≤ b ∧ b ≤ 3) ∧ a < b ∧ 0 ≤ c ∧ c % 16 ≤ ((R a.toNat).length : Int) ∧ c / 16 ≤ ((R b.toNat).length : Int) := if1 hm
        obtain ⟨ha, hb, hab, hc0, hi, hj⟩ := hc
        have eR : mkR R kind a b c = crR R a.toNat b.toNat (c % 16).toNat (c / 16).toNat := by unfold mkR; rw [if_neg k0, if_neg k1, if_pos k2]
        rw [eR] at h v0
        rw [Int.tmod_eq_emod_of_nonneg hc0, Int.tdiv_eq_ediv_of_nonneg hc0]
        obtain ⟨A, rfl⟩ : ∃ n : Nat, a = n := ⟨a.toNat, by omega⟩
        obtain ⟨B, rfl⟩ : ∃ n : Nat, b = n := ⟨b.toNat, by omega⟩
        obtain ⟨i, ei⟩ : ∃ n : Nat, c % 16 = n := ⟨(c % 16).toNat, by omega⟩
        obtain ⟨j, ej⟩ : ∃ n : Nat, c / 16 = n := ⟨(c / 16).toNat, by omega⟩
        rw [ei, ej, Int.toNat_natCast, Int.toNat_natCast, Int.toNat_natCast, Int.toNat_natCast] at h v0
        rw [Int.toNat_natCast, ei] at hi
        rw [Int.toNat_natCast, ej] at hj
        rw [ei, ej]
        have hA : A < 4 := by omega
        have hB : B < 4 := by omega
        have ne : A ≠ B := by omega
        obtain ⟨c1, c2, c3⟩ := cr_at (R := R) (i := i) (j := j) ne
        have lA := v0.1 A hA
        have lB := v0.1 B hB
        rw [c1, List.length_append, List.length_take, List.length_drop] at lA
        rw [c2, List.length_append, List.length_take, List.length_drop] at lB
        have q1 := h1 A hA
        have q2 := h1 B hB
        exact ⟨by unfold inR; omega, n_crosses hA hB ne h1 T1 (by omega) (by omega) (by omega) (by omega) fun J2 f2 T2 => ⟨rfl, h J2 (fun p q z1 z2 => by rw [f2 p q z1 z2, f1 p q z1]) T2⟩⟩
      · rw [if_neg k2] at hm ⊢
        have hk3 : kind = 3 := by
          split at hm
          · assumption
          · omega
        rw [if_pos hk3] at hm
        have hc : (0 ≤ a ∧ a ≤ 3) ∧ 0 ≤ b ∧ b < c ∧ c < ((R a.toNat).length : Int) := if1 hm
        obtain ⟨ha, hb, hbc, hcl⟩ := hc
        have eR : mkR R kind a b c = setR R a.toNat (tnL (R a.toNat) b.toNat c.toNat) := by unfold mkR; rw [if_neg k0, if_neg k1, if_neg k2]
        rw [eR] at h
        obtain ⟨A, rfl⟩ : ∃ n : Nat, a = n := ⟨a.toNat, by omega⟩
        obtain ⟨B, rfl⟩ : ∃ n : Nat, b = n := ⟨b.toNat, by omega⟩
        obtain ⟨D, rfl⟩ : ∃ n : Nat, c = n := ⟨c.toNat, by omega⟩
        rw [Int.toNat_natCast, Int.toNat_natCast, Int.toNat_natCast] at h
        rw [Int.toNat_natCast] at hcl
        exact n_turns (by omega) h1 T1 (by omega) (by omega) fun J2 f2 T2 => ⟨rfl, h J2 (fun p q z1 z2 => by rw [f2 p q z1 z2, f1 p q z1]) T2⟩
