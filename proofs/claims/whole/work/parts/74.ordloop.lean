/-! level 2: many orders' text -/
def osP (T : Nat → Int) (n : Nat) : Nat → Nat
  | 0 => 0
  | i + 1 => match odS T n (.inr (osP T n i)) with
    | .inr p' => p' + 1
    | .inl q => q
def osG (T : Nat → Int) (n i : Nat) : Prop := ∃ p', odS T n (.inr (osP T n i)) = .inr p' ∧ rdT T n p' = 59
theorem osP_s {T : Nat → Int} {n i p' : Nat} (h : odS T n (.inr (osP T n i)) = .inr p') : osP T n (i + 1) = p' + 1 := by
  rw [show osP T n (i + 1) = (match odS T n (.inr (osP T n i)) with | .inr p' => p' + 1 | .inl q => q) from rfl, h]
theorem os_len {T : Nat → Int} {n : Nat} : ∀ i, (∀ j, j < i → osG T n j) → 10 * i ≤ osP T n i ∧ osP T n i ≤ n
  | 0, _ => ⟨Nat.le_refl _, Nat.zero_le _⟩
  | i + 1, h => by
    have ih := os_len i (fun j hj => h j (by omega))
    obtain ⟨p', e, y⟩ := h i (by omega)
    obtain ⟨p, a, b, c, _⟩ := od_inr (s := .inr (osP T n i)) ih.2 e
    have := Sum.inr.inj a
    have l := rd_in (T := T) (n := n) (p := p') (by omega)
    rw [osP_s e]
    omega
theorem os_end {T : Nat → Int} {n : Nat} (hB : TB T n) : ∃ m, m ≤ 16 ∧ (∀ j, j < m → osG T n j) ∧ ¬ osG T n m ∧ osP T n m ≤ n := by
  have key : ∀ k, (∀ j, j < k → osG T n j) ∨ ∃ m, (∀ j, j < m → osG T n j) ∧ ¬ osG T n m := by
    intro k
    induction k with
    | zero => exact Or.inl (fun j hj => by omega)
    | succ k ih =>
      rcases ih with a | a
      · by_cases c : osG T n k
        · refine Or.inl (fun j hj => ?_)
          by_cases e : j = k
          · rw [e]; exact c
          · exact a j (by omega)
        · exact Or.inr ⟨k, a, c⟩
      · exact Or.inr a
  have h160 := hB.1
  rcases key 17 with a | ⟨m, a, b⟩
  · have := os_len 17 a; omega
  · have := os_len m a
    exact ⟨m, by omega, a, b, this.2⟩
theorem c_rdOrders {T : Nat → Int} {n m : Nat} {J : IM} {K : Option AV → IM → Prop} (hB : TB T n) (hT : CTp T n J) (hm : m ≤ 16) (hG : ∀ j, j < m → osG T n j) (hN : ¬ osG T n m)
    (hs : odS T n (.inr (osP T n m)) = .inr n → ∀ J', (∀ p j, (p < 212 ∨ 230 < p) → J' p j = J p j) → (∀ i, i ≤ m → ∀ w, w < 7 → J' (214 + i) w = odV T n (.inr (osP T n i)) w) → K (some (vI (((m + 1 : Nat)) : Int))) J')
    (hf : ∀ q, odFl T n (.inr (osP T n m)) q → ∀ J', (∀ p j, (p < 212 ∨ 230 < p) → J' p j = J p j) → K (some (vI (-100 - (q : Int)))) J') : CALL S0 30 [vR 212] J K := by
  have h160 := hB.1
  refine e30 ?_
  unfold D30_0
  refine e31 ?_
  unfold D31_0
  intro I1 e1 I2 e2
  refine ⟨rfl, ?_⟩
  have fin : ∀ (x1 : Int) (L : IM), D30_65 x1 0 L K → GO S0 30 8 [vR 212, vI x1, vI 0] [] L K := fun x1 L h => by
    refine g30_8 _ _ L K ?_
    unfold D30_8
    rw [if_pos rfl]
    exact h
  have bad : ∀ (q : Nat) (x1 x2 : Int) (L : IM), q ≤ n → odFl T n (.inr (osP T n m)) q → (∀ p j, (p < 212 ∨ 230 < p) → L p j = J p j) → RD (.inl q) L → D30_65 x1 x2 L K := fun q x1 x2 L hq a f r => by
    have r' : L 212 2 = (q : Int) := r
    unfold D30_65 inR
    rw [r', if_neg (by omega)]
    exact ⟨by omega, hf q a L f⟩
  have bad5 : ∀ (q : Nat) (x1 x2 : Int) (L : IM), q ≤ n → odFl T n (.inr (osP T n m)) q → (∀ p j, (p < 212 ∨ 230 < p) → L p j = J p j) → RD (.inl q) L → D30_50 x1 x2 L K := fun q x1 x2 L hq a f r => by
    unfold D30_50 D30_51
    rw [if_pos rfl]
    exact fin _ L (bad q _ _ L hq a f r)
  have key : ∀ d i : Nat, i + d = m → ∀ (L : IM), (∀ p j, (p < 212 ∨ 230 < p) → L p j = J p j) → RD (.inr (osP T n i)) L → (∀ u, u < i → ∀ w, w < 7 → L (214 + u) w = odV T n (.inr (osP T n u)) w) → GO S0 30 8 [vR 212, vI (i : Int), vI 1] [] L K := by
    intro d
    induction d with
    | zero =>
      intro i e L f r v
      have ei : i = m := by omega
      subst ei
      refine g30_8 _ _ L K ?_
      unfold D30_8 inR
      rw [if_neg (by decide), if_neg (by omega), Int.toNat_natCast]
      have hl := os_len i hG
      have hTL := CTp_fr hT (fun p j a => f p j (by omega))
      refine ⟨by omega, c_order (s0_lots i (by omega)) (by omega) hB hTL r hl.2 fun L4 f4 r4 v4 => ⟨rfl, by omega, ?_⟩⟩
      have f4' : ∀ p j, (p < 212 ∨ 230 < p) → L4 p j = J p j := fun p j a => (f4 p j (by omega) (by omega)).trans (f p j a)
      have vs : ∀ u, u ≤ i → ∀ w, w < 7 → L4 (214 + u) w = odV T n (.inr (osP T n u)) w := fun u hu w hw => by
        by_cases c : u = i
        · rw [c]; exact v4 w hw
        · rw [f4 _ _ (by omega) (by omega)]; exact v u (by omega) w hw
      have ok4 : okP n (odS T n (.inr (osP T n i))) := od11_ok (s := .inr (osP T n i)) hl.2
      cases es : odS T n (.inr (osP T n i)) with
      | inl q =>
        rw [es] at r4 ok4
        have r4' : L4 212 2 = (q : Int) := r4
        rw [if_neg (by omega)]
        exact bad5 q _ _ L4 ok4 (Or.inl es) f4' r4
      | inr p' =>
        rw [es] at r4 ok4
        have hp' : p' ≤ n := ok4
        obtain ⟨r41, r42⟩ := r4
        rw [if_pos r42]
        refine e40 ?_
        unfold D40_0
        have h208 : L4 208 1 = (n : Int) := (f4' 208 1 (by omega)).trans hT.1
        rw [r41, h208]
        by_cases c : p' = n
        · rw [if_neg (by omega)]
          refine ⟨_, rfl, ?_⟩
          rw [if_neg (by decide)]
          unfold D30_50 D30_51
          rw [if_pos rfl]
          refine fin _ L4 ?_
          unfold D30_65
          rw [if_pos r42]
          have := hs (by rw [es, c]) L4 f4' vs
          rw [show (((i + 1 : Nat)) : Int) = (i : Int) + 1 by omega] at this
          exact this
        · rw [if_pos (by omega)]
          refine ⟨_, rfl, ?_⟩
          rw [if_pos rfl]
          unfold D30_51
          rw [if_neg (by decide)]
          have ne : ¬ rdT T n p' = 59 := fun y => hN ⟨p', es, y⟩
          have hfl : odFl T n (.inr (osP T n i)) p' := Or.inr ⟨es, by omega, ne⟩
          refine c_pass (s := .inr p') hB (CTp_fr hT (fun p j a => f4' p j (by omega))) ⟨r41, r42⟩ hp' fun L5 f5 r5 => ⟨rfl, ?_⟩
          rw [show sgC T n 59 (.inr p') = .inl p' by unfold sgC; dsimp only; rw [if_neg ne]] at r5
          have f5' : ∀ p j, (p < 212 ∨ 230 < p) → L5 p j = J p j := fun p j a => (f5 p j (by omega)).trans (f4' p j a)
          refine g30_8 _ _ L5 K ?_
          unfold D30_8 inR
          rw [if_neg (by decide)]
          by_cases c17 : (17 : Int) ≤ (i : Int) + 1
          · rw [if_pos c17]
            exact bad p' _ _ L5 hp' hfl f5' r5
          · rw [if_neg c17, show ((i : Int) + 1).toNat = i + 1 by omega]
            refine ⟨by omega, c_order (s := .inl p') (s0_lots (i + 1) (by omega)) (by omega) hB (CTp_fr hT (fun p j a => f5' p j (by omega))) r5 hp' fun L6 f6 r6 _ => ⟨rfl, by omega, ?_⟩⟩
            have r6' : RD (.inl p') L6 := r6
            have r6n : L6 212 2 = (p' : Int) := r6'
            rw [if_neg (by omega)]
            exact bad5 p' _ _ L6 hp' hfl (fun p j a => (f6 p j (by omega) (by omega)).trans (f5' p j a)) r6'
    | succ d ih =>
      intro i e L f r v
      refine g30_8 _ _ L K ?_
      unfold D30_8 inR
      rw [if_neg (by decide), if_neg (by omega), Int.toNat_natCast]
      have hl := os_len i (fun j hj => hG j (by omega))
      have hTL := CTp_fr hT (fun p j a => f p j (by omega))
      obtain ⟨p', es, y⟩ := hG i (by omega)
      refine ⟨by omega, c_order (s0_lots i (by omega)) (by omega) hB hTL r hl.2 fun L4 f4 r4 v4 => ⟨rfl, by omega, ?_⟩⟩
      have f4' : ∀ p j, (p < 212 ∨ 230 < p) → L4 p j = J p j := fun p j a => (f4 p j (by omega) (by omega)).trans (f p j a)
      rw [es] at r4
      obtain ⟨r41, r42⟩ := r4
      rw [if_pos r42]
      refine e40 ?_
      unfold D40_0
      have h208 : L4 208 1 = (n : Int) := (f4' 208 1 (by omega)).trans hT.1
      have hp' := rd_in (T := T) (n := n) (p := p') (by omega)
      rw [r41, h208, if_pos (by omega)]
      refine ⟨_, rfl, ?_⟩
      rw [if_pos rfl]
      unfold D30_51
      rw [if_neg (by decide)]
      refine c_pass (s := .inr p') hB (CTp_fr hT (fun p j a => f4' p j (by omega))) ⟨r41, r42⟩ (by show p' ≤ n; omega) fun L5 f5 r5 => ⟨rfl, ?_⟩
      rw [show sgC T n 59 (.inr p') = .inr (p' + 1) by unfold sgC; dsimp only; rw [if_pos y], ← osP_s es] at r5
      have := ih (i + 1) (by omega) L5 (fun p j a => (f5 p j (by omega)).trans (f4' p j a)) r5 (fun u hu w hw => by
        rw [f5 _ _ (by omega)]
        by_cases c : u = i
        · rw [c]; exact v4 w hw
        · rw [f4 _ _ (by omega) (by omega)]; exact v u (by omega) w hw)
      rw [show (((i + 1 : Nat)) : Int) = (i : Int) + 1 by omega] at this
      exact this
  exact key m 0 (Nat.zero_add _) I2 (fun p j a => by rw [e2, e1, iup_ne (by omega), iup_ne (by omega)]) ⟨by rw [e2, iup_ne (Or.inr (by decide)), e1, iup_same]; rfl, by rw [e2, iup_same]⟩ (fun u hu => by omega)
theorem n_rdOrders {T : Nat → Int} {n m : Nat} {J : IM} {K : Option AV → IM → Prop} (hB : TB T n) (hT : NT T n J) (hm : m ≤ 16) (hG : ∀ j, j < m → osG T n j) (hN : ¬ osG T n m)
    (hs : odS T n (.inr (osP T n m)) = .inr n → ∀ (u3 : AV) (J' : IM), (∀ o k, (o ≠ 237 ∨ k ≠ 17) → o ≠ 245 → J' o k = J o k) → (∀ i, i ≤ m → ∀ w, w < 7 → J' 245 (7 * i + w) = odV T n (.inr (osP T n i)) w) → D146_44 ((m : Int) + 1) 1 u3 J' K)
    (hf : ∀ q, odFl T n (.inr (osP T n m)) q → ∀ (x1 : Int) (u3 : AV) (J' : IM), (∀ o k, (o ≠ 237 ∨ k ≠ 17) → o ≠ 245 → J' o k = J o k) → J' 237 17 = (q : Int) → D146_44 x1 0 u3 J' K) : CALL S0 146 [vR 237] J K := by
  have h160 := hB.1
  refine e146 ?_
  unfold D146_0
  intro I1 e1
  have f1 : ∀ o k, (o ≠ 237 ∨ k ≠ 17) → o ≠ 245 → I1 o k = J o k := fun o k a _ => by rw [e1, iup_ne a]
  have nt : ∀ L : IM, (∀ o k, (o ≠ 237 ∨ k ≠ 17) → o ≠ 245 → L o k = J o k) → NT T n L := fun L f => NT_fr hT (f 237 16 (by omega) (by omega)) (fun k => f 244 k (by omega) (by omega))
  have fl : ∀ (i q : Nat), i ≤ m → odFl T n (.inr (osP T n i)) q → i = m := fun i q hi a => by
    by_cases c : i = m
    · exact c
    · obtain ⟨p', es, y⟩ := hG i (by omega)
      rcases a with a | ⟨a, _, b⟩
      · rw [es] at a; cases a
      · rw [es] at a
        have := Sum.inr.inj a
        subst this
        exact absurd y b
  have bad : ∀ (i q : Nat) (u3 : AV) (L : IM), i ≤ m → odFl T n (.inr (osP T n i)) q → (∀ o k, (o ≠ 237 ∨ k ≠ 17) → o ≠ 245 → L o k = J o k) → L 237 17 = (q : Int) → GO S0 146 13 [vR 237, vI (i : Int), vI 0, u3] [] L K := fun i q u3 L hi a f r => by
    refine g146_13 _ _ u3 L K ?_
    unfold D146_13
    rw [if_pos rfl]
    have ei := fl i q hi a
    subst ei
    exact hf q a _ u3 L f r
  have key : ∀ d i : Nat, i + d = m → ∀ (p' : Nat) (u3 : AV) (L : IM), odS T n (.inr (osP T n i)) = .inr p' → p' = n ∨ rdT T n p' = 59 → (∀ o k, (o ≠ 237 ∨ k ≠ 17) → o ≠ 245 → L o k = J o k) → L 237 17 = (p' : Int) → (∀ u, u ≤ i → ∀ w, w < 7 → L 245 (7 * u + w) = odV T n (.inr (osP T n u)) w) → GO S0 146 13 [vR 237, vI (i : Int), vI 1, u3] [] L K := by
    intro d
    induction d with
    | zero =>
      intro i e p' u3 L es ep f r v
      have ei : i = m := by omega
      subst ei
      have ne : ¬ rdT T n p' = 59 := fun y => hN ⟨p', es, y⟩
      have en : p' = n := by rcases ep with a | a; exact a; exact absurd a ne
      refine g146_13 _ _ u3 L K ?_
      unfold D146_13 inR
      rw [if_neg (by decide)]
      refine ⟨by omega, n_sign hB (nt L f) r (by omega) (fun y => absurd y ne) (fun _ => ⟨_, rfl, ?_⟩)⟩
      rw [if_pos rfl]
      subst en
      exact hs es u3 L f v
    | succ d ih =>
      intro i e p' u3 L es ep f r v
      obtain ⟨p2, es2, y⟩ := hG i (by omega)
      rw [es] at es2
      have e2 := Sum.inr.inj es2
      subst e2
      have pn := rd_in (T := T) (n := n) (p := p') (by omega)
      refine g146_13 _ _ u3 L K ?_
      unfold D146_13 inR
      rw [if_neg (by decide)]
      refine ⟨by omega, n_sign hB (nt L f) r (by omega) (fun _ L3 f3 r3 => ⟨_, rfl, ?_⟩) (fun z => absurd y z)⟩
      rw [if_neg (by decide)]
      have f3' : ∀ o k, (o ≠ 237 ∨ k ≠ 17) → o ≠ 245 → L3 o k = J o k := fun o k a b => (f3 o k a).trans (f o k a b)
      have eo : osP T n (i + 1) = p' + 1 := osP_s es
      refine ⟨by omega, n_order (i := i + 1) (p := p' + 1) (s := .inr (osP T n (i + 1))) (by omega) (by omega) hB (nt L3 f3') r3 pn (by rw [eo]) (fun p3 e3 y3 L4 f4 r4 v4 => ⟨_, rfl, ?_⟩) (fun q a L4 f4 r4 => ⟨_, rfl, ?_⟩)⟩
      · have := ih (i + 1) (by omega) p3 u3 L4 e3 y3 (fun o k a b => (f4 o k a (by omega)).trans (f3' o k a b)) r4 (fun u hu w hw => by
          by_cases c : u = i + 1
          · rw [c]; exact v4 w hw
          · rw [f4 _ _ (by omega) (by omega), f3 _ _ (by omega)]; exact v u (by omega) w hw)
        rw [show (((i + 1 : Nat)) : Int) = (i : Int) + 1 by omega] at this
        exact this
      · have := bad (i + 1) q u3 L4 (by omega) a (fun o k a b => (f4 o k a (by omega)).trans (f3' o k a b)) r4
        rw [show (((i + 1 : Nat)) : Int) = (i : Int) + 1 by omega] at this
        exact this
  refine n_order (i := 0) (p := 0) (s := .inr (osP T n 0)) (by omega) (by omega) hB (nt I1 f1) (by rw [e1, iup_same]; rfl) (Nat.zero_le _) rfl (fun p3 e3 y3 L4 f4 r4 v4 => ⟨_, rfl, ?_⟩) (fun q a L4 f4 r4 => ⟨_, rfl, ?_⟩)
  · exact key m 0 (Nat.zero_add _) p3 vU L4 e3 y3 (fun o k a b => (f4 o k a (by omega)).trans (f1 o k a b)) r4 (fun u hu w hw => by
      have : u = 0 := by omega
      subst this
      exact v4 w hw)
  · exact bad 0 q vU L4 (by omega) a (fun o k a b => (f4 o k a (by omega)).trans (f1 o k a b)) r4
