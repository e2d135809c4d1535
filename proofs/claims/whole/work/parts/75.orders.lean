/-! level 2: class and model call by call: orders -/
theorem rt_B {I : IM} (h : REL I) : TB (I 209) (I 237 16).toNat := by
  have t := h.2.2.2.2.1
  refine ⟨by have := t.2.1; omega, fun k hk => ?_⟩
  have := t.2.2 k (by omega)
  rw [this.1]
  exact this.2
theorem rt_C {I J : IM} (h : REL I) (f : ∀ p j, p = 208 ∨ p = 209 → J p j = I p j) : CTp (I 209) (I 237 16).toNat J := by
  have t := h.2.2.2.2.1
  exact ⟨by rw [f 208 1 (Or.inl rfl), t.1]; have := t.2.1; omega, fun k _ => f 209 k (Or.inr rfl)⟩
theorem rt_N {I J : IM} (h : REL I) (f1 : J 237 16 = I 237 16) (f2 : ∀ k, J 244 k = I 244 k) : NT (I 209) (I 237 16).toNat J := by
  have t := h.2.2.2.2.1
  exact ⟨by rw [f1]; have := t.2.1; omega, fun k hk => by rw [f2 k]; exact (t.2.2 k (by omega)).1.symm⟩
theorem clr_rel {I J : IM} (h : REL I) (f : ∀ o k, ¬ SCR o k → (o ≠ 208 ∨ k ≠ 1) → (o ≠ 237 ∨ k ≠ 16) → J o k = I o k) (z1 : J 208 1 = 0) (z2 : J 237 16 = 0) : REL J ∧ SC I J := by
  refine ⟨REL_fr (clear_rel h) (fun o k a => ?_), fun o k a => f o k (by unfold SCR; omega) (by omega) (by omega)⟩
  by_cases c : o = 237 ∧ k = 16
  · rw [c.1, c.2, iup_same]; exact z2
  · rw [iup_ne (by omega)]
    by_cases d : o = 208 ∧ k = 1
    · rw [d.1, d.2, iup_same]; exact z1
    · rw [iup_ne (by omega)]
      exact f o k a (by omega) (by omega)
/-- the orders enter the class' book -/
def ordB (I J : IM) (N i : Nat) (V : Nat → Nat → Int) : Prop := J 1 0 = ((N + i : Nat) : Int) ∧ (∀ w o, w < 8 → o < 13 → J (2 + w) o = if N ≤ o ∧ o < N + i then V (o - N) w else I (2 + w) o) ∧ WSC J ∧ (∀ o k, (o ≠ 1 ∨ k ≠ 0) → (o < 2 ∨ 9 < o) → (o < 11 ∨ 23 < o) → J o k = I o k)
theorem c_ordIn {N M : Nat} {V : Nat → Nat → Int} {I : IM} {K : Option AV → IM → Prop} (hN : N + M ≤ 12) (hV : ∀ i, i < M → OT (V i)) (h500 : ∀ i, V i 7 = 500) (hI : ∀ q, q < 13 → 0 ≤ I 2 q ∧ I 2 q ≤ 40 ∧ 0 ≤ I 3 q ∧ I 3 q ≤ 40) (hL : ∀ i, i < M → ∀ w, w < 7 → I (214 + i) w = V i w) (hK : ∀ J, ordB I J N M V → K (some (vI (M : Int))) (iup J 78 2 0)) : ∀ d i : Nat, i + d = M → ∀ (u3 u4 : AV) (J : IM), ordB I J N i V → GO S0 29 41 [vR 0, vI (M : Int), vI (i : Int), u3, u4] [] J K := by
  intro d
  induction d with
  | zero =>
    intro i e u3 u4 J b
    refine g29_41 _ _ u3 u4 J K ?_
    unfold D29_41
    rw [if_pos (by omega)]
    unfold D29_125
    have : i = M := by omega
    subst this
    exact k_forget ⟨rfl, hK J b⟩
  | succ d ih =>
    intro i e u3 u4 J b
    obtain ⟨b1, b2, b3, b4⟩ := b
    refine g29_41 _ _ u3 u4 J K ?_
    unfold D29_41 inR
    have hv := hV i (by omega)
    have L : ∀ w, w < 7 → J (214 + i) w = V i w := fun w hw => by rw [b4 _ _ (by omega) (by omega) (by omega)]; exact hL i (by omega) w hw
    rw [if_neg (by omega), if_neg (by omega), Int.toNat_natCast, L 0 (by omega), L 1 (by omega), L 2 (by omega), L 3 (by omega), L 4 (by omega)]
    refine ⟨by omega, k_enter (n := N + i) b1 (by omega) hv.1 hv.2.1 (fun q hq => ?_) b3 fun I4 f4 a0 a1 a2 a3 a4 a5 a6 a7 a8 w4 => ⟨_, rfl, ?_⟩⟩
    · have x := b2 0 q (by omega) hq
      have y := b2 1 q (by omega) hq
      rw [show J 2 q = _ from x, show J 3 q = _ from y]
      split
      · have := hV (q - N) (by omega)
        exact ⟨this.1.1, this.1.2, this.2.1.1, this.2.1.2⟩
      · exact hI q hq
    rw [if_neg (by omega), f4 _ _ (by omega) (by omega) (by omega), L 5 (by omega)]
    refine ⟨by omega, fun I9 e9 I10 e10 => ⟨by omega, ?_⟩⟩
    rw [Int.toNat_natCast] at e9 e10
    rw [show I9 (214 + i) 6 = V i 6 by rw [e9, iup_ne (by omega), f4 _ _ (by omega) (by omega) (by omega), L 6 (by omega)]] at e10
    have z : ∀ o k, (o ≠ 7 ∨ k ≠ N + i) → (o ≠ 8 ∨ k ≠ N + i) → I10 o k = I4 o k := fun o k a b => by rw [e10, iup_ne b, e9, iup_ne a]
    have := ih (i + 1) (by omega) (vR (214 + i)) (vI ((N + i : Nat) : Int)) I10 ⟨by rw [z 1 0 (by omega) (by omega), a0]; omega, fun w o hw ho => ?_, WSC_fr w4 (fun o k a b => z o k (by omega) (by omega)), fun o k a b c => by rw [z o k (by omega) (by omega), f4 o k a (by omega) c, b4 o k a b c]⟩
    · rw [show (((i + 1 : Nat)) : Int) = (i : Int) + 1 by omega] at this
      exact this
    · by_cases c : o = N + i
      · rw [c, if_pos (by omega), show N + i - N = i by omega]
        rcases (show w = 0 ∨ w = 1 ∨ w = 2 ∨ w = 3 ∨ w = 4 ∨ w = 5 ∨ w = 6 ∨ w = 7 by omega) with e | e | e | e | e | e | e | e <;> subst e
        · rw [z _ _ (by omega) (by omega)]; exact a1
        · rw [z _ _ (by omega) (by omega)]; exact a2
        · rw [z _ _ (by omega) (by omega)]; exact a3
        · rw [z _ _ (by omega) (by omega)]; exact a4
        · rw [z _ _ (by omega) (by omega)]; exact a5
        · rw [e10, iup_ne (by omega), e9]; exact iup_same
        · rw [e10]; exact iup_same
        · rw [z _ _ (by omega) (by omega), h500]; exact a8
      · rw [z _ _ (by omega) (by omega), f4 _ _ (by omega) (by omega) (by omega), b2 w o hw ho]
        by_cases d : N ≤ o ∧ o < N + i
        · rw [if_pos d, if_pos (by omega)]
        · rw [if_neg d, if_neg (by omega)]
/-- the orders enter the model's book -/
def ordM (I J : IM) (N i : Nat) (V : Nat → Nat → Int) : Prop := J 238 5 = ((N + i : Nat) : Int) ∧ (∀ w o, w < 8 → o < 12 → J 238 (6 + 8 * o + w) = if N ≤ o ∧ o < N + i then V (o - N) w else I 238 (6 + 8 * o + w)) ∧ (∀ o k, (o ≠ 238 ∨ 102 ≤ k ∨ k < 5) → J o k = I o k)
theorem n_ordIn {N M : Nat} {V : Nat → Nat → Int} {I : IM} {K : Option AV → IM → Prop} (hN : N + M ≤ 12) (h500 : ∀ i, V i 7 = 500) (hL : ∀ i, i < M → ∀ w, w < 7 → I 245 (7 * i + w) = V i w) (hK : ∀ J, ordM I J N M V → K (some (vI (M : Int))) (iup J 237 4 0)) (x2 : Int) : ∀ d i : Nat, i + d = M → ∀ (J : IM), ordM I J N i V → GO S0 146 79 [vR 237, vI (M : Int), vI x2, vI (7 * (i : Int))] [] J K := by
  intro d
  induction d with
  | zero =>
    intro i e J b
    refine g146_79 _ _ _ J K ?_
    unfold D146_79 inR
    rw [if_pos (by omega)]
    have : i = M := by omega
    subst this
    exact ⟨by omega, m_forgets ⟨_, rfl, hK J b⟩⟩
  | succ d ih =>
    intro i e J b
    obtain ⟨b1, b2, b4⟩ := b
    refine g146_79 _ _ _ J K ?_
    unfold D146_79 inR
    have L : ∀ w, w < 7 → J 245 (7 * i + w) = V i w := fun w hw => by rw [b4 _ _ (by omega)]; exact hL i (by omega) w hw
    have t : ∀ w : Nat, (7 * (i : Int) + (w : Int)).toNat = 7 * i + w := fun w => by omega
    rw [if_neg (by omega), show (7 * (i : Int)).toNat = 7 * i + 0 by omega, show (7 * (i : Int) + 1).toNat = 7 * i + 1 by omega, show (7 * (i : Int) + 2).toNat = 7 * i + 2 by omega, show (7 * (i : Int) + 3).toNat = 7 * i + 3 by omega, show (7 * (i : Int) + 4).toNat = 7 * i + 4 by omega, show (7 * (i : Int) + 5).toNat = 7 * i + 5 by omega, show (7 * (i : Int) + 6).toNat = 7 * i + 6 by omega, L 0 (by omega), L 1 (by omega), L 2 (by omega), L 3 (by omega), L 4 (by omega), L 5 (by omega), L 6 (by omega)]
    refine ⟨by omega, by omega, by omega, by omega, by omega, by omega, by omega, by omega, by omega, by omega, by omega, by omega, by omega, by omega, m_adds (n := N + i) b1 (by omega) fun I4 f4 a0 a1 a2 a3 a4 a5 a6 a7 a8 => ⟨rfl, by omega, ?_⟩⟩
    have := ih (i + 1) (by omega) I4 ⟨by rw [a0]; omega, fun w o hw ho => ?_, fun o k a => by rw [f4 o k (by omega), b4 o k a]⟩
    · rw [show 7 * (((i + 1 : Nat)) : Int) = 7 * (i : Int) + 7 by omega] at this
      exact this
    · by_cases c : o = N + i
      · rw [c, if_pos (by omega), show N + i - N = i by omega]
        rcases (show w = 0 ∨ w = 1 ∨ w = 2 ∨ w = 3 ∨ w = 4 ∨ w = 5 ∨ w = 6 ∨ w = 7 by omega) with e | e | e | e | e | e | e | e <;> subst e
        · exact a1
        · exact a2
        · exact a3
        · exact a4
        · exact a5
        · exact a6
        · exact a7
        · rw [h500]; exact a8
      · rw [f4 _ _ (by omega), b2 w o hw ho]
        by_cases d : N ≤ o ∧ o < N + i
        · rw [if_pos d, if_pos (by omega)]
        · rw [if_neg d, if_neg (by omega)]
theorem s_orders {I : IM} (h : REL I) : BOTH 29 146 [] I := by
  unfold BOTH
  have hB := rt_B h
  obtain ⟨m, hm, hG, hN, hl⟩ := os_end hB
  generalize hT' : I 209 = T at hB hG hN hl
  generalize hn' : (I 237 16).toNat = n at hB hG hN hl
  have tC : ∀ J : IM, (∀ p j, p = 208 ∨ p = 209 → J p j = I p j) → CTp T n J := fun J f => by rw [← hT', ← hn']; exact rt_C h f
  have tN : ∀ J : IM, J 237 16 = I 237 16 → (∀ k, J 244 k = I 244 k) → NT T n J := fun J f g => by rw [← hT', ← hn']; exact rt_N h f g
  have h160 := hB.1
  have hcn : I 1 0 = I 238 5 := h.1.2.1
  have hcr := h.1.1.1
  have hV : ∀ i, i ≤ m → (∃ p', odS T n (.inr (osP T n i)) = .inr p') → OT (odV T n (.inr (osP T n i))) := fun i hi ⟨p', e⟩ => by
    obtain ⟨_, _, _, _, o⟩ := od_inr (s := .inr (osP T n i)) (os_len i (fun j hj => hG j (by omega))).2 e
    exact o
  -- a text that can't be read
  have hbad : (∀ J1, (∀ p j, (p < 212 ∨ 230 < p) → J1 p j = I p j) → ∀ J', (∀ o k, (o ≠ 237 ∨ k ≠ 17) → o ≠ 245 → J' o k = iup J1 208 1 0 o k) → REL (iup J' 237 16 0) ∧ SC I (iup J' 237 16 0)) := fun J1 f1 J' f2 => by
    refine clr_rel h (fun o k a b c => ?_) ?_ iup_same
    · unfold SCR at a
      rw [iup_ne c, f2 o k (by omega) (by omega), iup_ne b, f1 o k (by omega)]
    · rw [iup_ne (Or.inl (by decide)), f2 208 1 (by omega) (by omega), iup_same]
  obtain ⟨N, hNN⟩ : ∃ N : Nat, I 238 5 = (N : Int) := ⟨(I 238 5).toNat, by omega⟩
  refine e29 ?_
  unfold D29_0
  refine c_rdOrders hB (tC I (fun _ _ _ => rfl)) hm hG hN (fun es J1 f1 v1 => ⟨_, rfl, fun I3 e3 => ?_⟩) (fun q hq J1 f1 => ⟨_, rfl, fun I3 e3 => ?_⟩)
  · -- it reads
    have f3 : ∀ p j, (p < 212 ∨ 230 < p) → (p ≠ 208 ∨ j ≠ 1) → I3 p j = I p j := fun p j a b => by rw [e3, iup_ne b, f1 p j a]
    have nT : NT T n I3 := tN I3 (f3 _ _ (by omega) (by omega)) (fun k => f3 _ _ (by omega) (by omega))
    have nofl : ∀ q, ¬ odFl T n (.inr (osP T n m)) q := fun q a => by
      rcases a with a | ⟨a, b, _⟩
      · rw [es] at a; cases a
      · rw [es] at a
        have := Sum.inr.inj a
        omega
    have x0 : I3 1 0 = (N : Int) := by rw [f3 1 0 (by omega) (by omega), hcn, hNN]
    rw [if_pos (by omega), x0]
    unfold inR
    refine ⟨by omega, ?_⟩
    by_cases c : N + (m + 1) ≤ 12
    · rw [if_pos (by omega)]
      have hVs : ∀ i, i < m + 1 → OT (odV T n (.inr (osP T n i))) := fun i hi => hV i (by omega) (by
        by_cases c : i = m
        · rw [c]; exact ⟨_, es⟩
        · obtain ⟨p', a, _⟩ := hG i (by omega); exact ⟨p', a⟩)
      refine c_ordIn (N := N) (M := m + 1) (V := fun i => odV T n (.inr (osP T n i))) (I := I3) c hVs (fun i => rfl) (fun q hq => by rw [f3 2 q (by omega) (by omega), f3 3 q (by omega) (by omega)]; exact rb_xy h.1 hq) (fun i hi w hw => by rw [e3, iup_ne (by omega)]; exact v1 i (by omega) w hw) (fun J b => ⟨_, rfl, ?_⟩) (m + 1) 0 (Nat.zero_add _) vU vU I3 ⟨by rw [x0]; rfl, fun w o _ _ => by rw [if_neg (by omega)], WSC_fr (BK_ws h.1.2) (fun o k _ _ => f3 o k (by omega) (by omega)), fun _ _ _ _ _ => rfl⟩
      obtain ⟨b1, b2, b3, b4⟩ := b
      have g : ∀ o k, (o ≠ 1 ∨ k ≠ 0) → (o < 2 ∨ 9 < o) → (o < 11 ∨ 23 < o) → (o ≠ 78 ∨ k ≠ 2) → iup J 78 2 0 o k = I3 o k := fun o k a b c d => by rw [iup_ne d, b4 o k a b c]
      have gn : ∀ k, iup J 78 2 0 238 k = I 238 k := fun k => by rw [g 238 k (by omega) (by omega) (by omega) (by omega), f3 238 k (by omega) (by omega)]
      refine n_rdOrders hB (NT_fr nT (g _ _ (by omega) (by omega) (by omega) (by omega)) (fun k => g _ _ (by omega) (by omega) (by omega) (by omega))) hm hG hN (fun _ u3 J2 f2 v2 => ?_) (fun q hq => absurd hq (nofl q))
      unfold D146_44
      intro I4 e4
      rw [if_neg (by decide)]
      have f4 : ∀ o k, (o ≠ 237 ∨ (k ≠ 16 ∧ k ≠ 17)) → o ≠ 245 → I4 o k = iup J 78 2 0 o k := fun o k a b => by rw [e4, iup_ne (by omega), f2 o k (by omega) b]
      have x5 : I4 238 5 = (N : Int) := by rw [f4 238 5 (by omega) (by omega), gn 5, hNN]
      rw [x5]
      unfold inR
      refine ⟨by omega, ?_⟩
      rw [if_pos (by omega)]
      have := n_ordIn (N := N) (M := m + 1) (V := fun i => odV T n (.inr (osP T n i))) (I := I4) (K := fun v' I2 => v' = some (vI (((m + 1 : Nat)) : Int)) ∧ REL I2 ∧ SC I I2) c (fun i => rfl) (fun i hi w hw => by rw [e4, iup_ne (by omega)]; exact v2 i (by omega) w hw) (fun L b => ⟨rfl, ?_⟩) 1 (m + 1) 0 (Nat.zero_add _) I4 ⟨by rw [x5]; rfl, fun w o _ _ => by rw [if_neg (by omega)], fun _ _ _ => rfl⟩
      · rw [show (((m + 1 : Nat)) : Int) = (m : Int) + 1 by omega] at this ⊢
        exact this
      obtain ⟨d1, d2, d4⟩ := b
      have w4 : ∀ o k, (o ≠ 238 ∨ 102 ≤ k ∨ k < 5) → (o ≠ 237 ∨ (k ≠ 4 ∧ k ≠ 16 ∧ k ≠ 17)) → o ≠ 245 → iup L 237 4 0 o k = iup J 78 2 0 o k := fun o k a b c => by rw [iup_ne (by omega), d4 o k a, f4 o k (by omega) c]
      have w0 : ∀ o k, (o ≠ 1 ∨ k ≠ 0) → (o < 2 ∨ 9 < o) → (o < 11 ∨ 23 < o) → (o ≠ 78 ∨ k ≠ 2) → (o ≠ 238 ∨ 102 ≤ k ∨ k < 5) → (o ≠ 237 ∨ (k ≠ 4 ∧ k ≠ 16 ∧ k ≠ 17)) → o ≠ 245 → (o < 212 ∨ 230 < o) → (o ≠ 208 ∨ k ≠ 1) → iup L 237 4 0 o k = I o k := fun o k a1 a2 a3 a4 a5 a6 a7 a8 a9 => by
        rw [w4 o k a5 a6 a7, g o k a1 a2 a3 a4, f3 o k a8 a9]
      generalize hF : iup L 237 4 0 = F at w4 w0
      have F4 : F 237 4 = 0 := by rw [← hF, iup_same]
      have F78 : F 78 2 = 0 := by rw [w4 78 2 (by omega) (by omega) (by omega), iup_same]
      have F16 : F 237 16 = 0 := by rw [← hF, iup_ne (by omega), d4 237 16 (by omega), e4, iup_same]
      have F208 : F 208 1 = 0 := by rw [w4 208 1 (by omega) (by omega) (by omega), g 208 1 (by omega) (by omega) (by omega) (by omega), e3, iup_same]
      obtain ⟨I0, hz⟩ : ∃ I0 : IM, I0 = fun o k => if (1 ≤ o ∧ o ≤ 23) ∨ o = 238 ∨ (o = 237 ∧ k = 4) ∨ (o = 78 ∧ k = 2) then I o k else F o k := ⟨_, rfl⟩
      have zi : ∀ o k, (1 ≤ o ∧ o ≤ 23) ∨ o = 238 ∨ (o = 237 ∧ k = 4) ∨ (o = 78 ∧ k = 2) → I0 o k = I o k := fun o k a => by rw [hz]; exact if_pos a
      have zf : ∀ o k, ¬ ((1 ≤ o ∧ o ≤ 23) ∨ o = 238 ∨ (o = 237 ∧ k = 4) ∨ (o = 78 ∧ k = 2)) → I0 o k = F o k := fun o k a => by rw [hz]; exact if_neg a
      have hI0 : REL I0 := by
        refine (clr_rel h (fun o k a b d => ?_) ?_ ?_).1
        · unfold SCR at a
          by_cases z : (1 ≤ o ∧ o ≤ 23) ∨ o = 238 ∨ (o = 237 ∧ k = 4) ∨ (o = 78 ∧ k = 2)
          · exact zi o k z
          · rw [zf o k z]
            exact w0 o k (by omega) (by omega) (by omega) (by omega) (by omega) (by omega) (by omega) (by omega) (by omega)
        · rw [zf _ _ (by omega)]; exact F208
        · rw [zf _ _ (by omega)]; exact F16
      refine ⟨orders_rel (n := N) (m := m + 1) (T := fun i => odV T n (.inr (osP T n i))) hI0 ?_ c hVs ?_ ?_ ?_ ?_ ?_ ?_ ⟨F4, F78⟩, fun o k a => w0 o k (by omega) (by omega) (by omega) (by omega) (by omega) (by omega) (by omega) (by omega) (by omega)⟩
      · rw [zi _ _ (by omega), hNN]
      · intro o k a1 a2 a3 a4 a5 a6
        by_cases z : (1 ≤ o ∧ o ≤ 23) ∨ o = 238 ∨ (o = 237 ∧ k = 4) ∨ (o = 78 ∧ k = 2)
        · rw [zi o k z]
          exact w0 o k a1 a2 a3 (by omega) (by omega) (by omega) (by omega) (by omega) (by omega)
        · rw [zf o k z]
      · rw [w4 1 0 (by omega) (by omega) (by omega), iup_ne (by omega), b1]; omega
      · intro w o hw ho
        rw [zi _ _ (by omega), w4 _ _ (by omega) (by omega) (by omega), iup_ne (by omega), b2 w o hw ho, f3 _ _ (by omega) (by omega)]
      · exact WSC_fr b3 (fun o k a b => by rw [w4 o k (by omega) (by omega) (by omega), iup_ne (by omega)])
      · rw [← hF, iup_ne (by omega), d1]; omega
      · intro w o hw ho
        rw [zi _ _ (by omega), ← hF, iup_ne (by omega), d2 w o hw ho, f4 _ _ (by omega) (by omega), gn]
    · rw [if_neg (by omega)]
      refine ⟨_, rfl, n_rdOrders hB nT hm hG hN (fun _ u3 J2 f2 v2 => ?_) (fun q hq => absurd hq (nofl q))⟩
      unfold D146_44
      intro I4 e4
      rw [if_neg (by decide)]
      have x5 : I4 238 5 = (N : Int) := by rw [e4, iup_ne (by omega), f2 238 5 (by omega) (by omega), f3 238 5 (by omega) (by omega), hNN]
      rw [x5]
      unfold inR
      refine ⟨by omega, ?_⟩
      rw [if_neg (by omega)]
      rw [e3] at f2
      rw [e4]
      exact ⟨rfl, hbad J1 f1 J2 f2⟩
  · -- it doesn't
    have f3 : ∀ p j, (p < 212 ∨ 230 < p) → (p ≠ 208 ∨ j ≠ 1) → I3 p j = I p j := fun p j a b => by rw [e3, iup_ne b, f1 p j a]
    have nT : NT T n I3 := tN I3 (f3 _ _ (by omega) (by omega)) (fun k => f3 _ _ (by omega) (by omega))
    rw [if_neg (by omega)]
    have qn : ∀ q', odFl T n (.inr (osP T n m)) q' → q' ≤ n := fun q' a => by
      have ok := od11_ok (T := T) (n := n) (s := .inr (osP T n m)) hl
      rcases a with a | ⟨_, b, _⟩
      · rw [show (od11 T n (.inr (osP T n m))).1 = .inl q' from a] at ok; exact ok
      · omega
    have un : ∀ q', odFl T n (.inr (osP T n m)) q' → q' = q := fun q' a => by
      rcases a with a | ⟨a, _, _⟩ <;> rcases hq with b | ⟨b, _, _⟩ <;> rw [a] at b
      · exact Sum.inl.inj b
      · cases b
      · cases b
      · exact Sum.inr.inj b
    refine ⟨_, rfl, n_rdOrders hB nT hm hG hN (fun es => ?_) (fun q' hq' x1 u3 J2 f2 r2 => ?_)⟩
    · exfalso
      rcases hq with a | ⟨a, b, _⟩
      · rw [es] at a; cases a
      · rw [es] at a
        have := Sum.inr.inj a
        omega
    · have := un q' hq'
      subst this
      have := qn q' hq'
      unfold D146_44 inR
      intro I4 e4
      rw [if_pos rfl]
      have x17 : I4 237 17 = (q' : Int) := by rw [e4, iup_ne (by omega), r2]
      rw [x17]
      rw [e3] at f2
      rw [e4]
      exact ⟨by omega, rfl, hbad J1 f1 J2 f2⟩
