/-! level 2: a plan's text -/
abbrev RRR : Type := Nat → List Int
/-- one stop from p on, for van v -/
def pst (T : Nat → Int) (n : Nat) (N : Int) (v : Nat) (R : RRR) (p : Nat) : PS × RRR := match (nmC T n 2 0 (N - 1) (.inr p)).1 with
  | .inl q => (.inl q, R)
  | .inr p' => if 0 ≤ vanF R (nmC T n 2 0 (N - 1) (.inr p)).2 then (.inl p, R) else (.inr p', setR R v (R v ++ [(nmC T n 2 0 (N - 1) (.inr p)).2]))
theorem pst_l {T : Nat → Int} {n v p q : Nat} {N : Int} {R : RRR} (h : (nmC T n 2 0 (N - 1) (.inr p)).1 = .inl q) : pst T n N v R p = (.inl q, R) := by
  unfold pst
  rw [h]
theorem pst_d {T : Nat → Int} {n v p p' : Nat} {N : Int} {R : RRR} (h : (nmC T n 2 0 (N - 1) (.inr p)).1 = .inr p') (c : 0 ≤ vanF R (nmC T n 2 0 (N - 1) (.inr p)).2) : pst T n N v R p = (.inl p, R) := by
  unfold pst
  rw [h]
  dsimp only
  rw [if_pos c]
theorem pst_s {T : Nat → Int} {n v p p' : Nat} {N : Int} {R : RRR} (h : (nmC T n 2 0 (N - 1) (.inr p)).1 = .inr p') (c : ¬ 0 ≤ vanF R (nmC T n 2 0 (N - 1) (.inr p)).2) : pst T n N v R p = (.inr p', setR R v (R v ++ [(nmC T n 2 0 (N - 1) (.inr p)).2])) := by
  unfold pst
  rw [h]
  dsimp only
  rw [if_neg c]
theorem nm_l {T : Nat → Int} {n f p q : Nat} {lo hi : Int} (h : (nmC T n f lo hi (.inr p)).1 = .inl q) : q = p := by
  unfold nmC at h
  dsimp only at h
  split at h
  · cases h
  · exact (Sum.inl.inj h).symm
theorem pst_ok {T : Nat → Int} {n v p : Nat} {G : Nat → Int} {R : RRR} (hG : GR G) (hV : V0 G R) (hv : v < 4) (hp : p ≤ n) : V0 G (pst T n (G 5) v R p).2 ∧ (∀ q, (pst T n (G 5) v R p).1 = .inl q → q = p) ∧ (∀ p', (pst T n (G 5) v R p).1 = .inr p' → p + 1 ≤ p' ∧ p' ≤ n) := by
  cases e : (nmC T n 2 0 (G 5 - 1) (.inr p)).1 with
  | inl q =>
    rw [pst_l e]
    exact ⟨hV, fun q' h => by have := Sum.inl.inj h; rw [← this]; exact nm_l e, fun p' h => by cases h⟩
  | inr p' =>
    obtain ⟨p0, a, b, c, d⟩ := nm_inr (by omega) (s := .inr p) hp e
    have := Sum.inr.inj a
    subst this
    by_cases c1 : 0 ≤ vanF R (nmC T n 2 0 (G 5 - 1) (.inr p)).2
    · rw [pst_d e c1]
      exact ⟨hV, fun q' h => (Sum.inl.inj h).symm, fun p' h => by cases h⟩
    · rw [pst_s e c1]
      exact ⟨(V0_app hG hV hv (by omega) (by omega)).1, fun q' h => (by cases h), fun p2 h => by have := Sum.inr.inj h; omega⟩
/-- one round's stops -/
def rdF (T : Nat → Int) (n : Nat) (N : Int) (v : Nat) : Nat → RRR → Nat → PS × RRR
  | 0, R, p => (.inl p, R)
  | f + 1, R, p => match (pst T n N v R p).1 with
    | .inl q => (.inl q, (pst T n N v R p).2)
    | .inr p' => if rdT T n p' = 44 then rdF T n N v f (pst T n N v R p).2 (p' + 1) else (.inr p', (pst T n N v R p).2)
theorem rdF_l {T : Nat → Int} {n v f p q : Nat} {N : Int} {R : RRR} (h : (pst T n N v R p).1 = .inl q) : rdF T n N v (f + 1) R p = (.inl q, (pst T n N v R p).2) := by
  rw [show rdF T n N v (f + 1) R p = (match (pst T n N v R p).1 with
    | .inl q => (.inl q, (pst T n N v R p).2)
    | .inr p' => if rdT T n p' = 44 then rdF T n N v f (pst T n N v R p).2 (p' + 1) else (.inr p', (pst T n N v R p).2)) from rfl, h]
theorem rdF_r {T : Nat → Int} {n v f p p' : Nat} {N : Int} {R : RRR} (h : (pst T n N v R p).1 = .inr p') : rdF T n N v (f + 1) R p = if rdT T n p' = 44 then rdF T n N v f (pst T n N v R p).2 (p' + 1) else (.inr p', (pst T n N v R p).2) := by
  rw [show rdF T n N v (f + 1) R p = (match (pst T n N v R p).1 with
    | .inl q => (.inl q, (pst T n N v R p).2)
    | .inr p' => if rdT T n p' = 44 then rdF T n N v f (pst T n N v R p).2 (p' + 1) else (.inr p', (pst T n N v R p).2)) from rfl, h]
theorem rd_ok {T : Nat → Int} {n v : Nat} {G : Nat → Int} (hG : GR G) (hv : v < 4) : ∀ f R p, V0 G R → p ≤ n → V0 G (rdF T n (G 5) v f R p).2 ∧ okP n (rdF T n (G 5) v f R p).1
  | 0, R, p, hV, hp => ⟨hV, hp⟩
  | f + 1, R, p, hV, hp => by
    have a := pst_ok (T := T) (v := v) hG hV hv hp
    cases e : (pst T n (G 5) v R p).1 with
    | inl q =>
      rw [rdF_l e]
      refine ⟨a.1, ?_⟩
      have := a.2.1 q e
      show q ≤ n
      omega
    | inr p' =>
      rw [rdF_r e]
      have b := a.2.2 p' e
      split
      · rename_i c
        have l := rd_in (T := T) (n := n) (p := p') (by omega)
        exact rd_ok hG hv f _ (p' + 1) a.1 l
      · exact ⟨a.1, b.2⟩
/-- one van's text -/
def vnF (T : Nat → Int) (n : Nat) (N : Int) (R : RRR) (v : Int) (p : Nat) : PS × RRR := match sgC T n 58 (nmC T n 1 (v + 1) 3 (.inr p)).1 with
  | .inl q => (.inl q, R)
  | .inr p2 => rdF T n N (nmC T n 1 (v + 1) 3 (.inr p)).2.toNat (n + 1) R p2
theorem vnF_l {T : Nat → Int} {n p q : Nat} {N v : Int} {R : RRR} (h : sgC T n 58 (nmC T n 1 (v + 1) 3 (.inr p)).1 = .inl q) : vnF T n N R v p = (.inl q, R) := by
  unfold vnF
  rw [h]
theorem vnF_r {T : Nat → Int} {n p p2 : Nat} {N v : Int} {R : RRR} (h : sgC T n 58 (nmC T n 1 (v + 1) 3 (.inr p)).1 = .inr p2) : vnF T n N R v p = rdF T n N (nmC T n 1 (v + 1) 3 (.inr p)).2.toNat (n + 1) R p2 := by
  unfold vnF
  rw [h]
theorem vn_ok {T : Nat → Int} {n p : Nat} {v : Int} {G : Nat → Int} {R : RRR} (hG : GR G) (hv : -1 ≤ v) (hV : V0 G R) (hp : p ≤ n) : V0 G (vnF T n (G 5) R v p).2 ∧ okP n (vnF T n (G 5) R v p).1 := by
  have k1 : okP n (sgC T n 58 (nmC T n 1 (v + 1) 3 (.inr p)).1) := sg_ok (by decide) (nm_ok (by omega) (s := .inr p) hp).1
  cases e : sgC T n 58 (nmC T n 1 (v + 1) 3 (.inr p)).1 with
  | inl q =>
    rw [vnF_l e]
    rw [e] at k1
    exact ⟨hV, k1⟩
  | inr p2 =>
    rw [vnF_r e]
    rw [e] at k1
    obtain ⟨p1, e1, _, _⟩ := sg_inr e
    obtain ⟨_, _, _, _, d⟩ := nm_inr (by omega) (s := .inr p) hp e1
    exact rd_ok hG (by omega) _ R p2 hV k1
/-- the whole plan's text -/
def plF (T : Nat → Int) (n : Nat) (N : Int) : Nat → RRR → Int → Nat → PS × RRR
  | 0, R, _, p => (.inl p, R)
  | f + 1, R, v, p => match (vnF T n N R v p).1 with
    | .inl q => (.inl q, (vnF T n N R v p).2)
    | .inr p' => if rdT T n p' = 59 then plF T n N f (vnF T n N R v p).2 (nmC T n 1 (v + 1) 3 (.inr p)).2 (p' + 1) else if p' < n then (.inl p', (vnF T n N R v p).2) else (.inr p', (vnF T n N R v p).2)
theorem plF_l {T : Nat → Int} {n f p q : Nat} {N v : Int} {R : RRR} (h : (vnF T n N R v p).1 = .inl q) : plF T n N (f + 1) R v p = (.inl q, (vnF T n N R v p).2) := by
  rw [show plF T n N (f + 1) R v p = (match (vnF T n N R v p).1 with
    | .inl q => (.inl q, (vnF T n N R v p).2)
    | .inr p' => if rdT T n p' = 59 then plF T n N f (vnF T n N R v p).2 (nmC T n 1 (v + 1) 3 (.inr p)).2 (p' + 1) else if p' < n then (.inl p', (vnF T n N R v p).2) else (.inr p', (vnF T n N R v p).2)) from rfl, h]
theorem plF_r {T : Nat → Int} {n f p p' : Nat} {N v : Int} {R : RRR} (h : (vnF T n N R v p).1 = .inr p') : plF T n N (f + 1) R v p = if rdT T n p' = 59 then plF T n N f (vnF T n N R v p).2 (nmC T n 1 (v + 1) 3 (.inr p)).2 (p' + 1) else if p' < n then (.inl p', (vnF T n N R v p).2) else (.inr p', (vnF T n N R v p).2) := by
  rw [show plF T n N (f + 1) R v p = (match (vnF T n N R v p).1 with
    | .inl q => (.inl q, (vnF T n N R v p).2)
    | .inr p' => if rdT T n p' = 59 then plF T n N f (vnF T n N R v p).2 (nmC T n 1 (v + 1) 3 (.inr p)).2 (p' + 1) else if p' < n then (.inl p', (vnF T n N R v p).2) else (.inr p', (vnF T n N R v p).2)) from rfl, h]
theorem vn_y {T : Nat → Int} {n p p' : Nat} {N v : Int} {R : RRR} (hv : -1 ≤ v) (hp : p ≤ n) (h : (vnF T n N R v p).1 = .inr p') : v + 1 ≤ (nmC T n 1 (v + 1) 3 (.inr p)).2 ∧ (nmC T n 1 (v + 1) 3 (.inr p)).2 ≤ 3 := by
  cases e : sgC T n 58 (nmC T n 1 (v + 1) 3 (.inr p)).1 with
  | inl q => rw [vnF_l e] at h; cases h
  | inr p2 =>
    obtain ⟨p1, e1, _, _⟩ := sg_inr e
    obtain ⟨_, _, _, _, d⟩ := nm_inr (by omega) (s := .inr p) hp e1
    exact d
theorem pl_ok {T : Nat → Int} {n : Nat} {G : Nat → Int} (hG : GR G) : ∀ f R v p, -1 ≤ v → V0 G R → p ≤ n → V0 G (plF T n (G 5) f R v p).2 ∧ okP n (plF T n (G 5) f R v p).1
  | 0, R, v, p, _, hV, hp => ⟨hV, hp⟩
  | f + 1, R, v, p, hv, hV, hp => by
    have a := vn_ok (T := T) hG hv hV hp
    cases e : (vnF T n (G 5) R v p).1 with
    | inl q =>
      rw [plF_l e]
      rw [e] at a
      exact a
    | inr p' =>
      rw [plF_r e]
      rw [e] at a
      have y := vn_y hv hp e
      split
      · rename_i c
        have l := rd_in (T := T) (n := n) (p := p') (by omega)
        exact pl_ok hG f _ _ (p' + 1) (by omega) a.1 l
      · split
        · exact a
        · exact a
/-! the class reads a plan -/
theorem c_round {T : Nat → Int} {n v : Nat} {G : Nat → Int} {I : IM} {K : Option AV → IM → Prop} (hG : GR G) (hB : TB T n) (hT : CTp T n I) (hv : v < 4) : ∀ (f x5 p : Nat) (R : RRR) (J : IM) (u6 u7 : AV), p ≤ n → n + 1 ≤ p + f → 2 * x5 ≤ p → (∀ p j, (p ≠ 212 ∨ (j ≠ 1 ∧ j ≠ 2)) → (p < 72 ∨ 77 < p) → J p j = I p j) → AF R J → V0 G R → RD (.inr p) J → (∀ J', (∀ p j, (p ≠ 212 ∨ (j ≠ 1 ∧ j ≠ 2)) → (p < 72 ∨ 77 < p) → J' p j = I p j) → AF (rdF T n (G 5) v f R p).2 J' → RD (rdF T n (G 5) v f R p).1 J' → K none J') → GO S0 44 18 [vR 212, vR 71, vI (v : Int), vI (G 5), vI 1, vI (x5 : Int), u6, u7] [] J K := by
  have h160 := hB.1
  have h5 := hG.1
  have out : ∀ (x5 : Int) (L : IM) (u6 u7 : AV), K none L → GO S0 44 18 [vR 212, vR 71, vI (v : Int), vI (G 5), vI 0, vI x5, u6, u7] [] L K := fun x5 L u6 u7 h => by
    refine g44_18 71 rd71 _ _ _ _ u6 u7 L K ?_
    unfold D44_18
    split
    · exact h
    · rw [if_pos rfl]; exact h
  intro f
  induction f with
  | zero => intro x5 p R J u6 u7 hp hf; omega
  | succ f ih =>
    intro x5 p R J u6 u7 hp hf hx fJ af hV hs h
    have po := pst_ok (T := T) (v := v) hG hV hv hp
    have hTJ : CTp T n J := CTp_fr hT (fun p j a => fJ p j (by omega) (by omega))
    have hs1 : J 212 1 = (p : Int) := hs.1
    refine g44_18 71 rd71 _ _ _ _ u6 u7 J K ?_
    unfold D44_18 inR
    rw [if_neg (by omega), if_neg (by decide), hs1]
    have no : okP n (nmC T n 2 0 (G 5 - 1) (.inr p)).1 := (nm_ok (by omega) (s := .inr p) hp).1
    refine ⟨by omega, c_number (f := 2) (s := .inr p) (by omega) hB hTJ hs hp fun I4 f4 r4 => ⟨_, rfl, ?_⟩⟩
    have af4 : AF R I4 := AF_fr af (fun p j a b => f4 p j (by omega))
    have fI4 : ∀ p j, (p ≠ 212 ∨ (j ≠ 1 ∧ j ≠ 2)) → (p < 72 ∨ 77 < p) → I4 p j = I p j := fun p j a b => (f4 p j a).trans (fJ p j a b)
    refine k_vanOf rd71 af4.1 ⟨_, rfl, ?_⟩
    rw [vanF_eq af4.2]
    have vr := @vanF_r R (nmC T n 2 0 (G 5 - 1) (.inr p)).2
    -- it can't go on
    have bad : ∀ (q : Nat) (x6 x7 : Int) (L : IM), pst T n (G 5) v R p = (.inl q, R) → (∀ p j, (p ≠ 212 ∨ (j ≠ 1 ∧ j ≠ 2)) → (p < 72 ∨ 77 < p) → L p j = I p j) → AF R L → RD (.inl q) L → D44_64 71 (v : Int) (G 5) 1 (x5 : Int) x6 x7 L K := fun q x6 x7 L e fL aL rL => by
      have rL' : L 212 2 = (q : Int) := rL
      unfold D44_64
      rw [if_neg (by omega)]
      unfold D44_96 inR
      rw [if_pos rfl]
      refine ⟨by omega, out _ L _ _ (h L fL ?_ ?_)⟩
      · rw [rdF_l (by rw [e]), e]; exact aL
      · rw [rdF_l (by rw [e])]; exact rL
    cases e : (nmC T n 2 0 (G 5 - 1) (.inr p)).1 with
    | inl q =>
      rw [e] at r4
      have r4' : I4 212 2 = (q : Int) := r4
      split
      · exact bad q _ _ I4 (pst_l e) fI4 af4 r4
      · refine c_fail ⟨fun z => by omega, fun _ => ⟨rfl, bad q _ _ I4 (pst_l e) fI4 af4 r4⟩⟩
    | inr p' =>
      rw [e] at r4
      obtain ⟨p0, a0, b0, c0, d0⟩ := nm_inr (by omega) (s := .inr p) hp e
      have a0' := Sum.inr.inj a0
      subst a0'
      by_cases cv : 0 ≤ vanF R (nmC T n 2 0 (G 5 - 1) (.inr p)).2
      · rw [if_neg (by omega)]
        refine c_fail ⟨fun _ L fL eL => ⟨rfl, bad p _ _ L (pst_d e cv) (fun p j a b => (fL p j a).trans (fI4 p j a b)) (AF_fr af4 (fun p j a b => fL p j (by omega))) eL⟩, fun z => absurd r4.2 z⟩
      · rw [if_pos (by omega)]
        have ep : pst T n (G 5) v R p = (.inr p', setR R v (R v ++ [(nmC T n 2 0 (G 5 - 1) (.inr p)).2])) := pst_s e cv
        obtain ⟨v1, room⟩ := V0_app hG hV hv (o := (nmC T n 2 0 (G 5 - 1) (.inr p)).2) (by omega) (by omega)
        unfold D44_64
        rw [if_pos r4.2, Int.toNat_natCast, show (71 + 1 : Nat) = 72 from rfl, AF_len af4 hv]
        refine ⟨by omega, c_app hv af4 room fun L1 f1 a1 => ⟨rfl, ?_⟩⟩
        have fL1 : ∀ p j, (p ≠ 212 ∨ (j ≠ 1 ∧ j ≠ 2)) → (p < 72 ∨ 77 < p) → L1 p j = I p j := fun p j a b => (f1 p j (by omega) (by omega)).trans (fI4 p j a b)
        have r1 : RD (.inr p') L1 := RD_fr r4 (fun j => f1 212 j (by omega) (by omega))
        refine c_sees (s := .inr p') hB (CTp_fr hT (fun p j a => fL1 p j (by omega) (by omega))) r1 ⟨_, rfl, ?_⟩
        rw [show seV T n 44 (.inr p') = b2i (rdT T n p' = 44) from rfl]
        unfold D44_96 inR
        by_cases y : rdT T n p' = 44
        · rw [b2i_t y, if_neg (by decide)]
          have l := rd_in (T := T) (n := n) (p := p') (by omega)
          refine c_pass (s := .inr p') hB (CTp_fr hT (fun p j a => fL1 p j (by omega) (by omega))) r1 c0 fun L2 f2 r2 => ⟨rfl, by omega, ?_⟩
          rw [show sgC T n 44 (.inr p') = .inr (p' + 1) by unfold sgC; dsimp only; rw [if_pos y]] at r2
          have er : rdF T n (G 5) v (f + 1) R p = rdF T n (G 5) v f (setR R v (R v ++ [(nmC T n 2 0 (G 5 - 1) (.inr p)).2])) (p' + 1) := by
            rw [rdF_r (p' := p') (by rw [ep]), if_pos y, ep]
          rw [er] at h
          have := ih (x5 + 1) (p' + 1) _ L2 (vI (p : Int)) (vI (nmC T n 2 0 (G 5 - 1) (.inr p)).2) l (by omega) (by omega) (fun p j a b => (f2 p j a).trans (fL1 p j a b)) (AF_fr a1 (fun p j a b => f2 p j (by omega))) v1 r2 h
          rw [show (((x5 + 1 : Nat)) : Int) = (x5 : Int) + 1 by omega] at this
          exact this
        · rw [b2i_f y, if_pos rfl]
          refine ⟨by omega, out _ L1 _ _ (h L1 fL1 ?_ ?_)⟩
          · rw [rdF_r (p' := p') (by rw [ep]), if_neg y, ep]; exact a1
          · rw [rdF_r (p' := p') (by rw [ep]), if_neg y]; exact r1
theorem c_rdPlan {T : Nat → Int} {n : Nat} {G : Nat → Int} {J : IM} {K : Option AV → IM → Prop} (hG : GR G) (hB : TB T n) (hT : CTp T n J)
    (h : ∀ J', (∀ p j, (p ≠ 212 ∨ (j ≠ 1 ∧ j ≠ 2)) → (p < 72 ∨ 77 < p) → J' p j = J p j) → (∀ q, (plF T n (G 5) 5 (fun _ => []) (-1) 0).1 = .inl q → K (some (vI (-100 - (q : Int)))) J') ∧ (∀ p', (plF T n (G 5) 5 (fun _ => []) (-1) 0).1 = .inr p' → AF (plF T n (G 5) 5 (fun _ => []) (-1) 0).2 J' → K (some (vI (J' 72 0 + J' 72 1 + J' 72 2 + J' 72 3))) J')) : CALL S0 42 [vR 212, vR 71, vI (G 5)] J K := by
  have h160 := hB.1
  have hpl := pl_ok (T := T) (n := n) hG 5 (fun _ => []) (-1) 0 (by decide) V0_nil (Nat.zero_le _)
  generalize hP : plF T n (G 5) 5 (fun _ => []) (-1) 0 = P at h hpl
  refine e42 rd71 ?_
  unfold D42_0
  refine e31 ?_
  unfold D31_0
  intro I1 e1 I2 e2
  refine ⟨rfl, c_clearAll fun I3 f3 a3 => ⟨rfl, ?_⟩⟩
  have f12 : ∀ p j, (p ≠ 212 ∨ (j ≠ 1 ∧ j ≠ 2)) → I2 p j = J p j := fun p j a => by rw [e2, e1, iup_ne (by omega), iup_ne (by omega)]
  have fin : ∀ (x3 x4 x5 : Int) (L : IM), (∀ p j, (p ≠ 212 ∨ (j ≠ 1 ∧ j ≠ 2)) → (p < 72 ∨ 77 < p) → L p j = J p j) → AF P.2 L → RD P.1 L → D42_89 71 (G 5) x3 x4 x5 L K := fun x3 x4 x5 L fL aL rL => by
    unfold D42_89 inR
    cases e : P.1 with
    | inl q =>
      rw [e] at rL hpl
      have rL' : L 212 2 = (q : Int) := rL
      have hq : q ≤ n := hpl.2
      rw [rL', if_neg (by omega)]
      exact ⟨by omega, (h L fL).1 q e⟩
    | inr p' =>
      rw [e] at rL
      rw [if_pos rL.2]
      exact k_stopsInAll (r := 71) rd71 aL.1 ⟨_, rfl, (h L fL).2 p' e aL⟩
  have out : ∀ (x3 x5 : Int) (L : IM), (∀ p j, (p ≠ 212 ∨ (j ≠ 1 ∧ j ≠ 2)) → (p < 72 ∨ 77 < p) → L p j = J p j) → AF P.2 L → RD P.1 L → GO S0 42 16 [vR 212, vR 71, vI (G 5), vI x3, vI 0, vI x5] [] L K := fun x3 x5 L fL aL rL => by
    refine g42_16 71 rd71 _ _ _ _ L K ?_
    unfold D42_16
    by_cases c5 : (4 : Int) < x5
    · rw [if_pos c5]
      exact fin _ _ _ L fL aL rL
    · rw [if_neg c5, if_pos rfl]
      exact fin _ _ _ L fL aL rL
  have out5 : ∀ (x3 x4 x5 : Int) (L : IM), 0 ≤ x5 ∧ x5 ≤ 4 → (∀ p j, (p ≠ 212 ∨ (j ≠ 1 ∧ j ≠ 2)) → (p < 72 ∨ 77 < p) → L p j = J p j) → AF P.2 L → RD P.1 L → D42_69 71 (G 5) x3 x4 x5 L K := fun x3 x4 x5 L h5' fL aL rL => by
    unfold D42_69 D42_70 inR
    rw [if_pos rfl]
    exact ⟨by omega, out _ _ L fL aL rL⟩
  -- a van's round, wherever the reader stands
  have rnd : ∀ (s : PS) (y : Int) (L : IM) (Q : Option AV → IM → Prop), (∀ p j, (p ≠ 212 ∨ (j ≠ 1 ∧ j ≠ 2)) → (p < 72 ∨ 77 < p) → L p j = J p j) → RD s L → (∀ q, s = .inl q → Q none L) → (∀ p2, s = .inr p2 → GO S0 44 18 [vR 212, vR 71, vI y, vI (G 5), vI 1, vI 0, vU, vU] [] L Q) → CALL S0 44 [vR 212, vR 71, vI y, vI (G 5)] L Q := fun s y L Q fL rL hl hr => by
    refine e44 rd71 ?_
    unfold D44_0
    cases s with
    | inl q =>
      have rL' : L 212 2 = (q : Int) := rL
      rw [if_neg (by omega)]
      refine g44_18 71 rd71 _ _ _ _ vU vU L Q ?_
      unfold D44_18
      rw [if_neg (by decide), if_pos rfl]
      exact hl q rfl
    | inr p2 =>
      rw [if_pos rL.2]
      exact hr p2 rfl
  -- once failed, to the end
  have dead : ∀ (q : Nat) (x3 x5 : Int) (L : IM), -1 ≤ x3 ∧ x3 ≤ 3 → 0 ≤ x5 → (∀ p j, (p ≠ 212 ∨ (j ≠ 1 ∧ j ≠ 2)) → (p < 72 ∨ 77 < p) → L p j = J p j) → AF P.2 L → RD (.inl q) L → q ≤ n → P.1 = .inl q → GO S0 42 16 [vR 212, vR 71, vI (G 5), vI x3, vI 1, vI x5] [] L K := fun q x3 x5 L hx h5' fL aL rL hq e => by
    refine g42_16 71 rd71 _ _ _ _ L K ?_
    unfold D42_16 inR
    by_cases c5 : (4 : Int) < x5
    · rw [if_pos c5]
      exact fin _ _ _ L fL aL (by rw [e]; exact rL)
    rw [if_neg c5, if_neg (by decide)]
    refine ⟨by omega, c_number (f := 1) (s := .inl q) (by omega) hB (CTp_fr hT (fun p j a => fL p j (by omega) (by omega))) rL hq fun L4 f4 r4 => ⟨_, rfl, ?_⟩⟩
    have fL4 : ∀ p j, (p ≠ 212 ∨ (j ≠ 1 ∧ j ≠ 2)) → (p < 72 ∨ 77 < p) → L4 p j = J p j := fun p j a b => (f4 p j a).trans (fL p j a b)
    refine c_pass (s := .inl q) hB (CTp_fr hT (fun p j a => fL4 p j (by omega) (by omega))) r4 hq fun L6 f6 r6 => ⟨rfl, ?_⟩
    have fL6 : ∀ p j, (p ≠ 212 ∨ (j ≠ 1 ∧ j ≠ 2)) → (p < 72 ∨ 77 < p) → L6 p j = J p j := fun p j a b => (f6 p j a).trans (fL4 p j a b)
    have r6' : RD (.inl q) L6 := r6
    have r6n : L6 212 2 = (q : Int) := r6'
    refine rnd (.inl q) _ L6 _ fL6 r6' (fun q' _ => ⟨rfl, ?_⟩) (fun p2 z => by cases z)
    rw [if_neg (by omega)]
    exact out5 _ _ _ L6 (by omega) fL6 (AF_fr aL (fun p j a b => (f6 p j (by omega)).trans (f4 p j (by omega)))) (by rw [e]; exact r6')
  have key : ∀ (f p : Nat) (v x5 : Int) (R : RRR) (L : IM), -1 ≤ v ∧ v ≤ 3 → 4 ≤ v + f → 0 ≤ x5 ∧ x5 + f = 5 → p ≤ n → (∀ p j, (p ≠ 212 ∨ (j ≠ 1 ∧ j ≠ 2)) → (p < 72 ∨ 77 < p) → L p j = J p j) → AF R L → V0 G R → RD (.inr p) L → plF T n (G 5) f R v p = P → GO S0 42 16 [vR 212, vR 71, vI (G 5), vI v, vI 1, vI x5] [] L K := by
    intro f
    induction f with
    | zero => intro p v x5 R L hv hf; omega
    | succ f ih =>
      intro p v x5 R L hv hf h5' hp fL aL hV rL eP
      refine g42_16 71 rd71 _ _ _ _ L K ?_
      unfold D42_16 inR
      rw [if_neg (show ¬ (4 : Int) < x5 by omega), if_neg (by decide)]
      have vo := vn_ok (T := T) (n := n) hG hv.1 hV hp
      refine ⟨by omega, c_number (f := 1) (s := .inr p) (by omega) hB (CTp_fr hT (fun p j a => fL p j (by omega) (by omega))) rL hp fun L4 f4 r4 => ⟨_, rfl, ?_⟩⟩
      have fL4 : ∀ p j, (p ≠ 212 ∨ (j ≠ 1 ∧ j ≠ 2)) → (p < 72 ∨ 77 < p) → L4 p j = J p j := fun p j a b => (f4 p j a).trans (fL p j a b)
      have k4 : okP n (nmC T n 1 (v + 1) 3 (.inr p)).1 := (nm_ok (by omega) (s := .inr p) hp).1
      refine c_pass hB (CTp_fr hT (fun p j a => fL4 p j (by omega) (by omega))) r4 k4 fun L6 f6 r6 => ⟨rfl, ?_⟩
      have fL6 : ∀ p j, (p ≠ 212 ∨ (j ≠ 1 ∧ j ≠ 2)) → (p < 72 ∨ 77 < p) → L6 p j = J p j := fun p j a b => (f6 p j a).trans (fL4 p j a b)
      have aL6 : AF R L6 := AF_fr aL (fun p j a b => (f6 p j (by omega)).trans (f4 p j (by omega)))
      refine rnd _ _ L6 _ fL6 r6 (fun q e => ⟨rfl, ?_⟩) (fun p2 e => ?_)
      · rw [e] at r6
        have r6n : L6 212 2 = (q : Int) := r6
        have ev : vnF T n (G 5) R v p = (.inl q, R) := vnF_l e
        rw [plF_l (q := q) (by rw [ev]), ev] at eP
        rw [if_neg (by omega)]
        exact out5 _ _ _ L6 (by omega) fL6 (by rw [← eP]; exact aL6) (by rw [← eP]; exact r6)
      · rw [e] at r6
        obtain ⟨p1, e1, ep2, yp2⟩ := sg_inr e
        obtain ⟨_, a1, b1, c1, d1⟩ := nm_inr (by omega) (s := .inr p) hp e1
        have ev : vnF T n (G 5) R v p = rdF T n (G 5) (nmC T n 1 (v + 1) 3 (.inr p)).2.toNat (n + 1) R p2 := vnF_r e
        generalize hy : (nmC T n 1 (v + 1) 3 (.inr p)).2 = y at d1 ev
        have l2 := rd_in (T := T) (n := n) (p := p1) (by omega)
        have main := c_round (K := fun v' I7 => v' = none ∧ (if I7 212 2 = -1 then (CALL S0 40 [vR 212] I7 (fun v I9 => ∃ y10 : Int, v = some (vI y10) ∧ (if y10 = 0 then (D42_70 71 (G 5) y 1 x5 1 I9 K) else (D42_69 71 (G 5) y 1 x5 I9 K)))) else (D42_69 71 (G 5) y 1 x5 I7 K))) hG hB (CTp_fr hT (fun p j a => fL6 p j (by omega) (by omega))) (v := y.toNat) (by omega) (n + 1) 0 p2 R L6 vU vU (by omega) (by omega) (by omega) (fun _ _ _ _ => rfl) aL6 hV r6 (fun L7 f7 a7 r7 => ⟨rfl, ?_⟩)
        · rw [show ((y.toNat : Nat) : Int) = y by omega] at main
          exact main
        rw [← ev] at a7 r7
        have fL7 : ∀ p j, (p ≠ 212 ∨ (j ≠ 1 ∧ j ≠ 2)) → (p < 72 ∨ 77 < p) → L7 p j = J p j := fun p j a b => (f7 p j a b).trans (fL6 p j a b)
        cases e7 : (vnF T n (G 5) R v p).1 with
        | inl q =>
          rw [e7] at r7
          have r7n : L7 212 2 = (q : Int) := r7
          rw [plF_l e7] at eP
          rw [if_neg (by omega)]
          exact out5 _ _ _ L7 (by omega) fL7 (by rw [← eP]; exact a7) (by rw [← eP]; exact r7)
        | inr p' =>
          rw [e7] at r7 vo
          have hp' : p' ≤ n := vo.2
          rw [if_pos r7.2]
          refine e40 ?_
          unfold D40_0
          have h208 : L7 208 1 = (n : Int) := (fL7 208 1 (by omega) (by omega)).trans hT.1
          rw [r7.1, h208]
          rw [plF_r e7, hy] at eP
          by_cases c : p' < n
          · rw [if_pos (by omega)]
            refine ⟨_, rfl, ?_⟩
            rw [if_pos rfl]
            unfold D42_70 inR
            rw [if_neg (by decide)]
            refine c_pass (s := .inr p') hB (CTp_fr hT (fun p j a => fL7 p j (by omega) (by omega))) r7 hp' fun L8 f8 r8 => ⟨rfl, by omega, ?_⟩
            have fL8 : ∀ p j, (p ≠ 212 ∨ (j ≠ 1 ∧ j ≠ 2)) → (p < 72 ∨ 77 < p) → L8 p j = J p j := fun p j a b => (f8 p j a).trans (fL7 p j a b)
            have a8 := AF_fr a7 (J' := L8) (fun p j a b => f8 p j (by omega))
            by_cases y9 : rdT T n p' = 59
            · rw [if_pos y9] at eP
              rw [show sgC T n 59 (.inr p') = .inr (p' + 1) by unfold sgC; dsimp only; rw [if_pos y9]] at r8
              exact ih (p' + 1) y (x5 + 1) _ L8 (by omega) (by omega) (by omega) (by omega) fL8 a8 vo.1 r8 eP
            · rw [if_neg y9, if_pos c] at eP
              rw [show sgC T n 59 (.inr p') = .inl p' by unfold sgC; dsimp only; rw [if_neg y9]] at r8
              exact dead p' y (x5 + 1) L8 (by omega) (by omega) fL8 (by rw [← eP]; exact a8) r8 hp' (by rw [← eP])
          · rw [if_neg (by omega)]
            refine ⟨_, rfl, ?_⟩
            rw [if_neg (by decide)]
            have ny : ¬ rdT T n p' = 59 := fun z => c (rd_in (T := T) (by omega))
            rw [if_neg ny, if_neg c] at eP
            exact out5 _ _ _ L7 (by omega) fL7 (by rw [← eP]; exact a7) (by rw [← eP]; exact r7)
  exact key 5 0 (-1) 0 (fun _ => []) I3 (by decide) (by decide) (by decide) (Nat.zero_le _) (fun p j a b => (f3 p j (by omega)).trans (f12 p j a)) a3 V0_nil ⟨by rw [f3 212 1 (by decide), e2, iup_ne (Or.inr (by decide)), e1, iup_same]; rfl, by rw [f3 212 2 (by decide), e2, iup_same]⟩ hP
