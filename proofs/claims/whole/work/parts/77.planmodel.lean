/-! level 2: a plan's text, the model's -/
def FMP (I J : IM) : Prop := ∀ o k, (o ≠ 237 ∨ (k ≠ 17 ∧ k ≠ 19)) → o ≠ 242 → J o k = I o k
theorem FMP_t {I J L : IM} (h : FMP I J) (h' : FMP J L) : FMP I L := fun o k a b => (h' o k a b).trans (h o k a b)
theorem FMP_ft {I J : IM} (h : FT I J) : FMP I J := fun o k a _ => h o k (by omega)
theorem NT_mp {T : Nat → Int} {n : Nat} {I J : IM} (h : NT T n I) (f : FMP I J) : NT T n J := NT_fr h (f 237 16 (by omega) (by omega)) (fun k => f 244 k (by omega) (by omega))
theorem TQ_ft {R : RRR} {I J : IM} (h : TQ R I) (f : FT I J) : TQ R J := TQ_o h (funext fun k => f 242 k (by omega))
theorem n_stop {T : Nat → Int} {n v p : Nat} {G : Nat → Int} {R : RRR} {J : IM} {K : Option AV → IM → Prop} (hG : GR G) (hB : TB T n) (hT : NT T n J) (h5 : J 238 5 = G 5) (hv : v < 4) (hp : p ≤ n) (pp : J 237 17 = (p : Int)) (tq : TQ R J) (bb : BT R (J 237 19)) (hV : V0 G R)
    (h1 : ∀ p', (pst T n (G 5) v R p).1 = .inr p' → ∀ J', FMP J J' → J' 237 17 = (p' : Int) → TQ (pst T n (G 5) v R p).2 J' → BT (pst T n (G 5) v R p).2 (J' 237 19) → K (some (vI 1)) J')
    (h0 : (pst T n (G 5) v R p).1 = .inl p → ∀ J', FMP J J' → J' 237 17 = (p : Int) → K (some (vI 0)) J') : CALL S0 155 [vR 237, vI (v : Int)] J K := by
  have n12 := hG.1
  refine e155 ?_
  unfold D155_0 inR
  rw [h5]
  refine ⟨by omega, n_number (f := 2) (by omega) hB hT pp hp (fun p' o e J' f q => ⟨_, rfl, ?_⟩) (fun o e J' f q => ⟨_, rfl, ?_⟩)⟩
  · have e1 : (nmC T n 2 0 (G 5 - 1) (.inr p)).1 = .inr p' := by rw [e]
    obtain ⟨_, _, _, _, d⟩ := nm_inr (by omega) (s := .inr p) hp e1
    have eo : (nmC T n 2 0 (G 5 - 1) (.inr p)).2 = o := by rw [e]
    rw [eo] at d
    rw [if_pos d.1]
    have b19 : J' 237 19 = J 237 19 := f 237 19 (by omega)
    rw [b19]
    have b1 := BT_1 bb (x := o) (by omega)
    by_cases c : vanF R o < 0
    · rw [if_neg (fun z => (b1.mp z) c)]
      have ep : pst T n (G 5) v R p = (.inr p', setR R v (R v ++ [o])) := by rw [pst_s e1 (by rw [eo]; omega), eo]
      obtain ⟨_, room⟩ := V0_app hG hV hv (o := o) (by omega) c
      intro I6 e6
      have tq6 : TQ R I6 := TQ_o (TQ_ft tq f) (funext fun j => by rw [e6, iup_ne (Or.inl (by decide))])
      refine m_sizeOf s0_242 (by omega) ⟨_, rfl, ?_⟩
      rw [Int.toNat_natCast, TQ_len tq6 hv]
      refine m_app hv tq6 rfl room fun L1 f1 q1 => ⟨rfl, ?_⟩
      refine h1 p' (by rw [ep]) L1 (fun o k a b => ?_) ?_ (by rw [ep]; exact q1) ?_
      · rw [f1 o k b, e6, iup_ne (by omega), f o k (by omega)]
      · rw [f1 237 17 (by decide), e6, iup_ne (Or.inr (by decide)), q]
      · rw [ep, f1 237 19 (by decide), e6, iup_same]
        exact BT_app (G := G) bb hv (by omega)
    · rw [if_pos (b1.mpr c)]
      intro I10 e10
      refine h0 (by rw [pst_d e1 (by rw [eo]; omega)]) I10 (fun o k a b => by rw [e10, iup_ne (by omega), f o k (by omega)]) (by rw [e10, iup_same, pp])
  · rw [if_neg (by decide)]
    exact h0 (by rw [pst_l (q := p) (by rw [e])]) J' (FMP_ft f) q
def vfl (T : Nat → Int) (n : Nat) (s : PS) (q : Nat) : Prop := s = .inl q ∨ (s = .inr q ∧ q < n ∧ rdT T n q ≠ 59)
theorem n_stops {T : Nat → Int} {n v : Nat} {x1 : Int} {G : Nat → Int} {I : IM} {K : Option AV → IM → Prop} (hG : GR G) (hB : TB T n) (hT : NT T n I) (h5 : I 238 5 = G 5) (hv : v < 4) : ∀ (f p : Nat) (R : RRR) (J : IM) (X : PS × RRR), p ≤ n → n ≤ p + f → FMP I J → J 237 17 = (p : Int) → TQ R J → BT R (J 237 19) → V0 G R → X = (if rdT T n p = 44 then rdF T n (G 5) v f R (p + 1) else (.inr p, R)) →
    (∀ p2, X.1 = .inr p2 → p2 = n ∨ rdT T n p2 = 59 → ∀ J', FMP I J' → J' 237 17 = (p2 : Int) → TQ X.2 J' → BT X.2 (J' 237 19) → K (some (vI (v : Int))) J') →
    (∀ q, vfl T n X.1 q → ∀ J', FMP I J' → J' 237 17 = (q : Int) → K (some (vI (-1))) J') → GO S0 154 33 [vR 237, vI x1, vI (v : Int)] [] J K := by
  intro f
  induction f with
  | zero =>
    intro p R J X hp hf fJ pp tq bb hV eX hs hl
    have ny : ¬ rdT T n p = 44 := fun z => by
      have := rd_in (T := T) (n := n) (p := p) (by omega)
      omega
    rw [if_neg ny] at eX
    subst eX
    have hTJ := NT_mp hT fJ
    refine g154_33 _ _ J K ?_
    unfold D154_33
    refine n_sign hB hTJ pp hp (fun y => absurd y ny) (fun _ => ⟨_, rfl, ?_⟩)
    rw [if_pos rfl, pp, hTJ.1, if_pos (by omega)]
    exact hs p rfl (Or.inl (by omega)) J fJ pp tq bb
  | succ f ih =>
    intro p R J X hp hf fJ pp tq bb hV eX hs hl
    have hTJ := NT_mp hT fJ
    refine g154_33 _ _ J K ?_
    unfold D154_33
    refine n_sign hB hTJ pp hp (fun y J1 f1 q1 => ⟨_, rfl, ?_⟩) (fun y => ⟨_, rfl, ?_⟩)
    · rw [if_neg (by decide)]
      rw [if_pos y] at eX
      have l := rd_in (T := T) (n := n) (p := p) (by omega)
      have fJ1 := FMP_t fJ (FMP_ft f1)
      have po := pst_ok (T := T) (v := v) (n := n) hG hV hv (p := p + 1) l
      refine n_stop hG hB (NT_mp hT fJ1) (by rw [fJ1 238 5 (by omega) (by omega)]; exact h5) hv l q1 (TQ_ft tq f1) (by rw [f1 237 19 (by omega)]; exact bb) hV (fun p' e J2 f2 q2 t2 b2 => ⟨_, rfl, ?_⟩) (fun e J2 f2 q2 => ⟨_, rfl, ?_⟩)
      · rw [if_neg (by decide)]
        rw [rdF_r e] at eX
        have b := po.2.2 p' e
        exact ih p' _ J2 X b.2 (by omega) (FMP_t fJ1 f2) q2 t2 b2 po.1 eX hs hl
      · rw [if_pos rfl]
        rw [rdF_l e] at eX
        exact hl (p + 1) (Or.inl (by rw [eX])) J2 (FMP_t fJ1 f2) q2
    · rw [if_pos rfl]
      rw [if_neg y] at eX
      subst eX
      rw [pp, hTJ.1]
      split
      · exact hs p rfl (Or.inl (by omega)) J fJ pp tq bb
      · refine n_here hB hTJ pp ⟨_, rfl, ?_⟩
        split
        · exact hs p rfl (Or.inr (by assumption)) J fJ pp tq bb
        · exact hl p (Or.inr ⟨rfl, by omega, by assumption⟩) J fJ pp
theorem n_van {T : Nat → Int} {n p : Nat} {x : Int} {G : Nat → Int} {R : RRR} {J : IM} {K : Option AV → IM → Prop} (hG : GR G) (hB : TB T n) (hT : NT T n J) (h5 : J 238 5 = G 5) (hx : -1 ≤ x ∧ x ≤ 3) (hp : p ≤ n) (pp : J 237 17 = (p : Int)) (tq : TQ R J) (bb : BT R (J 237 19)) (hV : V0 G R)
    (hs : ∀ p2, (vnF T n (G 5) R x p).1 = .inr p2 → p2 = n ∨ rdT T n p2 = 59 → ∀ J', FMP J J' → J' 237 17 = (p2 : Int) → TQ (vnF T n (G 5) R x p).2 J' → BT (vnF T n (G 5) R x p).2 (J' 237 19) → K (some (vI (nmC T n 1 (x + 1) 3 (.inr p)).2)) J')
    (hl : ∀ q, vfl T n (vnF T n (G 5) R x p).1 q → ∀ J', FMP J J' → J' 237 17 = (q : Int) → K (some (vI (-1))) J') : CALL S0 154 [vR 237, vI x] J K := by
  refine e154 ?_
  unfold D154_0 inR
  refine ⟨by omega, n_number (f := 1) (by omega) hB hT pp hp (fun p1 y e J1 f1 q1 => ⟨_, rfl, ?_⟩) (fun y e J1 f1 q1 => ⟨_, rfl, ?_⟩)⟩
  · have e1 : (nmC T n 1 (x + 1) 3 (.inr p)).1 = .inr p1 := by rw [e]
    have ey : (nmC T n 1 (x + 1) 3 (.inr p)).2 = y := by rw [e]
    obtain ⟨_, _, _, c1, d⟩ := nm_inr (by omega) (s := .inr p) hp e1
    rw [ey] at d hs
    rw [if_neg (by omega)]
    have m1 := FMP_ft f1
    refine n_sign hB (NT_mp hT m1) q1 c1 (fun z J2 f2 q2 => ⟨_, rfl, ?_⟩) (fun z => ⟨_, rfl, ?_⟩)
    · rw [if_neg (by decide)]
      have l := rd_in (T := T) (n := n) (p := p1) (by omega)
      have m2 := FMP_t m1 (FMP_ft f2)
      have es : sgC T n 58 (nmC T n 1 (x + 1) 3 (.inr p)).1 = .inr (p1 + 1) := by
        rw [e1]
        unfold sgC
        dsimp only
        rw [if_pos z]
      have ev := vnF_r (N := G 5) (R := R) es
      rw [ey] at ev
      rw [ev] at hs hl
      have yv : ((y.toNat : Nat) : Int) = y := by omega
      have po := pst_ok (T := T) (v := y.toNat) (n := n) hG hV (by omega) (p := p1 + 1) l
      have main := n_stop (v := y.toNat) (K := fun v I8 => ∃ y9 : Int, v = some (vI y9) ∧ (if y9 = 0 then (K (some (vI (-1))) I8) else (GO S0 154 33 [vR 237, vI x, vI y] [] I8 K))) hG hB (NT_mp hT m2) (by rw [m2 238 5 (by omega) (by omega)]; exact h5) (by omega) l q2 (TQ_ft (TQ_ft tq f1) f2) (by rw [f2 237 19 (by omega), f1 237 19 (by omega)]; exact bb) hV (fun p' e' J3 f3 q3 t3 b3 => ⟨_, rfl, ?_⟩) (fun e' J3 f3 q3 => ⟨_, rfl, ?_⟩)
      · rw [yv] at main
        exact main
      · rw [if_neg (by decide)]
        have b := po.2.2 p' e'
        have m3 := FMP_t m2 f3
        have := n_stops (v := y.toNat) (x1 := x) (K := K) hG hB hT h5 (by omega) n p' _ J3 (rdF T n (G 5) y.toNat (n + 1) R (p1 + 1)) b.2 (by omega) m3 q3 t3 b3 po.1 (rdF_r e') (by rw [yv]; exact hs) hl
        rw [yv] at this
        exact this
      · rw [if_pos rfl]
        exact hl (p1 + 1) (Or.inl (by rw [rdF_l e'])) J3 (FMP_t m2 f3) q3
    · rw [if_pos rfl]
      have es : sgC T n 58 (nmC T n 1 (x + 1) 3 (.inr p)).1 = .inl p1 := by
        rw [e1]
        unfold sgC
        dsimp only
        rw [if_neg z]
      have ev := vnF_l (N := G 5) (R := R) es
      exact hl p1 (Or.inl (by rw [ev])) J1 m1 q1
  · rw [if_pos (by decide)]
    have es : sgC T n 58 (nmC T n 1 (x + 1) 3 (.inr p)).1 = .inl p := by
      rw [e]
      rfl
    have ev := vnF_l (N := G 5) (R := R) es
    exact hl p (Or.inl (by rw [ev])) J1 (FMP_ft f1) q1
theorem n_rdPlan {T : Nat → Int} {n : Nat} {G : Nat → Int} {J : IM} {K : Option AV → IM → Prop} (hG : GR G) (hB : TB T n) (hT : NT T n J) (h5 : J 238 5 = G 5)
    (hs : ∀ p', (plF T n (G 5) 5 (fun _ => []) (-1) 0).1 = .inr p' → ∀ (y : Int) (J' : IM), 0 ≤ y → FMP J J' → TQ (plF T n (G 5) 5 (fun _ => []) (-1) 0).2 J' → D152_42 y J' K)
    (hl : ∀ q, (plF T n (G 5) 5 (fun _ => []) (-1) 0).1 = .inl q → ∀ J', FMP J J' → J' 237 17 = (q : Int) → D152_42 (-1) J' K) : CALL S0 152 [vR 237] J K := by
  refine e152 ?_
  unfold D152_0
  intro I1 e1 I2 e2
  refine n_empties fun I3 f3 t3 => ⟨rfl, ?_⟩
  have m3 : FMP J I3 := fun o k a b => by rw [f3 o k b, e2, e1, iup_ne (by omega), iup_ne (by omega)]
  have p3 : I3 237 17 = ((0 : Nat) : Int) := by rw [f3 237 17 (by decide), e2, iup_ne (Or.inr (by decide)), e1, iup_same]; rfl
  have b3 : BT (fun _ => []) (I3 237 19) := by rw [f3 237 19 (by decide), e2, iup_same]; exact BT_0
  generalize hP : plF T n (G 5) 5 (fun _ => []) (-1) 0 = P at hs hl
  have dead : ∀ (q : Nat) (L : IM), P.1 = .inl q → FMP J L → L 237 17 = (q : Int) → GO S0 152 20 [vR 237, vI (-1)] [] L K := fun q L e m pq => by
    refine g152_20 _ L K ?_
    unfold D152_20
    rw [if_pos (by decide)]
    exact hl q e L m pq
  have key : ∀ (f p2 : Nat) (y : Int) (R : RRR) (L : IM), 0 ≤ y ∧ y ≤ 3 → 4 ≤ y + f → p2 ≤ n → p2 = n ∨ rdT T n p2 = 59 → FMP J L → L 237 17 = (p2 : Int) → TQ R L → BT R (L 237 19) → V0 G R → (if rdT T n p2 = 59 then plF T n (G 5) f R y (p2 + 1) else if p2 < n then (.inl p2, R) else (.inr p2, R)) = P → GO S0 152 20 [vR 237, vI y] [] L K := by
    intro f
    induction f with
    | zero => intro p2 y R L hy hf; omega
    | succ f ih =>
      intro p2 y R L hy hf hp ho m pq tq bb hV eP
      refine g152_20 _ L K ?_
      unfold D152_20
      rw [if_neg (by omega)]
      refine n_sign hB (NT_mp hT m) pq hp (fun z J1 f1 q1 => ⟨_, rfl, ?_⟩) (fun z => ⟨_, rfl, ?_⟩)
      · rw [if_neg (by decide)]
        rw [if_pos z] at eP
        have l := rd_in (T := T) (n := n) (p := p2) (by omega)
        have m1 := FMP_t m (FMP_ft f1)
        have vo := vn_ok (T := T) (n := n) hG (v := y) (by omega) hV (p := p2 + 1) l
        refine n_van hG hB (NT_mp hT m1) (by rw [m1 238 5 (by omega) (by omega)]; exact h5) (by omega) l q1 (TQ_ft tq f1) (by rw [f1 237 19 (by omega)]; exact bb) hV (fun p4 e4 y4 J4 f4 q4 t4 b4 => ⟨_, rfl, ?_⟩) (fun q e4 J4 f4 q4 => ⟨_, rfl, ?_⟩)
        · have yy := vn_y (by omega) l e4
          rw [plF_r e4] at eP
          rw [e4] at vo
          exact ih p4 _ _ J4 (by omega) (by omega) vo.2 y4 (FMP_t m1 f4) q4 t4 b4 vo.1 eP
        · refine dead q J4 ?_ (FMP_t m1 f4) q4
          rcases e4 with e4 | ⟨e4, ln, ne⟩
          · rw [plF_l e4] at eP
            rw [← eP]
          · rw [plF_r e4, if_neg ne, if_pos ln] at eP
            rw [← eP]
      · rw [if_pos rfl]
        have en : p2 = n := by rcases ho with a | a; exact a; exact absurd a z
        rw [if_neg z, if_neg (by omega)] at eP
        exact hs p2 (by rw [← eP]) y L hy.1 m (by rw [← eP]; exact tq)
  have vo := vn_ok (T := T) (n := n) hG (v := -1) (by decide) (V0_nil (G := G)) (p := 0) (Nat.zero_le _)
  refine n_van hG hB (NT_mp hT m3) (by rw [m3 238 5 (by omega) (by omega)]; exact h5) (by decide) (Nat.zero_le _) p3 t3 b3 V0_nil (fun p4 e4 y4 J4 f4 q4 t4 b4 => ⟨_, rfl, ?_⟩) (fun q e4 J4 f4 q4 => ⟨_, rfl, ?_⟩)
  · have yy := vn_y (by decide) (Nat.zero_le _) e4
    rw [plF_r e4] at hP
    rw [e4] at vo
    exact key 4 p4 _ _ J4 (by omega) (by omega) vo.2 y4 (FMP_t m3 f4) q4 t4 b4 vo.1 hP
  · refine dead q J4 ?_ (FMP_t m3 f4) q4
    rcases e4 with e4 | ⟨e4, ln, ne⟩
    · rw [plF_l e4] at hP
      rw [← hP]
    · rw [plF_r e4, if_neg ne, if_pos ln] at hP
      rw [← hP]
