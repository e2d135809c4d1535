/-! level 2: class and model call by call: plan -/
theorem s_plan {I : IM} (h : REL I) : BOTH 41 152 [] I := by
  unfold BOTH
  have hB := rt_B h
  have hG := h.1.1
  have hcn : I 1 0 = I 238 5 := h.1.2.1
  have hC := rel_CF h
  have h160 := hB.1
  have hpl := pl_ok (T := I 209) (n := (I 237 16).toNat) hG 5 (fun _ => []) (-1) 0 (by decide) V0_nil (Nat.zero_le _)
  obtain ⟨P, hP⟩ : ∃ P, P = plF (I 209) (I 237 16).toNat (I 238 5) 5 (fun _ => []) (-1) 0 := ⟨_, rfl⟩
  rw [← hP] at hpl
  have tN : ∀ J : IM, J 237 16 = I 237 16 → (∀ k, J 244 k = I 244 k) → NT (I 209) (I 237 16).toNat J := fun J f g => rt_N h f g
  refine e41 ?_
  unfold D41_0
  rw [hcn]
  refine c_rdPlan (G := I 238) hG hB (rt_C h (fun _ _ _ => rfl)) fun J1 f1 => ?_
  rw [← hP]
  have f1' : ∀ p j, (p ≠ 212 ∨ (j ≠ 1 ∧ j ≠ 2)) → (p < 72 ∨ 77 < p) → (p ≠ 208 ∨ j ≠ 1) → iup J1 208 1 0 p j = I p j := fun p j a b c => by rw [iup_ne c, f1 p j a b]
  -- the tape is cleared, and what they work with has changed
  have hbad : ∀ Jc, (∀ p j, (p ≠ 212 ∨ (j ≠ 1 ∧ j ≠ 2)) → (p < 71 ∨ 77 < p) → p ≠ 192 → Jc p j = iup J1 208 1 0 p j) → ∀ J', FMP Jc J' → ∀ J2, FS (iup J' 237 16 0) J2 → REL J2 ∧ SC I J2 := fun Jc fc J' m J2 f2 => by
    refine clr_rel h (fun o k a b c => ?_) ?_ ?_
    · rw [f2 o k a]
      unfold SCR at a
      rw [iup_ne c, m o k (by omega) (by omega), fc o k (by omega) (by omega) (by omega), f1' o k (by omega) (by omega) b]
    · rw [f2 208 1 (by unfold SCR; omega), iup_ne (Or.inl (by decide)), m 208 1 (by omega) (by omega), fc 208 1 (by omega) (by omega) (by omega), iup_same]
    · rw [f2 237 16 (by unfold SCR; omega), iup_same]
  cases e : P.1 with
  | inl q =>
    rw [e] at hpl
    have hq : q ≤ (I 237 16).toNat := hpl.2
    refine ⟨fun q' e' => ⟨_, rfl, fun I3 e3 => ?_⟩, fun p' e' => by cases e'⟩
    have eq := Sum.inl.inj e'
    subst eq
    rw [if_neg (by omega)]
    refine ⟨_, rfl, n_rdPlan (G := I 238) hG hB (tN I3 (by rw [e3]; exact f1' _ _ (by omega) (by omega) (by omega)) (fun k => by rw [e3]; exact f1' _ _ (by omega) (by omega) (by omega))) (by rw [e3]; exact f1' _ _ (by omega) (by omega) (by omega)) (fun p' e2 => ?_) (fun q2 e2 J' m q17 => ?_)⟩
    · rw [← hP, e] at e2; cases e2
    · rw [← hP, e] at e2
      have eq := Sum.inl.inj e2
      subst eq
      unfold D152_42 inR
      intro I5 e5
      rw [if_neg (by decide), show I5 237 17 = (q : Int) by rw [e5, iup_ne (Or.inr (by decide)), q17]]
      rw [e5]
      have := hbad I3 (fun p j _ _ _ => by rw [e3]) J' m _ FS_refl
      exact ⟨by omega, rfl, this⟩
  | inr p' =>
    refine ⟨fun q' e' => (by cases e'), fun p2 _ af => ⟨_, rfl, fun I3 e3 => ?_⟩⟩
    have V := hpl.1
    have lens : ∀ v, v < 4 → J1 72 v = ((P.2 v).length : Int) := fun v hv => AF_len af hv
    have l12 : ∀ v, v < 4 → (P.2 v).length ≤ 12 := V.1
    rw [lens 0 (by omega), lens 1 (by omega), lens 2 (by omega), lens 3 (by omega)]
    have w0 := l12 0 (by omega)
    have w1 := l12 1 (by omega)
    have w2 := l12 2 (by omega)
    have w3 := l12 3 (by omega)
    rw [if_pos (by omega)]
    have af3 : AF P.2 I3 := AF_fr af (fun p j a b => by rw [e3, iup_ne (Or.inl (by omega))])
    have bk3 : BK I3 (I 238) := BK_fp hC.1 (fun o k ho => by rw [e3]; exact f1' o k (by omega) (by omega) (by omega))
    have mtail : ∀ (Jc : IM) (Q : Option AV → IM → Prop), (∀ p j, (p ≠ 212 ∨ (j ≠ 1 ∧ j ≠ 2)) → (p < 29 ∨ 35 < p) → (p < 71 ∨ 77 < p) → p ≠ 192 → (p ≠ 78 ∨ j ≠ 2) → Jc p j = I3 p j) → (∀ J', FMP Jc J' → ∀ J2, FD (iup J' 237 16 0) J2 → ((∀ v, v < 4 → gdV (I 238) v (P.2 v)) → ∀ J3, (∀ o k, (o ≠ 238 ∨ k < 114) → J3 o k = J2 o k) → MF (I 238) P.2 J3 → Q (some (vI (((P.2 0).length : Int) + ((P.2 1).length : Int) + ((P.2 2).length : Int) + ((P.2 3).length : Int)))) (iup J3 237 4 0)) ∧ (¬ (∀ v, v < 4 → gdV (I 238) v (P.2 v)) → Q (some (vI (-7))) J2)) → CALL S0 152 [vR 237] Jc Q := fun Jc Q fc hQ => by
      have fI : ∀ p j, (p ≠ 212 ∨ (j ≠ 1 ∧ j ≠ 2)) → (p < 29 ∨ 35 < p) → (p < 71 ∨ 77 < p) → p ≠ 192 → (p ≠ 78 ∨ j ≠ 2) → (p ≠ 208 ∨ j ≠ 1) → Jc p j = I p j := fun p j a b c d g i => by rw [fc p j a b c d g, e3, f1' p j a (by omega) i]
      refine n_rdPlan (G := I 238) hG hB (tN Jc (fI _ _ (by omega) (by omega) (by omega) (by omega) (by omega) (by omega)) (fun k => fI _ _ (by omega) (by omega) (by omega) (by omega) (by omega) (by omega))) (fI _ _ (by omega) (by omega) (by omega) (by omega) (by omega) (by omega)) (fun p4 e4 y J' y0 m tq => ?_) (fun q2 e2 => ?_)
      · rw [← hP] at tq
        unfold D152_42 inR
        intro I5 e5
        rw [if_pos y0]
        have tq5 : TQ P.2 I5 := TQ_o tq (funext fun j => by rw [e5, iup_ne (Or.inl (by decide))])
        have lo : ∀ k, k < 114 → I5 238 k = I 238 k := fun k _ => by rw [e5, iup_ne (Or.inl (by decide)), m 238 k (by omega) (by omega), fI 238 k (by omega) (by omega) (by omega) (by omega) (by omega) (by omega)]
        refine n_isGood hG lo tq5.1 (V0_R12 hG V) tq5.2 fun J2 f2 => ⟨fun gd => ⟨_, rfl, ?_⟩, fun ng => ⟨_, rfl, ?_⟩⟩
        · rw [e5] at f2
          have hh := (hQ J' m J2 f2).1 gd
          rw [if_neg (by decide)]
          rw [← e5] at f2
          have tq2 := TQ_o tq5 (J' := J2) (FD_o f2 (by decide) (by decide))
          refine n_becomes (G := I 238) (R := P.2) (fun k hk => by rw [FD_o f2 (o := 238) (by decide) (by decide)]; exact lo k hk) tq2.1 tq2.2 fun J3 f3 m3 => ⟨rfl, ?_⟩
          have tq3 := TQ_o tq2 (J' := J3) (funext fun j => f3 242 j (by omega))
          refine e171 ?_
          unfold D171_0 inR
          have z0 := TQ_len tq3 (v := 0) (by omega)
          have z1 := TQ_len tq3 (v := 1) (by omega)
          have z2 := TQ_len tq3 (v := 2) (by omega)
          have z3 := TQ_len tq3 (v := 3) (by omega)
          rw [show J3 242 0 = _ from z0, show J3 242 13 = _ from z1, show J3 242 26 = _ from z2, show J3 242 39 = _ from z3]
          exact ⟨by omega, by omega, by omega, _, rfl, m_forgets ⟨_, rfl, hh J3 f3 m3⟩⟩
        · rw [e5] at f2
          have hh := (hQ J' m J2 f2).2 ng
          rw [if_pos rfl]
          exact hh
      · rw [← hP, e] at e2; cases e2
    by_cases gd : ∀ v, v < 4 → gdV (I 238) v (P.2 v)
    · have V' := V0_VR V gd
      have cb := csA_b hG V'.1 (VR_R12 hG V')
      refine c_costAll rd71 hG V' bk3 af3.1 af3.2 fun J5 f5 => ⟨_, rfl, ?_⟩
      rw [if_neg (by omega)]
      have af5 : AF P.2 J5 := AF_fr af3 (fun p j a b => f5 p j (by omega))
      refine k_copy rd29 rd71 (by decide) af5.1 fun J8 f8 s8 l8 => ⟨rfl, k_forget ⟨rfl, _, rfl, ?_⟩⟩
      have fc : ∀ p j, (p < 29 ∨ 35 < p) → p ≠ 192 → (p ≠ 78 ∨ j ≠ 2) → iup J8 78 2 0 p j = I3 p j := fun p j a b c => by rw [iup_ne c, f8 p j (by omega), f5 p j b]
      have hJ29 : ∀ v, v < 4 → LC (iup J8 78 2 0) 29 v = P.2 v := fun v hv => (LC_cg (by rw [iup_ne (Or.inl (by omega))]) (fun k => by rw [iup_ne (Or.inl (by omega))])).trans ((l8 v hv).trans (af5.2 v hv))
      have sJ29 : SZC (iup J8 78 2 0) 29 := fun v hv => by rw [iup_ne (Or.inl (by omega))]; exact s8 v hv
      have z78 : iup J8 78 2 0 78 2 = 0 := iup_same
      generalize hJc : iup J8 78 2 0 = Jc at fc hJ29 sJ29 z78
      refine mtail Jc _ (fun p j a b c d g => fc p j b d g) fun J' m J2 f2 => ⟨fun _ J3 f3 m3 => ⟨rfl, ?_⟩, fun z => absurd gd z⟩
      obtain ⟨_, n, _, _, _, r4, r5, _⟩ := h.2.2.2.1
      have fF : ∀ o k, ¬ SCR o k → (o ≠ 238 ∨ k < 114) → (o ≠ 237 ∨ k ≠ 4) → iup J3 237 4 0 o k = iup Jc 237 16 0 o k := fun o k a b c => by
        rw [iup_ne c, f3 o k b]
        unfold SCR at a
        rw [f2 o k (by omega) (by omega)]
        by_cases d : o = 237 ∧ k = 16
        · rw [d.1, d.2, iup_same, iup_same]
        · rw [iup_ne (by omega), iup_ne (by omega), m o k (by omega) (by omega)]
      have e238 : iup (iup I 208 1 0) 237 16 0 238 = I 238 := funext fun k => by rw [iup_ne (Or.inl (by decide)), iup_ne (Or.inl (by decide))]
      have fin := rel_of' (I := iup (iup I 208 1 0) 237 16 0) (J1 := iup Jc 237 16 0) (J2 := iup J3 237 4 0) (R := P.2) (clear_rel h) (fun o k a b c => by
        by_cases d : o = 237 ∧ k = 16
        · rw [d.1, d.2, iup_same, iup_same]
        · rw [iup_ne (by omega), iup_ne (by omega)]
          unfold SCR at a
          rw [fc o k (by omega) (by omega) (by omega), e3]
          by_cases g : o = 208 ∧ k = 1
          · rw [g.1, g.2, iup_same, iup_same]
          · rw [iup_ne (by omega), iup_ne (by omega), f1 o k (by omega) (by omega)])
        (fun v hv => by rw [iup_ne (Or.inl (by omega))]; exact sJ29 v hv)
        (fun v hv => (LC_cg (by rw [iup_ne (Or.inl (by omega))]) (fun k => by rw [iup_ne (Or.inl (by omega))])).trans (hJ29 v hv))
        (fun o k a b _ c => fF o k a b c)
        (MF_238 m3 (funext fun k => by rw [iup_ne (Or.inl (by decide))])).2.1
        (MF_238 m3 (funext fun k => by rw [iup_ne (Or.inl (by decide))])).2.2
        (by rw [e238]; exact V')
        (RS_0 (n := n) iup_same (by rw [fF 78 2 (by unfold SCR; omega) (by omega) (by omega), iup_ne (Or.inl (by decide)), z78]) (by rw [fF 78 1 (by unfold SCR; omega) (by omega) (by omega), iup_ne (Or.inl (by decide)), fc 78 1 (by omega) (by omega) (by omega), e3, f1' 78 1 (by omega) (by omega) (by omega), r4]) r5)
      exact ⟨fin.1, SC_trans (SC_up (SC_up SC_refl (by decide)) (by decide)) fin.2⟩
    · refine k_costOfAll rd71 hG bk3 af3.1 (oc_of (V0_R12 hG V) af3.2) fun J5 f5 => ⟨fun z => absurd (fun v hv => by have := z v hv; rw [af3.2 v hv] at this; exact this) gd, fun _ => ⟨_, rfl, ?_⟩⟩
      rw [if_pos rfl]
      refine ⟨_, rfl, mtail J5 _ (fun p j a b c d g => f5 p j d) fun J' m J2 f2 => ⟨fun z => absurd z gd, fun _ => ⟨rfl, ?_⟩⟩⟩
      exact hbad J5 (fun p j a b c => by rw [f5 p j c, e3]) J' m J2 (FS_fd f2)
