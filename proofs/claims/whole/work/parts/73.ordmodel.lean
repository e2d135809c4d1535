/-! level 2: an order's text, the model's (laid by program) -/
theorem n_numAt {T : Nat → Int} {n p z : Nat} {x lo hi : Int} {J : IM} {K : Option AV → IM → Prop} (hz : x = (z : Int)) (h140 : z < 140) (hB : TB T n) (hT : NT T n J) (hp : J 237 17 = (p : Int)) (hpn : p ≤ n) (h1 : ∀ p' v, nmC T n 3 lo hi (.inr p) = (.inr p', v) → ∀ J', (∀ o k, (o ≠ 237 ∨ k ≠ 17) → (o ≠ 245 ∨ k ≠ z) → J' o k = J o k) → J' 237 17 = (p' : Int) → J' 245 z = v → K (some (vI 1)) J') (h0 : (nmC T n 3 lo hi (.inr p)).1 = .inl p → ∀ J', (∀ o k, (o ≠ 237 ∨ k ≠ 17) → (o ≠ 245 ∨ k ≠ z) → J' o k = J o k) → J' 237 17 = (p : Int) → K (some (vI 0)) J') : CALL S0 148 [vR 237, vI x, vI lo, vI hi] J K := by
  refine e148 ?_
  unfold D148_0
  have et : x.toNat = z := by omega
  refine n_number (f := 3) (by omega) hB hT hp hpn (fun p' v e J' f pp => ⟨_, rfl, by omega, fun I4 e4 => ?_⟩) (fun v e J' f pp => ⟨_, rfl, by omega, fun I4 e4 => ?_⟩)
  · rw [et] at e4 ⊢
    have v0 := (nm_ok (T := T) (n := n) (f := 3) (lo := lo) (hi := hi) (s := .inr p) (by omega) hpn).2
    rw [e] at v0
    have ev : I4 245 z = v := by rw [e4, iup_same]
    rw [ev, if_neg (by have : 0 ≤ v := v0.1; omega)]
    exact h1 p' v e I4 (fun o k a b => by rw [e4, iup_ne b]; exact f o k a) (by rw [e4, iup_ne (Or.inl (by decide))]; exact pp) ev
  · rw [et] at e4 ⊢
    rw [e4, iup_same, if_pos (by decide), ← e4]
    exact h0 (by rw [e]) I4 (fun o k a b => by rw [e4, iup_ne b]; exact f o k a) (by rw [e4, iup_ne (Or.inl (by decide))]; exact pp)
/-- how an order may fail -/
def odFl (T : Nat → Int) (n : Nat) (s : PS) (q : Nat) : Prop := odS T n s = .inl q ∨ (odS T n s = .inr q ∧ q < n ∧ rdT T n q ≠ 59)
theorem n_order {T : Nat → Int} {n i p : Nat} {s : PS} {x1 : Int} {J : IM} {K : Option AV → IM → Prop} (hx : x1 = 7 * (i : Int)) (hi : i ≤ 16) (hB : TB T n) (hT : NT T n J) (hp : J 237 17 = (p : Int)) (hpn : p ≤ n) (hs : s = .inr p) (h1 : ∀ p', odS T n s = .inr p' → p' = n ∨ rdT T n p' = 59 → ∀ J', (∀ o k, (o ≠ 237 ∨ k ≠ 17) → (o ≠ 245 ∨ k < 7 * i ∨ 7 * i + 7 ≤ k) → J' o k = J o k) → J' 237 17 = (p' : Int) → (∀ w, w < 7 → J' 245 (7 * i + w) = odV T n s w) → K (some (vI 1)) J') (h0 : ∀ q, odFl T n s q → ∀ J', (∀ o k, (o ≠ 237 ∨ k ≠ 17) → (o ≠ 245 ∨ k < 7 * i ∨ 7 * i + 7 ≤ k) → J' o k = J o k) → J' 237 17 = (q : Int) → K (some (vI 0)) J') : CALL S0 147 [vR 237, vI x1] J K := by
  refine e147 ?_
  unfold D147_0 inR
  have hk : okP n s := by rw [hs]; exact hpn
  have fr : ∀ J9, (∀ o k, (o ≠ 237 ∨ k ≠ 17) → (o ≠ 245 ∨ k < 7 * i ∨ 7 * i + 7 ≤ k) → J9 o k = J o k) → NT T n J9 := fun J9 f => NT_fr hT (f 237 16 (by omega) (by omega)) (fun k => f 244 k (by omega) (by omega))
  have okn : ∀ {s' : PS} {p' : Nat}, okP n s' → s' = .inr p' → p' ≤ n := fun {s'} {p'} a b => by rw [b] at a; exact a
  have last : ∀ (p9 : Nat) (J9 : IM), odS T n s = .inr p9 → (∀ o k, (o ≠ 237 ∨ k ≠ 17) → (o ≠ 245 ∨ k < 7 * i ∨ 7 * i + 7 ≤ k) → J9 o k = J o k) → J9 237 17 = (p9 : Int) → (∀ w, w < 7 → J9 245 (7 * i + w) = odV T n s w) → D147_180 x1 J9 K := by
    intro p9 J9 e f pp vv
    have hT9 := fr J9 f
    have pn := okn (od11_ok hk) e
    unfold D147_180
    rw [pp, hT9.1]
    split
    · exact h1 p9 e (Or.inl (by omega)) J9 f pp vv
    · refine n_here hB hT9 pp ⟨_, rfl, ?_⟩
      split
      · exact h1 p9 e (Or.inr (by assumption)) J9 f pp vv
      · exact h0 p9 (Or.inr ⟨e, by omega, by assumption⟩) J9 f pp
  have tail : ∀ (p9 : Nat) (J9 : IM), (od10 T n s).1 = .inr p9 → (∀ o k, (o ≠ 237 ∨ k ≠ 17) → (o ≠ 245 ∨ k < 7 * i ∨ 7 * i + 7 ≤ k) → J9 o k = J o k) → J9 237 17 = (p9 : Int) → (∀ w, w < 6 → J9 245 (7 * i + w) = odV T n s w) → J9 245 (7 * i + 6) = 0 → D147_155 x1 J9 K := by
    intro p9 J9 e f pp vv v6
    have hT9 := fr J9 f
    have pn := okn (od10_ok hk) e
    unfold D147_155 inR
    refine n_sign hB hT9 pp pn (fun y J8 f8 pp8 => ⟨_, rfl, ?_⟩) (fun y => ⟨_, rfl, ?_⟩)
    · rw [if_neg (by decide)]
      have e11 : od11 T n s = nmC T n 3 0 50 (.inr (p9 + 1)) := by
        unfold od11 ldC
        rw [e]
        dsimp only
        rw [if_pos y]
      have f9 : ∀ o k, (o ≠ 237 ∨ k ≠ 17) → (o ≠ 245 ∨ k < 7 * i ∨ 7 * i + 7 ≤ k) → J8 o k = J o k := fun o k a b => (f8 o k a).trans (f o k a b)
      have pn1 : p9 + 1 ≤ n := rd_in (T := T) (n := n) (p := p9) (by omega)
      refine ⟨by omega, n_numAt (z := 7 * i + 6) (by omega) (by omega) hB (fr J8 f9) pp8 pn1 (fun p' v e' J7 f7 pp7 v7 => ⟨_, rfl, ?_⟩) (fun e' J7 f7 pp7 => ⟨_, rfl, ?_⟩)⟩
      · rw [if_neg (by decide)]
        refine last p' J7 (by show (od11 T n s).1 = _; rw [e11, e']) (fun o k a b => (f7 o k a (by omega)).trans (f9 o k a b)) pp7 (fun w hw => ?_)
        by_cases c : w = 6
        · rw [c, v7]; show v = (od11 T n s).2; rw [e11, e']
        · rw [f7 _ _ (by omega) (by omega), f8 _ _ (by omega)]; exact vv w (by omega)
      · rw [if_pos rfl]
        exact h0 (p9 + 1) (Or.inl (by show (od11 T n s).1 = _; rw [e11, e'])) J7 (fun o k a b => (f7 o k a (by omega)).trans (f9 o k a b)) pp7
    · rw [if_pos rfl]
      have e11 : od11 T n s = (.inr p9, 0) := by
        unfold od11 ldC
        rw [e]
        dsimp only
        rw [if_neg y]
      refine last p9 J9 (by show (od11 T n s).1 = _; rw [e11]) f pp (fun w hw => ?_)
      by_cases c : w = 6
      · rw [c, v6]; show (0 : Int) = (od11 T n s).2; rw [e11]
      · exact vv w (by omega)
  have f0 : ∀ o k, (o ≠ 237 ∨ k ≠ 17) → (o ≠ 245 ∨ k < 7 * i ∨ 7 * i + 7 ≤ k) → J o k = J o k := fun _ _ _ _ => rfl
  have e0 : s = .inr p := hs
  refine n_numAt (z := 7 * i + 0) (by omega) (by omega) hB (fr J f0) hp hpn (fun p1 u1 y1 J1 g1 q1 v0 => ⟨_, rfl, ?_⟩) (fun y1 J1 g1 q1 => ⟨_, rfl, ?_⟩)
  rotate_left
  · rw [if_pos rfl]
    exact h0 _ (Or.inl (od1_l (by unfold od1; rw [e0]; exact y1))) J1 (fun o k a b => (g1 o k a (by omega)).trans (f0 o k a b)) q1
  rw [if_neg (by decide)]
  have d1 : od1 T n s = (.inr p1, u1) := by unfold od1; rw [e0]; exact y1
  have e1 : (od1 T n s).1 = .inr p1 := by rw [d1]
  have f1 : (∀ o k, (o ≠ 237 ∨ k ≠ 17) → (o ≠ 245 ∨ k < 7 * i ∨ 7 * i + 7 ≤ k) → J1 o k = J o k) := fun o k a b => (g1 o k a (by omega)).trans (f0 o k a b)
  replace v0 : J1 245 (7 * i + 0) = odV T n s 0 := by rw [v0]; show u1 = (od1 T n s).2; rw [d1]
  have n1 := okn (od1_ok hk) e1
  refine n_sign hB (fr J1 f1) q1 n1 (fun y2 J2 g2 q2 => ⟨_, rfl, ?_⟩) (fun y2 => ⟨_, rfl, ?_⟩)
  rotate_left
  · rw [if_pos rfl]
    exact h0 _ (Or.inl (od2_l (by unfold od2 sgC; rw [e1]; dsimp only; rw [if_neg y2]))) J1 f1 q1
  rw [if_neg (by decide)]
  have e2 : od2 T n s = .inr (p1 + 1) := by unfold od2 sgC; rw [e1]; dsimp only; rw [if_pos y2]
  have f2 : (∀ o k, (o ≠ 237 ∨ k ≠ 17) → (o ≠ 245 ∨ k < 7 * i ∨ 7 * i + 7 ≤ k) → J2 o k = J o k) := fun o k a b => (g2 o k a).trans (f1 o k a b)
  replace v0 : J2 245 (7 * i + 0) = odV T n s 0 := (g2 _ _ (by omega)).trans v0
  have n2 := okn (od2_ok hk) e2
  refine ⟨by omega, ?_⟩
  refine n_numAt (z := 7 * i + 1) (by omega) (by omega) hB (fr J2 f2) q2 n2 (fun p3 u3 y3 J3 g3 q3 v1 => ⟨_, rfl, ?_⟩) (fun y3 J3 g3 q3 => ⟨_, rfl, ?_⟩)
  rotate_left
  · rw [if_pos rfl]
    exact h0 _ (Or.inl (od3_l (by unfold od3; rw [e2]; exact y3))) J3 (fun o k a b => (g3 o k a (by omega)).trans (f2 o k a b)) q3
  rw [if_neg (by decide)]
  have d3 : od3 T n s = (.inr p3, u3) := by unfold od3; rw [e2]; exact y3
  have e3 : (od3 T n s).1 = .inr p3 := by rw [d3]
  have f3 : (∀ o k, (o ≠ 237 ∨ k ≠ 17) → (o ≠ 245 ∨ k < 7 * i ∨ 7 * i + 7 ≤ k) → J3 o k = J o k) := fun o k a b => (g3 o k a (by omega)).trans (f2 o k a b)
  replace v0 : J3 245 (7 * i + 0) = odV T n s 0 := (g3 _ _ (by omega) (by omega)).trans v0
  replace v1 : J3 245 (7 * i + 1) = odV T n s 1 := by rw [v1]; show u3 = (od3 T n s).2; rw [d3]
  have n3 := okn (od3_ok hk) e3
  refine n_sign hB (fr J3 f3) q3 n3 (fun y4 J4 g4 q4 => ⟨_, rfl, ?_⟩) (fun y4 => ⟨_, rfl, ?_⟩)
  rotate_left
  · rw [if_pos rfl]
    exact h0 _ (Or.inl (od4_l (by unfold od4 sgC; rw [e3]; dsimp only; rw [if_neg y4]))) J3 f3 q3
  rw [if_neg (by decide)]
  have e4 : od4 T n s = .inr (p3 + 1) := by unfold od4 sgC; rw [e3]; dsimp only; rw [if_pos y4]
  have f4 : (∀ o k, (o ≠ 237 ∨ k ≠ 17) → (o ≠ 245 ∨ k < 7 * i ∨ 7 * i + 7 ≤ k) → J4 o k = J o k) := fun o k a b => (g4 o k a).trans (f3 o k a b)
  replace v0 : J4 245 (7 * i + 0) = odV T n s 0 := (g4 _ _ (by omega)).trans v0
  replace v1 : J4 245 (7 * i + 1) = odV T n s 1 := (g4 _ _ (by omega)).trans v1
  have n4 := okn (od4_ok hk) e4
  refine ⟨by omega, ?_⟩
  refine n_numAt (z := 7 * i + 2) (by omega) (by omega) hB (fr J4 f4) q4 n4 (fun p5 u5 y5 J5 g5 q5 v2 => ⟨_, rfl, ?_⟩) (fun y5 J5 g5 q5 => ⟨_, rfl, ?_⟩)
  rotate_left
  · rw [if_pos rfl]
    exact h0 _ (Or.inl (od5_l (by unfold od5; rw [e4]; exact y5))) J5 (fun o k a b => (g5 o k a (by omega)).trans (f4 o k a b)) q5
  rw [if_neg (by decide)]
  have d5 : od5 T n s = (.inr p5, u5) := by unfold od5; rw [e4]; exact y5
  have e5 : (od5 T n s).1 = .inr p5 := by rw [d5]
  have f5 : (∀ o k, (o ≠ 237 ∨ k ≠ 17) → (o ≠ 245 ∨ k < 7 * i ∨ 7 * i + 7 ≤ k) → J5 o k = J o k) := fun o k a b => (g5 o k a (by omega)).trans (f4 o k a b)
  replace v0 : J5 245 (7 * i + 0) = odV T n s 0 := (g5 _ _ (by omega) (by omega)).trans v0
  replace v1 : J5 245 (7 * i + 1) = odV T n s 1 := (g5 _ _ (by omega) (by omega)).trans v1
  replace v2 : J5 245 (7 * i + 2) = odV T n s 2 := by rw [v2]; show u5 = (od5 T n s).2; rw [d5]
  have n5 := okn (od5_ok hk) e5
  refine n_sign hB (fr J5 f5) q5 n5 (fun y6 J6 g6 q6 => ⟨_, rfl, ?_⟩) (fun y6 => ⟨_, rfl, ?_⟩)
  rotate_left
  · rw [if_pos rfl]
    exact h0 _ (Or.inl (od6_l (by unfold od6 sgC; rw [e5]; dsimp only; rw [if_neg y6]))) J5 f5 q5
  rw [if_neg (by decide)]
  have e6 : od6 T n s = .inr (p5 + 1) := by unfold od6 sgC; rw [e5]; dsimp only; rw [if_pos y6]
  have f6 : (∀ o k, (o ≠ 237 ∨ k ≠ 17) → (o ≠ 245 ∨ k < 7 * i ∨ 7 * i + 7 ≤ k) → J6 o k = J o k) := fun o k a b => (g6 o k a).trans (f5 o k a b)
  replace v0 : J6 245 (7 * i + 0) = odV T n s 0 := (g6 _ _ (by omega)).trans v0
  replace v1 : J6 245 (7 * i + 1) = odV T n s 1 := (g6 _ _ (by omega)).trans v1
  replace v2 : J6 245 (7 * i + 2) = odV T n s 2 := (g6 _ _ (by omega)).trans v2
  have n6 := okn (od6_ok hk) e6
  refine ⟨by omega, by omega, ?_⟩
  rw [show (x1 + 2).toNat = 7 * i + 2 by omega, v2]
  refine n_numAt (z := 7 * i + 3) (by omega) (by omega) hB (fr J6 f6) q6 n6 (fun p7 u7 y7 J7 g7 q7 v3 => ⟨_, rfl, ?_⟩) (fun y7 J7 g7 q7 => ⟨_, rfl, ?_⟩)
  rotate_left
  · rw [if_pos rfl]
    exact h0 _ (Or.inl (od7_l (by unfold od7; rw [e6]; exact y7))) J7 (fun o k a b => (g7 o k a (by omega)).trans (f6 o k a b)) q7
  rw [if_neg (by decide)]
  have d7 : od7 T n s = (.inr p7, u7) := by unfold od7; rw [e6]; exact y7
  have e7 : (od7 T n s).1 = .inr p7 := by rw [d7]
  have f7 : (∀ o k, (o ≠ 237 ∨ k ≠ 17) → (o ≠ 245 ∨ k < 7 * i ∨ 7 * i + 7 ≤ k) → J7 o k = J o k) := fun o k a b => (g7 o k a (by omega)).trans (f6 o k a b)
  replace v0 : J7 245 (7 * i + 0) = odV T n s 0 := (g7 _ _ (by omega) (by omega)).trans v0
  replace v1 : J7 245 (7 * i + 1) = odV T n s 1 := (g7 _ _ (by omega) (by omega)).trans v1
  replace v2 : J7 245 (7 * i + 2) = odV T n s 2 := (g7 _ _ (by omega) (by omega)).trans v2
  replace v3 : J7 245 (7 * i + 3) = odV T n s 3 := by rw [v3]; show u7 = (od7 T n s).2; rw [d7]
  have n7 := okn (od7_ok hk) e7
  refine n_sign hB (fr J7 f7) q7 n7 (fun y8 J8 g8 q8 => ⟨_, rfl, ?_⟩) (fun y8 => ⟨_, rfl, ?_⟩)
  rotate_left
  · rw [if_pos rfl]
    exact h0 _ (Or.inl (od8_l (by unfold od8 sgC; rw [e7]; dsimp only; rw [if_neg y8]))) J7 f7 q7
  rw [if_neg (by decide)]
  have e8 : od8 T n s = .inr (p7 + 1) := by unfold od8 sgC; rw [e7]; dsimp only; rw [if_pos y8]
  have f8 : (∀ o k, (o ≠ 237 ∨ k ≠ 17) → (o ≠ 245 ∨ k < 7 * i ∨ 7 * i + 7 ≤ k) → J8 o k = J o k) := fun o k a b => (g8 o k a).trans (f7 o k a b)
  replace v0 : J8 245 (7 * i + 0) = odV T n s 0 := (g8 _ _ (by omega)).trans v0
  replace v1 : J8 245 (7 * i + 1) = odV T n s 1 := (g8 _ _ (by omega)).trans v1
  replace v2 : J8 245 (7 * i + 2) = odV T n s 2 := (g8 _ _ (by omega)).trans v2
  replace v3 : J8 245 (7 * i + 3) = odV T n s 3 := (g8 _ _ (by omega)).trans v3
  have n8 := okn (od8_ok hk) e8
  refine ⟨by omega, ?_⟩
  refine n_numAt (z := 7 * i + 4) (by omega) (by omega) hB (fr J8 f8) q8 n8 (fun p9 u9 y9 J9 g9 q9 v4 => ⟨_, rfl, ?_⟩) (fun y9 J9 g9 q9 => ⟨_, rfl, ?_⟩)
  rotate_left
  · rw [if_pos rfl]
    exact h0 _ (Or.inl (od9_l (by unfold od9; rw [e8]; exact y9))) J9 (fun o k a b => (g9 o k a (by omega)).trans (f8 o k a b)) q9
  rw [if_neg (by decide)]
  have d9 : od9 T n s = (.inr p9, u9) := by unfold od9; rw [e8]; exact y9
  have e9 : (od9 T n s).1 = .inr p9 := by rw [d9]
  have f9 : (∀ o k, (o ≠ 237 ∨ k ≠ 17) → (o ≠ 245 ∨ k < 7 * i ∨ 7 * i + 7 ≤ k) → J9 o k = J o k) := fun o k a b => (g9 o k a (by omega)).trans (f8 o k a b)
  replace v0 : J9 245 (7 * i + 0) = odV T n s 0 := (g9 _ _ (by omega) (by omega)).trans v0
  replace v1 : J9 245 (7 * i + 1) = odV T n s 1 := (g9 _ _ (by omega) (by omega)).trans v1
  replace v2 : J9 245 (7 * i + 2) = odV T n s 2 := (g9 _ _ (by omega) (by omega)).trans v2
  replace v3 : J9 245 (7 * i + 3) = odV T n s 3 := (g9 _ _ (by omega) (by omega)).trans v3
  replace v4 : J9 245 (7 * i + 4) = odV T n s 4 := by rw [v4]; show u9 = (od9 T n s).2; rw [d9]
  have n9 := okn (od9_ok hk) e9
  refine ⟨by omega, by omega, fun I35 e35 => ⟨by omega, by omega, fun I38 e38 => ?_⟩⟩
  rw [show (x1 + 5).toNat = 7 * i + 5 by omega] at e35
  rw [show (x1 + 6).toNat = 7 * i + 6 by omega] at e38
  have g38 : ∀ o k, (o ≠ 245 ∨ (k ≠ 7 * i + 5 ∧ k ≠ 7 * i + 6)) → I38 o k = J9 o k := fun o k a => by rw [e38, e35, iup_ne (by omega), iup_ne (by omega)]
  have f38 : (∀ o k, (o ≠ 237 ∨ k ≠ 17) → (o ≠ 245 ∨ k < 7 * i ∨ 7 * i + 7 ≤ k) → I38 o k = J o k) := fun o k a b => (g38 o k (by omega)).trans (f9 o k a b)
  have pp38 : I38 237 17 = (p9 : Int) := (g38 _ _ (by omega)).trans q9
  have v6 : I38 245 (7 * i + 6) = 0 := by rw [e38, iup_same]
  have v5 : I38 245 (7 * i + 5) = 0 := by rw [e38, iup_ne (by omega), e35, iup_same]
  have vs : ∀ w, w < 5 → I38 245 (7 * i + w) = odV T n s w := fun w hw => by
    rw [g38 _ _ (by omega)]
    rcases (show w = 0 ∨ w = 1 ∨ w = 2 ∨ w = 3 ∨ w = 4 by omega) with e | e | e | e | e <;> subst e
    · exact v0
    · exact v1
    · exact v2
    · exact v3
    · exact v4
  refine n_sign hB (fr I38 f38) pp38 n9 (fun y J10 g10 q10 => ⟨_, rfl, ?_⟩) (fun y => ⟨_, rfl, ?_⟩)
  · rw [if_neg (by decide)]
    have d10 : od10 T n s = nmC T n 3 0 50 (.inr (p9 + 1)) := by
      unfold od10 ldC
      rw [e9]
      dsimp only
      rw [if_pos y]
    have pn1 : p9 + 1 ≤ n := rd_in (T := T) (n := n) (p := p9) (by omega)
    have f10 : (∀ o k, (o ≠ 237 ∨ k ≠ 17) → (o ≠ 245 ∨ k < 7 * i ∨ 7 * i + 7 ≤ k) → J10 o k = J o k) := fun o k a b => (g10 o k a).trans (f38 o k a b)
    refine n_numAt (z := 7 * i + 5) (by omega) (by omega) hB (fr J10 f10) q10 pn1 (fun p' v e' J7 f7 pp7 v7 => ⟨_, rfl, ?_⟩) (fun e' J7 f7 pp7 => ⟨_, rfl, ?_⟩)
    · rw [if_neg (by decide)]
      refine tail p' J7 (by rw [d10, e']) (fun o k a b => (f7 o k a (by omega)).trans (f10 o k a b)) pp7 (fun w hw => ?_) (by rw [f7 _ _ (by omega) (by omega), g10 _ _ (by omega)]; exact v6)
      by_cases c : w = 5
      · rw [c, v7]; show v = (od10 T n s).2; rw [d10, e']
      · rw [f7 _ _ (by omega) (by omega), g10 _ _ (by omega)]; exact vs w (by omega)
    · rw [if_pos rfl]
      exact h0 (p9 + 1) (Or.inl (od10_l (by rw [d10, e']))) J7 (fun o k a b => (f7 o k a (by omega)).trans (f10 o k a b)) pp7
  · rw [if_pos rfl]
    have d10 : od10 T n s = (.inr p9, 0) := by
      unfold od10 ldC
      rw [e9]
      dsimp only
      rw [if_neg y]
    refine tail p9 I38 (by rw [d10]) f38 pp38 (fun w hw => ?_) v6
    by_cases c : w = 5
    · rw [c, v5]; show (0 : Int) = (od10 T n s).2; rw [d10]
    · exact vs w (by omega)
