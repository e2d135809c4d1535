/-! level 2: texts: reading -/
def rdT (T : Nat → Int) (n p : Nat) : Int := if p < n then T p else -1
def TB (T : Nat → Int) (n : Nat) : Prop := n ≤ 160 ∧ ∀ k, k < n → 1 ≤ T k ∧ T k ≤ 127
def CTp (T : Nat → Int) (n : Nat) (J : IM) : Prop := J 208 1 = (n : Int) ∧ ∀ k, k < n → J 209 k = T k
def NT (T : Nat → Int) (n : Nat) (J : IM) : Prop := J 237 16 = (n : Int) ∧ ∀ k, k < n → J 244 k = T k
theorem rd_b {T : Nat → Int} {n p : Nat} (h : TB T n) : -1 ≤ rdT T n p ∧ rdT T n p ≤ 127 := by
  unfold rdT
  split
  · have := h.2 p (by assumption); omega
  · omega
theorem rd_in {T : Nat → Int} {n p : Nat} (h : 0 ≤ rdT T n p) : p < n := by
  unfold rdT at h
  split at h
  · assumption
  · omega
def dgF (T : Nat → Int) (n : Nat) : Nat → Nat → Int → Nat × Int
  | 0, p, v => (p, v)
  | f + 1, p, v => if 48 ≤ rdT T n p ∧ rdT T n p ≤ 57 then dgF T n f (p + 1) (v * 10 + rdT T n p - 48) else (p, v)
theorem dgF_s {T : Nat → Int} {n f p : Nat} {v : Int} : dgF T n (f + 1) p v = if 48 ≤ rdT T n p ∧ rdT T n p ≤ 57 then dgF T n f (p + 1) (v * 10 + rdT T n p - 48) else (p, v) := rfl
def vbd : Nat → Int
  | 0 => 999
  | 1 => 99
  | 2 => 9
  | _ => 0
theorem vbd_s {v c : Int} : ∀ {g : Nat}, g ≤ 2 → 0 ≤ v → v ≤ vbd (g + 1) → 48 ≤ c → c ≤ 57 → v * 10 + c - 48 ≤ vbd g
  | 0, _, _, h2, _, _ => by
    have h3 : v ≤ 99 := h2
    show v * 10 + c - 48 ≤ 999
    omega
  | 1, _, _, h2, _, _ => by
    have h3 : v ≤ 9 := h2
    show v * 10 + c - 48 ≤ 99
    omega
  | 2, _, _, h2, _, _ => by
    have h3 : v ≤ 0 := h2
    show v * 10 + c - 48 ≤ 9
    omega
  | g + 3, h, _, _, _, _ => absurd h (by omega)
theorem vbd_9 : ∀ f, 0 ≤ vbd f ∧ vbd f ≤ 999
  | 0 => by decide
  | 1 => by decide
  | 2 => by decide
  | _ + 3 => by show (0 : Int) ≤ 0 ∧ (0 : Int) ≤ 999; omega
theorem dg_b {T : Nat → Int} {n : Nat} : ∀ f p v, f ≤ 3 → p ≤ n → 0 ≤ v → v ≤ vbd f → p ≤ (dgF T n f p v).1 ∧ (dgF T n f p v).1 ≤ n ∧ (dgF T n f p v).1 ≤ p + f ∧ 0 ≤ (dgF T n f p v).2 ∧ (dgF T n f p v).2 ≤ 999
  | 0, p, v, _, hp, h1, h2 => by
    unfold dgF
    exact ⟨Nat.le_refl _, hp, Nat.le_refl _, h1, h2⟩
  | f + 1, p, v, hf, hp, h1, h2 => by
    rw [dgF_s]
    split
    · rename_i c
      have pn := rd_in (T := T) (n := n) (p := p) (by omega)
      have ih := dg_b (T := T) (n := n) f (p + 1) (v * 10 + rdT T n p - 48) (by omega) (by omega) (by omega) (vbd_s (by omega) h1 h2 c.1 c.2)
      omega
    · exact ⟨Nat.le_refl _, hp, by omega, h1, Int.le_trans h2 (vbd_9 _).2⟩
abbrev PS : Type := Nat ⊕ Nat
def nmC (T : Nat → Int) (n f : Nat) (lo hi : Int) (s : PS) : PS × Int := match s with
  | .inl q => (.inl q, 0)
  | .inr p => if (dgF T n f p 0).1 ≠ p ∧ lo ≤ (dgF T n f p 0).2 ∧ (dgF T n f p 0).2 ≤ hi then (.inr (dgF T n f p 0).1, (dgF T n f p 0).2) else (.inl p, (dgF T n f p 0).2)
def sgC (T : Nat → Int) (n : Nat) (c : Int) (s : PS) : PS := match s with
  | .inl q => .inl q
  | .inr p => if rdT T n p = c then .inr (p + 1) else .inl p
def ldC (T : Nat → Int) (n : Nat) (c : Int) (s : PS) : PS × Int := match s with
  | .inl q => (.inl q, 0)
  | .inr p => if rdT T n p = c then nmC T n 3 0 50 (.inr (p + 1)) else (.inr p, 0)
/-- how far a state may be -/
def okP (n : Nat) (s : PS) : Prop := match s with
  | .inl q => q ≤ n
  | .inr p => p ≤ n
theorem nm_ok {T : Nat → Int} {n f : Nat} {lo hi : Int} {s : PS} (hf : f ≤ 3) (h : okP n s) : okP n (nmC T n f lo hi s).1 ∧ 0 ≤ (nmC T n f lo hi s).2 ∧ (nmC T n f lo hi s).2 ≤ 999 := by
  cases s with
  | inl q => exact ⟨h, by show (0 : Int) ≤ 0; omega, by show (0 : Int) ≤ 999; omega⟩
  | inr p =>
    have b := dg_b (T := T) (n := n) f p 0 hf h (Int.le_refl _) (vbd_9 _).1
    unfold nmC
    dsimp only
    split
    · exact ⟨b.2.1, b.2.2.2.1, b.2.2.2.2⟩
    · exact ⟨h, b.2.2.2.1, b.2.2.2.2⟩
theorem sg_ok {T : Nat → Int} {n : Nat} {c : Int} {s : PS} (hc : 0 ≤ c) (h : okP n s) : okP n (sgC T n c s) := by
  cases s with
  | inl q => exact h
  | inr p =>
    unfold sgC
    dsimp only
    split
    · rename_i e
      have := rd_in (T := T) (n := n) (p := p) (by omega)
      exact this
    · exact h
theorem ld_ok {T : Nat → Int} {n : Nat} {c : Int} {s : PS} (hc : 0 ≤ c) (h : okP n s) : okP n (ldC T n c s).1 ∧ 0 ≤ (ldC T n c s).2 ∧ (ldC T n c s).2 ≤ 999 := by
  cases s with
  | inl q => exact ⟨h, by show (0 : Int) ≤ 0; omega, by show (0 : Int) ≤ 999; omega⟩
  | inr p =>
    unfold ldC
    dsimp only
    split
    · rename_i e
      have := rd_in (T := T) (n := n) (p := p) (by omega)
      exact nm_ok (by omega) (s := .inr (p + 1)) this
    · exact ⟨h, by show (0 : Int) ≤ 0; omega, by show (0 : Int) ≤ 999; omega⟩
/-- what goes on has grown and is as told -/
theorem nm_inr {T : Nat → Int} {n f p' : Nat} {lo hi : Int} {s : PS} (hf : f ≤ 3) (h : okP n s) (e : (nmC T n f lo hi s).1 = .inr p') : ∃ p, s = .inr p ∧ p + 1 ≤ p' ∧ p' ≤ n ∧ lo ≤ (nmC T n f lo hi s).2 ∧ (nmC T n f lo hi s).2 ≤ hi := by
  cases s with
  | inl q => cases e
  | inr p =>
    have b := dg_b (T := T) (n := n) f p 0 hf h (Int.le_refl _) (vbd_9 _).1
    refine ⟨p, rfl, ?_⟩
    unfold nmC at e ⊢
    dsimp only at e ⊢
    split at e
    · rename_i c
      rw [if_pos c]
      have := Sum.inr.inj e
      exact ⟨by omega, by omega, c.2⟩
    · cases e
theorem sg_inr {T : Nat → Int} {n p' : Nat} {c : Int} {s : PS} (e : sgC T n c s = .inr p') : ∃ p, s = .inr p ∧ p' = p + 1 ∧ rdT T n p = c := by
  cases s with
  | inl q => cases e
  | inr p =>
    unfold sgC at e
    dsimp only at e
    split at e
    · rename_i y
      exact ⟨p, rfl, (Sum.inr.inj e).symm, y⟩
    · cases e
theorem ld_inr {T : Nat → Int} {n p' : Nat} {c : Int} {s : PS} (hc : 0 ≤ c) (h : okP n s) (e : (ldC T n c s).1 = .inr p') : ∃ p, s = .inr p ∧ p ≤ p' ∧ p' ≤ n ∧ 0 ≤ (ldC T n c s).2 ∧ (ldC T n c s).2 ≤ 50 := by
  cases s with
  | inl q => cases e
  | inr p =>
    refine ⟨p, rfl, ?_⟩
    unfold ldC at e ⊢
    dsimp only at e ⊢
    split at e
    · rename_i y
      rw [if_pos y]
      have pn := rd_in (T := T) (n := n) (p := p) (by omega)
      obtain ⟨p2, a, b, c', d⟩ := nm_inr (by omega) (s := .inr (p + 1)) pn e
      have := Sum.inr.inj a
      exact ⟨by omega, c', d⟩
    · rename_i y
      rw [if_neg y]
      have := Sum.inr.inj e
      exact ⟨by omega, by have : p ≤ n := h; omega, by show (0 : Int) ≤ 0; omega, by show (0 : Int) ≤ 50; omega⟩
/-! the class reads -/
def RD (s : PS) (J : IM) : Prop := match s with
  | .inl q => J 212 2 = (q : Int)
  | .inr p => J 212 1 = (p : Int) ∧ J 212 2 = -1
def FR (I J : IM) : Prop := ∀ p j, (p ≠ 212 ∨ (j ≠ 1 ∧ j ≠ 2)) → J p j = I p j
theorem FR_refl {I : IM} : FR I I := fun _ _ _ => rfl
theorem FR_trans {I J L : IM} (h : FR I J) (h' : FR J L) : FR I L := fun p j a => (h' p j a).trans (h p j a)
theorem CTp_fr {T : Nat → Int} {n : Nat} {J J' : IM} (h : CTp T n J) (f : ∀ p j, p = 208 ∨ p = 209 → J' p j = J p j) : CTp T n J' := ⟨(f _ _ (Or.inl rfl)).trans h.1, fun k hk => (f _ _ (Or.inr rfl)).trans (h.2 k hk)⟩
theorem CTp_FR {T : Nat → Int} {n : Nat} {J J' : IM} (h : CTp T n J) (f : FR J J') : CTp T n J' := CTp_fr h (fun p j a => f p j (by omega))
theorem RD_fr {s : PS} {J J' : IM} (h : RD s J) (f : ∀ j, J' 212 j = J 212 j) : RD s J' := by
  cases s with
  | inl q => exact (f 2).trans h
  | inr p => exact ⟨(f 1).trans h.1, (f 2).trans h.2⟩
theorem c_at {T : Nat → Int} {n p : Nat} {J : IM} {K : Option AV → IM → Prop} (hB : TB T n) (hT : CTp T n J) (h : K (some (vI (rdT T n p))) J) : CALL S0 34 [vR 208, vI (p : Int)] J K := by
  refine e34 (Or.inl rfl) ?_
  unfold D34_0
  unfold rdT at h
  have h160 := hB.1
  rw [if_neg (by omega), hT.1, Int.toNat_natCast, show (208 + 1 : Nat) = 209 from rfl, show txn 208 = 160 from rfl]
  split
  · rw [if_neg (by omega)] at h; exact h
  · rw [if_pos (by omega)] at h
    rw [hT.2 p (by omega)]
    exact ⟨by omega, h⟩
theorem c_fail {q : Nat} {J : IM} {K : Option AV → IM → Prop} (h : (J 212 2 = -1 → ∀ J', FR J J' → J' 212 2 = (q : Int) → K none J') ∧ (¬ J 212 2 = -1 → K none J)) : CALL S0 36 [vR 212, vI (q : Int)] J K := by
  refine e36 ?_
  unfold D36_0
  split
  · rename_i c
    exact fun I2 e2 => h.1 c I2 (fun p j a => by rw [e2, iup_ne (by omega)]) (by rw [e2, iup_same])
  · rename_i c
    exact h.2 c
def seV (T : Nat → Int) (n : Nat) (c : Int) (s : PS) : Int := match s with
  | .inl _ => 0
  | .inr p => b2i (rdT T n p = c)
theorem c_sees {T : Nat → Int} {n : Nat} {c : Int} {s : PS} {J : IM} {K : Option AV → IM → Prop} (hB : TB T n) (hT : CTp T n J) (hs : RD s J) (h : K (some (vI (seV T n c s))) J) : CALL S0 38 [vR 212, vI c] J K := by
  refine e38 ?_
  unfold D38_0
  cases s with
  | inl q =>
    have : J 212 2 = (q : Int) := hs
    rw [if_neg (by omega)]
    exact h
  | inr p =>
    obtain ⟨h1, h2⟩ := hs
    rw [if_pos h2, h1]
    refine c_at hB hT ⟨_, rfl, ?_⟩
    rw [show seV T n c (.inr p) = b2i (rdT T n p = c) from rfl] at h
    split
    · rename_i y; rw [b2i_t y] at h; exact h
    · rename_i y; rw [b2i_f y] at h; exact h
theorem c_pass {T : Nat → Int} {n : Nat} {c : Int} {s : PS} {J : IM} {K : Option AV → IM → Prop} (hB : TB T n) (hT : CTp T n J) (hs : RD s J) (ho : okP n s) (h : ∀ J', FR J J' → RD (sgC T n c s) J' → K none J') : CALL S0 37 [vR 212, vI c] J K := by
  refine e37 ?_
  unfold D37_0
  have h160 := hB.1
  refine c_sees hB hT hs ⟨_, rfl, ?_⟩
  cases s with
  | inl q =>
    have hq : J 212 2 = (q : Int) := hs
    rw [show seV T n c (.inl q) = 0 from rfl, if_pos rfl]
    refine e36 ?_
    unfold D36_0
    rw [if_neg (by omega)]
    exact ⟨rfl, h J FR_refl hq⟩
  | inr p =>
    obtain ⟨h1, h2⟩ := hs
    have hp : p ≤ n := ho
    unfold sgC at h
    dsimp only at h
    rw [show seV T n c (.inr p) = b2i (rdT T n p = c) from rfl]
    by_cases y : rdT T n p = c
    · rw [if_pos y] at h
      rw [b2i_t y, if_neg (by decide), h1]
      exact ⟨by unfold inR; omega, fun I6 e6 => h I6 (fun p j a => by rw [e6, iup_ne (by omega)]) ⟨by rw [e6, iup_same]; omega, by rw [e6, iup_ne (Or.inr (by decide))]; exact h2⟩⟩
    · rw [if_neg y] at h
      rw [b2i_f y, if_pos rfl, h1]
      exact c_fail ⟨fun _ J' f e => ⟨rfl, h J' f e⟩, fun z => absurd h2 z⟩
theorem c_number {T : Nat → Int} {n f : Nat} {lo hi : Int} {s : PS} {J : IM} {K : Option AV → IM → Prop} (hf : 1 ≤ f ∧ f ≤ 3) (hB : TB T n) (hT : CTp T n J) (hs : RD s J) (ho : okP n s) (h : ∀ J', FR J J' → RD (nmC T n f lo hi s).1 J' → K (some (vI (nmC T n f lo hi s).2)) J') : CALL S0 33 [vR 212, vI (f : Int), vI lo, vI hi] J K := by
  refine e33 ?_
  unfold D33_0
  have h160 := hB.1
  cases s with
  | inl q =>
    have hq : J 212 2 = (q : Int) := hs
    refine g33_12 _ _ _ _ _ _ J K ?_
    unfold D33_12
    rw [if_neg (by omega), if_neg (by omega)]
    unfold D33_81
    rw [if_pos rfl]
    unfold D33_102
    refine e36 ?_
    unfold D36_0
    rw [if_neg (by omega)]
    exact ⟨rfl, h J FR_refl hq⟩
  | inr p =>
    obtain ⟨h1, h2⟩ := hs
    have hp : p ≤ n := ho
    rw [h1]
    have fin : ∀ (p' : Nat) (v : Int) (x6 : Int) (L : IM), FR J L → L 212 1 = (p' : Int) → L 212 2 = -1 → dgF T n f p 0 = (p', v) → D33_81 (f : Int) lo hi (p : Int) v x6 L K := by
      intro p' v x6 L fL l1 l2 ed
      unfold nmC at h
      dsimp only at h
      rw [ed] at h
      dsimp only at h
      have bad : ¬ (p' ≠ p ∧ lo ≤ v ∧ v ≤ hi) → D33_102 (f : Int) lo hi (p : Int) v x6 L K := fun z => by
        rw [if_neg z] at h
        unfold D33_102
        exact c_fail ⟨fun _ J' f' e => ⟨rfl, h J' (FR_trans fL f') e⟩, fun y => absurd l2 y⟩
      unfold D33_81
      rw [l1]
      split
      · exact bad (fun z => by omega)
      · split
        · exact bad (fun z => by omega)
        · split
          · rw [if_pos ⟨by omega, by omega, by assumption⟩] at h
            exact h L fL ⟨l1, l2⟩
          · exact bad (fun z => by omega)
    have key : ∀ g i : Nat, i + g = f → ∀ (p' : Nat) (v : Int) (L : IM), FR J L → L 212 1 = (p' : Int) → L 212 2 = -1 → p' ≤ n → 0 ≤ v → v ≤ 999 → v ≤ vbd g → dgF T n f p 0 = dgF T n g p' v → GO S0 33 12 [vR 212, vI (f : Int), vI lo, vI hi, vI (p : Int), vI v, vI (i : Int)] [] L K := by
      intro g
      induction g with
      | zero =>
        intro i e p' v L fL l1 l2 hp' v0 v9 vb ed
        refine g33_12 _ _ _ _ _ _ L K ?_
        unfold D33_12
        rw [if_pos (by omega)]
        exact fin p' v _ L fL l1 l2 ed
      | succ g ih =>
        intro i e p' v L fL l1 l2 hp' v0 v9 vb ed
        refine g33_12 _ _ _ _ _ _ L K ?_
        unfold D33_12 inR
        rw [if_neg (by omega), if_pos l2, l1]
        have hTL := CTp_FR hT fL
        have rb := rd_b (p := p') hB
        refine c_at hB hTL ⟨_, rfl, e35 ?_⟩
        unfold D35_0
        rw [dgF_s] at ed
        by_cases c : 48 ≤ rdT T n p' ∧ rdT T n p' ≤ 57
        · rw [if_neg (by omega), if_neg (by omega)]
          refine ⟨_, rfl, ?_⟩
          rw [if_neg (by decide)]
          refine ⟨by omega, ?_⟩
          rw [l1]
          refine c_at hB hTL ⟨_, rfl, by omega, by omega, ?_⟩
          rw [l1]
          refine ⟨by omega, fun I14 e14 => ⟨by omega, ?_⟩⟩
          rw [if_pos c] at ed
          have pn := rd_in (T := T) (n := n) (p := p') (by omega)
          have vb1 := vbd_s (by omega) v0 vb c.1 c.2
          have vb2 := Int.le_trans vb1 (vbd_9 g).2
          have := ih (i + 1) (by omega) (p' + 1) _ I14 (FR_trans fL (fun p j a => by rw [e14, iup_ne (by omega)])) (by rw [e14, iup_same]; omega) (by rw [e14, iup_ne (Or.inr (by decide))]; exact l2) pn (by omega) vb2 vb1 ed
          rw [show ((i + 1 : Nat) : Int) = (i : Int) + 1 by omega] at this
          exact this
        · rw [if_neg c] at ed
          have fin' := fin p' v (i : Int) L fL l1 l2 ed
          by_cases c1 : rdT T n p' < 48
          · rw [if_pos c1]
            refine ⟨_, rfl, ?_⟩
            rw [if_pos rfl]
            exact fin'
          · rw [if_neg c1, if_pos (by omega)]
            refine ⟨_, rfl, ?_⟩
            rw [if_pos rfl]
            exact fin'
    exact key f 0 (Nat.zero_add _) p 0 J FR_refl h1 h2 hp (Int.le_refl _) (by omega) (vbd_9 _).1 rfl
theorem c_load {T : Nat → Int} {n : Nat} {c : Int} {s : PS} {J : IM} {K : Option AV → IM → Prop} (hc : 0 ≤ c) (hB : TB T n) (hT : CTp T n J) (hs : RD s J) (ho : okP n s) (h : ∀ J', FR J J' → RD (ldC T n c s).1 J' → K (some (vI (ldC T n c s).2)) J') : CALL S0 39 [vR 212, vI c] J K := by
  refine e39 ?_
  unfold D39_0
  have h160 := hB.1
  refine c_sees hB hT hs ⟨_, rfl, ?_⟩
  cases s with
  | inl q =>
    rw [show seV T n c (.inl q) = 0 from rfl, if_pos rfl]
    exact h J FR_refl hs
  | inr p =>
    obtain ⟨h1, h2⟩ := hs
    have hp : p ≤ n := ho
    unfold ldC at h
    dsimp only at h
    rw [show seV T n c (.inr p) = b2i (rdT T n p = c) from rfl]
    by_cases y : rdT T n p = c
    · rw [if_pos y] at h
      rw [b2i_t y, if_neg (by decide), h1]
      have pn := rd_in (T := T) (n := n) (p := p) (by omega)
      refine ⟨by unfold inR; omega, fun I5 e5 => ?_⟩
      have f5 : FR J I5 := fun p j a => by rw [e5, iup_ne (by omega)]
      exact c_number (f := 3) (s := .inr (p + 1)) (by omega) hB (CTp_FR hT f5) ⟨by rw [e5, iup_same]; omega, by rw [e5, iup_ne (Or.inr (by decide))]; exact h2⟩ pn fun J' f r => ⟨_, rfl, h J' (FR_trans f5 f) r⟩
    · rw [if_neg y] at h
      rw [b2i_f y, if_pos rfl]
      exact h J FR_refl ⟨h1, h2⟩
/-! the model reads -/
def FT (I J : IM) : Prop := ∀ o k, (o ≠ 237 ∨ k ≠ 17) → J o k = I o k
theorem FT_refl {I : IM} : FT I I := fun _ _ _ => rfl
theorem FT_trans {I J L : IM} (h : FT I J) (h' : FT J L) : FT I L := fun p j a => (h' p j a).trans (h p j a)
theorem NT_fr {T : Nat → Int} {n : Nat} {J J' : IM} (h : NT T n J) (f1 : J' 237 16 = J 237 16) (f2 : ∀ k, J' 244 k = J 244 k) : NT T n J' := ⟨f1.trans h.1, fun k hk => (f2 k).trans (h.2 k hk)⟩
theorem NT_ft {T : Nat → Int} {n : Nat} {J J' : IM} (h : NT T n J) (f : FT J J') : NT T n J' := NT_fr h (f 237 16 (by omega)) (fun k => f 244 k (by omega))
theorem n_here {T : Nat → Int} {n p : Nat} {J : IM} {K : Option AV → IM → Prop} (hB : TB T n) (hT : NT T n J) (hp : J 237 17 = (p : Int)) (h : K (some (vI (rdT T n p))) J) : CALL S0 150 [vR 237] J K := by
  refine e150 ?_
  unfold D150_0
  unfold rdT at h
  have h160 := hB.1
  rw [hp, hT.1, Int.toNat_natCast]
  split
  · rw [if_neg (by omega)] at h; exact h
  · rw [if_pos (by omega)] at h
    rw [hT.2 p (by omega)]
    exact ⟨by omega, h⟩
theorem n_sign {T : Nat → Int} {n p : Nat} {c : Int} {J : IM} {K : Option AV → IM → Prop} (hB : TB T n) (hT : NT T n J) (hp : J 237 17 = (p : Int)) (hpn : p ≤ n) (h1 : rdT T n p = c → ∀ J', FT J J' → J' 237 17 = ((p + 1 : Nat) : Int) → K (some (vI 1)) J') (h0 : ¬ rdT T n p = c → K (some (vI 0)) J) : CALL S0 151 [vR 237, vI c] J K := by
  refine e151 ?_
  unfold D151_0
  have h160 := hB.1
  refine n_here hB hT hp ⟨_, rfl, ?_⟩
  split
  · rename_i y
    rw [hp]
    exact ⟨by unfold inR; omega, fun I5 e5 => h1 y I5 (fun o k a => by rw [e5, iup_ne a]) (by rw [e5, iup_same]; omega)⟩
  · rename_i y
    exact h0 y
theorem n_number {T : Nat → Int} {n f p : Nat} {lo hi : Int} {J : IM} {K : Option AV → IM → Prop} (hf : 1 ≤ f ∧ f ≤ 3) (hB : TB T n) (hT : NT T n J) (hp : J 237 17 = (p : Int)) (hpn : p ≤ n) (h1 : ∀ p' v, nmC T n f lo hi (.inr p) = (.inr p', v) → ∀ J', FT J J' → J' 237 17 = (p' : Int) → K (some (vI v)) J') (h0 : ∀ v, nmC T n f lo hi (.inr p) = (.inl p, v) → ∀ J', FT J J' → J' 237 17 = (p : Int) → K (some (vI (-1))) J') : CALL S0 149 [vR 237, vI (f : Int), vI lo, vI hi] J K := by
  refine e149 ?_
  unfold D149_0
  have h160 := hB.1
  rw [hp]
  have fin : ∀ (p' : Nat) (v : Int) (L : IM), FT J L → L 237 17 = (p' : Int) → p ≤ p' → dgF T n f p 0 = (p', v) → D149_62 (f : Int) lo hi (p : Int) v L K := by
    intro p' v L fL l1 pp ed
    unfold nmC at h1 h0
    dsimp only at h1 h0
    rw [ed] at h1 h0
    dsimp only at h1 h0
    unfold D149_62
    rw [l1]
    split
    · rename_i c
      rw [if_neg (fun z => by omega)] at h0
      exact fun I2 e2 => h0 v rfl I2 (fun o k a => by rw [e2, iup_ne a]; exact fL o k a) (by rw [e2, iup_same])
    · rename_i c
      refine m_isIn ⟨_, rfl, ?_⟩
      by_cases y : lo ≤ v ∧ v ≤ hi
      · rw [b2i_t y, if_neg (by decide)]
        rw [if_pos ⟨by omega, y⟩] at h1
        exact h1 p' v rfl L fL l1
      · rw [b2i_f y, if_pos rfl]
        rw [if_neg (fun z => y z.2)] at h0
        exact fun I2 e2 => h0 v rfl I2 (fun o k a => by rw [e2, iup_ne a]; exact fL o k a) (by rw [e2, iup_same])
  have key : ∀ g i : Nat, i + g = f → ∀ (v : Int) (L : IM), FT J L → L 237 17 = ((p + i : Nat) : Int) → p + i ≤ n → 0 ≤ v → v ≤ 999 → v ≤ vbd g → dgF T n f p 0 = dgF T n g (p + i) v → GO S0 149 9 [vR 237, vI (f : Int), vI lo, vI hi, vI (p : Int), vI v] [] L K := by
    intro g
    induction g with
    | zero =>
      intro i e v L fL l1 hp' v0 v9 vb ed
      refine g149_9 _ _ _ _ _ L K ?_
      unfold D149_9 inR
      rw [l1, if_pos (by omega)]
      exact ⟨by omega, fin (p + i) v L fL l1 (by omega) ed⟩
    | succ g ih =>
      intro i e v L fL l1 hp' v0 v9 vb ed
      refine g149_9 _ _ _ _ _ L K ?_
      unfold D149_9 inR
      rw [l1, if_neg (by omega)]
      have hTL := NT_ft hT fL
      have rb := rd_b (p := p + i) hB
      refine ⟨by omega, n_here hB hTL l1 ⟨_, rfl, m_isIn ⟨_, rfl, ?_⟩⟩⟩
      rw [dgF_s] at ed
      by_cases c : 48 ≤ rdT T n (p + i) ∧ rdT T n (p + i) ≤ 57
      · rw [b2i_t c, if_neg (by decide)]
        refine ⟨by omega, n_here hB hTL l1 ⟨_, rfl, by omega, by omega, ?_⟩⟩
        rw [l1]
        refine ⟨by omega, fun I14 e14 => ?_⟩
        rw [if_pos c] at ed
        have pn := rd_in (T := T) (n := n) (p := p + i) (by omega)
        have vb1 := vbd_s (by omega) v0 vb c.1 c.2
        have vb2 := Int.le_trans vb1 (vbd_9 g).2
        have := ih (i + 1) (by omega) (v * 10 + rdT T n (p + i) - 48) I14 (FT_trans fL (fun o k a => by rw [e14, iup_ne a])) (by rw [e14, iup_same]; omega) (by omega) (by omega) vb2 vb1 ed
        rw [show (10 : Int) * v = v * 10 by omega]
        exact this
      · rw [b2i_f c, if_pos rfl]
        rw [if_neg c] at ed
        exact fin (p + i) v L fL l1 (by omega) ed
  exact key f 0 (Nat.zero_add _) 0 J FT_refl hp hpn (Int.le_refl _) (by omega) (vbd_9 _).1 rfl
