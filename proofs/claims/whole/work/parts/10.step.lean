/-! one step of the abstract run is one step of the machine -/
theorem sl_same {S : List AO} {o kd sz : Nat} {rf rf' : List Nat} (h : S[o]? = some (kd, sz, rf)) : sl (S.set o (kd, sz, rf')) = sl S := by
  induction S generalizing o with
  | nil => simp [sl]
  | cons q S ih =>
    cases o with
    | zero => simp at h; subst h; simp [sl]
    | succ o => simp at h; have := ih h; simp [sl] at this ⊢; omega
theorem okv_i {x : Int} {l : List AV} (h : okL (Sum.inl x :: l)) : inR x := (okL_cons.mp h).1
theorem okv_l {x : Int} {l : List AV} (h : okL (Sum.inr (Sum.inl x) :: l)) : inL x := (okL_cons.mp h).1
theorem okv_t {v : AV} {l : List AV} (h : okL (v :: l)) : okL l := (okL_cons.mp h).2
theorem ps_at {op a : Nat} {b : Int} {tb : List (Int × Nat)} {np : Nat} {ls st : List AV} {h : AH} {r : Option (Nat × List AV × List AV × AH)} {f : PF} (hf : pfs[op]? = some f) (hp : pstep op a b tb np ls st h = r) : f a b tb np ls st h = r := by
  unfold pstep at hp
  rw [hf] at hp
  exact hp
theorem put_int {X : CT} {ad : Nat → Nat} {cells slots pc : Nat} {ls st : List AV} {h : AH} {ix ci k0 wi sz o : Nat} {rf : List Nat} {x : Int} (hX : CX X) (hd : decode (m_cd (xm X)) pc = .ok (.putfield ix, 3)) (hf : ftab.lookup (m_own (xm X), ix) = some (ci, k0, wi)) (hfin : fFin ci k0 = false ∨ (m_kd (xm X) = 2 ∧ m_own (xm X) = ci)) (hk : fk ci k0 = 0 ∨ (fk ci k0 = 1 ∧ (x = 0 ∨ x = 1))) (hq : h.2[o]? = some (ci, sz, rf)) (hz : k0 < sz) (k : TT X ad cells slots (pc + 3) ls st (iup h.1 o k0 x, h.2)) : TT X ad cells slots pc ls (vI x :: vR o :: st) h := by
  have hk2 : fk ci k0 ≠ 2 := by omega
  have hs : h.2.set o (ci, sz, rf) = h.2 := by
    refine List.ext_getElem? fun j => ?_
    by_cases e : j = o
    · subst e; rw [List.getElem?_set_self (List.getElem?_eq_some_iff.mp hq).1, hq]
    · rw [List.getElem?_set_ne (fun z => e z.symm)]
  have ht : narrow (tyT ci k0) (cv ad (vI x)) = cv ad (vI x) ∧ fits (tyT ci k0) (cv ad (vI x)) = true := by
    unfold fk at hk
    generalize tyT ci k0 = ty at hk ⊢
    cases ty <;> simp at hk <;> first | exact ⟨rfl, rfl⟩ | (rcases hk with rfl | rfl <;> first | exact ⟨rfl, show fits .boolean (.int 0) = true by decide⟩ | exact ⟨rfl, show fits .boolean (.int 1) = true by decide⟩)
  refine put_any (v := vI x) (I' := iup h.1 o k0 x) (rf' := rf) hX hd hf hfin hq hz ht.1 ht.2 ?_ ?_ (fun o' k9 z => if_neg (fun y => z y.1)) (by rw [hs]; exact k)
  · unfold fval
    rw [if_neg hk2, show iup h.1 o k0 x o k0 = x from if_pos ⟨rfl, rfl⟩]
    rfl
  · intro j hj
    unfold fval
    rw [show iup h.1 o k0 x o j = h.1 o j from if_neg (fun y => hj y.2)]
theorem put_ref {X : CT} {ad : Nat → Nat} {cells slots pc : Nat} {ls st : List AV} {h : AH} {ix ci k0 wi sz o q : Nat} {rf : List Nat} (hX : CX X) (hd : decode (m_cd (xm X)) pc = .ok (.putfield ix, 3)) (hf : ftab.lookup (m_own (xm X), ix) = some (ci, k0, wi)) (hfin : fFin ci k0 = false ∨ (m_kd (xm X) = 2 ∧ m_own (xm X) = ci)) (hk : fk ci k0 = 2) (hq : h.2[o]? = some (ci, sz, rf)) (hz : k0 < sz) (hql : q < h.2.length) (hl : k0 < rf.length) (k : TT X ad cells slots (pc + 3) ls st (h.1, h.2.set o (ci, sz, rf.set k0 q))) : TT X ad cells slots pc ls (vR q :: vR o :: st) h := by
  have ht : narrow (tyT ci k0) (cv ad (vR q)) = cv ad (vR q) ∧ fits (tyT ci k0) (cv ad (vR q)) = true := by
    unfold fk at hk
    generalize tyT ci k0 = ty at hk ⊢
    cases ty <;> simp at hk <;> exact ⟨rfl, rfl⟩
  by_cases hq1 : q < 1000
  · refine put_any (v := vR q) (I' := h.1) (rf' := rf.set k0 q) hX hd hf hfin hq hz ht.1 ht.2 ?_ ?_ (fun _ _ _ => rfl) k
    · unfold fval
      rw [if_pos hk, getD_set hl, if_pos rfl]
      unfold rfo
      rw [if_neg (by omega)]
      rfl
    · intro j hj
      unfold fval
      rw [getD_set hl, if_neg hj]
  · obtain ⟨p, l, e, R, s, mm, args, below, meth, c, Q, D, tc, A, m⟩ := X
    intro L H locs hL hS
    have := hS.2.2.2.1
    omega
section STEP
variable {X : CT} {ad : Nat → Nat} {cells slots pc len op a pc' : Nat} {b : Int} {tb : List (Int × Nat)} {ls st ls' st' : List AV} {h h1 : AH}
def KK (X : CT) (ad : Nat → Nat) (cells slots pc' : Nat) (ls' st' : List AV) (h h1 : AH) : Prop := ∀ (ad' : Nat → Nat) (cells' slots' : Nat), (∀ o, (o < h.2.length ∨ h1.2.length ≤ o) → ad' o = ad o) → cells' + h.2.length = cells + h1.2.length → slots' + sl h.2 = slots + sl h1.2 → TT X ad' cells' slots' pc' ls' st' h1
theorem KK.same {pc' : Nat} {ls' st' : List AV} {h h1 : AH} (K : KK X ad cells slots pc' ls' st' h h1) (e1 : h1.2.length = h.2.length) (e2 : sl h1.2 = sl h.2) : TT X ad cells slots pc' ls' st' h1 := K ad cells slots (fun _ _ => rfl) (by rw [e1]) (by rw [e2])
theorem s_iconst {n : Int} (hX : CX X) (hr : 1 ≤ m_fr (xm X) ∧ 40 ≤ m_lo (xm X)) (hd : decode (m_cd (xm X)) pc = .ok (.iconst n, len)) (hrs : rs (xm X) pc len (.iconst n) = some (op, a, b, tb)) (hp : pstep op a b tb (pc + len) ls st h = some (pc', ls', st', h1)) (hst : okL st) (hc : cells + h1.2.length ≤ (xR X).cells + h.2.length) (hs : slots + sl h1.2 ≤ (xR X).slots + sl h.2) (K : KK X ad cells slots pc' ls' st' h h1) : TT X ad cells slots pc ls st h := by
  unfold rs at hrs
  dsimp only at hrs
  split at hrs
  case isFalse => cases hrs
  rename_i hl
  obtain ⟨rfl, hl2⟩ := hl
  cases hrs
  have hp2 := ps_at (f := p0) rfl hp
  unfold p0 at hp2
  (try dsimp only at hp2)
  (repeat' split at hp2)
  all_goals first
    | (cases hp2; done)
    | (cases hp2; exact am_iconst hX hd (K.same rfl rfl))
theorem s_bipush {n : Int} (hX : CX X) (hr : 1 ≤ m_fr (xm X) ∧ 40 ≤ m_lo (xm X)) (hd : decode (m_cd (xm X)) pc = .ok (.bipush n, len)) (hrs : rs (xm X) pc len (.bipush n) = some (op, a, b, tb)) (hp : pstep op a b tb (pc + len) ls st h = some (pc', ls', st', h1)) (hst : okL st) (hc : cells + h1.2.length ≤ (xR X).cells + h.2.length) (hs : slots + sl h1.2 ≤ (xR X).slots + sl h.2) (K : KK X ad cells slots pc' ls' st' h h1) : TT X ad cells slots pc ls st h := by
  unfold rs at hrs
  dsimp only at hrs
  split at hrs
  case isFalse => cases hrs
  rename_i hl
  obtain ⟨rfl, hl2⟩ := hl
  cases hrs
  have hp2 := ps_at (f := p0) rfl hp
  unfold p0 at hp2
  (try dsimp only at hp2)
  (repeat' split at hp2)
  all_goals first
    | (cases hp2; done)
    | (cases hp2; exact am_bipush hX hd hl2.1 hl2.2 (K.same rfl rfl))
theorem s_sipush {n : Int} (hX : CX X) (hr : 1 ≤ m_fr (xm X) ∧ 40 ≤ m_lo (xm X)) (hd : decode (m_cd (xm X)) pc = .ok (.sipush n, len)) (hrs : rs (xm X) pc len (.sipush n) = some (op, a, b, tb)) (hp : pstep op a b tb (pc + len) ls st h = some (pc', ls', st', h1)) (hst : okL st) (hc : cells + h1.2.length ≤ (xR X).cells + h.2.length) (hs : slots + sl h1.2 ≤ (xR X).slots + sl h.2) (K : KK X ad cells slots pc' ls' st' h h1) : TT X ad cells slots pc ls st h := by
  unfold rs at hrs
  dsimp only at hrs
  split at hrs
  case isFalse => cases hrs
  rename_i hl
  obtain ⟨rfl, hl2⟩ := hl
  cases hrs
  have hp2 := ps_at (f := p0) rfl hp
  unfold p0 at hp2
  (try dsimp only at hp2)
  (repeat' split at hp2)
  all_goals first
    | (cases hp2; done)
    | (cases hp2; exact am_sipush hX hd hl2.1 hl2.2 (K.same rfl rfl))
theorem s_ldc {ix : Nat} (hX : CX X) (hr : 1 ≤ m_fr (xm X) ∧ 40 ≤ m_lo (xm X)) (hd : decode (m_cd (xm X)) pc = .ok (.ldc ix, len)) (hrs : rs (xm X) pc len (.ldc ix) = some (op, a, b, tb)) (hp : pstep op a b tb (pc + len) ls st h = some (pc', ls', st', h1)) (hst : okL st) (hc : cells + h1.2.length ≤ (xR X).cells + h.2.length) (hs : slots + sl h1.2 ≤ (xR X).slots + sl h.2) (K : KK X ad cells slots pc' ls' st' h h1) : TT X ad cells slots pc ls st h := by
  unfold rs at hrs
  dsimp only at hrs
  split at hrs
  case isFalse => cases hrs
  rename_i hl
  subst hl
  split at hrs
  case h_2 => cases hrs
  rename_i q hf
  obtain ⟨v, wi⟩ := q
  cases hrs
  have hp2 := ps_at (f := p0) rfl hp
  unfold p0 at hp2
  (try dsimp only at hp2)
  (repeat' split at hp2)
  all_goals first
    | (cases hp2; done)
    | (cases hp2; exact am_ldc hX hd hf (K.same rfl rfl))
theorem s_ldcw {ix : Nat} (hX : CX X) (hr : 1 ≤ m_fr (xm X) ∧ 40 ≤ m_lo (xm X)) (hd : decode (m_cd (xm X)) pc = .ok (.ldc_w ix, len)) (hrs : rs (xm X) pc len (.ldc_w ix) = some (op, a, b, tb)) (hp : pstep op a b tb (pc + len) ls st h = some (pc', ls', st', h1)) (hst : okL st) (hc : cells + h1.2.length ≤ (xR X).cells + h.2.length) (hs : slots + sl h1.2 ≤ (xR X).slots + sl h.2) (K : KK X ad cells slots pc' ls' st' h h1) : TT X ad cells slots pc ls st h := by
  unfold rs at hrs
  dsimp only at hrs
  split at hrs
  case isFalse => cases hrs
  rename_i hl
  subst hl
  split at hrs
  case h_2 => cases hrs
  rename_i q hf
  obtain ⟨v, wi⟩ := q
  cases hrs
  have hp2 := ps_at (f := p0) rfl hp
  unfold p0 at hp2
  (try dsimp only at hp2)
  (repeat' split at hp2)
  all_goals first
    | (cases hp2; done)
    | (cases hp2; exact am_ldcw hX hd hf (K.same rfl rfl))
theorem s_ldc2 {ix : Nat} (hX : CX X) (hr : 1 ≤ m_fr (xm X) ∧ 40 ≤ m_lo (xm X)) (hd : decode (m_cd (xm X)) pc = .ok (.ldc2_w ix, len)) (hrs : rs (xm X) pc len (.ldc2_w ix) = some (op, a, b, tb)) (hp : pstep op a b tb (pc + len) ls st h = some (pc', ls', st', h1)) (hst : okL st) (hc : cells + h1.2.length ≤ (xR X).cells + h.2.length) (hs : slots + sl h1.2 ≤ (xR X).slots + sl h.2) (K : KK X ad cells slots pc' ls' st' h h1) : TT X ad cells slots pc ls st h := by
  unfold rs at hrs
  dsimp only at hrs
  split at hrs
  case isFalse => cases hrs
  rename_i hl
  subst hl
  split at hrs
  case h_2 => cases hrs
  rename_i q hf
  obtain ⟨v, wi⟩ := q
  cases hrs
  have hp2 := ps_at (f := p1) rfl hp
  unfold p1 at hp2
  (try dsimp only at hp2)
  (repeat' split at hp2)
  all_goals first
    | (cases hp2; done)
    | (cases hp2; exact am_ldc2 hX hd hf (K.same rfl rfl))
theorem s_iload_n {k : Fin 4} (hX : CX X) (hr : 1 ≤ m_fr (xm X) ∧ 40 ≤ m_lo (xm X)) (hd : decode (m_cd (xm X)) pc = .ok (.iload_n k, len)) (hrs : rs (xm X) pc len (.iload_n k) = some (op, a, b, tb)) (hp : pstep op a b tb (pc + len) ls st h = some (pc', ls', st', h1)) (hst : okL st) (hc : cells + h1.2.length ≤ (xR X).cells + h.2.length) (hs : slots + sl h1.2 ≤ (xR X).slots + sl h.2) (K : KK X ad cells slots pc' ls' st' h h1) : TT X ad cells slots pc ls st h := by
  unfold rs at hrs
  dsimp only at hrs
  split at hrs
  case isFalse => cases hrs
  rename_i hl
  subst hl
  cases hrs
  have hp2 := ps_at (f := p2) rfl hp
  unfold p2 at hp2
  (try dsimp only at hp2)
  (repeat' split at hp2)
  all_goals first
    | (cases hp2; done)
    | (cases hp2; exact am_iload_n hX hd (by assumption) (K.same rfl rfl))
theorem s_iload {k : Nat} (hX : CX X) (hr : 1 ≤ m_fr (xm X) ∧ 40 ≤ m_lo (xm X)) (hd : decode (m_cd (xm X)) pc = .ok (.iload k, len)) (hrs : rs (xm X) pc len (.iload k) = some (op, a, b, tb)) (hp : pstep op a b tb (pc + len) ls st h = some (pc', ls', st', h1)) (hst : okL st) (hc : cells + h1.2.length ≤ (xR X).cells + h.2.length) (hs : slots + sl h1.2 ≤ (xR X).slots + sl h.2) (K : KK X ad cells slots pc' ls' st' h h1) : TT X ad cells slots pc ls st h := by
  unfold rs at hrs
  dsimp only at hrs
  split at hrs
  case isFalse => cases hrs
  rename_i hl
  subst hl
  cases hrs
  have hp2 := ps_at (f := p2) rfl hp
  unfold p2 at hp2
  (try dsimp only at hp2)
  (repeat' split at hp2)
  all_goals first
    | (cases hp2; done)
    | (cases hp2; exact am_iload hX hd (by assumption) (K.same rfl rfl))
theorem s_aload_n {k : Fin 4} (hX : CX X) (hr : 1 ≤ m_fr (xm X) ∧ 40 ≤ m_lo (xm X)) (hd : decode (m_cd (xm X)) pc = .ok (.aload_n k, len)) (hrs : rs (xm X) pc len (.aload_n k) = some (op, a, b, tb)) (hp : pstep op a b tb (pc + len) ls st h = some (pc', ls', st', h1)) (hst : okL st) (hc : cells + h1.2.length ≤ (xR X).cells + h.2.length) (hs : slots + sl h1.2 ≤ (xR X).slots + sl h.2) (K : KK X ad cells slots pc' ls' st' h h1) : TT X ad cells slots pc ls st h := by
  unfold rs at hrs
  dsimp only at hrs
  split at hrs
  case isFalse => cases hrs
  rename_i hl
  subst hl
  cases hrs
  have hp2 := ps_at (f := p3) rfl hp
  unfold p3 at hp2
  (try dsimp only at hp2)
  (repeat' split at hp2)
  all_goals first
    | (cases hp2; done)
    | (cases hp2; exact am_aload_n hX hd (by assumption) (K.same rfl rfl))
theorem s_aload {k : Nat} (hX : CX X) (hr : 1 ≤ m_fr (xm X) ∧ 40 ≤ m_lo (xm X)) (hd : decode (m_cd (xm X)) pc = .ok (.aload k, len)) (hrs : rs (xm X) pc len (.aload k) = some (op, a, b, tb)) (hp : pstep op a b tb (pc + len) ls st h = some (pc', ls', st', h1)) (hst : okL st) (hc : cells + h1.2.length ≤ (xR X).cells + h.2.length) (hs : slots + sl h1.2 ≤ (xR X).slots + sl h.2) (K : KK X ad cells slots pc' ls' st' h h1) : TT X ad cells slots pc ls st h := by
  unfold rs at hrs
  dsimp only at hrs
  split at hrs
  case isFalse => cases hrs
  rename_i hl
  subst hl
  cases hrs
  have hp2 := ps_at (f := p3) rfl hp
  unfold p3 at hp2
  (try dsimp only at hp2)
  (repeat' split at hp2)
  all_goals first
    | (cases hp2; done)
    | (cases hp2; exact am_aload hX hd (by assumption) (K.same rfl rfl))
theorem s_istore_n {k : Fin 4} (hX : CX X) (hr : 1 ≤ m_fr (xm X) ∧ 40 ≤ m_lo (xm X)) (hd : decode (m_cd (xm X)) pc = .ok (.istore_n k, len)) (hrs : rs (xm X) pc len (.istore_n k) = some (op, a, b, tb)) (hp : pstep op a b tb (pc + len) ls st h = some (pc', ls', st', h1)) (hst : okL st) (hc : cells + h1.2.length ≤ (xR X).cells + h.2.length) (hs : slots + sl h1.2 ≤ (xR X).slots + sl h.2) (K : KK X ad cells slots pc' ls' st' h h1) : TT X ad cells slots pc ls st h := by
  unfold rs at hrs
  dsimp only at hrs
  split at hrs
  case isFalse => cases hrs
  rename_i hl
  subst hl
  cases hrs
  have hp2 := ps_at (f := p4) rfl hp
  unfold p4 at hp2
  (try dsimp only at hp2)
  (repeat' split at hp2)
  all_goals first
    | (cases hp2; done)
    | (cases hp2; exact am_istore_n hX hd (by assumption) (K.same rfl rfl))
theorem s_istore {k : Nat} (hX : CX X) (hr : 1 ≤ m_fr (xm X) ∧ 40 ≤ m_lo (xm X)) (hd : decode (m_cd (xm X)) pc = .ok (.istore k, len)) (hrs : rs (xm X) pc len (.istore k) = some (op, a, b, tb)) (hp : pstep op a b tb (pc + len) ls st h = some (pc', ls', st', h1)) (hst : okL st) (hc : cells + h1.2.length ≤ (xR X).cells + h.2.length) (hs : slots + sl h1.2 ≤ (xR X).slots + sl h.2) (K : KK X ad cells slots pc' ls' st' h h1) : TT X ad cells slots pc ls st h := by
  unfold rs at hrs
  dsimp only at hrs
  split at hrs
  case isFalse => cases hrs
  rename_i hl
  subst hl
  cases hrs
  have hp2 := ps_at (f := p4) rfl hp
  unfold p4 at hp2
  (try dsimp only at hp2)
  (repeat' split at hp2)
  all_goals first
    | (cases hp2; done)
    | (cases hp2; exact am_istore hX hd (by assumption) (K.same rfl rfl))
theorem s_astore_n {k : Fin 4} (hX : CX X) (hr : 1 ≤ m_fr (xm X) ∧ 40 ≤ m_lo (xm X)) (hd : decode (m_cd (xm X)) pc = .ok (.astore_n k, len)) (hrs : rs (xm X) pc len (.astore_n k) = some (op, a, b, tb)) (hp : pstep op a b tb (pc + len) ls st h = some (pc', ls', st', h1)) (hst : okL st) (hc : cells + h1.2.length ≤ (xR X).cells + h.2.length) (hs : slots + sl h1.2 ≤ (xR X).slots + sl h.2) (K : KK X ad cells slots pc' ls' st' h h1) : TT X ad cells slots pc ls st h := by
  unfold rs at hrs
  dsimp only at hrs
  split at hrs
  case isFalse => cases hrs
  rename_i hl
  subst hl
  cases hrs
  have hp2 := ps_at (f := p5) rfl hp
  unfold p5 at hp2
  (try dsimp only at hp2)
  (repeat' split at hp2)
  all_goals first
    | (cases hp2; done)
    | (cases hp2; exact am_astore_n hX hd (by assumption) (K.same rfl rfl))
theorem s_astore {k : Nat} (hX : CX X) (hr : 1 ≤ m_fr (xm X) ∧ 40 ≤ m_lo (xm X)) (hd : decode (m_cd (xm X)) pc = .ok (.astore k, len)) (hrs : rs (xm X) pc len (.astore k) = some (op, a, b, tb)) (hp : pstep op a b tb (pc + len) ls st h = some (pc', ls', st', h1)) (hst : okL st) (hc : cells + h1.2.length ≤ (xR X).cells + h.2.length) (hs : slots + sl h1.2 ≤ (xR X).slots + sl h.2) (K : KK X ad cells slots pc' ls' st' h h1) : TT X ad cells slots pc ls st h := by
  unfold rs at hrs
  dsimp only at hrs
  split at hrs
  case isFalse => cases hrs
  rename_i hl
  subst hl
  cases hrs
  have hp2 := ps_at (f := p5) rfl hp
  unfold p5 at hp2
  (try dsimp only at hp2)
  (repeat' split at hp2)
  all_goals first
    | (cases hp2; done)
    | (cases hp2; exact am_astore hX hd (by assumption) (K.same rfl rfl))
theorem s_iinc {k : Nat} {n : Int} (hX : CX X) (hr : 1 ≤ m_fr (xm X) ∧ 40 ≤ m_lo (xm X)) (hd : decode (m_cd (xm X)) pc = .ok (.iinc k n, len)) (hrs : rs (xm X) pc len (.iinc k n) = some (op, a, b, tb)) (hp : pstep op a b tb (pc + len) ls st h = some (pc', ls', st', h1)) (hst : okL st) (hc : cells + h1.2.length ≤ (xR X).cells + h.2.length) (hs : slots + sl h1.2 ≤ (xR X).slots + sl h.2) (K : KK X ad cells slots pc' ls' st' h h1) : TT X ad cells slots pc ls st h := by
  unfold rs at hrs
  dsimp only at hrs
  split at hrs
  case isFalse => cases hrs
  rename_i hl
  subst hl
  cases hrs
  have hp2 := ps_at (f := p6) rfl hp
  unfold p6 at hp2
  (try dsimp only at hp2)
  (repeat' split at hp2)
  all_goals first
    | (cases hp2; done)
    | (cases hp2; exact am_iinc hX hd (by assumption) (K.same rfl rfl))
theorem s_getfield {ix : Nat} (hX : CX X) (hr : 1 ≤ m_fr (xm X) ∧ 40 ≤ m_lo (xm X)) (hd : decode (m_cd (xm X)) pc = .ok (.getfield ix, len)) (hrs : rs (xm X) pc len (.getfield ix) = some (op, a, b, tb)) (hp : pstep op a b tb (pc + len) ls st h = some (pc', ls', st', h1)) (hst : okL st) (hc : cells + h1.2.length ≤ (xR X).cells + h.2.length) (hs : slots + sl h1.2 ≤ (xR X).slots + sl h.2) (K : KK X ad cells slots pc' ls' st' h h1) : TT X ad cells slots pc ls st h := by
  unfold rs at hrs
  dsimp only at hrs
  split at hrs
  case isFalse => cases hrs
  rename_i hl
  subst hl
  split at hrs
  case h_2 => cases hrs
  rename_i q hf
  obtain ⟨ci, k0, wi⟩ := q
  unfold rget at hrs
  split at hrs
  case isFalse => cases hrs
  split at hrs
  · rename_i hk
    cases hrs
    have hp2 := ps_at (f := p8) rfl hp
    unfold p8 at hp2
    (repeat' split at hp2)
    all_goals first
      | (cases hp2; done)
      | (rename_i hg; obtain ⟨rfl, hg2, hg3⟩ := hg; cases hp2; exact am_getR hX hd hf hk (by assumption) hg2 (by assumption) hg3 (K.same rfl rfl))
  · split at hrs
    · rename_i hk _
      cases hrs
      have hp2 := ps_at (f := p7) rfl hp
      unfold p7 at hp2
      (repeat' split at hp2)
      all_goals first
        | (cases hp2; done)
        | (rename_i hg; obtain ⟨rfl, hg2⟩ := hg; cases hp2; exact am_getI hX hd hf hk (by assumption) hg2 (K.same rfl rfl))
    · cases hrs
theorem s_putfield {ix : Nat} (hX : CX X) (hr : 1 ≤ m_fr (xm X) ∧ 40 ≤ m_lo (xm X)) (hd : decode (m_cd (xm X)) pc = .ok (.putfield ix, len)) (hrs : rs (xm X) pc len (.putfield ix) = some (op, a, b, tb)) (hp : pstep op a b tb (pc + len) ls st h = some (pc', ls', st', h1)) (hst : okL st) (hc : cells + h1.2.length ≤ (xR X).cells + h.2.length) (hs : slots + sl h1.2 ≤ (xR X).slots + sl h.2) (K : KK X ad cells slots pc' ls' st' h h1) : TT X ad cells slots pc ls st h := by
  unfold rs at hrs
  dsimp only at hrs
  split at hrs
  case isFalse => cases hrs
  rename_i hl
  subst hl
  split at hrs
  case h_2 => cases hrs
  rename_i q hf
  obtain ⟨ci, k0, wi⟩ := q
  unfold rput at hrs
  split at hrs
  case isFalse => cases hrs
  rename_i hcond
  split at hrs
  · rename_i hk
    cases hrs
    have hp2 := ps_at (f := p10) rfl hp
    unfold p10 at hp2
    (repeat' split at hp2)
    all_goals first
      | (cases hp2; done)
      | (rename_i q o r kd sz rf hq hg
         obtain ⟨rfl, hg2, hg3, hg4⟩ := hg
         cases hp2
         have hk' := hk
         have hlen : ∀ {α : Type}, True → True := fun _ => trivial
         refine put_ref hX hd hf hcond.2.2 hk hq hg2 hg3 hg4 (K.same (by simp) (sl_same hq)))
  · split at hrs
    · rename_i hk
      cases hrs
      have hp2 := ps_at (f := p9) rfl hp
      unfold p9 at hp2
      (repeat' split at hp2)
      all_goals first
        | (cases hp2; done)
        | (rename_i x o r kd sz rf hq hg
           obtain ⟨rfl, hg2, -⟩ := hg
           cases hp2
           exact put_int hX hd hf hcond.2.2 (Or.inl hk) hq hg2 (K.same rfl rfl))
    · split at hrs
      · rename_i hk
        cases hrs
        have hp2 := ps_at (f := p9) rfl hp
        unfold p9 at hp2
        (repeat' split at hp2)
        all_goals first
          | (cases hp2; done)
          | (rename_i x o r kd sz rf hq hg
             obtain ⟨rfl, hg2, hg3⟩ := hg
             cases hp2
             exact put_int hX hd hf hcond.2.2 (Or.inr ⟨hk, hg3.resolve_left (by simp)⟩) hq hg2 (K.same rfl rfl))
      · cases hrs
theorem s_baload (hX : CX X) (hr : 1 ≤ m_fr (xm X) ∧ 40 ≤ m_lo (xm X)) (hd : decode (m_cd (xm X)) pc = .ok (.baload, len)) (hrs : rs (xm X) pc len (.baload) = some (op, a, b, tb)) (hp : pstep op a b tb (pc + len) ls st h = some (pc', ls', st', h1)) (hst : okL st) (hc : cells + h1.2.length ≤ (xR X).cells + h.2.length) (hs : slots + sl h1.2 ≤ (xR X).slots + sl h.2) (K : KK X ad cells slots pc' ls' st' h h1) : TT X ad cells slots pc ls st h := by
  unfold rs at hrs
  dsimp only at hrs
  split at hrs
  case isFalse => cases hrs
  rename_i hl
  subst hl
  cases hrs
  have hp2 := ps_at (f := p11) rfl hp
  unfold p11 at hp2
  (repeat' split at hp2)
  all_goals first
    | (cases hp2; done)
    | (rename_i hg; obtain ⟨rfl, g1, g2⟩ := hg; cases hp2; exact am_bald hX hd (by assumption) g1 g2 (okv_i hst) (K.same rfl rfl))
theorem s_aaload (hX : CX X) (hr : 1 ≤ m_fr (xm X) ∧ 40 ≤ m_lo (xm X)) (hd : decode (m_cd (xm X)) pc = .ok (.aaload, len)) (hrs : rs (xm X) pc len (.aaload) = some (op, a, b, tb)) (hp : pstep op a b tb (pc + len) ls st h = some (pc', ls', st', h1)) (hst : okL st) (hc : cells + h1.2.length ≤ (xR X).cells + h.2.length) (hs : slots + sl h1.2 ≤ (xR X).slots + sl h.2) (K : KK X ad cells slots pc' ls' st' h h1) : TT X ad cells slots pc ls st h := by
  unfold rs at hrs
  dsimp only at hrs
  split at hrs
  case isFalse => cases hrs
  rename_i hl
  subst hl
  cases hrs
  have hp2 := ps_at (f := p12) rfl hp
  unfold p12 at hp2
  (repeat' split at hp2)
  all_goals first
    | (cases hp2; done)
    | (rename_i hg; obtain ⟨g0, g1, g2, g3⟩ := hg; cases hp2; exact am_aald hX hd (by assumption) g0 g1 g2 (okv_i hst) (by assumption) g3 (K.same rfl rfl))
theorem s_iastore (hX : CX X) (hr : 1 ≤ m_fr (xm X) ∧ 40 ≤ m_lo (xm X)) (hd : decode (m_cd (xm X)) pc = .ok (.iastore, len)) (hrs : rs (xm X) pc len (.iastore) = some (op, a, b, tb)) (hp : pstep op a b tb (pc + len) ls st h = some (pc', ls', st', h1)) (hst : okL st) (hc : cells + h1.2.length ≤ (xR X).cells + h.2.length) (hs : slots + sl h1.2 ≤ (xR X).slots + sl h.2) (K : KK X ad cells slots pc' ls' st' h h1) : TT X ad cells slots pc ls st h := by
  unfold rs at hrs
  dsimp only at hrs
  split at hrs
  case isFalse => cases hrs
  rename_i hl
  subst hl
  cases hrs
  have hp2 := ps_at (f := p13) rfl hp
  unfold p13 at hp2
  (repeat' split at hp2)
  all_goals first
    | (cases hp2; done)
    | (rename_i hg; obtain ⟨rfl, g1, g2, g3⟩ := hg; cases hp2; exact am_iast hX hd (by assumption) g1 g2 (okv_i (okv_t hst)) (K.same rfl rfl))
theorem s_bastore (hX : CX X) (hr : 1 ≤ m_fr (xm X) ∧ 40 ≤ m_lo (xm X)) (hd : decode (m_cd (xm X)) pc = .ok (.bastore, len)) (hrs : rs (xm X) pc len (.bastore) = some (op, a, b, tb)) (hp : pstep op a b tb (pc + len) ls st h = some (pc', ls', st', h1)) (hst : okL st) (hc : cells + h1.2.length ≤ (xR X).cells + h.2.length) (hs : slots + sl h1.2 ≤ (xR X).slots + sl h.2) (K : KK X ad cells slots pc' ls' st' h h1) : TT X ad cells slots pc ls st h := by
  unfold rs at hrs
  dsimp only at hrs
  split at hrs
  case isFalse => cases hrs
  rename_i hl
  subst hl
  cases hrs
  have hp2 := ps_at (f := p13) rfl hp
  unfold p13 at hp2
  (repeat' split at hp2)
  all_goals first
    | (cases hp2; done)
    | (rename_i hg; obtain ⟨rfl, g1, g2, g3⟩ := hg; cases hp2; exact am_bast hX hd (by assumption) g1 g2 (okv_i (okv_t hst)) (g3.resolve_left (by decide)).1 (g3.resolve_left (by decide)).2 (K.same rfl rfl))
theorem s_aastore (hX : CX X) (hr : 1 ≤ m_fr (xm X) ∧ 40 ≤ m_lo (xm X)) (hd : decode (m_cd (xm X)) pc = .ok (.aastore, len)) (hrs : rs (xm X) pc len (.aastore) = some (op, a, b, tb)) (hp : pstep op a b tb (pc + len) ls st h = some (pc', ls', st', h1)) (hst : okL st) (hc : cells + h1.2.length ≤ (xR X).cells + h.2.length) (hs : slots + sl h1.2 ≤ (xR X).slots + sl h.2) (K : KK X ad cells slots pc' ls' st' h h1) : TT X ad cells slots pc ls st h := by
  unfold rs at hrs
  dsimp only at hrs
  split at hrs
  case isFalse => cases hrs
  rename_i hl
  subst hl
  cases hrs
  have hp2 := ps_at (f := p14) rfl hp
  unfold p14 at hp2
  (repeat' split at hp2)
  all_goals first
    | (cases hp2; done)
    | (rename_i hg; obtain ⟨rfl, rfl, g1, g2, g3⟩ := hg; cases hp2; exact am_aast hX hd (by assumption) (by assumption) g1 g2 (okv_i (okv_t hst)) g3 (K.same (by simp) (sl_same (by assumption))))
theorem s_iaload (hX : CX X) (hr : 1 ≤ m_fr (xm X) ∧ 40 ≤ m_lo (xm X)) (hd : decode (m_cd (xm X)) pc = .ok (.iaload, len)) (hrs : rs (xm X) pc len (.iaload) = some (op, a, b, tb)) (hp : pstep op a b tb (pc + len) ls st h = some (pc', ls', st', h1)) (hst : okL st) (hc : cells + h1.2.length ≤ (xR X).cells + h.2.length) (hs : slots + sl h1.2 ≤ (xR X).slots + sl h.2) (K : KK X ad cells slots pc' ls' st' h h1) : TT X ad cells slots pc ls st h := by
  unfold rs at hrs
  dsimp only at hrs
  split at hrs
  case isFalse => cases hrs
  rename_i hl
  subst hl
  split at hrs
  · rename_i hm
    cases hrs
    have hp2 := ps_at (f := p36) rfl hp
    unfold p36 at hp2
    (repeat' split at hp2)
    all_goals first
      | (cases hp2; done)
      | (rename_i hg; obtain ⟨rfl, g1, g2⟩ := hg; cases hp2; exact am_sld hX hd hm g1 g2 (okv_i hst) (K.same rfl rfl))
  · cases hrs
    have hp2 := ps_at (f := p11) rfl hp
    unfold p11 at hp2
    (repeat' split at hp2)
    all_goals first
      | (cases hp2; done)
      | (rename_i hg; obtain ⟨rfl, g1, g2⟩ := hg; cases hp2; exact am_iald hX hd (by assumption) g1 g2 (okv_i hst) (K.same rfl rfl))
theorem s_arraylength (hX : CX X) (hr : 1 ≤ m_fr (xm X) ∧ 40 ≤ m_lo (xm X)) (hd : decode (m_cd (xm X)) pc = .ok (.arraylength, len)) (hrs : rs (xm X) pc len (.arraylength) = some (op, a, b, tb)) (hp : pstep op a b tb (pc + len) ls st h = some (pc', ls', st', h1)) (hst : okL st) (hc : cells + h1.2.length ≤ (xR X).cells + h.2.length) (hs : slots + sl h1.2 ≤ (xR X).slots + sl h.2) (K : KK X ad cells slots pc' ls' st' h h1) : TT X ad cells slots pc ls st h := by
  unfold rs at hrs
  dsimp only at hrs
  split at hrs
  case isFalse => cases hrs
  rename_i hl
  subst hl
  split at hrs
  · rename_i hm
    cases hrs
    have hp2 := ps_at (f := p37) rfl hp
    unfold p37 at hp2
    (repeat' split at hp2)
    all_goals first
      | (cases hp2; done)
      | (rename_i hg; subst hg; cases hp2; exact am_slen hX hd hm (K.same rfl rfl))
  · cases hrs
    have hp2 := ps_at (f := p15) rfl hp
    unfold p15 at hp2
    (repeat' split at hp2)
    all_goals first
      | (cases hp2; done)
      | (rename_i hg; obtain ⟨g1, g2, g3⟩ := hg; cases hp2; exact am_alen hX hd (by assumption) g1 g2 (K.same rfl rfl))
theorem s_iadd (hX : CX X) (hr : 1 ≤ m_fr (xm X) ∧ 40 ≤ m_lo (xm X)) (hd : decode (m_cd (xm X)) pc = .ok (.iadd, len)) (hrs : rs (xm X) pc len (.iadd) = some (op, a, b, tb)) (hp : pstep op a b tb (pc + len) ls st h = some (pc', ls', st', h1)) (hst : okL st) (hc : cells + h1.2.length ≤ (xR X).cells + h.2.length) (hs : slots + sl h1.2 ≤ (xR X).slots + sl h.2) (K : KK X ad cells slots pc' ls' st' h h1) : TT X ad cells slots pc ls st h := by
  unfold rs at hrs
  dsimp only at hrs
  split at hrs
  case isFalse => cases hrs
  rename_i hl
  subst hl
  cases hrs
  have hp2 := ps_at (f := p16) rfl hp
  unfold p16 at hp2
  split at hp2
  case h_2 => cases hp2
  rename_i y x r
  split at hp2
  case h_2 => cases hp2
  rename_i z hz
  cases hp2
  have hz2 : (if inR (x + y) then some (x + y) else none) = some z := hz
  split at hz2
  case isFalse => cases hz2
  rename_i hg
  cases hz2
  exact am_iadd hX hd (K.same rfl rfl)
theorem s_isub (hX : CX X) (hr : 1 ≤ m_fr (xm X) ∧ 40 ≤ m_lo (xm X)) (hd : decode (m_cd (xm X)) pc = .ok (.isub, len)) (hrs : rs (xm X) pc len (.isub) = some (op, a, b, tb)) (hp : pstep op a b tb (pc + len) ls st h = some (pc', ls', st', h1)) (hst : okL st) (hc : cells + h1.2.length ≤ (xR X).cells + h.2.length) (hs : slots + sl h1.2 ≤ (xR X).slots + sl h.2) (K : KK X ad cells slots pc' ls' st' h h1) : TT X ad cells slots pc ls st h := by
  unfold rs at hrs
  dsimp only at hrs
  split at hrs
  case isFalse => cases hrs
  rename_i hl
  subst hl
  cases hrs
  have hp2 := ps_at (f := p16) rfl hp
  unfold p16 at hp2
  split at hp2
  case h_2 => cases hp2
  rename_i y x r
  split at hp2
  case h_2 => cases hp2
  rename_i z hz
  cases hp2
  have hz2 : (if inR (x - y) then some (x - y) else none) = some z := hz
  split at hz2
  case isFalse => cases hz2
  rename_i hg
  cases hz2
  exact am_isub hX hd (K.same rfl rfl)
theorem s_imul (hX : CX X) (hr : 1 ≤ m_fr (xm X) ∧ 40 ≤ m_lo (xm X)) (hd : decode (m_cd (xm X)) pc = .ok (.imul, len)) (hrs : rs (xm X) pc len (.imul) = some (op, a, b, tb)) (hp : pstep op a b tb (pc + len) ls st h = some (pc', ls', st', h1)) (hst : okL st) (hc : cells + h1.2.length ≤ (xR X).cells + h.2.length) (hs : slots + sl h1.2 ≤ (xR X).slots + sl h.2) (K : KK X ad cells slots pc' ls' st' h h1) : TT X ad cells slots pc ls st h := by
  unfold rs at hrs
  dsimp only at hrs
  split at hrs
  case isFalse => cases hrs
  rename_i hl
  subst hl
  cases hrs
  have hp2 := ps_at (f := p16) rfl hp
  unfold p16 at hp2
  split at hp2
  case h_2 => cases hp2
  rename_i y x r
  split at hp2
  case h_2 => cases hp2
  rename_i z hz
  cases hp2
  have hz2 : (if inR (x * y) then some (x * y) else none) = some z := hz
  split at hz2
  case isFalse => cases hz2
  rename_i hg
  cases hz2
  exact am_imul hX hd (K.same rfl rfl)
theorem s_idiv (hX : CX X) (hr : 1 ≤ m_fr (xm X) ∧ 40 ≤ m_lo (xm X)) (hd : decode (m_cd (xm X)) pc = .ok (.idiv, len)) (hrs : rs (xm X) pc len (.idiv) = some (op, a, b, tb)) (hp : pstep op a b tb (pc + len) ls st h = some (pc', ls', st', h1)) (hst : okL st) (hc : cells + h1.2.length ≤ (xR X).cells + h.2.length) (hs : slots + sl h1.2 ≤ (xR X).slots + sl h.2) (K : KK X ad cells slots pc' ls' st' h h1) : TT X ad cells slots pc ls st h := by
  unfold rs at hrs
  dsimp only at hrs
  split at hrs
  case isFalse => cases hrs
  rename_i hl
  subst hl
  cases hrs
  have hp2 := ps_at (f := p16) rfl hp
  unfold p16 at hp2
  split at hp2
  case h_2 => cases hp2
  rename_i y x r
  split at hp2
  case h_2 => cases hp2
  rename_i z hz
  cases hp2
  have hz2 : (if y ≠ 0 ∧ inR (x.tdiv y) then some (x.tdiv y) else none) = some z := hz
  split at hz2
  case isFalse => cases hz2
  rename_i hg
  cases hz2
  exact am_idiv hX hd (okv_i (okv_t hst)) (okv_i hst) hg.1 hg.2 (K.same rfl rfl)
theorem s_irem (hX : CX X) (hr : 1 ≤ m_fr (xm X) ∧ 40 ≤ m_lo (xm X)) (hd : decode (m_cd (xm X)) pc = .ok (.irem, len)) (hrs : rs (xm X) pc len (.irem) = some (op, a, b, tb)) (hp : pstep op a b tb (pc + len) ls st h = some (pc', ls', st', h1)) (hst : okL st) (hc : cells + h1.2.length ≤ (xR X).cells + h.2.length) (hs : slots + sl h1.2 ≤ (xR X).slots + sl h.2) (K : KK X ad cells slots pc' ls' st' h h1) : TT X ad cells slots pc ls st h := by
  unfold rs at hrs
  dsimp only at hrs
  split at hrs
  case isFalse => cases hrs
  rename_i hl
  subst hl
  cases hrs
  have hp2 := ps_at (f := p16) rfl hp
  unfold p16 at hp2
  split at hp2
  case h_2 => cases hp2
  rename_i y x r
  split at hp2
  case h_2 => cases hp2
  rename_i z hz
  cases hp2
  have hz2 : (if y ≠ 0 ∧ inR (x.tdiv y) then some (x.tmod y) else none) = some z := hz
  split at hz2
  case isFalse => cases hz2
  rename_i hg
  cases hz2
  exact am_irem hX hd (okv_i (okv_t hst)) (okv_i hst) hg.1 hg.2 (K.same rfl rfl)
theorem s_ishl (hX : CX X) (hr : 1 ≤ m_fr (xm X) ∧ 40 ≤ m_lo (xm X)) (hd : decode (m_cd (xm X)) pc = .ok (.ishl, len)) (hrs : rs (xm X) pc len (.ishl) = some (op, a, b, tb)) (hp : pstep op a b tb (pc + len) ls st h = some (pc', ls', st', h1)) (hst : okL st) (hc : cells + h1.2.length ≤ (xR X).cells + h.2.length) (hs : slots + sl h1.2 ≤ (xR X).slots + sl h.2) (K : KK X ad cells slots pc' ls' st' h h1) : TT X ad cells slots pc ls st h := by
  unfold rs at hrs
  dsimp only at hrs
  split at hrs
  case isFalse => cases hrs
  rename_i hl
  subst hl
  cases hrs
  have hp2 := ps_at (f := p16) rfl hp
  unfold p16 at hp2
  split at hp2
  case h_2 => cases hp2
  rename_i y x r
  split at hp2
  case h_2 => cases hp2
  rename_i z hz
  cases hp2
  have hz2 : (some (Int32.ofInt x <<< (Int32.ofInt y &&& 31)).toInt) = some z := hz
  cases hz2
  exact am_ishl hX hd (K.same rfl rfl)
theorem s_ishr (hX : CX X) (hr : 1 ≤ m_fr (xm X) ∧ 40 ≤ m_lo (xm X)) (hd : decode (m_cd (xm X)) pc = .ok (.ishr, len)) (hrs : rs (xm X) pc len (.ishr) = some (op, a, b, tb)) (hp : pstep op a b tb (pc + len) ls st h = some (pc', ls', st', h1)) (hst : okL st) (hc : cells + h1.2.length ≤ (xR X).cells + h.2.length) (hs : slots + sl h1.2 ≤ (xR X).slots + sl h.2) (K : KK X ad cells slots pc' ls' st' h h1) : TT X ad cells slots pc ls st h := by
  unfold rs at hrs
  dsimp only at hrs
  split at hrs
  case isFalse => cases hrs
  rename_i hl
  subst hl
  cases hrs
  have hp2 := ps_at (f := p16) rfl hp
  unfold p16 at hp2
  split at hp2
  case h_2 => cases hp2
  rename_i y x r
  split at hp2
  case h_2 => cases hp2
  rename_i z hz
  cases hp2
  have hz2 : (some (Int32.ofInt x >>> (Int32.ofInt y &&& 31)).toInt) = some z := hz
  cases hz2
  exact am_ishr hX hd (K.same rfl rfl)
theorem s_iand (hX : CX X) (hr : 1 ≤ m_fr (xm X) ∧ 40 ≤ m_lo (xm X)) (hd : decode (m_cd (xm X)) pc = .ok (.iand, len)) (hrs : rs (xm X) pc len (.iand) = some (op, a, b, tb)) (hp : pstep op a b tb (pc + len) ls st h = some (pc', ls', st', h1)) (hst : okL st) (hc : cells + h1.2.length ≤ (xR X).cells + h.2.length) (hs : slots + sl h1.2 ≤ (xR X).slots + sl h.2) (K : KK X ad cells slots pc' ls' st' h h1) : TT X ad cells slots pc ls st h := by
  unfold rs at hrs
  dsimp only at hrs
  split at hrs
  case isFalse => cases hrs
  rename_i hl
  subst hl
  cases hrs
  have hp2 := ps_at (f := p16) rfl hp
  unfold p16 at hp2
  split at hp2
  case h_2 => cases hp2
  rename_i y x r
  split at hp2
  case h_2 => cases hp2
  rename_i z hz
  cases hp2
  have hz2 : (some (Int32.ofInt x &&& Int32.ofInt y).toInt) = some z := hz
  cases hz2
  exact am_iand hX hd (K.same rfl rfl)
theorem s_ior (hX : CX X) (hr : 1 ≤ m_fr (xm X) ∧ 40 ≤ m_lo (xm X)) (hd : decode (m_cd (xm X)) pc = .ok (.ior, len)) (hrs : rs (xm X) pc len (.ior) = some (op, a, b, tb)) (hp : pstep op a b tb (pc + len) ls st h = some (pc', ls', st', h1)) (hst : okL st) (hc : cells + h1.2.length ≤ (xR X).cells + h.2.length) (hs : slots + sl h1.2 ≤ (xR X).slots + sl h.2) (K : KK X ad cells slots pc' ls' st' h h1) : TT X ad cells slots pc ls st h := by
  unfold rs at hrs
  dsimp only at hrs
  split at hrs
  case isFalse => cases hrs
  rename_i hl
  subst hl
  cases hrs
  have hp2 := ps_at (f := p16) rfl hp
  unfold p16 at hp2
  split at hp2
  case h_2 => cases hp2
  rename_i y x r
  split at hp2
  case h_2 => cases hp2
  rename_i z hz
  cases hp2
  have hz2 : (some (Int32.ofInt x ||| Int32.ofInt y).toInt) = some z := hz
  cases hz2
  exact am_ior hX hd (K.same rfl rfl)
theorem s_ixor (hX : CX X) (hr : 1 ≤ m_fr (xm X) ∧ 40 ≤ m_lo (xm X)) (hd : decode (m_cd (xm X)) pc = .ok (.ixor, len)) (hrs : rs (xm X) pc len (.ixor) = some (op, a, b, tb)) (hp : pstep op a b tb (pc + len) ls st h = some (pc', ls', st', h1)) (hst : okL st) (hc : cells + h1.2.length ≤ (xR X).cells + h.2.length) (hs : slots + sl h1.2 ≤ (xR X).slots + sl h.2) (K : KK X ad cells slots pc' ls' st' h h1) : TT X ad cells slots pc ls st h := by
  unfold rs at hrs
  dsimp only at hrs
  split at hrs
  case isFalse => cases hrs
  rename_i hl
  subst hl
  cases hrs
  have hp2 := ps_at (f := p16) rfl hp
  unfold p16 at hp2
  split at hp2
  case h_2 => cases hp2
  rename_i y x r
  split at hp2
  case h_2 => cases hp2
  rename_i z hz
  cases hp2
  have hz2 : (some (Int32.ofInt x ^^^ Int32.ofInt y).toInt) = some z := hz
  cases hz2
  exact am_ixor hX hd (K.same rfl rfl)
theorem s_i2b  (hX : CX X) (hr : 1 ≤ m_fr (xm X) ∧ 40 ≤ m_lo (xm X)) (hd : decode (m_cd (xm X)) pc = .ok (.i2b, len)) (hrs : rs (xm X) pc len (.i2b) = some (op, a, b, tb)) (hp : pstep op a b tb (pc + len) ls st h = some (pc', ls', st', h1)) (hst : okL st) (hc : cells + h1.2.length ≤ (xR X).cells + h.2.length) (hs : slots + sl h1.2 ≤ (xR X).slots + sl h.2) (K : KK X ad cells slots pc' ls' st' h h1) : TT X ad cells slots pc ls st h := by
  unfold rs at hrs
  dsimp only at hrs
  split at hrs
  case isFalse => cases hrs
  rename_i hl
  subst hl
  cases hrs
  have hp2 := ps_at (f := p17) rfl hp
  unfold p17 at hp2
  (try dsimp only at hp2)
  (repeat' split at hp2)
  all_goals first
    | (cases hp2; done)
    | (cases hp2; exact am_i2b hX hd (by omega) (by omega) (K.same rfl rfl))
theorem s_i2l  (hX : CX X) (hr : 1 ≤ m_fr (xm X) ∧ 40 ≤ m_lo (xm X)) (hd : decode (m_cd (xm X)) pc = .ok (.i2l, len)) (hrs : rs (xm X) pc len (.i2l) = some (op, a, b, tb)) (hp : pstep op a b tb (pc + len) ls st h = some (pc', ls', st', h1)) (hst : okL st) (hc : cells + h1.2.length ≤ (xR X).cells + h.2.length) (hs : slots + sl h1.2 ≤ (xR X).slots + sl h.2) (K : KK X ad cells slots pc' ls' st' h h1) : TT X ad cells slots pc ls st h := by
  unfold rs at hrs
  dsimp only at hrs
  split at hrs
  case isFalse => cases hrs
  rename_i hl
  subst hl
  cases hrs
  have hp2 := ps_at (f := p18) rfl hp
  unfold p18 at hp2
  (try dsimp only at hp2)
  (repeat' split at hp2)
  all_goals first
    | (cases hp2; done)
    | (cases hp2; exact am_i2l hX hd (okv_i hst) (K.same rfl rfl))
theorem s_lcmp (hX : CX X) (hr : 1 ≤ m_fr (xm X) ∧ 40 ≤ m_lo (xm X)) (hd : decode (m_cd (xm X)) pc = .ok (.lcmp, len)) (hrs : rs (xm X) pc len (.lcmp) = some (op, a, b, tb)) (hp : pstep op a b tb (pc + len) ls st h = some (pc', ls', st', h1)) (hst : okL st) (hc : cells + h1.2.length ≤ (xR X).cells + h.2.length) (hs : slots + sl h1.2 ≤ (xR X).slots + sl h.2) (K : KK X ad cells slots pc' ls' st' h h1) : TT X ad cells slots pc ls st h := by
  unfold rs at hrs
  dsimp only at hrs
  split at hrs
  case isFalse => cases hrs
  rename_i hl
  subst hl
  cases hrs
  have hp2 := ps_at (f := p19) rfl hp
  unfold p19 at hp2
  split at hp2
  case h_2 => cases hp2
  cases hp2
  exact am_lcmp hX hd (okv_l (okv_t hst)) (okv_l hst) (K.same rfl rfl)
theorem s_ifCond {c0 : Jvm.ClassFile.Cond} {off : Int} (hX : CX X) (hr : 1 ≤ m_fr (xm X) ∧ 40 ≤ m_lo (xm X)) (hd : decode (m_cd (xm X)) pc = .ok (.ifCond c0 off, len)) (hrs : rs (xm X) pc len (.ifCond c0 off) = some (op, a, b, tb)) (hp : pstep op a b tb (pc + len) ls st h = some (pc', ls', st', h1)) (hst : okL st) (hc : cells + h1.2.length ≤ (xR X).cells + h.2.length) (hs : slots + sl h1.2 ≤ (xR X).slots + sl h.2) (K : KK X ad cells slots pc' ls' st' h h1) : TT X ad cells slots pc ls st h := by
  unfold rs at hrs
  dsimp only at hrs
  split at hrs
  case isFalse => cases hrs
  rename_i hl
  obtain ⟨rfl, hl2⟩ := hl
  cases hrs
  have hp2 := ps_at (f := p20) rfl hp
  unfold p20 at hp2
  split at hp2
  case h_2 => cases hp2
  cases hp2
  exact am_if hX hd hl2 (okv_i hst) (K.same rfl rfl)
theorem s_icmp {c0 : Jvm.ClassFile.Cond} {off : Int} (hX : CX X) (hr : 1 ≤ m_fr (xm X) ∧ 40 ≤ m_lo (xm X)) (hd : decode (m_cd (xm X)) pc = .ok (.if_icmp c0 off, len)) (hrs : rs (xm X) pc len (.if_icmp c0 off) = some (op, a, b, tb)) (hp : pstep op a b tb (pc + len) ls st h = some (pc', ls', st', h1)) (hst : okL st) (hc : cells + h1.2.length ≤ (xR X).cells + h.2.length) (hs : slots + sl h1.2 ≤ (xR X).slots + sl h.2) (K : KK X ad cells slots pc' ls' st' h h1) : TT X ad cells slots pc ls st h := by
  unfold rs at hrs
  dsimp only at hrs
  split at hrs
  case isFalse => cases hrs
  rename_i hl
  obtain ⟨rfl, hl2⟩ := hl
  cases hrs
  have hp2 := ps_at (f := p21) rfl hp
  unfold p21 at hp2
  split at hp2
  case h_2 => cases hp2
  cases hp2
  exact am_icmp hX hd hl2 (okv_i (okv_t hst)) (okv_i hst) (K.same rfl rfl)
theorem s_goto {off : Int} (hX : CX X) (hr : 1 ≤ m_fr (xm X) ∧ 40 ≤ m_lo (xm X)) (hd : decode (m_cd (xm X)) pc = .ok (.goto off, len)) (hrs : rs (xm X) pc len (.goto off) = some (op, a, b, tb)) (hp : pstep op a b tb (pc + len) ls st h = some (pc', ls', st', h1)) (hst : okL st) (hc : cells + h1.2.length ≤ (xR X).cells + h.2.length) (hs : slots + sl h1.2 ≤ (xR X).slots + sl h.2) (K : KK X ad cells slots pc' ls' st' h h1) : TT X ad cells slots pc ls st h := by
  unfold rs at hrs
  dsimp only at hrs
  split at hrs
  case isFalse => cases hrs
  rename_i hl
  obtain ⟨rfl, hl2⟩ := hl
  cases hrs
  cases hp
  exact am_goto hX hd hl2 (K.same rfl rfl)
theorem s_table {d lo hi : Int} {offs : Array Int} (hX : CX X) (hr : 1 ≤ m_fr (xm X) ∧ 40 ≤ m_lo (xm X)) (hd : decode (m_cd (xm X)) pc = .ok (.tableswitch d lo hi offs, len)) (hrs : rs (xm X) pc len (.tableswitch d lo hi offs) = some (op, a, b, tb)) (hp : pstep op a b tb (pc + len) ls st h = some (pc', ls', st', h1)) (hst : okL st) (hc : cells + h1.2.length ≤ (xR X).cells + h.2.length) (hs : slots + sl h1.2 ≤ (xR X).slots + sl h.2) (K : KK X ad cells slots pc' ls' st' h h1) : TT X ad cells slots pc ls st h := by
  unfold rs at hrs
  dsimp only at hrs
  split at hrs
  case isFalse => cases hrs
  rename_i hl
  cases hrs
  have hp2 := ps_at (f := p23) rfl hp
  unfold p23 at hp2
  split at hp2
  case h_2 => cases hp2
  cases hp2
  exact am_table hX hd hl.1 hl.2.1 hl.2.2 (okv_i hst) (K.same rfl rfl)
theorem s_lookup {d : Int} {ps : Array (Int × Int)} (hX : CX X) (hr : 1 ≤ m_fr (xm X) ∧ 40 ≤ m_lo (xm X)) (hd : decode (m_cd (xm X)) pc = .ok (.lookupswitch d ps, len)) (hrs : rs (xm X) pc len (.lookupswitch d ps) = some (op, a, b, tb)) (hp : pstep op a b tb (pc + len) ls st h = some (pc', ls', st', h1)) (hst : okL st) (hc : cells + h1.2.length ≤ (xR X).cells + h.2.length) (hs : slots + sl h1.2 ≤ (xR X).slots + sl h.2) (K : KK X ad cells slots pc' ls' st' h h1) : TT X ad cells slots pc ls st h := by
  unfold rs at hrs
  dsimp only at hrs
  split at hrs
  case isFalse => cases hrs
  rename_i hl
  cases hrs
  have hp2 := ps_at (f := p23) rfl hp
  unfold p23 at hp2
  split at hp2
  case h_2 => cases hp2
  cases hp2
  exact am_lookup hX hd hl.1 hl.2.1 hl.2.2 (okv_i hst) (K.same rfl rfl)
theorem s_dup (hX : CX X) (hr : 1 ≤ m_fr (xm X) ∧ 40 ≤ m_lo (xm X)) (hd : decode (m_cd (xm X)) pc = .ok (.dup, len)) (hrs : rs (xm X) pc len (.dup) = some (op, a, b, tb)) (hp : pstep op a b tb (pc + len) ls st h = some (pc', ls', st', h1)) (hst : okL st) (hc : cells + h1.2.length ≤ (xR X).cells + h.2.length) (hs : slots + sl h1.2 ≤ (xR X).slots + sl h.2) (K : KK X ad cells slots pc' ls' st' h h1) : TT X ad cells slots pc ls st h := by
  unfold rs at hrs
  dsimp only at hrs
  split at hrs
  case isFalse => cases hrs
  rename_i hl
  subst hl
  cases hrs
  have hp2 := ps_at (f := p24) rfl hp
  unfold p24 at hp2
  split at hp2
  · cases hp2
    exact am_dupI hX hd (K.same rfl rfl)
  · cases hp2
    exact am_dupR hX hd (K.same rfl rfl)
  · cases hp2
theorem s_dup2  (hX : CX X) (hr : 1 ≤ m_fr (xm X) ∧ 40 ≤ m_lo (xm X)) (hd : decode (m_cd (xm X)) pc = .ok (.dup2, len)) (hrs : rs (xm X) pc len (.dup2) = some (op, a, b, tb)) (hp : pstep op a b tb (pc + len) ls st h = some (pc', ls', st', h1)) (hst : okL st) (hc : cells + h1.2.length ≤ (xR X).cells + h.2.length) (hs : slots + sl h1.2 ≤ (xR X).slots + sl h.2) (K : KK X ad cells slots pc' ls' st' h h1) : TT X ad cells slots pc ls st h := by
  unfold rs at hrs
  dsimp only at hrs
  split at hrs
  case isFalse => cases hrs
  rename_i hl
  subst hl
  cases hrs
  have hp2 := ps_at (f := p25) rfl hp
  unfold p25 at hp2
  (try dsimp only at hp2)
  (repeat' split at hp2)
  all_goals first
    | (cases hp2; done)
    | (cases hp2; exact am_dup2 hX hd (K.same rfl rfl))
theorem s_pop  (hX : CX X) (hr : 1 ≤ m_fr (xm X) ∧ 40 ≤ m_lo (xm X)) (hd : decode (m_cd (xm X)) pc = .ok (.pop, len)) (hrs : rs (xm X) pc len (.pop) = some (op, a, b, tb)) (hp : pstep op a b tb (pc + len) ls st h = some (pc', ls', st', h1)) (hst : okL st) (hc : cells + h1.2.length ≤ (xR X).cells + h.2.length) (hs : slots + sl h1.2 ≤ (xR X).slots + sl h.2) (K : KK X ad cells slots pc' ls' st' h h1) : TT X ad cells slots pc ls st h := by
  unfold rs at hrs
  dsimp only at hrs
  split at hrs
  case isFalse => cases hrs
  rename_i hl
  subst hl
  cases hrs
  have hp2 := ps_at (f := p26) rfl hp
  unfold p26 at hp2
  (try dsimp only at hp2)
  (repeat' split at hp2)
  all_goals first
    | (cases hp2; done)
    | (cases hp2; exact am_pop hX hd (K.same rfl rfl))
theorem s_new {ix : Nat} (hX : CX X) (hr : 1 ≤ m_fr (xm X) ∧ 40 ≤ m_lo (xm X)) (hd : decode (m_cd (xm X)) pc = .ok (.new ix, len)) (hrs : rs (xm X) pc len (.new ix) = some (op, a, b, tb)) (hp : pstep op a b tb (pc + len) ls st h = some (pc', ls', st', h1)) (hst : okL st) (hc : cells + h1.2.length ≤ (xR X).cells + h.2.length) (hs : slots + sl h1.2 ≤ (xR X).slots + sl h.2) (K : KK X ad cells slots pc' ls' st' h h1) : TT X ad cells slots pc ls st h := by
  unfold rs at hrs
  dsimp only at hrs
  split at hrs
  case isFalse => cases hrs
  rename_i hl
  subst hl
  split at hrs
  case h_2 => cases hrs
  rename_i q hf
  obtain ⟨v, wi⟩ := q
  split at hrs
  case isFalse => cases hrs
  rename_i hci
  cases hrs
  have hp2 := ps_at (f := p27) rfl hp
  unfold p27 at hp2
  split at hp2
  case isFalse => cases hp2
  rename_i hg
  obtain ⟨g1, g2, g3, g4⟩ := hg
  cases hp2
  simp only [List.length_append, List.length_cons, List.length_nil, sl_app] at hc hs
  have e : sl [(v, (nF v : Int).toNat, List.replicate (nF v : Int).toNat 3000)] = nF v := by simp [sl]
  rw [e] at hs
  refine am_new hX hd hf hci g1 g2 g3 g4 (by omega) (by omega) (fun ad' ha => K ad' _ _ (fun o ho => ha o (by simp at ho; omega)) (by simp; omega) (by rw [sl_app, e]; omega))
theorem s_newarr100 (hX : CX X) (hr : 1 ≤ m_fr (xm X) ∧ 40 ≤ m_lo (xm X)) (hd : decode (m_cd (xm X)) pc = .ok (.newarray .int, len)) (hrs : rs (xm X) pc len (.newarray .int) = some (op, a, b, tb)) (hp : pstep op a b tb (pc + len) ls st h = some (pc', ls', st', h1)) (hst : okL st) (hc : cells + h1.2.length ≤ (xR X).cells + h.2.length) (hs : slots + sl h1.2 ≤ (xR X).slots + sl h.2) (K : KK X ad cells slots pc' ls' st' h h1) : TT X ad cells slots pc ls st h := by
  unfold rs at hrs
  dsimp only at hrs
  split at hrs
  case isFalse => cases hrs
  rename_i hl
  subst hl
  cases hrs
  have hp2 := ps_at (f := p28) rfl hp
  unfold p28 at hp2
  split at hp2
  case h_2 => cases hp2
  rename_i n r
  split at hp2
  case isFalse => cases hp2
  rename_i hg
  obtain ⟨g1, g2, g3, g4, g5, g6⟩ := hg
  cases hp2
  simp only [List.length_append, List.length_cons, List.length_nil, sl_app] at hc hs
  have e : sl [((100 : Nat), n.toNat, ([] : List Nat))] = n.toNat := by simp [sl]
  rw [e] at hs
  refine am_newI hX hd g1 g2 g3 g4 g5 g6 (by omega) (by omega) (fun ad' ha => K ad' _ _ (fun o ho => ha o (by simp at ho; omega)) (by simp; omega) (by rw [sl_app, e]; omega))
theorem s_newarr101 (hX : CX X) (hr : 1 ≤ m_fr (xm X) ∧ 40 ≤ m_lo (xm X)) (hd : decode (m_cd (xm X)) pc = .ok (.newarray .byte, len)) (hrs : rs (xm X) pc len (.newarray .byte) = some (op, a, b, tb)) (hp : pstep op a b tb (pc + len) ls st h = some (pc', ls', st', h1)) (hst : okL st) (hc : cells + h1.2.length ≤ (xR X).cells + h.2.length) (hs : slots + sl h1.2 ≤ (xR X).slots + sl h.2) (K : KK X ad cells slots pc' ls' st' h h1) : TT X ad cells slots pc ls st h := by
  unfold rs at hrs
  dsimp only at hrs
  split at hrs
  case isFalse => cases hrs
  rename_i hl
  subst hl
  cases hrs
  have hp2 := ps_at (f := p28) rfl hp
  unfold p28 at hp2
  split at hp2
  case h_2 => cases hp2
  rename_i n r
  split at hp2
  case isFalse => cases hp2
  rename_i hg
  obtain ⟨g1, g2, g3, g4, g5, g6⟩ := hg
  cases hp2
  simp only [List.length_append, List.length_cons, List.length_nil, sl_app] at hc hs
  have e : sl [((101 : Nat), n.toNat, ([] : List Nat))] = n.toNat := by simp [sl]
  rw [e] at hs
  refine am_newB hX hd g1 g2 g3 g4 g5 g6 (by omega) (by omega) (fun ad' ha => K ad' _ _ (fun o ho => ha o (by simp at ho; omega)) (by simp; omega) (by rw [sl_app, e]; omega))
theorem s_anew {ix : Nat} (hX : CX X) (hr : 1 ≤ m_fr (xm X) ∧ 40 ≤ m_lo (xm X)) (hd : decode (m_cd (xm X)) pc = .ok (.anewarray ix, len)) (hrs : rs (xm X) pc len (.anewarray ix) = some (op, a, b, tb)) (hp : pstep op a b tb (pc + len) ls st h = some (pc', ls', st', h1)) (hst : okL st) (hc : cells + h1.2.length ≤ (xR X).cells + h.2.length) (hs : slots + sl h1.2 ≤ (xR X).slots + sl h.2) (K : KK X ad cells slots pc' ls' st' h h1) : TT X ad cells slots pc ls st h := by
  unfold rs at hrs
  dsimp only at hrs
  split at hrs
  case isFalse => cases hrs
  rename_i hl
  subst hl
  split at hrs
  case h_2 => cases hrs
  rename_i q hf
  obtain ⟨v, wi⟩ := q
  split at hrs
  case isFalse => cases hrs
  rename_i hci
  have hci2 : v = 8 := hci
  subst hci2
  cases hrs
  have hp2 := ps_at (f := p29) rfl hp
  unfold p29 at hp2
  split at hp2
  case h_2 => cases hp2
  rename_i n r
  split at hp2
  case isFalse => cases hp2
  rename_i hg
  obtain ⟨g1, g2, g3, g4, g5, g6⟩ := hg
  cases hp2
  simp only [List.length_append, List.length_cons, List.length_nil, sl_app] at hc hs
  have e : sl [((103 : Nat), n.toNat, List.replicate n.toNat 3000)] = n.toNat := by simp [sl]
  rw [e] at hs
  refine am_newR hX hd hf g1 g2 g3 g4 g5 g6 (by omega) (by omega) (fun ad' ha => K ad' _ _ (fun o ho => ha o (by simp at ho; omega)) (by simp; omega) (by rw [sl_app, e]; omega))
theorem s_mna {ix d : Nat} (hX : CX X) (hr : 1 ≤ m_fr (xm X) ∧ 40 ≤ m_lo (xm X)) (hd : decode (m_cd (xm X)) pc = .ok (.multianewarray ix d, len)) (hrs : rs (xm X) pc len (.multianewarray ix d) = some (op, a, b, tb)) (hp : pstep op a b tb (pc + len) ls st h = some (pc', ls', st', h1)) (hst : okL st) (hc : cells + h1.2.length ≤ (xR X).cells + h.2.length) (hs : slots + sl h1.2 ≤ (xR X).slots + sl h.2) (K : KK X ad cells slots pc' ls' st' h h1) : TT X ad cells slots pc ls st h := by
  unfold rs at hrs
  dsimp only at hrs
  split at hrs
  case isFalse => cases hrs
  rename_i hl
  obtain ⟨rfl, rfl⟩ := hl
  split at hrs
  case h_2 => cases hrs
  rename_i q hf
  obtain ⟨v, wi⟩ := q
  split at hrs
  case isFalse => cases hrs
  rename_i hci
  have hci2 : v = 102 := hci
  subst hci2
  cases hrs
  have hp2 := ps_at (f := p30) rfl hp
  unfold p30 at hp2
  split at hp2
  case h_2 => cases hp2
  rename_i k n r
  split at hp2
  case isFalse => cases hp2
  rename_i hg
  obtain ⟨g1, g2, g3, g4, g5, g6, g7, g8⟩ := hg
  cases hp2
  have e1 : sl [((102 : Nat), n.toNat, (List.range n.toNat).map (fun i => h.2.length + 1 + i))] = n.toNat := by simp [sl]
  have e2 : sl (List.replicate n.toNat ((100 : Nat), k.toNat, ([] : List Nat))) = n.toNat * k.toNat := by simp [sl]
  simp only [List.length_append, List.length_cons, List.length_nil, List.length_replicate, sl_app, e1, e2] at hc hs
  refine am_mna hX hd hf g1 g2 g3 g4 g5 g6 g7 g8 (by omega) (by omega) (fun ad' ha => K ad' _ _ (fun o ho => ha o (by simp at ho; omega)) (by simp; omega) (by rw [sl_app, sl_app, e1, e2]; omega))
end STEP
