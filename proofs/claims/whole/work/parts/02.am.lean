/-! AM: an abstract machine over whole numbers; a step is 'none' where the machine would throw or a number would leave its range -/
abbrev AV : Type := Int ⊕ (Int ⊕ Nat)
abbrev vI (x : Int) : AV := Sum.inl x
abbrev vL (x : Int) : AV := Sum.inr (Sum.inl x)
abbrev vR (o : Nat) : AV := Sum.inr (Sum.inr o)
abbrev vU : AV := vL 0
abbrev AO : Type := Nat × Nat × List Nat
abbrev AH : Type := (Nat → Nat → Int) × List AO
abbrev RI : Type := Nat × Nat × Int × List (Int × Nat)
abbrev inR (x : Int) : Prop := -2147483648 ≤ x ∧ x ≤ 2147483647
abbrev inL (x : Int) : Prop := -9223372036854775808 ≤ x ∧ x ≤ 9223372036854775807
def iup (I : Nat → Nat → Int) (o k : Nat) (x : Int) : Nat → Nat → Int := fun o' k' => if o' = o ∧ k' = k then x else I o' k'
def iclr (I : Nat → Nat → Int) (n : Nat) : Nat → Nat → Int := fun o' k' => if n ≤ o' ∧ o' < 1000 then 0 else I o' k'
def icp (I : Nat → Nat → Int) (src sp dst dp n : Nat) : Nat → Nat → Int := fun o' k' => if o' = dst ∧ dp ≤ k' ∧ k' < dp + n then I src (sp + (k' - dp)) else I o' k'
def okRefs (n : Nat) (l : List AV) : Bool := l.all (fun v => match v with | .inr (.inr o) => decide (o < n ∨ 1000 ≤ o) | _ => true)
def okS (S : List AO) : Bool := S.all (fun q => q.2.2.all (fun r => decide (r < S.length ∨ r = 3000)))
def wcat (l : List AV) : Nat := (l.map (fun v => match v with | .inr (.inl _) => 2 | _ => 1)).sum
def bop (a : Nat) (x y : Int) : Option Int :=
  if a = 0 then (if inR (x + y) then some (x + y) else none)
  else if a = 1 then (if inR (x - y) then some (x - y) else none)
  else if a = 2 then (if inR (x * y) then some (x * y) else none)
  else if a = 3 then (if y ≠ 0 ∧ inR (x.tdiv y) then some (x.tdiv y) else none)
  else if a = 4 then (if y ≠ 0 ∧ inR (x.tdiv y) then some (x.tmod y) else none)
  else if a = 5 then some (Int32.ofInt x <<< (Int32.ofInt y &&& 31)).toInt
  else if a = 6 then some (Int32.ofInt x >>> (Int32.ofInt y &&& 31)).toInt
  else if a = 7 then some (Int32.ofInt x &&& Int32.ofInt y).toInt
  else if a = 8 then some (Int32.ofInt x ||| Int32.ofInt y).toInt
  else if a = 9 then some (Int32.ofInt x ^^^ Int32.ofInt y).toInt
  else none
abbrev cop (b : Nat) (x y : Int) : Prop :=
  if b = 0 then x = y else if b = 1 then ¬ x = y else if b = 2 then x < y else if b = 3 then y ≤ x else if b = 4 then y < x else x ≤ y
def tlook : List (Int × Nat) → Int → Nat → Nat
  | [], _, d => d
  | q :: l, x, d => if x = q.1 then q.2 else tlook l x d
abbrev PF : Type := Nat → Int → List (Int × Nat) → Nat → List AV → List AV → AH → Option (Nat × List AV × List AV × AH)
def p0 : PF := fun a b tb np ls st h => (if inR b then some (np, ls, vI b :: st, h) else none)
def p1 : PF := fun a b tb np ls st h => (if inL b then some (np, ls, vL b :: st, h) else none)
def p2 : PF := fun a b tb np ls st h => (match ls[a]? with | some (.inl x) => some (np, ls, vI x :: st, h) | _ => none)
def p3 : PF := fun a b tb np ls st h => (match ls[a]? with | some (.inr (.inr o)) => some (np, ls, vR o :: st, h) | _ => none)
def p4 : PF := fun a b tb np ls st h => (match st with | .inl x :: r => (if a < ls.length then some (np, ls.set a (vI x), r, h) else none) | _ => none)
def p5 : PF := fun a b tb np ls st h => (match st with | .inr (.inr o) :: r => (if a < ls.length then some (np, ls.set a (vR o), r, h) else none) | _ => none)
def p6 : PF := fun a b tb np ls st h => (match ls[a]? with | some (.inl x) => (if inR (x + b) then some (np, ls.set a (vI (x + b)), st, h) else none) | _ => none)
def p7 : PF := fun a b tb np ls st h => (match st with | .inr (.inr o) :: r => (match h.2[o]? with | some (kd, sz, _) => (if kd = a ∧ b.toNat < sz then some (np, ls, vI (h.1 o b.toNat) :: r, h) else none) | none => none) | _ => none)
def p8 : PF := fun a b tb np ls st h => (match st with | .inr (.inr o) :: r => (match h.2[o]? with | some (kd, sz, rf) => (match rf[b.toNat]? with | some q => (if kd = a ∧ b.toNat < sz ∧ q < 1000 then some (np, ls, vR q :: r, h) else none) | none => none) | none => none) | _ => none)
def p9 : PF := fun a b tb np ls st h => (match st with | .inl x :: .inr (.inr o) :: r => (match h.2[o]? with | some (kd, sz, _) => (if kd = a ∧ b.toNat < sz ∧ (tb = [] ∨ x = 0 ∨ x = 1) then some (np, ls, r, (iup h.1 o b.toNat x, h.2)) else none) | none => none) | _ => none)
def p10 : PF := fun a b tb np ls st h => (match st with | .inr (.inr q) :: .inr (.inr o) :: r => (match h.2[o]? with | some (kd, sz, rf) => (if kd = a ∧ b.toNat < sz ∧ q < h.2.length ∧ b.toNat < rf.length then some (np, ls, r, (h.1, h.2.set o (kd, sz, rf.set b.toNat q))) else none) | none => none) | _ => none)
def p11 : PF := fun a b tb np ls st h => (match st with | .inl i :: .inr (.inr o) :: r => (match h.2[o]? with | some (kd, sz, _) => (if kd = a ∧ 0 ≤ i ∧ i < sz then some (np, ls, vI (h.1 o i.toNat) :: r, h) else none) | none => none) | _ => none)
def p12 : PF := fun a b tb np ls st h => (match st with | .inl i :: .inr (.inr o) :: r => (match h.2[o]? with | some (kd, sz, rf) => (match rf[i.toNat]? with | some q => (if (kd = 102 ∨ kd = 103) ∧ 0 ≤ i ∧ i < sz ∧ q < 1000 then some (np, ls, vR q :: r, h) else none) | none => none) | none => none) | _ => none)
def p13 : PF := fun a b tb np ls st h => (match st with | .inl x :: .inl i :: .inr (.inr o) :: r => (match h.2[o]? with | some (kd, sz, _) => (if kd = a ∧ 0 ≤ i ∧ i < sz ∧ (a = 100 ∨ (-128 ≤ x ∧ x ≤ 127)) then some (np, ls, r, (iup h.1 o i.toNat x, h.2)) else none) | none => none) | _ => none)
def p14 : PF := fun a b tb np ls st h => (match st with | .inr (.inr q) :: .inl i :: .inr (.inr o) :: r => (match h.2[o]?, h.2[q]? with | some (kd, sz, rf), some (kq, _, _) => (if kd = 103 ∧ kq = 8 ∧ 0 ≤ i ∧ i < sz ∧ i.toNat < rf.length then some (np, ls, r, (h.1, h.2.set o (kd, sz, rf.set i.toNat q))) else none) | _, _ => none) | _ => none)
def p15 : PF := fun a b tb np ls st h => (match st with | .inr (.inr o) :: r => (match h.2[o]? with | some (kd, sz, _) => (if 100 ≤ kd ∧ kd ≤ 103 ∧ sz ≤ 100000 then some (np, ls, vI sz :: r, h) else none) | none => none) | _ => none)
def p16 : PF := fun a b tb np ls st h => (match st with | .inl y :: .inl x :: r => (match bop a x y with | some z => some (np, ls, vI z :: r, h) | none => none) | _ => none)
def p17 : PF := fun a b tb np ls st h => (match st with | .inl x :: r => (if -128 ≤ x ∧ x ≤ 127 then some (np, ls, vI x :: r, h) else none) | _ => none)
def p18 : PF := fun a b tb np ls st h => (match st with | .inl x :: r => some (np, ls, vL x :: r, h) | _ => none)
def p19 : PF := fun a b tb np ls st h => (match st with | .inr (.inl y) :: .inr (.inl x) :: r => some (np, ls, vI (if y < x then 1 else if x = y then 0 else -1) :: r, h) | _ => none)
def p20 : PF := fun a b tb np ls st h => (match st with | .inl x :: r => some ((if cop a x 0 then b.toNat else np), ls, r, h) | _ => none)
def p21 : PF := fun a b tb np ls st h => (match st with | .inl y :: .inl x :: r => some ((if cop a x y then b.toNat else np), ls, r, h) | _ => none)
def p22 : PF := fun a b tb np ls st h => some (b.toNat, ls, st, h)
def p23 : PF := fun a b tb np ls st h => (match st with | .inl x :: r => some (tlook tb x b.toNat, ls, r, h) | _ => none)
def p24 : PF := fun a b tb np ls st h => (match st with | .inl x :: r => some (np, ls, vI x :: vI x :: r, h) | .inr (.inr o) :: r => some (np, ls, vR o :: vR o :: r, h) | _ => none)
def p25 : PF := fun a b tb np ls st h => (match st with | .inl y :: .inr (.inr o) :: r => some (np, ls, vI y :: vR o :: vI y :: vR o :: r, h) | _ => none)
def p26 : PF := fun a b tb np ls st h => (match st with | .inl _ :: r => some (np, ls, r, h) | _ => none)
def p27 : PF := fun a b tb np ls st h => (if h.2.length < 1000 ∧ okS h.2 = true ∧ okRefs h.2.length ls = true ∧ okRefs h.2.length st = true then some (np, ls, vR h.2.length :: st, (iclr h.1 h.2.length, h.2 ++ [(a, b.toNat, List.replicate b.toNat 3000)])) else none)
def p28 : PF := fun a b tb np ls st h => (match st with | .inl n :: r => (if 0 ≤ n ∧ n ≤ 100000 ∧ h.2.length < 1000 ∧ okS h.2 = true ∧ okRefs h.2.length ls = true ∧ okRefs h.2.length r = true then some (np, ls, vR h.2.length :: r, (iclr h.1 h.2.length, h.2 ++ [(a, n.toNat, [])])) else none) | _ => none)
def p29 : PF := fun a b tb np ls st h => (match st with | .inl n :: r => (if 0 ≤ n ∧ n ≤ 100000 ∧ h.2.length < 1000 ∧ okS h.2 = true ∧ okRefs h.2.length ls = true ∧ okRefs h.2.length r = true then some (np, ls, vR h.2.length :: r, (iclr h.1 h.2.length, h.2 ++ [(103, n.toNat, List.replicate n.toNat 3000)])) else none) | _ => none)
def p30 : PF := fun a b tb np ls st h => (match st with | .inl k :: .inl n :: r => (if 0 ≤ n ∧ n ≤ 900 ∧ 0 ≤ k ∧ k ≤ 1000 ∧ h.2.length + 1 + n.toNat ≤ 1000 ∧ okS h.2 = true ∧ okRefs h.2.length ls = true ∧ okRefs h.2.length r = true then some (np, ls, vR h.2.length :: r, (iclr h.1 h.2.length, (h.2 ++ [(102, n.toNat, (List.range n.toNat).map (fun i => h.2.length + 1 + i))]) ++ List.replicate n.toNat (100, k.toNat, []))) else none) | _ => none)
def p31 : PF := fun a b tb np ls st h => (match st with | .inl x :: r => (if inR (-x) ∧ wcat r ≤ 8 then some (np, ls, vI (if 0 ≤ x then x else -x) :: r, h) else none) | _ => none)
def p32 : PF := fun a b tb np ls st h => (match st with | .inl y :: .inl x :: r => (if wcat r ≤ 8 then some (np, ls, vI (if x < y then y else x) :: r, h) else none) | _ => none)
def p33 : PF := fun a b tb np ls st h => (match st with | .inl y :: .inl x :: r => (if wcat r ≤ 8 then some (np, ls, vI (if y < x then y else x) :: r, h) else none) | _ => none)
def p34 : PF := fun a b tb np ls st h => (match st with | .inl n :: .inl dp :: .inr (.inr d) :: .inl sp :: .inr (.inr c) :: r => (match h.2[c]?, h.2[d]? with | some (kc, zc, _), some (kd, zd, _) => (if kc = 100 ∧ kd = 100 ∧ 0 ≤ sp ∧ 0 ≤ dp ∧ 0 ≤ n ∧ sp + n ≤ zc ∧ dp + n ≤ zd ∧ wcat r ≤ 8 then some (np, ls, r, (icp h.1 c sp.toNat d dp.toNat n.toNat, h.2)) else none) | _, _ => none) | _ => none)
def p35 : PF := fun a b tb np ls st h => (match st with | .inr (.inr _) :: r => (if wcat r ≤ 8 then some (np, ls, r, h) else none) | _ => none)
def p36 : PF := fun a b tb np ls st h => (match st with | .inl i :: .inr (.inr o) :: r => (if o = 1000 ∧ 0 ≤ i ∧ i < h.1 1001 0 then some (np, ls, vI (h.1 1000 i.toNat) :: r, h) else none) | _ => none)
def p37 : PF := fun a b tb np ls st h => (match st with | .inr (.inr o) :: r => (if o = 1000 then some (np, ls, vI (h.1 1001 0) :: r, h) else none) | _ => none)
def pfs : List PF := [p0, p1, p2, p3, p4, p5, p6, p7, p8, p9, p10, p11, p12, p13, p14, p15, p16, p17, p18, p19, p20, p21, p22, p23, p24, p25, p26, p27, p28, p29, p30, p31, p32, p33, p34, p35, p36, p37]
def pstep (op a : Nat) (b : Int) (tb : List (Int × Nat)) (np : Nat) (ls st : List AV) (h : AH) : Option (Nat × List AV × List AV × AH) := match pfs[op]? with | some f => f a b tb np ls st h | none => none
/-! what a step keeps -/
def okV (v : AV) : Prop := match v with | .inl x => inR x | .inr (.inl x) => inL x | .inr (.inr _) => True
def okL (l : List AV) : Prop := ∀ v ∈ l, okV v
def okI (I : Nat → Nat → Int) : Prop := ∀ o k, inR (I o k)
def sl (S : List AO) : Nat := (S.map (fun q => q.2.1)).sum
theorem okL_cons {v : AV} {l : List AV} : okL (v :: l) ↔ okV v ∧ okL l := by simp [okL]
theorem okL_nil : okL [] := by simp [okL]
theorem okL_app {a b : List AV} : okL (a ++ b) ↔ okL a ∧ okL b := by
  simp only [okL, List.mem_append]
  exact ⟨fun h => ⟨fun v hv => h v (Or.inl hv), fun v hv => h v (Or.inr hv)⟩, fun h v hv => hv.elim (h.1 v) (h.2 v)⟩
theorem okL_get {l : List AV} {k : Nat} {v : AV} (h : okL l) (hk : l[k]? = some v) : okV v := h v (List.mem_of_getElem? hk)
theorem okL_set {l : List AV} {k : Nat} {v : AV} (h : okL l) (hv : okV v) : okL (l.set k v) := fun w hw => by
  rcases List.mem_or_eq_of_mem_set hw with h1 | h1
  · exact h w h1
  · rw [h1]; exact hv
theorem okI_up {I : Nat → Nat → Int} {o k : Nat} {x : Int} (h : okI I) (hx : inR x) : okI (iup I o k x) := fun o' k' => by
  unfold iup
  split
  · exact hx
  · exact h _ _
theorem okI_clr {I : Nat → Nat → Int} {n : Nat} (h : okI I) : okI (iclr I n) := fun o' k' => by
  unfold iclr
  split
  · exact ⟨by decide, by decide⟩
  · exact h _ _
theorem okI_cp {I : Nat → Nat → Int} {a b c d n : Nat} (h : okI I) : okI (icp I a b c d n) := fun o' k' => by
  unfold icp
  split <;> exact h _ _
theorem i32_in (x : Int32) : inR x.toInt := ⟨by have := x.le_toInt; omega, by have := x.toInt_lt; omega⟩
theorem bop_in {a : Nat} {x y z : Int} (hx : inR x) (hy : inR y) (h : bop a x y = some z) : inR z := by
  unfold bop at h
  repeat' split at h
  all_goals first
    | (cases h; assumption)
    | (cases h; exact i32_in _)
    | (cases h; rename_i hh; exact hh.2)
    | (cases h; done)
    | skip
  · cases h
    rename_i hh
    have h2 : x.tmod y = x - y * x.tdiv y := by have := Int.mul_tdiv_add_tmod x y; omega
    have h3 : (x.tmod y).natAbs < y.natAbs := by rw [Int.natAbs_tmod]; exact Nat.mod_lt _ (by omega)
    have h4 : (x.tmod y).natAbs ≤ x.natAbs := by rw [Int.natAbs_tmod]; exact Nat.mod_le _ _
    unfold inR at *
    omega
theorem sl_set {S : List AO} {o kd sz : Nat} {rf rf' : List Nat} (h : S[o]? = some (kd, sz, rf)) : sl S ≤ sl (S.set o (kd, sz, rf')) := by
  induction S generalizing o with
  | nil => simp [sl]
  | cons q S ih =>
    cases o with
    | zero => simp at h; subst h; simp [sl]
    | succ o => simp at h; have := ih h; simp [sl] at this ⊢; omega
theorem sl_app {S T : List AO} : sl (S ++ T) = sl S + sl T := by simp [sl]
def okPF (f : PF) : Prop := ∀ {a : Nat} {b : Int} {tb : List (Int × Nat)} {np pc' : Nat} {ls st ls' st' : List AV} {h h' : AH}, f a b tb np ls st h = some (pc', ls', st', h') → okL ls → okL st → okI h.1 → okL ls' ∧ okL st' ∧ okI h'.1 ∧ h.2.length ≤ h'.2.length ∧ sl h.2 ≤ sl h'.2 ∧ ls'.length = ls.length
theorem ok_p0 : okPF p0 := by
  intro a b tb np pc' ls st ls' st' h h' e hl hs hI
  unfold p0 at e
  (try dsimp only at e)
  (repeat' split at e)
  all_goals first
    | (cases e; done)
    | (cases e; exact ⟨hl, okL_cons.mpr ⟨by assumption, hs⟩, hI, Nat.le_refl _, Nat.le_refl _, rfl⟩)
theorem ok_p1 : okPF p1 := by
  intro a b tb np pc' ls st ls' st' h h' e hl hs hI
  unfold p1 at e
  (try dsimp only at e)
  (repeat' split at e)
  all_goals first
    | (cases e; done)
    | (cases e; exact ⟨hl, okL_cons.mpr ⟨by assumption, hs⟩, hI, Nat.le_refl _, Nat.le_refl _, rfl⟩)
theorem ok_p2 : okPF p2 := by
  intro a b tb np pc' ls st ls' st' h h' e hl hs hI
  unfold p2 at e
  (try dsimp only at e)
  (repeat' split at e)
  all_goals first
    | (cases e; done)
    | (cases e; exact ⟨hl, okL_cons.mpr ⟨okL_get hl (by assumption), hs⟩, hI, Nat.le_refl _, Nat.le_refl _, rfl⟩)
theorem ok_p3 : okPF p3 := by
  intro a b tb np pc' ls st ls' st' h h' e hl hs hI
  unfold p3 at e
  (try dsimp only at e)
  (repeat' split at e)
  all_goals first
    | (cases e; done)
    | (cases e; exact ⟨hl, okL_cons.mpr ⟨okL_get hl (by assumption), hs⟩, hI, Nat.le_refl _, Nat.le_refl _, rfl⟩)
theorem ok_p4 : okPF p4 := by
  intro a b tb np pc' ls st ls' st' h h' e hl hs hI
  unfold p4 at e
  (try dsimp only at e)
  (repeat' split at e)
  all_goals first
    | (cases e; done)
    | (cases e; exact ⟨okL_set hl (okL_cons.mp hs).1, (okL_cons.mp hs).2, hI, Nat.le_refl _, Nat.le_refl _, by simp⟩)
theorem ok_p5 : okPF p5 := by
  intro a b tb np pc' ls st ls' st' h h' e hl hs hI
  unfold p5 at e
  (try dsimp only at e)
  (repeat' split at e)
  all_goals first
    | (cases e; done)
    | (cases e; exact ⟨okL_set hl (okL_cons.mp hs).1, (okL_cons.mp hs).2, hI, Nat.le_refl _, Nat.le_refl _, by simp⟩)
theorem ok_p6 : okPF p6 := by
  intro a b tb np pc' ls st ls' st' h h' e hl hs hI
  unfold p6 at e
  (try dsimp only at e)
  (repeat' split at e)
  all_goals first
    | (cases e; done)
    | (cases e; exact ⟨okL_set hl (by assumption), hs, hI, Nat.le_refl _, Nat.le_refl _, by simp⟩)
theorem ok_p7 : okPF p7 := by
  intro a b tb np pc' ls st ls' st' h h' e hl hs hI
  unfold p7 at e
  (try dsimp only at e)
  (repeat' split at e)
  all_goals first
    | (cases e; done)
    | (cases e; exact ⟨hl, okL_cons.mpr ⟨hI _ _, (okL_cons.mp hs).2⟩, hI, Nat.le_refl _, Nat.le_refl _, rfl⟩)
theorem ok_p8 : okPF p8 := by
  intro a b tb np pc' ls st ls' st' h h' e hl hs hI
  unfold p8 at e
  (try dsimp only at e)
  (repeat' split at e)
  all_goals first
    | (cases e; done)
    | (cases e; exact ⟨hl, okL_cons.mpr ⟨trivial, (okL_cons.mp hs).2⟩, hI, Nat.le_refl _, Nat.le_refl _, rfl⟩)
theorem ok_p9 : okPF p9 := by
  intro a b tb np pc' ls st ls' st' h h' e hl hs hI
  unfold p9 at e
  (try dsimp only at e)
  (repeat' split at e)
  all_goals first
    | (cases e; done)
    | (cases e; exact ⟨hl, (okL_cons.mp (okL_cons.mp hs).2).2, okI_up hI (okL_cons.mp hs).1, Nat.le_refl _, Nat.le_refl _, rfl⟩)
theorem ok_p10 : okPF p10 := by
  intro a b tb np pc' ls st ls' st' h h' e hl hs hI
  unfold p10 at e
  (try dsimp only at e)
  (repeat' split at e)
  all_goals first
    | (cases e; done)
    | (cases e; exact ⟨hl, (okL_cons.mp (okL_cons.mp hs).2).2, hI, by simp, sl_set (by assumption), rfl⟩)
theorem ok_p11 : okPF p11 := by
  intro a b tb np pc' ls st ls' st' h h' e hl hs hI
  unfold p11 at e
  (try dsimp only at e)
  (repeat' split at e)
  all_goals first
    | (cases e; done)
    | (cases e; exact ⟨hl, okL_cons.mpr ⟨hI _ _, (okL_cons.mp (okL_cons.mp hs).2).2⟩, hI, Nat.le_refl _, Nat.le_refl _, rfl⟩)
theorem ok_p12 : okPF p12 := by
  intro a b tb np pc' ls st ls' st' h h' e hl hs hI
  unfold p12 at e
  (try dsimp only at e)
  (repeat' split at e)
  all_goals first
    | (cases e; done)
    | (cases e; exact ⟨hl, okL_cons.mpr ⟨trivial, (okL_cons.mp (okL_cons.mp hs).2).2⟩, hI, Nat.le_refl _, Nat.le_refl _, rfl⟩)
theorem ok_p13 : okPF p13 := by
  intro a b tb np pc' ls st ls' st' h h' e hl hs hI
  unfold p13 at e
  (try dsimp only at e)
  (repeat' split at e)
  all_goals first
    | (cases e; done)
    | (cases e; exact ⟨hl, (okL_cons.mp (okL_cons.mp (okL_cons.mp hs).2).2).2, okI_up hI (okL_cons.mp hs).1, Nat.le_refl _, Nat.le_refl _, rfl⟩)
theorem ok_p14 : okPF p14 := by
  intro a b tb np pc' ls st ls' st' h h' e hl hs hI
  unfold p14 at e
  (try dsimp only at e)
  (repeat' split at e)
  all_goals first
    | (cases e; done)
    | (cases e; exact ⟨hl, (okL_cons.mp (okL_cons.mp (okL_cons.mp hs).2).2).2, hI, by simp, sl_set (by assumption), rfl⟩)
theorem ok_p15 : okPF p15 := by
  intro a b tb np pc' ls st ls' st' h h' e hl hs hI
  unfold p15 at e
  (try dsimp only at e)
  (repeat' split at e)
  all_goals first
    | (cases e; done)
    | (cases e; exact ⟨hl, okL_cons.mpr ⟨by simp only [okV]; omega, (okL_cons.mp hs).2⟩, hI, Nat.le_refl _, Nat.le_refl _, rfl⟩)
theorem ok_p16 : okPF p16 := by
  intro a b tb np pc' ls st ls' st' h h' e hl hs hI
  unfold p16 at e
  (try dsimp only at e)
  (repeat' split at e)
  all_goals first
    | (cases e; done)
    | (cases e; exact ⟨hl, okL_cons.mpr ⟨bop_in (okL_cons.mp (okL_cons.mp hs).2).1 (okL_cons.mp hs).1 (by assumption), (okL_cons.mp (okL_cons.mp hs).2).2⟩, hI, Nat.le_refl _, Nat.le_refl _, rfl⟩)
theorem ok_p17 : okPF p17 := by
  intro a b tb np pc' ls st ls' st' h h' e hl hs hI
  unfold p17 at e
  (try dsimp only at e)
  (repeat' split at e)
  all_goals first
    | (cases e; done)
    | (cases e; exact ⟨hl, hs, hI, Nat.le_refl _, Nat.le_refl _, rfl⟩)
theorem ok_p18 : okPF p18 := by
  intro a b tb np pc' ls st ls' st' h h' e hl hs hI
  unfold p18 at e
  (try dsimp only at e)
  (repeat' split at e)
  all_goals first
    | (cases e; done)
    | (cases e; exact ⟨hl, okL_cons.mpr ⟨by have := (okL_cons.mp hs).1; simp only [okV] at this ⊢; omega, (okL_cons.mp hs).2⟩, hI, Nat.le_refl _, Nat.le_refl _, rfl⟩)
theorem ok_p19 : okPF p19 := by
  intro a b tb np pc' ls st ls' st' h h' e hl hs hI
  unfold p19 at e
  (try dsimp only at e)
  (repeat' split at e)
  all_goals first
    | (cases e; done)
    | (cases e; exact ⟨hl, okL_cons.mpr ⟨by simp only [okV]; decide, (okL_cons.mp (okL_cons.mp hs).2).2⟩, hI, Nat.le_refl _, Nat.le_refl _, rfl⟩)
theorem ok_p20 : okPF p20 := by
  intro a b tb np pc' ls st ls' st' h h' e hl hs hI
  unfold p20 at e
  (try dsimp only at e)
  (repeat' split at e)
  all_goals first
    | (cases e; done)
    | (cases e; exact ⟨hl, (okL_cons.mp hs).2, hI, Nat.le_refl _, Nat.le_refl _, rfl⟩)
theorem ok_p21 : okPF p21 := by
  intro a b tb np pc' ls st ls' st' h h' e hl hs hI
  unfold p21 at e
  (try dsimp only at e)
  (repeat' split at e)
  all_goals first
    | (cases e; done)
    | (cases e; exact ⟨hl, (okL_cons.mp (okL_cons.mp hs).2).2, hI, Nat.le_refl _, Nat.le_refl _, rfl⟩)
theorem ok_p22 : okPF p22 := by
  intro a b tb np pc' ls st ls' st' h h' e hl hs hI
  unfold p22 at e
  (try dsimp only at e)
  (repeat' split at e)
  all_goals first
    | (cases e; done)
    | (cases e; exact ⟨hl, hs, hI, Nat.le_refl _, Nat.le_refl _, rfl⟩)
theorem ok_p23 : okPF p23 := by
  intro a b tb np pc' ls st ls' st' h h' e hl hs hI
  unfold p23 at e
  (try dsimp only at e)
  (repeat' split at e)
  all_goals first
    | (cases e; done)
    | (cases e; exact ⟨hl, (okL_cons.mp hs).2, hI, Nat.le_refl _, Nat.le_refl _, rfl⟩)
theorem ok_p24 : okPF p24 := by
  intro a b tb np pc' ls st ls' st' h h' e hl hs hI
  unfold p24 at e
  (try dsimp only at e)
  (repeat' split at e)
  all_goals first
    | (cases e; done)
    | (cases e; exact ⟨hl, okL_cons.mpr ⟨(okL_cons.mp hs).1, hs⟩, hI, Nat.le_refl _, Nat.le_refl _, rfl⟩)
theorem ok_p25 : okPF p25 := by
  intro a b tb np pc' ls st ls' st' h h' e hl hs hI
  unfold p25 at e
  (try dsimp only at e)
  (repeat' split at e)
  all_goals first
    | (cases e; done)
    | (cases e; exact ⟨hl, okL_cons.mpr ⟨(okL_cons.mp hs).1, okL_cons.mpr ⟨(okL_cons.mp (okL_cons.mp hs).2).1, hs⟩⟩, hI, Nat.le_refl _, Nat.le_refl _, rfl⟩)
theorem ok_p26 : okPF p26 := by
  intro a b tb np pc' ls st ls' st' h h' e hl hs hI
  unfold p26 at e
  (try dsimp only at e)
  (repeat' split at e)
  all_goals first
    | (cases e; done)
    | (cases e; exact ⟨hl, (okL_cons.mp hs).2, hI, Nat.le_refl _, Nat.le_refl _, rfl⟩)
theorem ok_p27 : okPF p27 := by
  intro a b tb np pc' ls st ls' st' h h' e hl hs hI
  unfold p27 at e
  (try dsimp only at e)
  (repeat' split at e)
  all_goals first
    | (cases e; done)
    | (cases e; exact ⟨hl, okL_cons.mpr ⟨trivial, hs⟩, okI_clr hI, by simp, by simp [sl_app], rfl⟩)
theorem ok_p28 : okPF p28 := by
  intro a b tb np pc' ls st ls' st' h h' e hl hs hI
  unfold p28 at e
  (try dsimp only at e)
  (repeat' split at e)
  all_goals first
    | (cases e; done)
    | (cases e; exact ⟨hl, okL_cons.mpr ⟨trivial, (okL_cons.mp hs).2⟩, okI_clr hI, by simp, by simp [sl_app], rfl⟩)
theorem ok_p29 : okPF p29 := by
  intro a b tb np pc' ls st ls' st' h h' e hl hs hI
  unfold p29 at e
  (try dsimp only at e)
  (repeat' split at e)
  all_goals first
    | (cases e; done)
    | (cases e; exact ⟨hl, okL_cons.mpr ⟨trivial, (okL_cons.mp hs).2⟩, okI_clr hI, by simp, by simp [sl_app], rfl⟩)
theorem ok_p30 : okPF p30 := by
  intro a b tb np pc' ls st ls' st' h h' e hl hs hI
  unfold p30 at e
  (try dsimp only at e)
  (repeat' split at e)
  all_goals first
    | (cases e; done)
    | (cases e; exact ⟨hl, okL_cons.mpr ⟨trivial, (okL_cons.mp (okL_cons.mp hs).2).2⟩, okI_clr hI, by simp, by simp only [sl_app]; omega, rfl⟩)
theorem ok_p31 : okPF p31 := by
  intro a b tb np pc' ls st ls' st' h h' e hl hs hI
  unfold p31 at e
  (try dsimp only at e)
  (repeat' split at e)
  all_goals first
    | (cases e; done)
    | (cases e; exact ⟨hl, okL_cons.mpr ⟨by first | exact (okL_cons.mp hs).1 | exact (‹inR (-_) ∧ _›).1, (okL_cons.mp hs).2⟩, hI, Nat.le_refl _, Nat.le_refl _, rfl⟩)
theorem ok_p32 : okPF p32 := by
  intro a b tb np pc' ls st ls' st' h h' e hl hs hI
  unfold p32 at e
  (try dsimp only at e)
  (repeat' split at e)
  all_goals first
    | (cases e; done)
    | (cases e; exact ⟨hl, okL_cons.mpr ⟨by first | exact (okL_cons.mp hs).1 | exact (okL_cons.mp (okL_cons.mp hs).2).1, (okL_cons.mp (okL_cons.mp hs).2).2⟩, hI, Nat.le_refl _, Nat.le_refl _, rfl⟩)
theorem ok_p33 : okPF p33 := by
  intro a b tb np pc' ls st ls' st' h h' e hl hs hI
  unfold p33 at e
  (try dsimp only at e)
  (repeat' split at e)
  all_goals first
    | (cases e; done)
    | (cases e; exact ⟨hl, okL_cons.mpr ⟨by first | exact (okL_cons.mp hs).1 | exact (okL_cons.mp (okL_cons.mp hs).2).1, (okL_cons.mp (okL_cons.mp hs).2).2⟩, hI, Nat.le_refl _, Nat.le_refl _, rfl⟩)
theorem ok_p34 : okPF p34 := by
  intro a b tb np pc' ls st ls' st' h h' e hl hs hI
  unfold p34 at e
  (try dsimp only at e)
  (repeat' split at e)
  all_goals first
    | (cases e; done)
    | (cases e; exact ⟨hl, (okL_cons.mp (okL_cons.mp (okL_cons.mp (okL_cons.mp (okL_cons.mp hs).2).2).2).2).2, okI_cp hI, Nat.le_refl _, Nat.le_refl _, rfl⟩)
theorem ok_p35 : okPF p35 := by
  intro a b tb np pc' ls st ls' st' h h' e hl hs hI
  unfold p35 at e
  (try dsimp only at e)
  (repeat' split at e)
  all_goals first
    | (cases e; done)
    | (cases e; exact ⟨hl, (okL_cons.mp hs).2, hI, Nat.le_refl _, Nat.le_refl _, rfl⟩)
theorem ok_p36 : okPF p36 := by
  intro a b tb np pc' ls st ls' st' h h' e hl hs hI
  unfold p36 at e
  (try dsimp only at e)
  (repeat' split at e)
  all_goals first
    | (cases e; done)
    | (cases e; exact ⟨hl, okL_cons.mpr ⟨hI _ _, (okL_cons.mp (okL_cons.mp hs).2).2⟩, hI, Nat.le_refl _, Nat.le_refl _, rfl⟩)
theorem ok_p37 : okPF p37 := by
  intro a b tb np pc' ls st ls' st' h h' e hl hs hI
  unfold p37 at e
  (try dsimp only at e)
  (repeat' split at e)
  all_goals first
    | (cases e; done)
    | (cases e; exact ⟨hl, okL_cons.mpr ⟨hI _ _, (okL_cons.mp hs).2⟩, hI, Nat.le_refl _, Nat.le_refl _, rfl⟩)
theorem pfs_ok : ∀ f ∈ pfs, okPF f := by
  unfold pfs
  simp only [List.forall_mem_cons]
  exact ⟨ok_p0, ok_p1, ok_p2, ok_p3, ok_p4, ok_p5, ok_p6, ok_p7, ok_p8, ok_p9, ok_p10, ok_p11, ok_p12, ok_p13, ok_p14, ok_p15, ok_p16, ok_p17, ok_p18, ok_p19, ok_p20, ok_p21, ok_p22, ok_p23, ok_p24, ok_p25, ok_p26, ok_p27, ok_p28, ok_p29, ok_p30, ok_p31, ok_p32, ok_p33, ok_p34, ok_p35, ok_p36, ok_p37, fun f h => absurd h List.not_mem_nil⟩
theorem pstep_ok {op a : Nat} {b : Int} {tb : List (Int × Nat)} {np pc' : Nat} {ls st ls' st' : List AV} {h h' : AH} (e : pstep op a b tb np ls st h = some (pc', ls', st', h')) (hl : okL ls) (hs : okL st) (hI : okI h.1) : okL ls' ∧ okL st' ∧ okI h'.1 ∧ h.2.length ≤ h'.2.length ∧ sl h.2 ≤ sl h'.2 ∧ ls'.length = ls.length := by
  unfold pstep at e
  split at e
  · rename_i f hf
    exact pfs_ok f (List.mem_of_getElem? hf) e hl hs hI
  · cases e
