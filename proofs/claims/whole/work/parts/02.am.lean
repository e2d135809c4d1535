/-! AM: an abstract machine over whole numbers; a step is 'none' where the machine would throw or a number would leave its range -/
abbrev AV : Type := Int ⊕ (Int ⊕ Nat)
abbrev vI (x : Int) : AV := Sum.inl x
abbrev vL (x : Int) : AV := Sum.inr (Sum.inl x)
abbrev vR (o : Nat) : AV := Sum.inr (Sum.inr o)
abbrev vU : AV := vL 0
abbrev AO : Type := Nat × Nat × List Nat
abbrev AH : Type := (Nat → Nat → Int) × List AO
abbrev RI : Type := Nat × Nat × Int × List (Int × Nat)
abbrev inR (x : Int) : Prop := -2147483648 ≤ x ∧ x ≤ 2147483647
abbrev inL (x : Int) : Prop := -9223372036854775808 ≤ x ∧ x ≤ 9223372036854775807
def iup (I : Nat → Nat → Int) (o k : Nat) (x : Int) : Nat → Nat → Int := fun o' k' => if o' = o ∧ k' = k then x else I o' k'
def iclr (I : Nat → Nat → Int) (n : Nat) : Nat → Nat → Int := fun o' k' => if n ≤ o' ∧ o' < 1000 then 0 else I o' k'
def icp (I : Nat → Nat → Int) (src sp dst dp n : Nat) : Nat → Nat → Int := fun o' k' => if o' = dst ∧ dp ≤ k' ∧ k' < dp + n then I src (sp + (k' - dp)) else I o' k'
def okRefs (n : Nat) (l : List AV) : Bool := l.all (fun v => match v with | .inr (.inr o) => decide (o < n ∨ 1000 ≤ o) | _ => true)
def okS (S : List AO) : Bool := S.all (fun q => q.2.2.all (fun r => decide (r < S.length ∨ r = 3000)))
def wcat (l : List AV) : Nat := (l.map (fun v => match v with | .inr (.inl _) => 2 | _ => 1)).sum
def bop (a : Nat) (x y : Int) : Option Int :=
  if a = 0 then (if inR (x + y) then some (x + y) else none)
  else if a = 1 then (if inR (x - y) then some (x - y) else none)
  else if a = 2 then (if inR (x * y) then some (x * y) else none)
  else if a = 3 then (if y ≠ 0 ∧ inR (x.tdiv y) then some (x.tdiv y) else none)
  else if a = 4 then (if y ≠ 0 ∧ inR (x.tdiv y) then some (x.tmod y) else none)
  else if a = 5 then some (Int32.ofInt x <<< (Int32.ofInt y &&& 31)).toInt
  else if a = 6 then some (Int32.ofInt x >>> (Int32.ofInt y &&& 31)).toInt
  else if a = 7 then some (Int32.ofInt x &&& Int32.ofInt y).toInt
  else if a = 8 then some (Int32.ofInt x ||| Int32.ofInt y).toInt
  else if a = 9 then some (Int32.ofInt x ^^^ Int32.ofInt y).toInt
  else none
abbrev cop (b : Nat) (x y : Int) : Prop :=
  if b = 0 then x = y else if b = 1 then ¬ x = y else if b = 2 then x < y else if b = 3 then y ≤ x else if b = 4 then y < x else x ≤ y
def tlook : List (Int × Nat) → Int → Nat → Nat
  | [], _, d => d
  | q :: l, x, d => if x = q.1 then q.2 else tlook l x d
def ps1 (op a : Nat) (b : Int) (tb : List (Int × Nat)) (np : Nat) (ls st : List AV) (h : AH) : Option (Nat × List AV × List AV × AH) :=
  if op = 0 then (if inR b then some (np, ls, vI b :: st, h) else none)
  else if op = 1 then (if inL b then some (np, ls, vL b :: st, h) else none)
  else if op = 2 then (match ls[a]? with | some (.inl x) => some (np, ls, vI x :: st, h) | _ => none)
  else if op = 3 then (match ls[a]? with | some (.inr (.inr o)) => some (np, ls, vR o :: st, h) | _ => none)
  else if op = 4 then (match st with | .inl x :: r => (if a < ls.length then some (np, ls.set a (vI x), r, h) else none) | _ => none)
  else if op = 5 then (match st with | .inr (.inr o) :: r => (if a < ls.length then some (np, ls.set a (vR o), r, h) else none) | _ => none)
  else if op = 6 then (match ls[a]? with | some (.inl x) => (if inR (x + b) then some (np, ls.set a (vI (x + b)), st, h) else none) | _ => none)
  else if op = 7 then (match st with | .inr (.inr o) :: r => (match h.2[o]? with | some (kd, sz, _) => (if kd = a ∧ b.toNat < sz then some (np, ls, vI (h.1 o b.toNat) :: r, h) else none) | none => none) | _ => none)
  else if op = 8 then (match st with | .inr (.inr o) :: r => (match h.2[o]? with | some (kd, sz, rf) => (match rf[b.toNat]? with | some q => (if kd = a ∧ b.toNat < sz ∧ q < 1000 then some (np, ls, vR q :: r, h) else none) | none => none) | none => none) | _ => none)
  else if op = 9 then (match st with | .inl x :: .inr (.inr o) :: r => (match h.2[o]? with | some (kd, sz, _) => (if kd = a ∧ b.toNat < sz ∧ (tb = [] ∨ x = 0 ∨ x = 1) then some (np, ls, r, (iup h.1 o b.toNat x, h.2)) else none) | none => none) | _ => none)
  else if op = 10 then (match st with | .inr (.inr q) :: .inr (.inr o) :: r => (match h.2[o]? with | some (kd, sz, rf) => (if kd = a ∧ b.toNat < sz ∧ q < h.2.length ∧ b.toNat < rf.length then some (np, ls, r, (h.1, h.2.set o (kd, sz, rf.set b.toNat q))) else none) | none => none) | _ => none)
  else if op = 11 then (match st with | .inl i :: .inr (.inr o) :: r => (match h.2[o]? with | some (kd, sz, _) => (if kd = a ∧ 0 ≤ i ∧ i < sz then some (np, ls, vI (h.1 o i.toNat) :: r, h) else none) | none => none) | _ => none)
  else if op = 12 then (match st with | .inl i :: .inr (.inr o) :: r => (match h.2[o]? with | some (kd, sz, rf) => (match rf[i.toNat]? with | some q => (if (kd = 102 ∨ kd = 103) ∧ 0 ≤ i ∧ i < sz ∧ q < 1000 then some (np, ls, vR q :: r, h) else none) | none => none) | none => none) | _ => none)
  else none
def ps2 (op a : Nat) (b : Int) (tb : List (Int × Nat)) (np : Nat) (ls st : List AV) (h : AH) : Option (Nat × List AV × List AV × AH) :=
  if op = 13 then (match st with | .inl x :: .inl i :: .inr (.inr o) :: r => (match h.2[o]? with | some (kd, sz, _) => (if kd = a ∧ 0 ≤ i ∧ i < sz ∧ (a = 100 ∨ (-128 ≤ x ∧ x ≤ 127)) then some (np, ls, r, (iup h.1 o i.toNat x, h.2)) else none) | none => none) | _ => none)
  else if op = 14 then (match st with | .inr (.inr q) :: .inl i :: .inr (.inr o) :: r => (match h.2[o]?, h.2[q]? with | some (kd, sz, rf), some (kq, _, _) => (if kd = 103 ∧ kq = 8 ∧ 0 ≤ i ∧ i < sz ∧ i.toNat < rf.length then some (np, ls, r, (h.1, h.2.set o (kd, sz, rf.set i.toNat q))) else none) | _, _ => none) | _ => none)
  else if op = 15 then (match st with | .inr (.inr o) :: r => (match h.2[o]? with | some (kd, sz, _) => (if 100 ≤ kd ∧ kd ≤ 103 ∧ sz ≤ 100000 then some (np, ls, vI sz :: r, h) else none) | none => none) | _ => none)
  else if op = 16 then (match st with | .inl y :: .inl x :: r => (match bop a x y with | some z => some (np, ls, vI z :: r, h) | none => none) | _ => none)
  else if op = 17 then (match st with | .inl x :: r => (if -128 ≤ x ∧ x ≤ 127 then some (np, ls, vI x :: r, h) else none) | _ => none)
  else if op = 18 then (match st with | .inl x :: r => some (np, ls, vL x :: r, h) | _ => none)
  else if op = 19 then (match st with | .inr (.inl y) :: .inr (.inl x) :: r => some (np, ls, vI (if y < x then 1 else if x = y then 0 else -1) :: r, h) | _ => none)
  else if op = 20 then (match st with | .inl x :: r => some ((if cop a x 0 then b.toNat else np), ls, r, h) | _ => none)
  else if op = 21 then (match st with | .inl y :: .inl x :: r => some ((if cop a x y then b.toNat else np), ls, r, h) | _ => none)
  else if op = 22 then some (b.toNat, ls, st, h)
  else if op = 23 then (match st with | .inl x :: r => some (tlook tb x b.toNat, ls, r, h) | _ => none)
  else if op = 24 then (match st with | .inl x :: r => some (np, ls, vI x :: vI x :: r, h) | .inr (.inr o) :: r => some (np, ls, vR o :: vR o :: r, h) | _ => none)
  else if op = 25 then (match st with | .inl y :: .inr (.inr o) :: r => some (np, ls, vI y :: vR o :: vI y :: vR o :: r, h) | _ => none)
  else if op = 26 then (match st with | .inl _ :: r => some (np, ls, r, h) | _ => none)
  else none
def ps3 (op a : Nat) (b : Int) (np : Nat) (ls st : List AV) (h : AH) : Option (Nat × List AV × List AV × AH) :=
  if op = 27 then (if h.2.length < 1000 ∧ okS h.2 = true ∧ okRefs h.2.length ls = true ∧ okRefs h.2.length st = true then some (np, ls, vR h.2.length :: st, (iclr h.1 h.2.length, h.2 ++ [(a, b.toNat, List.replicate b.toNat 3000)])) else none)
  else if op = 28 then (match st with | .inl n :: r => (if 0 ≤ n ∧ n ≤ 100000 ∧ h.2.length < 1000 ∧ okS h.2 = true ∧ okRefs h.2.length ls = true ∧ okRefs h.2.length r = true then some (np, ls, vR h.2.length :: r, (iclr h.1 h.2.length, h.2 ++ [(a, n.toNat, [])])) else none) | _ => none)
  else if op = 29 then (match st with | .inl n :: r => (if 0 ≤ n ∧ n ≤ 100000 ∧ h.2.length < 1000 ∧ okS h.2 = true ∧ okRefs h.2.length ls = true ∧ okRefs h.2.length r = true then some (np, ls, vR h.2.length :: r, (iclr h.1 h.2.length, h.2 ++ [(103, n.toNat, List.replicate n.toNat 3000)])) else none) | _ => none)
  else if op = 30 then (match st with | .inl k :: .inl n :: r => (if 0 ≤ n ∧ n ≤ 900 ∧ 0 ≤ k ∧ k ≤ 1000 ∧ h.2.length + 1 + n.toNat ≤ 1000 ∧ okS h.2 = true ∧ okRefs h.2.length ls = true ∧ okRefs h.2.length r = true then some (np, ls, vR h.2.length :: r, (iclr h.1 h.2.length, (h.2 ++ [(102, n.toNat, (List.range n.toNat).map (fun i => h.2.length + 1 + i))]) ++ List.replicate n.toNat (100, k.toNat, []))) else none) | _ => none)
  else if op = 31 then (match st with | .inl x :: r => (if inR (-x) ∧ wcat r ≤ 8 then some (np, ls, vI (if 0 ≤ x then x else -x) :: r, h) else none) | _ => none)
  else if op = 32 then (match st with | .inl y :: .inl x :: r => (if wcat r ≤ 8 then some (np, ls, vI (if x < y then y else x) :: r, h) else none) | _ => none)
  else if op = 33 then (match st with | .inl y :: .inl x :: r => (if wcat r ≤ 8 then some (np, ls, vI (if y < x then y else x) :: r, h) else none) | _ => none)
  else if op = 34 then (match st with | .inl n :: .inl dp :: .inr (.inr d) :: .inl sp :: .inr (.inr c) :: r => (match h.2[c]?, h.2[d]? with | some (kc, zc, _), some (kd, zd, _) => (if kc = 100 ∧ kd = 100 ∧ 0 ≤ sp ∧ 0 ≤ dp ∧ 0 ≤ n ∧ sp + n ≤ zc ∧ dp + n ≤ zd ∧ wcat r ≤ 8 then some (np, ls, r, (icp h.1 c sp.toNat d dp.toNat n.toNat, h.2)) else none) | _, _ => none) | _ => none)
  else if op = 35 then (match st with | .inr (.inr _) :: r => (if wcat r ≤ 8 then some (np, ls, r, h) else none) | _ => none)
  else if op = 36 then (match st with | .inl i :: .inr (.inr o) :: r => (if o = 1000 ∧ 0 ≤ i ∧ i < h.1 1001 0 then some (np, ls, vI (h.1 1000 i.toNat) :: r, h) else none) | _ => none)
  else if op = 37 then (match st with | .inr (.inr o) :: r => (if o = 1000 then some (np, ls, vI (h.1 1001 0) :: r, h) else none) | _ => none)
  else none
def pstep (op a : Nat) (b : Int) (tb : List (Int × Nat)) (np : Nat) (ls st : List AV) (h : AH) : Option (Nat × List AV × List AV × AH) :=
  if op < 13 then ps1 op a b tb np ls st h else if op < 27 then ps2 op a b tb np ls st h else ps3 op a b np ls st h
/-! what a step keeps -/
def okV (v : AV) : Prop := match v with | .inl x => inR x | .inr (.inl x) => inL x | .inr (.inr _) => True
def okL (l : List AV) : Prop := ∀ v ∈ l, okV v
def okI (I : Nat → Nat → Int) : Prop := ∀ o k, inR (I o k)
def sl (S : List AO) : Nat := (S.map (fun q => q.2.1)).sum
theorem okL_cons {v : AV} {l : List AV} : okL (v :: l) ↔ okV v ∧ okL l := by simp [okL]
theorem okL_nil : okL [] := by simp [okL]
theorem okL_app {a b : List AV} : okL (a ++ b) ↔ okL a ∧ okL b := by
  simp only [okL, List.mem_append]
  exact ⟨fun h => ⟨fun v hv => h v (Or.inl hv), fun v hv => h v (Or.inr hv)⟩, fun h v hv => hv.elim (h.1 v) (h.2 v)⟩
theorem okL_get {l : List AV} {k : Nat} {v : AV} (h : okL l) (hk : l[k]? = some v) : okV v := h v (List.mem_of_getElem? hk)
theorem okL_set {l : List AV} {k : Nat} {v : AV} (h : okL l) (hv : okV v) : okL (l.set k v) := fun w hw => by
  rcases List.mem_or_eq_of_mem_set hw with h1 | h1
  · exact h w h1
  · rw [h1]; exact hv
theorem okI_up {I : Nat → Nat → Int} {o k : Nat} {x : Int} (h : okI I) (hx : inR x) : okI (iup I o k x) := fun o' k' => by
  unfold iup
  split
  · exact hx
  · exact h _ _
theorem okI_clr {I : Nat → Nat → Int} {n : Nat} (h : okI I) : okI (iclr I n) := fun o' k' => by
  unfold iclr
  split
  · exact ⟨by decide, by decide⟩
  · exact h _ _
theorem okI_cp {I : Nat → Nat → Int} {a b c d n : Nat} (h : okI I) : okI (icp I a b c d n) := fun o' k' => by
  unfold icp
  split <;> exact h _ _
theorem i32_in (x : Int32) : inR x.toInt := ⟨by have := x.le_toInt; omega, by have := x.toInt_lt; omega⟩
theorem bop_in {a : Nat} {x y z : Int} (hx : inR x) (hy : inR y) (h : bop a x y = some z) : inR z := by
  unfold bop at h
  repeat' split at h
  all_goals first
    | (cases h; assumption)
    | (cases h; exact i32_in _)
    | (cases h; rename_i hh; exact hh.2)
    | (cases h; done)
    | skip
  · cases h
    rename_i hh
    have h1 := Int.tmod_eq x y
    have h2 : x.tmod y = x - y * x.tdiv y := by have := Int.mul_tdiv_add_tmod x y; omega
    have h3 : (x.tmod y).natAbs ≤ x.natAbs := by rw [Int.natAbs_tmod]; exact Nat.mod_le _ _
    unfold inR at *
    omega
theorem ps1_ok {op a : Nat} {b : Int} {tb : List (Int × Nat)} {np pc' : Nat} {ls st ls' st' : List AV} {h h' : AH} (e : ps1 op a b tb np ls st h = some (pc', ls', st', h')) (hl : okL ls) (hs : okL st) (hI : okI h.1) : okL ls' ∧ okL st' ∧ okI h'.1 ∧ h.2.length ≤ h'.2.length ∧ sl h.2 ≤ sl h'.2 ∧ ls'.length = ls.length := by
  unfold ps1 at e
  repeat' split at e
  all_goals first
    | (cases e; done)
    | (simp only [Option.some.injEq, Prod.mk.injEq] at e
       obtain ⟨rfl, rfl, rfl, rfl⟩ := e
       simp only [okL_cons] at hs ⊢
       first
         | exact ⟨hl, ⟨by assumption, hs⟩, hI, Nat.le_refl _, Nat.le_refl _, rfl⟩
         | exact ⟨hl, ⟨okL_get hl (by assumption), hs⟩, hI, Nat.le_refl _, Nat.le_refl _, rfl⟩
         | exact ⟨hl, ⟨trivial, hs.2⟩, hI, Nat.le_refl _, Nat.le_refl _, rfl⟩
         | exact ⟨hl, ⟨trivial, hs.2.2⟩, hI, Nat.le_refl _, Nat.le_refl _, rfl⟩
         | exact ⟨hl, ⟨hI _ _, hs.2⟩, hI, Nat.le_refl _, Nat.le_refl _, rfl⟩
         | exact ⟨hl, ⟨hI _ _, hs.2.2⟩, hI, Nat.le_refl _, Nat.le_refl _, rfl⟩
         | exact ⟨okL_set hl hs.1, hs.2, hI, Nat.le_refl _, Nat.le_refl _, by simp⟩
         | exact ⟨okL_set hl (by assumption), hs, hI, Nat.le_refl _, Nat.le_refl _, by simp⟩
         | exact ⟨hl, hs.2.2, okI_up hI hs.1, Nat.le_refl _, Nat.le_refl _, rfl⟩
         | (refine ⟨hl, hs.2.2, hI, by simp, ?_, rfl⟩
            rename_i hq _
            sorry))
