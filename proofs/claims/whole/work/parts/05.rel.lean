/-! an abstract heap as a world of cells; the judgement TT: the machine, anywhere related, comes to its end -/
def va_AOA (ty : FieldType) (U : State) : Prop := (Jvm.Cond.arrayOver (.array ty)).before #[] U = true
theorem va_AOA.use {ty : FieldType} {A : Array Value} {U : State} (h : va_AOA ty U) : (Jvm.Cond.arrayOver (.array ty)).before A U = true := h
def nests : List Jvm.Cond := (mtb.filter (fun q => decide (q.2.2.1 ≠ 0))).map nestAt
def nwP (s : State) : Prop := (∀ w ∈ nests, va_Nw w s) ∧ va_AO "RoundSlack$Rounds" s ∧ va_AOA .int s
def tysF (tc : Nat → ClassId) : List (ClassId × FieldType) := [(tc 0, .int), (tc 1, .byte), (tc 2, .array .int), (tc 3, .object "RoundSlack$Rounds")]
def rfo (ad : Nat → Nat) (r : Nat) : Option Nat := if r = 3000 then none else some (ad r)
def fval (ad : Nat → Nat) (I : Nat → Nat → Int) (o ci : Nat) (rf : List Nat) (k : Nat) : Value := if fk ci k = 2 then va_rf (rfo ad (rf.getD k 3000)) else .int (Int32.ofInt (I o k))
def ent (tc : Nat → ClassId) (ad : Nat → Nat) (I : Nat → Nat → Int) (o : Nat) (q : AO) : va_E :=
  if q.1 < 100 then .inr (q.1, (List.range q.2.1).map (fval ad I o q.1 q.2.2))
  else if q.1 = 100 then .inl (tc 0, q.2.1, .inl (fun k => Int32.ofInt (I o k)))
  else if q.1 = 101 then .inl (tc 1, q.2.1, .inl (fun k => Int32.ofInt (I o k)))
  else if q.1 = 102 then .inl (tc 2, q.2.1, .inr (.inr (.inr (.inr (fun k => rfo ad (q.2.2.getD k 3000))))))
  else .inl (tc 3, q.2.1, .inr (.inr (.inr (.inr (fun k => rfo ad (q.2.2.getD k 3000))))))
def wd (tc : Nat → ClassId) (ad : Nat → Nat) (h : AH) : va_W := h.2.zipIdx.map (fun z => (ad z.2, ent tc ad h.1 z.2 z.1))
theorem wd_get {tc : Nat → ClassId} {ad : Nat → Nat} {h : AH} {o : Nat} : (wd tc ad h)[o]? = (h.2[o]?).map (fun q => (ad o, ent tc ad h.1 o q)) := by
  unfold wd
  rw [List.getElem?_map, List.getElem?_zipIdx, Option.map_map]
  cases h.2[o]? <;> simp
theorem wd_at {tc : Nat → ClassId} {ad : Nat → Nat} {h : AH} {o : Nat} {q : AO} (hq : h.2[o]? = some q) : (wd tc ad h)[o]? = some (ad o, ent tc ad h.1 o q) := by rw [wd_get, hq]; rfl
theorem wd_ext {w : va_W} {tc : Nat → ClassId} {ad : Nat → Nat} {h : AH} (hw : ∀ o : Nat, w[o]? = (h.2[o]?).map (fun q => (ad o, ent tc ad h.1 o q))) : w = wd tc ad h := List.ext_getElem? fun o => by rw [hw, wd_get]
theorem ent_congr {tc : Nat → ClassId} {ad : Nat → Nat} {I I' : Nat → Nat → Int} {o : Nat} {q : AO} (h : ∀ k, I' o k = I o k) : ent tc ad I' o q = ent tc ad I o q := by
  unfold ent fval
  simp only [h]
theorem wd_set {tc : Nat → ClassId} {ad : Nat → Nat} {h : AH} {I' : Nat → Nat → Int} {o : Nat} {q q' : AO} (hq : h.2[o]? = some q) (hI : ∀ o' k, o' ≠ o → I' o' k = h.1 o' k) : (wd tc ad h).set o (ad o, ent tc ad I' o q') = wd tc ad (I', h.2.set o q') := by
  refine wd_ext fun o' => ?_
  have hlt : o < h.2.length := (List.getElem?_eq_some_iff.mp hq).1
  by_cases e : o' = o
  · subst e
    have hl2 : o' < (wd tc ad h).length := by simp [wd]; exact hlt
    rw [List.getElem?_set_self hl2]
    show _ = Option.map _ ((h.2.set o' q')[o']?)
    rw [List.getElem?_set_self hlt]
    rfl
  · rw [List.getElem?_set_ne (fun z => e z.symm), wd_get]
    show _ = Option.map _ ((h.2.set o q')[o']?)
    rw [List.getElem?_set_ne (fun z => e z.symm)]
    cases h.2[o']? with
    | none => rfl
    | some x =>
      show some (ad o', ent tc ad h.1 o' x) = some (ad o', ent tc ad I' o' x)
      rw [ent_congr (fun k => hI o' k e)]
theorem wd_upd {tc : Nat → ClassId} {ad : Nat → Nat} {h : AH} {I' : Nat → Nat → Int} {o : Nat} {q : AO} (hq : h.2[o]? = some q) (hI : ∀ o' k, o' ≠ o → I' o' k = h.1 o' k) : (wd tc ad h).set o (ad o, ent tc ad I' o q) = wd tc ad (I', h.2) := by
  rw [wd_set (q' := q) hq hI]
  congr 2
  have hlt : o < h.2.length := (List.getElem?_eq_some_iff.mp hq).1
  refine List.ext_getElem? fun j => ?_
  by_cases e : j = o
  · subst e; rw [List.getElem?_set_self hlt, hq]
  · rw [List.getElem?_set_ne (fun z => e z.symm)]
theorem wd_app {tc : Nat → ClassId} {ad ad' : Nat → Nat} {h : AH} {I' : Nat → Nat → Int} {T : List AO} (hS : okS h.2 = true) (hl : h.2.length < 1000) (hI : ∀ o k, o < h.2.length → I' o k = h.1 o k) (ha : ∀ o, o < h.2.length → ad' o = ad o) :
    wd tc ad' (I', h.2 ++ T) = wd tc ad h ++ (T.zipIdx h.2.length).map (fun z => (ad' z.2, ent tc ad' I' z.2 z.1)) := by
  unfold wd
  rw [List.zipIdx_append, List.map_append]
  congr 1
  · apply List.map_congr_left
    intro z hz
    obtain ⟨q, o⟩ := z
    obtain ⟨h1, h2⟩ := List.mem_zipIdx' hz
    have ho : o < h.2.length := h1
    have hq : ∀ r ∈ q.2.2, r < h.2.length ∨ r = 3000 := by
      intro r hr
      have h3 := List.all_eq_true.mp hS q (by rw [show q = _ from h2]; exact List.getElem_mem _)
      have h4 := List.all_eq_true.mp h3 r hr
      simpa using h4
    have hrf : ∀ k, rfo ad' (q.2.2.getD k 3000) = rfo ad (q.2.2.getD k 3000) := by
      intro k
      have h5 : q.2.2.getD k 3000 < h.2.length ∨ q.2.2.getD k 3000 = 3000 := by
        by_cases hk : k < q.2.2.length
        · have : q.2.2.getD k 3000 ∈ q.2.2 := by
            rw [List.getD_eq_getElem?_getD, List.getElem?_eq_getElem hk]
            exact List.getElem_mem _
          exact hq _ this
        · right
          rw [List.getD_eq_getElem?_getD, List.getElem?_eq_none (by omega)]
          rfl
      unfold rfo
      rcases h5 with h6 | h6
      · rw [if_neg (by omega), if_neg (by omega), ha _ h6]
      · rw [if_pos h6, if_pos h6]
    show (ad' o, ent tc ad' I' o q) = (ad o, ent tc ad h.1 o q)
    rw [ha o ho]
    congr 1
    unfold ent fval
    simp only [hrf, hI o _ ho]
  · rw [Nat.zero_add]
def cv (ad : Nat → Nat) (v : AV) : Value := match v with | .inl x => .int (Int32.ofInt x) | .inr (.inl x) => .long (Int64.ofInt x) | .inr (.inr o) => .ref (ad o)
/-- the locals: what isn't a long is held -/
def LR (ad : Nat → Nat) (nL : Nat) (ls : List AV) (L : Array Slot) : Prop := ls.length = nL ∧ ∃ lv, lv_has L nL lv ∧ (∀ q ∈ lv, q.2.category = 1) ∧ ∀ (i : Nat) (v : AV), ls[i]? = some v → (∀ x, v ≠ vL x) → (i, cv ad v) ∈ lv
theorem LR_at {ad : Nat → Nat} {nL : Nat} {ls : List AV} {L : Array Slot} (h : LR ad nL ls L) {i : Nat} {v : AV} (hv : ls[i]? = some v) (hn : ∀ x, v ≠ vL x) : L[i]? = some (.val (cv ad v)) := by
  obtain ⟨-, lv, h1, -, h3⟩ := h
  exact h1.2.2 _ (h3 i v hv hn)
theorem LR_st {ad : Nat → Nat} {nL : Nat} {ls : List AV} {L' : Array Slot} {lv : List (Nat × Value)} {i : Nat} {v : AV} (h0 : ls.length = nL) (h2 : ∀ q ∈ lv, q.2.category = 1) (h3 : ∀ (j : Nat) (w : AV), ls[j]? = some w → (∀ x, w ≠ vL x) → (j, cv ad w) ∈ lv) (hc : (cv ad v).category = 1)
    (h' : lv_has L' nL ((i, cv ad v) :: lv.filter (fun q => !(q.1 == i) && !(q.1 + 1 == i && q.2.category == 2)))) : LR ad nL (ls.set i v) L' := by
  refine ⟨by rw [List.length_set]; exact h0, _, h', ?_, ?_⟩
  · intro q hq
    rcases List.mem_cons.mp hq with rfl | hq
    · exact hc
    · exact h2 q (List.mem_filter.mp hq).1
  · intro j w hw hn
    by_cases e : j = i
    · subst e
      have hlt : j < ls.length := by
        have := (List.getElem?_eq_some_iff.mp hw).1
        rwa [List.length_set] at this
      rw [List.getElem?_set_self hlt] at hw
      cases hw
      exact List.mem_cons_self
    · rw [List.getElem?_set_ne (fun z => e z.symm)] at hw
      refine List.mem_cons_of_mem _ (List.mem_filter.mpr ⟨h3 j w hw hn, ?_⟩)
      have hcat := h2 _ (h3 j w hw hn)
      simp only [hcat]
      simp [e]
theorem LR_ad {ad ad' : Nat → Nat} {nL : Nat} {ls : List AV} {L : Array Slot} (h : LR ad nL ls L) (ha : ∀ o, vR o ∈ ls → ad' o = ad o) : LR ad' nL ls L := by
  obtain ⟨h0, lv, h1, h2, h3⟩ := h
  refine ⟨h0, lv, h1, h2, fun i v hv hn => ?_⟩
  have := h3 i v hv hn
  rcases v with x | x | o
  · exact this
  · exact absurd rfl (hn x)
  · show (i, Value.ref (ad' o)) ∈ lv
    rw [ha o (List.mem_of_getElem? hv)]
    exact this
theorem cv_ad {ad ad' : Nat → Nat} {st : List AV} (ha : ∀ o, vR o ∈ st → ad' o = ad o) : st.map (cv ad') = st.map (cv ad) := by
  apply List.map_congr_left
  intro v hv
  rcases v with x | x | o
  · rfl
  · rfl
  · show Value.ref (ad' o) = Value.ref (ad o)
    rw [ha o hv]
theorem okRefs_mem {n : Nat} {l : List AV} (h : okRefs n l = true) {o : Nat} (ho : vR o ∈ l) : o < n ∨ 1000 ≤ o := by
  have := List.all_eq_true.mp h _ ho
  simpa using this
/-- the law's script, at the reference 1000 -/
def scrP (s : State) (A : Nat → Prop) (ad : Nat → Nat) (I : Nat → Nat → Int) : Prop := ∃ (L : Nat) (xs : Nat → Int32), va_X (ad 1000) L xs s s.heap ∧ ad 1000 < s.heap.size ∧ ¬ A (ad 1000) ∧ L ≤ 3072 ∧ I 1001 0 = L ∧ ∀ k, k < L → Int32.ofInt (I 1000 k) = xs k
def SR (D : va_G) (tc : Nat → ClassId) (A : Nat → Prop) (s : State) (m : Nat) (ad : Nat → Nat) (h : AH) (H : Heap) (locs : List Loc) : Prop := va_P D vwCl (wd tc ad h) H ∧ va_D A (wd tc ad h) ∧ va_S A s.heap H locs ∧ h.2.length ≤ 1000 ∧ (m_own m = 13 → scrP s A ad h.1)
abbrev CT : Type := Program × Launch × Env × Room × State × MethodId × Array Value × List Frame × Method × Code × (State → Prop) × va_G × (Nat → ClassId) × (Nat → Prop) × Nat
def xm (X : CT) : Nat := X.2.2.2.2.2.2.2.2.2.2.2.2.2.2
def CX (X : CT) : Prop := match X with
  | (p, _, _, R, s, mm, args, _, meth, c, _, D, tc, A, m) => p.tables.exec = Jvm.exec ∧ c.code = m_cd m ∧ c.maxLocals = m_ml m ∧ s.vm.findClass (cname (m_own m)) = some mm.cls ∧ (∀ w ∈ lw_gt, w.before args s = true) ∧ (m_kd m = 2 → meth.name = "<init>") ∧ va_K D vwCl (tysF tc) s ∧ (∀ q : Nat, s.heap.size ≤ q → A q) ∧ nwP s ∧ m_fr m ≤ R.frames ∧ m_lo m ≤ R.locals
def TT (X : CT) (ad : Nat → Nat) (cells slots pc : Nat) (ls st : List AV) (h : AH) : Prop := match X with
  | (p, l, e, R, s, mm, args, below, meth, c, Q, D, tc, A, m) => ∀ (L : Array Slot) (H : Heap) (locs : List Loc), LR ad (m_ml m) ls L → SR D tc A s m ad h H locs → W p l e R s mm args below meth c H locs cells slots Q (F0 mm pc L (st.map (cv ad)))
def xR (X : CT) : Room := X.2.2.2.1
