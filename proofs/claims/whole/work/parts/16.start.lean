/-! THE CLAIM OUT OF ONE WALK OF THE LAW'S BODY. Your part is whole_start (and what it stands on); all else here is the same for every law, but numbers. -/
def R_law : String := "RoundSlackLaw"
def lw_P (b : Addr) (xs : List Int32) (args : Array Value) (s : State) : Prop := args = #[.ref b] ∧ s.IntsAt b xs ∧ xs.length ≤ 3072 ∧ (Jvm.Cond.and given_1 narrow_1).before args s = true
def lw_Q (_ : Array Value) (s : State) (o : Outcome) (t : State) : Prop := o = .returned (some (.int 1)) ∧ Framed s o t [] 600000 7302250
def lw_Z (below : List Frame) (a : Array Value) (s : State) : State → Prop := fun t => ∃ o, t.status = .running ∧ Ended t below o ∧ lw_Q a s o t
/-- the law's own end, with 1 on the stack, nothing written that was there before, its room as the claim has it -/
theorem lw_ret {p : Program} {l : Launch} {e : Env} {s : State} {m : MethodId} {below : List Frame} {meth : Method} {c : Code} {b : Nat} (hx : p.tables.exec = Jvm.exec) (hb : c.code = code) (hr : meth.sig.returnType = ret) (hlocks : meth.locks = false) {pc : Nat} {H : Heap} {ls : Array Slot} (hdg : decode code pc = .ok (.ireturn, 1)) : W p l e room_1 s m #[Value.ref b] below meth c H [] 600000 7302250 (lw_Z below #[Value.ref b] s) (F0 m pc ls [.int 1]) := by
  intro T hT X
  obtain ⟨fs, hret, hrun, hended, hW, hframe⟩ := X.leave (v := some (.int 1)) (hlocks := hlocks) (fun h => by rw [hr] at h; cases h)
  have hmeth' : T.vm.method? m = some meth := X.method'
  refine ⟨T.setFrames fs, ?_, .returned (some (.int 1)), hrun, hended, rfl, ⟨_, rfl⟩, hW, hframe⟩
  jvm_step X.here [X.here.top, hx, hb, hdg, hmeth', hr, ret, narrow_b1]
  (try refine ⟨rfl, ?_⟩); (try refine ⟨rfl, ?_⟩)
  first | (intro acts; rw [hret _ acts rfl rfl rfl]) | rw [hret _ _ rfl rfl rfl]
  exact Steps.refl _
/-- what holds at the law's entry: the machine, the code, the tables' words (any of lw_tbl by 'hts w (by decide +kernel)'), the script of L ints xs at the cell b, what the Statement gives of the start (any of its parts by flat_of_before) -/
def lw_At (p : Program) (s : State) (m : MethodId) (meth : Method) (c : Code) (b L : Nat) (xs : Nat → Int32) : Prop :=
  p.tables.exec = Jvm.exec ∧ c.code = code ∧ meth.sig.returnType = ret ∧ c.maxLocals = 4 ∧ s.vm.findClass R_law = some m.cls ∧ (∀ w ∈ lw_tbl, w.before #[Value.ref b] s = true) ∧ va_X b L xs s s.heap ∧ b < s.heap.size ∧ meth.locks = false ∧ (Jvm.Cond.and given_1 narrow_1).before #[Value.ref b] s = true
def scrI (L : Nat) (xs : Nat → Int32) : Nat → Nat → Int := fun o k => if o = 1000 then (xs k).toInt else if o = 1001 ∧ k = 0 then (L : Int) else 0
/-- what is left of the claim: the abstract run of the law, over every script, ends with 1 -/
def AbsLaw : Prop := ∀ (L : Nat) (xs : Nat → Int32), L ≤ 3072 → ∃ (f : Nat) (h' : AH), arun f 0 0 [vR 1000, vU, vU, vU] [] (scrI L xs, []) = some (some (vI 1), h') ∧ sl h'.2 ≤ 7302250
theorem lw_gt_in {w : Jvm.Cond} (h : w ∈ lw_gt) : w ∈ lw_tbl := (List.mem_filter.mp h).1
theorem lw_at {i : Nat} {w : Jvm.Cond} (h : lw_tbl[i]? = some w) : w ∈ lw_tbl := List.mem_of_getElem? h
theorem arr_known {s : State} {args : Array Value} {ty : FieldType} (h : (Jvm.Cond.arrayClass ty).before args s = true) : ∃ cA : ClassId, s.vm.findClass ("[" ++ ty.toString) = some cA ∧ ArrOfT s cA ty := by
  obtain ⟨c, k, comp, h1, h2, h3⟩ := Jvm.Cond.arrayClass_spec (show (Jvm.Cond.arrayClass ty).holds args s none s [] = true from h)
  exact ⟨c, h1, fun n z => ⟨fun q hq => (by cases hq), k, h2, comp, h3⟩⟩
theorem start_of (HA : AbsLaw) {p : Program} {e : Env} {s : State} {m : MethodId} {below : List Frame} {meth : Method} {c : Code} (l : Launch) {b L : Nat} {xs : Nat → Int32} (hL : L ≤ 3072) (C0 : lw_At p s m meth c b L xs) : W p l e room_1 s m #[Value.ref b] below meth c s.heap [] 0 0 (lw_Z below #[Value.ref b] s) (entryFrame m ([Value.ref b] : List Value).toArray 4) := by
  obtain ⟨hx, hb, hr, hml, hown, hts, hX, hbl, hlocks, hgv⟩ := C0
  obtain ⟨f, h', hrun, hsl⟩ := HA L xs hL
  have kn : ∀ ci, ci < 13 → ∃ (cC : ClassId) (iS : Nat → Nat), ∀ C T N, vwCl[ci]? = some (C, T, N) → u_Kn s C T N cC iS := by
    intro ci hci
    obtain ⟨C, T, N, hcl⟩ := cls_at hci
    obtain ⟨c1, c2, c3, c4, c5, c6, c7, c8⟩ := clsF hcl
    have hw2 := List.all_eq_true.mp w_cls ci (List.mem_range.mpr hci)
    simp only [Bool.and_eq_true] at hw2
    have hi : (Jvm.Cond.instantiable C N).before #[Value.ref b] s = true := by rw [c4, c5]; exact hts _ (lw_gt_in (okw_in hw2.1))
    obtain ⟨cC, iS, hk⟩ := u_known (C := C) (T := T) (N := N) hts (fun w hw => lw_gt_in (c1 w hw)) hi
    refine ⟨cC, iS, fun C' T' N' h' => ?_⟩
    rw [hcl] at h'
    cases h'
    exact hk
  obtain ⟨dC, dI, hKc⟩ : ∃ (dC : Nat → ClassId) (dI : Nat → Nat → Nat), ∀ (k : Nat) (q : vw_C), vwCl[k]? = some q → u_Kn s q.1 q.2.1 q.2.2 (dC k) (dI k) := by
    refine ⟨fun k => if h : k < 13 then (kn k h).choose else (kn 0 (by decide)).choose, fun k => if h : k < 13 then (kn k h).choose_spec.choose else fun _ => 0, fun k q hq => ?_⟩
    have hk : k < 13 := (List.getElem?_eq_some_iff.mp hq).1
    simp only [dif_pos hk]
    obtain ⟨C, T, N⟩ := q
    exact (kn k hk).choose_spec.choose_spec C T N hq
  obtain ⟨a0, f0, g0⟩ := arr_known (hts _ (lw_gt_in w_arrI))
  obtain ⟨a1, f1, g1⟩ := arr_known (hts _ (lw_gt_in w_arrB))
  have hAO : (Jvm.Cond.arrayOver (.object "RoundSlack$Rounds")).before #[Value.ref b] s = true := hts _ (lw_at (i := 242) (by decide +kernel))
  have hAA : (Jvm.Cond.arrayOver (.array .int)).before #[Value.ref b] s = true := hts _ (lw_at (i := 123) (by decide +kernel))
  obtain ⟨comp3, a3, k3, h31, -, h33, h34, h35⟩ := Jvm.Cond.arrayOver_spec (show (Jvm.Cond.arrayOver (.object "RoundSlack$Rounds")).holds #[Value.ref b] s none s [] = true from hAO)
  obtain ⟨comp2, a2, k2, h21, h23, h24, h25⟩ := Jvm.Cond.arrayOver_specA (show (Jvm.Cond.arrayOver (.array .int)).holds #[Value.ref b] s none s [] = true from hAA)
  have hK : va_K (dC, dI) vwCl (tysF (fun k => match k with | 0 => a0 | 1 => a1 | 2 => a2 | _ => a3)) s := by
    refine ⟨hKc, fun k q hq => ?_⟩
    match k, hq with
    | 0, hq => cases hq; exact ⟨g0, f0⟩
    | 1, hq => cases hq; exact ⟨g1, f1⟩
    | 2, hq => cases hq; exact ⟨fun n z => ⟨fun q hq => (by cases hq), k2, h23, comp2, h24⟩, h25⟩
    | 3, hq => cases hq; exact ⟨fun n z => ⟨fun q hq => (by cases hq), k3, h33, comp3, h34⟩, ⟨k3, comp3, h33, h34, h31, h35⟩⟩
    | k + 4, hq => simp [tysF] at hq
  have hnw : nwP s := by
    refine ⟨fun w hw => ?_, va_AO.of hAO, hAA⟩
    obtain ⟨q, hq, rfl⟩ := List.mem_map.mp hw
    obtain ⟨hq1, hq2⟩ := List.mem_filter.mp hq
    have h9 := List.all_eq_true.mp mtb_ok _ hq1
    rw [if_neg (by simpa using hq2)] at h9
    exact va_Nw.of rfl (hts _ (lw_at (of_decide_eq_true h9)))
  have hA : ∀ q : Nat, s.heap.size ≤ q → (fun q : Nat => s.heap.size ≤ q) q := fun _ h => h
  have hl := lv_entry ([.ref b]) (n := 4) (Nat.le_of_ble_eq_true rfl)
  rw [lg_entry_eq]
  generalize (lg_sl ([.ref b]) ++ List.replicate (4 - (lg_sl ([.ref b])).length) Slot.unset).toArray = L0 at hl ⊢
  have hl : lv_has L0 4 [(0, .ref b)] := hl
  have hLR : LR (fun o => if o = 1000 then b else 0) 4 [vR 1000, vU, vU, vU] L0 := by
    refine ⟨rfl, _, hl, fun q hq => ?_, fun i v hv hn => ?_⟩
    · rw [List.mem_singleton.mp hq]; rfl
    · match i, hv with
      | 0, hv => cases hv; exact List.mem_singleton.mpr rfl
      | 1, hv => cases hv; exact absurd rfl (hn 0)
      | 2, hv => cases hv; exact absurd rfl (hn 0)
      | 3, hv => cases hv; exact absurd rfl (hn 0)
      | i + 4, hv => simp at hv
  have hI : okI (scrI L xs) := by
    intro o k
    unfold scrI
    split
    · exact i32_in _
    · split
      · exact ⟨by omega, by omega⟩
      · exact in0
  have hCX : CX (p, l, e, room_1, s, m, #[Value.ref b], below, meth, c, lw_Z below #[Value.ref b] s, (dC, dI), (fun k => match k with | 0 => a0 | 1 => a1 | 2 => a2 | _ => a3), (fun q : Nat => s.heap.size ≤ q), 0) :=
    ⟨hx, hb, hml, hown, fun w hw => hts w (lw_gt_in hw), fun z => absurd z (by decide), hK, hA, hnw, by decide, by decide⟩
  have hSR : SR (dC, dI) (fun k => match k with | 0 => a0 | 1 => a1 | 2 => a2 | _ => a3) (fun q : Nat => s.heap.size ≤ q) s 0 (fun o => if o = 1000 then b else 0) (scrI L xs, []) s.heap [] := by
    refine ⟨fun k q h => by simp [wd] at h, ⟨fun i j p q h => by simp [wd] at h, fun k q h => by simp [wd] at h⟩, va_S.rf, by simp, fun _ => ⟨L, xs, hX, hbl, Nat.not_le.mpr hbl, hL, rfl, fun k _ => ?_⟩⟩
    exact Int32.ofInt_toInt _
  have hlen := (arun_ps _ _ _ _ _ _ _ _ hrun (by simp)).1
  refine sim f 0 0 [vR 1000, vU, vU, vU] [] (scrI L xs, []) (some (vI 1)) h' hrun ?_ okL_nil hI _ _ 0 0 hCX rfl (by decide) (by show 0 + h'.2.length ≤ 600000 + 0; omega) (by show 0 + sl h'.2 ≤ 7302250 + 0; omega) ?_ L0 s.heap [] hLR hSR
  · intro v hv
    simp only [List.mem_cons, List.not_mem_nil, or_false] at hv
    rcases hv with rfl | rfl | rfl | rfl
    · trivial
    · exact ⟨by decide, by decide⟩
    · exact ⟨by decide, by decide⟩
    · exact ⟨by decide, by decide⟩
  · intro ad' cells' slots' pc' raw ls' hag hc hs hd hret
    intro L9 H9 locs9 hL9 hS9
    obtain ⟨hP9, hD9, hSS9, hlen9, -⟩ := hS9
    obtain ⟨rfl, -⟩ := (show raw = .ireturn ∧ _ from hret)
    have hc2 : cells' + 0 = 0 + h'.2.length := hc
    have hs2 : slots' + 0 = 0 + sl h'.2 := hs
    refine va_forget (fun q hq => hSS9.2.2 q hq) ?_
    refine W.widen (k := 600000) (n := 7302250) (by omega) (by omega) ?_
    exact lw_ret hx hb hr hlocks hd
