/-! a method's contract out of its abstract run; a call by it -/
theorem met_of {f : Nat} (IH : SIM f) (l : Launch) {mid : Nat} {as : List AV} {h h' : AH} {v : Option AV} (h0 : mid ≠ 0) (hm : mid < nM) (e : arun f mid 0 (entryL mid as) [] h = some (v, h')) (has : okL as) (hI : okI h.1) (hw : wcat as = as.length) (hml9 : as.length ≤ m_ml mid) (hrange : okL v.toList) (D : va_G) (tc : Nat → ClassId) (ad : Nat → Nat) (sz : Nat) :
    Met l (m_y mid) (wsm mid) ({ frames := m_fr mid, cells := h'.2.length - h.2.length, slots := sl h'.2 - sl h.2, locals := m_lo mid } : Room) (va_Pc (as.map (cv ad)) (PcA D tc ad h sz)) (QcA v (BA D tc ad h h' (va_A (wd tc ad h) sz)) (va_A (wd tc ad h) sz)) (h'.2.length - h.2.length) (sl h'.2 - sl h.2) (va_A (wd tc ad h) sz) := by
  obtain ⟨b1, b2, b3, b4, b5, b6, b7, b8, b9, b10, b11, b12, b13⟩ := okM_parts h0 hm
  obtain ⟨-, -, l1, l2⟩ := arun_ok _ _ _ _ _ _ _ _ e (okL_entry has) okL_nil hI
  have hone := wcat_one hw
  refine Met.ofW (cc := m_cd mid) (maxL := m_ml mid) (ret := rkT (m_rk mid)) b2 rfl ?_
  intro p en s mm args below meth c s₁ B hml hv
  obtain ⟨rfl, hsz, hP, hK, hD0, hnw, hlen⟩ := hv
  have hx := B.exec
  have hb := B.bytes
  have hr := B.returns
  have hts := atoms_spec (ws := wsm mid) B.pre
  have hown : s.vm.findClass (cname (m_own mid)) = some mm.cls := by
    have := findClass_of_methodNamed B.named
    rwa [b1] at this
  have hlocks := B.notSynchronized
  have hin : meth.name = (m_y mid).name := (name_of_methodNamed B.named B.method).1
  subst hsz
  have hD : va_D (va_A (wd tc ad h) s.heap.size) (wd tc ad h) := hD0.self (sz := s.heap.size)
  have hA : ∀ q : Nat, s.heap.size ≤ q → va_A (wd tc ad h) s.heap.size q := fun q z => Or.inr z
  rw [lg_entry_eq]
  have hl := lv_entry (as.map (cv ad)) (n := m_ml mid) (by rw [lg_len as hone]; exact hml9)
  generalize (lg_sl (as.map (cv ad)) ++ List.replicate (m_ml mid - (lg_sl (as.map (cv ad))).length) Slot.unset).toArray = L at hl ⊢
  obtain ⟨m1, m2⟩ := lva_mem (ad := ad) as 0 hone
  have hLR : LR ad (m_ml mid) (entryL mid as) L := by
    refine ⟨by unfold entryL; simp; omega, _, hl, m1, fun i w hw9 hn => ?_⟩
    unfold entryL at hw9
    by_cases z : i < as.length
    · rw [List.getElem?_append_left z] at hw9
      have := m2 i w hw9
      rwa [Nat.zero_add] at this
    · rw [List.getElem?_append_right (by omega), List.getElem?_replicate] at hw9
      split at hw9
      · cases hw9; exact absurd rfl (hn 0)
      · cases hw9
  have hCX : CX (p, l, en, (headSpec (wsm mid) ({ frames := m_fr mid, cells := h'.2.length - h.2.length, slots := sl h'.2 - sl h.2, locals := m_lo mid } : Room)).room, s, mm, (as.map (cv ad)).toArray, below, meth, c, MQ below (QcA v (BA D tc ad h h' (va_A (wd tc ad h) s.heap.size)) (va_A (wd tc ad h) s.heap.size)) (as.map (cv ad)).toArray s (h'.2.length - h.2.length) (sl h'.2 - sl h.2) (va_A (wd tc ad h) s.heap.size), D, tc, va_A (wd tc ad h) s.heap.size, mid) :=
    ⟨hx, hb, hml, hown, fun w z => hts w (List.mem_cons_of_mem _ z), fun z => by rw [hin]; exact b5 z, hK, hA, hnw, Nat.le_refl _, Nat.le_refl _⟩
  have hSR : SR D tc (va_A (wd tc ad h) s.heap.size) s mid ad h s.heap [] := ⟨hP, hD, va_S.rf, hlen, fun z => absurd z (by omega)⟩
  refine IH mid 0 (entryL mid as) [] h v h' e (okL_entry has) okL_nil hI _ ad 0 0 hCX rfl b8 (by show 0 + h'.2.length ≤ (h'.2.length - h.2.length) + h.2.length; omega) (by show 0 + sl h'.2 ≤ (sl h'.2 - sl h.2) + sl h.2; omega) ?_ L s.heap [] hLR hSR
  intro ad' cells' slots' pc' raw ls' hag hc hs hd hret
  have hc2 : cells' = h'.2.length - h.2.length := by omega
  have hs2 : slots' = sl h'.2 - sl h.2 := by omega
  subst hc2
  subst hs2
  intro L9 H9 locs9 hL9 hS9
  obtain ⟨hP9, hD9, hSS9, hlen9, -⟩ := hS9
  have hret : retOk mid raw v := hret
  rcases v with _ | x | x | o
  · obtain ⟨rfl, hk⟩ := hret
    exact W.vret hx hb (by rw [hr, hk]; rfl) (fun t ht hW => ⟨⟨ad', rfl, trivial, hag, by rw [ht]; exact hP9, va_K.moved hW.alike hK, hD9⟩, hSS9.F ht⟩) hSS9.2.2 hd hlocks
  · obtain ⟨rfl, hk⟩ := hret
    rcases hk with hk | ⟨hk, hx01⟩
    · exact W.iret hx hb (by rw [hr, hk]; rfl) (fun t ht hW => ⟨⟨Int32.ofInt x, ad', rfl, rfl, hag, by rw [ht]; exact hP9, va_K.moved hW.alike hK, hD9⟩, hSS9.F ht⟩) hSS9.2.2 hd hlocks
    · have hnar : narrow .boolean (.int (Int32.ofInt x)) = .int (Int32.ofInt x) := by rcases hx01 with rfl | rfl <;> rfl
      exact W.zret hx hb (by rw [hr, hk]; rfl) hnar (fun t ht hW => ⟨⟨Int32.ofInt x, ad', rfl, rfl, hag, by rw [ht]; exact hP9, va_K.moved hW.alike hK, hD9⟩, hSS9.F ht⟩) hSS9.2.2 hd hlocks
  · obtain ⟨rfl, hk⟩ := hret
    exact W.lret hx hb (by rw [hr, hk]; rfl) (fun t ht hW => ⟨⟨Int64.ofInt x, ad', rfl, rfl, hag, by rw [ht]; exact hP9, va_K.moved hW.alike hK, hD9⟩, hSS9.F ht⟩) hSS9.2.2 hd hlocks
  · exact absurd hret (by intro z; exact z)
theorem pc_blind {D : va_G} {tc : Nat → ClassId} {ad : Nat → Nat} {h : AH} {sz : Nat} {av : List Value} : FrameBlind (va_Pc av (PcA D tc ad h sz)) := fun a U g mk q => by
  obtain ⟨q0, q1, qP, qK, qD, qn, ql⟩ := q
  exact ⟨q0, q1, qP, va_K.moved (u := U) (U := U.calling g mk a) (Vm.Alike.refl U.vm) qK, qD, nwP.same (s := U) (U := U.calling g mk a) rfl qn, ql⟩
/-- behind a call -/
theorem call_end {p : Program} {l : Launch} {e : Env} {R : Room} {s : State} {mm : MethodId} {args : Array Value} {below : List Frame} {meth : Method} {c : Code} {Q : State → Prop} {D : va_G} {tc : Nat → ClassId} {A : Nat → Prop} {m : Nat} {ad : Nat → Nat} {cells slots mc ms pc : Nat} {ls rest st0 : List AV} {h h' : AH} {v : Option AV} {L : Array Slot} {H : Heap} {locs : List Loc} {a : Array Value}
    (hX : CX (p, l, e, R, s, mm, args, below, meth, c, Q, D, tc, A, m)) (hL : LR ad (m_ml m) ls L) (hS : SR D tc A s m ad h H locs) (hlen' : h'.2.length ≤ 1000) (hle : h.2.length ≤ h'.2.length) (hscr : ∀ o k, 1000 ≤ o → h'.1 o k = h.1 o k) (hrefs : h'.2.length = h.2.length ∨ (okRefs h.2.length ls = true ∧ okRefs h.2.length rest = true))
    (hr : va_Run p l e R s mm args below meth c H locs cells slots mc ms (F0 mm pc L (st0.map (cv ad))) (rest.map (cv ad)) (QcA v (BA D tc ad h h' (va_A (wd tc ad h) H.size)) (va_A (wd tc ad h) H.size) a) (va_A (wd tc ad h) H.size))
    (K : ∀ ad' : Nat → Nat, (∀ o, (o < h.2.length ∨ h'.2.length ≤ o) → ad' o = ad o) → TT (p, l, e, R, s, mm, args, below, meth, c, Q, D, tc, A, m) ad' (cells + mc) (slots + ms) (pc + 3) ls (v.toList ++ rest) h') :
    W p l e R s mm args below meth c H locs cells slots Q (F0 mm pc L (st0.map (cv ad))) := by
  obtain ⟨hx, hb, hml, hown, hts, hin, hK, hA, hnw, hfr, hlo⟩ := hX
  obtain ⟨hP, hD, hSS, hlen, hsc⟩ := hS
  have hFc : ∀ q, va_A (wd tc ad h) H.size q → A q := by
    intro q z
    rcases z with ⟨k, en, z⟩ | z
    · exact hD.2 k (q, en) z
    · exact hA q (Nat.le_trans hSS.1 z)
  have fin : ∀ (ad' : Nat → Nat) (t : State) (H1 : Heap) (locs1 : List Loc), t.heap = H1 → BA D tc ad h h' (va_A (wd tc ad h) H.size) ad' t → va_S A s.heap H1 locs1 → W p l e R s mm args below meth c H1 locs1 (cells + mc) (slots + ms) Q (F0 mm (pc + 3) L ((v.toList ++ rest).map (cv ad'))) ∧ ∀ w ∈ rest, cv ad' w = cv ad w := by
    intro ad' t H1 locs1 ht hB hS1
    obtain ⟨hag, hP1, hK1, hD1⟩ := hB
    rw [ht] at hP1
    have hr1 : ∀ o, vR o ∈ ls → ad' o = ad o := fun o ho => hag o (by
      rcases hrefs with z | z
      · omega
      · have := okRefs_mem z.1 ho; omega)
    have hr2 : ∀ o, vR o ∈ rest → ad' o = ad o := fun o ho => hag o (by
      rcases hrefs with z | z
      · omega
      · have := okRefs_mem z.2 ho; omega)
    refine ⟨K ad' hag L H1 locs1 (LR_ad hL hr1) ⟨hP1, hD1.weaken (fun _ q _ z => hFc q.1 z), hS1, hlen', fun z => scr_keep (hsc z) (hag _ (by omega)) hscr⟩, fun w hw => ?_⟩
    rcases w with x | x | o
    · rfl
    · rfl
    · exact congrArg Value.ref (hr2 o hw)
  rcases v with _ | x | x | o
  · refine va_callv (a := a) hr hSS (fun q _ z => hFc q z) hFc (fun u t H1 locs1 ht hvm hw hB hz1 hk1 hS1 => ?_)
    obtain ⟨f1, f2⟩ := fin u t H1 locs1 ht hB hS1
    rw [show ((none : Option AV).toList ++ rest).map (cv u) = rest.map (cv ad) from List.map_congr_left f2] at f1
    exact f1
  · refine va_calli (a := a) hr hSS (fun q _ z => hFc q z) hFc (fun r u t H1 locs1 ht hvm hw hB hz1 hk1 hS1 => ?_)
    obtain ⟨f1, f2⟩ := fin u t H1 locs1 ht hB hS1
    have hw2 : r = Int32.ofInt x := hw
    rw [show ((some (Sum.inl x) : Option AV).toList ++ rest).map (cv u) = .int r :: rest.map (cv ad) from by rw [hw2]; exact congrArg (fun z => Value.int (Int32.ofInt x) :: z) (List.map_congr_left f2)] at f1
    exact f1
  · refine va_calll (a := a) hr hSS (fun q _ z => hFc q z) hFc (fun r u t H1 locs1 ht hvm hw hB hz1 hk1 hS1 => ?_)
    obtain ⟨f1, f2⟩ := fin u t H1 locs1 ht hB hS1
    have hw2 : r = Int64.ofInt x := hw
    rw [show ((some (Sum.inr (Sum.inl x)) : Option AV).toList ++ rest).map (cv u) = .long r :: rest.map (cv ad) from by rw [hw2]; exact congrArg (fun z => Value.long (Int64.ofInt x) :: z) (List.map_congr_left f2)] at f1
    exact f1
  · intro T hT Xs
    obtain ⟨v9, st₀, t, T', L9, h0, X', hL9, e1, e2, hq, st9⟩ := hr T hT Xs
    exact absurd hq (fun z => z)
