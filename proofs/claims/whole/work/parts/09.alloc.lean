/-! new cells over TT -/
theorem fk_ok : (List.range 13).all (fun ci => (List.range (nF ci)).all (fun k => decide (fk ci k ≠ 3))) = true := by decide +kernel
theorem fk_of {ci k : Nat} (h : ci < 13) (hk : k < nF ci) : fk ci k ≠ 3 := by
  have h1 := List.all_eq_true.mp fk_ok ci (List.mem_range.mpr h)
  have h2 := List.all_eq_true.mp h1 k (List.mem_range.mpr hk)
  simpa using h2
theorem getD_rep {n k : Nat} : (List.replicate n 3000).getD k 3000 = 3000 := by
  rw [List.getD_eq_getElem?_getD]
  by_cases h : k < n
  · rw [List.getElem?_replicate, if_pos h]; rfl
  · rw [List.getElem?_eq_none (by simpa using Nat.le_of_not_lt h)]; rfl
def ad1 (ad : Nat → Nat) (n q : Nat) : Nat → Nat := fun o => if o = n then q else ad o
theorem ad1_lt {ad : Nat → Nat} {n q o : Nat} (h : o ≠ n) : ad1 ad n q o = ad o := if_neg h
theorem clr_old {I : Nat → Nat → Int} {n o : Nat} (h : o < n ∨ 1000 ≤ o) (k : Nat) : iclr I n o k = I o k := if_neg (by omega)
theorem clr_new {I : Nat → Nat → Int} {n o : Nat} (h : n ≤ o) (h2 : o < 1000) (k : Nat) : iclr I n o k = 0 := if_pos ⟨h, h2⟩
theorem cls_at {ci : Nat} (h : ci < 13) : ∃ C T N, vwCl[ci]? = some (C, T, N) := by
  have h1 : ci < vwCl.length := h
  exact ⟨_, _, _, List.getElem?_eq_getElem h1⟩
section OPS
variable {X : CT} {ad : Nat → Nat} {cells slots pc : Nat} {ls st : List AV} {h : AH}
theorem am_new {ix ci wi : Nat} (hX : CX X) (hd : decode (m_cd (xm X)) pc = .ok (.new ix, 3)) (hf : ctab.lookup (m_own (xm X), ix) = some (ci, wi)) (hci : ci < 13) (hlen : h.2.length < 1000) (hS0 : okS h.2 = true) (hl0 : okRefs h.2.length ls = true) (hs0 : okRefs h.2.length st = true) (hc : cells + 1 ≤ (xR X).cells) (hs : slots + nF ci ≤ (xR X).slots)
    (k : ∀ ad' : Nat → Nat, (∀ o, o < h.2.length ∨ h.2.length + 1 ≤ o → ad' o = ad o) → TT X ad' (cells + 1) (slots + nF ci) (pc + 3) ls (vR h.2.length :: st) (iclr h.1 h.2.length, h.2 ++ [(ci, nF ci, List.replicate (nF ci) 3000)])) : TT X ad cells slots pc ls st h := by
  have hw := List.all_eq_true.mp ctab_ok _ (of_lk hf)
  rw [if_neg (show ¬ ci = 102 by omega)] at hw
  simp only [Bool.and_eq_true] at hw
  have hw2 := List.all_eq_true.mp w_cls ci (List.mem_range.mpr hci)
  simp only [Bool.and_eq_true] at hw2
  obtain ⟨C, T, N, hcl⟩ := cls_at hci
  obtain ⟨c1, c2, c3, c4, c5, c6, c7, c8⟩ := clsF hcl
  subst c4; subst c5
  obtain ⟨p, l, e, R, s, mm, args, below, meth, c, Q, D, tc, A, m⟩ := X
  obtain ⟨hx, hb, hml, hown, hts, hin, hK, hA, hnw, hfr, hlo⟩ := hX
  intro L H locs hL hS
  obtain ⟨hP, hD, hSS, hlen2, hscr⟩ := hS
  refine va_new (fs := (List.range (nF ci)).map (fval ad (iclr h.1 h.2.length) h.2.length ci (List.replicate (nF ci) 3000))) hx hb hts c1 (tyT ci) c2 hown (hts _ (okw_in hw.2)) (hts _ (okw_in hw2.1)) (hts _ (okw_in hw2.2)) hK hP hD hSS hA hcl ?_ hc hs hd (fun q H1 g1 g2 g3 => ?_)
  · intro j hj
    have hk3 := fk_of hci hj
    unfold vp_V
    rw [List.getD_eq_getElem?_getD, List.getElem?_map, List.getElem?_range hj]
    show _ = fval ad (iclr h.1 h.2.length) h.2.length ci (List.replicate (nF ci) 3000) j
    unfold fval
    rw [getD_rep, clr_new (Nat.le_refl _) hlen]
    unfold fk at hk3 ⊢
    generalize tyT ci j = ty at hk3 ⊢
    cases ty <;> first | rfl | exact absurd rfl hk3
  · have ha : ∀ o, o < h.2.length ∨ h.2.length + 1 ≤ o → ad1 ad h.2.length q o = ad o := fun o ho => ad1_lt (by omega)
    have hent : ent tc (ad1 ad h.2.length q) (iclr h.1 h.2.length) h.2.length (ci, nF ci, List.replicate (nF ci) 3000) = .inr (ci, (List.range (nF ci)).map (fval ad (iclr h.1 h.2.length) h.2.length ci (List.replicate (nF ci) 3000))) := by
      rw [ent_obj (ci := ci) (by omega)]
      congr 3
      funext j
      unfold fval
      rw [getD_rep]
      rfl
    have hwd := wd_app (tc := tc) (ad := ad) (ad' := ad1 ad h.2.length q) (I' := iclr h.1 h.2.length) (T := [(ci, nF ci, List.replicate (nF ci) 3000)]) hS0 hlen (fun o k9 ho => clr_old (Or.inl ho) k9) (fun o ho => ha o (Or.inl ho))
    have hwd2 : wd tc (ad1 ad h.2.length q) (iclr h.1 h.2.length, h.2 ++ [(ci, nF ci, List.replicate (nF ci) 3000)]) = wd tc ad h ++ [(q, .inr (ci, (List.range (nF ci)).map (fval ad (iclr h.1 h.2.length) h.2.length ci (List.replicate (nF ci) 3000))))] := by
      rw [hwd]
      show wd tc ad h ++ [(ad1 ad h.2.length q h.2.length, ent tc (ad1 ad h.2.length q) (iclr h.1 h.2.length) h.2.length (ci, nF ci, List.replicate (nF ci) 3000))] = _
      rw [hent, show ad1 ad h.2.length q h.2.length = q from if_pos rfl]
    rw [← hwd2] at g1 g2
    have kk := k _ ha L H1 locs (LR_ad hL (fun o ho => ha o (by have := okRefs_mem hl0 ho; omega))) ⟨g1, g2, g3, by show (h.2 ++ _).length ≤ 1000; simp; omega, fun z => scr_keep (hscr z) (ha _ (by omega)) (fun o k9 ho => clr_old (Or.inr ho) k9)⟩
    rw [List.map_cons, cv_ad (fun o ho => ha o (by have := okRefs_mem hs0 ho; omega))] at kk
    rw [show cv (ad1 ad h.2.length q) (vR h.2.length) = .ref q from congrArg Value.ref (if_pos rfl)] at kk
    exact kk
theorem arr_one {I : Nat → Nat → Int} {o : Nat} {tc : Nat → ClassId} {ad ad' : Nat → Nat} {q kd sz : Nat} {rf : List Nat} {E : va_E} (hS0 : okS h.2 = true) (hlen : h.2.length < 1000) (ha : ∀ o, o < h.2.length ∨ h.2.length + 1 ≤ o → ad' o = ad o) (hq : ad' h.2.length = q) (hE : ent tc ad' (iclr h.1 h.2.length) h.2.length (kd, sz, rf) = E) :
    wd tc ad' (iclr h.1 h.2.length, h.2 ++ [(kd, sz, rf)]) = wd tc ad h ++ [(q, E)] := by
  rw [wd_app (tc := tc) (ad := ad) (ad' := ad') (I' := iclr h.1 h.2.length) (T := [(kd, sz, rf)]) hS0 hlen (fun o k9 ho => clr_old (Or.inl ho) k9) (fun o ho => ha o (Or.inl ho))]
  show wd tc ad h ++ [(ad' h.2.length, ent tc ad' (iclr h.1 h.2.length) h.2.length (kd, sz, rf))] = _
  rw [hE, hq]
theorem arr_end {p : Program} {l : Launch} {e : Env} {R : Room} {s : State} {mm : MethodId} {args : Array Value} {below : List Frame} {meth : Method} {c : Code} {Q : State → Prop} {D : va_G} {tc : Nat → ClassId} {A : Nat → Prop} {m : Nat} {q kd sz : Nat} {rf : List Nat} {E : va_E} {L : Array Slot} {H1 : Heap} {locs : List Loc} {pc' : Nat} {r : List AV}
    (hS0 : okS h.2 = true) (hlen : h.2.length < 1000) (hl0 : okRefs h.2.length ls = true) (hs0 : okRefs h.2.length r = true) (hE : ∀ ad' : Nat → Nat, ent tc ad' (iclr h.1 h.2.length) h.2.length (kd, sz, rf) = E) (hL : LR ad (m_ml m) ls L) (hscr : m_own m = 13 → scrP s A ad h.1)
    (g1 : va_P D vwCl (wd tc ad h ++ [(q, E)]) H1) (g2 : va_D A (wd tc ad h ++ [(q, E)])) (g3 : va_S A s.heap H1 locs) {cells' slots' : Nat}
    (k : ∀ ad' : Nat → Nat, (∀ o, o < h.2.length ∨ h.2.length + 1 ≤ o → ad' o = ad o) → TT (p, l, e, R, s, mm, args, below, meth, c, Q, D, tc, A, m) ad' cells' slots' pc' ls (vR h.2.length :: r) (iclr h.1 h.2.length, h.2 ++ [(kd, sz, rf)])) :
    W p l e R s mm args below meth c H1 locs cells' slots' Q (F0 mm pc' L (.ref q :: r.map (cv ad))) := by
  have ha : ∀ o, o < h.2.length ∨ h.2.length + 1 ≤ o → ad1 ad h.2.length q o = ad o := fun o ho => ad1_lt (by omega)
  have hwd := arr_one (tc := tc) (I := h.1) (o := 0) (ad := ad) (ad' := ad1 ad h.2.length q) (q := q) hS0 hlen ha (if_pos rfl) (hE _)
  rw [← hwd] at g1 g2
  have kk := k _ ha L H1 locs (LR_ad hL (fun o ho => ha o (by have := okRefs_mem hl0 ho; omega))) ⟨g1, g2, g3, by show (h.2 ++ _).length ≤ 1000; simp; omega, fun z => scr_keep (hscr z) (ha _ (by omega)) (fun o k9 ho => clr_old (Or.inr ho) k9)⟩
  rw [List.map_cons, cv_ad (fun o ho => ha o (by have := okRefs_mem hs0 ho; omega))] at kk
  rw [show cv (ad1 ad h.2.length q) (vR h.2.length) = .ref q from congrArg Value.ref (if_pos rfl)] at kk
  exact kk
theorem clr_fun {I : Nat → Nat → Int} {n : Nat} (h : n < 1000) : (fun k => Int32.ofInt (iclr I n n k)) = fun _ => (0 : Int32) := funext fun k => by rw [clr_new (Nat.le_refl _) h]; rfl
theorem am_newI {n : Int} (hX : CX X) (hd : decode (m_cd (xm X)) pc = .ok (.newarray .int, 2)) (hn0 : 0 ≤ n) (hn1 : n ≤ 100000) (hlen : h.2.length < 1000) (hS0 : okS h.2 = true) (hl0 : okRefs h.2.length ls = true) (hs0 : okRefs h.2.length st = true) (hc : cells + 1 ≤ (xR X).cells) (hs : slots + n.toNat ≤ (xR X).slots)
    (k : ∀ ad' : Nat → Nat, (∀ o, o < h.2.length ∨ h.2.length + 1 ≤ o → ad' o = ad o) → TT X ad' (cells + 1) (slots + n.toNat) (pc + 2) ls (vR h.2.length :: st) (iclr h.1 h.2.length, h.2 ++ [(100, n.toNat, [])])) : TT X ad cells slots pc ls (vI n :: st) h := by
  have hr : inR n := ⟨by omega, by omega⟩
  obtain ⟨p, l, e, R, s, mm, args, below, meth, c, Q, D, tc, A, m⟩ := X
  obtain ⟨hx, hb, hml, hown, hts, hin, hK, hA, hnw, hfr, hlo⟩ := hX
  intro L H locs hL hS
  obtain ⟨hP, hD, hSS, hlen2, hscr⟩ := hS
  refine va_newa (atype := .int) (a0 := (n.toNat, .inl (fun _ => (0 : Int32)))) hx hb (hts _ w_arrI) rfl hK hP hD hSS hA (fun cA => vp_cell_i _ _ _) (by rw [show (0 : Int32) = Int32.ofInt 0 from rfl, i32_lt hr in0]; omega) (i32_clamp hr) (by show n.toNat * 4 ≤ 536870912; omega) hc hs hd (fun q cA H1 g0 g1 g2 g3 => ?_)
  have e1 : cA = tc 0 := by
    have h1 := (hK.2 0 (tc 0, .int) rfl).2
    have h2 := (g0.2 4 (cA, .int) rfl).2
    exact Option.some.inj (h2.symm.trans h1)
  subst e1
  exact arr_end hS0 hlen hl0 hs0 (fun ad' => by show (Sum.inl (tc 0, n.toNat, Sum.inl (fun k => Int32.ofInt (iclr h.1 h.2.length h.2.length k))) : va_E) = _; rw [clr_fun hlen]) hL hscr g1 g2 g3 k
theorem am_newB {n : Int} (hX : CX X) (hd : decode (m_cd (xm X)) pc = .ok (.newarray .byte, 2)) (hn0 : 0 ≤ n) (hn1 : n ≤ 100000) (hlen : h.2.length < 1000) (hS0 : okS h.2 = true) (hl0 : okRefs h.2.length ls = true) (hs0 : okRefs h.2.length st = true) (hc : cells + 1 ≤ (xR X).cells) (hs : slots + n.toNat ≤ (xR X).slots)
    (k : ∀ ad' : Nat → Nat, (∀ o, o < h.2.length ∨ h.2.length + 1 ≤ o → ad' o = ad o) → TT X ad' (cells + 1) (slots + n.toNat) (pc + 2) ls (vR h.2.length :: st) (iclr h.1 h.2.length, h.2 ++ [(101, n.toNat, [])])) : TT X ad cells slots pc ls (vI n :: st) h := by
  have hr : inR n := ⟨by omega, by omega⟩
  obtain ⟨p, l, e, R, s, mm, args, below, meth, c, Q, D, tc, A, m⟩ := X
  obtain ⟨hx, hb, hml, hown, hts, hin, hK, hA, hnw, hfr, hlo⟩ := hX
  intro L H locs hL hS
  obtain ⟨hP, hD, hSS, hlen2, hscr⟩ := hS
  refine va_newa (atype := .byte) (a0 := (n.toNat, .inl (fun _ => (0 : Int32)))) hx hb (hts _ w_arrB) rfl hK hP hD hSS hA (fun cA => vp_cell_i _ _ _) (by rw [show (0 : Int32) = Int32.ofInt 0 from rfl, i32_lt hr in0]; omega) (i32_clamp hr) (by show n.toNat * 1 ≤ 536870912; omega) hc hs hd (fun q cA H1 g0 g1 g2 g3 => ?_)
  have e1 : cA = tc 1 := by
    have h1 := (hK.2 1 (tc 1, .byte) rfl).2
    have h2 := (g0.2 4 (cA, .byte) rfl).2
    exact Option.some.inj (h2.symm.trans h1)
  subst e1
  exact arr_end hS0 hlen hl0 hs0 (fun ad' => by show (Sum.inl (tc 1, n.toNat, Sum.inl (fun k => Int32.ofInt (iclr h.1 h.2.length h.2.length k))) : va_E) = _; rw [clr_fun hlen]) hL hscr g1 g2 g3 k
theorem am_newR {n : Int} {ix wi : Nat} (hX : CX X) (hd : decode (m_cd (xm X)) pc = .ok (.anewarray ix, 3)) (hf : ctab.lookup (m_own (xm X), ix) = some (8, wi)) (hn0 : 0 ≤ n) (hn1 : n ≤ 100000) (hlen : h.2.length < 1000) (hS0 : okS h.2 = true) (hl0 : okRefs h.2.length ls = true) (hs0 : okRefs h.2.length st = true) (hc : cells + 1 ≤ (xR X).cells) (hs : slots + n.toNat ≤ (xR X).slots)
    (k : ∀ ad' : Nat → Nat, (∀ o, o < h.2.length ∨ h.2.length + 1 ≤ o → ad' o = ad o) → TT X ad' (cells + 1) (slots + n.toNat) (pc + 3) ls (vR h.2.length :: st) (iclr h.1 h.2.length, h.2 ++ [(103, n.toNat, List.replicate n.toNat 3000)])) : TT X ad cells slots pc ls (vI n :: st) h := by
  have hr : inR n := ⟨by omega, by omega⟩
  have hw := List.all_eq_true.mp ctab_ok _ (of_lk hf)
  rw [if_neg (show ¬ (8 : Nat) = 102 by decide)] at hw
  simp only [Bool.and_eq_true] at hw
  obtain ⟨p, l, e, R, s, mm, args, below, meth, c, Q, D, tc, A, m⟩ := X
  obtain ⟨hx, hb, hml, hown, hts, hin, hK, hA, hnw, hfr, hlo⟩ := hX
  intro L H locs hL hS
  obtain ⟨hP, hD, hSS, hlen2, hscr⟩ := hS
  refine va_newq (C := "RoundSlack$Rounds") hx hb hown (hts _ (okw_in hw.2)) hnw.2.1 hK hP hD hSS hA (by rw [show (0 : Int32) = Int32.ofInt 0 from rfl, i32_lt hr in0]; omega) (i32_clamp hr) (by omega) hc hs hd (fun q cA H1 g0 g1 g2 g3 => ?_)
  have e1 : cA = tc 3 := by
    obtain ⟨_, _, _, _, _, h1⟩ := (hK.2 3 (tc 3, .object "RoundSlack$Rounds") rfl).2
    obtain ⟨_, _, _, _, _, h2⟩ := (g0.2 4 (cA, .object "RoundSlack$Rounds") rfl).2
    exact Option.some.inj (h2.symm.trans h1)
  subst e1
  exact arr_end hS0 hlen hl0 hs0 (fun ad' => by
    show (Sum.inl (tc 3, n.toNat, Sum.inr (Sum.inr (Sum.inr (Sum.inr (fun k => rfo ad' ((List.replicate n.toNat 3000).getD k 3000)))))) : va_E) = _
    simp only [getD_rep]
    rfl) hL hscr g1 g2 g3 k
def adN (ad : Nat → Nat) (n q N : Nat) (r : Nat → Nat) : Nat → Nat := fun o => if o = n then q else if n < o ∧ o < n + 1 + N then r (o - n - 1) else ad o
theorem am_mna {n k9 : Int} {ix wi : Nat} (hX : CX X) (hd : decode (m_cd (xm X)) pc = .ok (.multianewarray ix 2, 4)) (hf : ctab.lookup (m_own (xm X), ix) = some (102, wi)) (hn0 : 0 ≤ n) (hn1 : n ≤ 900) (hk0 : 0 ≤ k9) (hk1 : k9 ≤ 1000) (hlen : h.2.length + 1 + n.toNat ≤ 1000) (hS0 : okS h.2 = true) (hl0 : okRefs h.2.length ls = true) (hs0 : okRefs h.2.length st = true) (hc : cells + (1 + n.toNat) ≤ (xR X).cells) (hs : slots + (n.toNat + n.toNat * k9.toNat) ≤ (xR X).slots)
    (k : ∀ ad' : Nat → Nat, (∀ o, o < h.2.length ∨ h.2.length + 1 + n.toNat ≤ o → ad' o = ad o) → TT X ad' (cells + 1 + n.toNat) (slots + n.toNat + n.toNat * k9.toNat) (pc + 4) ls (vR h.2.length :: st) (iclr h.1 h.2.length, (h.2 ++ [(102, n.toNat, (List.range n.toNat).map (fun i => h.2.length + 1 + i))]) ++ List.replicate n.toNat (100, k9.toNat, []))) : TT X ad cells slots pc ls (vI k9 :: vI n :: st) h := by
  have hr : inR n := ⟨by omega, by omega⟩
  have hr9 : inR k9 := ⟨by omega, by omega⟩
  have hw := List.all_eq_true.mp ctab_ok _ (of_lk hf)
  rw [if_pos rfl] at hw
  obtain ⟨p, l, e, R, s, mm, args, below, meth, c, Q, D, tc, A, m⟩ := X
  obtain ⟨hx, hb, hml, hown, hts, hin, hK, hA, hnw, hfr, hlo⟩ := hX
  intro L H locs hL hS
  obtain ⟨hP, hD, hSS, hlen2, hscr⟩ := hS
  have e0 : ("[" ++ (FieldType.array .int).toString : String) = "[[I" := by rfl
  have hcy : s.vm.findClass (FieldType.array .int).toString = some (tc 0) := (hK.2 0 (tc 0, .int) rfl).2
  refine va_mna (X := wd tc ad h) (L := []) (f := fun _ => .inr (0, [])) (cy := tc 0) (N' := n.toNat) (K' := k9.toNat) (z := (k9.toNat, .inl (fun _ => (0 : Int32)))) hx hb hown (by rw [e0]; exact hts _ (okw_in hw)) hnw.2.2 (hts _ w_arrI) hcy hK (by rw [show va_pl [] (fun _ => (Sum.inr (0, []) : va_E)) = [] from rfl, List.append_nil]; exact hP) (by rw [show va_pl [] (fun _ => (Sum.inr (0, []) : va_E)) = [] from rfl, List.append_nil]; exact hD) hSS hA
    (by rw [show (0 : Int32) = Int32.ofInt 0 from rfl, i32_lt hr in0]; omega) (by rw [show (0 : Int32) = Int32.ofInt 0 from rfl, i32_lt hr9 in0]; omega) (i32_clamp hr) (i32_clamp hr9) (by omega) (by show k9.toNat * 4 ≤ 536870912; omega) (by omega) rfl rfl hc hs (fun cA => by rw [vp_cell_i, ← arrV_new]; rfl) hd (fun q r cA H1 hinj hnl g0 g1 g2 g3 => ?_)
  have e1 : cA = tc 2 := by
    have h1 := (hK.2 2 (tc 2, .array .int) rfl).2
    have h2 := (g0.2 4 (cA, .array .int) rfl).2
    exact Option.some.inj (h2.symm.trans h1)
  subst e1
  have ha : ∀ o, o < h.2.length ∨ h.2.length + 1 + n.toNat ≤ o → adN ad h.2.length q n.toNat r o = ad o := fun o ho => by
    unfold adN
    rw [if_neg (by omega), if_neg (by omega)]
  have hwd : wd tc (adN ad h.2.length q n.toNat r) (iclr h.1 h.2.length, (h.2 ++ [(102, n.toNat, (List.range n.toNat).map (fun i => h.2.length + 1 + i))]) ++ List.replicate n.toNat (100, k9.toNat, [])) = (wd tc ad h ++ [(q, .inl (tc 2, n.toNat, .inr (.inr (.inr (.inr (fun i => if i < n.toNat then some (r i) else none))))))]) ++ va_pl ([] ++ (List.range n.toNat).map r) (vr_up (fun _ => .inr (0, [])) ((List.range n.toNat).map r) (.inl (tc 0, (k9.toNat, .inl (fun _ => (0 : Int32)))))) := by
    rw [List.append_assoc, wd_app (tc := tc) (ad := ad) (I' := iclr h.1 h.2.length) hS0 (by omega) (fun o k9 ho => clr_old (Or.inl ho) k9) (fun o ho => ha o (Or.inl ho)), List.append_assoc]
    congr 1
    show (adN ad h.2.length q n.toNat r h.2.length, ent tc (adN ad h.2.length q n.toNat r) (iclr h.1 h.2.length) h.2.length (102, n.toNat, (List.range n.toNat).map (fun i => h.2.length + 1 + i))) :: ((List.replicate n.toNat (100, k9.toNat, [])).zipIdx (h.2.length + 1)).map (fun z => (adN ad h.2.length q n.toNat r z.2, ent tc (adN ad h.2.length q n.toNat r) (iclr h.1 h.2.length) z.2 z.1)) = _
    have e2 : ent tc (adN ad h.2.length q n.toNat r) (iclr h.1 h.2.length) h.2.length (102, n.toNat, (List.range n.toNat).map (fun i => h.2.length + 1 + i)) = .inl (tc 2, n.toNat, .inr (.inr (.inr (.inr (fun i => if i < n.toNat then some (r i) else none))))) := by
      show (Sum.inl (tc 2, n.toNat, Sum.inr (Sum.inr (Sum.inr (Sum.inr (fun k => rfo (adN ad h.2.length q n.toNat r) (((List.range n.toNat).map (fun i => h.2.length + 1 + i)).getD k 3000)))))) : va_E) = _
      congr 7
      funext j
      rw [List.getD_eq_getElem?_getD, List.getElem?_map]
      by_cases hj : j < n.toNat
      · rw [List.getElem?_range hj, if_pos hj]
        show rfo _ (h.2.length + 1 + j) = _
        unfold rfo adN
        rw [if_neg (by omega), if_neg (by omega), if_pos (by omega), show h.2.length + 1 + j - h.2.length - 1 = j by omega]
      · rw [List.getElem?_eq_none (by simpa using Nat.le_of_not_lt hj), if_neg hj]
        rfl
    rw [e2, show adN ad h.2.length q n.toNat r h.2.length = q from if_pos rfl, List.singleton_append, List.nil_append]
    congr 1
    refine List.ext_getElem? fun j => ?_
    unfold va_pl
    rw [List.getElem?_map, List.getElem?_map, List.getElem?_map, List.getElem?_zipIdx, List.getElem?_replicate]
    by_cases hj : j < n.toNat
    · rw [if_pos hj, List.getElem?_range hj]
      show some (adN ad h.2.length q n.toNat r (h.2.length + 1 + j), ent tc (adN ad h.2.length q n.toNat r) (iclr h.1 h.2.length) (h.2.length + 1 + j) (100, k9.toNat, [])) = some (r j, vr_up (fun _ => .inr (0, [])) ((List.range n.toNat).map r) (.inl (tc 0, (k9.toNat, .inl (fun _ => (0 : Int32))))) (r j))
      rw [vr_up_in (List.mem_map.mpr ⟨j, List.mem_range.mpr hj, rfl⟩)]
      have e3 : adN ad h.2.length q n.toNat r (h.2.length + 1 + j) = r j := by
        unfold adN
        rw [if_neg (by omega), if_pos (by omega), show h.2.length + 1 + j - h.2.length - 1 = j by omega]
      have e4 : ent tc (adN ad h.2.length q n.toNat r) (iclr h.1 h.2.length) (h.2.length + 1 + j) (100, k9.toNat, []) = .inl (tc 0, (k9.toNat, .inl (fun _ => (0 : Int32)))) := by
        show (Sum.inl (tc 0, k9.toNat, Sum.inl (fun k => Int32.ofInt (iclr h.1 h.2.length (h.2.length + 1 + j) k))) : va_E) = _
        congr 4
        funext k8
        rw [clr_new (by omega) (by omega)]
        rfl
      rw [e3, e4]
    · rw [if_neg hj, List.getElem?_eq_none (show (List.range n.toNat).length ≤ j by simpa using Nat.le_of_not_lt hj)]
      rfl
  rw [← hwd] at g1 g2
  have kk := k _ ha L H1 locs (LR_ad hL (fun o ho => ha o (by have := okRefs_mem hl0 ho; omega))) ⟨g1, g2, g3, by show ((h.2 ++ _) ++ _).length ≤ 1000; simp; omega, fun z => scr_keep (hscr z) (ha _ (by omega)) (fun o k9 ho => clr_old (Or.inr ho) k9)⟩
  rw [List.map_cons, cv_ad (fun o ho => ha o (by have := okRefs_mem hs0 ho; omega))] at kk
  rw [show cv (adN ad h.2.length q n.toNat r) (vR h.2.length) = .ref q from congrArg Value.ref (if_pos rfl)] at kk
  exact kk
end OPS
