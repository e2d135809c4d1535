/-! switches, fields, arrays, the JDK's few, over TT -/
theorem w_cls : (List.range 13).all (fun ci => okw ([117, 313, 394, 183, 297, 342, 256, 450, 212, 236, 431, 109, 1035].getD ci 0) (.instantiable (cname ci) (nF ci)) && okw ([94, 100, 102, 95, 99, 101, 98, 105, 96, 97, 103, 93, 106].getD ci 0) (.initialized (cname ci))) = true := by decide +kernel
theorem w_mcode (k : Nat) (w : Jvm.Cond) (h : lw_tbl[k]? = some w) (hg : goodWord w = true) : w ∈ lw_gt := List.mem_filter.mpr ⟨List.mem_of_getElem? h, hg⟩
set_option maxRecDepth 100000 in
theorem w_abs : Jvm.Cond.code Lib.Math.abs.name Lib.Math.abs.code 1 (some .int) ∈ lw_gt := w_mcode 546 _ (by rfl) rfl
set_option maxRecDepth 100000 in
theorem w_max : Jvm.Cond.code Lib.Math.max.name Lib.Math.max.code 2 (some .int) ∈ lw_gt := w_mcode 438 _ (by rfl) rfl
set_option maxRecDepth 100000 in
theorem w_min : Jvm.Cond.code Lib.Math.min.name Lib.Math.min.code 2 (some .int) ∈ lw_gt := w_mcode 762 _ (by rfl) rfl
set_option maxRecDepth 100000 in
theorem w_obj : Jvm.Cond.code Lib.objectInit ⟨#[0xb1]⟩ 1 none ∈ lw_gt := w_mcode 115 _ (by rfl) rfl
theorem w_objI : Jvm.Cond.instanceMethod Lib.objectInit ∈ lw_gt := okw_in (i := 114) (by decide +kernel)
theorem w_absS : Jvm.Cond.static Lib.Math.abs.name ∈ lw_gt := okw_in (i := 545) (by decide +kernel)
theorem w_maxS : Jvm.Cond.static Lib.Math.max.name ∈ lw_gt := okw_in (i := 437) (by decide +kernel)
theorem w_minS : Jvm.Cond.static Lib.Math.min.name ∈ lw_gt := okw_in (i := 761) (by decide +kernel)
theorem w_math : Jvm.Cond.initialized "java/lang/Math" ∈ lw_gt := okw_in (i := 104) (by decide +kernel)
theorem w_sys : Jvm.Cond.initialized "java/lang/System" ∈ lw_gt := okw_in (i := 107) (by decide +kernel)
theorem w_acS : Jvm.Cond.static arraycopyName ∈ lw_gt := okw_in (i := 697) (by decide +kernel)
theorem w_acN : Jvm.Cond.native arraycopyName ∈ lw_gt := okw_in (i := 698) (by decide +kernel)
theorem w_arrI : Jvm.Cond.arrayClass .int ∈ lw_gt := okw_in (i := 181) (by decide +kernel)
theorem w_arrB : Jvm.Cond.arrayClass .byte ∈ lw_gt := okw_in (i := 448) (by decide +kernel)
theorem tl_zip (g : Int → Nat) (d : Nat) (lo x : Int) : ∀ (l : List Int) (n : Nat), tlook ((l.zipIdx n).map (fun q => (lo + q.2, g q.1))) x d = if lo + n ≤ x ∧ x < lo + n + l.length then g (l.getD (x - lo - n).toNat 0) else d
  | [], n => by
    rw [if_neg (by simp only [List.length_nil]; omega)]
    rfl
  | a :: l, n => by
    show (if x = lo + n then g a else tlook ((l.zipIdx (n + 1)).map (fun q => (lo + q.2, g q.1))) x d) = _
    by_cases e : x = lo + n
    · rw [if_pos e, if_pos (by simp only [List.length_cons]; omega), show (x - lo - n).toNat = 0 by omega]
      rfl
    · rw [if_neg e, tl_zip g d lo x l (n + 1)]
      by_cases e2 : lo + n ≤ x ∧ x < lo + n + (a :: l).length
      · simp only [List.length_cons] at e2
        rw [if_pos (by omega), if_pos (by simp only [List.length_cons]; omega), show (x - lo - n).toNat = (x - lo - (n + 1 : Nat)).toNat + 1 by omega]
        rfl
      · simp only [List.length_cons] at e2
        rw [if_neg (by omega), if_neg (by simp only [List.length_cons]; omega)]
theorem tl_look (g : Int → Nat) (d x : Int) : ∀ l : List (Int × Int), tlook (l.map (fun q => (q.1, g q.2))) x (g d) = g (Op.lookupswitch.offset l d x)
  | [] => rfl
  | (a, o) :: l => by
    show (if x = a then g o else tlook (l.map (fun q => (q.1, g q.2))) x (g d)) = g (if a = x then o else Op.lookupswitch.offset l d x)
    by_cases e : x = a
    · rw [if_pos e, if_pos e.symm]
    · rw [if_neg e, if_neg (fun z => e z.symm), tl_look g d x l]
theorem scr_keep {s : State} {A : Nat → Prop} {ad ad' : Nat → Nat} {I I' : Nat → Nat → Int} (h : scrP s A ad I) (ha : ad' 1000 = ad 1000) (hI : ∀ o k, 1000 ≤ o → I' o k = I o k) : scrP s A ad' I' := by
  obtain ⟨L, xs, h1, h2, h3, h4, h5, h6⟩ := h
  exact ⟨L, xs, by rw [ha]; exact h1, by rw [ha]; exact h2, by rw [ha]; exact h3, h4, by rw [hI _ _ (by decide)]; exact h5, fun k hk => by rw [hI _ _ (by decide)]; exact h6 k hk⟩
theorem set_range {α : Type} {N k : Nat} {f g : Nat → α} {v : α} (hk : k < N) (hv : v = g k) (hg : ∀ j, j ≠ k → g j = f j) : ((List.range N).map f).set k v = (List.range N).map g := by
  refine List.ext_getElem? fun j => ?_
  by_cases e : j = k
  · subst e
    rw [List.getElem?_set_self (by simpa using hk), hv]
    simp [List.getElem?_range hk]
  · rw [List.getElem?_set_ne (fun z => e z.symm)]
    by_cases hj : j < N
    · simp [List.getElem?_range hj, hg j e]
    · simp [List.getElem?_eq_none (show (List.range N).length ≤ j by simpa using Nat.le_of_not_lt hj)]
theorem getD_set {l : List Nat} {k j v : Nat} (hk : k < l.length) : (l.set k v).getD j 3000 = if j = k then v else l.getD j 3000 := by
  by_cases e : j = k
  · subst e
    rw [if_pos rfl, List.getD_eq_getElem?_getD, List.getElem?_set_self hk]
    rfl
  · rw [if_neg e, List.getD_eq_getElem?_getD, List.getElem?_set_ne (fun z => e z.symm), ← List.getD_eq_getElem?_getD]
section OPS
variable {X : CT} {ad : Nat → Nat} {cells slots pc : Nat} {ls st : List AV} {h : AH}
theorem am_table {d lo hi : Int} {offs : Array Int} {len : Nat} {x : Int} (hX : CX X) (hd : decode (m_cd (xm X)) pc = .ok (.tableswitch d lo hi offs, len)) (h1 : 0 ≤ tgt pc d) (h2 : hi = lo + offs.size - 1) (h3 : offs.toList.all (fun o => decide (0 ≤ tgt pc o)) = true) (hr : inR x) (k : TT X ad cells slots (tlook (offs.toList.zipIdx.map (fun q => (lo + q.2, (tgt pc q.1).toNat))) x (tgt pc d).toNat) ls st h) : TT X ad cells slots pc ls (vI x :: st) h := by
  rw [tl_zip (fun z => (tgt pc z).toNat)] at k
  obtain ⟨p, l, e, R, s, mm, args, below, meth, c, Q, D, tc, A, m⟩ := X
  obtain ⟨hx, hb, -⟩ := hX
  intro L H locs hL hS
  have kk := k L H locs hL hS
  by_cases q : lo + (0 : Nat) ≤ x ∧ x < lo + (0 : Nat) + offs.toList.length
  · rw [if_pos q] at kk
    rw [Array.length_toList] at q
    have hi : (x - lo).toNat < offs.size := by omega
    have ho : offs[(x - lo).toNat]? = some offs[(x - lo).toNat] := Array.getElem?_eq_getElem hi
    have hm : offs[(x - lo).toNat] ∈ offs.toList := by rw [Array.mem_toList_iff]; exact Array.getElem_mem _
    have h4 : 0 ≤ tgt pc offs[(x - lo).toNat] := by simpa using List.all_eq_true.mp h3 _ hm
    have h5 : offs.toList.getD (x - lo - (0 : Nat)).toNat 0 = offs[(x - lo).toNat] := by
      rw [show (x - lo - (0 : Nat)).toNat = (x - lo).toNat by omega, List.getD_eq_getElem?_getD, Array.getElem?_toList, ho]
      rfl
    rw [h5] at kk
    exact lv_tableIn hx hb hd (by rw [i32_eq hr]; omega) (by rw [i32_eq hr]; omega) (by rw [i32_eq hr]; exact ho) (by rw [Int.toNat_of_nonneg h4]; rfl) kk
  · rw [if_neg q] at kk
    rw [Array.length_toList] at q
    exact lv_tableOut hx hb hd (by rw [i32_eq hr]; omega) (by rw [Int.toNat_of_nonneg h1]; rfl) kk
theorem am_lookup {d : Int} {ps : Array (Int × Int)} {len : Nat} {x : Int} (hX : CX X) (hd : decode (m_cd (xm X)) pc = .ok (.lookupswitch d ps, len)) (h1 : 0 ≤ tgt pc d) (h2 : ps.toList.all (fun o => decide (0 ≤ tgt pc o.2)) = true) (h3 : (ps.toList.zip (ps.toList.drop 1)).all (fun (a, next) => a.1 < next.1) = true) (hr : inR x) (k : TT X ad cells slots (tlook (ps.toList.map (fun q => (q.1, (tgt pc q.2).toNat))) x (tgt pc d).toNat) ls st h) : TT X ad cells slots pc ls (vI x :: st) h := by
  rw [tl_look (fun z => (tgt pc z).toNat)] at k
  have hn : ∀ l : List (Int × Int), l.all (fun o => decide (0 ≤ tgt pc o.2)) = true → 0 ≤ tgt pc (Op.lookupswitch.offset l d x) := by
    intro l
    induction l with
    | nil => intro _; exact h1
    | cons q l ih =>
      intro hl
      obtain ⟨a, o⟩ := q
      simp only [List.all_cons, Bool.and_eq_true, decide_eq_true_eq] at hl
      rw [Op.lookupswitch.offset_cons]
      split
      · exact hl.1
      · exact ih hl.2
  have h4 := hn _ h2
  obtain ⟨p, l, e, R, s, mm, args, below, meth, c, Q, D, tc, A, m⟩ := X
  obtain ⟨hx, hb, -⟩ := hX
  intro L H locs hL hS
  exact lv_lookup hx hb hd h3 (by rw [i32_eq hr]) (by rw [Int.toNat_of_nonneg h4]; rfl) (k L H locs hL hS)
theorem am_getI {ix ci k0 wi sz o : Nat} {rf : List Nat} (hX : CX X) (hd : decode (m_cd (xm X)) pc = .ok (.getfield ix, 3)) (hf : ftab.lookup (m_own (xm X), ix) = some (ci, k0, wi)) (hk : fk ci k0 ≠ 2) (hq : h.2[o]? = some (ci, sz, rf)) (hz : k0 < sz) (k : TT X ad cells slots (pc + 3) ls (vI (h.1 o k0) :: st) h) : TT X ad cells slots pc ls (vR o :: st) h := by
  have hw := List.all_eq_true.mp ftab_ok _ (of_lk hf)
  unfold okFt at hw
  split at hw
  · rename_i C T N hc
    simp only [Bool.and_eq_true, decide_eq_true_eq] at hw
    obtain ⟨c1, c2, c3, c4, c5, c6, c7, c8⟩ := clsF hc
    obtain ⟨p, l, e, R, s, mm, args, below, meth, c, Q, D, tc, A, m⟩ := X
    obtain ⟨hx, hb, hml, hown, hts, hin, hK, hA, hnw, hfr, hlo⟩ := hX
    intro L H locs hL hS
    have he := wd_at (tc := tc) (ad := ad) hq
    rw [ent_obj (ci := ci) (Nat.lt_trans c8 (by decide))] at he
    exact va_get hx hb hts c1 hown hK hS.1 o he hc k0 hw.1 (hts _ (okw_in hw.2)) (fun _ z => z) (v := .int (Int32.ofInt (h.1 o k0))) (by simp [List.getElem?_range hz, fval, hk]) hd (k L H locs hL hS)
  · cases hw
theorem am_getR {ix ci k0 wi sz o q : Nat} {rf : List Nat} (hX : CX X) (hd : decode (m_cd (xm X)) pc = .ok (.getfield ix, 3)) (hf : ftab.lookup (m_own (xm X), ix) = some (ci, k0, wi)) (hk : fk ci k0 = 2) (hq : h.2[o]? = some (ci, sz, rf)) (hz : k0 < sz) (hr : rf[k0]? = some q) (hq3 : q < 1000) (k : TT X ad cells slots (pc + 3) ls (vR q :: st) h) : TT X ad cells slots pc ls (vR o :: st) h := by
  have hw := List.all_eq_true.mp ftab_ok _ (of_lk hf)
  unfold okFt at hw
  split at hw
  · rename_i C T N hc
    simp only [Bool.and_eq_true, decide_eq_true_eq] at hw
    obtain ⟨c1, c2, c3, c4, c5, c6, c7, c8⟩ := clsF hc
    obtain ⟨p, l, e, R, s, mm, args, below, meth, c, Q, D, tc, A, m⟩ := X
    obtain ⟨hx, hb, hml, hown, hts, hin, hK, hA, hnw, hfr, hlo⟩ := hX
    intro L H locs hL hS
    have he := wd_at (tc := tc) (ad := ad) hq
    rw [ent_obj (ci := ci) (Nat.lt_trans c8 (by decide))] at he
    exact va_get hx hb hts c1 hown hK hS.1 o he hc k0 hw.1 (hts _ (okw_in hw.2)) (fun _ z => z) (v := .ref (ad q)) (by simp [List.getElem?_range hz, fval, hk, hr, rfo, va_rf, show q ≠ 3000 by omega]) hd (k L H locs hL hS)
  · cases hw
theorem put_any {ix ci k0 wi sz o : Nat} {rf rf' : List Nat} {I' : Nat → Nat → Int} {v : AV} (hX : CX X) (hd : decode (m_cd (xm X)) pc = .ok (.putfield ix, 3)) (hf : ftab.lookup (m_own (xm X), ix) = some (ci, k0, wi)) (hfin : fFin ci k0 = false ∨ (m_kd (xm X) = 2 ∧ m_own (xm X) = ci)) (hq : h.2[o]? = some (ci, sz, rf)) (hz : k0 < sz) (hn : narrow (tyT ci k0) (cv ad v) = cv ad v) (hfit : fits (tyT ci k0) (cv ad v) = true)
    (hv : cv ad v = fval ad I' o ci rf' k0) (ho : ∀ j, j ≠ k0 → fval ad I' o ci rf' j = fval ad h.1 o ci rf j) (hI : ∀ o' k, o' ≠ o → I' o' k = h.1 o' k) (k : TT X ad cells slots (pc + 3) ls st (I', h.2.set o (ci, sz, rf'))) : TT X ad cells slots pc ls (v :: vR o :: st) h := by
  have hw := List.all_eq_true.mp ftab_ok _ (of_lk hf)
  unfold okFt at hw
  split at hw
  · rename_i C T N hc
    simp only [Bool.and_eq_true, decide_eq_true_eq] at hw
    obtain ⟨c1, c2, c3, c4, c5, c6, c7, c8⟩ := clsF hc
    obtain ⟨p, l, e, R, s, mm, args, below, meth, c, Q, D, tc, A, m⟩ := X
    obtain ⟨hx, hb, hml, hown, hts, hin, hK, hA, hnw, hfr, hlo⟩ := hX
    intro L H locs hL hS
    obtain ⟨hP, hD, hSS, hlen, hscr⟩ := hS
    have he := wd_at (tc := tc) (ad := ad) hq
    rw [ent_obj (ci := ci) (Nat.lt_trans c8 (by decide))] at he
    have hol : o < h.2.length := (List.getElem?_eq_some_iff.mp hq).1
    have hset : (wd tc ad h).set o (ad o, .inr (ci, ((List.range sz).map (fval ad h.1 o ci rf)).set k0 (cv ad v))) = wd tc ad (I', h.2.set o (ci, sz, rf')) := by
      rw [set_range hz hv ho, ← ent_obj (ci := ci) (tc := tc) (Nat.lt_trans c8 (by decide))]
      exact wd_set hq hI
    have kk : ∀ (H1 : Heap) (locs1 : List Loc), va_P D vwCl ((wd tc ad h).set o (ad o, .inr (ci, ((List.range sz).map (fval ad h.1 o ci rf)).set k0 (cv ad v)))) H1 → va_D A ((wd tc ad h).set o (ad o, .inr (ci, ((List.range sz).map (fval ad h.1 o ci rf)).set k0 (cv ad v)))) → va_S A s.heap H1 locs1 → W p l e R s mm args below meth c H1 locs1 cells slots Q (F0 mm (pc + 3) L (st.map (cv ad))) := by
      intro H1 locs1 g1 g2 g3
      rw [hset] at g1 g2
      exact k L H1 locs1 hL ⟨g1, g2, g3, by simpa using hlen, fun z => scr_keep (hscr z) rfl (fun o' k9 ho9 => hI o' k9 (by omega))⟩
    have hl : k0 < ((List.range sz).map (fval ad h.1 o ci rf)).length := by simpa using hz
    by_cases q : fFin ci k0 = false
    · exact va_put hx hb hts c1 (tyT ci) c2 c3 hown hK hP hD hSS o he hc k0 hw.1 (hts _ (okw_in hw.2)) (fun _ z => z) (by rw [c6]; exact q) (c2 k0 hw.1) hn hfit hl hd kk
    · have q2 : m_kd m = 2 ∧ m_own m = ci := hfin.resolve_left q
      have hdecl : (T k0).1 = cname (m_own m) := by rw [c7 k0 hw.1, c4, q2.2]
      exact va_putF hx hb hts c1 (tyT ci) c2 c3 hown hK hP hD hSS o he hc k0 hw.1 (hts _ (okw_in hw.2)) (fun _ z => z) (by rw [c6]; simpa using q) (hin q2.1) hdecl (c2 k0 hw.1) hn hfit hl hd kk
  · cases hw
theorem am_iald {o sz : Nat} {rf : List Nat} {i : Int} (hX : CX X) (hd : decode (m_cd (xm X)) pc = .ok (.iaload, 1)) (hq : h.2[o]? = some (100, sz, rf)) (h0 : 0 ≤ i) (h1 : i < sz) (hr : inR i) (k : TT X ad cells slots (pc + 1) ls (vI (h.1 o i.toNat) :: st) h) : TT X ad cells slots pc ls (vI i :: vR o :: st) h := by
  obtain ⟨p, l, e, R, s, mm, args, below, meth, c, Q, D, tc, A, m⟩ := X
  obtain ⟨hx, hb, hml, hown, hts, hin, hK, hA, hnw, hfr, hlo⟩ := hX
  intro L H locs hL hS
  exact va_iald hx hb hK hS.1 o 0 (wd_at (tc := tc) (ad := ad) hq) rfl (i32_vin hr h0 h1) hd (by rw [i32_clamp hr]; exact k L H locs hL hS)
theorem am_bald {o sz : Nat} {rf : List Nat} {i : Int} (hX : CX X) (hd : decode (m_cd (xm X)) pc = .ok (.baload, 1)) (hq : h.2[o]? = some (101, sz, rf)) (h0 : 0 ≤ i) (h1 : i < sz) (hr : inR i) (k : TT X ad cells slots (pc + 1) ls (vI (h.1 o i.toNat) :: st) h) : TT X ad cells slots pc ls (vI i :: vR o :: st) h := by
  obtain ⟨p, l, e, R, s, mm, args, below, meth, c, Q, D, tc, A, m⟩ := X
  obtain ⟨hx, hb, hml, hown, hts, hin, hK, hA, hnw, hfr, hlo⟩ := hX
  intro L H locs hL hS
  exact va_bald hx hb hK hS.1 o 1 (wd_at (tc := tc) (ad := ad) hq) rfl (i32_vin hr h0 h1) hd (by rw [i32_clamp hr]; exact k L H locs hL hS)
theorem aald_any (hX : CX X) {n : Nat} {f : Nat → Option Nat} {o : Nat} {t0 : Nat} {ty : FieldType} (hd : decode (m_cd (xm X)) pc = .ok (.aaload, 1)) {i : Int} {q : Nat} (ht : ∀ tc : Nat → ClassId, (tysF tc)[t0]? = some (tc t0, ty)) (hty : ty.isReference = true) (ha : ∀ tc : Nat → ClassId, (wd tc ad h)[o]? = some (ad o, .inl (tc t0, n, .inr (.inr (.inr (.inr f)))))) (hr : inR i) (h0 : 0 ≤ i) (h1 : i < n) (hf : f i.toNat = some (ad q)) (k : TT X ad cells slots (pc + 1) ls (vR q :: st) h) : TT X ad cells slots pc ls (vI i :: vR o :: st) h := by
  obtain ⟨p, l, e, R, s, mm, args, below, meth, c, Q, D, tc, A, m⟩ := X
  obtain ⟨hx, hb, hml, hown, hts, hin, hK, hA, hnw, hfr, hlo⟩ := hX
  intro L H locs hL hS
  have hin9 := i32_vin (n := n) hr h0 h1
  have hlt : (Int32.ofInt i).toNatClampNeg < n := Nat.not_le.mp fun q => hin9 (Or.inr q)
  have kk := k L H locs hL hS
  have hv : va_rf (f (Int32.ofInt i).toNatClampNeg) = .ref (ad q) := by rw [i32_clamp hr, hf]; rfl
  exact W.aald (v := va_rf (f (Int32.ofInt i).toNatClampNeg)) (ty := ty) hx hb (hS.1 o _ (ha tc)) ((hK.2 t0 _ (ht tc)).1 n (fun j => va_rf (f j))) hty (fun q => by cases q) (by show ¬ (Int32.ofInt i < 0 ∨ (arrV _ _ _).slots.size ≤ _); rw [arrV_size]; exact hin9) (by show (arrV _ _ _).slots[_]? = _; rw [arrV_read _ _ hlt]) rfl rfl hd (by rw [hv]; exact kk)
theorem am_aald {o sz kd q : Nat} {rf : List Nat} {i : Int} (hX : CX X) (hd : decode (m_cd (xm X)) pc = .ok (.aaload, 1)) (hq : h.2[o]? = some (kd, sz, rf)) (hkd : kd = 102 ∨ kd = 103) (h0 : 0 ≤ i) (h1 : i < sz) (hr : inR i) (hf : rf[i.toNat]? = some q) (hq3 : q < 1000) (k : TT X ad cells slots (pc + 1) ls (vR q :: st) h) : TT X ad cells slots pc ls (vI i :: vR o :: st) h := by
  have hfq : rfo ad (rf.getD i.toNat 3000) = some (ad q) := by
    rw [List.getD_eq_getElem?_getD, hf]
    exact if_neg (by show q ≠ 3000; omega)
  rcases hkd with rfl | rfl
  · exact aald_any hX (t0 := 2) (ty := .array .int) hd (fun tc => rfl) rfl (fun tc => wd_at (tc := tc) (ad := ad) hq) hr h0 h1 hfq k
  · exact aald_any hX (t0 := 3) (ty := .object "RoundSlack$Rounds") hd (fun tc => rfl) rfl (fun tc => wd_at (tc := tc) (ad := ad) hq) hr h0 h1 hfq k
theorem am_iast {o sz : Nat} {rf : List Nat} {i x : Int} (hX : CX X) (hd : decode (m_cd (xm X)) pc = .ok (.iastore, 1)) (hq : h.2[o]? = some (100, sz, rf)) (h0 : 0 ≤ i) (h1 : i < sz) (hr : inR i) (k : TT X ad cells slots (pc + 1) ls st (iup h.1 o i.toNat x, h.2)) : TT X ad cells slots pc ls (vI x :: vI i :: vR o :: st) h := by
  obtain ⟨p, l, e, R, s, mm, args, below, meth, c, Q, D, tc, A, m⟩ := X
  obtain ⟨hx, hb, hml, hown, hts, hin, hK, hA, hnw, hfr, hlo⟩ := hX
  intro L H locs hL hS
  obtain ⟨hP, hD, hSS, hlen, hscr⟩ := hS
  have hol : o < h.2.length := (List.getElem?_eq_some_iff.mp hq).1
  have hI : ∀ o' k9, o' ≠ o → iup h.1 o i.toNat x o' k9 = h.1 o' k9 := fun o' k9 z => if_neg (fun y => z y.1)
  refine va_iast hx hb hK hP hD hSS o 0 (wd_at (tc := tc) (ad := ad) hq) rfl (i32_vin hr h0 h1) hd (fun H1 locs1 g1 g2 g3 => ?_)
  have hset : (wd tc ad h).set o (ad o, .inl (tc 0, sz, .inl (upd (fun k => Int32.ofInt (h.1 o k)) (Int32.ofInt i).toNatClampNeg (Int32.ofInt x)))) = wd tc ad (iup h.1 o i.toNat x, h.2) := by
    rw [← wd_upd hq hI]
    congr 2
    show _ = (Sum.inl (tc 0, sz, Sum.inl (fun k => Int32.ofInt (iup h.1 o i.toNat x o k))) : va_E)
    congr 4
    funext j
    rw [i32_clamp hr]
    unfold upd iup
    by_cases z : j = i.toNat <;> simp [z]
  rw [hset] at g1 g2
  exact k L H1 locs1 hL ⟨g1, g2, g3, hlen, fun z => scr_keep (hscr z) rfl (fun o' k9 ho9 => hI o' k9 (by omega))⟩
theorem am_bast {o sz : Nat} {rf : List Nat} {i x : Int} (hX : CX X) (hd : decode (m_cd (xm X)) pc = .ok (.bastore, 1)) (hq : h.2[o]? = some (101, sz, rf)) (h0 : 0 ≤ i) (h1 : i < sz) (hr : inR i) (hb1 : -128 ≤ x) (hb2 : x ≤ 127) (k : TT X ad cells slots (pc + 1) ls st (iup h.1 o i.toNat x, h.2)) : TT X ad cells slots pc ls (vI x :: vI i :: vR o :: st) h := by
  have hxr : inR x := ⟨by omega, by omega⟩
  have hnar : vp_nar .byte (Int32.ofInt x) = Int32.ofInt x := by
    rw [vp_nar_byte]
    exact i32_of hxr (by rw [Int8.toInt_toInt32, Int32.toInt_toInt8, i32_eq hxr]; exact Int.bmod_eq_of_le (by omega) (by omega))
  obtain ⟨p, l, e, R, s, mm, args, below, meth, c, Q, D, tc, A, m⟩ := X
  obtain ⟨hx, hb, hml, hown, hts, hin, hK, hA, hnw, hfr, hlo⟩ := hX
  intro L H locs hL hS
  obtain ⟨hP, hD, hSS, hlen, hscr⟩ := hS
  have hol : o < h.2.length := (List.getElem?_eq_some_iff.mp hq).1
  have hI : ∀ o' k9, o' ≠ o → iup h.1 o i.toNat x o' k9 = h.1 o' k9 := fun o' k9 z => if_neg (fun y => z y.1)
  refine va_bast hx hb hK hP hD hSS o 1 (wd_at (tc := tc) (ad := ad) hq) rfl (i32_vin hr h0 h1) hd (fun H1 locs1 g1 g2 g3 => ?_)
  have hset : (wd tc ad h).set o (ad o, .inl (tc 1, sz, .inl (upd (fun k => Int32.ofInt (h.1 o k)) (Int32.ofInt i).toNatClampNeg (vp_nar .byte (Int32.ofInt x))))) = wd tc ad (iup h.1 o i.toNat x, h.2) := by
    rw [← wd_upd hq hI, hnar]
    congr 2
    show _ = (Sum.inl (tc 1, sz, Sum.inl (fun k => Int32.ofInt (iup h.1 o i.toNat x o k))) : va_E)
    congr 4
    funext j
    rw [i32_clamp hr]
    unfold upd iup
    by_cases z : j = i.toNat <;> simp [z]
  rw [hset] at g1 g2
  exact k L H1 locs1 hL ⟨g1, g2, g3, hlen, fun z => scr_keep (hscr z) rfl (fun o' k9 ho9 => hI o' k9 (by omega))⟩
theorem am_aast {o q sz zq : Nat} {rf rq : List Nat} {i : Int} (hX : CX X) (hd : decode (m_cd (xm X)) pc = .ok (.aastore, 1)) (hq : h.2[o]? = some (103, sz, rf)) (hqq : h.2[q]? = some (8, zq, rq)) (h0 : 0 ≤ i) (h1 : i < sz) (hr : inR i) (hl : i.toNat < rf.length) (k : TT X ad cells slots (pc + 1) ls st (h.1, h.2.set o (103, sz, rf.set i.toNat q))) : TT X ad cells slots pc ls (vR q :: vI i :: vR o :: st) h := by
  obtain ⟨p, l, e, R, s, mm, args, below, meth, c, Q, D, tc, A, m⟩ := X
  obtain ⟨hx, hb, hml, hown, hts, hin, hK, hA, hnw, hfr, hlo⟩ := hX
  intro L H locs hL hS
  obtain ⟨hP, hD, hSS, hlen, hscr⟩ := hS
  have hql : q < h.2.length := (List.getElem?_eq_some_iff.mp hqq).1
  have hv := wd_at (tc := tc) (ad := ad) hqq
  rw [ent_obj (ci := 8) (by decide)] at hv
  refine va_astq (r := (RX8, TX8, 2)) hx hb hK hP hD hSS o 3 q 8 (wd_at (tc := tc) (ad := ad) hq) rfl hv rfl (i32_vin hr h0 h1) hd (fun H1 locs1 g1 g2 g3 => ?_)
  have hset : (wd tc ad h).set o (ad o, .inl (tc 3, sz, .inr (.inr (.inr (.inr (va_up (fun k => rfo ad (rf.getD k 3000)) (Int32.ofInt i).toNatClampNeg (some (ad q)))))))) = wd tc ad (h.1, h.2.set o (103, sz, rf.set i.toNat q)) := by
    rw [← wd_set (q' := (103, sz, rf.set i.toNat q)) hq (fun _ _ _ => rfl)]
    congr 2
    show _ = (Sum.inl (tc 3, sz, Sum.inr (Sum.inr (Sum.inr (Sum.inr (fun k => rfo ad ((rf.set i.toNat q).getD k 3000)))))) : va_E)
    congr 7
    funext j
    rw [i32_clamp hr, getD_set hl]
    unfold va_up
    by_cases z : j = i.toNat
    · rw [if_pos z, if_pos z]
      exact (if_neg (by show q ≠ 3000; omega)).symm
    · rw [if_neg z, if_neg z]
  rw [hset] at g1 g2
  exact k L H1 locs1 hL ⟨g1, g2, g3, by simpa using hlen, fun z => scr_keep (hscr z) rfl (fun o' k9 ho9 => rfl)⟩
theorem am_alen {o kd sz : Nat} {rf : List Nat} (hX : CX X) (hd : decode (m_cd (xm X)) pc = .ok (.arraylength, 1)) (hq : h.2[o]? = some (kd, sz, rf)) (h1 : 100 ≤ kd) (h2 : kd ≤ 103) (k : TT X ad cells slots (pc + 1) ls (vI sz :: st) h) : TT X ad cells slots pc ls (vR o :: st) h := by
  have e1 : Int32.ofNat sz = Int32.ofInt (sz : Int) := Int32.ofInt_eq_ofNat.symm
  obtain ⟨p, l, e, R, s, mm, args, below, meth, c, Q, D, tc, A, m⟩ := X
  obtain ⟨hx, hb, hml, hown, hts, hin, hK, hA, hnw, hfr, hlo⟩ := hX
  intro L H locs hL hS
  have he := wd_at (tc := tc) (ad := ad) hq
  rcases (show kd = 100 ∨ kd = 101 ∨ kd = 102 ∨ kd = 103 by omega) with rfl | rfl | rfl | rfl
  · exact va_alen hx hb hK hS.1 o 0 he rfl e1 hd (k L H locs hL hS)
  · exact va_alen hx hb hK hS.1 o 1 he rfl e1 hd (k L H locs hL hS)
  · exact va_alen hx hb hK hS.1 o 2 he rfl e1 hd (k L H locs hL hS)
  · exact va_alen hx hb hK hS.1 o 3 he rfl e1 hd (k L H locs hL hS)
theorem am_sld {i : Int} (hX : CX X) (hd : decode (m_cd (xm X)) pc = .ok (.iaload, 1)) (hm : m_own (xm X) = 13) (h0 : 0 ≤ i) (h1 : i < h.1 1001 0) (hr : inR i) (k : TT X ad cells slots (pc + 1) ls (vI (h.1 1000 i.toNat) :: st) h) : TT X ad cells slots pc ls (vI i :: vR 1000 :: st) h := by
  obtain ⟨p, l, e, R, s, mm, args, below, meth, c, Q, D, tc, A, m⟩ := X
  obtain ⟨hx, hb, hml, hown, hts, hin, hK, hA, hnw, hfr, hlo⟩ := hX
  intro L H locs hL hS
  obtain ⟨L9, xs, g1, g2, g3, g4, g5, g6⟩ := hS.2.2.2.2 hm
  have hlt : i < L9 := by rw [g5] at h1; exact h1
  exact va_sld hx hb g1 g2 g3 hS.2.2.1 (i32_vin hr h0 hlt) hd (by rw [i32_clamp hr, ← g6 _ (by omega)]; exact k L H locs hL hS)
theorem am_slen (hX : CX X) (hd : decode (m_cd (xm X)) pc = .ok (.arraylength, 1)) (hm : m_own (xm X) = 13) (k : TT X ad cells slots (pc + 1) ls (vI (h.1 1001 0) :: st) h) : TT X ad cells slots pc ls (vR 1000 :: st) h := by
  obtain ⟨p, l, e, R, s, mm, args, below, meth, c, Q, D, tc, A, m⟩ := X
  obtain ⟨hx, hb, hml, hown, hts, hin, hK, hA, hnw, hfr, hlo⟩ := hX
  intro L H locs hL hS
  obtain ⟨L9, xs, g1, g2, g3, g4, g5, g6⟩ := hS.2.2.2.2 hm
  have kk := k L H locs hL hS
  rw [g5] at kk
  exact va_slen hx hb g1 g2 g3 hS.2.2.1 hd (by rw [show Int32.ofNat L9 = Int32.ofInt (L9 : Int) from Int32.ofInt_eq_ofNat.symm]; exact kk)
theorem wcat_cv {ad : Nat → Nat} (l : List AV) : ((l.map (cv ad)).map fun v => v.category).sum = wcat l := by
  unfold wcat
  rw [List.map_map]
  congr 1
  apply List.map_congr_left
  intro v _
  rcases v with x | x | o <;> rfl
theorem jw {own ix j wi : Nat} (hf : jtab.lookup (own, ix) = some (j, wi)) : Jvm.Cond.methodLink (cname own) ix (jname j) ∈ lw_gt := by
  have hw := List.all_eq_true.mp jtab_ok _ (of_lk hf)
  simp only [Bool.and_eq_true] at hw
  exact okw_in hw.1
theorem am_abs {ix wi : Nat} {x : Int} (hX : CX X) (hd : decode (m_cd (xm X)) pc = .ok (.invokestatic ix, 3)) (hf : jtab.lookup (m_own (xm X), ix) = some (1, wi)) (hr : inR x) (hw : wcat st ≤ 8) (hroom : 1 ≤ m_fr (xm X) ∧ 40 ≤ m_lo (xm X)) (hc : cells ≤ (xR X).cells) (hs : slots ≤ (xR X).slots) (k : TT X ad cells slots (pc + 3) ls (vI (if 0 ≤ x then x else -x) :: st) h) : TT X ad cells slots pc ls (vI x :: st) h := by
  have e1 : (if 0 ≤ Int32.ofInt x then Int32.ofInt x else 0 - Int32.ofInt x) = Int32.ofInt (if 0 ≤ x then x else -x) := by
    have : (0 : Int32) ≤ Int32.ofInt x ↔ 0 ≤ x := i32_le in0 hr
    by_cases z : 0 ≤ x
    · rw [if_pos z, if_pos (this.mpr z)]
    · rw [if_neg z, if_neg (fun y => z (this.mp y)), Int32.ofInt_neg, Int32.zero_sub]
  obtain ⟨p, l, e, R, s, mm, args, below, meth, c, Q, D, tc, A, m⟩ := X
  obtain ⟨hx, hb, hml, hown, hts, hin, hK, hA, hnw, hfr, hlo⟩ := hX
  intro L H locs hL hS
  have hLs : L.size = m_ml m := by obtain ⟨-, lv, g1, -⟩ := hL; exact g1.1
  exact va_mabs hx hb (by rw [hml, hLs]) hown (hts _ (jw hf)) (hts _ w_absS) (hts _ w_math) (hts _ w_abs) (Nat.le_trans hroom.1 hfr) (by rw [wcat_cv]; exact Nat.le_trans (by omega) (Nat.le_trans hroom.2 hlo)) hc hs hd (by rw [e1]; exact k L H locs hL hS)
theorem am_max {ix wi : Nat} {x y : Int} (hX : CX X) (hd : decode (m_cd (xm X)) pc = .ok (.invokestatic ix, 3)) (hf : jtab.lookup (m_own (xm X), ix) = some (2, wi)) (hr : inR x) (hy : inR y) (hw : wcat st ≤ 8) (hroom : 1 ≤ m_fr (xm X) ∧ 40 ≤ m_lo (xm X)) (hc : cells ≤ (xR X).cells) (hs : slots ≤ (xR X).slots) (k : TT X ad cells slots (pc + 3) ls (vI (if x < y then y else x) :: st) h) : TT X ad cells slots pc ls (vI y :: vI x :: st) h := by
  have e1 : (if Int32.ofInt x < Int32.ofInt y then Int32.ofInt y else Int32.ofInt x) = Int32.ofInt (if x < y then y else x) := by
    by_cases z : x < y
    · rw [if_pos z, if_pos ((i32_lt hr hy).mpr z)]
    · rw [if_neg z, if_neg (fun q => z ((i32_lt hr hy).mp q))]
  obtain ⟨p, l, e, R, s, mm, args, below, meth, c, Q, D, tc, A, m⟩ := X
  obtain ⟨hx, hb, hml, hown, hts, hin, hK, hA, hnw, hfr, hlo⟩ := hX
  intro L H locs hL hS
  have hLs : L.size = m_ml m := by obtain ⟨-, lv, g1, -⟩ := hL; exact g1.1
  exact va_mmax hx hb (by rw [hml, hLs]) hown (hts _ (jw hf)) (hts _ w_maxS) (hts _ w_math) (hts _ w_max) (Nat.le_trans hroom.1 hfr) (by rw [wcat_cv]; exact Nat.le_trans (by omega) (Nat.le_trans hroom.2 hlo)) hc hs hd (by rw [e1]; exact k L H locs hL hS)
theorem am_min {ix wi : Nat} {x y : Int} (hX : CX X) (hd : decode (m_cd (xm X)) pc = .ok (.invokestatic ix, 3)) (hf : jtab.lookup (m_own (xm X), ix) = some (3, wi)) (hr : inR x) (hy : inR y) (hw : wcat st ≤ 8) (hroom : 1 ≤ m_fr (xm X) ∧ 40 ≤ m_lo (xm X)) (hc : cells ≤ (xR X).cells) (hs : slots ≤ (xR X).slots) (k : TT X ad cells slots (pc + 3) ls (vI (if y < x then y else x) :: st) h) : TT X ad cells slots pc ls (vI y :: vI x :: st) h := by
  obtain ⟨p, l, e, R, s, mm, args, below, meth, c, Q, D, tc, A, m⟩ := X
  obtain ⟨hx, hb, hml, hown, hts, hin, hK, hA, hnw, hfr, hlo⟩ := hX
  intro L H locs hL hS
  have hLs : L.size = m_ml m := by obtain ⟨-, lv, g1, -⟩ := hL; exact g1.1
  refine va_mmin hx hb (by rw [hml, hLs]) hown (hts _ (jw hf)) (hts _ w_minS) (hts _ w_math) (hts _ w_min) (Nat.le_trans hroom.1 hfr) (by rw [wcat_cv]; exact Nat.le_trans (by omega) (Nat.le_trans hroom.2 hlo)) hc hs hd ?_
  have kk := k L H locs hL hS
  simp only [List.map_cons, cv] at kk
  by_cases z : y < x
  · rw [if_pos z] at kk
    first | rw [if_pos ((i32_lt hy hr).mpr z)] | rw [if_neg (fun q => absurd ((i32_le hr hy).mp q) (by omega))]
    exact kk
  · rw [if_neg z] at kk
    first | rw [if_neg (fun q => z ((i32_lt hy hr).mp q))] | rw [if_pos ((i32_le hr hy).mpr (by omega))]
    exact kk
theorem am_copy {ix wi zc zd ca da : Nat} {rc0 rd : List Nat} {sp dp n : Int} (hX : CX X) (hd : decode (m_cd (xm X)) pc = .ok (.invokestatic ix, 3)) (hf : jtab.lookup (m_own (xm X), ix) = some (4, wi)) (hqc : h.2[ca]? = some (100, zc, rc0)) (hqd : h.2[da]? = some (100, zd, rd)) (r1 : inR sp) (r2 : inR dp) (r3 : inR n) (h1 : 0 ≤ sp) (h2 : 0 ≤ dp) (h3 : 0 ≤ n) (h4 : sp + n ≤ zc) (h5 : dp + n ≤ zd) (hw : wcat st ≤ 8) (hroom : 1 ≤ m_fr (xm X) ∧ 40 ≤ m_lo (xm X))
    (k : TT X ad cells slots (pc + 3) ls st (icp h.1 ca sp.toNat da dp.toNat n.toNat, h.2)) : TT X ad cells slots pc ls (vI n :: vI dp :: vR da :: vI sp :: vR ca :: st) h := by
  obtain ⟨p, l, e, R, s, mm, args, below, meth, c, Q, D, tc, A, m⟩ := X
  obtain ⟨hx, hb, hml, hown, hts, hin, hK, hA, hnw, hfr, hlo⟩ := hX
  intro L H locs hL hS
  obtain ⟨hP, hD, hSS, hlen, hscr⟩ := hS
  have hLs : L.size = m_ml m := by obtain ⟨-, lv, g1, -⟩ := hL; exact g1.1
  have hol : da < h.2.length := (List.getElem?_eq_some_iff.mp hqd).1
  have hI : ∀ o' k9, o' ≠ da → icp h.1 ca sp.toNat da dp.toNat n.toNat o' k9 = h.1 o' k9 := fun o' k9 z => if_neg (fun y => z y.1)
  refine va_copyi hx hb (by rw [hml, hLs]) hown (hts _ (jw hf)) (hts _ w_acN) (hts _ w_acS) (hts _ w_sys) hK hP hD hSS ca da 0 0 (wd_at (tc := tc) (ad := ad) hqc) (wd_at (tc := tc) (ad := ad) hqd) rfl rfl rfl ?_ ?_ ?_ ?_ ?_ (fun _ _ => rfl) (Nat.le_trans hroom.1 hfr) (by rw [wcat_cv, show nativeFrameWords "java/lang/System" "arraycopy" 5 = 7 by decide]; exact Nat.le_trans (by omega) (Nat.le_trans hroom.2 hlo)) hd (fun H1 locs1 g1 g2 g3 => ?_)
  · rw [show (0 : Int32) = Int32.ofInt 0 from rfl, i32_lt r1 in0]; omega
  · rw [show (0 : Int32) = Int32.ofInt 0 from rfl, i32_lt r2 in0]; omega
  · rw [show (0 : Int32) = Int32.ofInt 0 from rfl, i32_lt r3 in0]; omega
  · show (Int32.ofInt sp).toNatClampNeg + (Int32.ofInt n).toNatClampNeg ≤ zc
    rw [i32_clamp r1, i32_clamp r3]; omega
  · show (Int32.ofInt dp).toNatClampNeg + (Int32.ofInt n).toNatClampNeg ≤ zd
    rw [i32_clamp r2, i32_clamp r3]; omega
  · have hset : (wd tc ad h).set da (ad da, .inl (tc 0, zd, .inl (va_cpy (fun k => Int32.ofInt (h.1 ca k)) (fun k => Int32.ofInt (h.1 da k)) (Int32.ofInt sp).toNatClampNeg (Int32.ofInt dp).toNatClampNeg (Int32.ofInt n).toNatClampNeg))) = wd tc ad (icp h.1 ca sp.toNat da dp.toNat n.toNat, h.2) := by
      rw [← wd_upd hqd hI]
      congr 2
      show _ = (Sum.inl (tc 0, zd, Sum.inl (fun k => Int32.ofInt (icp h.1 ca sp.toNat da dp.toNat n.toNat da k))) : va_E)
      congr 4
      funext j
      rw [i32_clamp r1, i32_clamp r2, i32_clamp r3]
      unfold va_cpy icp
      by_cases z : dp.toNat ≤ j ∧ j < dp.toNat + n.toNat
      · rw [if_pos z, if_pos ⟨rfl, z⟩]
      · rw [if_neg z, if_neg (fun y => z y.2)]
    rw [hset] at g1 g2
    exact k L H1 locs1 hL ⟨g1, g2, g3, hlen, fun z => scr_keep (hscr z) rfl (fun o' k9 ho9 => hI o' k9 (by omega))⟩
theorem am_obj {ix wi o : Nat} (hX : CX X) (hd : decode (m_cd (xm X)) pc = .ok (.invokespecial ix, 3)) (hf : jtab.lookup (m_own (xm X), ix) = some (0, wi)) (hw : wcat st ≤ 8) (hroom : 1 ≤ m_fr (xm X) ∧ 40 ≤ m_lo (xm X)) (k : TT X ad cells slots (pc + 3) ls st h) : TT X ad cells slots pc ls (vR o :: st) h := by
  obtain ⟨p, l, e, R, s, mm, args, below, meth, c, Q, D, tc, A, m⟩ := X
  obtain ⟨hx, hb, hml, hown, hts, hin, hK, hA, hnw, hfr, hlo⟩ := hX
  intro L H locs hL hS
  have hLs : L.size = m_ml m := by obtain ⟨-, lv, g1, -⟩ := hL; exact g1.1
  refine W.objInit hx hb hown (hts _ (jw hf)) (hts _ w_objI) (hts _ w_obj) rfl (by rw [hml]; exact hLs) rfl hd (Nat.le_trans hroom.1 hfr) ?_ ?_
  · have := wcat_cv (ad := ad) st
    show 2 * 0 + ((st.map (cv ad)).map fun v => v.category).sum + 12 ≤ R.locals
    rw [this]
    have := hroom.2
    exact Nat.le_trans (by omega) (Nat.le_trans hroom.2 hlo)
  · exact k L H locs hL hS
end OPS
