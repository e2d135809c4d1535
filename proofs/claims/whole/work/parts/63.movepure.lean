/-! level 2: moves, without memory -/
def mvB (R : Nat → List Int) (kind a b c : Int) : Int :=
  if kind = 0 then (if 0 ≤ vanF R a ∧ (0 ≤ b ∧ b ≤ 3) ∧ 0 ≤ c ∧ c ≤ ((R b.toNat).length : Int) - (if vanF R a = b then 1 else 0) then 1 else 0)
  else if kind = 1 then (if a < b ∧ c = 0 ∧ 0 ≤ vanF R a ∧ 0 ≤ vanF R b then 1 else 0)
  else if kind = 2 then (if (0 ≤ a ∧ a ≤ 3) ∧ (0 ≤ b ∧ b ≤ 3) ∧ a < b ∧ 0 ≤ c ∧ c % 16 ≤ ((R a.toNat).length : Int) ∧ c / 16 ≤ ((R b.toNat).length : Int) then 1 else 0)
  else if kind = 3 then (if (0 ≤ a ∧ a ≤ 3) ∧ 0 ≤ b ∧ b < c ∧ c < ((R a.toNat).length : Int) then 1 else 0)
  else 0
def shR (R : Nat → List Int) (a b c : Int) : Nat → List Int := setR (outR R a) b.toNat ((outR R a b.toNat).insertIdx c.toNat a)
def sw (a b x : Int) : Int := if x = a then b else if x = b then a else x
def swR (R : Nat → List Int) (a b : Int) : Nat → List Int := fun v => (R v).map (sw a b)
def crR (R : Nat → List Int) (a b i j : Nat) : Nat → List Int := setR (setR R a ((R a).take i ++ (R b).drop j)) b ((R b).take j ++ (R a).drop i)
def tnL (L : List Int) (b c : Nat) : List Int := L.take b ++ (((L.drop b).take (c + 1 - b)).reverse ++ L.drop (c + 1))
def mkR (R : Nat → List Int) (kind a b c : Int) : Nat → List Int :=
  if kind = 0 then shR R a b c else if kind = 1 then swR R a b else if kind = 2 then crR R a.toNat b.toNat (c % 16).toNat (c / 16).toNat else setR R a.toNat (tnL (R a.toNat) b.toNat c.toNat)
def oneV (R : Nat → List Int) (kind a : Int) : Nat := if kind = 0 ∨ kind = 1 then (vanF R a).toNat else a.toNat
def othV (R : Nat → List Int) (kind a b : Int) : Nat := if kind = 0 ∨ kind = 2 then b.toNat else if kind = 1 then (vanF R b).toNat else a.toNat
def chB (R : Nat → List Int) (kind a b c : Int) : Int :=
  if kind = 0 then (if vanF R a = b ∧ placeF R a = c then 0 else 1) else if kind = 2 then (if c % 16 = ((R a.toNat).length : Int) ∧ c / 16 = ((R b.toNat).length : Int) then 0 else 1) else 1
/-- rounds with no order twice, good or not -/
def V0 (G : Nat → Int) (R : Nat → List Int) : Prop := (∀ v, v < 4 → (R v).length ≤ 12) ∧ (∀ v, v < 4 → ∀ x ∈ R v, 0 ≤ x ∧ x < G 5) ∧ ND4 R
theorem VR_V0 {G : Nat → Int} {R : Nat → List Int} (h : VR G R) : V0 G R := ⟨h.1, h.2.1, h.2.2.1⟩
theorem V0_VR {G : Nat → Int} {R : Nat → List Int} (h : V0 G R) (hg : ∀ v, v < 4 → gdV G v (R v)) : VR G R := ⟨h.1, h.2.1, h.2.2, hg⟩
theorem V0_mk {G : Nat → Int} {R : Nat → List Int} (hG : GR G) (h2 : ∀ v, v < 4 → ∀ x ∈ R v, 0 ≤ x ∧ x < G 5) (h3 : ND4 R) : V0 G R := by
  have hn := hG.1
  exact ⟨fun v hv => nd_len 12 _ (h3.1 v hv) (fun x hx => by have := h2 v hv x hx; omega), h2, h3⟩
theorem V0_R12 {G : Nat → Int} {R : Nat → List Int} (hG : GR G) (h : V0 G R) : R12 R := fun v hv x hx => by
  have hn := hG.1
  have := h.2.1 v hv x hx
  omega
/-- where an order is -/
theorem in_one {R : Nat → List Int} (h : ND4 R) {u v : Nat} (hu : u < 4) (hv : v < 4) {x : Int} (h1 : x ∈ R u) (h2 : x ∈ R v) : u = v := by
  by_cases c : u = v
  · exact c
  · exact absurd h2 (h.2 u v hu hv c x h1)
theorem vanF_of {R : Nat → List Int} (h : ND4 R) {v : Nat} (hv : v < 4) {x : Int} (hx : x ∈ R v) : vanF R x = v := by
  have c : 0 ≤ vanF R x := by
    by_cases z : vanF R x < 0
    · exact absurd hx (vanF_neg.mp z v hv)
    · omega
  obtain ⟨h1, h2, _⟩ := vanF_mem c
  have := in_one h h1 hv h2 hx
  omega
theorem idx_of {L : List Int} (h : L.Nodup) {k : Nat} {x : Int} (hk : L[k]? = some x) : idx x L = k := by
  have hx : x ∈ L := List.mem_of_getElem? hk
  have il := idx_lt hx
  exact (List.getElem?_inj il.1 h).mp (il.2.trans hk.symm)
theorem out_mem {R : Nat → List Int} {a x : Int} (h : ND4 R) (ha : 0 ≤ vanF R a) {v : Nat} (hv : v < 4) : x ∈ outR R a v ↔ x ∈ R v ∧ x ≠ a := by
  obtain ⟨h1, h2, _⟩ := vanF_mem ha
  unfold outR
  by_cases c : v = (vanF R a).toNat
  · rw [c, setR_s, List.mem_eraseIdx_iff_getElem?]
    have il := idx_lt h2
    constructor
    · rintro ⟨i, hi, e⟩
      refine ⟨List.mem_of_getElem? e, fun z => hi ?_⟩
      rw [z] at e
      exact (idx_of (h.1 _ h1) e).symm
    · rintro ⟨hx, ne⟩
      obtain ⟨i, e⟩ := List.mem_iff_getElem?.mp hx
      refine ⟨i, fun z => ne ?_, e⟩
      rw [z, il.2] at e
      exact (Option.some.inj e).symm
  · rw [setR_n c]
    exact ⟨fun hx => ⟨hx, fun z => c (by rw [z] at hx; exact in_one h hv h1 hx h2)⟩, fun hx => hx.1⟩
theorem out_len {R : Nat → List Int} {a : Int} (ha : 0 ≤ vanF R a) {v : Nat} : (outR R a v).length = (R v).length - (if vanF R a = (v : Int) then 1 else 0) := by
  obtain ⟨h1, h2, _⟩ := vanF_mem ha
  have il := idx_lt h2
  unfold outR
  by_cases c : v = (vanF R a).toNat
  · rw [c, setR_s, List.length_eraseIdx, if_pos il.1, if_pos (by omega)]
  · rw [setR_n c, if_neg (by omega)]
    rfl
theorem sw_sw {a b x : Int} : sw a b (sw a b x) = x := by
  unfold sw
  by_cases c : x = a
  · rw [if_pos c]
    by_cases d : b = a
    · rw [if_pos d]; omega
    · rw [if_neg d, if_pos rfl]; omega
  · rw [if_neg c]
    by_cases d : x = b
    · rw [if_pos d, if_pos rfl]; omega
    · rw [if_neg d, if_neg c, if_neg d]
theorem sw_mem {a b x : Int} {L : List Int} : x ∈ L.map (sw a b) ↔ sw a b x ∈ L := by
  rw [List.mem_map]
  constructor
  · rintro ⟨y, hy, e⟩
    rw [← e, sw_sw]
    exact hy
  · intro h
    exact ⟨_, h, sw_sw⟩
theorem tn_perm {L : List Int} {b c : Nat} (h : b ≤ c + 1) : (tnL L b c).Perm L := by
  have e : L = L.take b ++ ((L.drop b).take (c + 1 - b) ++ L.drop (c + 1)) := by
    have e1 := (List.take_append_drop (c + 1 - b) (L.drop b)).symm
    rw [List.drop_drop, show b + (c + 1 - b) = c + 1 by omega] at e1
    rw [← e1]
    exact (List.take_append_drop b L).symm
  have p : (tnL L b c).Perm (L.take b ++ ((L.drop b).take (c + 1 - b) ++ L.drop (c + 1))) := by
    unfold tnL
    exact List.Perm.append_left _ (List.Perm.append_right _ (List.reverse_perm _))
  rw [← e] at p
  exact p
theorem tn_get {L : List Int} {b c k : Nat} (h : b ≤ c) (hc : c < L.length) : (tnL L b c)[k]? = if b ≤ k ∧ k ≤ c then L[b + c - k]? else L[k]? := by
  unfold tnL
  have l1 : (L.take b).length = b := by rw [List.length_take]; omega
  have l2 : ((L.drop b).take (c + 1 - b)).length = c + 1 - b := by rw [List.length_take, List.length_drop]; omega
  rw [List.getElem?_append, l1]
  by_cases c1 : k < b
  · rw [if_pos c1, if_neg (by omega), List.getElem?_take, if_pos c1]
  · rw [if_neg c1, List.getElem?_append, List.length_reverse, l2]
    by_cases c2 : k ≤ c
    · rw [if_pos (by omega), if_pos (by omega), List.getElem?_reverse (by omega), l2, List.getElem?_take, if_pos (by omega), List.getElem?_drop]
      congr 1
      omega
    · rw [if_neg (by omega), if_neg (by omega), List.getElem?_drop]
      congr 1
      omega
theorem cr_at {R : Nat → List Int} {a b i j : Nat} (hab : a ≠ b) : crR R a b i j a = (R a).take i ++ (R b).drop j ∧ crR R a b i j b = (R b).take j ++ (R a).drop i ∧ (∀ v, v ≠ a → v ≠ b → crR R a b i j v = R v) := by
  unfold crR
  exact ⟨by rw [setR_n hab, setR_s], by rw [setR_s], fun v h1 h2 => by rw [setR_n h2, setR_n h1]⟩
theorem mem_td {L : List Int} {i : Nat} {x : Int} : x ∈ L ↔ (x ∈ L.take i ∨ x ∈ L.drop i) := by
  rw [← List.mem_append, List.take_append_drop]
theorem nd_td {L : List Int} {i : Nat} {x : Int} (h : L.Nodup) (h1 : x ∈ L.take i) : x ∉ L.drop i := by
  have e := List.take_append_drop i L
  rw [← e, List.nodup_append] at h
  exact fun h2 => h.2.2 x h1 x h2 rfl
theorem if1 {p : Prop} [Decidable p] (h : (if p then (1 : Int) else 0) = 1) : p := Decidable.byContradiction (fun z => by rw [if_neg z] at h; omega)
/-- what every move keeps -/
theorem mk_V0 {G : Nat → Int} {R : Nat → List Int} {kind a b c : Int} (hG : GR G) (h : V0 G R) (hm : mvB R kind a b c = 1) : V0 G (mkR R kind a b c) ∧ (∀ v, v < 4 → v ≠ oneV R kind a → v ≠ othV R kind a b → mkR R kind a b c v = R v) ∧ (∀ x, (∃ v, v < 4 ∧ x ∈ mkR R kind a b c v) ↔ ∃ v, v < 4 ∧ x ∈ R v) ∧ oneV R kind a < 4 ∧ othV R kind a b < 4 := by
  obtain ⟨h1, h2, h3⟩ := h
  have main : ND4 (mkR R kind a b c) ∧ (∀ v, v < 4 → v ≠ oneV R kind a → v ≠ othV R kind a b → mkR R kind a b c v = R v) ∧ (∀ x, (∃ v, v < 4 ∧ x ∈ mkR R kind a b c v) ↔ ∃ v, v < 4 ∧ x ∈ R v) ∧ oneV R kind a < 4 ∧ othV R kind a b < 4 := by
    unfold mvB at hm
    by_cases k0 : kind = 0
    · rw [if_pos k0] at hm
      have hc : 0 ≤ vanF R a ∧ (0 ≤ b ∧ b ≤ 3) ∧ 0 ≤ c ∧ c ≤ ((R b.toNat).length : Int) - (if vanF R a = b then 1 else 0) := if1 hm
      obtain ⟨ha, hb, hc0, hcl⟩ := hc
      have eR : mkR R kind a b c = shR R a b c := by unfold mkR; rw [if_pos k0]
      have e1 : oneV R kind a = (vanF R a).toNat := by unfold oneV; rw [if_pos (Or.inl k0)]
      have e2 : othV R kind a b = b.toNat := by unfold othV; rw [if_pos (Or.inl k0)]
      rw [eR, e1, e2]
      have hw := vanF_mem ha
      have hb4 : b.toNat < 4 := by omega
      have ol := out_len ha (v := b.toNat)
      rw [show ((b.toNat : Nat) : Int) = b by omega] at ol
      have cl : c.toNat ≤ (outR R a b.toNat).length := by
        rw [ol]
        split at hcl
        · rename_i z; rw [if_pos z]; omega
        · rename_i z; rw [if_neg z]; omega
      have om := fun x v hv => out_mem (x := x) h3 ha (v := v) hv
      have sh : ∀ v, v < 4 → ∀ x, x ∈ shR R a b c v ↔ ((x ∈ R v ∧ x ≠ a) ∨ (v = b.toNat ∧ x = a)) := by
        intro v hv x
        unfold shR
        by_cases d : v = b.toNat
        · rw [d, setR_s, List.mem_insertIdx cl, om x _ hb4]
          constructor
          · rintro (z | z)
            · exact Or.inr ⟨rfl, z⟩
            · exact Or.inl z
          · rintro (z | z)
            · exact Or.inr z
            · exact Or.inl z.2
        · rw [setR_n d, om x v hv]
          exact ⟨fun z => Or.inl z, fun z => z.elim id (fun y => absurd y.1 d)⟩
      refine ⟨⟨fun v hv => ?_, fun u v hu hv ne x hx => ?_⟩, fun v hv n1 n2 => ?_, fun x => ?_, hw.1, hb4⟩
      · have on : (outR R a v).Nodup := by
          unfold outR
          by_cases d : v = (vanF R a).toNat
          · rw [d, setR_s]; exact (h3.1 _ hw.1).sublist (List.eraseIdx_sublist _ _)
          · rw [setR_n d]; exact h3.1 v hv
        unfold shR
        by_cases d : v = b.toNat
        · rw [d, setR_s]
          rw [d] at on
          exact nd_ins cl (fun z => ((om a _ hb4).mp z).2 rfl) on
        · rw [setR_n d]; exact on
      · rw [sh u hu] at hx
        rw [sh v hv]
        rintro (z | z)
        · rcases hx with y | y
          · exact ne (in_one h3 hu hv y.1 z.1)
          · exact z.2 y.2
        · rcases hx with y | y
          · exact y.2 z.2
          · exact ne (y.1.trans z.1.symm)
      · unfold shR outR
        rw [setR_n n2, setR_n n1]
      · constructor
        · rintro ⟨v, hv, hx⟩
          rcases (sh v hv x).mp hx with z | z
          · exact ⟨v, hv, z.1⟩
          · rw [z.2]; exact ⟨_, hw.1, hw.2.1⟩
        · rintro ⟨v, hv, hx⟩
          by_cases d : x = a
          · exact ⟨b.toNat, hb4, (sh _ hb4 x).mpr (Or.inr ⟨rfl, d⟩)⟩
          · exact ⟨v, hv, (sh v hv x).mpr (Or.inl ⟨hx, d⟩)⟩
    · rw [if_neg k0] at hm
      by_cases k1 : kind = 1
      · rw [if_pos k1] at hm
        have hc : a < b ∧ c = 0 ∧ 0 ≤ vanF R a ∧ 0 ≤ vanF R b := if1 hm
        obtain ⟨hab, hc0, ha, hb⟩ := hc
        have eR : mkR R kind a b c = swR R a b := by unfold mkR; rw [if_neg k0, if_pos k1]
        have e1 : oneV R kind a = (vanF R a).toNat := by unfold oneV; rw [if_pos (Or.inr k1)]
        have e2 : othV R kind a b = (vanF R b).toNat := by unfold othV; rw [if_neg (by omega), if_pos k1]
        rw [eR, e1, e2]
        have wa := vanF_mem ha
        have wb := vanF_mem hb
        refine ⟨⟨fun v hv => ?_, fun u v hu hv ne x hx => ?_⟩, fun v hv n1 n2 => ?_, fun x => ?_, wa.1, wb.1⟩
        · show ((R v).map (sw a b)).Nodup
          refine List.Pairwise.map (sw a b) (fun x y hxy z => hxy ?_) (h3.1 v hv)
          have := congrArg (sw a b) z
          rw [sw_sw, sw_sw] at this
          exact this
        · have hx' := (sw_mem (a := a) (b := b)).mp hx
          exact fun z => ne (in_one h3 hu hv hx' ((sw_mem (a := a) (b := b)).mp z))
        · show (R v).map (sw a b) = R v
          have : (R v).map (sw a b) = (R v).map id := List.map_congr_left (fun x hx => by
            unfold sw
            rw [if_neg (fun z => n1 (by rw [z] at hx; exact in_one h3 hv wa.1 hx wa.2.1)), if_neg (fun z => n2 (by rw [z] at hx; exact in_one h3 hv wb.1 hx wb.2.1))]
            rfl)
          rw [this, List.map_id]
        · have both : ∀ x, (∃ v, v < 4 ∧ x ∈ R v) → ∃ v, v < 4 ∧ sw a b x ∈ R v := by
            rintro x ⟨v, hv, hx⟩
            unfold sw
            split
            · exact ⟨_, wb.1, wb.2.1⟩
            · split
              · exact ⟨_, wa.1, wa.2.1⟩
              · exact ⟨v, hv, hx⟩
          constructor
          · rintro ⟨v, hv, hx⟩
            have := both _ ⟨v, hv, (sw_mem (a := a) (b := b)).mp hx⟩
            rw [sw_sw] at this
            exact this
          · intro hx
            obtain ⟨v, hv, z⟩ := both x hx
            exact ⟨v, hv, (sw_mem (a := a) (b := b)).mpr z⟩
      · rw [if_neg k1] at hm
        by_cases k2 : kind = 2
        · rw [if_pos k2] at hm
          have hc : (0 ≤ a ∧ a ≤ 3) ∧ (0 ≤ b ∧ b ≤ 3) ∧ a < b ∧ 0 ≤ c ∧ c % 16 ≤ ((R a.toNat).length : Int) ∧ c / 16 ≤ ((R b.toNat).length : Int) := if1 hm
          obtain ⟨ha, hb, hab, hc0, hi, hj⟩ := hc
          have eR : mkR R kind a b c = crR R a.toNat b.toNat (c % 16).toNat (c / 16).toNat := by unfold mkR; rw [if_neg k0, if_neg k1, if_pos k2]
          have e1 : oneV R kind a = a.toNat := by unfold oneV; rw [if_neg (by omega)]
          have e2 : othV R kind a b = b.toNat := by unfold othV; rw [if_pos (Or.inr k2)]
          rw [eR, e1, e2]
          have a4 : a.toNat < 4 := by omega
          have b4 : b.toNat < 4 := by omega
          have ne : a.toNat ≠ b.toNat := by omega
          generalize a.toNat = A at *
          generalize b.toNat = B at *
          generalize (c % 16).toNat = i
          generalize (c / 16).toNat = j
          obtain ⟨c1, c2, c3⟩ := cr_at (R := R) (i := i) (j := j) ne
          have dis : ∀ x, x ∈ R A → x ∉ R B := h3.2 A B a4 b4 ne
          have nA := h3.1 A a4
          have nB := h3.1 B b4
          have tA : ∀ {x}, x ∈ (R A).take i → x ∈ R A := fun h => List.mem_of_mem_take h
          have dA : ∀ {x}, x ∈ (R A).drop i → x ∈ R A := fun h => List.mem_of_mem_drop h
          have tB : ∀ {x}, x ∈ (R B).take j → x ∈ R B := fun h => List.mem_of_mem_take h
          have dB : ∀ {x}, x ∈ (R B).drop j → x ∈ R B := fun h => List.mem_of_mem_drop h
          have mA : ∀ x, x ∈ crR R A B i j A ↔ (x ∈ (R A).take i ∨ x ∈ (R B).drop j) := fun x => by rw [c1, List.mem_append]
          have mB : ∀ x, x ∈ crR R A B i j B ↔ (x ∈ (R B).take j ∨ x ∈ (R A).drop i) := fun x => by rw [c2, List.mem_append]
          have inAB : ∀ v, (v = A ∨ v = B) → ∀ x, x ∈ crR R A B i j v → x ∈ R A ∨ x ∈ R B := by
            rintro v (e | e) x hx
            · rw [e, mA] at hx; exact hx.elim (fun z => Or.inl (tA z)) (fun z => Or.inr (dB z))
            · rw [e, mB] at hx; exact hx.elim (fun z => Or.inr (tB z)) (fun z => Or.inl (dA z))
          have dAB : ∀ x, x ∈ crR R A B i j A → x ∉ crR R A B i j B := by
            intro x hx hy
            rw [mA] at hx
            rw [mB] at hy
            rcases hx with z | z
            · rcases hy with w | w
              · exact dis x (tA z) (tB w)
              · exact nd_td nA z w
            · rcases hy with w | w
              · exact nd_td nB w z
              · exact dis x (dA w) (dB z)
          refine ⟨⟨fun v hv => ?_, fun u v hu hv ne' x hx => ?_⟩, fun v hv n1 n2 => c3 v n1 n2, fun x => ?_, a4, b4⟩
          · by_cases d1 : v = A
            · rw [d1, c1, List.nodup_append]
              exact ⟨nA.sublist (List.take_sublist _ _), nB.sublist (List.drop_sublist _ _), fun x hx y hy e => dis x (tA hx) (by rw [e]; exact dB hy)⟩
            · by_cases d2 : v = B
              · rw [d2, c2, List.nodup_append]
                exact ⟨nB.sublist (List.take_sublist _ _), nA.sublist (List.drop_sublist _ _), fun x hx y hy e => dis y (dA hy) (by rw [← e]; exact tB hx)⟩
              · rw [c3 v d1 d2]; exact h3.1 v hv
          · by_cases u1 : u = A ∨ u = B
            · by_cases v1 : v = A ∨ v = B
              · rcases u1 with e | e <;> rcases v1 with g | g
                · exact absurd (e.trans g.symm) ne'
                · rw [e] at hx; rw [g]; exact dAB x hx
                · rw [e] at hx; rw [g]; exact fun z => dAB x z hx
                · exact absurd (e.trans g.symm) ne'
              · rw [c3 v (fun z => v1 (Or.inl z)) (fun z => v1 (Or.inr z))]
                rcases inAB u u1 x hx with z | z
                · exact fun w => v1 (Or.inl (in_one h3 hv a4 w z))
                · exact fun w => v1 (Or.inr (in_one h3 hv b4 w z))
            · rw [c3 u (fun z => u1 (Or.inl z)) (fun z => u1 (Or.inr z))] at hx
              by_cases v1 : v = A ∨ v = B
              · intro w
                rcases inAB v v1 x w with z | z
                · exact u1 (Or.inl (in_one h3 hu a4 hx z))
                · exact u1 (Or.inr (in_one h3 hu b4 hx z))
              · rw [c3 v (fun z => v1 (Or.inl z)) (fun z => v1 (Or.inr z))]
                exact h3.2 u v hu hv ne' x hx
          · constructor
            · rintro ⟨v, hv, hx⟩
              by_cases v1 : v = A ∨ v = B
              · rcases inAB v v1 x hx with z | z
                · exact ⟨A, a4, z⟩
                · exact ⟨B, b4, z⟩
              · rw [c3 v (fun z => v1 (Or.inl z)) (fun z => v1 (Or.inr z))] at hx
                exact ⟨v, hv, hx⟩
            · rintro ⟨v, hv, hx⟩
              by_cases d1 : v = A
              · rw [d1, mem_td (i := i)] at hx
                rcases hx with z | z
                · exact ⟨A, a4, (mA x).mpr (Or.inl z)⟩
                · exact ⟨B, b4, (mB x).mpr (Or.inr z)⟩
              · by_cases d2 : v = B
                · rw [d2, mem_td (i := j)] at hx
                  rcases hx with z | z
                  · exact ⟨B, b4, (mB x).mpr (Or.inl z)⟩
                  · exact ⟨A, a4, (mA x).mpr (Or.inr z)⟩
                · exact ⟨v, hv, by rw [c3 v d1 d2]; exact hx⟩
        · rw [if_neg k2] at hm
          have hk3 : kind = 3 := by
            split at hm
            · assumption
            · omega
          rw [if_pos hk3] at hm
          have hc : (0 ≤ a ∧ a ≤ 3) ∧ 0 ≤ b ∧ b < c ∧ c < ((R a.toNat).length : Int) := if1 hm
          obtain ⟨ha, hb, hbc, hcl⟩ := hc
          have eR : mkR R kind a b c = setR R a.toNat (tnL (R a.toNat) b.toNat c.toNat) := by unfold mkR; rw [if_neg k0, if_neg k1, if_neg k2]
          have e1 : oneV R kind a = a.toNat := by unfold oneV; rw [if_neg (by omega)]
          have e2 : othV R kind a b = a.toNat := by unfold othV; rw [if_neg (by omega), if_neg (by omega)]
          rw [eR, e1, e2]
          have a4 : a.toNat < 4 := by omega
          have p : (tnL (R a.toNat) b.toNat c.toNat).Perm (R a.toNat) := tn_perm (by omega)
          generalize a.toNat = A at *
          have mm : ∀ v x, x ∈ setR R A (tnL (R A) b.toNat c.toNat) v ↔ x ∈ R v := fun v x => by
            by_cases d : v = A
            · rw [d, setR_s]; exact p.mem_iff
            · rw [setR_n d]
          refine ⟨⟨fun v hv => ?_, fun u v hu hv ne' x hx => ?_⟩, fun v hv n1 n2 => setR_n n1, fun x => ?_, a4, a4⟩
          · by_cases d : v = A
            · rw [d, setR_s]; exact p.nodup_iff.mpr (h3.1 A a4)
            · rw [setR_n d]; exact h3.1 v hv
          · rw [mm] at hx ⊢
            exact h3.2 u v hu hv ne' x hx
          · exact ⟨fun ⟨v, hv, hx⟩ => ⟨v, hv, (mm v x).mp hx⟩, fun ⟨v, hv, hx⟩ => ⟨v, hv, (mm v x).mpr hx⟩⟩
  refine ⟨V0_mk hG (fun v hv x hx => ?_) main.1, main.2⟩
  obtain ⟨w, hw, hx'⟩ := (main.2.2.1 x).mp ⟨v, hv, hx⟩
  exact h2 w hw x hx'
