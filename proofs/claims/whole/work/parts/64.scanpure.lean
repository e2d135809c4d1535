/-! level 2: moves, without memory: what they cost, the best, the descent -/
theorem mk_good {G : Nat → Int} {R : Nat → List Int} {kind a b c : Int} (hG : GR G) (h : VR G R) (hm : mvB R kind a b c = 1) : (∀ v, v < 4 → gdV G v (mkR R kind a b c v)) ↔ (gdV G (oneV R kind a) (mkR R kind a b c (oneV R kind a)) ∧ gdV G (othV R kind a b) (mkR R kind a b c (othV R kind a b))) := by
  obtain ⟨q1, q2, q3, q4, q5⟩ := mk_V0 hG (VR_V0 h) hm
  constructor
  · intro z; exact ⟨z _ q4, z _ q5⟩
  · rintro ⟨z1, z2⟩ v hv
    by_cases d1 : v = oneV R kind a
    · rw [d1]; exact z1
    · by_cases d2 : v = othV R kind a b
      · rw [d2]; exact z2
      · rw [q2 v hv d1 d2]; exact h.2.2.2 v hv
theorem van_same {R R' : Nat → List Int} (h : ∀ x, (∃ v, v < 4 ∧ x ∈ R' v) ↔ ∃ v, v < 4 ∧ x ∈ R v) (x : Int) : vanF R' x < 0 ↔ vanF R x < 0 := by
  rw [vanF_neg, vanF_neg]
  constructor
  · intro z v hv hx
    obtain ⟨w, hw, hy⟩ := (h x).mpr ⟨v, hv, hx⟩
    exact z w hw hy
  · intro z v hv hx
    obtain ⟨w, hw, hy⟩ := (h x).mp ⟨v, hv, hx⟩
    exact z w hw hy
theorem pen_same {G : Nat → Int} {R R' : Nat → List Int} (h : ∀ x, vanF R' x < 0 ↔ vanF R x < 0) : ∀ k, pen G R' k = pen G R k
  | 0 => rfl
  | k + 1 => by
    have e := h (k : Int)
    unfold pen
    rw [pen_same h k]
    by_cases c : vanF R (k : Int) < 0
    · rw [if_pos c, if_pos (e.mpr c)]
    · rw [if_neg c, if_neg (fun z => c (e.mp z))]
theorem mk_csA {G : Nat → Int} {R : Nat → List Int} {kind a b c : Int} (hG : GR G) (h : VR G R) (hm : mvB R kind a b c = 1) : csA G R - csA G (mkR R kind a b c) = (csV G (oneV R kind a) (R (oneV R kind a)) - csV G (oneV R kind a) (mkR R kind a b c (oneV R kind a))) + (if othV R kind a b = oneV R kind a then 0 else csV G (othV R kind a b) (R (othV R kind a b)) - csV G (othV R kind a b) (mkR R kind a b c (othV R kind a b))) := by
  obtain ⟨q1, q2, q3, q4, q5⟩ := mk_V0 hG (VR_V0 h) hm
  have ep := pen_same (G := G) (van_same q3) (G 5).toNat
  generalize mkR R kind a b c = R' at *
  generalize oneV R kind a = p at *
  generalize othV R kind a b = q at *
  unfold csA
  rw [ep]
  have s : ∀ R : Nat → List Int, cs4 G R 4 = 0 + csV G 0 (R 0) + csV G 1 (R 1) + csV G 2 (R 2) + csV G 3 (R 3) := fun _ => rfl
  rw [s, s]
  have z : ∀ v, v < 4 → v ≠ p → v ≠ q → csV G v (R' v) = csV G v (R v) := fun v hv h1 h2 => by rw [q2 v hv h1 h2]
  have z0 := z 0 (by omega)
  have z1 := z 1 (by omega)
  have z2 := z 2 (by omega)
  have z3 := z 3 (by omega)
  rcases (show p = 0 ∨ p = 1 ∨ p = 2 ∨ p = 3 by omega) with e | e | e | e <;> rcases (show q = 0 ∨ q = 1 ∨ q = 2 ∨ q = 3 by omega) with g | g | g | g <;> subst e <;> subst g <;> simp at z0 z1 z2 z3 ⊢ <;> omega
theorem er_ins {L : List Int} {p : Nat} {a : Int} (h : L[p]? = some a) : (L.eraseIdx p).insertIdx p a = L := by
  have hp : p < L.length := (List.getElem?_eq_some_iff.mp h).choose
  have hl : p ≤ (L.eraseIdx p).length := by rw [List.length_eraseIdx, if_pos hp]; omega
  refine List.ext_getElem? fun k => ?_
  rw [List.getElem?_insertIdx]
  by_cases c1 : k < p
  · rw [if_pos c1, List.getElem?_eraseIdx, if_pos c1]
  · rw [if_neg c1]
    by_cases c2 : k = p
    · rw [if_pos c2, if_pos (by omega), c2, h]
    · rw [if_neg c2, List.getElem?_eraseIdx, if_neg (by omega), show k - 1 + 1 = k by omega]
theorem ch_01 {R : Nat → List Int} {kind a b c : Int} : chB R kind a b c = 0 ∨ chB R kind a b c = 1 := by
  unfold chB
  split
  · split
    · exact Or.inl rfl
    · exact Or.inr rfl
  · split
    · split
      · exact Or.inl rfl
      · exact Or.inr rfl
    · exact Or.inr rfl
theorem mk_same {G : Nat → Int} {R : Nat → List Int} {kind a b c : Int} (hG : GR G) (h : VR G R) (hm : mvB R kind a b c = 1) : chB R kind a b c = 0 ↔ ∀ v, v < 4 → mkR R kind a b c v = R v := by
  obtain ⟨h1, h2, h3⟩ := VR_V0 h
  unfold mvB at hm
  by_cases k0 : kind = 0
  · rw [if_pos k0] at hm
    have hc : 0 ≤ vanF R a ∧ (0 ≤ b ∧ b ≤ 3) ∧ 0 ≤ c ∧ c ≤ ((R b.toNat).length : Int) - (if vanF R a = b then 1 else 0) := if1 hm
    obtain ⟨ha, hb, hc0, hcl⟩ := hc
    have eR : mkR R kind a b c = shR R a b c := by unfold mkR; rw [if_pos k0]
    have ec : chB R kind a b c = if vanF R a = b ∧ placeF R a = c then 0 else 1 := by unfold chB; rw [if_pos k0]
    rw [eR, ec]
    have hw := vanF_mem ha
    have il := idx_lt hw.2.1
    have hb4 : b.toNat < 4 := by omega
    have ol := out_len ha (v := b.toNat)
    rw [show ((b.toNat : Nat) : Int) = b by omega] at ol
    have cl : c.toNat ≤ (outR R a b.toNat).length := by
      rw [ol]
      by_cases z : vanF R a = b
      · rw [if_pos z] at hcl ⊢; omega
      · rw [if_neg z] at hcl ⊢; omega
    by_cases z : vanF R a = b ∧ placeF R a = c
    · rw [if_pos z]
      refine ⟨fun _ v hv => ?_, fun _ => rfl⟩
      have eb : b.toNat = (vanF R a).toNat := by omega
      have ep : c.toNat = idx a (R (vanF R a).toNat) := by have := hw.2.2; omega
      unfold shR outR
      rw [eb, ep]
      by_cases d : v = (vanF R a).toNat
      · rw [d, setR_s, setR_s]; exact er_ins il.2
      · rw [setR_n d, setR_n d]
    · rw [if_neg z]
      refine ⟨fun y => by omega, fun y => absurd ?_ z⟩
      have yb := y b.toNat hb4
      unfold shR at yb
      rw [setR_s] at yb
      have g : (R b.toNat)[c.toNat]? = some a := by
        rw [← yb, List.getElem?_insertIdx_self, if_pos cl]
      have mb := List.mem_of_getElem? g
      have vb := vanF_of h3 hb4 mb
      have ib := idx_of (h3.1 _ hb4) g
      have := hw.2.2
      rw [vb, Int.toNat_natCast, ib] at this
      exact ⟨by omega, by omega⟩
  · rw [if_neg k0] at hm
    by_cases k1 : kind = 1
    · rw [if_pos k1] at hm
      have hc : a < b ∧ c = 0 ∧ 0 ≤ vanF R a ∧ 0 ≤ vanF R b := if1 hm
      obtain ⟨hab, hc0, ha, hb⟩ := hc
      have eR : mkR R kind a b c = swR R a b := by unfold mkR; rw [if_neg k0, if_pos k1]
      have ec : chB R kind a b c = 1 := by unfold chB; rw [if_neg k0, if_neg (by omega)]
      rw [eR, ec]
      refine ⟨fun y => by omega, fun y => ?_⟩
      exfalso
      have wa := vanF_mem ha
      have il := idx_lt wa.2.1
      have := congrArg (fun L => L[idx a (R (vanF R a).toNat)]?) (y _ wa.1)
      simp only [swR, List.getElem?_map, il.2, Option.map_some] at this
      have e := Option.some.inj this
      unfold sw at e
      rw [if_pos rfl] at e
      omega
    · rw [if_neg k1] at hm
      by_cases k2 : kind = 2
      · rw [if_pos k2] at hm
        have hc : (0 ≤ a ∧ a ≤ 3) ∧ (0 ≤ b ∧ b ≤ 3) ∧ a < b ∧ 0 ≤ c ∧ c % 16 ≤ ((R a.toNat).length : Int) ∧ c / 16 ≤ ((R b.toNat).length : Int) := if1 hm
        obtain ⟨ha, hb, hab, hc0, hi, hj⟩ := hc
        have eR : mkR R kind a b c = crR R a.toNat b.toNat (c % 16).toNat (c / 16).toNat := by unfold mkR; rw [if_neg k0, if_neg k1, if_pos k2]
        have ec : chB R kind a b c = if c % 16 = ((R a.toNat).length : Int) ∧ c / 16 = ((R b.toNat).length : Int) then 0 else 1 := by unfold chB; rw [if_neg k0, if_pos k2]
        rw [eR, ec]
        have ne : a.toNat ≠ b.toNat := by omega
        obtain ⟨c1, c2, c3⟩ := cr_at (R := R) (i := (c % 16).toNat) (j := (c / 16).toNat) ne
        by_cases z : c % 16 = ((R a.toNat).length : Int) ∧ c / 16 = ((R b.toNat).length : Int)
        · rw [if_pos z]
          refine ⟨fun _ v hv => ?_, fun _ => rfl⟩
          by_cases d1 : v = a.toNat
          · rw [d1, c1, show (c % 16).toNat = (R a.toNat).length by omega, show (c / 16).toNat = (R b.toNat).length by omega, List.take_length, List.drop_length, List.append_nil]
          · by_cases d2 : v = b.toNat
            · rw [d2, c2, show (c % 16).toNat = (R a.toNat).length by omega, show (c / 16).toNat = (R b.toNat).length by omega, List.take_length, List.drop_length, List.append_nil]
            · exact c3 v d1 d2
        · rw [if_neg z]
          refine ⟨fun y => by omega, fun y => absurd ?_ z⟩
          have ya := y a.toNat (by omega)
          rw [c1] at ya
          have la := congrArg List.length ya
          rw [List.length_append, List.length_take, List.length_drop] at la
          by_cases w : (c / 16).toNat < (R b.toNat).length
          · exfalso
            have g : (R b.toNat)[(c / 16).toNat]? = some ((R b.toNat)[(c / 16).toNat]'w) := List.getElem?_eq_getElem w
            have m1 : (R b.toNat)[(c / 16).toNat]'w ∈ (R b.toNat).drop (c / 16).toNat := by
              rw [drop_c g]; exact List.mem_cons_self
            have m2 : (R b.toNat)[(c / 16).toNat]'w ∈ R a.toNat := by
              rw [← ya]; exact List.mem_append.mpr (Or.inr m1)
            exact h3.2 _ _ (by omega) (by omega) ne _ m2 (List.mem_of_mem_drop m1)
          · omega
      · rw [if_neg k2] at hm
        have hk3 : kind = 3 := by
          split at hm
          · assumption
          · omega
        rw [if_pos hk3] at hm
        have hc : (0 ≤ a ∧ a ≤ 3) ∧ 0 ≤ b ∧ b < c ∧ c < ((R a.toNat).length : Int) := if1 hm
        obtain ⟨ha, hb, hbc, hcl⟩ := hc
        have eR : mkR R kind a b c = setR R a.toNat (tnL (R a.toNat) b.toNat c.toNat) := by unfold mkR; rw [if_neg k0, if_neg k1, if_neg k2]
        have ec : chB R kind a b c = 1 := by unfold chB; rw [if_neg k0, if_neg k2]
        rw [eR, ec]
        refine ⟨fun y => by omega, fun y => ?_⟩
        exfalso
        have ya := y a.toNat (by omega)
        rw [setR_s] at ya
        have g := tn_get (L := R a.toNat) (b := b.toNat) (c := c.toNat) (k := b.toNat) (by omega) (by omega)
        rw [if_pos (by omega), ya, show b.toNat + c.toNat - b.toNat = c.toNat by omega] at g
        have := (List.getElem?_inj (by omega) (h3.1 a.toNat (by omega))).mp g
        omega
def maB (G : Nat → Int) (R : Nat → List Int) (kind a b c : Int) : Int := if chB R kind a b c = 1 ∧ gz G (oneV R kind a) (mkR R kind a b c (oneV R kind a)) = 1 ∧ gz G (othV R kind a b) (mkR R kind a b c (othV R kind a b)) = 1 then 1 else 0
def gnF (G : Nat → Int) (R : Nat → List Int) (kind a b c : Int) : Int := csA G R - csA G (mkR R kind a b c)
theorem ma_VR {G : Nat → Int} {R : Nat → List Int} {kind a b c : Int} (hG : GR G) (h : VR G R) (hm : mvB R kind a b c = 1) (ha : maB G R kind a b c = 1) : VR G (mkR R kind a b c) := by
  have := if1 ha
  exact V0_VR (mk_V0 hG (VR_V0 h) hm).1 ((mk_good hG h hm).mpr ⟨gz_1.mp this.2.1, gz_1.mp this.2.2⟩)
theorem gn_b {G : Nat → Int} {R : Nat → List Int} {kind a b c : Int} (hG : GR G) (h : VR G R) (hm : mvB R kind a b c = 1) (ha : maB G R kind a b c = 1) : -60000 ≤ gnF G R kind a b c ∧ gnF G R kind a b c ≤ 60000 := by
  have h' := ma_VR hG h hm ha
  obtain ⟨q1, q2, q3, q4, q5⟩ := mk_V0 hG (VR_V0 h) hm
  have b1 := cs_good hG q4 (VR_12 hG h q4) (h.2.2.2 _ q4)
  have b2 := cs_good hG q4 (VR_12 hG h' q4) (h'.2.2.2 _ q4)
  have b3 := cs_good hG q5 (VR_12 hG h q5) (h.2.2.2 _ q5)
  have b4 := cs_good hG q5 (VR_12 hG h' q5) (h'.2.2.2 _ q5)
  unfold gnF
  rw [mk_csA hG h hm]
  split <;> omega
theorem mv_c {R : Nat → List Int} {kind a b c : Int} (h1 : ∀ v, v < 4 → (R v).length ≤ 12) (hm : mvB R kind a b c = 1) : 0 ≤ c ∧ c < 209 ∧ (kind = 0 → c ≤ 12) ∧ (kind = 1 → c = 0) ∧ (kind = 3 → c ≤ 12) := by
  unfold mvB at hm
  by_cases k0 : kind = 0
  · rw [if_pos k0] at hm
    have hc : 0 ≤ vanF R a ∧ (0 ≤ b ∧ b ≤ 3) ∧ 0 ≤ c ∧ c ≤ ((R b.toNat).length : Int) - (if vanF R a = b then 1 else 0) := if1 hm
    have l := h1 b.toNat (by omega)
    have := hc.2.2.2
    split at this <;> omega
  · rw [if_neg k0] at hm
    by_cases k1 : kind = 1
    · rw [if_pos k1] at hm
      have hc : a < b ∧ c = 0 ∧ 0 ≤ vanF R a ∧ 0 ≤ vanF R b := if1 hm
      omega
    · rw [if_neg k1] at hm
      by_cases k2 : kind = 2
      · rw [if_pos k2] at hm
        have hc : (0 ≤ a ∧ a ≤ 3) ∧ (0 ≤ b ∧ b ≤ 3) ∧ a < b ∧ 0 ≤ c ∧ c % 16 ≤ ((R a.toNat).length : Int) ∧ c / 16 ≤ ((R b.toNat).length : Int) := if1 hm
        have l1 := h1 a.toNat (by omega)
        have l2 := h1 b.toNat (by omega)
        omega
      · rw [if_neg k2] at hm
        by_cases k3 : kind = 3
        · rw [if_pos k3] at hm
          have hc : (0 ≤ a ∧ a ≤ 3) ∧ 0 ≤ b ∧ b < c ∧ c < ((R a.toNat).length : Int) := if1 hm
          have l1 := h1 a.toNat (by omega)
          omega
        · rw [if_neg k3] at hm
          omega
/-- all moves of a kind gone over -/
abbrev SS : Type := Int × Int × Int × Int × Int
def stF (G : Nat → Int) (R : Nat → List Int) (kind a b c : Int) (s : SS) : SS := if mvB R kind a b c = 1 ∧ maB G R kind a b c = 1 then (s.1 + 1, if s.2.2.2.2 < gnF G R kind a b c then (a, b, c, gnF G R kind a b c) else s.2) else s
def scC (G : Nat → Int) (R : Nat → List Int) (kind a b : Int) : Nat → SS → SS
  | 0, s => s
  | c + 1, s => stF G R kind a b (c : Int) (scC G R kind a b c s)
def scB (G : Nat → Int) (R : Nat → List Int) (kind a : Int) : Nat → SS → SS
  | 0, s => s
  | b + 1, s => scC G R kind a (b : Int) 209 (scB G R kind a b s)
def scA (G : Nat → Int) (R : Nat → List Int) (kind : Int) : Nat → SS → SS
  | 0, s => s
  | a + 1, s => scB G R kind (a : Int) 12 (scA G R kind a s)
def scn (G : Nat → Int) (R : Nat → List Int) (kind : Int) : SS := scA G R kind 12 (0, 0, 0, 0, 0)
theorem scC_stop {G : Nat → Int} {R : Nat → List Int} {kind a b : Int} {s : SS} {n : Nat} (h : ∀ c : Nat, n ≤ c → ¬ mvB R kind a b (c : Int) = 1) : ∀ d, scC G R kind a b (n + d) s = scC G R kind a b n s
  | 0 => rfl
  | d + 1 => by
    have ih := scC_stop (G := G) (s := s) h d
    rw [show scC G R kind a b (n + (d + 1)) s = stF G R kind a b ((n + d : Nat) : Int) (scC G R kind a b (n + d) s) from rfl, ih]
    unfold stF
    rw [if_neg (fun z => h (n + d) (by omega) z.1)]
/-- what holds of a scan's state -/
def SI (G : Nat → Int) (R : Nat → List Int) (kind : Int) (m : Int) (s : SS) : Prop := (0 ≤ s.1 ∧ s.1 ≤ m) ∧ 0 ≤ s.2.2.2.2 ∧ s.2.2.2.2 ≤ 60000 ∧ (0 < s.2.2.2.2 → mvB R kind s.2.1 s.2.2.1 s.2.2.2.1 = 1 ∧ maB G R kind s.2.1 s.2.2.1 s.2.2.2.1 = 1)
theorem SI_st {G : Nat → Int} {R : Nat → List Int} {kind a b c m : Int} {s : SS} (hG : GR G) (hV : VR G R) (h : SI G R kind m s) : SI G R kind (m + 1) (stF G R kind a b c s) := by
  obtain ⟨h1, h2, h3, h4⟩ := h
  unfold stF
  split
  · rename_i z
    have gb := gn_b hG hV z.1 z.2
    refine ⟨?_, ?_⟩
    · show 0 ≤ s.1 + 1 ∧ s.1 + 1 ≤ m + 1
      omega
    · by_cases y : s.2.2.2.2 < gnF G R kind a b c
      · rw [if_pos y]
        exact ⟨by show 0 ≤ gnF G R kind a b c; omega, gb.2, fun _ => z⟩
      · rw [if_neg y]
        exact ⟨h2, h3, h4⟩
  · exact ⟨⟨h1.1, by omega⟩, h2, h3, h4⟩
theorem SI_C {G : Nat → Int} {R : Nat → List Int} {kind a b m : Int} {s : SS} (hG : GR G) (hV : VR G R) (h : SI G R kind m s) : ∀ n : Nat, SI G R kind (m + n) (scC G R kind a b n s)
  | 0 => by
    rw [show m + ((0 : Nat) : Int) = m by omega]
    exact h
  | n + 1 => by
    have := SI_st (a := a) (b := b) (c := (n : Int)) hG hV (SI_C (a := a) (b := b) hG hV h n)
    rw [show m + ((n + 1 : Nat) : Int) = m + n + 1 by omega]
    exact this
theorem SI_B {G : Nat → Int} {R : Nat → List Int} {kind a m : Int} {s : SS} (hG : GR G) (hV : VR G R) (h : SI G R kind m s) : ∀ n : Nat, SI G R kind (m + 209 * n) (scB G R kind a n s)
  | 0 => by
    rw [show m + 209 * ((0 : Nat) : Int) = m by omega]
    exact h
  | n + 1 => by
    have := SI_C (a := a) (b := (n : Int)) hG hV (SI_B (a := a) hG hV h n) 209
    rw [show m + 209 * ((n + 1 : Nat) : Int) = m + 209 * n + ((209 : Nat) : Int) by omega]
    exact this
theorem SI_A {G : Nat → Int} {R : Nat → List Int} {kind m : Int} {s : SS} (hG : GR G) (hV : VR G R) (h : SI G R kind m s) : ∀ n : Nat, SI G R kind (m + 2508 * n) (scA G R kind n s)
  | 0 => by
    rw [show m + 2508 * ((0 : Nat) : Int) = m by omega]
    exact h
  | n + 1 => by
    have := SI_B (a := (n : Int)) hG hV (SI_A hG hV h n) 12
    rw [show m + 2508 * ((n + 1 : Nat) : Int) = m + 2508 * n + 209 * ((12 : Nat) : Int) by omega]
    exact this
theorem SI_0 {G : Nat → Int} {R : Nat → List Int} {kind : Int} : SI G R kind 0 (0, 0, 0, 0, 0) := ⟨⟨Int.le_refl _, Int.le_refl _⟩, Int.le_refl _, by show (0 : Int) ≤ 60000; omega, fun z => by exfalso; revert z; show ¬ (0 : Int) < 0; omega⟩
theorem scn_I {G : Nat → Int} {R : Nat → List Int} {kind : Int} (hG : GR G) (hV : VR G R) : SI G R kind 30096 (scn G R kind) := by
  have := SI_A (kind := kind) hG hV SI_0 12
  exact this
/-- the first kind that has a best move; four: none -/
def fkF (G : Nat → Int) (R : Nat → List Int) : Nat → Nat
  | 0 => 4
  | m + 1 => if 0 < (scn G R ((3 - m : Nat) : Int)).2.2.2.2 then 3 - m else fkF G R m
def bmR (G : Nat → Int) (R : Nat → List Int) (kd : Nat) : Nat → List Int := mkR R (kd : Int) (scn G R (kd : Int)).2.1 (scn G R (kd : Int)).2.2.1 (scn G R (kd : Int)).2.2.2.1
def dsF (G : Nat → Int) : Nat → (Nat → List Int) → (Nat → List Int) × Nat
  | 0, R => (R, 0)
  | n + 1, R => if fkF G R 4 = 4 then (R, 0) else ((dsF G n (bmR G R (fkF G R 4))).1, (dsF G n (bmR G R (fkF G R 4))).2 + 1)
theorem fk_inv {G : Nat → Int} {R : Nat → List Int} : ∀ m, m ≤ 4 → fkF G R m = 4 ∨ (fkF G R m < 4 ∧ 0 < (scn G R (fkF G R m : Nat)).2.2.2.2)
  | 0, _ => Or.inl rfl
  | m + 1, hm => by
    unfold fkF
    split
    · rename_i c; exact Or.inr ⟨by omega, c⟩
    · exact fk_inv m (by omega)
theorem bm_VR {G : Nat → Int} {R : Nat → List Int} {kd : Nat} (hG : GR G) (hV : VR G R) (h : 0 < (scn G R (kd : Int)).2.2.2.2) : VR G (bmR G R kd) := by
  have := (scn_I (kind := (kd : Int)) hG hV).2.2.2 h
  exact ma_VR hG hV this.1 this.2
theorem ds_VR {G : Nat → Int} (hG : GR G) : ∀ n R, VR G R → VR G (dsF G n R).1
  | 0, R, h => h
  | n + 1, R, h => by
    unfold dsF
    split
    · exact h
    · rename_i c
      rcases fk_inv (G := G) (R := R) 4 (Nat.le_refl _) with z | z
      · exact absurd z c
      · exact ds_VR hG n _ (bm_VR hG h z.2)
theorem ds_le {G : Nat → Int} : ∀ n R, (dsF G n R).2 ≤ n
  | 0, R => Nat.le_refl _
  | n + 1, R => by
    unfold dsF
    split
    · exact Nat.zero_le _
    · have := ds_le (G := G) n (bmR G R (fkF G R 4))
      show (dsF G n (bmR G R (fkF G R 4))).2 + 1 ≤ n + 1
      omega
