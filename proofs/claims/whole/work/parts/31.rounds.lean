/-! level 2: rounds as lists: finding, putting in, taking out -/
def ln (I : IM) (o off n : Nat) : List Int := (List.range n).map (fun k => I o (off + k))
theorem ln_len {I : IM} {o off n : Nat} : (ln I o off n).length = n := by simp [ln]
theorem ln_get {I : IM} {o off n k : Nat} (h : k < n) : (ln I o off n)[k]? = some (I o (off + k)) := by
  unfold ln
  rw [List.getElem?_map, List.getElem?_range h]; rfl
theorem ln_none {I : IM} {o off n k : Nat} (h : n ≤ k) : (ln I o off n)[k]? = none := List.getElem?_eq_none (by rw [ln_len]; exact h)
theorem ln_mem {I : IM} {o off n : Nat} {x : Int} : x ∈ ln I o off n ↔ ∃ k, k < n ∧ I o (off + k) = x := by
  unfold ln
  rw [List.mem_map]
  constructor
  · rintro ⟨k, h1, h2⟩; exact ⟨k, List.mem_range.mp h1, h2⟩
  · rintro ⟨k, h1, h2⟩; exact ⟨k, List.mem_range.mpr h1, h2⟩
theorem ln_congr {I I' : IM} {o o' off off' n : Nat} (h : ∀ k, k < n → I o (off + k) = I' o' (off' + k)) : ln I o off n = ln I' o' off' n := by
  unfold ln
  exact List.map_congr_left (fun k hk => h k (List.mem_range.mp hk))
theorem ln_ext {I : IM} {o off n : Nat} {l : List Int} (hl : l.length = n) (h : ∀ k, k < n → l[k]? = some (I o (off + k))) : ln I o off n = l := by
  refine List.ext_getElem? fun k => ?_
  by_cases hk : k < n
  · rw [ln_get hk, h k hk]
  · rw [ln_none (by omega), List.getElem?_eq_none (by omega)]
/-- the round of van v: of the class' rounds r; of a model's row q from b on -/
def LC (I : IM) (r v : Nat) : List Int := ln I (r + 3 + v) 0 (I (r + 1) v).toNat
def LM (I : IM) (q b v : Nat) : List Int := ln I q (b + 13 * v + 1) (I q (b + 13 * v)).toNat
def SZC (I : IM) (r : Nat) : Prop := ∀ v, v < 4 → 0 ≤ I (r + 1) v ∧ I (r + 1) v ≤ 12
def SZM (I : IM) (q b : Nat) : Prop := ∀ v, v < 4 → 0 ≤ I q (b + 13 * v) ∧ I q (b + 13 * v) ≤ 12
def vanF (R : Nat → List Int) (o : Int) : Int := if o ∈ R 0 then 0 else if o ∈ R 1 then 1 else if o ∈ R 2 then 2 else if o ∈ R 3 then 3 else -1
/-- the place of o in a list, the first -/
def idx (o : Int) : List Int → Nat
  | [] => 0
  | x :: l => if x = o then 0 else idx o l + 1
theorem idx_get {o : Int} : ∀ {l : List Int} {k : Nat}, l[k]? = some o → (∀ i, i < k → l[i]? ≠ some o) → idx o l = k
  | [], k, h, _ => by simp at h
  | x :: l, 0, h, _ => by
    simp at h
    unfold idx
    rw [if_pos h]
  | x :: l, k + 1, h, h2 => by
    unfold idx
    rw [if_neg (fun z => h2 0 (by omega) (by simp [z]))]
    rw [idx_get (l := l) (k := k) (by simpa using h) (fun i hi => by have := h2 (i + 1) (by omega); simpa using this)]
theorem idx_lt {o : Int} : ∀ {l : List Int}, o ∈ l → idx o l < l.length ∧ l[idx o l]? = some o
  | [], h => by cases h
  | x :: l, h => by
    unfold idx
    by_cases e : x = o
    · rw [if_pos e]; simp [e]
    · rw [if_neg e]
      have h1 : o ∈ l := by
        rcases List.mem_cons.mp h with z | z
        · exact absurd z.symm e
        · exact z
      have := idx_lt h1
      simpa using this
def placeF (R : Nat → List Int) (o : Int) : Int := if o ∈ R 0 then idx o (R 0) else if o ∈ R 1 then idx o (R 1) else if o ∈ R 2 then idx o (R 2) else if o ∈ R 3 then idx o (R 3) else -1
theorem k_vanOf {r : Nat} {o : Int} {I : IM} {K : Option AV → IM → Prop} (hr : isRd r) (hs : SZC I r) (h : K (some (vI (vanF (LC I r) o))) I) : CALL S0 22 [vR r, vI o] I K := by
  refine e22 hr ?_
  unfold D22_0
  have inner : ∀ v : Nat, v < 4 → (o ∈ LC I r v → K (some (vI (v : Int))) I) → (o ∉ LC I r v → ∀ u : AV, GO S0 22 2 [vR r, vI o, vI ((v : Int) + 1), u] [] I K) → ∀ j k : Nat, k + j = (I (r + 1) v).toNat → (∀ i, i < k → I (r + 3 + v) i ≠ o) → GO S0 22 9 [vR r, vI o, vI (v : Int), vI (k : Int)] [] I K := by
    intro v hv h1 h2 j
    have hsz := hs v hv
    induction j with
    | zero =>
      intro k hk hn
      refine g22_9 r hr _ _ _ I K ?_
      unfold D22_9 inR
      rw [Int.toNat_natCast, if_pos (by omega)]
      refine ⟨by omega, by omega, h2 ?_ _⟩
      unfold LC
      rw [ln_mem]
      rintro ⟨i, hi, e⟩
      exact hn i (by omega) (by rw [Nat.zero_add] at e; exact e)
    | succ j ih =>
      intro k hk hn
      refine g22_9 r hr _ _ _ I K ?_
      unfold D22_9 inR
      rw [Int.toNat_natCast, if_neg (by omega)]
      refine ⟨by omega, by omega, ?_⟩
      rw [Int.toNat_natCast]
      by_cases e : I (r + 3 + v) k = o
      · rw [if_pos e]
        refine h1 ?_
        unfold LC
        rw [ln_mem]
        exact ⟨k, by omega, by rw [Nat.zero_add]; exact e⟩
      · rw [if_neg e]
        refine ⟨by omega, ?_⟩
        have := ih (k + 1) (by omega) (fun i hi => by
          by_cases e2 : i = k
          · rw [e2]; exact e
          · exact hn i (by omega))
        rw [show ((k : Int) + 1) = ((k + 1 : Nat) : Int) by omega]
        exact this
  have outer : ∀ v : Nat, v < 4 → (o ∈ LC I r v → K (some (vI (v : Int))) I) → (o ∉ LC I r v → ∀ u : AV, GO S0 22 2 [vR r, vI o, vI ((v : Int) + 1), u] [] I K) → ∀ u : AV, GO S0 22 2 [vR r, vI o, vI (v : Int), u] [] I K := by
    intro v hv h1 h2 u
    refine g22_2 r hr _ _ _ I K ?_
    unfold D22_2
    rw [if_neg (by omega)]
    exact inner v hv h1 h2 _ 0 (Nat.zero_add _) (fun i hi => by omega)
  unfold vanF at h
  refine outer 0 (by decide) (fun m0 => by rw [if_pos m0] at h; exact h) (fun n0 => ?_) _
  rw [if_neg n0] at h
  refine outer 1 (by decide) (fun m0 => by rw [if_pos m0] at h; exact h) (fun n1 => ?_)
  rw [if_neg n1] at h
  refine outer 2 (by decide) (fun m0 => by rw [if_pos m0] at h; exact h) (fun n2 => ?_)
  rw [if_neg n2] at h
  refine outer 3 (by decide) (fun m0 => by rw [if_pos m0] at h; exact h) (fun n3 => ?_)
  rw [if_neg n3] at h
  intro u
  refine g22_2 r hr _ _ _ I K ?_
  unfold D22_2
  rw [if_pos (by omega)]
  exact h
theorem k_placeOf {r : Nat} {o : Int} {I : IM} {K : Option AV → IM → Prop} (hr : isRd r) (hs : SZC I r) (h : K (some (vI (placeF (LC I r) o))) I) : CALL S0 60 [vR r, vI o] I K := by
  refine e60 hr ?_
  unfold D60_0
  have inner : ∀ v : Nat, v < 4 → (o ∈ LC I r v → K (some (vI (idx o (LC I r v) : Int))) I) → (o ∉ LC I r v → ∀ u : AV, GO S0 60 2 [vR r, vI o, vI ((v : Int) + 1), u] [] I K) → ∀ j k : Nat, k + j = (I (r + 1) v).toNat → (∀ i, i < k → I (r + 3 + v) i ≠ o) → GO S0 60 9 [vR r, vI o, vI (v : Int), vI (k : Int)] [] I K := by
    intro v hv h1 h2 j
    have hsz := hs v hv
    induction j with
    | zero =>
      intro k hk hn
      refine g60_9 r hr _ _ _ I K ?_
      unfold D60_9 inR
      rw [Int.toNat_natCast, if_pos (by omega)]
      refine ⟨by omega, by omega, h2 ?_ _⟩
      unfold LC
      rw [ln_mem]
      rintro ⟨i, hi, e⟩
      exact hn i (by omega) (by rw [Nat.zero_add] at e; exact e)
    | succ j ih =>
      intro k hk hn
      refine g60_9 r hr _ _ _ I K ?_
      unfold D60_9 inR
      rw [Int.toNat_natCast, if_neg (by omega)]
      refine ⟨by omega, by omega, ?_⟩
      rw [Int.toNat_natCast]
      by_cases e : I (r + 3 + v) k = o
      · rw [if_pos e]
        have hm : o ∈ LC I r v := by
          unfold LC
          rw [ln_mem]
          exact ⟨k, by omega, by rw [Nat.zero_add]; exact e⟩
        have hi : idx o (LC I r v) = k := idx_get (by unfold LC; rw [ln_get (by omega), Nat.zero_add, e]) (fun i hi => by
          unfold LC
          rw [ln_get (by omega), Nat.zero_add]
          intro z
          exact hn i hi (Option.some.inj z))
        have := h1 hm
        rw [hi] at this
        exact this
      · rw [if_neg e]
        refine ⟨by omega, ?_⟩
        have := ih (k + 1) (by omega) (fun i hi => by
          by_cases e2 : i = k
          · rw [e2]; exact e
          · exact hn i (by omega))
        rw [show ((k : Int) + 1) = ((k + 1 : Nat) : Int) by omega]
        exact this
  have outer : ∀ v : Nat, v < 4 → (o ∈ LC I r v → K (some (vI (idx o (LC I r v) : Int))) I) → (o ∉ LC I r v → ∀ u : AV, GO S0 60 2 [vR r, vI o, vI ((v : Int) + 1), u] [] I K) → ∀ u : AV, GO S0 60 2 [vR r, vI o, vI (v : Int), u] [] I K := by
    intro v hv h1 h2 u
    refine g60_2 r hr _ _ _ I K ?_
    unfold D60_2
    rw [if_neg (by omega)]
    exact inner v hv h1 h2 _ 0 (Nat.zero_add _) (fun i hi => by omega)
  unfold placeF at h
  refine outer 0 (by decide) (fun m0 => by rw [if_pos m0] at h; exact h) (fun n0 => ?_) _
  rw [if_neg n0] at h
  refine outer 1 (by decide) (fun m0 => by rw [if_pos m0] at h; exact h) (fun n1 => ?_)
  rw [if_neg n1] at h
  refine outer 2 (by decide) (fun m0 => by rw [if_pos m0] at h; exact h) (fun n2 => ?_)
  rw [if_neg n2] at h
  refine outer 3 (by decide) (fun m0 => by rw [if_pos m0] at h; exact h) (fun n3 => ?_)
  rw [if_neg n3] at h
  intro u
  refine g60_2 r hr _ _ _ I K ?_
  unfold D60_2
  rw [if_pos (by omega)]
  exact h
theorem m_vanOf {o : Int} {I : IM} {K : Option AV → IM → Prop} (hs : SZM I 238 114) (h : K (some (vI (vanF (LM I 238 114) o))) I) : CALL S0 139 [vR 237, vI o] I K := by
  refine e139 ?_
  unfold D139_0
  have inner : ∀ v : Nat, v < 4 → (o ∈ LM I 238 114 v → K (some (vI (v : Int))) I) → (o ∉ LM I 238 114 v → ∀ u : AV, GO S0 139 2 [vR 237, vI o, vI ((v : Int) + 1), u] [] I K) → ∀ j k : Nat, k + j = (I 238 (114 + 13 * v)).toNat → (∀ i, i < k → I 238 (114 + 13 * v + 1 + i) ≠ o) → GO S0 139 9 [vR 237, vI o, vI (v : Int), vI (k : Int)] [] I K := by
    intro v hv h1 h2 j
    have hsz := hs v hv
    induction j with
    | zero =>
      intro k hk hn
      refine g139_9 _ _ _ I K ?_
      unfold D139_9 inR
      rw [show (114 + 13 * (v : Int)).toNat = 114 + 13 * v by omega, if_pos (by omega)]
      refine ⟨by omega, by omega, by omega, by omega, h2 ?_ _⟩
      unfold LM
      rw [ln_mem]
      rintro ⟨i, hi, e⟩
      exact hn i (by omega) e
    | succ j ih =>
      intro k hk hn
      refine g139_9 _ _ _ I K ?_
      unfold D139_9 inR
      rw [show (114 + 13 * (v : Int)).toNat = 114 + 13 * v by omega, if_neg (by omega)]
      refine ⟨by omega, by omega, by omega, by omega, by omega, by omega, ?_⟩
      rw [show (114 + 13 * (v : Int) + 1 + (k : Int)).toNat = 114 + 13 * v + 1 + k by omega]
      by_cases e : I 238 (114 + 13 * v + 1 + k) = o
      · rw [if_pos e]
        refine h1 ?_
        unfold LM
        rw [ln_mem]
        exact ⟨k, by omega, e⟩
      · rw [if_neg e]
        refine ⟨by omega, ?_⟩
        have := ih (k + 1) (by omega) (fun i hi => by
          by_cases e2 : i = k
          · rw [e2]; exact e
          · exact hn i (by omega))
        rw [show ((k : Int) + 1) = ((k + 1 : Nat) : Int) by omega]
        exact this
  have outer : ∀ v : Nat, v < 4 → (o ∈ LM I 238 114 v → K (some (vI (v : Int))) I) → (o ∉ LM I 238 114 v → ∀ u : AV, GO S0 139 2 [vR 237, vI o, vI ((v : Int) + 1), u] [] I K) → ∀ u : AV, GO S0 139 2 [vR 237, vI o, vI (v : Int), u] [] I K := by
    intro v hv h1 h2 u
    refine g139_2 _ _ _ I K ?_
    unfold D139_2
    rw [if_neg (by omega)]
    exact inner v hv h1 h2 _ 0 (Nat.zero_add _) (fun i hi => by omega)
  unfold vanF at h
  refine outer 0 (by decide) (fun m0 => by rw [if_pos m0] at h; exact h) (fun n0 => ?_) _
  rw [if_neg n0] at h
  refine outer 1 (by decide) (fun m0 => by rw [if_pos m0] at h; exact h) (fun n1 => ?_)
  rw [if_neg n1] at h
  refine outer 2 (by decide) (fun m0 => by rw [if_pos m0] at h; exact h) (fun n2 => ?_)
  rw [if_neg n2] at h
  refine outer 3 (by decide) (fun m0 => by rw [if_pos m0] at h; exact h) (fun n3 => ?_)
  rw [if_neg n3] at h
  intro u
  refine g139_2 _ _ _ I K ?_
  unfold D139_2
  rw [if_pos (by omega)]
  exact h
theorem m_isLeft {o : Int} {I : IM} {K : Option AV → IM → Prop} (hs : SZM I 238 114) (h : K (some (vI (b2i (vanF (LM I 238 114) o < 0)))) I) : CALL S0 138 [vR 237, vI o] I K := by
  refine e138 ?_
  unfold D138_0
  refine m_vanOf hs ⟨_, rfl, ?_⟩
  unfold b2i at h
  split
  · rw [if_neg (by omega)] at h; exact h
  · rw [if_pos (by omega)] at h; exact h
