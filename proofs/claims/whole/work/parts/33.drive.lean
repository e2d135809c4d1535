/-! level 2: the numbers of a run of nodes, as the model drives them -/
def nx (G : Nat → Int) (a : Int) : Int := if 0 ≤ a then G (6 + 8 * a.toNat + 0) else G 0
def ny (G : Nat → Int) (a : Int) : Int := if 0 ≤ a then G (6 + 8 * a.toNat + 1) else G 1
def wy (G : Nat → Int) (a b : Int) : Int := (if 0 ≤ nx G a - nx G b then nx G a - nx G b else -(nx G a - nx G b)) + (if 0 ≤ ny G a - ny G b then ny G a - ny G b else -(ny G a - ny G b))
def opn (G : Nat → Int) (v : Nat) (a : Int) : Int := if 0 ≤ a then G (6 + 8 * a.toNat + 2) else G (103 + 3 * v)
def cls (G : Nat → Int) (v : Nat) (a : Int) : Int := if 0 ≤ a then G (6 + 8 * a.toNat + 3) else G (104 + 3 * v)
def nw (G : Nat → Int) (w : Nat) (a : Int) : Int := if 0 ≤ a then G (6 + 8 * a.toNat + w) else 0
/-- the model's numbers keep their ranges -/
def GR (G : Nat → Int) : Prop := (0 ≤ G 5 ∧ G 5 ≤ 12) ∧ (∀ o, o < 12 → ((0 ≤ G (6 + 8 * o + 0) ∧ G (6 + 8 * o + 0) ≤ 40) ∧ (0 ≤ G (6 + 8 * o + 1) ∧ G (6 + 8 * o + 1) ≤ 40) ∧ (0 ≤ G (6 + 8 * o + 2) ∧ G (6 + 8 * o + 2) ≤ G (6 + 8 * o + 3) ∧ G (6 + 8 * o + 3) ≤ 600) ∧ (0 ≤ G (6 + 8 * o + 4) ∧ G (6 + 8 * o + 4) ≤ 60) ∧ (0 ≤ G (6 + 8 * o + 5) ∧ G (6 + 8 * o + 5) ≤ 50) ∧ (0 ≤ G (6 + 8 * o + 6) ∧ G (6 + 8 * o + 6) ≤ 50) ∧ (0 ≤ G (6 + 8 * o + 7) ∧ G (6 + 8 * o + 7) ≤ 9999))) ∧ ((0 ≤ G 0 ∧ G 0 ≤ 40) ∧ (0 ≤ G 1 ∧ G 1 ≤ 40)) ∧ ((0 ≤ G 2 ∧ G 2 ≤ 9) ∧ (0 ≤ G 3 ∧ G 3 ≤ 9) ∧ (0 ≤ G 4 ∧ G 4 ≤ 999)) ∧ (∀ v, v < 4 → ((0 ≤ G (102 + 3 * v) ∧ G (102 + 3 * v) ≤ 200) ∧ (0 ≤ G (103 + 3 * v) ∧ G (103 + 3 * v) ≤ G (104 + 3 * v) ∧ G (104 + 3 * v) ≤ 999)))
theorem nx_b {G : Nat → Int} (h : GR G) {a : Int} (ha : a < 12) : 0 ≤ nx G a ∧ nx G a ≤ 40 := by
  unfold nx
  split
  · exact (h.2.1 a.toNat (by omega)).1
  · exact h.2.2.1.1
theorem ny_b {G : Nat → Int} (h : GR G) {a : Int} (ha : a < 12) : 0 ≤ ny G a ∧ ny G a ≤ 40 := by
  unfold ny
  split
  · exact (h.2.1 a.toNat (by omega)).2.1
  · exact h.2.2.1.2
theorem wy_b {G : Nat → Int} (h : GR G) {a b : Int} (ha : a < 12) (hb : b < 12) : 0 ≤ wy G a b ∧ wy G a b ≤ 80 := by
  have h1 := nx_b h ha
  have h2 := nx_b h hb
  have h3 := ny_b h ha
  have h4 := ny_b h hb
  unfold wy
  split <;> split <;> omega
theorem wy_sym {G : Nat → Int} {a b : Int} : wy G a b = wy G b a := by
  unfold wy
  split <;> split <;> split <;> split <;> omega
theorem opn_b {G : Nat → Int} (h : GR G) {v : Nat} (hv : v < 4) {a : Int} (ha : a < 12) : 0 ≤ opn G v a ∧ opn G v a ≤ cls G v a ∧ cls G v a ≤ 999 := by
  unfold opn cls
  split
  · have := (h.2.1 a.toNat (by omega)).2.2.1; omega
  · exact (h.2.2.2.2 v hv).2
theorem nw_b {G : Nat → Int} (h : GR G) {w : Nat} (hw : 4 ≤ w ∧ w < 7) {a : Int} (ha : a < 12) : 0 ≤ nw G w a ∧ nw G w a ≤ 60 := by
  unfold nw
  split
  · have := h.2.1 a.toNat (by omega)
    rcases (show w = 4 ∨ w = 5 ∨ w = 6 by omega) with e | e | e <;> subst e <;> omega
  · omega
theorem m_wayOf {a b : Int} {I : IM} {K : Option AV → IM → Prop} (hG : GR (I 238)) (ha : a < 12) (hb : b < 12) (h : K (some (vI (wy (I 238) a b))) I) : CALL S0 166 [vR 237, vI a, vI b] I K := by
  refine e166 ?_
  have h1 := nx_b hG ha
  have h2 := nx_b hG hb
  have h3 := ny_b hG ha
  have h4 := ny_b hG hb
  have h5 := wy_b hG ha hb
  have fin : ∀ u6 : AV, D166_81 a b (nx (I 238) a) (ny (I 238) a) (nx (I 238) b) u6 (ny (I 238) b) I K := by
    intro u6
    unfold D166_81 inR
    refine ⟨by omega, by omega, by omega, by omega, ?_, h⟩
    unfold wy at h5
    omega
  have s3 : ∀ u5 u6 : AV, D166_60 a b (nx (I 238) a) (ny (I 238) a) u5 u6 (nx (I 238) b) I K := by
    intro u5 u6
    unfold D166_60
    split
    · rename_i c
      refine m_ofOrder (x1 := b) (x2 := 1) (by omega) (by omega) ⟨_, rfl, ?_⟩
      have := fin u6
      unfold ny at this
      simp only [if_pos c] at this
      exact this
    · rename_i c
      have := fin u6
      have e : ny (I 238) b = I 238 1 := by unfold ny; rw [if_neg c]
      rw [e] at this
      exact this
  have s2 : ∀ u4 u5 u6 : AV, D166_39 a b (nx (I 238) a) u4 u5 u6 (ny (I 238) a) I K := by
    intro u4 u5 u6
    unfold D166_39
    split
    · rename_i c
      refine m_ofOrder (x1 := b) (x2 := 0) (by omega) (by omega) ⟨_, rfl, ?_⟩
      have := s3 u5 u6
      have e : nx (I 238) b = I 238 (6 + 8 * b.toNat + 0) := by unfold nx; rw [if_pos c]
      rw [e] at this
      exact this
    · rename_i c
      have := s3 u5 u6
      have e : nx (I 238) b = I 238 0 := by unfold nx; rw [if_neg c]
      rw [e] at this
      exact this
  have s1 : ∀ u3 u4 u5 u6 : AV, D166_19 a b u3 u4 u5 u6 (nx (I 238) a) I K := by
    intro u3 u4 u5 u6
    unfold D166_19
    split
    · rename_i c
      refine m_ofOrder (x1 := a) (x2 := 1) (by omega) (by omega) ⟨_, rfl, ?_⟩
      have := s2 u4 u5 u6
      have e : ny (I 238) a = I 238 (6 + 8 * a.toNat + 1) := by unfold ny; rw [if_pos c]
      rw [e] at this
      exact this
    · rename_i c
      have := s2 u4 u5 u6
      have e : ny (I 238) a = I 238 1 := by unfold ny; rw [if_neg c]
      rw [e] at this
      exact this
  unfold D166_0
  split
  · rename_i c
    refine m_ofOrder (x1 := a) (x2 := 0) (by omega) (by omega) ⟨_, rfl, ?_⟩
    have := s1 vU vU vU vU
    have e : nx (I 238) a = I 238 (6 + 8 * a.toNat + 0) := by unfold nx; rw [if_pos c]
    rw [e] at this
    exact this
  · rename_i c
    have := s1 vU vU vU vU
    have e : nx (I 238) a = I 238 0 := by unfold nx; rw [if_neg c]
    rw [e] at this
    exact this
theorem m_openOf {v : Nat} {a : Int} {I : IM} {K : Option AV → IM → Prop} (hv : v < 4) (ha : a < 12) (h : K (some (vI (opn (I 238) v a))) I) : CALL S0 163 [vR 237, vI (v : Int), vI a] I K := by
  refine e163 ?_
  unfold D163_0 inR
  unfold opn at h
  split
  · rename_i c
    rw [if_pos c] at h
    exact m_ofOrder (x1 := a) (x2 := 2) (by omega) (by omega) ⟨_, rfl, h⟩
  · rename_i c
    rw [if_neg c] at h
    refine ⟨by omega, by omega, by omega, by omega, ?_⟩
    rw [show (102 + 3 * (v : Int) + 1).toNat = 103 + 3 * v by omega]
    exact h
theorem m_closeOf {v : Nat} {a : Int} {I : IM} {K : Option AV → IM → Prop} (hv : v < 4) (ha : a < 12) (h : K (some (vI (cls (I 238) v a))) I) : CALL S0 167 [vR 237, vI (v : Int), vI a] I K := by
  refine e167 ?_
  unfold D167_0 inR
  unfold cls at h
  split
  · rename_i c
    rw [if_pos c] at h
    exact m_ofOrder (x1 := a) (x2 := 3) (by omega) (by omega) ⟨_, rfl, h⟩
  · rename_i c
    rw [if_neg c] at h
    refine ⟨by omega, by omega, by omega, by omega, ?_⟩
    rw [show (102 + 3 * (v : Int) + 2).toNat = 104 + 3 * v by omega]
    exact h
theorem m_serviceOf {a : Int} {I : IM} {K : Option AV → IM → Prop} (ha : a < 12) (h : K (some (vI (nw (I 238) 4 a))) I) : CALL S0 165 [vR 237, vI a] I K := by
  refine e165 ?_
  unfold D165_0
  unfold nw at h
  split
  · rename_i c
    rw [if_pos c] at h
    exact m_ofOrder (x1 := a) (x2 := 4) (by omega) (by omega) ⟨_, rfl, h⟩
  · rename_i c
    rw [if_neg c] at h
    exact h
/-- I' is I but for what the model drives with: 237's slots 8 to 12 and the nodes 243 -/
def FD (I I' : IM) : Prop := ∀ o k, (o ≠ 237 ∨ k < 8 ∨ 12 < k) → o ≠ 243 → I' o k = I o k
theorem FD_refl {I : IM} : FD I I := fun _ _ _ _ => rfl
theorem FD_trans {I I' I'' : IM} (h : FD I I') (h' : FD I' I'') : FD I I'' := fun o k a b => (h' o k a b).trans (h o k a b)
theorem FD_o {I I' : IM} (h : FD I I') {o : Nat} (h1 : o ≠ 237) (h2 : o ≠ 243) : I' o = I o := funext fun k => h o k (Or.inl h1) h2
theorem FD_up {I I' : IM} {o k : Nat} {x : Int} (h : FD I I') (ho : (o = 237 ∧ 8 ≤ k ∧ k ≤ 12) ∨ o = 243) : FD I (iup I' o k x) := fun o' k' a b => by
  rw [iup_ne (by omega)]
  exact h o' k' a b
/-- the nodes of the model's run -/
def ND (I : IM) (N : Nat → Int) (n : Nat) : Prop := I 237 8 = n ∧ ∀ k, k < n → I 243 k = N k
/-- the node k of the run that begins with the stop i of a round (-1 and behind the last: the depot) -/
def gN (L : List Int) (i : Int) (k : Nat) : Int := if 0 ≤ i + k then (L[(i + k).toNat]?).getD (-1) else -1
