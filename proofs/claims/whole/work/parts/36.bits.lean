/-! level 2: sets of orders as bits -/
def bt (S : Int) (o : Nat) : Bool := (Int32.ofInt S).toBitVec.getLsbD o
theorem bt_0 {o : Nat} : bt 0 o = false := by
  unfold bt
  show (0#32).getLsbD o = false
  exact BitVec.getLsbD_zero
theorem shl_f : ∀ x : Fin 12, ∀ o : Fin 32, (Int32.ofInt 1 <<< (Int32.ofInt (x.1 : Int) &&& 31)).toBitVec.getLsbD o.1 = decide (o.1 = x.1) := by decide +kernel
theorem bt_or {S : Int} {x o : Nat} (hx : x < 12) (ho : o < 32) : bt (iorF S (ishlF 1 (x : Int))) o = (bt S o || decide (o = x)) := by
  unfold bt iorF ishlF
  rw [Int32.ofInt_toInt, Int32.ofInt_toInt, Int32.toBitVec_or, BitVec.getLsbD_or]
  exact congrArg _ (shl_f ⟨x, hx⟩ ⟨o, ho⟩)
theorem shr_f : ∀ o : Fin 12, ((Int32.ofInt (o.1 : Int) &&& 31).toBitVec.smod 32).toNat = o.1 := by decide +kernel
theorem bt_z {S : Int} {o : Nat} (ho : o < 12) : iandF (ishrF S (o : Int)) 1 = 0 ↔ bt S o = false := by
  unfold bt iandF ishrF
  rw [Int32.ofInt_toInt]
  have e0 : ∀ t : Int32, t.toInt = 0 ↔ t.toBitVec = 0#32 := fun t => ⟨fun h => by
    have : t = 0 := Int32.toInt_inj.mp (by rw [h]; rfl)
    rw [this]; rfl, fun h => by
    have : t = 0 := Int32.toBitVec_inj.mp (by rw [h]; rfl)
    rw [this]; rfl⟩
  rw [e0, Int32.toBitVec_and, Int32.toBitVec_shiftRight]
  have e1 : (Int32.ofInt 1).toBitVec = 1#32 := by decide
  rw [e1]
  have e2 := shr_f ⟨o, ho⟩
  have e3 : ∀ s : BitVec 32, ∀ c : BitVec 32, c.toNat = o → ((s.sshiftRight' c &&& 1#32 = 0#32) ↔ s.getLsbD o = false) := by
    intro s c hc
    have g : (s.sshiftRight' c).getLsbD 0 = s.getLsbD o := by
      rw [BitVec.sshiftRight', BitVec.getLsbD_sshiftRight, hc]
      simp
      exact fun z => absurd z (by omega)
    rw [← g]
    constructor
    · intro h
      have := congrArg (fun b : BitVec 32 => b.getLsbD 0) h
      simpa using this
    · intro h
      refine BitVec.eq_of_getLsbD_eq fun i hi => ?_
      rw [BitVec.getLsbD_and, BitVec.getLsbD_zero]
      by_cases c : i = 0
      · rw [c, h]; rfl
      · rw [BitVec.getLsbD_one]
        simp [c]
  exact e3 _ _ e2
theorem bt_1 {S : Int} {o : Nat} (ho : o < 12) : iandF (ishrF S (o : Int)) 1 = 1 ↔ bt S o = true := by
  have h1 : iandF (ishrF S (o : Int)) 1 = 0 ∨ iandF (ishrF S (o : Int)) 1 = 1 := by
    unfold iandF ishrF
    have e1 : ∀ t : BitVec 32, t &&& 1#32 = 0#32 ∨ t &&& 1#32 = 1#32 := by
      intro t
      by_cases c : t.getLsbD 0 = true
      · right
        refine BitVec.eq_of_getLsbD_eq fun i hi => ?_
        rw [BitVec.getLsbD_and, BitVec.getLsbD_one]
        by_cases c2 : i = 0
        · rw [c2, c]; rfl
        · simp [c2]
      · left
        refine BitVec.eq_of_getLsbD_eq fun i hi => ?_
        rw [BitVec.getLsbD_and, BitVec.getLsbD_one, BitVec.getLsbD_zero]
        by_cases c2 : i = 0
        · rw [c2, Bool.eq_false_iff.mpr c]; rfl
        · simp [c2]
    have e2 : ∀ t : Int32, (t &&& Int32.ofInt 1).toInt = 0 ∨ (t &&& Int32.ofInt 1).toInt = 1 := by
      intro t
      rcases e1 t.toBitVec with h | h
      · left
        have : t &&& Int32.ofInt 1 = 0 := Int32.toBitVec_inj.mp (by rw [Int32.toBitVec_and]; exact h)
        rw [this]; rfl
      · right
        have : t &&& Int32.ofInt 1 = 1 := Int32.toBitVec_inj.mp (by rw [Int32.toBitVec_and]; exact h)
        rw [this]; rfl
    exact e2 _
  have h2 := @bt_z S o ho
  cases e : bt S o
  · rw [e] at h2
    have := h2.mpr rfl
    rw [this]; simp
  · rw [e] at h2
    rcases h1 with z | z
    · exact absurd (h2.mp z) (by simp)
    · rw [z]; simp
theorem bt_eq {S T : Int} (hS : inR S) (hT : inR T) (h : ∀ o, o < 32 → bt S o = bt T o) : S = T := by
  have : Int32.ofInt S = Int32.ofInt T := Int32.toBitVec_inj.mp (BitVec.eq_of_getLsbD_eq fun i hi => h i hi)
  rw [← i32_eq hS, ← i32_eq hT, this]
/-- the orders that no round has; what they cost; what all costs -/
theorem vanF_r {R : Nat → List Int} {o : Int} : -1 ≤ vanF R o ∧ vanF R o < 4 := by
  unfold vanF
  split
  · omega
  · split
    · omega
    · split
      · omega
      · split <;> omega
theorem vanF_neg {R : Nat → List Int} {o : Int} : vanF R o < 0 ↔ ∀ v, v < 4 → o ∉ R v := by
  unfold vanF
  constructor
  · intro h v hv
    split at h
    · omega
    · split at h
      · omega
      · split at h
        · omega
        · split at h
          · omega
          · rcases (show v = 0 ∨ v = 1 ∨ v = 2 ∨ v = 3 by omega) with e | e | e | e <;> subst e <;> assumption
  · intro h
    rw [if_neg (h 0 (by omega)), if_neg (h 1 (by omega)), if_neg (h 2 (by omega)), if_neg (h 3 (by omega))]
    omega
def pen (G : Nat → Int) (R : Nat → List Int) : Nat → Int
  | 0 => 0
  | k + 1 => pen G R k + (if vanF R (k : Int) < 0 then G (6 + 8 * k + 7) else 0)
def cs4 (G : Nat → Int) (R : Nat → List Int) : Nat → Int
  | 0 => 0
  | v + 1 => cs4 G R v + csV G v (R v)
def csA (G : Nat → Int) (R : Nat → List Int) : Int := cs4 G R 4 + pen G R (G 5).toNat
/-- bits of the rounds' orders -/
def BS (R : Nat → List Int) (S : Int) : Prop := inR S ∧ ∀ o, o < 32 → (bt S o = true ↔ 0 ≤ vanF R (o : Int))
theorem ior_in {x y : Int} : inR (iorF x y) := by unfold iorF; exact i32_in _
theorem pen_b {G : Nat → Int} {R : Nat → List Int} (hG : GR G) : ∀ k, k ≤ 12 → 0 ≤ pen G R k ∧ pen G R k ≤ 9999 * (k : Int)
  | 0, _ => by unfold pen; omega
  | k + 1, h => by
    have h1 := pen_b (R := R) hG k (by omega)
    have h2 := (hG.2.1 k (by omega)).2.2.2.2.2.2
    unfold pen
    split <;> omega
