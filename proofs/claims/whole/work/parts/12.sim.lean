/-! a call by contract; the abstract run carries the machine -/
theorem va_AOA.moved {ty : FieldType} {u U : State} (hvm : u.vm.Alike U.vm) (h : va_AOA ty u) : va_AOA ty U := by
  have e := Jvm.Cond.arrayOver_setVmC (args := #[]) hvm (.array ty)
  have h1 : (Jvm.Cond.arrayOver (.array ty)).before #[] (u.setVm U.vm) = true := e.trans h
  exact h1
theorem nwP.warm {s U : State} (hW : s.WarmedH U.vm) (h : nwP s) : nwP U := by
  refine ⟨fun w hw => ?_, va_AO.moved hW.alike h.2.1, va_AOA.moved hW.alike h.2.2⟩
  obtain ⟨q, -, rfl⟩ := List.mem_map.mp hw
  exact va_Nw.warmM hW (h.1 _ hw)
theorem nwP.same {s U : State} (e : s.vm = U.vm) (h : nwP s) : nwP U := by
  refine ⟨fun w hw => ?_, va_AO.moved (by rw [e]; exact Vm.Alike.refl _) h.2.1, va_AOA.moved (by rw [e]; exact Vm.Alike.refl _) h.2.2⟩
  obtain ⟨q, -, rfl⟩ := List.mem_map.mp hw
  exact va_Nw.same rfl e (h.1 _ hw)
def wsm (m : Nat) : List Jvm.Cond := Jvm.Cond.code (m_y m) (m_cd m) (m_ml m) (rkT (m_rk m)) :: lw_gt
theorem wsm_good {m : Nat} (h0 : m ≠ 0) (h : m < nM) : GoodIn lw_gt (wsm m) := by
  intro w hw
  have hm : w ∈ lw_gt := by
    rcases List.mem_cons.mp hw with rfl | h1
    · exact okc_of h0 h
    · exact h1
  exact ⟨hm, good_of_word (List.mem_filter.mp hm).2⟩
def PcA (D : va_G) (tc : Nat → ClassId) (ad : Nat → Nat) (h : AH) (sz : Nat) : State → Prop := fun U => U.heap.size = sz ∧ va_P D vwCl (wd tc ad h) U.heap ∧ va_K D vwCl (tysF tc) U ∧ va_D (fun _ => True) (wd tc ad h) ∧ nwP U ∧ h.2.length ≤ 1000
def BA (D : va_G) (tc : Nat → ClassId) (ad : Nat → Nat) (h h' : AH) (A : Nat → Prop) : (Nat → Nat) → State → Prop := fun ad' t => (∀ o, (o < h.2.length ∨ h'.2.length ≤ o) → ad' o = ad o) ∧ va_P D vwCl (wd tc ad' h') t.heap ∧ va_K D vwCl (tysF tc) t ∧ va_D A (wd tc ad' h')
def QcA (v : Option AV) (B : (Nat → Nat) → State → Prop) (A : Nat → Prop) : Array Value → State → Outcome → State → Prop := match v with
  | none => va_Qv (fun _ => True) B A
  | some (.inl x) => va_Qi (fun r _ => r = Int32.ofInt x) B A
  | some (.inr (.inl x)) => va_Ql (fun r _ => r = Int64.ofInt x) B A
  | some (.inr (.inr _)) => fun _ _ _ _ => False
def retOk (m : Nat) (raw : Instr) (v : Option AV) : Prop := match v with
  | none => raw = .return_ ∧ m_rk m = 0
  | some (.inl x) => raw = .ireturn ∧ (m_rk m = 1 ∨ (m_rk m = 2 ∧ (x = 0 ∨ x = 1)))
  | some (.inr (.inl _)) => raw = .lreturn ∧ m_rk m = 3
  | some (.inr (.inr _)) => False
def FIN (X : CT) (ad : Nat → Nat) (cells slots : Nat) (h h' : AH) (v : Option AV) : Prop := ∀ (ad' : Nat → Nat) (cells' slots' pc' : Nat) (raw : Instr) (ls' : List AV), (∀ o, (o < h.2.length ∨ h'.2.length ≤ o) → ad' o = ad o) → cells' + h.2.length = cells + h'.2.length → slots' + sl h.2 = slots + sl h'.2 → decode (m_cd (xm X)) pc' = .ok (raw, 1) → retOk (xm X) raw v → TT X ad' cells' slots' pc' ls' v.toList h'
def SIM (f : Nat) : Prop := ∀ (m pc : Nat) (ls st : List AV) (h : AH) (v : Option AV) (h' : AH), arun f m pc ls st h = some (v, h') → okL ls → okL st → okI h.1 → ∀ (X : CT) (ad : Nat → Nat) (cells slots : Nat), CX X → xm X = m → (1 ≤ m_fr m ∧ 40 ≤ m_lo m) → cells + h'.2.length ≤ (xR X).cells + h.2.length → slots + sl h'.2 ≤ (xR X).slots + sl h.2 → FIN X ad cells slots h h' v → TT X ad cells slots pc ls st h
theorem wcat_len {l : List AV} : l.length ≤ wcat l := by
  unfold wcat
  induction l with
  | nil => simp
  | cons v l ih =>
    simp only [List.map_cons, List.sum_cons, List.length_cons]
    rcases v with x | x | o <;> simp <;> omega
def wc1 (v : AV) : Nat := match v with | .inr (.inl _) => 2 | _ => 1
theorem wcat_cons {v : AV} {l : List AV} : wcat (v :: l) = wc1 v + wcat l := rfl
theorem wcat_one {l : List AV} (h : wcat l = l.length) : ∀ v ∈ l, ∀ x, v ≠ vL x := by
  induction l with
  | nil => intro v hv; cases hv
  | cons w l ih =>
    have h2 := wcat_len (l := l)
    rw [wcat_cons, List.length_cons] at h
    unfold wc1 at h
    intro v hv x
    rcases w with y | y | o
    · rcases List.mem_cons.mp hv with rfl | hv
      · intro z; cases z
      · exact ih (by simp at h; omega) v hv x
    · simp at h; omega
    · rcases List.mem_cons.mp hv with rfl | hv
      · intro z; cases z
      · exact ih (by simp at h; omega) v hv x
theorem cv_cat {ad : Nat → Nat} {v : AV} (h : ∀ x, v ≠ vL x) : (cv ad v).category = 1 := by
  rcases v with x | x | o
  · rfl
  · exact absurd rfl (h x)
  · rfl
theorem lva_mem {ad : Nat → Nat} : ∀ (l : List AV) (i : Nat), (∀ v ∈ l, ∀ x, v ≠ vL x) → (∀ q ∈ lv_args i (l.map (cv ad)), q.2.category = 1) ∧ ∀ (j : Nat) (v : AV), l[j]? = some v → (i + j, cv ad v) ∈ lv_args i (l.map (cv ad))
  | [], i, _ => by
    refine ⟨fun q hq => ?_, fun j v h => ?_⟩
    · simp [lv_args] at hq
    · simp at h
  | w :: l, i, hl => by
    have hc : (cv ad w).category = 1 := cv_cat (hl w List.mem_cons_self)
    obtain ⟨a1, a2⟩ := lva_mem (ad := ad) l (i + 1) (fun v hv => hl v (List.mem_cons_of_mem _ hv))
    have e : lv_args i ((w :: l).map (cv ad)) = (i, cv ad w) :: lv_args (i + 1) (l.map (cv ad)) := by
      show (i, cv ad w) :: lv_args (if (cv ad w).category = 2 then i + 2 else i + 1) (l.map (cv ad)) = _
      rw [if_neg (by rw [hc]; decide)]
    rw [e]
    refine ⟨fun q hq => ?_, fun j v h => ?_⟩
    · rcases List.mem_cons.mp hq with rfl | hq
      · exact hc
      · exact a1 q hq
    · cases j with
      | zero => simp at h; subst h; exact List.mem_cons_self
      | succ j => exact List.mem_cons_of_mem _ (by have := a2 j v (by simpa using h); rwa [show i + 1 + j = i + (j + 1) by omega] at this)
theorem lg_len {ad : Nat → Nat} : ∀ l : List AV, (∀ v ∈ l, ∀ x, v ≠ vL x) → (lg_sl (l.map (cv ad))).length = l.length
  | [], _ => rfl
  | w :: l, hl => by
    have hc : (cv ad w).category = 1 := cv_cat (hl w List.mem_cons_self)
    have := lg_len (ad := ad) l (fun v hv => hl v (List.mem_cons_of_mem _ hv))
    unfold lg_sl at this ⊢
    rw [List.map_cons, List.flatMap_cons, List.length_append, this, if_neg (by rw [hc]; decide)]
    simp
    omega
theorem okM_parts {m : Nat} (h0 : m ≠ 0) (h : m < nM) : (m_y m).cls = cname (m_own m) ∧ plainName (m_y m).cls = true ∧ ((m_y m).cls ≠ "java/lang/invoke/MethodHandle" ∧ (m_y m).cls ≠ "java/lang/invoke/VarHandle") ∧ (parseMethodDescriptor (m_y m).desc).map (fun d => d.parameters.length) = some (m_np m - (if m_kd m = 1 then 0 else 1)) ∧ (m_kd m = 2 → (m_y m).name = "<init>") ∧ m_kd m ≤ 2 ∧ (m_kd m ≠ 1 → 1 ≤ m_np m) ∧ (1 ≤ m_fr m ∧ 40 ≤ m_lo m) ∧ (m_kd m = 2 → m_rk m = 0) ∧ m_own m < 13 ∧ (if m_kd m = 1 then Jvm.Cond.static (m_y m) ∈ lw_gt else Jvm.Cond.instanceMethod (m_y m) ∈ lw_gt) ∧ (m_kd m = 0 → Jvm.Cond.selects (m_y m).cls (m_y m) (m_y m) ∈ lw_gt) ∧ Jvm.Cond.initialized (m_y m).cls ∈ lw_gt := by
  have hk := okM_of h0 h
  unfold okM at hk
  split at hk
  · simp only [Bool.and_eq_true, decide_eq_true_eq] at hk
    obtain ⟨⟨⟨⟨⟨⟨⟨⟨⟨⟨⟨⟨a1, a2⟩, a3⟩, a4⟩, a5⟩, a6⟩, a7⟩, a8⟩, a9⟩, a10⟩, a11⟩, a12⟩, a13⟩ := hk
    refine ⟨a4, a5, a6, a7, a8, a9, a10, a11, a12, a13, ?_, ?_, okw_in a3⟩
    · by_cases z : m_kd m = 1
      · rw [if_pos z] at a1 ⊢; exact okw_in a1
      · rw [if_neg z] at a1 ⊢; exact okw_in a1
    · intro z
      rw [if_pos z] at a2
      exact okw_in a2
  · cases hk
