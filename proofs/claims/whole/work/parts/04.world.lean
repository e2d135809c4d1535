/-! the tables checked; the world of an abstract heap -/
def okw (i : Nat) (w : Jvm.Cond) : Bool := decide (lw_tbl[i]? = some w) && goodWord w
theorem okw_in {i : Nat} {w : Jvm.Cond} (h : okw i w = true) : w ∈ lw_gt := by
  simp only [okw, Bool.and_eq_true, decide_eq_true_eq] at h
  exact List.mem_filter.mpr ⟨List.mem_of_getElem? h.1, h.2⟩
def rkT (k : Nat) : Option FieldType := match k with | 1 => some .int | 2 => some .boolean | 3 => some .long | _ => none
def okM (m : Nat) : Bool := match wtab[m]? with
  | some (_, b, c, d) => (if m_kd m = 1 then okw b (.static (m_y m)) else okw b (.instanceMethod (m_y m))) && (if m_kd m = 0 then okw c (.selects (m_y m).cls (m_y m) (m_y m)) else true) && okw d (.initialized (m_y m).cls)
      && decide ((m_y m).cls = cname (m_own m)) && plainName (m_y m).cls && decide ((m_y m).cls ≠ "java/lang/invoke/MethodHandle" ∧ (m_y m).cls ≠ "java/lang/invoke/VarHandle")
      && decide ((parseMethodDescriptor (m_y m).desc).map (fun d => d.parameters.length) = some (m_np m - (if m_kd m = 1 then 0 else 1))) && decide (m_kd m = 2 → (m_y m).name = "<init>") && decide (m_kd m ≤ 2) && decide (m_kd m ≠ 1 → 1 ≤ m_np m) && decide (1 ≤ m_fr m ∧ 40 ≤ m_lo m) && decide (m_kd m = 2 → m_rk m = 0) && decide (m_own m < 13)
  | none => false
set_option maxRecDepth 100000 in
theorem okM_0 : ((List.range' 1 50).all fun i => okM i) = true := by decide +kernel
set_option maxRecDepth 100000 in
theorem okc_0 : (List.range' 1 50).map (fun m => lw_tbl[(wtab.getD m (0, 0, 0, 0)).1]?) = (List.range' 1 50).map (fun m => some (Jvm.Cond.code (m_y m) (m_cd m) (m_ml m) (rkT (m_rk m)))) := by rfl
set_option maxRecDepth 100000 in
theorem okM_1 : ((List.range' 51 50).all fun i => okM i) = true := by decide +kernel
set_option maxRecDepth 100000 in
theorem okc_1 : (List.range' 51 50).map (fun m => lw_tbl[(wtab.getD m (0, 0, 0, 0)).1]?) = (List.range' 51 50).map (fun m => some (Jvm.Cond.code (m_y m) (m_cd m) (m_ml m) (rkT (m_rk m)))) := by rfl
set_option maxRecDepth 100000 in
theorem okM_2 : ((List.range' 101 50).all fun i => okM i) = true := by decide +kernel
set_option maxRecDepth 100000 in
theorem okc_2 : (List.range' 101 50).map (fun m => lw_tbl[(wtab.getD m (0, 0, 0, 0)).1]?) = (List.range' 101 50).map (fun m => some (Jvm.Cond.code (m_y m) (m_cd m) (m_ml m) (rkT (m_rk m)))) := by rfl
set_option maxRecDepth 100000 in
theorem okM_3 : ((List.range' 151 50).all fun i => okM i) = true := by decide +kernel
set_option maxRecDepth 100000 in
theorem okc_3 : (List.range' 151 50).map (fun m => lw_tbl[(wtab.getD m (0, 0, 0, 0)).1]?) = (List.range' 151 50).map (fun m => some (Jvm.Cond.code (m_y m) (m_cd m) (m_ml m) (rkT (m_rk m)))) := by rfl
set_option maxRecDepth 100000 in
theorem okM_4 : ((List.range' 201 50).all fun i => okM i) = true := by decide +kernel
set_option maxRecDepth 100000 in
theorem okc_4 : (List.range' 201 50).map (fun m => lw_tbl[(wtab.getD m (0, 0, 0, 0)).1]?) = (List.range' 201 50).map (fun m => some (Jvm.Cond.code (m_y m) (m_cd m) (m_ml m) (rkT (m_rk m)))) := by rfl
theorem okM_of {m : Nat} (h0 : m ≠ 0) (h : m < nM) : okM m = true := by
  have h1 : m < 251 := h
  rcases (show m < 51 ∨ (51 ≤ m ∧ m < 101) ∨ (101 ≤ m ∧ m < 151) ∨ (151 ≤ m ∧ m < 201) ∨ 201 ≤ m by omega) with q | q | q | q | q
  · exact List.all_eq_true.mp okM_0 m (by rw [List.mem_range'_1]; omega)
  · exact List.all_eq_true.mp okM_1 m (by rw [List.mem_range'_1]; omega)
  · exact List.all_eq_true.mp okM_2 m (by rw [List.mem_range'_1]; omega)
  · exact List.all_eq_true.mp okM_3 m (by rw [List.mem_range'_1]; omega)
  · exact List.all_eq_true.mp okM_4 m (by rw [List.mem_range'_1]; omega)
theorem okc_of {m : Nat} (h0 : m ≠ 0) (h : m < nM) : Jvm.Cond.code (m_y m) (m_cd m) (m_ml m) (rkT (m_rk m)) ∈ lw_gt := by
  have h1 : m < 251 := h
  have key : lw_tbl[(wtab.getD m (0, 0, 0, 0)).1]? = some (Jvm.Cond.code (m_y m) (m_cd m) (m_ml m) (rkT (m_rk m))) := by
    rcases (show m < 51 ∨ (51 ≤ m ∧ m < 101) ∨ (101 ≤ m ∧ m < 151) ∨ (151 ≤ m ∧ m < 201) ∨ 201 ≤ m by omega) with q | q | q | q | q
    · exact List.map_inj_left.mp okc_0 m (by rw [List.mem_range'_1]; omega)
    · exact List.map_inj_left.mp okc_1 m (by rw [List.mem_range'_1]; omega)
    · exact List.map_inj_left.mp okc_2 m (by rw [List.mem_range'_1]; omega)
    · exact List.map_inj_left.mp okc_3 m (by rw [List.mem_range'_1]; omega)
    · exact List.map_inj_left.mp okc_4 m (by rw [List.mem_range'_1]; omega)
  exact List.mem_filter.mpr ⟨List.mem_of_getElem? key, rfl⟩
def okFt (q : (Nat × Nat) × Nat × Nat × Nat) : Bool := match vwCl[q.2.1]? with
  | some (_, T, N) => decide (q.2.2.1 < N) && okw q.2.2.2 (.fieldLink (cname q.1.1) q.1.2 (T q.2.2.1).1 (T q.2.2.1).2.1 (T q.2.2.1).2.2.1)
  | none => false
set_option maxRecDepth 100000 in
theorem ftab_ok : ftab.all okFt = true := by decide +kernel
set_option maxRecDepth 100000 in
theorem ktab_ok : ktab.all (fun q => okw q.2.2 (.constant (cname q.1.1) q.1.2 (Int32.ofInt q.2.1)) && decide (inR q.2.1)) = true := by decide +kernel
set_option maxRecDepth 100000 in
theorem ltab_ok : ltab.all (fun q => okw q.2.2 (.constantLong (cname q.1.1) q.1.2 (Int64.ofInt q.2.1)) && decide (inL q.2.1)) = true := by decide +kernel
set_option maxRecDepth 100000 in
theorem ctab_ok : ctab.all (fun q => if q.2.1 = 102 then okw q.2.2 (.classLink (cname q.1.1) q.1.2 "[[I") else decide (q.2.1 < 13) && okw q.2.2 (.classLink (cname q.1.1) q.1.2 (cname q.2.1))) = true := by decide +kernel
def nestAt (q : (Nat × Nat) × Nat × Nat × Nat) : Jvm.Cond := .methodLinkNest (cname q.1.1) q.1.2 (m_y q.2.1) "RoundSlack"
set_option maxRecDepth 100000 in
theorem mtb_ok : mtb.all (fun q => if q.2.2.1 = 0 then okw q.2.2.2 (.methodLink (cname q.1.1) q.1.2 (m_y q.2.1)) else decide (lw_tbl[q.2.2.2]? = some (nestAt q))) = true := by decide +kernel
def jname (k : Nat) : MethodName := match k with | 0 => Lib.objectInit | 1 => Lib.Math.abs.name | 2 => Lib.Math.max.name | 3 => Lib.Math.min.name | _ => arraycopyName
set_option maxRecDepth 100000 in
theorem jtab_ok : jtab.all (fun q => okw q.2.2 (.methodLink (cname q.1.1) q.1.2 (jname q.2.1)) && decide (q.2.1 ≤ 4)) = true := by decide +kernel
theorem of_lookup {α β : Type} {l : List ((Nat × Nat) × α)} {k : Nat × Nat} {v : α} (h : l.lookup k = some v) : (k, v) ∈ l := by
  induction l with
  | nil => cases h
  | cons q l ih =>
    obtain ⟨a, b⟩ := q
    rw [List.lookup_cons] at h
    by_cases e : (k == a) = true
    · rw [e] at h
      have : k = a := by simpa using e
      subst this
      cases h
      exact List.mem_cons_self
    · have e2 : (k == a) = false := by simpa using e
      rw [e2] at h
      exact List.mem_cons_of_mem _ (ih h)
