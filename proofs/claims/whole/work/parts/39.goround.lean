/-! level 2: the class' piece against the model's nodes -/
theorem rd_rng {r : Nat} (h : isRd r) : r = 29 ∨ r = 64 ∨ r = 71 ∨ (80 ≤ r ∧ r ≤ 185) ∨ r = 197 := by
  have : ∀ r ∈ rdIds, r = 29 ∨ r = 64 ∨ r = 71 ∨ (80 ≤ r ∧ r ≤ 185) ∨ r = 197 := by decide
  exact this r h
def cd (a : Int) : Int := if a < 0 then 12 else a
def dc (k : Nat) : Int := if k < 12 then k else -1
/-- the class' book (r) and fleet (f) against the model's numbers -/
def BKof (I : IM) (r f : Nat) (G : Nat → Int) : Prop := I r 0 = G 5 ∧ (∀ o, o < 12 → ∀ w, w < 8 → I (r + 1 + w) o = G (6 + 8 * o + w)) ∧ (I (r + 1) 12 = G 0 ∧ I (r + 2) 12 = G 1) ∧ (I (r + 3) 12 = 0 ∧ I (r + 5) 12 = 0 ∧ I (r + 6) 12 = 0 ∧ I (r + 7) 12 = 0) ∧ (∀ a b, a < 13 → b < 13 → I (r + 10 + a) b = wy G (dc a) (dc b)) ∧ (∀ v, v < 4 → I (f + 1) v = G (102 + 3 * v) ∧ I (f + 2) v = G (103 + 3 * v) ∧ I (f + 3) v = G (104 + 3 * v)) ∧ (∀ w, w < 3 → I (f + 4) w = G (2 + w))
def BK (I : IM) (G : Nat → Int) : Prop := BKof I 1 24 G
theorem BK_fp {I I' : IM} {G : Nat → Int} (h : BK I G) (f : ∀ o k, o < 29 → I' o k = I o k) : BK I' G := by
  obtain ⟨h1, h2, h3, h4, h5, h6, h7⟩ := h
  refine ⟨by rw [f _ _ (by omega)]; exact h1, fun o ho w hw => by rw [f _ _ (by omega)]; exact h2 o ho w hw, ?_, ?_, fun a b ha hb => by rw [f _ _ (by omega)]; exact h5 a b ha hb, fun v hv => ?_, fun w hw => by rw [f _ _ (by omega)]; exact h7 w hw⟩
  · rw [f _ _ (by omega), f _ _ (by omega)]; exact h3
  · rw [f _ _ (by omega), f _ _ (by omega), f _ _ (by omega), f _ _ (by omega)]; exact h4
  · rw [f _ _ (by omega), f _ _ (by omega), f _ _ (by omega)]; exact h6 v hv
theorem cd_r {a : Int} (h : a < 12) : 0 ≤ cd a ∧ cd a < 13 := by unfold cd; split <;> omega
theorem wy_dc {G : Nat → Int} {a b : Int} (ha : a < 12) (hb : b < 12) : wy G (dc (cd a).toNat) (dc (cd b).toNat) = wy G a b := by
  have e : ∀ c : Int, c < 12 → nx G (dc (cd c).toNat) = nx G c ∧ ny G (dc (cd c).toNat) = ny G c := by
    intro c hc
    unfold nx ny cd
    by_cases z : c < 0
    · rw [if_pos z, show dc (12 : Int).toNat = -1 from rfl]
      constructor <;> rw [if_neg (by omega), if_neg (by omega)]
    · rw [if_neg z]
      have : dc c.toNat = c := by unfold dc; rw [if_pos (by omega)]; omega
      rw [this]
      exact ⟨rfl, rfl⟩
  unfold wy
  rw [(e a ha).1, (e a ha).2, (e b hb).1, (e b hb).2]
theorem bk_w {I : IM} {G : Nat → Int} (h : BK I G) {w : Nat} (hw : w = 4 ∨ w = 5 ∨ w = 6) {a : Int} (ha : a < 12) : I (2 + w) (cd a).toNat = nw G w a := by
  unfold cd nw
  by_cases z : a < 0
  · rw [if_pos z, if_neg (by omega), show (12 : Int).toNat = 12 from rfl]
    rcases hw with e | e | e <;> subst e
    · exact h.2.2.2.1.2.1
    · exact h.2.2.2.1.2.2.1
    · exact h.2.2.2.1.2.2.2
  · rw [if_neg z, if_pos (by omega)]
    exact h.2.1 a.toNat (by omega) w (by omega)
/-- the latest begin, kept forward -/
def lfs (G : Nat → Int) (v : Nat) (N : Nat → Int) : Nat → Int
  | 0 => cls G v (N 0)
  | k + 1 => if lfs G v N k ≤ cls G v (N (k + 1)) - (drs G N k + sms G 4 N (k + 1) + wy G (N k) (N (k + 1))) then lfs G v N k else cls G v (N (k + 1)) - (drs G N k + sms G 4 N (k + 1) + wy G (N k) (N (k + 1)))
theorem lts_lfs {G : Nat → Int} {v : Nat} {N : Nat → Int} : ∀ e, lts G v N e e = lfs G v N e := by
  have step : ∀ e d, d ≤ e → lts G v N (e + 1) (d + 1) = if lts G v N e d ≤ cls G v (N (e + 1)) - (drs G N (e + 1) - drs G N (e - d) + (sms G 4 N (e + 1) - sms G 4 N (e - d))) then lts G v N e d else cls G v (N (e + 1)) - (drs G N (e + 1) - drs G N (e - d) + (sms G 4 N (e + 1) - sms G 4 N (e - d))) := by
    intro e d
    induction d with
    | zero =>
      intro _
      have e1 : lts G v N (e + 1) (0 + 1) = if lts G v N (e + 1) 0 - wy G (N (e + 1 - 0 - 1)) (N (e + 1 - 0)) - nw G 4 (N (e + 1 - 0 - 1)) < cls G v (N (e + 1 - 0 - 1)) then lts G v N (e + 1) 0 - wy G (N (e + 1 - 0 - 1)) (N (e + 1 - 0)) - nw G 4 (N (e + 1 - 0 - 1)) else cls G v (N (e + 1 - 0 - 1)) := rfl
      have e2 : drs G N (e + 1) = drs G N e + wy G (N e) (N (e + 1)) := rfl
      have e3 : sms G 4 N (e + 1) = sms G 4 N e + nw G 4 (N e) := rfl
      rw [e1, e2, e3]
      simp only [Nat.sub_zero, Nat.add_sub_cancel]
      rw [show lts G v N e 0 = cls G v (N e) from rfl, show lts G v N (e + 1) 0 = cls G v (N (e + 1)) from rfl]
      split <;> split <;> omega
    | succ d ih =>
      intro hd
      have h1 := ih (by omega)
      have e1 : lts G v N (e + 1) (d + 1 + 1) = if lts G v N (e + 1) (d + 1) - wy G (N (e + 1 - (d + 1) - 1)) (N (e + 1 - (d + 1))) - nw G 4 (N (e + 1 - (d + 1) - 1)) < cls G v (N (e + 1 - (d + 1) - 1)) then lts G v N (e + 1) (d + 1) - wy G (N (e + 1 - (d + 1) - 1)) (N (e + 1 - (d + 1))) - nw G 4 (N (e + 1 - (d + 1) - 1)) else cls G v (N (e + 1 - (d + 1) - 1)) := rfl
      have e2 : lts G v N e (d + 1) = if lts G v N e d - wy G (N (e - d - 1)) (N (e - d)) - nw G 4 (N (e - d - 1)) < cls G v (N (e - d - 1)) then lts G v N e d - wy G (N (e - d - 1)) (N (e - d)) - nw G 4 (N (e - d - 1)) else cls G v (N (e - d - 1)) := rfl
      rw [e1, e2, h1]
      obtain ⟨m, hm⟩ : ∃ m, e - d = m + 1 := ⟨e - d - 1, by omega⟩
      rw [show e + 1 - (d + 1) - 1 = m by omega, show e + 1 - (d + 1) = m + 1 by omega, show e - (d + 1) = m by omega, show e - d - 1 = m by omega, hm]
      have e4 : drs G N (m + 1) = drs G N m + wy G (N m) (N (m + 1)) := rfl
      have e5 : sms G 4 N (m + 1) = sms G 4 N m + nw G 4 (N m) := rfl
      rw [e4, e5]
      (repeat' split) <;> omega
  intro e
  induction e with
  | zero => rfl
  | succ e ih =>
    rw [step e e (Nat.le_refl _), ih]
    have e1 : lfs G v N (e + 1) = if lfs G v N e ≤ cls G v (N (e + 1)) - (drs G N e + sms G 4 N (e + 1) + wy G (N e) (N (e + 1))) then lfs G v N e else cls G v (N (e + 1)) - (drs G N e + sms G 4 N (e + 1) + wy G (N e) (N (e + 1))) := rfl
    rw [e1, Nat.sub_self, show drs G N 0 = 0 from rfl, show sms G 4 N 0 = 0 from rfl, show drs G N (e + 1) = drs G N e + wy G (N e) (N (e + 1)) from rfl]
    split <;> split <;> omega
theorem ltf_01 {G : Nat → Int} {v : Nat} {N : Nat → Int} {s : Int} : ∀ m, ltf G v N s m = 0 ∨ ltf G v N s m = 1
  | 0 => Or.inl rfl
  | m + 1 => by
    rw [show ltf G v N s (m + 1) = if bgs G v N s (m + 1) ≤ cls G v (N (m + 1)) then ltf G v N s m else 1 from rfl]
    split
    · exact ltf_01 m
    · exact Or.inr rfl
theorem ltf_s {G : Nat → Int} {v : Nat} {N : Nat → Int} {s : Int} {m : Nat} : ltf G v N s (m + 1) = 0 ↔ (ltf G v N s m = 0 ∧ bgs G v N s (m + 1) ≤ cls G v (N (m + 1))) := by
  rw [show ltf G v N s (m + 1) = if bgs G v N s (m + 1) ≤ cls G v (N (m + 1)) then ltf G v N s m else 1 from rfl]
  split
  · rename_i c; exact ⟨fun h => ⟨h, c⟩, fun h => h.1⟩
  · rename_i c; exact ⟨fun h => by omega, fun h => absurd h.2 c⟩
theorem ltf_mono {G : Nat → Int} {v : Nat} {N : Nat → Int} {s : Int} {m : Nat} : ∀ d, ltf G v N s (m + d) = 0 → ltf G v N s m = 0
  | 0, h => h
  | d + 1, h => ltf_mono d (ltf_s.mp h).1
theorem bl_s {G : Nat → Int} {v : Nat} {N : Nat → Int} {s : Int} {k : Nat} : lvs G v N s k = bgs G v N s k + nw G 4 (N k) := by
  cases k with
  | zero => rfl
  | succ k => rfl
/-- while none is late -/
theorem it_b {G : Nat → Int} {v : Nat} {N : Nat → Int} (hG : GR G) (hv : v < 4) : ∀ k, okN N (k + 1) → ltf G v N (opn G v (N 0)) k = 0 → opn G v (N 0) ≤ lfs G v N k ∧ opn G v (N 0) + (drs G N k + sms G 4 N (k + 1)) ≤ lvs G v N (opn G v (N 0)) k ∧ lvs G v N (opn G v (N 0)) k ≤ 1059 ∧ 0 ≤ drs G N k ∧ 0 ≤ sms G 4 N (k + 1)
  | 0, h, _ => by
    have h1 := opn_b hG hv (h 0 (by omega))
    have h2 := nw_b hG (w := 4) (by omega) (h 0 (by omega))
    rw [show lfs G v N 0 = cls G v (N 0) from rfl, show drs G N 0 = 0 from rfl, show sms G 4 N (0 + 1) = 0 + nw G 4 (N 0) from rfl, show lvs G v N (opn G v (N 0)) 0 = opn G v (N 0) + nw G 4 (N 0) from rfl]
    omega
  | k + 1, h, hl => by
    have hz := ltf_s.mp hl
    have h0 := it_b hG hv k (fun i hi => h i (by omega)) hz.1
    have h2 := nw_b hG (w := 4) (by omega) (h (k + 1) (by omega))
    have h3 := opn_b hG hv (h (k + 1) (by omega))
    have h4 := wy_b hG (h k (by omega)) (h (k + 1) (by omega))
    have hb := hz.2
    have e1 : lfs G v N (k + 1) = if lfs G v N k ≤ cls G v (N (k + 1)) - (drs G N k + sms G 4 N (k + 1) + wy G (N k) (N (k + 1))) then lfs G v N k else cls G v (N (k + 1)) - (drs G N k + sms G 4 N (k + 1) + wy G (N k) (N (k + 1))) := rfl
    have ec : cms G v N (opn G v (N 0)) (k + 1) = lvs G v N (opn G v (N 0)) k + wy G (N k) (N (k + 1)) := rfl
    have eb : bgs G v N (opn G v (N 0)) (k + 1) = if cms G v N (opn G v (N 0)) (k + 1) < opn G v (N (k + 1)) then opn G v (N (k + 1)) else cms G v N (opn G v (N 0)) (k + 1) := rfl
    rw [bl_s (k := k + 1), e1, show drs G N (k + 1) = drs G N k + wy G (N k) (N (k + 1)) from rfl, show sms G 4 N (k + 1 + 1) = sms G 4 N (k + 1) + nw G 4 (N (k + 1)) from rfl]
    rw [eb] at hb ⊢
    split at hb
    · rename_i c; rw [if_pos c]; split <;> omega
    · rename_i c; rw [if_neg c]; split <;> omega
theorem tps_add {G : Nat → Int} {N : Nat → Int} {n : Nat} : ∀ j, tps G N (n + 1) j = tps G N n j + nw G 5 (N n)
  | 0 => by rw [show tps G N (n + 1) 0 = sms G 5 N (n + 1) from rfl, show tps G N n 0 = sms G 5 N n from rfl]; rfl
  | j + 1 => by
    have e1 : ∀ n, tps G N n (j + 1) = if tps G N n j < lds G N n (j + 1) then lds G N n (j + 1) else tps G N n j := fun _ => rfl
    have e2 : lds G N (n + 1) (j + 1) = lds G N n (j + 1) + nw G 5 (N n) := by
      unfold lds
      rw [show sms G 5 N (n + 1) = sms G 5 N n + nw G 5 (N n) from rfl]
      omega
    rw [e1, e1, tps_add j, e2]
    split <;> split <;> omega
theorem tps_ge {G : Nat → Int} {N : Nat → Int} {n : Nat} : lds G N n n ≤ tps G N n n := by
  cases n with
  | zero => rw [show tps G N 0 0 = sms G 5 N 0 from rfl]; unfold lds; rw [show sms G 5 N 0 = 0 from rfl, show sms G 6 N 0 = 0 from rfl]; omega
  | succ n =>
    rw [show tps G N (n + 1) (n + 1) = if tps G N (n + 1) n < lds G N (n + 1) (n + 1) then lds G N (n + 1) (n + 1) else tps G N (n + 1) n from rfl]
    split <;> omega
theorem tps_s {G : Nat → Int} {N : Nat → Int} {n : Nat} : tps G N (n + 1) (n + 1) = if tps G N n n + nw G 5 (N n) < sms G 6 N n + nw G 6 (N n) then sms G 6 N n + nw G 6 (N n) else tps G N n n + nw G 5 (N n) := by
  rw [show tps G N (n + 1) (n + 1) = if tps G N (n + 1) n < lds G N (n + 1) (n + 1) then lds G N (n + 1) (n + 1) else tps G N (n + 1) n from rfl, tps_add]
  have : lds G N (n + 1) (n + 1) = sms G 6 N n + nw G 6 (N n) := by
    unfold lds
    rw [show sms G 6 N (n + 1) = sms G 6 N n + nw G 6 (N n) from rfl]
    omega
  rw [this]
def PR (s E B L D A : Int) : Prop := (E - L ≤ B ∧ D = B ∧ (A = s ∨ A = E - B) ∧ s ≤ A ∧ E - B ≤ A) ∨ (B < E - L ∧ D = E - L ∧ A = L)
/-- the piece tells of the nodes up to k -/
def PI (I : IM) (G : Nat → Int) (v : Nat) (N : Nat → Int) (k : Nat) : Prop := I 192 1 = cd (N k) ∧ I 192 9 = 1 ∧ I 192 7 = drs G N k ∧ I 192 4 = sms G 5 N (k + 1) ∧ I 192 5 = sms G 6 N (k + 1) ∧ I 192 8 = tps G N (k + 1) (k + 1) ∧ I 192 3 = lfs G v N k ∧ PR (opn G v (N 0)) (lvs G v N (opn G v (N 0)) k) (drs G N k + sms G 4 N (k + 1)) (lfs G v N k) (I 192 6) (I 192 2)
/-- the piece keeps bounds -/
def PW (I : IM) (b : Int) : Prop := (0 ≤ I 192 1 ∧ I 192 1 < 13) ∧ (-b ≤ I 192 2 ∧ I 192 2 ≤ b) ∧ (-b ≤ I 192 3 ∧ I 192 3 ≤ b) ∧ (-b ≤ I 192 4 ∧ I 192 4 ≤ b) ∧ (-b ≤ I 192 5 ∧ I 192 5 ≤ b) ∧ (-b ≤ I 192 6 ∧ I 192 6 ≤ b) ∧ (-b ≤ I 192 7 ∧ I 192 7 ≤ b) ∧ (-b ≤ I 192 8 ∧ I 192 8 ≤ b)
