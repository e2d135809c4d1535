/-! level 2: a line with one more, one less -/
def shU (I : IM) (o off a b : Nat) : IM := fun o' j => if o' = o ∧ off + a < j ∧ j ≤ off + b then I o (j - 1) else I o' j
def shD (I : IM) (o off a b : Nat) : IM := fun o' j => if o' = o ∧ off + a ≤ j ∧ j < off + b then I o (j + 1) else I o' j
theorem shU_0 {I : IM} {o off b : Nat} : shU I o off b b = I := by
  funext o' j
  exact if_neg (by omega)
theorem shU_s {I : IM} {o off a b : Nat} (h : a < b) : iup (shU I o off (a + 1) b) o (off + a + 1) (I o (off + a)) = shU I o off a b := by
  funext o' j
  unfold iup shU
  by_cases h1 : o' = o ∧ j = off + a + 1
  · rw [if_pos h1, if_pos (by omega), h1.2, show off + a + 1 - 1 = off + a by omega]
  · rw [if_neg h1]
    by_cases h2 : o' = o ∧ off + (a + 1) < j ∧ j ≤ off + b
    · rw [if_pos h2, if_pos (by omega)]
    · rw [if_neg h2, if_neg (by omega)]
theorem shU_lo {I : IM} {o off a b j : Nat} (h : j ≤ off + a) : shU I o off a b o j = I o j := if_neg (by omega)
theorem shU_ne {I : IM} {o off a b o' j : Nat} (h : o' ≠ o) : shU I o off a b o' j = I o' j := if_neg (fun z => h z.1)
theorem shD_0 {I : IM} {o off b : Nat} : shD I o off b b = I := by
  funext o' j
  exact if_neg (by omega)
theorem shD_s {I : IM} {o off a b : Nat} (h : a ≤ b) : iup (shD I o off a b) o (off + b) (I o (off + b + 1)) = shD I o off a (b + 1) := by
  funext o' j
  unfold iup shD
  by_cases h1 : o' = o ∧ j = off + b
  · rw [if_pos h1, if_pos (by omega), h1.2]
  · rw [if_neg h1]
    by_cases h2 : o' = o ∧ off + a ≤ j ∧ j < off + b
    · rw [if_pos h2, if_pos (by omega)]
    · rw [if_neg h2, if_neg (by omega)]
theorem shD_hi {I : IM} {o off a b j : Nat} (h : off + b ≤ j) : shD I o off a b o j = I o j := if_neg (by omega)
theorem shD_ne {I : IM} {o off a b o' j : Nat} (h : o' ≠ o) : shD I o off a b o' j = I o' j := if_neg (fun z => h z.1)
/-- one more at k: the memory, and the list -/
def insM (I : IM) (o off n k : Nat) (x : Int) : IM := iup (shU I o off k n) o (off + k) x
theorem insM_ln {I : IM} {o off n k : Nat} {x : Int} (hk : k ≤ n) : ln (insM I o off n k x) o off (n + 1) = (ln I o off n).insertIdx k x := by
  have hl : ((ln I o off n).insertIdx k x).length = n + 1 := by rw [List.length_insertIdx, ln_len, if_pos hk]
  refine ln_ext hl fun j hj => ?_
  unfold insM iup shU
  rw [List.getElem?_insertIdx]
  by_cases h1 : j < k
  · rw [if_pos h1, ln_get (by omega), if_neg (by omega), if_neg (by omega)]
  · rw [if_neg h1]
    by_cases h2 : j = k
    · rw [if_pos h2, if_pos (by rw [ln_len]; omega), if_pos (by omega)]
    · rw [if_neg h2, ln_get (by omega), if_neg (by omega), if_pos (by omega), show off + j - 1 = off + (j - 1) by omega]
theorem insM_ne {I : IM} {o off n k o' j : Nat} {x : Int} (h : o' ≠ o ∨ j < off + k ∨ off + n < j) : k ≤ n → insM I o off n k x o' j = I o' j := by
  intro hk
  unfold insM iup shU
  rw [if_neg (by omega), if_neg (by omega)]
theorem delM_ln {I : IM} {o off n k : Nat} (hk : k < n) : ln (shD I o off k (n - 1)) o off (n - 1) = (ln I o off n).eraseIdx k := by
  have hl : ((ln I o off n).eraseIdx k).length = n - 1 := by rw [List.length_eraseIdx, ln_len, if_pos hk]
  refine ln_ext hl fun j hj => ?_
  unfold shD
  rw [List.getElem?_eraseIdx]
  by_cases h1 : j < k
  · rw [if_pos h1, ln_get (by omega), if_neg (by omega)]
  · rw [if_neg h1, ln_get (by omega), if_pos (by omega), show off + j + 1 = off + (j + 1) by omega]
/-- the class' insert, where it may -/
theorem k_insert {r : Nat} {x : Int} {v k : Nat} {I : IM} {K : Option AV → IM → Prop} (hr : isRd r) (hv : v < 4) (hs : 0 ≤ I (r + 1) v ∧ I (r + 1) v < 12) (hk : (k : Int) ≤ I (r + 1) v) (h : K none (iup (insM I (r + 3 + v) 0 (I (r + 1) v).toNat k x) (r + 1) v (I (r + 1) v + 1))) : CALL S0 45 [vR r, vI x, vI v, vI k] I K := by
  refine e45 hr ?_
  unfold D45_0
  rw [Int.toNat_natCast]
  refine ⟨by omega, ?_⟩
  rw [if_neg (by omega), if_neg (by omega), if_pos hk]
  obtain ⟨n, hn⟩ : ∃ n : Nat, I (r + 1) v = n := ⟨(I (r + 1) v).toNat, by omega⟩
  have hne : r + 1 ≠ r + 3 + v := by omega
  rw [hn] at h hs hk ⊢
  rw [Int.toNat_natCast] at h
  have key : ∀ d : Nat, k + d ≤ n → GO S0 45 42 [vR r, vI x, vI (v : Int), vI (k : Int), vR (r + 3 + v), vI ((k + d : Nat) : Int)] [] (shU I (r + 3 + v) 0 (k + d) n) K := by
    intro d
    induction d with
    | zero =>
      intro hd
      refine g45_42 r hr _ _ _ _ _ (rd_3 hr hv) _ K ?_
      unfold D45_42 inR
      rw [if_pos (by omega)]
      refine ⟨by omega, fun I3 e3 => ?_⟩
      have e4 : I3 (r + 1) v = n := by
        rw [e3, iup_ne (Or.inl hne), shU_ne hne, hn]
      rw [Int.toNat_natCast, e4]
      refine ⟨by omega, by omega, fun I6 e6 => ?_⟩
      rw [e6, e3, Int.toNat_natCast]
      have e5 : insM I (r + 3 + v) 0 n k x = iup (shU I (r + 3 + v) 0 k n) (r + 3 + v) k x := by unfold insM; rw [Nat.zero_add]
      rw [e5] at h
      exact h
    | succ d ih =>
      intro hd
      refine g45_42 r hr _ _ _ _ _ (rd_3 hr hv) _ K ?_
      unfold D45_42 inR
      rw [if_neg (by omega)]
      refine ⟨by omega, by omega, by omega, fun I10 e10 => ⟨by omega, ?_⟩⟩
      have e1 : I10 = shU I (r + 3 + v) 0 (k + d) n := by
        rw [e10, show (((k + (d + 1) : Nat) : Int)).toNat = 0 + (k + d) + 1 by omega, show (((k + (d + 1) : Nat) : Int) - 1).toNat = 0 + (k + d) by omega, shU_lo (by omega)]
        exact shU_s (a := k + d) (b := n) (by omega)
      rw [e1, show ((k + (d + 1) : Nat) : Int) + (-1) = ((k + d : Nat) : Int) by omega]
      exact ih (by omega)
  have := key (n - k) (by omega)
  rw [show k + (n - k) = n by omega, shU_0] at this
  exact this
/-- the model's putsIn -/
theorem m_putsIn {q : Nat} {x : Int} {v k : Nat} {I : IM} {K : Option AV → IM → Prop} (hq : S0[q]? = some (100, 52, [])) (hv : v < 4) (hs : 0 ≤ I q (13 * v) ∧ I q (13 * v) < 12) (hk : (k : Int) ≤ I q (13 * v)) (h : K none (iup (insM I q (13 * v + 1) (I q (13 * v)).toNat k x) q (13 * v) (I q (13 * v) + 1))) : CALL S0 157 [vR q, vI v, vI k, vI x] I K := by
  refine e157 hq ?_
  unfold D157_0 inR
  rw [show (13 * (v : Int)).toNat = 13 * v by omega]
  refine ⟨by omega, by omega, ?_⟩
  obtain ⟨n, hn⟩ : ∃ n : Nat, I q (13 * v) = n := ⟨(I q (13 * v)).toNat, by omega⟩
  rw [hn] at h hs hk ⊢
  rw [Int.toNat_natCast] at h
  have key : ∀ d : Nat, k + d ≤ n → GO S0 157 8 [vR q, vI (v : Int), vI (k : Int), vI x, vI ((k + d : Nat) : Int)] [] (shU I q (13 * v + 1) (k + d) n) K := by
    intro d
    induction d with
    | zero =>
      intro hd
      refine g157_8 q _ _ _ _ hq _ K ?_
      unfold D157_8 inR
      rw [if_pos (by omega)]
      refine ⟨by omega, by omega, by omega, by omega, fun I6 e6 => ?_⟩
      have e4 : I6 q (13 * (v : Int)).toNat = n := by
        rw [show (13 * (v : Int)).toNat = 13 * v by omega, e6, show (13 * (v : Int) + 1 + (k : Int)).toNat = 13 * v + 1 + k by omega, iup_ne (Or.inr (by omega)), shU_lo (by omega), hn]
      rw [e4]
      refine ⟨by omega, by omega, fun I9 e9 => ?_⟩
      rw [e9, e6, show (13 * (v : Int)).toNat = 13 * v by omega, show (13 * (v : Int) + 1 + (k : Int)).toNat = 13 * v + 1 + k by omega]
      exact h
    | succ d ih =>
      intro hd
      refine g157_8 q _ _ _ _ hq _ K ?_
      unfold D157_8 inR
      rw [if_neg (by omega)]
      refine ⟨by omega, by omega, by omega, by omega, by omega, by omega, fun I10 e10 => ⟨by omega, ?_⟩⟩
      have e1 : I10 = shU I q (13 * v + 1) (k + d) n := by
        rw [e10, show (13 * (v : Int) + 1 + ((k + (d + 1) : Nat) : Int)).toNat = 13 * v + 1 + (k + d) + 1 by omega, show (13 * (v : Int) + ((k + (d + 1) : Nat) : Int)).toNat = 13 * v + 1 + (k + d) by omega, shU_lo (by omega)]
        exact shU_s (a := k + d) (b := n) (by omega)
      rw [e1, show ((k + (d + 1) : Nat) : Int) + (-1) = ((k + d : Nat) : Int) by omega]
      exact ih (by omega)
  have := key (n - k) (by omega)
  rw [show k + (n - k) = n by omega, shU_0] at this
  exact this
/-- the model's takesOut -/
theorem m_takesOut {q : Nat} {v k : Nat} {I : IM} {K : Option AV → IM → Prop} (hq : S0[q]? = some (100, 52, [])) (hv : v < 4) (hs : I q (13 * v) ≤ 12) (hk : (k : Int) < I q (13 * v)) (h : K none (shD (iup I q (13 * v) (I q (13 * v) - 1)) q (13 * v + 1) k ((I q (13 * v)).toNat - 1))) : CALL S0 207 [vR q, vI v, vI k] I K := by
  refine e207 hq ?_
  unfold D207_0 inR
  rw [show (13 * (v : Int)).toNat = 13 * v by omega]
  refine ⟨by omega, by omega, by omega, fun I4 e4 => ?_⟩
  rw [← e4] at h
  obtain ⟨n, hn⟩ : ∃ n : Nat, I q (13 * v) = n + 1 := ⟨(I q (13 * v)).toNat - 1, by omega⟩
  rw [hn, show ((n : Int) + 1).toNat - 1 = n by omega] at h
  have h4 : I4 q (13 * v) = n := by rw [e4, iup_same, hn]; omega
  have key : ∀ d : Nat, d ≤ n - k → GO S0 207 12 [vR q, vI (v : Int), vI (k : Int), vI ((n - d : Nat) : Int)] [] (shD I4 q (13 * v + 1) k (n - d)) K := by
    intro d
    induction d with
    | zero =>
      intro hd
      refine g207_12 q _ _ _ hq _ K ?_
      unfold D207_12 inR
      rw [show (13 * (v : Int)).toNat = 13 * v by omega, show shD I4 q (13 * v + 1) k (n - 0) q (13 * v) = I4 q (13 * v) from if_neg (by omega), h4, if_pos (by omega)]
      exact ⟨by omega, by omega, h⟩
    | succ d ih =>
      intro hd
      refine g207_12 q _ _ _ hq _ K ?_
      unfold D207_12 inR
      rw [show (13 * (v : Int)).toNat = 13 * v by omega, show shD I4 q (13 * v + 1) k (n - (d + 1)) q (13 * v) = I4 q (13 * v) from if_neg (by omega), h4, if_neg (by omega)]
      refine ⟨by omega, by omega, by omega, by omega, by omega, by omega, by omega, by omega, fun I10 e10 => ⟨by omega, ?_⟩⟩
      have e1 : I10 = shD I4 q (13 * v + 1) k (n - d) := by
        rw [e10, show (13 * (v : Int) + 1 + ((n - (d + 1) : Nat) : Int)).toNat = 13 * v + 1 + (n - (d + 1)) by omega, show (13 * (v : Int) + 2 + ((n - (d + 1) : Nat) : Int)).toNat = 13 * v + 1 + (n - (d + 1)) + 1 by omega, shD_hi (by omega), show n - d = n - (d + 1) + 1 by omega]
        exact shD_s (by omega)
      rw [e1, show ((n - (d + 1) : Nat) : Int) + 1 = ((n - d : Nat) : Int) by omega]
      exact ih (by omega)
  have := key (n - k) (Nat.le_refl _)
  rw [show n - (n - k) = k by omega, shD_0] at this
  exact this
