/-! level 2: the start, run once -/
def g00 (k : Nat) : Int := if k = 2 then 1 else if 102 ≤ k ∧ k < 114 then (if (k - 102) % 3 = 0 then 100 else if (k - 102) % 3 = 2 then 600 else 0) else 0
def chkI (I : IM) : Bool := (List.range 24).all (fun o => (List.range 13).all (fun k => decide (I o k = 0))) && (List.range 4).all (fun v => decide (I 25 v = 100 ∧ I 26 v = 0 ∧ I 27 v = 600 ∧ I 30 v = 0 ∧ I 236 v = -11 ∧ I 250 v = -1)) && decide (I 28 0 = 1 ∧ I 28 1 = 0 ∧ I 28 2 = 0) && (List.range 166).all (fun k => decide (I 238 k = g00 k)) && decide (I 237 2 = 0 ∧ I 237 4 = 0 ∧ I 237 16 = 0 ∧ I 237 18 = 0 ∧ I 78 1 = 0 ∧ I 78 2 = 0 ∧ I 208 1 = 0 ∧ I 210 1 = 0)
def chkS : Bool := match arunU 0 400 0 [vR 1000, vU, vU, vU] [] ((fun _ _ => 0), []) with
  | some (ls, st, (I, S)) => decide (ls = [vR 1000, vR 0, vR 237, vI 0]) && decide (st = []) && decide (S = S0) && chkI I
  | none => false
theorem chk_ok : chkS = true := by decide +kernel
