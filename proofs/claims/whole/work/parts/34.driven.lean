/-! level 2: the model's driving -/
def lvs (G : Nat → Int) (v : Nat) (N : Nat → Int) (s : Int) : Nat → Int
  | 0 => s + nw G 4 (N 0)
  | k + 1 => (if lvs G v N s k + wy G (N k) (N (k + 1)) < opn G v (N (k + 1)) then opn G v (N (k + 1)) else lvs G v N s k + wy G (N k) (N (k + 1))) + nw G 4 (N (k + 1))
def cms (G : Nat → Int) (v : Nat) (N : Nat → Int) (s : Int) : Nat → Int
  | 0 => s
  | k + 1 => lvs G v N s k + wy G (N k) (N (k + 1))
def bgs (G : Nat → Int) (v : Nat) (N : Nat → Int) (s : Int) : Nat → Int
  | 0 => s
  | k + 1 => if cms G v N s (k + 1) < opn G v (N (k + 1)) then opn G v (N (k + 1)) else cms G v N s (k + 1)
def ltf (G : Nat → Int) (v : Nat) (N : Nat → Int) (s : Int) : Nat → Int
  | 0 => 0
  | k + 1 => if bgs G v N s (k + 1) ≤ cls G v (N (k + 1)) then ltf G v N s k else 1
def lts (G : Nat → Int) (v : Nat) (N : Nat → Int) (e : Nat) : Nat → Int
  | 0 => cls G v (N e)
  | d + 1 => if lts G v N e d - wy G (N (e - d - 1)) (N (e - d)) - nw G 4 (N (e - d - 1)) < cls G v (N (e - d - 1)) then lts G v N e d - wy G (N (e - d - 1)) (N (e - d)) - nw G 4 (N (e - d - 1)) else cls G v (N (e - d - 1))
def sms (G : Nat → Int) (w : Nat) (N : Nat → Int) : Nat → Int
  | 0 => 0
  | k + 1 => sms G w N k + nw G w (N k)
def drs (G : Nat → Int) (N : Nat → Int) : Nat → Int
  | 0 => 0
  | k + 1 => drs G N k + wy G (N k) (N (k + 1))
def lds (G : Nat → Int) (N : Nat → Int) (n k : Nat) : Int := sms G 5 N n + sms G 6 N k - sms G 5 N k
def tps (G : Nat → Int) (N : Nat → Int) (n : Nat) : Nat → Int
  | 0 => sms G 5 N n
  | k + 1 => if tps G N n k < lds G N n (k + 1) then lds G N n (k + 1) else tps G N n k
def hrs (G : Nat → Int) (v : Nat) (N : Nat → Int) (n : Nat) (w : Int) : Int :=
  if w = 2 then lts G v N (n - 1) (n - 1)
  else if w = 0 then (if lvs G v N (opn G v (N 0)) (n - 1) - lts G v N (n - 1) (n - 1) ≤ drs G N (n - 1) + sms G 4 N n then drs G N (n - 1) + sms G 4 N n else lvs G v N (opn G v (N 0)) (n - 1) - lts G v N (n - 1) (n - 1))
  else (if lvs G v N (opn G v (N 0)) (n - 1) - lts G v N (n - 1) (n - 1) ≤ drs G N (n - 1) + sms G 4 N n then (if opn G v (N 0) < lvs G v N (opn G v (N 0)) (n - 1) - (drs G N (n - 1) + sms G 4 N n) then lvs G v N (opn G v (N 0)) (n - 1) - (drs G N (n - 1) + sms G 4 N n) else opn G v (N 0)) else lts G v N (n - 1) (n - 1))
def tld (G : Nat → Int) (v : Nat) (N : Nat → Int) (n : Nat) (w : Int) : Int := if w = 3 then drs G N (n - 1) else if w = 4 then sms G 5 N n else if w = 5 then sms G 6 N n else if w = 6 then tps G N n n else hrs G v N n w
def okN (N : Nat → Int) (n : Nat) : Prop := ∀ k, k < n → N k < 12
theorem lvs_b {G : Nat → Int} {v : Nat} {N : Nat → Int} {s : Int} (hG : GR G) (hv : v < 4) (hs : 0 ≤ s ∧ s ≤ 999) : ∀ k, okN N (k + 1) → 0 ≤ lvs G v N s k ∧ lvs G v N s k ≤ 1200 + 2000 * (k : Int)
  | 0, h => by
    have := nw_b hG (w := 4) (by omega) (h 0 (by omega))
    unfold lvs
    omega
  | k + 1, h => by
    have h1 := lvs_b hG hv hs k (fun i hi => h i (by omega))
    have h2 := nw_b hG (w := 4) (by omega) (h (k + 1) (by omega))
    have h3 := opn_b hG hv (h (k + 1) (by omega))
    have h4 := wy_b hG (h k (by omega)) (h (k + 1) (by omega))
    unfold lvs
    split <;> omega
theorem bgs_b {G : Nat → Int} {v : Nat} {N : Nat → Int} {s : Int} (hG : GR G) (hv : v < 4) (hs : 0 ≤ s ∧ s ≤ 999) (k : Nat) (h : okN N (k + 1)) : 0 ≤ bgs G v N s k ∧ bgs G v N s k ≤ lvs G v N s k ∧ lvs G v N s k = bgs G v N s k + nw G 4 (N k) := by
  have h2 := nw_b hG (w := 4) (by omega) (h k (by omega))
  cases k with
  | zero =>
    rw [show bgs G v N s 0 = s from rfl, show lvs G v N s 0 = s + nw G 4 (N 0) from rfl]
    omega
  | succ k =>
    have h1 := lvs_b hG hv hs k (fun i hi => h i (by omega))
    have h4 := wy_b hG (h k (by omega)) (h (k + 1) (by omega))
    have h3 := opn_b hG hv (h (k + 1) (by omega))
    have ec : cms G v N s (k + 1) = lvs G v N s k + wy G (N k) (N (k + 1)) := rfl
    rw [show bgs G v N s (k + 1) = if cms G v N s (k + 1) < opn G v (N (k + 1)) then opn G v (N (k + 1)) else cms G v N s (k + 1) from rfl, show lvs G v N s (k + 1) = (if cms G v N s (k + 1) < opn G v (N (k + 1)) then opn G v (N (k + 1)) else cms G v N s (k + 1)) + nw G 4 (N (k + 1)) from rfl]
    split <;> omega
theorem lts_b {G : Nat → Int} {v : Nat} {N : Nat → Int} {e : Nat} (hG : GR G) (hv : v < 4) (h : okN N (e + 1)) : ∀ d, d ≤ e → -2000 * (d : Int) ≤ lts G v N e d ∧ lts G v N e d ≤ 999
  | 0, _ => by
    have := opn_b hG hv (h e (by omega))
    unfold lts
    omega
  | d + 1, hd => by
    have h1 := lts_b hG hv h d (by omega)
    have h2 := nw_b hG (w := 4) (by omega) (h (e - d - 1) (by omega))
    have h3 := opn_b hG hv (h (e - d - 1) (by omega))
    have h4 := wy_b hG (h (e - d - 1) (by omega)) (h (e - d) (by omega))
    unfold lts
    split <;> omega
theorem sms_b {G : Nat → Int} {w : Nat} (hw : 4 ≤ w ∧ w < 7) {N : Nat → Int} (hG : GR G) : ∀ k, okN N k → 0 ≤ sms G w N k ∧ sms G w N k ≤ 60 * (k : Int)
  | 0, _ => by unfold sms; omega
  | k + 1, h => by
    have h1 := sms_b hw hG k (fun i hi => h i (by omega))
    have h2 := nw_b hG hw (h k (by omega))
    unfold sms
    omega
theorem drs_b {G : Nat → Int} {N : Nat → Int} (hG : GR G) : ∀ k, okN N (k + 1) → 0 ≤ drs G N k ∧ drs G N k ≤ 80 * (k : Int)
  | 0, _ => by unfold drs; omega
  | k + 1, h => by
    have h1 := drs_b hG k (fun i hi => h i (by omega))
    have h4 := wy_b hG (h k (by omega)) (h (k + 1) (by omega))
    unfold drs
    omega
theorem tps_b {G : Nat → Int} {N : Nat → Int} {n : Nat} (hG : GR G) (h : okN N n) : ∀ k, k ≤ n → 0 ≤ tps G N n k ∧ tps G N n k ≤ 120 * (n : Int)
  | 0, _ => by
    have h1 := sms_b (w := 5) (by omega) hG n h
    unfold tps
    omega
  | k + 1, hk => by
    have h1 := tps_b hG h k (by omega)
    have h2 := sms_b (w := 5) (by omega) hG n h
    have h3 := sms_b (w := 6) (by omega) hG (k + 1) (fun i hi => h i (by omega))
    have h4 := sms_b (w := 5) (by omega) hG (k + 1) (fun i hi => h i (by omega))
    unfold tps lds
    split <;> omega
theorem m_sumOf {w : Nat} (hw : 4 ≤ w ∧ w < 7) {N : Nat → Int} {n : Nat} {I : IM} {K : Option AV → IM → Prop} (hG : GR (I 238)) (hn : n ≤ 14) (hN : ND I N n) (hk : okN N n) (h : K (some (vI (sms (I 238) w N n))) I) : CALL S0 169 [vR 237, vI (w : Int)] I K := by
  refine e169 ?_
  unfold D169_0
  have key : ∀ j k : Nat, k + j = n → GO S0 169 4 [vR 237, vI (w : Int), vI (sms (I 238) w N k), vI (k : Int)] [] I K := by
    intro j
    induction j with
    | zero =>
      intro k e
      refine g169_4 _ _ _ I K ?_
      unfold D169_4
      rw [hN.1, if_pos (by omega)]
      rw [show k = n by omega]
      exact h
    | succ j ih =>
      intro k e
      refine g169_4 _ _ _ I K ?_
      unfold D169_4 inR
      have h1 := sms_b hw hG k (fun i hi => hk i (by omega))
      have h2 := nw_b hG hw (hk k (by omega))
      have h3 := hk k (by omega)
      have := ih (k + 1) (by omega)
      rw [hN.1, if_neg (by omega), Int.toNat_natCast, hN.2 k (by omega)]
      refine ⟨by omega, ?_⟩
      unfold sms at this
      unfold nw at this h2
      split
      · rename_i c
        rw [if_pos c] at this h2
        refine m_ofOrder (x1 := N k) (x2 := (w : Int)) (by omega) (by omega) ⟨_, rfl, ?_⟩
        rw [Int.toNat_natCast]
        exact ⟨by omega, by omega, this⟩
      · rename_i c
        rw [if_neg c] at this h2
        exact ⟨by omega, by omega, this⟩
  exact key n 0 (by omega)
theorem m_driveOf {N : Nat → Int} {n : Nat} {I : IM} {K : Option AV → IM → Prop} (hG : GR (I 238)) (hn : 1 ≤ n ∧ n ≤ 14) (hN : ND I N n) (hk : okN N n) (h : K (some (vI (drs (I 238) N (n - 1)))) I) : CALL S0 190 [vR 237] I K := by
  refine e190 ?_
  unfold D190_0
  have key : ∀ j k : Nat, k + 1 + j = n → GO S0 190 4 [vR 237, vI (drs (I 238) N k), vI ((k : Int) + 1)] [] I K := by
    intro j
    induction j with
    | zero =>
      intro k e
      refine g190_4 _ _ I K ?_
      unfold D190_4
      rw [hN.1, if_pos (by omega)]
      rw [show n - 1 = k by omega] at h
      exact h
    | succ j ih =>
      intro k e
      refine g190_4 _ _ I K ?_
      unfold D190_4 inR
      have h1 := drs_b hG k (fun i hi => hk i (by omega))
      have h2 := wy_b hG (hk k (by omega)) (hk (k + 1) (by omega))
      have := ih (k + 1) (by omega)
      rw [hN.1, if_neg (by omega), show ((k : Int) + 1 - 1).toNat = k by omega, show ((k : Int) + 1).toNat = k + 1 by omega, hN.2 k (by omega), hN.2 (k + 1) (by omega)]
      refine ⟨by omega, by omega, by omega, m_wayOf hG (hk k (by omega)) (hk (k + 1) (by omega)) ⟨_, rfl, by omega, by omega, ?_⟩⟩
      exact this
  exact key (n - 1) 0 (by omega)
theorem m_topOf {N : Nat → Int} {n : Nat} {I : IM} {K : Option AV → IM → Prop} (hG : GR (I 238)) (hn : n ≤ 14) (hN : ND I N n) (hk : okN N n) (h : K (some (vI (tps (I 238) N n n))) I) : CALL S0 168 [vR 237] I K := by
  refine e168 ?_
  unfold D168_0
  refine m_sumOf (w := 5) (by omega) hG hn hN hk ⟨_, rfl, ?_⟩
  have key : ∀ j k : Nat, k + j = n → GO S0 168 10 [vR 237, vI (lds (I 238) N n k), vI (tps (I 238) N n k), vI (k : Int)] [] I K := by
    intro j
    induction j with
    | zero =>
      intro k e
      refine g168_10 _ _ _ I K ?_
      unfold D168_10
      rw [hN.1, if_pos (by omega)]
      rw [show k = n by omega]
      exact h
    | succ j ih =>
      intro k e
      refine g168_10 _ _ _ I K ?_
      unfold D168_10
      have h1 := tps_b hG hk k (by omega)
      have h2 := sms_b (w := 5) (by omega) hG n hk
      have h3 := sms_b (w := 6) (by omega) hG k (fun i hi => hk i (by omega))
      have h4 := sms_b (w := 5) (by omega) hG k (fun i hi => hk i (by omega))
      have h5 := nw_b hG (w := 5) (by omega) (hk k (by omega))
      have h6 := nw_b hG (w := 6) (by omega) (hk k (by omega))
      have h7 := hk k (by omega)
      have e1 : lds (I 238) N n (k + 1) = lds (I 238) N n k + (nw (I 238) 6 (N k) - nw (I 238) 5 (N k)) := by
        unfold lds
        rw [show sms (I 238) 6 N (k + 1) = sms (I 238) 6 N k + nw (I 238) 6 (N k) from rfl, show sms (I 238) 5 N (k + 1) = sms (I 238) 5 N k + nw (I 238) 5 (N k) from rfl]
        omega
      have := ih (k + 1) (by omega)
      rw [show tps (I 238) N n (k + 1) = if tps (I 238) N n k < lds (I 238) N n (k + 1) then lds (I 238) N n (k + 1) else tps (I 238) N n k from rfl, e1] at this
      have e2 : lds (I 238) N n k = sms (I 238) 5 N n + sms (I 238) 6 N k - sms (I 238) 5 N k := rfl
      rw [hN.1, if_neg (by omega), Int.toNat_natCast, hN.2 k (by omega)]
      refine ⟨by omega, ?_⟩
      have fin : D168_56 (lds (I 238) N n k) (tps (I 238) N n k) (k : Int) (lds (I 238) N n k) (nw (I 238) 6 (N k) - nw (I 238) 5 (N k)) I K := by
        unfold D168_56 inR
        exact ⟨by omega, by omega, this⟩
      split
      · rename_i c
        refine m_ofOrder (x1 := N k) (x2 := 6) (by omega) (by omega) ⟨_, rfl, ?_⟩
        rw [hN.2 k (by omega)]
        refine m_ofOrder (x1 := N k) (x2 := 5) (by omega) (by omega) ⟨_, rfl, ?_⟩
        unfold nw at fin h5 h6
        simp only [if_pos c] at fin h5 h6
        refine ⟨?_, fin⟩
        show -2147483648 ≤ I 238 (6 + 8 * (N k).toNat + 6) - I 238 (6 + 8 * (N k).toNat + 5) ∧ I 238 (6 + 8 * (N k).toNat + 6) - I 238 (6 + 8 * (N k).toNat + 5) ≤ 2147483647
        omega
      · rename_i c
        unfold nw at fin
        simp only [if_neg c] at fin
        exact fin
  have k0 := key n 0 (by omega)
  rw [show lds (I 238) N n 0 = sms (I 238) 5 N n by unfold lds; rw [show sms (I 238) 6 N 0 = 0 from rfl, show sms (I 238) 5 N 0 = 0 from rfl]; omega] at k0
  exact k0
theorem m_latestOf {v : Nat} (hv : v < 4) {N : Nat → Int} {n k : Nat} {I : IM} {K : Option AV → IM → Prop} (hG : GR (I 238)) (hn : 1 ≤ n ∧ n ≤ 14) (hN : ND I N n) (hk : okN N n) (hkn : k < n) (h : K (some (vI (lts (I 238) v N (n - 1) (n - 1 - k)))) I) : CALL S0 186 [vR 237, vI (v : Int), vI (k : Int)] I K := by
  refine e186 ?_
  unfold D186_0 inR
  rw [hN.1, show ((n : Int) - 1).toNat = n - 1 by omega, hN.2 (n - 1) (by omega)]
  refine ⟨by omega, by omega, m_closeOf hv (hk _ (by omega)) ⟨_, rfl, ?_⟩⟩
  rw [hN.1]
  refine ⟨by omega, ?_⟩
  have key : ∀ j d : Nat, d + j = n - 1 - k → GO S0 186 25 [vR 237, vI (v : Int), vI (k : Int), vI (lts (I 238) v N (n - 1) d), vI ((n : Int) - 2 - d)] [] I K := by
    intro j
    induction j with
    | zero =>
      intro d e
      refine g186_25 _ _ _ _ I K ?_
      unfold D186_25
      rw [if_pos (by omega), show d = n - 1 - k by omega]
      exact h
    | succ j ih =>
      intro d e
      refine g186_25 _ _ _ _ I K ?_
      unfold D186_25 inR
      have h1 := lts_b hG hv (e := n - 1) (N := N) (fun i hi => hk i (by omega)) d (by omega)
      have h2 := wy_b hG (hk (n - 1 - d - 1) (by omega)) (hk (n - 1 - d) (by omega))
      have h3 := nw_b hG (w := 4) (by omega) (hk (n - 1 - d - 1) (by omega))
      have := ih (d + 1) (by omega)
      rw [if_neg (by omega), show ((n : Int) - 2 - d).toNat = n - 1 - d - 1 by omega, show ((n : Int) - 2 - d + 1).toNat = n - 1 - d by omega, hN.2 (n - 1 - d - 1) (by omega)]
      refine ⟨by omega, m_closeOf hv (hk _ (by omega)) ⟨_, rfl, by omega, by omega, ?_⟩⟩
      rw [hN.2 (n - 1 - d - 1) (by omega), hN.2 (n - 1 - d) (by omega)]
      refine m_wayOf hG (hk _ (by omega)) (hk _ (by omega)) ⟨_, rfl, by omega, ?_⟩
      rw [hN.2 (n - 1 - d - 1) (by omega)]
      refine m_serviceOf (hk _ (by omega)) ⟨_, rfl, by omega, by omega, ?_⟩
      rw [show (n : Int) - 2 - ((d + 1 : Nat) : Int) = (n : Int) - 2 - d + (-1) by omega] at this
      exact this
  have k0 := key (n - 1 - k) 0 (by omega)
  rw [show (n : Int) - 2 - ((0 : Nat) : Int) = (n : Int) - 2 by omega] at k0
  exact k0
