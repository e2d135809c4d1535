/-! level 2: the class' judge drives a round by pieces -/
theorem bkt {I : IM} {G : Nat → Int} (h : BK I G) (hG : GR G) {p x : Nat} (hp : p < 13) (hx : x < 13) : (0 ≤ I (11 + p) x ∧ I (11 + p) x ≤ 80) ∧ (0 ≤ I 4 x ∧ I 4 x ≤ 600) ∧ (0 ≤ I 6 x ∧ I 6 x ≤ 60) ∧ (0 ≤ I 7 x ∧ I 7 x ≤ 60) ∧ (0 ≤ I 8 x ∧ I 8 x ≤ 60) := by
  have hd : ∀ a, dc a < 12 := fun a => by unfold dc; split <;> omega
  have e1 : I (11 + p) x = wy G (dc p) (dc x) := h.2.2.2.2.1 p x hp hx
  refine ⟨by rw [e1]; exact wy_b hG (hd p) (hd x), ?_⟩
  by_cases c : x < 12
  · have b := hG.2.1 x c
    have e2 : I 4 x = G (6 + 8 * x + 2) := h.2.1 x c 2 (by omega)
    have e4 : I 6 x = G (6 + 8 * x + 4) := h.2.1 x c 4 (by omega)
    have e5 : I 7 x = G (6 + 8 * x + 5) := h.2.1 x c 5 (by omega)
    have e6 : I 8 x = G (6 + 8 * x + 6) := h.2.1 x c 6 (by omega)
    rw [e2, e4, e5, e6]
    omega
  · rw [show x = 12 by omega]
    have := h.2.2.2.1
    rw [show I 4 12 = 0 from this.1, show I 6 12 = 0 from this.2.1, show I 7 12 = 0 from this.2.2.1, show I 8 12 = 0 from this.2.2.2]
    omega
theorem k_goOnP {x1 x2 b : Int} {G : Nat → Int} {I : IM} {K : Option AV → IM → Prop} (hG : GR G) (hB : BK I G) (hx : 0 ≤ x1 ∧ x1 < 13) (hc : 0 ≤ x2 ∧ x2 ≤ 999) (hw : PW I b) (hb : b ≤ 500000)
    (h : ∀ I' W O Sv Dn Up, W = I (11 + (I 192 1).toNat) x1.toNat → O = I 4 x1.toNat → Sv = I 6 x1.toNat → Dn = I 7 x1.toNat → Up = I 8 x1.toNat → FP I I' → PW I' (b + 5000) → I' 192 1 = x1 → I' 192 9 = (if I 192 2 + (I 192 6 + W) ≤ x2 then I 192 9 else 0) →
      ((0 < O - (I 192 6 + W) - I 192 3 ∧ I' 192 2 = I 192 3 ∧ I' 192 3 = I 192 3 ∧ I' 192 6 = O - I 192 3 + Sv) ∨
       (O - (I 192 6 + W) - I 192 3 ≤ 0 ∧ ((O - (I 192 6 + W) ≤ I 192 2 ∧ I' 192 2 = I 192 2) ∨ (I 192 2 < O - (I 192 6 + W) ∧ I' 192 2 = O - (I 192 6 + W))) ∧ ((I 192 3 ≤ x2 - (I 192 6 + W) ∧ I' 192 3 = I 192 3) ∨ (x2 - (I 192 6 + W) < I 192 3 ∧ I' 192 3 = x2 - (I 192 6 + W))) ∧ I' 192 6 = I 192 6 + W + Sv)) →
      I' 192 7 = I 192 7 + W → I' 192 4 = I 192 4 + Dn → I' 192 5 = I 192 5 + Up →
      ((I' 192 8 = I 192 8 + Dn ∨ I' 192 8 = I 192 5 + Dn ∨ I' 192 8 = I 192 5 + Up) ∧ I 192 8 + Dn ≤ I' 192 8 ∧ I 192 5 + Dn ≤ I' 192 8 ∧ I 192 5 + Up ≤ I' 192 8) → K none I') : CALL S0 50 [vR 192, vI x1, vI x2] I K := by
  have t := bkt hB hG (p := (I 192 1).toNat) (x := x1.toNat) (by have := hw.1; omega) (by omega)
  unfold PW at hw
  refine k_goOn hx (by omega) (by unfold bd; omega) (by unfold bd; omega) fun I' f a1 a9 a6 a7 a4 a5 a8 => ?_
  refine h I' _ _ _ _ _ rfl rfl rfl rfl rfl f ?_ a1 a9 a6 a7 a4 a5 a8
  unfold PW
  rw [a1]
  generalize I (11 + (I 192 1).toNat) x1.toNat = W at *
  generalize I 4 x1.toNat = O at *
  generalize I 6 x1.toNat = Sv at *
  generalize I 7 x1.toNat = Dn at *
  generalize I 8 x1.toNat = Up at *
  clear a9
  refine ⟨hx, by omega, by omega, by omega, by omega, by omega, by omega, by omega⟩
/-- after the nodes up to k: the piece tells of them, or it was late -/
def ST (J : IM) (G : Nat → Int) (v : Nat) (N : Nat → Int) (k : Nat) (b : Int) : Prop := (ltf G v N (opn G v (N 0)) k = 0 ∧ PI J G v N k) ∨ (ltf G v N (opn G v (N 0)) k = 1 ∧ J 192 9 = 0 ∧ PW J b)
theorem PI_PW {J : IM} {G : Nat → Int} {v : Nat} {N : Nat → Int} {k : Nat} (hG : GR G) (hv : v < 4) (hk : okN N (k + 1)) (h13 : k ≤ 13) (hl : ltf G v N (opn G v (N 0)) k = 0) (h : PI J G v N k) : PW J 10000 := by
  have h1 := it_b hG hv k hk hl
  have h2 := sms_b (w := 5) (by omega) hG (k + 1) hk
  have h3 := sms_b (w := 6) (by omega) hG (k + 1) hk
  have h4 := tps_b hG hk (k + 1) (Nat.le_refl _)
  have h5 := drs_b hG k hk
  have h6 := opn_b hG hv (hk 0 (by omega))
  have h7 := cd_r (hk k (by omega))
  have h8 := sms_b (w := 4) (by omega) hG (k + 1) hk
  have h9 : lfs G v N k ≤ 999 := by
    have : ∀ j, j ≤ k → lfs G v N j ≤ 999 := by
      intro j
      induction j with
      | zero => intro _; exact h6.2.2
      | succ j ih =>
        intro hj
        have := ih (by omega)
        rw [show lfs G v N (j + 1) = if lfs G v N j ≤ cls G v (N (j + 1)) - (drs G N j + sms G 4 N (j + 1) + wy G (N j) (N (j + 1))) then lfs G v N j else cls G v (N (j + 1)) - (drs G N j + sms G 4 N (j + 1) + wy G (N j) (N (j + 1))) from rfl]
        split <;> omega
    exact this k (Nat.le_refl _)
  obtain ⟨p1, _, p7, p4, p5, p8, p3, pr⟩ := h
  unfold PR at pr
  unfold PW
  rw [p1, p7, p4, p5, p8, p3]
  refine ⟨h7, by omega, by omega, by omega, by omega, by omega, by omega, by omega⟩
theorem pr_step {s E B L D A w o O c sv D' A' L' : Int} (pr : PR s E B L D A) (h1 : s ≤ L) (h2 : s + B ≤ E) (h3 : 0 ≤ w) (h4 : o ≤ c) (h5 : 0 ≤ s) (h6 : 0 ≤ B) (h7 : E + w ≤ c) (h8 : 0 ≤ sv) (hO : O = o ∨ (O = 0 ∧ o = s))
    (a : (0 < O - (D + w) - L ∧ A' = L ∧ L' = L ∧ D' = O - L + sv) ∨ (O - (D + w) - L ≤ 0 ∧ ((O - (D + w) ≤ A ∧ A' = A) ∨ (A < O - (D + w) ∧ A' = O - (D + w))) ∧ ((L ≤ c - (D + w) ∧ L' = L) ∨ (c - (D + w) < L ∧ L' = c - (D + w))) ∧ D' = D + w + sv)) :
    L' = (if L ≤ c - (B + w) then L else c - (B + w)) ∧ PR s ((if E + w < o then o else E + w) + sv) (B + w + sv) (if L ≤ c - (B + w) then L else c - (B + w)) D' A' := by
  rcases pr with ⟨p1, p2, p3, p4, p5⟩ | ⟨p1, p2, p3⟩
  · subst p2
    have e1 : (if L ≤ c - (D + w) then L else c - (D + w)) = L' := by
      rcases a with ⟨b1, b2, b3, b4⟩ | ⟨b1, b2, b3, b4⟩
      · rw [if_pos (by omega), b3]
      · rcases b3 with ⟨c1, c2⟩ | ⟨c1, c2⟩
        · rw [if_pos c1, c2]
        · rw [if_neg (by omega), c2]
    rw [e1]
    refine ⟨rfl, ?_⟩
    unfold PR
    rcases a with ⟨b1, b2, b3, b4⟩ | ⟨b1, b2, b3, b4⟩
    · right
      split <;> omega
    · have hL : (L' = L ∨ L' = c - (D + w)) ∧ L' ≤ L ∧ L' ≤ c - (D + w) := by omega
      clear b3 e1
      split
      · left
        refine ⟨by omega, by omega, ?_, by omega, by omega⟩
        rcases b2 with ⟨c1, c2⟩ | ⟨c1, c2⟩
        · omega
        · right; omega
      · left
        refine ⟨by omega, by omega, ?_, by omega, by omega⟩
        omega
  · subst p2
    subst p3
    have e1 : (if A ≤ c - (B + w) then A else c - (B + w)) = A := by rw [if_pos (by omega)]
    rw [e1]
    rcases a with ⟨b1, b2, b3, b4⟩ | ⟨b1, b2, b3, b4⟩
    · refine ⟨b3, ?_⟩
      unfold PR
      right
      split <;> omega
    · have hL : L' = A := by omega
      refine ⟨hL, ?_⟩
      clear b3 e1
      unfold PR
      right
      split <;> omega
theorem k_go1 {G : Nat → Int} {v : Nat} {N : Nat → Int} {k : Nat} {b x c : Int} {J : IM} {K : Option AV → IM → Prop} (hG : GR G) (hv : v < 4) (hk : okN N (k + 2)) (h13 : k + 1 ≤ 13) (hB : BK J G) (hd : N (k + 1) < 0 → N 0 < 0) (hst : ST J G v N k b) (hb : 10000 ≤ b ∧ b ≤ 500000) (hx : x = cd (N (k + 1))) (hc : c = cls G v (N (k + 1))) (h : ∀ J', FP J J' → ST J' G v N (k + 1) (b + 5000) → K none J') : CALL S0 50 [vR 192, vI x, vI c] J K := by
  have hk1 : okN N (k + 1) := fun i hi => hk i (by omega)
  have hx' := cd_r (hk (k + 1) (by omega))
  have hc' := opn_b hG hv (hk (k + 1) (by omega))
  rcases hst with ⟨l0, p⟩ | ⟨l1, j9, pw⟩
  · have pw := PI_PW hG hv hk1 (by omega) l0 p
    have it := it_b hG hv k hk1 l0
    have h4 := wy_b hG (hk k (by omega)) (hk (k + 1) (by omega))
    have h2 := nw_b hG (w := 4) (by omega) (hk (k + 1) (by omega))
    have h0 := opn_b hG hv (hk 0 (by omega))
    have tg := @tps_ge G N (k + 1)
    have ts := @tps_s G N (k + 1)
    obtain ⟨p1, p9, p7, p4, p5, p8, p3, pr⟩ := p
    refine k_goOnP hG hB (by omega) (by omega) pw (by omega) fun I' W O Sv Dn Up eW eO eS eD eU f pw' a1 a9 a6 a7 a4 a5 a8 => h I' f ?_
    have eW' : W = wy G (N k) (N (k + 1)) := by
      rw [eW, p1, hx, show 11 + (cd (N k)).toNat = 1 + 10 + (cd (N k)).toNat by omega, hB.2.2.2.2.1 _ _ (by have := cd_r (hk k (by omega)); omega) (by omega), wy_dc (hk k (by omega)) (hk (k + 1) (by omega))]
    have eS' : Sv = nw G 4 (N (k + 1)) := by rw [eS, hx]; exact bk_w hB (w := 4) (by omega) (hk (k + 1) (by omega))
    have eD' : Dn = nw G 5 (N (k + 1)) := by rw [eD, hx]; exact bk_w hB (w := 5) (by omega) (hk (k + 1) (by omega))
    have eU' : Up = nw G 6 (N (k + 1)) := by rw [eU, hx]; exact bk_w hB (w := 6) (by omega) (hk (k + 1) (by omega))
    have eO' : (O = opn G v (N (k + 1))) ∨ (O = 0 ∧ opn G v (N (k + 1)) = opn G v (N 0)) := by
      by_cases z : N (k + 1) < 0
      · right
        refine ⟨by rw [eO, hx]; unfold cd; rw [if_pos z]; exact hB.2.2.2.1.1, ?_⟩
        unfold opn
        rw [if_neg (by omega), if_neg (by have := hd z; omega)]
      · left
        rw [eO, hx]
        unfold cd opn
        rw [if_neg z, if_pos (by omega)]
        exact hB.2.1 _ (by have := hk (k + 1) (by omega); omega) 2 (by omega)
    have s1 : drs G N (k + 1) = drs G N k + wy G (N k) (N (k + 1)) := rfl
    have s2 : sms G 4 N (k + 1 + 1) = sms G 4 N (k + 1) + nw G 4 (N (k + 1)) := rfl
    have s3 : sms G 5 N (k + 1 + 1) = sms G 5 N (k + 1) + nw G 5 (N (k + 1)) := rfl
    have s4 : sms G 6 N (k + 1 + 1) = sms G 6 N (k + 1) + nw G 6 (N (k + 1)) := rfl
    have s5 : lfs G v N (k + 1) = if lfs G v N k ≤ cls G v (N (k + 1)) - (drs G N k + sms G 4 N (k + 1) + wy G (N k) (N (k + 1))) then lfs G v N k else cls G v (N (k + 1)) - (drs G N k + sms G 4 N (k + 1) + wy G (N k) (N (k + 1))) := rfl
    have ec : cms G v N (opn G v (N 0)) (k + 1) = lvs G v N (opn G v (N 0)) k + wy G (N k) (N (k + 1)) := rfl
    have eb : bgs G v N (opn G v (N 0)) (k + 1) = if cms G v N (opn G v (N 0)) (k + 1) < opn G v (N (k + 1)) then opn G v (N (k + 1)) else cms G v N (opn G v (N 0)) (k + 1) := rfl
    have el := @bl_s G v N (opn G v (N 0)) (k + 1)
    have ld1 : lds G N (k + 1) (k + 1) = sms G 6 N (k + 1) := by unfold lds; omega
    by_cases lt : bgs G v N (opn G v (N 0)) (k + 1) ≤ cls G v (N (k + 1))
    · left
      refine ⟨ltf_s.mpr ⟨l0, lt⟩, ?_⟩
      have cm : cms G v N (opn G v (N 0)) (k + 1) ≤ cls G v (N (k + 1)) := by
        rw [eb] at lt
        split at lt <;> omega
      have ps := pr_step (w := wy G (N k) (N (k + 1))) (o := opn G v (N (k + 1))) (O := O) (c := cls G v (N (k + 1))) (sv := nw G 4 (N (k + 1))) pr it.1 it.2.1 h4.1 hc'.2.1 h0.1 (by omega) (by omega) h2.1 eO' (by rw [p3, eW', eS'] at a6; rw [hc] at a6; exact a6)
      refine ⟨by rw [a1, hx], ?_, by rw [a7, p7, eW', s1], by rw [a4, p4, eD', s3], by rw [a5, p5, eU', s4], ?_, ?_, ?_⟩
      · rw [a9, if_pos ?_, p9]
        have : I' 192 2 = I' 192 2 := rfl
        unfold PR at pr
        clear a6 ps eO' tg ts
        omega
      · rw [ts]
        rw [p8, p5] at a8
        split <;> omega
      · rw [s5]
        exact ps.1
      · rw [s1, s2, s5, el, eb, show drs G N k + wy G (N k) (N (k + 1)) + (sms G 4 N (k + 1) + nw G 4 (N (k + 1))) = drs G N k + sms G 4 N (k + 1) + wy G (N k) (N (k + 1)) + nw G 4 (N (k + 1)) by omega]
        exact ps.2
    · right
      refine ⟨?_, ?_, ?_⟩
      · rcases @ltf_01 G v N (opn G v (N 0)) (k + 1) with z | z
        · exact absurd (ltf_s.mp z).2 lt
        · exact z
      · rw [a9, if_neg ?_]
        have cm : ¬ cms G v N (opn G v (N 0)) (k + 1) ≤ cls G v (N (k + 1)) := by
          rw [eb] at lt
          split at lt <;> omega
        unfold PR at pr
        clear a6 eO' tg ts
        omega
      · unfold PW at pw' ⊢
        clear a6 a8 eO' pr
        refine ⟨pw'.1, by omega, by omega, by omega, by omega, by omega, by omega, by omega⟩
  · refine k_goOnP hG hB (by omega) (by omega) pw (by omega) fun I' W O Sv Dn Up eW eO eS eD eU f pw' a1 a9 a6 a7 a4 a5 a8 => h I' f (Or.inr ⟨?_, ?_, pw'⟩)
    · rcases @ltf_01 G v N (opn G v (N 0)) (k + 1) with z | z
      · have := (ltf_s.mp z).1
        omega
      · exact z
    · rw [a9, j9]
      split <;> rfl
