/-! level 2: rounds as lists, no memory: the low numbers, one out, one in -/
theorem ag_lo {G G' : Nat → Int} (hG : ∀ k, k < 114 → G' k = G k) {v : Nat} (hv : v < 4) {a : Int} (ha : a < 12) : AG G G' v a := AG_of (fun k => ⟨fun _ _ _ => hG k (by omega), fun _ _ => hG k (by omega)⟩)
theorem drs_ag {G G' : Nat → Int} {v : Nat} {N : Nat → Int} (h : ∀ k, AG G G' v (N k)) : ∀ k, drs G' N k = drs G N k
  | 0 => rfl
  | k + 1 => by
    rw [show drs G' N (k + 1) = drs G' N k + wy G' (N k) (N (k + 1)) from rfl, drs_ag h k, wy_ag (h k) (h (k + 1))]
    rfl
theorem lts_ag {G G' : Nat → Int} {v : Nat} {N : Nat → Int} {e : Nat} (h : ∀ k, AG G G' v (N k)) : ∀ d, lts G' v N e d = lts G v N e d
  | 0 => (h e).2.2.2.1
  | d + 1 => by
    rw [show lts G' v N e (d + 1) = if lts G' v N e d - wy G' (N (e - d - 1)) (N (e - d)) - nw G' 4 (N (e - d - 1)) < cls G' v (N (e - d - 1)) then lts G' v N e d - wy G' (N (e - d - 1)) (N (e - d)) - nw G' 4 (N (e - d - 1)) else cls G' v (N (e - d - 1)) from rfl, lts_ag h d, wy_ag (h _) (h _), (h (e - d - 1)).2.2.2.2.1, (h (e - d - 1)).2.2.2.1]
    rfl
theorem hrs_ag {G G' : Nat → Int} {v n : Nat} {N : Nat → Int} {w : Int} (h : ∀ k, AG G G' v (N k)) : hrs G' v N n w = hrs G v N n w := by
  unfold hrs
  rw [lts_ag h, (h 0).2.2.1, lvs_ag h, drs_ag h, sms_ag (fun k => (h k).2.2.2.2.1)]
theorem gN_lo {L : List Int} (ho : ∀ x ∈ L, 0 ≤ x ∧ x < 12) (k : Nat) : gN L (-1) k < 12 := gN_b ho (k + 1) k (by omega)
theorem csV_lo {G G' : Nat → Int} (hG : ∀ k, k < 114 → G' k = G k) {v : Nat} (hv : v < 4) {L : List Int} (ho : ∀ x ∈ L, 0 ≤ x ∧ x < 12) : csV G' v L = csV G v L := by
  have h : ∀ k, AG G G' v (gN L (-1) k) := fun k => ag_lo hG hv (gN_lo ho k)
  unfold csV
  rw [hG 2 (by omega), hG 3 (by omega), hG 4 (by omega), drs_ag h, hrs_ag h]
theorem pen_lo {G G' : Nat → Int} (hG : ∀ k, k < 114 → G' k = G k) {R : Nat → List Int} : ∀ k, k ≤ 12 → pen G' R k = pen G R k
  | 0, _ => rfl
  | k + 1, hk => by
    unfold pen
    rw [pen_lo hG k (by omega), hG _ (by omega)]
theorem cs4_lo {G G' : Nat → Int} (hG : ∀ k, k < 114 → G' k = G k) {R : Nat → List Int} (ho : ∀ v, v < 4 → ∀ x ∈ R v, 0 ≤ x ∧ x < 12) : ∀ k, k ≤ 4 → cs4 G' R k = cs4 G R k
  | 0, _ => rfl
  | k + 1, hk => by
    unfold cs4
    rw [cs4_lo hG ho k (by omega), csV_lo hG (by omega) (ho k (by omega))]
theorem csA_lo {G G' : Nat → Int} (hG : ∀ k, k < 114 → G' k = G k) (hn : G 5 ≤ 12) {R : Nat → List Int} (ho : ∀ v, v < 4 → ∀ x ∈ R v, 0 ≤ x ∧ x < 12) : csA G' R = csA G R := by
  unfold csA
  rw [cs4_lo hG ho 4 (by omega), hG 5 (by omega), pen_lo hG _ (by omega)]
/-- a good round costs little -/
theorem cs_good {G : Nat → Int} {v : Nat} {L : List Int} (hG : GR G) (hv : v < 4) (ho : ∀ x ∈ L, 0 ≤ x ∧ x < 12) (hg : gdV G v L) : 0 ≤ csV G v L ∧ csV G v L ≤ 30000 := by
  refine ⟨csV_0 hG ho, ?_⟩
  unfold csV
  split
  · omega
  · have ea : opn G v (gN L (-1) 0) = G (103 + 3 * v) := by rw [gN_0]; rfl
    have hk : okN (gN L (-1)) (L.length + 2) := gN_b ho _
    have it := it_b hG hv (L.length + 1) hk (by rw [ea]; exact hg.1)
    have op := opn_b hG hv (hk 0 (by omega))
    have hh : 0 ≤ hrs G v (gN L (-1)) (L.length + 2) 0 ∧ hrs G v (gN L (-1)) (L.length + 2) 0 ≤ 1059 := by
      refine ⟨hrs_0 hG (by omega) hk, ?_⟩
      unfold hrs
      rw [if_neg (by decide), if_pos rfl, show L.length + 2 - 1 = L.length + 1 from rfl, lts_lfs]
      rw [show L.length + 1 + 1 = L.length + 2 from rfl] at it
      split <;> omega
    have b5 := hG.2.2.2.1.2.2
    have b3 := mul_b (n := 1059) hG.2.2.2.1.1 (b := drs G (gN L (-1)) (L.length + 1)) (by omega)
    have b4 := mul_b (n := 1059) hG.2.2.2.1.2.1 (b := hrs G v (gN L (-1)) (L.length + 2) 0) (by omega)
    omega
/-- no way is longer than one by another place -/
theorem wy_tri {G : Nat → Int} {a b c : Int} : wy G a c ≤ wy G a b + wy G b c := by
  have h : ∀ x y z : Int, (if 0 ≤ x - z then x - z else -(x - z)) ≤ (if 0 ≤ x - y then x - y else -(x - y)) + (if 0 ≤ y - z then y - z else -(y - z)) := by
    intro x y z
    split <;> split <;> split <;> omega
  have h1 := h (nx G a) (nx G b) (nx G c)
  have h2 := h (ny G a) (ny G b) (ny G c)
  unfold wy
  omega
theorem er_lo {N N' : Nat → Int} {G : Nat → Int} {v r : Nat} {s : Int} (h1 : ∀ i, i ≤ r → N' i = N i) : ∀ i, i ≤ r → lvs G v N' s i = lvs G v N s i ∧ bgs G v N' s i = bgs G v N s i ∧ ltf G v N' s i = ltf G v N s i
  | 0, _ => by
    refine ⟨?_, rfl, rfl⟩
    rw [show lvs G v N' s 0 = s + nw G 4 (N' 0) from rfl, h1 0 (by omega)]
    rfl
  | i + 1, hi => by
    have ih := er_lo (G := G) (v := v) (s := s) h1 i (by omega)
    have e0 := h1 i (by omega)
    have e1 := h1 (i + 1) hi
    have ec : cms G v N' s (i + 1) = cms G v N s (i + 1) := by
      rw [show cms G v N' s (i + 1) = lvs G v N' s i + wy G (N' i) (N' (i + 1)) from rfl, ih.1, e0, e1]
      rfl
    have eb : bgs G v N' s (i + 1) = bgs G v N s (i + 1) := by
      rw [show bgs G v N' s (i + 1) = if cms G v N' s (i + 1) < opn G v (N' (i + 1)) then opn G v (N' (i + 1)) else cms G v N' s (i + 1) from rfl, ec, e1]
      rfl
    refine ⟨?_, eb, ?_⟩
    · rw [bl_s, eb, e1, ← bl_s]
    · rw [show ltf G v N' s (i + 1) = if bgs G v N' s (i + 1) ≤ cls G v (N' (i + 1)) then ltf G v N' s i else 1 from rfl, eb, e1, ih.2.2]
      rfl
theorem er_hi {N N' : Nat → Int} {G : Nat → Int} {v r : Nat} {s : Int} (hG : GR G) (hN : ∀ i, N i < 12) (h1 : ∀ i, i ≤ r → N' i = N i) (h2 : ∀ i, r < i → N' i = N (i + 1)) : ∀ j, bgs G v N' s (r + 1 + j) ≤ bgs G v N s (r + 1 + j + 1)
  | 0 => by
    have a := (er_lo (G := G) (v := v) (s := s) h1 r (Nat.le_refl _)).1
    have t := wy_tri (G := G) (a := N r) (b := N (r + 1)) (c := N (r + 1 + 1))
    have e1 : cms G v N' s (r + 1) = lvs G v N' s r + wy G (N' r) (N' (r + 1)) := rfl
    have e2 : cms G v N s (r + 1 + 1) = lvs G v N s (r + 1) + wy G (N (r + 1)) (N (r + 1 + 1)) := rfl
    have e3 := @bl_s G v N s (r + 1)
    have e4 : bgs G v N s (r + 1) = if cms G v N s (r + 1) < opn G v (N (r + 1)) then opn G v (N (r + 1)) else cms G v N s (r + 1) := rfl
    have e5 : cms G v N s (r + 1) = lvs G v N s r + wy G (N r) (N (r + 1)) := rfl
    have n4 := nw_b hG (w := 4) (by omega) (hN (r + 1))
    rw [a, h1 r (by omega), h2 (r + 1) (by omega)] at e1
    rw [Nat.add_zero, show bgs G v N' s (r + 1) = if cms G v N' s (r + 1) < opn G v (N' (r + 1)) then opn G v (N' (r + 1)) else cms G v N' s (r + 1) from rfl, show bgs G v N s (r + 1 + 1) = if cms G v N s (r + 1 + 1) < opn G v (N (r + 1 + 1)) then opn G v (N (r + 1 + 1)) else cms G v N s (r + 1 + 1) from rfl, h2 (r + 1) (by omega)]
    have e6 : cms G v N s (r + 1) ≤ bgs G v N s (r + 1) := by rw [e4]; split <;> omega
    clear e4
    split <;> split <;> omega
  | j + 1 => by
    have ih := er_hi (v := v) (s := s) hG hN h1 h2 j
    have e1 : cms G v N' s (r + 1 + j + 1) = lvs G v N' s (r + 1 + j) + wy G (N' (r + 1 + j)) (N' (r + 1 + j + 1)) := rfl
    have e2 : cms G v N s (r + 1 + j + 1 + 1) = lvs G v N s (r + 1 + j + 1) + wy G (N (r + 1 + j + 1)) (N (r + 1 + j + 1 + 1)) := rfl
    have e3 := @bl_s G v N' s (r + 1 + j)
    have e4 := @bl_s G v N s (r + 1 + j + 1)
    rw [h2 (r + 1 + j) (by omega), h2 (r + 1 + j + 1) (by omega)] at e1
    rw [h2 (r + 1 + j) (by omega)] at e3
    rw [show r + 1 + (j + 1) = r + 1 + j + 1 by omega, show bgs G v N' s (r + 1 + j + 1) = if cms G v N' s (r + 1 + j + 1) < opn G v (N' (r + 1 + j + 1)) then opn G v (N' (r + 1 + j + 1)) else cms G v N' s (r + 1 + j + 1) from rfl, show bgs G v N s (r + 1 + j + 1 + 1) = if cms G v N s (r + 1 + j + 1 + 1) < opn G v (N (r + 1 + j + 1 + 1)) then opn G v (N (r + 1 + j + 1 + 1)) else cms G v N s (r + 1 + j + 1 + 1) from rfl, h2 (r + 1 + j + 1) (by omega)]
    split <;> split <;> omega
theorem er_ltf {N N' : Nat → Int} {G : Nat → Int} {v r n : Nat} {s : Int} (hG : GR G) (hN : ∀ i, N i < 12) (h1 : ∀ i, i ≤ r → N' i = N i) (h2 : ∀ i, r < i → N' i = N (i + 1)) (hz : ltf G v N s n = 0) : ∀ j, r + j + 1 ≤ n → ltf G v N' s (r + j) = 0
  | 0, hj => by
    rw [Nat.add_zero, (er_lo h1 r (Nat.le_refl _)).2.2]
    exact ltf_mono (n - r) (by rw [show r + (n - r) = n by omega]; exact hz)
  | j + 1, hj => by
    have ih := er_ltf hG hN h1 h2 hz j (by omega)
    refine ltf_s.mpr ⟨ih, ?_⟩
    have hb := er_hi (v := v) (s := s) hG hN h1 h2 j
    have z : ltf G v N s (r + 1 + j + 1) = 0 := ltf_mono (n - (r + 1 + j + 1)) (by rw [show r + 1 + j + 1 + (n - (r + 1 + j + 1)) = n by omega]; exact hz)
    have zc := (ltf_s.mp z).2
    show bgs G v N' s (r + j + 1) ≤ cls G v (N' (r + j + 1))
    rw [show r + j + 1 = r + 1 + j by omega, h2 (r + 1 + j) (by omega)]
    exact Int.le_trans hb zc
theorem er_sms {N N' : Nat → Int} {G : Nat → Int} {w r : Nat} (h1 : ∀ i, i ≤ r → N' i = N i) (h2 : ∀ i, r < i → N' i = N (i + 1)) : ∀ k, sms G w N' k = if k ≤ r + 1 then sms G w N k else sms G w N (k + 1) - nw G w (N (r + 1))
  | 0 => by rw [if_pos (by omega)]; rfl
  | k + 1 => by
    have ih := er_sms (G := G) (w := w) h1 h2 k
    rw [show sms G w N' (k + 1) = sms G w N' k + nw G w (N' k) from rfl, ih]
    by_cases c : k + 1 ≤ r + 1
    · rw [if_pos (by omega), if_pos c, h1 k (by omega)]
      rfl
    · rw [if_neg c, h2 k (by omega), show sms G w N (k + 1 + 1) = sms G w N (k + 1) + nw G w (N (k + 1)) from rfl]
      by_cases d : k ≤ r + 1
      · rw [if_pos d, show k = r + 1 by omega, show sms G w N (r + 1 + 1) = sms G w N (r + 1) + nw G w (N (r + 1)) from rfl]
        omega
      · rw [if_neg d]
        omega
theorem tps_ub {G : Nat → Int} {N : Nat → Int} {n : Nat} {M : Int} : ∀ j, (∀ k, k ≤ j → lds G N n k ≤ M) → tps G N n j ≤ M
  | 0, h => by
    have := h 0 (by omega)
    rw [show tps G N n 0 = sms G 5 N n from rfl]
    unfold lds at this
    rw [show sms G 6 N 0 = 0 from rfl, show sms G 5 N 0 = 0 from rfl] at this
    omega
  | j + 1, h => by
    have h1 := tps_ub j (fun k hk => h k (by omega))
    have h2 := h (j + 1) (by omega)
    unfold tps
    split <;> omega
theorem tps_lb {G : Nat → Int} {N : Nat → Int} {n : Nat} : ∀ j k, k ≤ j → lds G N n k ≤ tps G N n j
  | 0, k, hk => by
    rw [show k = 0 by omega, show tps G N n 0 = sms G 5 N n from rfl]
    unfold lds
    rw [show sms G 6 N 0 = 0 from rfl, show sms G 5 N 0 = 0 from rfl]
    omega
  | j + 1, k, hk => by
    rw [show tps G N n (j + 1) = if tps G N n j < lds G N n (j + 1) then lds G N n (j + 1) else tps G N n j from rfl]
    by_cases c : k = j + 1
    · rw [c]; split <;> omega
    · have := tps_lb (G := G) (N := N) (n := n) j k (by omega)
      split <;> omega
theorem gd_er {G : Nat → Int} {v k : Nat} {L : List Int} (hG : GR G) (hv : v < 4) (ho : ∀ x ∈ L, 0 ≤ x ∧ x < 12) (hk : k < L.length) (hg : gdV G v L) : gdV G v (L.eraseIdx k) := by
  have hl : (L.eraseIdx k).length + 1 = L.length := by rw [List.length_eraseIdx, if_pos hk]; omega
  have h1 : ∀ i, i ≤ k → gN (L.eraseIdx k) (-1) i = gN L (-1) i := by
    intro i hi
    cases i with
    | zero => rw [gN_0, gN_0]
    | succ i => rw [gN_s, gN_s, List.getElem?_eraseIdx, if_pos (by omega)]
  have h2 : ∀ i, k < i → gN (L.eraseIdx k) (-1) i = gN L (-1) (i + 1) := by
    intro i hi
    obtain ⟨i, rfl⟩ : ∃ j, i = j + 1 := ⟨i - 1, by omega⟩
    rw [gN_s, gN_s, List.getElem?_eraseIdx, if_neg (by omega)]
  have hN := gN_lo ho
  refine ⟨?_, ?_⟩
  · have := er_ltf hG hN h1 h2 hg.1 ((L.eraseIdx k).length + 1 - k) (by omega)
    rw [show k + ((L.eraseIdx k).length + 1 - k) = (L.eraseIdx k).length + 1 by omega] at this
    exact this
  · refine Int.le_trans (tps_ub _ fun j hj => ?_) hg.2
    have n5 := nw_b hG (w := 5) (by omega) (hN (k + 1))
    have n6 := nw_b hG (w := 6) (by omega) (hN (k + 1))
    have e5 := fun j => er_sms (G := G) (w := 5) h1 h2 j
    have e6 := fun j => er_sms (G := G) (w := 6) h1 h2 j
    have t0 : (L.eraseIdx k).length + 2 + 1 = L.length + 2 := by omega
    have a := e5 ((L.eraseIdx k).length + 2)
    rw [if_neg (by omega), t0] at a
    have b := e5 j
    have c := e6 j
    by_cases d : j ≤ k + 1
    · rw [if_pos d] at b c
      refine Int.le_trans ?_ (tps_lb (L.length + 2) j (by omega))
      unfold lds
      omega
    · rw [if_neg d] at b c
      refine Int.le_trans ?_ (tps_lb (L.length + 2) (j + 1) (by omega))
      unfold lds
      omega
/-- lists of orders -/
theorem nd_ins {l : List Int} {k : Nat} {x : Int} (hk : k ≤ l.length) (hx : x ∉ l) (hn : l.Nodup) : (l.insertIdx k x).Nodup := (List.perm_insertIdx x l hk).nodup_iff.mpr (List.nodup_cons.mpr ⟨hx, hn⟩)
theorem nd_len : ∀ (n : Nat) (l : List Int), l.Nodup → (∀ x ∈ l, 0 ≤ x ∧ x < (n : Int)) → l.length ≤ n
  | 0, l, _, h => by
    cases l with
    | nil => simp
    | cons a l =>
      have := h a (by simp)
      omega
  | n + 1, l, hn, h => by
    have h1 := nd_len n (l.erase (n : Int)) (hn.erase _) (fun x hx => by
      have a := (List.Nodup.mem_erase_iff hn).mp hx
      have b := h x a.2
      have c := a.1
      omega)
    by_cases c : (n : Int) ∈ l
    · rw [List.length_erase_of_mem c] at h1; omega
    · rw [List.erase_of_not_mem c] at h1; omega
def setR (R : Nat → List Int) (v : Nat) (L : List Int) : Nat → List Int := fun w => if w = v then L else R w
theorem setR_s {R : Nat → List Int} {v : Nat} {L : List Int} : setR R v L v = L := if_pos rfl
theorem setR_n {R : Nat → List Int} {v w : Nat} {L : List Int} (h : w ≠ v) : setR R v L w = R w := if_neg h
theorem VR_12 {G : Nat → Int} {R : Nat → List Int} (hG : GR G) (h : VR G R) {v : Nat} (hv : v < 4) : ∀ x ∈ R v, 0 ≤ x ∧ x < 12 := fun x hx => by
  have a := h.2.1 v hv x hx
  have b := hG.1
  omega
theorem VR_set {G : Nat → Int} {R : Nat → List Int} {v : Nat} {L : List Int} (h : VR G R) (hl : L.length ≤ 12) (ho : ∀ x ∈ L, 0 ≤ x ∧ x < G 5) (hn : L.Nodup) (hd : ∀ u, u < 4 → u ≠ v → ∀ x ∈ L, x ∉ R u) (hg : gdV G v L) : VR G (setR R v L) := by
  obtain ⟨h1, h2, ⟨h3, h4⟩, h5⟩ := h
  refine ⟨fun w hw => ?_, fun w hw => ?_, ⟨fun w hw => ?_, fun u w hu hw ne x hx => ?_⟩, fun w hw => ?_⟩
  · by_cases c : w = v
    · rw [c, setR_s]; exact hl
    · rw [setR_n c]; exact h1 w hw
  · by_cases c : w = v
    · rw [c, setR_s]; exact ho
    · rw [setR_n c]; exact h2 w hw
  · by_cases c : w = v
    · rw [c, setR_s]; exact hn
    · rw [setR_n c]; exact h3 w hw
  · by_cases c : u = v
    · rw [c, setR_s] at hx
      rw [setR_n (by omega)]
      exact hd w hw (by omega) x hx
    · rw [setR_n c] at hx
      by_cases d : w = v
      · rw [d, setR_s]
        exact fun z => hd u hu c x z hx
      · rw [setR_n d]; exact h4 u w hu hw ne x hx
  · by_cases c : w = v
    · rw [c, setR_s]; exact hg
    · rw [setR_n c]; exact h5 w hw
theorem VR_er {G : Nat → Int} {R : Nat → List Int} {v k : Nat} (hG : GR G) (h : VR G R) (hv : v < 4) (hk : k < (R v).length) : VR G (setR R v ((R v).eraseIdx k)) :=
  VR_set h (Nat.le_trans (List.length_eraseIdx_le _ _) (h.1 v hv)) (fun x hx => h.2.1 v hv x (List.mem_of_mem_eraseIdx hx)) ((h.2.2.1.1 v hv).sublist (List.eraseIdx_sublist _ _)) (fun u hu ne x hx => h.2.2.1.2 v u hv hu (by omega) x (List.mem_of_mem_eraseIdx hx)) (gd_er hG hv (VR_12 hG h hv) hk (h.2.2.2 v hv))
theorem VR_room {G : Nat → Int} {R : Nat → List Int} {v : Nat} {o : Int} (hG : GR G) (h : VR G R) (hv : v < 4) (ho : 0 ≤ o ∧ o < G 5) (hl : vanF R o < 0) : (R v).length < 12 := by
  have hn := vanF_neg.mp hl v hv
  have := nd_len 12 (o :: R v) (List.nodup_cons.mpr ⟨hn, h.2.2.1.1 v hv⟩) (fun x hx => by
    have b := hG.1
    rcases List.mem_cons.mp hx with e | e
    · rw [e]; omega
    · have := VR_12 hG h hv x e; omega)
  rw [List.length_cons] at this
  omega
theorem VR_in {G : Nat → Int} {R : Nat → List Int} {v k : Nat} {o : Int} (hG : GR G) (h : VR G R) (hv : v < 4) (ho : 0 ≤ o ∧ o < G 5) (hl : vanF R o < 0) (hk : k ≤ (R v).length) (hg : gdV G v ((R v).insertIdx k o)) : VR G (setR R v ((R v).insertIdx k o)) := by
  have hr := VR_room hG h hv ho hl
  have hn := vanF_neg.mp hl
  refine VR_set h (by rw [List.length_insertIdx, if_pos hk]; omega) (fun x hx => ?_) (nd_ins hk (hn v hv) (h.2.2.1.1 v hv)) (fun u hu ne x hx => ?_) hg
  · rcases (List.mem_insertIdx hk).mp hx with e | e
    · rw [e]; exact ho
    · exact h.2.1 v hv x e
  · rcases (List.mem_insertIdx hk).mp hx with e | e
    · rw [e]; exact hn u hu
    · exact h.2.2.1.2 v u hv hu (by omega) x e
