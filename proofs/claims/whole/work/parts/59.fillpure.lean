/-! level 2: prices, regrets, filling, ruin: without memory -/
def gz (G : Nat → Int) (v : Nat) (L : List Int) : Int := if ltf G v (gN L (-1)) (G (103 + 3 * v)) (L.length + 1) = 0 ∧ tps G (gN L (-1)) (L.length + 2) (L.length + 2) ≤ G (102 + 3 * v) then 1 else 0
theorem gz_1 {G : Nat → Int} {v : Nat} {L : List Int} : gz G v L = 1 ↔ gdV G v L := by
  unfold gz gdV
  split
  · rename_i c; exact ⟨fun _ => c, fun _ => rfl⟩
  · rename_i c; exact ⟨fun z => by omega, fun z => absurd z c⟩
/-- the best place and price among the first n places -/
def prS (G : Nat → Int) (v : Nat) (L : List Int) (o : Int) : Nat → Int × Int
  | 0 => (-1, 100000)
  | k + 1 => if gz G v (L.insertIdx k o) = 1 ∧ csV G v (L.insertIdx k o) - csV G v L < (prS G v L o k).2 then ((k : Int), csV G v (L.insertIdx k o) - csV G v L) else prS G v L o k
def pr (G : Nat → Int) (R : Nat → List Int) (o : Int) (v : Nat) : Int × Int := prS G v (R v) o ((R v).length + 1)
theorem prS_inv {G : Nat → Int} {v : Nat} {L : List Int} {o : Int} (hG : GR G) (hv : v < 4) (hL : ∀ x ∈ L, 0 ≤ x ∧ x < 12) (ho : 0 ≤ o ∧ o < 12) (hg : gdV G v L) : ∀ n, n ≤ L.length + 1 → ((prS G v L o n).1 = -1 ∧ (prS G v L o n).2 = 100000) ∨ ∃ k : Nat, (prS G v L o n).1 = k ∧ k < n ∧ gdV G v (L.insertIdx k o) ∧ -30000 ≤ (prS G v L o n).2 ∧ (prS G v L o n).2 ≤ 30000
  | 0, _ => Or.inl ⟨rfl, rfl⟩
  | n + 1, hn => by
    have ih := prS_inv hG hv hL ho hg n (by omega)
    unfold prS
    split
    · rename_i c
      have g := gz_1.mp c.1
      have b1 := cs_good hG hv hL hg
      have b2 := cs_good hG hv (fun x hx => by
        rcases (List.mem_insertIdx (by omega)).mp hx with e | e
        · rw [e]; exact ho
        · exact hL x e) g
      exact Or.inr ⟨n, rfl, by omega, g, by show -30000 ≤ csV G v (L.insertIdx n o) - csV G v L; omega, by show csV G v (L.insertIdx n o) - csV G v L ≤ 30000; omega⟩
    · rcases ih with z | ⟨k, a, b, c, d, e⟩
      · exact Or.inl z
      · exact Or.inr ⟨k, a, by omega, c, d, e⟩
def prP (G : Nat → Int) (R : Nat → List Int) (o : Int) : Nat → Int := fun v => (pr G R o v).2
def prQ (G : Nat → Int) (R : Nat → List Int) (o : Int) : Nat → Int := fun v => (pr G R o v).1
theorem pr_inv {G : Nat → Int} {R : Nat → List Int} {o : Int} (hG : GR G) (hV : VR G R) (ho : 0 ≤ o ∧ o < G 5) {v : Nat} (hv : v < 4) : (prQ G R o v = -1 ∧ prP G R o v = 100000) ∨ ∃ k : Nat, prQ G R o v = k ∧ k ≤ (R v).length ∧ gdV G v ((R v).insertIdx k o) ∧ -30000 ≤ prP G R o v ∧ prP G R o v ≤ 30000 := by
  have hn := hG.1
  rcases prS_inv hG hv (VR_12 hG hV hv) (o := o) (by omega) (hV.2.2.2 v hv) _ (Nat.le_refl _) with z | ⟨k, a, b, c, d, e⟩
  · exact Or.inl z
  · exact Or.inr ⟨k, a, by omega, c, d, e⟩
theorem prP_b {G : Nat → Int} {R : Nat → List Int} {o : Int} (hG : GR G) (hV : VR G R) (ho : 0 ≤ o ∧ o < G 5) {v : Nat} (hv : v < 4) : -30000 ≤ prP G R o v ∧ prP G R o v ≤ 100000 := by
  rcases pr_inv hG hV ho hv with ⟨a, b⟩ | ⟨k, a, b, c, d, e⟩ <;> omega
/-- an array with a number put in among the first -/
def udp (A : Nat → Int) (k : Nat) (x : Int) : Nat → Int := fun j => if j = k then x else A j
theorem udp_s {A : Nat → Int} {k : Nat} {x : Int} : udp A k x k = x := if_pos rfl
theorem udp_n {A : Nat → Int} {k j : Nat} {x : Int} (h : j ≠ k) : udp A k x j = A j := if_neg h
def shf (x : Int) : Nat → (Nat → Int) → (Nat → Int)
  | 0, A => udp A 0 x
  | k + 1, A => if A k ≤ x then udp A (k + 1) x else shf x k (udp A (k + 1) (A k))
theorem shf_hi {x : Int} : ∀ (k : Nat) (A : Nat → Int) (j : Nat), k < j → shf x k A j = A j
  | 0, A, j, h => udp_n (by omega)
  | k + 1, A, j, h => by
    unfold shf
    split
    · exact udp_n (by omega)
    · rw [shf_hi k _ j (by omega), udp_n (by omega)]
theorem shf_cg {x : Int} : ∀ (k : Nat) (A B : Nat → Int), (∀ j, j < k → A j = B j) → ∀ j, j ≤ k → shf x k A j = shf x k B j
  | 0, A, B, _, j, hj => by
    rw [show j = 0 by omega]
    unfold shf
    rw [udp_s, udp_s]
  | k + 1, A, B, h, j, hj => by
    unfold shf
    rw [h k (by omega)]
    split
    · by_cases c : j = k + 1
      · rw [c, udp_s, udp_s]
      · rw [udp_n c, udp_n c]; exact h j (by omega)
    · by_cases c : j = k + 1
      · rw [c, shf_hi k _ _ (by omega), shf_hi k _ _ (by omega), udp_s, udp_s]
      · exact shf_cg k _ _ (fun i hi => by rw [udp_n (by omega), udp_n (by omega)]; exact h i (by omega)) j (by omega)
theorem shf_b {x lo hi : Int} (hx : lo ≤ x ∧ x ≤ hi) : ∀ (k : Nat) (A : Nat → Int), (∀ j, j < k → lo ≤ A j ∧ A j ≤ hi) → ∀ j, j ≤ k → lo ≤ shf x k A j ∧ shf x k A j ≤ hi
  | 0, A, _, j, hj => by
    rw [show j = 0 by omega]
    unfold shf
    rw [udp_s]
    exact hx
  | k + 1, A, h, j, hj => by
    unfold shf
    split
    · by_cases c : j = k + 1
      · rw [c, udp_s]; exact hx
      · rw [udp_n c]; exact h j (by omega)
    · by_cases c : j = k + 1
      · rw [c, shf_hi k _ _ (by omega), udp_s]; exact h k (by omega)
      · exact shf_b hx k _ (fun i hi => by rw [udp_n (by omega)]; exact h i (by omega)) j (by omega)
def srt (P : Nat → Int) : Nat → (Nat → Int)
  | 0 => fun _ => 0
  | n + 1 => shf (P n) n (srt P n)
theorem srt_b {P : Nat → Int} {lo hi : Int} : ∀ n, (∀ v, v < n → lo ≤ P v ∧ P v ≤ hi) → ∀ j, j < n → lo ≤ srt P n j ∧ srt P n j ≤ hi
  | 0, _, j, hj => by omega
  | n + 1, h, j, hj => shf_b (h n (by omega)) n _ (fun i hi => srt_b n (fun v hv => h v (by omega)) i hi) j (by omega)
def rgs (A : Nat → Int) : Nat → Int
  | 0 => 0
  | k + 1 => rgs A k + (A (k + 1) - A 0)
theorem rgs_b {A : Nat → Int} (h : ∀ j, j < 4 → -30000 ≤ A j ∧ A j ≤ 100000) : ∀ k : Nat, k ≤ 3 → -130000 * (k : Int) ≤ rgs A k ∧ rgs A k ≤ 130000 * (k : Int)
  | 0, _ => by unfold rgs; omega
  | k + 1, hk => by
    have ih := rgs_b h k (by omega)
    have a := h 0 (by omega)
    have b := h (k + 1) (by omega)
    unfold rgs
    omega
/-- the van of the least price, the first -/
def chs (P : Nat → Int) : Nat → Nat
  | 0 => 0
  | n + 1 => if P (chs P n) ≤ P (n + 1) then chs P n else n + 1
theorem chs_le {P : Nat → Int} : ∀ n, chs P n ≤ n
  | 0 => Nat.le_refl _
  | n + 1 => by
    have := chs_le (P := P) n
    unfold chs
    split <;> omega
theorem chs_cg {P Q : Nat → Int} : ∀ n, (∀ v, v ≤ n → P v = Q v) → chs P n = chs Q n
  | 0, _ => rfl
  | n + 1, h => by
    have e := chs_cg n (fun v hv => h v (by omega))
    have l := chs_le (P := Q) n
    unfold chs
    rw [e, h _ (show chs Q n ≤ n + 1 by omega), h (n + 1) (Nat.le_refl _)]
def chV (G : Nat → Int) (R : Nat → List Int) (o : Int) : Nat := chs (prP G R o) 3
theorem chV_lt {G : Nat → Int} {R : Nat → List Int} {o : Int} : chV G R o < 4 := by
  have := chs_le (P := prP G R o) 3
  unfold chV
  omega
def rgt (G : Nat → Int) (R : Nat → List Int) (o : Int) (k : Nat) : Int := rgs (srt (prP G R o) 4) (k - 1)
theorem rgt_b {G : Nat → Int} {R : Nat → List Int} {o : Int} (hG : GR G) (hV : VR G R) (ho : 0 ≤ o ∧ o < G 5) {k : Nat} (hk : 1 ≤ k ∧ k ≤ 4) : -400000 ≤ rgt G R o k ∧ rgt G R o k ≤ 400000 := by
  have := rgs_b (srt_b (P := prP G R o) 4 (fun v hv => prP_b hG hV ho hv)) (k - 1) (by omega)
  unfold rgt
  omega
def frS (G : Nat → Int) (R : Nat → List Int) (k : Nat) : Nat → Int × Int × Int
  | 0 => (-1, 0, 0)
  | o + 1 => if vanF R (o : Int) < 0 ∧ ¬ prP G R (o : Int) (chV G R (o : Int)) = 100000 ∧ ((frS G R k o).1 = -1 ∨ (frS G R k o).2.1 < rgt G R (o : Int) k ∨ (rgt G R (o : Int) k = (frS G R k o).2.1 ∧ prP G R (o : Int) (chV G R (o : Int)) < (frS G R k o).2.2)) then ((o : Int), rgt G R (o : Int) k, prP G R (o : Int) (chV G R (o : Int))) else frS G R k o
def frs (G : Nat → Int) (R : Nat → List Int) (k : Nat) : Int := (frS G R k (G 5).toNat).1
theorem frS_inv {G : Nat → Int} {R : Nat → List Int} {k : Nat} : ∀ n, (frS G R k n).1 = -1 ∨ ∃ o : Nat, o < n ∧ (frS G R k n).1 = o ∧ vanF R (o : Int) < 0 ∧ ¬ prP G R (o : Int) (chV G R (o : Int)) = 100000
  | 0 => Or.inl rfl
  | n + 1 => by
    unfold frS
    split
    · rename_i c
      exact Or.inr ⟨n, by omega, rfl, c.1, c.2.1⟩
    · rcases frS_inv (G := G) (R := R) (k := k) n with z | ⟨o, a, b, c, d⟩
      · exact Or.inl z
      · exact Or.inr ⟨o, by omega, b, c, d⟩
/-- the order that comes first comes -/
def inR1 (G : Nat → Int) (R : Nat → List Int) (o : Int) : Nat → List Int := setR R (chV G R o) ((R (chV G R o)).insertIdx (prQ G R o (chV G R o)).toNat o)
def fiF (G : Nat → Int) (k : Nat) : Nat → (Nat → List Int) → (Nat → List Int) × Nat
  | 0, R => (R, 0)
  | f + 1, R => if frs G R k < 0 then (R, 0) else ((fiF G k f (inR1 G R (frs G R k))).1, (fiF G k f (inR1 G R (frs G R k))).2 + 1)
theorem frs_inv {G : Nat → Int} {R : Nat → List Int} {k : Nat} (hG : GR G) (h : 0 ≤ frs G R k) : frs G R k < G 5 ∧ vanF R (frs G R k) < 0 ∧ ¬ prP G R (frs G R k) (chV G R (frs G R k)) = 100000 := by
  have hn := hG.1
  unfold frs at h ⊢
  rcases frS_inv (G := G) (R := R) (k := k) (G 5).toNat with z | ⟨o, a, b, c, d⟩
  · omega
  · rw [b]
    exact ⟨by omega, c, d⟩
theorem VR_in1 {G : Nat → Int} {R : Nat → List Int} {k : Nat} (hG : GR G) (hV : VR G R) (h : 0 ≤ frs G R k) : VR G (inR1 G R (frs G R k)) ∧ ∃ p : Nat, prQ G R (frs G R k) (chV G R (frs G R k)) = p ∧ p ≤ (R (chV G R (frs G R k))).length := by
  obtain ⟨h1, h2, h3⟩ := frs_inv hG h
  rcases pr_inv hG hV ⟨h, h1⟩ chV_lt with ⟨a, b⟩ | ⟨p, a, b, c, d, e⟩
  · exact absurd b h3
  · refine ⟨?_, p, a, b⟩
    unfold inR1
    rw [a, Int.toNat_natCast]
    exact VR_in hG hV chV_lt ⟨h, h1⟩ h2 b c
/-- how many stops in all -/
def totR (R : Nat → List Int) : Nat := (R 0).length + (R 1).length + (R 2).length + (R 3).length
theorem totR_set {R : Nat → List Int} {v : Nat} (hv : v < 4) {L : List Int} : totR (setR R v L) + (R v).length = totR R + L.length := by
  unfold totR
  rcases (show v = 0 ∨ v = 1 ∨ v = 2 ∨ v = 3 by omega) with e | e | e | e <;> subst e
  · rw [setR_s, setR_n (by decide), setR_n (by decide), setR_n (by decide)]; omega
  · rw [setR_s, setR_n (by decide), setR_n (by decide), setR_n (by decide)]; omega
  · rw [setR_s, setR_n (by decide), setR_n (by decide), setR_n (by decide)]; omega
  · rw [setR_s, setR_n (by decide), setR_n (by decide), setR_n (by decide)]; omega
theorem tot_in1 {G : Nat → Int} {R : Nat → List Int} {k : Nat} (hG : GR G) (hV : VR G R) (h : 0 ≤ frs G R k) : totR (inR1 G R (frs G R k)) = totR R + 1 := by
  obtain ⟨_, p, e, l⟩ := VR_in1 hG hV h
  have := totR_set (R := R) (v := chV G R (frs G R k)) chV_lt (L := (R (chV G R (frs G R k))).insertIdx (prQ G R (frs G R k) (chV G R (frs G R k))).toNat (frs G R k))
  unfold inR1
  rw [List.length_insertIdx, if_pos (by omega)] at this
  omega
theorem frs_full {G : Nat → Int} {R : Nat → List Int} {k : Nat} (hG : GR G) (hV : VR G R) (h : 12 ≤ totR R) : frs G R k < 0 := by
  by_cases c : 0 ≤ frs G R k
  · have t := tot_in1 hG hV c
    have v := VR_total hG (VR_in1 hG hV c).1
    have hn := hG.1
    unfold totR at t h
    omega
  · omega
theorem fiF_VR {G : Nat → Int} {k : Nat} (hG : GR G) : ∀ f R, VR G R → VR G (fiF G k f R).1
  | 0, R, h => h
  | f + 1, R, h => by
    unfold fiF
    split
    · exact h
    · exact fiF_VR hG f _ (VR_in1 hG h (by omega)).1
/-- ruin -/
def nrS (G : Nat → Int) (R : Nat → List Int) (o : Int) : Nat → Int
  | 0 => -1
  | k + 1 => if 0 ≤ vanF R (k : Int) ∧ (nrS G R o k = -1 ∨ wy G o (k : Int) < wy G o (nrS G R o k)) then (k : Int) else nrS G R o k
def nrs (G : Nat → Int) (R : Nat → List Int) (o : Int) : Int := nrS G R o (G 5).toNat
theorem nrS_inv {G : Nat → Int} {R : Nat → List Int} {o : Int} : ∀ n, nrS G R o n = -1 ∨ ∃ k : Nat, k < n ∧ nrS G R o n = k ∧ 0 ≤ vanF R (k : Int)
  | 0 => Or.inl rfl
  | n + 1 => by
    unfold nrS
    split
    · rename_i c
      exact Or.inr ⟨n, by omega, rfl, c.1⟩
    · rcases nrS_inv (G := G) (R := R) (o := o) n with z | ⟨k, a, b, c⟩
      · exact Or.inl z
      · exact Or.inr ⟨k, by omega, b, c⟩
theorem nrs_inv {G : Nat → Int} {R : Nat → List Int} {o : Int} (hG : GR G) : nrs G R o = -1 ∨ (0 ≤ nrs G R o ∧ nrs G R o < G 5 ∧ 0 ≤ vanF R (nrs G R o)) := by
  have hn := hG.1
  unfold nrs
  rcases nrS_inv (G := G) (R := R) (o := o) (G 5).toNat with z | ⟨k, a, b, c⟩
  · exact Or.inl z
  · rw [b]
    exact Or.inr ⟨by omega, by omega, c⟩
def ruF (G : Nat → Int) (o : Int) : Nat → (Nat → List Int) → (Nat → List Int) × Nat
  | 0, R => (R, 0)
  | n + 1, R => if nrs G R o < 0 then (R, 0) else ((ruF G o n (outR R (nrs G R o))).1, (ruF G o n (outR R (nrs G R o))).2 + 1)
theorem ruF_VR {G : Nat → Int} {o : Int} (hG : GR G) : ∀ n R, VR G R → VR G (ruF G o n R).1
  | 0, R, h => h
  | n + 1, R, h => by
    unfold ruF
    split
    · exact h
    · rename_i c
      rcases nrs_inv (R := R) (o := o) hG with z | z
      · omega
      · exact ruF_VR hG n _ (VR_out hG h z.2.2)
