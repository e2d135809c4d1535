/-! level 2: class and model call by call: judge -/
/-- how many of the t places from i on hold -1 -/
def ct (A : Nat → Int) (i : Nat) : Nat → Nat
  | 0 => 0
  | t + 1 => ct A i t + (if A (i + t) = -1 then 1 else 0)
theorem ct_mono {A : Nat → Int} {i t : Nat} : ∀ d, ct A i t ≤ ct A i (t + d)
  | 0 => Nat.le_refl _
  | d + 1 => by
    have := ct_mono (A := A) (i := i) (t := t) d
    rw [show ct A i (t + (d + 1)) = ct A i (t + d) + (if A (i + (t + d)) = -1 then 1 else 0) from rfl]
    omega
theorem ct_least {A : Nat → Int} {i : Nat} : ∀ N, 4 ≤ ct A i N → ∃ t, t ≤ N ∧ 4 ≤ ct A i t ∧ ∀ t', t' < t → ct A i t' < 4
  | 0, h => ⟨0, Nat.le_refl _, h, fun t' h' => by omega⟩
  | N + 1, h => by
    by_cases c : 4 ≤ ct A i N
    · obtain ⟨t, a, b, d⟩ := ct_least N c
      exact ⟨t, by omega, b, d⟩
    · exact ⟨N + 1, Nat.le_refl _, h, fun t' h' => by
        have := ct_mono (A := A) (i := i) (t := t') (N - t')
        rw [show t' + (N - t') = N by omega] at this
        omega⟩
/-- the told plan as far as t places: whether it may be, the rounds -/
def jgF (G : Nat → Int) (A : Nat → Int) (i : Nat) : Nat → Int × (Nat → List Int)
  | 0 => (1, fun _ => [])
  | t + 1 => if (jgF G A i t).1 = 0 ∨ A (i + t) = -1 then jgF G A i t else if (0 ≤ A (i + t) ∧ A (i + t) < G 5) ∧ vanF (jgF G A i t).2 (A (i + t)) < 0 then (1, setR (jgF G A i t).2 (ct A i t) ((jgF G A i t).2 (ct A i t) ++ [A (i + t)])) else (0, (jgF G A i t).2)
theorem jg_01 {G : Nat → Int} {A : Nat → Int} {i : Nat} : ∀ t, (jgF G A i t).1 = 0 ∨ (jgF G A i t).1 = 1
  | 0 => Or.inr rfl
  | t + 1 => by
    have := jg_01 (G := G) (A := A) (i := i) t
    unfold jgF
    split
    · exact this
    · split
      · exact Or.inr rfl
      · exact Or.inl rfl
theorem jg_stop {G : Nat → Int} {A : Nat → Int} {i t : Nat} (h : (jgF G A i t).1 = 0) : ∀ d, jgF G A i (t + d) = jgF G A i t
  | 0 => rfl
  | d + 1 => by
    have := jg_stop h d
    rw [show jgF G A i (t + (d + 1)) = if (jgF G A i (t + d)).1 = 0 ∨ A (i + (t + d)) = -1 then jgF G A i (t + d) else if (0 ≤ A (i + (t + d)) ∧ A (i + (t + d)) < G 5) ∧ vanF (jgF G A i (t + d)).2 (A (i + (t + d))) < 0 then (1, setR (jgF G A i (t + d)).2 (ct A i (t + d)) ((jgF G A i (t + d)).2 (ct A i (t + d)) ++ [A (i + (t + d))])) else (0, (jgF G A i (t + d)).2) from rfl, this, if_pos (Or.inl h)]
theorem V0_nil {G : Nat → Int} : V0 G (fun _ => []) := ⟨fun _ _ => by simp, fun _ _ x hx => by simp at hx, fun _ _ => List.nodup_nil, fun _ _ _ _ _ x hx => by simp at hx⟩
theorem V0_app {G : Nat → Int} {R : Nat → List Int} {v : Nat} {o : Int} (hG : GR G) (h : V0 G R) (hv : v < 4) (ho : 0 ≤ o ∧ o < G 5) (hl : vanF R o < 0) : V0 G (setR R v (R v ++ [o])) ∧ (R v).length < 12 := by
  have hn := vanF_neg.mp hl
  have nd : (R v ++ [o]).Nodup := by
    rw [List.nodup_append]
    refine ⟨h.2.2.1 v hv, by simp, fun a ha b hb e => ?_⟩
    simp at hb
    rw [e, hb] at ha
    exact hn v hv ha
  have mem : ∀ w, w < 4 → ∀ x, x ∈ setR R v (R v ++ [o]) w → (x ∈ R w ∨ (w = v ∧ x = o)) := by
    intro w hw x hx
    by_cases c : w = v
    · rw [c, setR_s] at hx
      rcases List.mem_append.mp hx with z | z
      · rw [c]; exact Or.inl z
      · exact Or.inr ⟨c, by simpa using z⟩
    · rw [setR_n c] at hx; exact Or.inl hx
  have v0 : V0 G (setR R v (R v ++ [o])) := V0_mk hG (fun w hw x hx => by
    rcases mem w hw x hx with z | z
    · exact h.2.1 w hw x z
    · rw [z.2]; exact ho) ⟨fun w hw => by
      by_cases c : w = v
      · rw [c, setR_s]; exact nd
      · rw [setR_n c]; exact h.2.2.1 w hw, fun u w hu hw ne x hx hy => by
      rcases mem u hu x hx with z | z
      · rcases mem w hw x hy with y | y
        · exact h.2.2.2 u w hu hw ne x z y
        · rw [y.2] at z; exact hn u hu z
      · rcases mem w hw x hy with y | y
        · rw [z.2] at y; exact hn w hw y
        · exact ne (z.1.trans y.1.symm)⟩
  refine ⟨v0, ?_⟩
  have := v0.1 v hv
  rw [setR_s, List.length_append] at this
  simp at this
  omega
theorem jg_V0 {G : Nat → Int} {A : Nat → Int} {i : Nat} (hG : GR G) : ∀ t, (∀ t', t' < t → ct A i t' < 4) → V0 G (jgF G A i t).2
  | 0, _ => V0_nil
  | t + 1, h => by
    have ih := jg_V0 (A := A) (i := i) hG t (fun t' h' => h t' (by omega))
    unfold jgF
    split
    · exact ih
    · split
      · rename_i c
        exact (V0_app hG ih (h t (by omega)) c.1 c.2).1
      · exact ih
/-- the rounds aside -/
def AF (R : Nat → List Int) (J : IM) : Prop := SZC J 71 ∧ ∀ v, v < 4 → LC J 71 v = R v
theorem AF_fr {R : Nat → List Int} {J J' : IM} (h : AF R J) (f : ∀ p j, 71 ≤ p → p ≤ 77 → J' p j = J p j) : AF R J' := ⟨fun v hv => by rw [f _ _ (by omega) (by omega)]; exact h.1 v hv, fun v hv => (LC_cg (f _ _ (by omega) (by omega)) (fun k => f _ _ (by omega) (by omega))).trans (h.2 v hv)⟩
theorem AF_len {R : Nat → List Int} {J : IM} (h : AF R J) {v : Nat} (hv : v < 4) : J 72 v = ((R v).length : Int) := by
  have ll := @LC_len J 71 v
  rw [h.2 v hv] at ll
  have sz := h.1 v hv
  rw [show (71 + 1 : Nat) = 72 from rfl] at ll sz
  omega
theorem c_clearAll {J : IM} {K : Option AV → IM → Prop} (h : ∀ J', (∀ p j, p ≠ 72 → J' p j = J p j) → AF (fun _ => []) J' → K none J') : CALL S0 43 [vR 71] J K := by
  refine e43 rd71 ?_
  unfold D43_0
  have key : ∀ t v : Nat, v + t = 4 → ∀ L, (∀ p j, p ≠ 72 → L p j = J p j) → (∀ w, w < v → L 72 w = 0) → GO S0 43 2 [vR 71, vI (v : Int)] [] L K := by
    intro t
    induction t with
    | zero =>
      intro v e L f g
      refine g43_2 71 rd71 _ L K ?_
      unfold D43_2
      rw [if_pos (by omega)]
      refine h L f ⟨fun w hw => by rw [show L (71 + 1) w = L 72 w from rfl, g w (by omega)]; omega, fun w hw => List.length_eq_zero_iff.mp ?_⟩
      rw [LC_len, show L (71 + 1) w = L 72 w from rfl, g w (by omega)]
      rfl
    | succ t ih =>
      intro v e L f g
      refine g43_2 71 rd71 _ L K ?_
      unfold D43_2 inR
      rw [if_neg (by omega), Int.toNat_natCast, show (71 + 1 : Nat) = 72 from rfl]
      refine ⟨by omega, fun I3 e3 => ⟨by omega, ?_⟩⟩
      have := ih (v + 1) (by omega) I3 (fun p j a => by rw [e3, iup_ne (Or.inl a)]; exact f p j a) (fun w hw => by
        by_cases c : w = v
        · rw [c, e3, iup_same]
        · rw [e3, iup_ne (Or.inr c)]; exact g w (by omega))
      rw [show ((v + 1 : Nat) : Int) = (v : Int) + 1 by omega] at this
      exact this
  exact key 4 0 rfl J (fun _ _ _ => rfl) (fun w hw => by omega)
theorem n_empties {J : IM} {K : Option AV → IM → Prop} (h : ∀ J', (∀ p j, p ≠ 242 → J' p j = J p j) → TQ (fun _ => []) J' → K none J') : CALL S0 153 [vR 237] J K := by
  refine e153 ?_
  unfold D153_0
  have key : ∀ t v : Nat, v + t = 4 → ∀ L, (∀ p j, p ≠ 242 → L p j = J p j) → (∀ w, w < v → L 242 (13 * w) = 0) → GO S0 153 2 [vR 237, vI (v : Int)] [] L K := by
    intro t
    induction t with
    | zero =>
      intro v e L f g
      refine g153_2 _ L K ?_
      unfold D153_2
      rw [if_pos (by omega)]
      refine h L f ⟨fun w hw => by rw [Nat.zero_add, g w (by omega)]; omega, fun w hw => List.length_eq_zero_iff.mp ?_⟩
      rw [LM0_len, g w (by omega)]
      rfl
    | succ t ih =>
      intro v e L f g
      refine g153_2 _ L K ?_
      unfold D153_2 inR
      rw [if_neg (by omega), show (13 * (v : Int)).toNat = 13 * v by omega]
      refine ⟨by omega, by omega, fun I3 e3 => ⟨by omega, ?_⟩⟩
      have := ih (v + 1) (by omega) I3 (fun p j a => by rw [e3, iup_ne (Or.inl a)]; exact f p j a) (fun w hw => by
        by_cases c : w = v
        · rw [c, e3, iup_same]
        · rw [e3, iup_ne (Or.inr (by omega))]; exact g w (by omega))
      rw [show ((v + 1 : Nat) : Int) = (v : Int) + 1 by omega] at this
      exact this
  exact key 4 0 rfl J (fun _ _ _ => rfl) (fun w hw => by omega)
theorem c_app {R : Nat → List Int} {v : Nat} {x : Int} {J : IM} {K : Option AV → IM → Prop} (hv : v < 4) (h : AF R J) (h12 : (R v).length < 12) (hK : ∀ J', (∀ p j, p ≠ 72 → (p < 74 ∨ 77 < p) → J' p j = J p j) → AF (setR R v (R v ++ [x])) J' → K none J') : CALL S0 45 [vR 71, vI x, vI (v : Int), vI ((R v).length : Int)] J K :=
  k_ins rd71 hv h.1 (by rw [h.2 v hv]; exact h12) (by rw [h.2 v hv]; omega) fun J' f s l => hK J' (fun p j a b => f p j a b) ⟨s, fun w hw => by
    rw [l w hw, h.2 v hv, List.insertIdx_length_self]
    by_cases c : w = v
    · rw [c, setR_s, setR_s]
    · rw [setR_n c, setR_n c]; exact h.2 w hw⟩
theorem c_ends {r i n : Nat} {A : Nat → Int} {J : IM} {K : Option AV → IM → Prop} (hr : r < 4) (hn : J 236 r = n) (n40 : n ≤ 40) (hi : inR (i : Int)) (hA : ∀ k, k < n → J (232 + r) k = A k) (h : K (some (vI (b2i (4 ≤ ct A i (n - i))))) J) : CALL S0 122 [vR 0, vI (r : Int), vI (i : Int)] J K := by
  refine e122 ?_
  unfold D122_0
  have le : ∀ t, ct A i t ≤ t := fun t => by
    induction t with
    | zero => exact Nat.le_refl _
    | succ t ih =>
      unfold ct
      split <;> omega
  have key : ∀ s t : Nat, t + s = n - i → GO S0 122 5 [vR 0, vI (r : Int), vI (i : Int), vI (ct A i t : Nat), vI ((i + t : Nat) : Int)] [] J K := by
    intro s
    induction s with
    | zero =>
      intro t e
      refine g122_5 _ _ _ _ J K ?_
      unfold D122_5
      rw [Int.toNat_natCast, hn, if_pos (by omega)]
      rw [show n - i = t by omega] at h
      refine ⟨by omega, ?_⟩
      split
      · rw [b2i_f (by omega)] at h; exact h
      · rw [b2i_t (by omega)] at h; exact h
    | succ s ih =>
      intro t e
      refine g122_5 _ _ _ _ J K ?_
      unfold D122_5 inR
      have lt := le t
      rw [Int.toNat_natCast, Int.toNat_natCast, hn, if_neg (by omega), hA _ (by omega)]
      refine ⟨by omega, by omega, ?_⟩
      have := ih (t + 1) (by omega)
      unfold ct at this
      by_cases c : A (i + t) = -1
      · rw [if_pos c] at this ⊢
        exact ⟨by omega, by omega, this⟩
      · rw [if_neg c] at this ⊢
        exact ⟨by omega, this⟩
  exact key (n - i) 0 (Nat.zero_add _)
theorem n_ends {r i n : Nat} {A : Nat → Int} {J : IM} {K : Option AV → IM → Prop} (hr : r < 4) (hn : J 250 r = n) (n40 : n ≤ 40) (hi : inR (i : Int)) (hA : ∀ k, k < n → J 251 (40 * r + k) = A k) (h1 : ∀ t, t ≤ n - i → 4 ≤ ct A i t → (∀ t', t' < t → ct A i t' < 4) → K (some (vI (t : Int))) J) (h2 : (∀ t, t ≤ n - i → ct A i t < 4) → K (some (vI (-1))) J) : CALL S0 248 [vR 237, vI (r : Int), vI (i : Int)] J K := by
  refine e248 ?_
  unfold D248_0
  have fin : ∀ t : Nat, t ≤ n - i → (4 ≤ ct A i t ∨ t = n - i) → (∀ t', t' < t → ct A i t' < 4) → D248_51 (r : Int) (i : Int) (ct A i t : Nat) ((i + t : Nat) : Int) J K := by
    intro t ht hc hl
    unfold D248_51 inR
    unfold inR at hi
    split
    · refine ⟨by omega, ?_⟩
      rw [show ((i + t : Nat) : Int) - (i : Int) = (t : Int) by omega]
      exact h1 t ht (by omega) hl
    · refine h2 (fun t' ht' => ?_)
      have := ct_mono (A := A) (i := i) (t := t') (t - t')
      rw [show t' + (t - t') = t by omega] at this
      omega
  have key : ∀ s t : Nat, t + s = n - i → (∀ t', t' < t → ct A i t' < 4) → GO S0 248 5 [vR 237, vI (r : Int), vI (i : Int), vI (ct A i t : Nat), vI ((i + t : Nat) : Int)] [] J K := by
    intro s
    induction s with
    | zero =>
      intro t e hl
      refine g248_5 _ _ _ _ J K ?_
      unfold D248_5
      have := fin t (by omega) (Or.inr (by omega)) hl
      split
      · exact this
      · rw [Int.toNat_natCast, hn, if_pos (by omega)]
        exact ⟨by omega, this⟩
    | succ s ih =>
      intro t e hl
      refine g248_5 _ _ _ _ J K ?_
      unfold D248_5 inR
      by_cases c4 : 4 ≤ ct A i t
      · rw [if_pos (by omega)]
        exact fin t (by omega) (Or.inl c4) hl
      · rw [if_neg (by omega), Int.toNat_natCast, hn, if_neg (by omega), show (40 * (r : Int) + ((i + t : Nat) : Int)).toNat = 40 * r + (i + t) by omega, hA _ (by omega)]
        refine ⟨by omega, by omega, by omega, by omega, ?_⟩
        have := ih (t + 1) (by omega) (fun t' h' => by
          by_cases c : t' = t
          · rw [c]; omega
          · exact hl t' (by omega))
        unfold ct at this
        by_cases c : A (i + t) = -1
        · rw [if_pos c] at this ⊢
          exact ⟨by omega, by omega, this⟩
        · rw [if_neg c] at this ⊢
          exact ⟨by omega, by omega, this⟩
  exact key (n - i) 0 (Nat.zero_add _) (fun t' h' => by omega)
theorem c_think {r i n T : Nat} {G A : Nat → Int} {R : Nat → List Int} {J : IM} {K : Option AV → IM → Prop} (hG : GR G) (hC : CF G R J) (hr : r < 4) (hn : J 236 r = n) (n40 : n ≤ 40) (hA : ∀ k, k < n → J (232 + r) k = A k) (hT : i + T ≤ n) (h4 : 4 ≤ ct A i T) (hl : ∀ t', t' < T → ct A i t' < 4) (h : ∀ J', (∀ p j, (p < 72 ∨ 77 < p) → J' p j = J p j) → ((jgF G A i T).1 = 0 → K (some (vI 0)) J') ∧ ((jgF G A i T).1 = 1 → AF (jgF G A i T).2 J' → K (some (vI 1)) J')) : CALL S0 123 [vR 0, vI (r : Int), vI (i : Int)] J K := by
  refine e123 ?_
  unfold D123_0
  refine c_clearAll fun J1 f1 a1 => ⟨rfl, ?_⟩
  have key : ∀ s t : Nat, t + s = T → ∀ L, (∀ p j, (p < 72 ∨ 77 < p) → L p j = J p j) → (jgF G A i t).1 = 1 → AF (jgF G A i t).2 L → ∀ u : AV, GO S0 123 12 [vR 0, vI (r : Int), vI (i : Int), vI (ct A i t : Nat), vI ((i + t : Nat) : Int), u] [] L K := by
    intro s
    induction s with
    | zero =>
      intro t e L f ok af u
      refine g123_12 _ _ _ _ _ L K ?_
      unfold D123_12
      rw [show t = T by omega] at ok af ⊢
      have fin := (h L f).2 ok af
      refine ⟨by omega, ?_⟩
      split
      · exact fin
      · rw [if_pos (by omega)]
        exact fin
    | succ s ih =>
      intro t e L f ok af u
      refine g123_12 _ _ _ _ _ L K ?_
      unfold D123_12 inR
      have c4 := hl t (by omega)
      have C := CF_fr hC (J' := L) (fun o k a => f o k (by omega))
      rw [Int.toNat_natCast, Int.toNat_natCast, f 236 r (by omega), hn, if_neg (by omega), if_neg (by omega), f (232 + r) _ (by omega), hA _ (by omega)]
      refine ⟨by omega, by omega, ?_⟩
      have ej : jgF G A i (t + 1) = if (jgF G A i t).1 = 0 ∨ A (i + t) = -1 then jgF G A i t else if (0 ≤ A (i + t) ∧ A (i + t) < G 5) ∧ vanF (jgF G A i t).2 (A (i + t)) < 0 then (1, setR (jgF G A i t).2 (ct A i t) ((jgF G A i t).2 (ct A i t) ++ [A (i + t)])) else (0, (jgF G A i t).2) := rfl
      have ec : ct A i (t + 1) = ct A i t + (if A (i + t) = -1 then 1 else 0) := rfl
      have v0 := jg_V0 (A := A) (i := i) hG t (fun t' h' => hl t' (by omega))
      by_cases c : A (i + t) = -1
      · rw [if_pos c] at ec ⊢
        rw [if_pos (Or.inr c)] at ej
        refine ⟨by omega, by omega, ?_⟩
        have := ih (t + 1) (by omega) L f (by rw [ej]; exact ok) (by rw [ej]; exact af) (vI (A (i + t)))
        rw [ec] at this
        exact this
      · rw [if_neg c] at ec ⊢
        rw [if_neg (by omega)] at ej
        have bad : jgF G A i (t + 1) = (0, (jgF G A i t).2) → ∀ L', (∀ p j, (p < 72 ∨ 77 < p) → L' p j = J p j) → K (some (vI 0)) L' := fun eb L' f' => by
          refine (h L' f').1 ?_
          have := jg_stop (G := G) (A := A) (i := i) (t := t + 1) (by rw [eb]) (T - (t + 1))
          rw [show t + 1 + (T - (t + 1)) = T by omega] at this
          rw [this, eb]
        refine k_isOrder ⟨_, rfl, ?_⟩
        rw [C.1.1]
        by_cases co : 0 ≤ A (i + t) ∧ A (i + t) < G 5
        · rw [b2i_t co, if_neg (by decide)]
          refine k_vanOf rd71 af.1 ⟨_, rfl, ?_⟩
          rw [vanF_eq af.2]
          have vr := @vanF_r (jgF G A i t).2 (A (i + t))
          by_cases cv : vanF (jgF G A i t).2 (A (i + t)) < 0
          · rw [if_pos (by omega)]
            rw [if_pos ⟨co, cv⟩] at ej
            obtain ⟨v1, room⟩ := V0_app hG v0 c4 co cv
            rw [Int.toNat_natCast, AF_len af c4]
            refine ⟨by omega, c_app c4 af room fun L1 f1 a1 => ⟨rfl, by omega, ?_⟩⟩
            have := ih (t + 1) (by omega) L1 (fun p j a => by rw [f1 p j (by omega) (by omega)]; exact f p j a) (by rw [ej]) (by rw [ej]; exact a1) (vI (A (i + t)))
            rw [ec] at this
            exact this
          · rw [if_neg (by omega)]
            rw [if_neg (fun z => cv z.2)] at ej
            exact bad ej L f
        · rw [b2i_f co, if_pos rfl]
          rw [if_neg (fun z => co z.1)] at ej
          exact bad ej L f
  exact key T 0 (Nat.zero_add _) J1 (fun p j a => f1 p j (by omega)) rfl a1 vU
/-- bits of the orders told -/
def BT (R : Nat → List Int) (S : Int) : Prop := inR S ∧ ∀ o : Nat, o < 32 → (bt S o = true ↔ ¬ vanF R (o : Int) < 0)
theorem BT_0 : BT (fun _ => []) 0 := ⟨by unfold inR; omega, fun o _ => by
  rw [bt_0]
  constructor
  · intro z; cases z
  · intro z
    exact absurd (vanF_neg.mpr (fun v _ => by simp)) z⟩
theorem BT_app {G : Nat → Int} {R : Nat → List Int} {v : Nat} {x : Int} {S : Int} (h : BT R S) (hv : v < 4) (hx : 0 ≤ x ∧ x < 12) : BT (setR R v (R v ++ [x])) (iorF S (ishlF 1 x)) := by
  refine ⟨ior_in, fun o ho => ?_⟩
  obtain ⟨m, rfl⟩ : ∃ m : Nat, x = m := ⟨x.toNat, by omega⟩
  rw [bt_or (by omega) ho, Bool.or_eq_true, h.2 o ho, decide_eq_true_eq, vanF_neg, vanF_neg]
  constructor
  · rintro (z | z) y
    · refine z (fun w hw hm => y w hw ?_)
      by_cases c : w = v
      · rw [c, setR_s]; rw [c] at hm; exact List.mem_append.mpr (Or.inl hm)
      · rw [setR_n c]; exact hm
    · refine y v hv ?_
      rw [setR_s, z]
      exact List.mem_append.mpr (Or.inr (by simp))
  · intro z
    by_cases c : o = m
    · exact Or.inr c
    · refine Or.inl (fun y => z (fun w hw hm => ?_))
      by_cases d : w = v
      · rw [d, setR_s] at hm
        rcases List.mem_append.mp hm with q | q
        · exact y v hv q
        · simp at q; omega
      · rw [setR_n d] at hm; exact y w hw hm
theorem BT_1 {R : Nat → List Int} {S : Int} {x : Int} (h : BT R S) (hx : 0 ≤ x ∧ x < 12) : iandF (ishrF S x) 1 = 1 ↔ ¬ vanF R x < 0 := by
  obtain ⟨m, rfl⟩ : ∃ m : Nat, x = m := ⟨x.toNat, by omega⟩
  rw [bt_1 (by omega), h.2 m (by omega)]
theorem s_judge {x1 x2 : Int} {I : IM} (h : REL I) (hx2 : inR x2) : BOTH 121 247 [vI x1, vI x2] I := by
  have hG := h.1.1
  have hC := rel_CF h
  have hn12 := hG.1
  by_cases c0 : 0 ≤ x1 ∧ x1 ≤ 3
  · obtain ⟨r, rfl⟩ : ∃ r : Nat, x1 = r := ⟨x1.toNat, by omega⟩
    have r4 : r < 4 := by omega
    by_cases c1 : x2 < 0
    · refine both_q (-3) h (fun K hK => ?_) (fun J f hJ K hK => ?_)
      · refine e121 ?_
        unfold D121_0
        refine k_isRow ⟨_, rfl, ?_⟩
        rw [b2i_t c0, if_neg (by decide), if_pos c1]
        exact hK I FS_refl
      · refine e247 ?_
        unfold D247_0
        refine m_isRow ⟨_, rfl, ?_⟩
        rw [b2i_t c0, if_neg (by decide)]
        refine ⟨by omega, ?_⟩
        split
        · exact hK J FS_refl
        · exact hK J FS_refl
    · obtain ⟨i, rfl⟩ : ∃ r : Nat, x2 = r := ⟨x2.toNat, by omega⟩
      rcases h.2.2.2.2.2.2 r r4 with ⟨z1, z2⟩ | ⟨z1, z2, z3, z4⟩
      · refine both_q (-3) h (fun K hK => ?_) (fun J f hJ K hK => ?_)
        · refine e121 ?_
          unfold D121_0
          refine k_isRow ⟨_, rfl, ?_⟩
          rw [b2i_t c0, if_neg (by decide), if_neg c1]
          refine e122 ?_
          unfold D122_0
          refine g122_5 _ _ _ _ I _ ?_
          unfold D122_5
          rw [Int.toNat_natCast, if_pos (by omega), if_pos (by decide)]
          refine ⟨by omega, _, rfl, ?_⟩
          rw [if_pos rfl]
          exact hK I FS_refl
        · refine e247 ?_
          unfold D247_0
          refine m_isRow ⟨_, rfl, ?_⟩
          rw [b2i_t c0, if_neg (by decide), Int.toNat_natCast, f 250 r (by unfold SCR; omega), if_pos (by omega)]
          exact ⟨by omega, hK J FS_refl⟩
      · obtain ⟨n, hn⟩ : ∃ n : Nat, I 250 r = n := ⟨(I 250 r).toNat, by omega⟩
        rw [hn] at z1 z2 z3 z4
        by_cases c4 : 4 ≤ ct (fun k => I 251 (40 * r + k)) i (n - i)
        · obtain ⟨T, t1, t2, t3⟩ := ct_least _ c4
          have v0 := jg_V0 (A := fun k => I 251 (40 * r + k)) (i := i) hG T t3
          have hTn : i + T ≤ n := by
            have : T ≠ 0 := fun z => by rw [z] at t2; exact absurd t2 (by show ¬ 4 ≤ 0; omega)
            omega
          have tu : ∀ t, 4 ≤ ct (fun k => I 251 (40 * r + k)) i t → (∀ t', t' < t → ct (fun k => I 251 (40 * r + k)) i t' < 4) → t = T := fun t a b => by
            rcases Nat.lt_trichotomy t T with y | y | y
            · have := t3 t y; omega
            · exact y
            · have := b T y; omega
          have khead : ∀ K : Option AV → IM → Prop, (∀ J', (∀ p j, (p < 72 ∨ 77 < p) → J' p j = I p j) → ((jgF (I 238) (fun k => I 251 (40 * r + k)) i T).1 = 0 → K (some (vI (-2))) J') ∧ ((jgF (I 238) (fun k => I 251 (40 * r + k)) i T).1 = 1 → AF (jgF (I 238) (fun k => I 251 (40 * r + k)) i T).2 J' → CALL S0 46 [vR 193, vR 71] J' (fun v I11 => ∃ y12 : Int, v = some (vI y12) ∧ (if y12 = -1 then (K (some (vI (-7))) I11) else (K (some (vI y12)) I11))))) → CALL S0 121 [vR 0, vI (r : Int), vI (i : Int)] I K := by
            intro K hK
            refine e121 ?_
            unfold D121_0
            refine k_isRow ⟨_, rfl, ?_⟩
            rw [b2i_t c0, if_neg (by decide), if_neg c1]
            refine c_ends (A := fun k => I 251 (40 * r + k)) r4 z1 (by omega) hx2 (fun k hk => z4 k (by omega)) ⟨_, rfl, ?_⟩
            rw [b2i_t c4, if_neg (by decide)]
            refine c_think hG hC r4 z1 (by omega) (fun k hk => z4 k (by omega)) hTn t2 t3 fun J' f' => ⟨fun q => ⟨_, rfl, ?_⟩, fun q af => ⟨_, rfl, ?_⟩⟩
            · rw [if_pos rfl]; exact (hK J' f').1 q
            · rw [if_neg (by decide)]; exact (hK J' f').2 q af
          have mhead : ∀ J, FS I J → ∀ K : Option AV → IM → Prop, (∀ J', FS J J' → J' 238 = J 238 → ((jgF (I 238) (fun k => I 251 (40 * r + k)) i T).1 = 0 → K (some (vI (-2))) J') ∧ ((jgF (I 238) (fun k => I 251 (40 * r + k)) i T).1 = 1 → TQ (jgF (I 238) (fun k => I 251 (40 * r + k)) i T).2 J' → CALL S0 158 [vR 237, vR 242] J' (fun v I4 => ∃ y5 : Int, v = some (vI y5) ∧ (if y5 = 0 then (K (some (vI (-7))) I4) else (CALL S0 194 [vR 237, vR 242] I4 (fun v I7 => ∃ y8 : Int, v = some (vI y8) ∧ K (some (vI y8)) I7)))))) → CALL S0 247 [vR 237, vI (r : Int), vI (i : Int)] J K := by
            intro J f K hK
            have e5 : J 238 = I 238 := fs238 f
            have mJ : MF (I 238) (LM I 238 114) J := MF_238 (rel_MF h) e5
            have n250 : J 250 r = n := (f 250 r (by unfold SCR; omega)).trans hn
            have a251 : ∀ k, J 251 k = I 251 k := fun k => f 251 k (by unfold SCR; omega)
            refine e247 ?_
            unfold D247_0
            refine m_isRow ⟨_, rfl, ?_⟩
            rw [b2i_t c0, if_neg (by decide), Int.toNat_natCast, n250, if_neg (by omega), if_neg c1]
            refine ⟨by omega, n_ends (A := fun k => I 251 (40 * r + k)) r4 n250 (by omega) hx2 (fun k hk => a251 _) (fun t _ a b => ⟨_, rfl, ?_⟩) (fun z => by have := z _ (Nat.le_refl _); omega)⟩
            rw [if_pos (by omega)]
            refine n_empties fun J1 f1 q1 => ⟨rfl, fun I11 e11 => ?_⟩
            have key : ∀ s t : Nat, t + s = T → ∀ L, (∀ p j, p ≠ 242 → (p ≠ 237 ∨ j ≠ 19) → L p j = J p j) → (jgF (I 238) (fun k => I 251 (40 * r + k)) i t).1 = 1 → TQ (jgF (I 238) (fun k => I 251 (40 * r + k)) i t).2 L → BT (jgF (I 238) (fun k => I 251 (40 * r + k)) i t).2 (L 237 19) → ∀ u : AV, GO S0 247 48 [vR 237, vI (r : Int), vI (i : Int), vI (ct (fun k => I 251 (40 * r + k)) i t : Nat), vI (t : Int), u] [] L K := by
              intro s
              induction s with
              | zero =>
                intro t e L fL ok tq bb u
                refine g247_48 _ _ _ _ _ L K ?_
                unfold D247_48
                refine n_ends (A := fun k => I 251 (40 * r + k)) r4 ((fL 250 r (by decide) (by omega)).trans n250) (by omega) hx2 (fun k hk => (fL 251 _ (by decide) (by omega)).trans (a251 _)) (fun t' _ a b => ⟨_, rfl, ?_⟩) (fun z => by have := z _ (Nat.le_refl _); omega)
                have := tu t' a b
                rw [if_pos (by omega)]
                rw [show t = T by omega] at ok tq
                exact (hK L (fun o k a => by unfold SCR at a; exact fL o k (by omega) (by omega)) (funext fun k => fL 238 k (by decide) (by omega))).2 ok tq
              | succ s ih =>
                intro t e L fL ok tq bb u
                refine g247_48 _ _ _ _ _ L K ?_
                unfold D247_48 inR
                refine n_ends (A := fun k => I 251 (40 * r + k)) r4 ((fL 250 r (by decide) (by omega)).trans n250) (by omega) hx2 (fun k hk => (fL 251 _ (by decide) (by omega)).trans (a251 _)) (fun t' _ a b => ⟨_, rfl, ?_⟩) (fun z => by have := z _ (Nat.le_refl _); omega)
                have ett := tu t' a b
                have c4' := t3 t (by omega)
                rw [if_neg (by omega), show (40 * (r : Int) + (i : Int) + (t : Int)).toNat = 40 * r + (i + t) by omega, fL 251 _ (by decide) (by omega), a251]
                have M := MF_238 mJ (J' := L) (funext fun k => fL 238 k (by decide) (by omega))
                have ej : jgF (I 238) (fun k => I 251 (40 * r + k)) i (t + 1) = if (jgF (I 238) (fun k => I 251 (40 * r + k)) i t).1 = 0 ∨ I 251 (40 * r + (i + t)) = -1 then jgF (I 238) (fun k => I 251 (40 * r + k)) i t else if (0 ≤ I 251 (40 * r + (i + t)) ∧ I 251 (40 * r + (i + t)) < I 238 5) ∧ vanF (jgF (I 238) (fun k => I 251 (40 * r + k)) i t).2 (I 251 (40 * r + (i + t))) < 0 then (1, setR (jgF (I 238) (fun k => I 251 (40 * r + k)) i t).2 (ct (fun k => I 251 (40 * r + k)) i t) ((jgF (I 238) (fun k => I 251 (40 * r + k)) i t).2 (ct (fun k => I 251 (40 * r + k)) i t) ++ [I 251 (40 * r + (i + t))])) else (0, (jgF (I 238) (fun k => I 251 (40 * r + k)) i t).2) := rfl
                have ec : ct (fun k => I 251 (40 * r + k)) i (t + 1) = ct (fun k => I 251 (40 * r + k)) i t + (if I 251 (40 * r + (i + t)) = -1 then 1 else 0) := rfl
                have vt := jg_V0 (A := fun k => I 251 (40 * r + k)) (i := i) hG t (fun t' h' => t3 t' (by omega))
                have bad : jgF (I 238) (fun k => I 251 (40 * r + k)) i (t + 1) = (0, (jgF (I 238) (fun k => I 251 (40 * r + k)) i t).2) → K (some (vI (-2))) L := fun eb => by
                  refine (hK L (fun o k a => by unfold SCR at a; exact fL o k (by omega) (by omega)) (funext fun k => fL 238 k (by decide) (by omega))).1 ?_
                  have := jg_stop (G := I 238) (A := fun k => I 251 (40 * r + k)) (i := i) (t := t + 1) (by rw [eb]) (T - (t + 1))
                  rw [show t + 1 + (T - (t + 1)) = T by omega] at this
                  rw [this, eb]
                unfold inR at hx2
                refine ⟨by omega, by omega, by omega, by omega, ?_⟩
                generalize hx : I 251 (40 * r + (i + t)) = x at *
                by_cases c : x = -1
                · rw [if_pos c] at ec ⊢
                  rw [if_pos (Or.inr c)] at ej
                  refine ⟨by omega, by omega, ?_⟩
                  have := ih (t + 1) (by omega) L fL (by rw [ej]; exact ok) (by rw [ej]; exact tq) (by rw [ej]; exact bb) (vI x)
                  rw [ec, show ((t + 1 : Nat) : Int) = (t : Int) + 1 by omega] at this
                  exact this
                · rw [if_neg c] at ec ⊢
                  rw [if_neg (by omega)] at ej
                  refine n_isOrder hG M ⟨_, rfl, ?_⟩
                  by_cases co : 0 ≤ x ∧ x < I 238 5
                  · rw [b2i_t co, if_neg (by decide)]
                    have b1 := BT_1 bb (x := x) (by omega)
                    by_cases cv : vanF (jgF (I 238) (fun k => I 251 (40 * r + k)) i t).2 x < 0
                    · rw [if_neg (fun z => (b1.mp z) cv)]
                      rw [if_pos ⟨co, cv⟩] at ej
                      intro I18 e18
                      have f18 : ∀ p j, (p ≠ 237 ∨ j ≠ 19) → I18 p j = L p j := fun p j a => by rw [e18, iup_ne a]
                      have tq18 := TQ_o tq (J' := I18) (funext fun j => f18 242 j (by omega))
                      obtain ⟨v1, room⟩ := V0_app hG vt c4' co cv
                      refine m_sizeOf s0_242 (by omega) ⟨_, rfl, ?_⟩
                      rw [Int.toNat_natCast, TQ_len tq18 c4']
                      refine m_app c4' tq18 rfl room fun L1 f1 q1 => ⟨rfl, by omega, ?_⟩
                      have := ih (t + 1) (by omega) L1 (fun p j a b => by rw [f1 p j a, f18 p j b]; exact fL p j a b) (by rw [ej]) (by rw [ej]; exact q1) (by
                        rw [ej, f1 237 19 (by decide), e18, iup_same]
                        exact BT_app (G := I 238) bb c4' (by omega)) (vI x)
                      rw [ec, show ((t + 1 : Nat) : Int) = (t : Int) + 1 by omega] at this
                      exact this
                    · rw [if_pos (b1.mpr cv)]
                      rw [if_neg (fun z => cv z.2)] at ej
                      exact bad ej
                  · rw [b2i_f co, if_pos rfl]
                    rw [if_neg (fun z => co z.1)] at ej
                    exact bad ej
            exact key T 0 (Nat.zero_add _) I11 (fun p j a b => by rw [e11, iup_ne b, f1 p j a]) rfl (TQ_o q1 (funext fun j => by rw [e11, iup_ne (Or.inl (by decide))])) (by rw [e11, iup_same]; exact BT_0) vU
          rcases @jg_01 (I 238) (fun k => I 251 (40 * r + k)) i T with ok | ok
          · exact both_q (-2) h (fun K hK => khead K fun J' f' => ⟨fun _ => hK J' (fun o k a => by unfold SCR at a; exact f' o k (by omega)), fun q => by omega⟩) (fun J f hJ K hK => mhead J f K fun J' f' _ => ⟨fun _ => hK J' f', fun q => by omega⟩)
          · by_cases gd : ∀ v, v < 4 → gdV (I 238) v ((jgF (I 238) (fun k => I 251 (40 * r + k)) i T).2 v)
            · have V' := V0_VR v0 gd
              refine both_q (csA (I 238) (jgF (I 238) (fun k => I 251 (40 * r + k)) i T).2) h (fun K hK => khead K fun J' f' => ⟨fun q => by omega, fun _ af => ?_⟩) (fun J f hJ K hK => mhead J f K fun J' f' e' => ⟨fun q => by omega, fun _ tq => ?_⟩)
              · have b := csA_b hG V'.1 (VR_R12 hG V')
                refine c_costAll rd71 hG V' (BK_fp hC.1 (fun o k ho => f' o k (by omega))) af.1 af.2 fun J2 f2 => ⟨_, rfl, ?_⟩
                rw [if_neg (by omega)]
                exact hK J2 (fun o k a => by unfold SCR at a; rw [f2 o k (by omega)]; exact f' o k (by omega))
              · have lo : ∀ k, k < 114 → J' 238 k = I 238 k := fun k _ => by rw [e', fs238 f]
                refine n_isGood hG lo tq.1 (VR_R12 hG V') tq.2 fun J2 f2 => ⟨fun _ => ⟨_, rfl, ?_⟩, fun z => absurd gd z⟩
                rw [if_neg (by decide)]
                have tq2 := TQ_o tq (J' := J2) (FD_o f2 (by decide) (by decide))
                exact n_costOf (Or.inr rfl) hG (fun k hk => by rw [FD_o f2 (o := 238) (by decide) (by decide)]; exact lo k hk) tq2.1 (VR_R12 hG V') tq2.2 fun J3 f3 => ⟨_, rfl, hK J3 (FS_trans f' (FS_fd (FD_trans f2 f3)))⟩
            · refine both_q (-7) h (fun K hK => khead K fun J' f' => ⟨fun q => by omega, fun _ af => ?_⟩) (fun J f hJ K hK => mhead J f K fun J' f' e' => ⟨fun q => by omega, fun _ tq => ?_⟩)
              · refine k_costOfAll rd71 hG (BK_fp hC.1 (fun o k ho => f' o k (by omega))) af.1 (oc_of (V0_R12 hG v0) af.2) fun J2 f2 => ⟨fun z => absurd (fun v hv => by have := z v hv; rw [af.2 v hv] at this; exact this) gd, fun _ => ⟨_, rfl, ?_⟩⟩
                rw [if_pos rfl]
                exact hK J2 (fun o k a => by unfold SCR at a; rw [f2 o k (by omega)]; exact f' o k (by omega))
              · have lo : ∀ k, k < 114 → J' 238 k = I 238 k := fun k _ => by rw [e', fs238 f]
                refine n_isGood hG lo tq.1 (V0_R12 hG v0) tq.2 fun J2 f2 => ⟨fun z => absurd z gd, fun _ => ⟨_, rfl, ?_⟩⟩
                rw [if_pos rfl]
                exact hK J2 (FS_trans f' (FS_fd f2))
        · refine both_q (-3) h (fun K hK => ?_) (fun J f hJ K hK => ?_)
          · refine e121 ?_
            unfold D121_0
            refine k_isRow ⟨_, rfl, ?_⟩
            rw [b2i_t c0, if_neg (by decide), if_neg c1]
            refine c_ends (A := fun k => I 251 (40 * r + k)) r4 z1 (by omega) hx2 (fun k hk => z4 k (by omega)) ⟨_, rfl, ?_⟩
            rw [b2i_f c4, if_pos rfl]
            exact hK I FS_refl
          · have n250 : J 250 r = n := (f 250 r (by unfold SCR; omega)).trans hn
            refine e247 ?_
            unfold D247_0
            refine m_isRow ⟨_, rfl, ?_⟩
            rw [b2i_t c0, if_neg (by decide), Int.toNat_natCast, n250, if_neg (by omega), if_neg c1]
            refine ⟨by omega, n_ends (A := fun k => I 251 (40 * r + k)) r4 n250 (by omega) hx2 (fun k hk => f 251 _ (by unfold SCR; omega)) (fun t a b _ => ?_) (fun _ => ⟨_, rfl, ?_⟩)⟩
            · exfalso
              have := ct_mono (A := fun k => I 251 (40 * r + k)) (i := i) (t := t) (n - i - t)
              rw [show t + (n - i - t) = n - i by omega] at this
              omega
            · rw [if_neg (by decide)]
              exact hK J FS_refl
  · refine both_q (-1) h (fun K hK => ?_) (fun J f hJ K hK => ?_)
    · refine e121 ?_
      unfold D121_0
      refine k_isRow ⟨_, rfl, ?_⟩
      rw [b2i_f c0, if_pos rfl]
      exact hK I FS_refl
    · refine e247 ?_
      unfold D247_0
      refine m_isRow ⟨_, rfl, ?_⟩
      rw [b2i_f c0, if_pos rfl]
      exact hK J FS_refl
