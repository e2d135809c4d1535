/-! level 2: the depot, orders, loads, vans -/
def ab (x y : Int) : Int := if 0 ≤ x - y then x - y else -(x - y)
theorem ab_sym {x y : Int} : ab x y = ab y x := by unfold ab; split <;> split <;> omega
/-- the class' ways are those of its places -/
def WSC (I : IM) : Prop := ∀ a b, a < 13 → b < 13 → I (11 + a) b = ab (I 2 a) (I 2 b) + ab (I 3 a) (I 3 b)
theorem WSC_fr {I I' : IM} (h : WSC I) (f : ∀ o k, (o = 2 ∨ o = 3 ∨ 11 ≤ o) → o ≤ 23 → I' o k = I o k) : WSC I' := fun a b ha hb => by
  rw [f (11 + a) b (by omega) (by omega), f 2 a (by omega) (by omega), f 2 b (by omega) (by omega), f 3 a (by omega) (by omega), f 3 b (by omega) (by omega)]
  exact h a b ha hb
theorem BK_xy {I : IM} {G : Nat → Int} (h : ∀ o, o < 12 → ∀ w, w < 8 → I (1 + 1 + w) o = G (6 + 8 * o + w)) (h3 : I (1 + 1) 12 = G 0 ∧ I (1 + 2) 12 = G 1) {a : Nat} (ha : a < 13) : I 2 a = nx G (dc a) ∧ I 3 a = ny G (dc a) := by
  unfold nx ny dc
  by_cases c : a < 12
  · rw [if_pos c, if_pos (by omega), if_pos (by omega), Int.toNat_natCast]
    exact ⟨h a c 0 (by omega), h a c 1 (by omega)⟩
  · rw [if_neg c, if_neg (by omega), if_neg (by omega), show a = 12 by omega]
    exact h3
theorem BK_ws {I : IM} {G : Nat → Int} (h : BK I G) : WSC I := fun a b ha hb => by
  have e := h.2.2.2.2.1 a b ha hb
  have ea := BK_xy h.2.1 h.2.2.1 ha
  have eb := BK_xy h.2.1 h.2.2.1 hb
  rw [ea.1, ea.2, eb.1, eb.2]
  exact e
theorem BK_mk {I : IM} {G : Nat → Int} (h1 : I 1 0 = G 5) (h2 : ∀ o, o < 12 → ∀ w, w < 8 → I (1 + 1 + w) o = G (6 + 8 * o + w)) (h3 : I (1 + 1) 12 = G 0 ∧ I (1 + 2) 12 = G 1) (h4 : I (1 + 3) 12 = 0 ∧ I (1 + 5) 12 = 0 ∧ I (1 + 6) 12 = 0 ∧ I (1 + 7) 12 = 0) (h5 : WSC I) (h6 : ∀ v, v < 4 → I (24 + 1) v = G (102 + 3 * v) ∧ I (24 + 2) v = G (103 + 3 * v) ∧ I (24 + 3) v = G (104 + 3 * v)) (h7 : ∀ w, w < 3 → I (24 + 4) w = G (2 + w)) : BK I G := by
  refine ⟨h1, h2, h3, h4, fun a b ha hb => ?_, h6, h7⟩
  have e := h5 a b ha hb
  have ea := BK_xy h2 h3 ha
  have eb := BK_xy h2 h3 hb
  rw [ea.1, ea.2, eb.1, eb.2] at e
  exact e
theorem k_placeAt {p : Nat} {x y : Int} {I : IM} {K : Option AV → IM → Prop} (hp : p < 13) (hx : 0 ≤ x ∧ x ≤ 40) (hy : 0 ≤ y ∧ y ≤ 40) (hI : ∀ q, q < 13 → 0 ≤ I 2 q ∧ I 2 q ≤ 40 ∧ 0 ≤ I 3 q ∧ I 3 q ≤ 40) (hw : WSC I) (h : ∀ I', (∀ o k, (o ≠ 2 ∨ k ≠ p) → (o ≠ 3 ∨ k ≠ p) → (o < 11 ∨ 23 < o) → I' o k = I o k) → I' 2 p = x → I' 3 p = y → WSC I' → K none I') : CALL S0 16 [vR 1, vI (p : Int), vI x, vI y] I K := by
  refine e16 (Or.inl rfl) ?_
  unfold D16_0
  rw [Int.toNat_natCast]
  refine ⟨by omega, fun I2 e2 I3 e3 => ?_⟩
  have key : ∀ t j : Nat, j + t = 13 → ∀ J : IM, (∀ o k, (o ≠ 2 ∨ k ≠ p) → (o ≠ 3 ∨ k ≠ p) → (o < 11 ∨ 23 < o) → J o k = I o k) → J 2 p = x → J 3 p = y → (∀ a b, a < 13 → b < 13 → a ≠ p → b ≠ p → J (11 + a) b = I (11 + a) b) → (∀ q, q < j → J (11 + p) q = ab x (J 2 q) + ab y (J 3 q) ∧ J (11 + q) p = ab x (J 2 q) + ab y (J 3 q)) → ∀ u : AV, GO S0 16 17 [vR 1, vI (p : Int), vI x, vI y, vI (j : Int), u] [] J K := by
    intro t
    induction t with
    | zero =>
      intro j e J f jx jy jo jn u
      refine g16_17 1 (Or.inl rfl) _ _ _ _ _ J K ?_
      unfold D16_17
      rw [if_pos (by omega)]
      refine h J f jx jy fun a b ha hb => ?_
      by_cases ca : a = p
      · rw [ca, (jn b (by omega)).1, jx, jy]
      · by_cases cb : b = p
        · rw [cb, (jn a (by omega)).2, jx, jy, @ab_sym x, @ab_sym y]
        · rw [jo a b ha hb ca cb, hw a b ha hb, f 2 a (by omega) (by omega) (by omega), f 2 b (by omega) (by omega) (by omega), f 3 a (by omega) (by omega) (by omega), f 3 b (by omega) (by omega) (by omega)]
    | succ t ih =>
      intro j e J f jx jy jo jn u
      refine g16_17 1 (Or.inl rfl) _ _ _ _ _ J K ?_
      unfold D16_17 inR
      have b : 0 ≤ J 2 j ∧ J 2 j ≤ 40 ∧ 0 ≤ J 3 j ∧ J 3 j ≤ 40 := by
        by_cases c : j = p
        · rw [c, jx, jy]; omega
        · rw [f 2 j (by omega) (by omega) (by omega), f 3 j (by omega) (by omega) (by omega)]; exact hI j (by omega)
      rw [if_neg (by omega), Int.toNat_natCast, Int.toNat_natCast, show J (1 + 1) j = J 2 j from rfl, show J (1 + 2) j = J 3 j from rfl, show (if 0 ≤ x - J 2 j then x - J 2 j else -(x - J 2 j)) = ab x (J 2 j) from rfl, show (if 0 ≤ y - J 3 j then y - J 3 j else -(y - J 3 j)) = ab y (J 3 j) from rfl]
      have b1 : 0 ≤ ab x (J 2 j) ∧ ab x (J 2 j) ≤ 40 := by unfold ab; split <;> omega
      have b2 : 0 ≤ ab y (J 3 j) ∧ ab y (J 3 j) ≤ 40 := by unfold ab; split <;> omega
      refine ⟨by omega, by omega, by omega, by omega, by omega, by omega, by omega, fun I9 e9 I10 e10 => ⟨by omega, ?_⟩⟩
      rw [show 1 + 10 + p = 11 + p by omega] at e9
      rw [show 1 + 10 + j = 11 + j by omega] at e10
      have z : ∀ o k, ¬ (o = 11 + p ∧ k = j) → ¬ (o = 11 + j ∧ k = p) → I10 o k = J o k := fun o k h1 h2 => by
        rw [e10, iup_ne (by omega), e9, iup_ne (by omega)]
      have zz : I10 (11 + p) j = ab x (J 2 j) + ab y (J 3 j) := by
        rw [e10]
        by_cases c : j = p
        · rw [c, iup_same]
        · rw [iup_ne (Or.inl (by omega)), e9, iup_same]
      have z2 : I10 (11 + j) p = ab x (J 2 j) + ab y (J 3 j) := by rw [e10, iup_same]
      have z3 : ∀ q, I10 2 q = J 2 q ∧ I10 3 q = J 3 q := fun q => ⟨z 2 q (by omega) (by omega), z 3 q (by omega) (by omega)⟩
      have := ih (j + 1) (by omega) I10 (fun o k h1 h2 h3 => by rw [z o k (by omega) (by omega)]; exact f o k h1 h2 h3) (by rw [(z3 p).1]; exact jx) (by rw [(z3 p).2]; exact jy) (fun a b ha hb ca cb => by rw [z _ _ (by omega) (by omega)]; exact jo a b ha hb ca cb) (fun q hq => by
        rw [(z3 q).1, (z3 q).2]
        by_cases c : q = j
        · rw [c]; exact ⟨zz, z2⟩
        · by_cases c2 : q = p
          · have := jn q (by omega)
            rw [c2] at this c hq ⊢
            rw [z _ _ (by omega) (by omega)]
            exact this
          · by_cases c3 : j = p
            · rw [z _ _ (by omega) (by omega), z _ _ (by omega) (by omega)]; exact jn q (by omega)
            · rw [z _ _ (by omega) (by omega), z _ _ (by omega) (by omega)]; exact jn q (by omega)) (vI (ab x (J 2 j) + ab y (J 3 j)))
      rw [show ((j + 1 : Nat) : Int) = (j : Int) + 1 by omega] at this
      exact this
  refine key 13 0 rfl I3 (fun o k h1 h2 h3 => by rw [e3, e2, iup_ne (by omega), iup_ne (by omega)]) (by rw [e3, e2]; simp [iup]) (by rw [e3]; simp [iup]) (fun a b ha hb _ _ => by rw [e3, e2, iup_ne (by omega), iup_ne (by omega)]) (fun q hq => by omega) _
theorem k_forget {I : IM} {K : Option AV → IM → Prop} (h : K none (iup I 78 2 0)) : CALL S0 17 [vR 78] I K := by
  refine e17 ?_
  unfold D17_0
  intro I1 e
  rw [e]
  exact h
theorem m_forgets {x : Int} {I : IM} {K : Option AV → IM → Prop} (h : K (some (vI x)) (iup I 237 4 0)) : CALL S0 133 [vR 237, vI x] I K := by
  refine e133 ?_
  unfold D133_0
  intro I1 e
  rw [e]
  exact h
theorem k_stopsInAll {r : Nat} {I : IM} {K : Option AV → IM → Prop} (hr : isRd r) (hs : SZC I r) (h : K (some (vI (I (r + 1) 0 + I (r + 1) 1 + I (r + 1) 2 + I (r + 1) 3))) I) : CALL S0 15 [vR r] I K := by
  refine e15 hr ?_
  unfold D15_0 inR
  have h0 := hs 0 (by omega)
  have h1 := hs 1 (by omega)
  have h2 := hs 2 (by omega)
  have h3 := hs 3 (by omega)
  exact ⟨by omega, by omega, by omega, h⟩
theorem m_isEmpty {I : IM} {K : Option AV → IM → Prop} (hs : SZM I 238 114) (h : K (some (vI (b2i (I 238 114 + I 238 127 + I 238 140 + I 238 153 = 0)))) I) : CALL S0 131 [vR 237] I K := by
  refine e131 ?_
  unfold D131_0 inR
  have h0 := hs 0 (by omega)
  have h1 := hs 1 (by omega)
  have h2 := hs 2 (by omega)
  have h3 := hs 3 (by omega)
  simp only [Nat.mul_zero, Nat.mul_one, Nat.add_zero, Nat.reduceMul, Nat.reduceAdd] at h0 h1 h2 h3
  refine m_stopsOf (x1 := 0) (by omega) ⟨_, rfl, m_stopsOf (x1 := 1) (by omega) ⟨_, rfl, ?_, m_stopsOf (x1 := 2) (by omega) ⟨_, rfl, ?_, m_stopsOf (x1 := 3) (by omega) ⟨_, rfl, ?_, ?_⟩⟩⟩⟩
  · show -2147483648 ≤ I 238 114 + I 238 127 ∧ I 238 114 + I 238 127 ≤ 2147483647
    omega
  · show -2147483648 ≤ I 238 114 + I 238 127 + I 238 140 ∧ I 238 114 + I 238 127 + I 238 140 ≤ 2147483647
    omega
  · show -2147483648 ≤ I 238 114 + I 238 127 + I 238 140 + I 238 153 ∧ I 238 114 + I 238 127 + I 238 140 + I 238 153 ≤ 2147483647
    omega
  · show (if I 238 114 + I 238 127 + I 238 140 + I 238 153 = 0 then K (some (vI 1)) I else K (some (vI 0)) I)
    unfold b2i at h
    split
    · rename_i c; rw [if_pos c] at h; exact h
    · rename_i c; rw [if_neg c] at h; exact h
/-- the class' order that enters -/
theorem k_enter {n : Nat} {x y o c s : Int} {I : IM} {K : Option AV → IM → Prop} (hn : I 1 0 = n) (h12 : n < 12) (hx : 0 ≤ x ∧ x ≤ 40) (hy : 0 ≤ y ∧ y ≤ 40) (hI : ∀ q, q < 13 → 0 ≤ I 2 q ∧ I 2 q ≤ 40 ∧ 0 ≤ I 3 q ∧ I 3 q ≤ 40) (hw : WSC I) (h : ∀ I', (∀ o k, (o ≠ 1 ∨ k ≠ 0) → (o < 2 ∨ 9 < o ∨ k ≠ n) → (o < 11 ∨ 23 < o) → I' o k = I o k) → I' 1 0 = (n : Int) + 1 → I' 2 n = x → I' 3 n = y → I' 4 n = o → I' 5 n = c → I' 6 n = s → I' 7 n = 0 → I' 8 n = 0 → I' 9 n = 500 → WSC I' → K (some (vI (n : Int))) I') : CALL S0 19 [vR 1, vI x, vI y, vI o, vI c, vI s] I K := by
  refine e19 (Or.inl rfl) ?_
  unfold D19_0 inR
  rw [hn, if_pos (by omega), Int.toNat_natCast]
  refine ⟨by omega, fun I3 e3 => ?_⟩
  have q3 : ∀ o k, (o ≠ 1 ∨ k ≠ 0) → I3 o k = I o k := fun o k a => by rw [e3, iup_ne a]
  refine k_placeAt (by omega) hx hy (fun q hq => by rw [q3 2 q (by omega), q3 3 q (by omega)]; exact hI q hq) (WSC_fr hw (fun o k a b => q3 o k (by omega))) fun I4 f4 x4 y4 w4 => ⟨rfl, by omega, fun I6 e6 I7 e7 I8 e8 I9 e9 I10 e10 I11 e11 => ?_⟩
  rw [show (1 + 3 : Nat) = 4 from rfl] at e6
  rw [show (1 + 4 : Nat) = 5 from rfl] at e7
  rw [show (1 + 5 : Nat) = 6 from rfl] at e8
  rw [show (1 + 6 : Nat) = 7 from rfl] at e9
  rw [show (1 + 7 : Nat) = 8 from rfl] at e10
  rw [show (1 + 8 : Nat) = 9 from rfl] at e11
  have z : ∀ q k, (q < 4 ∨ 9 < q ∨ k ≠ n) → I11 q k = I4 q k := fun q k a => by rw [e11, e10, e9, e8, e7, e6, iup_ne (by omega), iup_ne (by omega), iup_ne (by omega), iup_ne (by omega), iup_ne (by omega), iup_ne (by omega)]
  refine h I11 (fun q k a b d => by rw [z q k (by omega), f4 q k (by omega) (by omega) d, q3 q k a]) ?_ ?_ ?_ ?_ ?_ ?_ ?_ ?_ ?_ ?_
  · rw [z 1 0 (by omega), f4 1 0 (by omega) (by omega) (by omega), e3, iup_same]
  · rw [z 2 n (by omega)]; exact x4
  · rw [z 3 n (by omega)]; exact y4
  · rw [e11, e10, e9, e8, e7, e6]; simp [iup]
  · rw [e11, e10, e9, e8, e7]; simp [iup]
  · rw [e11, e10, e9, e8]; simp [iup]
  · rw [e11, e10, e9]; simp [iup]
  · rw [e11, e10]; simp [iup]
  · rw [e11]; simp [iup]
  · exact WSC_fr w4 (fun q k a b => z q k (by omega))
/-- the model's order that is added -/
theorem m_adds {n : Nat} {x y o c s d u : Int} {I : IM} {K : Option AV → IM → Prop} (hn : I 238 5 = n) (h12 : n < 12) (h : ∀ I', (∀ q k, (q ≠ 238 ∨ (k ≠ 5 ∧ (k < 6 + 8 * n ∨ 14 + 8 * n ≤ k))) → I' q k = I q k) → I' 238 5 = (n : Int) + 1 → I' 238 (6 + 8 * n + 0) = x → I' 238 (6 + 8 * n + 1) = y → I' 238 (6 + 8 * n + 2) = o → I' 238 (6 + 8 * n + 3) = c → I' 238 (6 + 8 * n + 4) = s → I' 238 (6 + 8 * n + 5) = d → I' 238 (6 + 8 * n + 6) = u → I' 238 (6 + 8 * n + 7) = 500 → K none I') : CALL S0 135 [vR 237, vI x, vI y, vI o, vI c, vI s, vI d, vI u] I K := by
  refine e135 ?_
  unfold D135_0 inR
  rw [hn]
  have t : ∀ j : Nat, (6 + 8 * (n : Int) + (j : Int)).toNat = 6 + 8 * n + j := fun j => by omega
  refine ⟨by omega, by omega, by omega, fun I4 e4 => ⟨by omega, by omega, fun I7 e7 => ⟨by omega, by omega, fun I10 e10 => ⟨by omega, by omega, fun I13 e13 => ⟨by omega, by omega, fun I16 e16 => ⟨by omega, by omega, fun I19 e19 => ⟨by omega, by omega, fun I22 e22 => ⟨by omega, by omega, fun I25 e25 => ?_⟩⟩⟩⟩⟩⟩⟩⟩
  rw [show (6 + 8 * (n : Int)).toNat = 6 + 8 * n + 0 by omega] at e4
  rw [show (6 + 8 * (n : Int) + 1).toNat = 6 + 8 * n + 1 by omega] at e7
  rw [show (6 + 8 * (n : Int) + 2).toNat = 6 + 8 * n + 2 by omega] at e10
  rw [show (6 + 8 * (n : Int) + 3).toNat = 6 + 8 * n + 3 by omega] at e13
  rw [show (6 + 8 * (n : Int) + 4).toNat = 6 + 8 * n + 4 by omega] at e16
  rw [show (6 + 8 * (n : Int) + 5).toNat = 6 + 8 * n + 5 by omega] at e19
  rw [show (6 + 8 * (n : Int) + 6).toNat = 6 + 8 * n + 6 by omega] at e22
  rw [show (6 + 8 * (n : Int) + 7).toNat = 6 + 8 * n + 7 by omega] at e25
  have z : ∀ q k, (q ≠ 238 ∨ (k < 6 + 8 * n ∨ 14 + 8 * n ≤ k)) → I25 q k = I q k := fun q k a => by
    rw [e25, e22, e19, e16, e13, e10, e7, e4, iup_ne (by omega), iup_ne (by omega), iup_ne (by omega), iup_ne (by omega), iup_ne (by omega), iup_ne (by omega), iup_ne (by omega), iup_ne (by omega)]
  rw [z 238 5 (by omega), hn]
  refine ⟨by omega, fun I27 e27 => ?_⟩
  have y5 : ∀ k, k ≠ 5 → I27 238 k = I25 238 k := fun k hk => by rw [e27, iup_ne (Or.inr hk)]
  refine h I27 (fun q k a => by rw [e27, iup_ne (by omega), z q k (by omega)]) (by rw [e27, iup_same]) ?_ ?_ ?_ ?_ ?_ ?_ ?_ ?_
  · rw [y5 _ (by omega), e25, iup_ne (by omega), e22, iup_ne (by omega), e19, iup_ne (by omega), e16, iup_ne (by omega), e13, iup_ne (by omega), e10, iup_ne (by omega), e7, iup_ne (by omega), e4, iup_same]
  · rw [y5 _ (by omega), e25, iup_ne (by omega), e22, iup_ne (by omega), e19, iup_ne (by omega), e16, iup_ne (by omega), e13, iup_ne (by omega), e10, iup_ne (by omega), e7, iup_same]
  · rw [y5 _ (by omega), e25, iup_ne (by omega), e22, iup_ne (by omega), e19, iup_ne (by omega), e16, iup_ne (by omega), e13, iup_ne (by omega), e10, iup_same]
  · rw [y5 _ (by omega), e25, iup_ne (by omega), e22, iup_ne (by omega), e19, iup_ne (by omega), e16, iup_ne (by omega), e13, iup_same]
  · rw [y5 _ (by omega), e25, iup_ne (by omega), e22, iup_ne (by omega), e19, iup_ne (by omega), e16, iup_same]
  · rw [y5 _ (by omega), e25, iup_ne (by omega), e22, iup_ne (by omega), e19, iup_same]
  · rw [y5 _ (by omega), e25, iup_ne (by omega), e22, iup_same]
  · rw [y5 _ (by omega), e25, iup_same]
