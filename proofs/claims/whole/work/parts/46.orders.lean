/-! level 2: class and model call by call: depot, order, load, van (laid by program) -/
theorem rd29 : isRd 29 := by unfold isRd rdIds; decide
theorem rd64 : isRd 64 := by unfold isRd rdIds; decide
theorem rd71 : isRd 71 := by unfold isRd rdIds; decide
theorem rd197 : isRd 197 := by unfold isRd rdIds; decide
/-- what an order may be -/
def OT (t : Nat → Int) : Prop := (0 ≤ t 0 ∧ t 0 ≤ 40) ∧ (0 ≤ t 1 ∧ t 1 ≤ 40) ∧ (0 ≤ t 2 ∧ t 2 ≤ t 3 ∧ t 3 ≤ 600) ∧ (0 ≤ t 4 ∧ t 4 ≤ 60) ∧ (0 ≤ t 5 ∧ t 5 ≤ 50) ∧ (0 ≤ t 6 ∧ t 6 ≤ 50) ∧ (0 ≤ t 7 ∧ t 7 ≤ 9999)
theorem orders_rel {I I' : IM} {n m : Nat} {T : Nat → Nat → Int} (h : REL I) (hn : I 238 5 = n) (hm : n + m ≤ 12) (hT : ∀ i, i < m → OT (T i))
    (f : ∀ o k, (o ≠ 1 ∨ k ≠ 0) → (o < 2 ∨ 9 < o) → (o < 11 ∨ 23 < o) → (o ≠ 238 ∨ 102 ≤ k ∨ k < 5) → (o ≠ 237 ∨ k ≠ 4) → (o ≠ 78 ∨ k ≠ 2) → I' o k = I o k)
    (c0 : I' 1 0 = (n : Int) + m) (c1 : ∀ w o, w < 8 → o < 13 → I' (2 + w) o = if n ≤ o ∧ o < n + m then T (o - n) w else I (2 + w) o) (c2 : WSC I')
    (g0 : I' 238 5 = (n : Int) + m) (g1 : ∀ w o, w < 8 → o < 12 → I' 238 (6 + 8 * o + w) = if n ≤ o ∧ o < n + m then T (o - n) w else I 238 (6 + 8 * o + w))
    (z : I' 237 4 = 0 ∧ I' 78 2 = 0) : REL I' := by
  have hG := h.1.1
  have g : ∀ k, k < 5 ∨ 102 ≤ k → I' 238 k = I 238 k := fun k hk => f 238 k (by omega) (by omega) (by omega) (by omega) (by omega) (by omega)
  have GR' : GR (I' 238) := by
    refine ⟨by omega, fun o ho => ?_, by rw [g 0 (by omega), g 1 (by omega)]; exact hG.2.2.1, by rw [g 2 (by omega), g 3 (by omega), g 4 (by omega)]; exact hG.2.2.2.1, fun v hv => by rw [g (102 + 3 * v) (by omega), g (103 + 3 * v) (by omega), g (104 + 3 * v) (by omega)]; exact hG.2.2.2.2 v hv⟩
    rw [g1 0 o (by omega) ho, g1 1 o (by omega) ho, g1 2 o (by omega) ho, g1 3 o (by omega) ho, g1 4 o (by omega) ho, g1 5 o (by omega) ho, g1 6 o (by omega) ho, g1 7 o (by omega) ho]
    by_cases c : n ≤ o ∧ o < n + m
    · simp only [if_pos c]
      exact hT (o - n) (by omega)
    · simp only [if_neg c]
      exact hG.2.1 o ho
  refine REL_book h (fun o k a b c d => f o k (by omega) (by omega) (by omega) (by omega) c d) (fun k hk => g k (by omega)) ⟨GR', ?_⟩ (fun R hR _ => VR_ch hR GR' (by omega) (fun v hv _ => ?_)) (Or.inl z)
  · obtain ⟨h1, h2, h3, h4, h5, h6, h7⟩ := h.1.2
    have p : ∀ w, w < 8 → I' (2 + w) 12 = I (2 + w) 12 := fun w hw => by rw [c1 w 12 hw (by omega), if_neg (by omega)]
    refine BK_mk (by omega) (fun o ho w hw => ?_) ⟨?_, ?_⟩ ⟨?_, ?_, ?_, ?_⟩ c2 (fun v hv => ?_) (fun w hw => ?_)
    · rw [show 1 + 1 + w = 2 + w by omega, c1 w o hw (by omega), g1 w o hw ho]
      split
      · rfl
      · exact h2 o ho w hw
    · rw [g 0 (by omega)]; exact (p 0 (by omega)).trans h3.1
    · rw [g 1 (by omega)]; exact (p 1 (by omega)).trans h3.2
    · exact (p 2 (by omega)).trans h4.1
    · exact (p 4 (by omega)).trans h4.2.1
    · exact (p 5 (by omega)).trans h4.2.2.1
    · exact (p 6 (by omega)).trans h4.2.2.2
    · rw [g (102 + 3 * v) (by omega), g (103 + 3 * v) (by omega), g (104 + 3 * v) (by omega), f (24 + 1) v (by omega) (by omega) (by omega) (by omega) (by omega) (by omega), f (24 + 2) v (by omega) (by omega) (by omega) (by omega) (by omega) (by omega), f (24 + 3) v (by omega) (by omega) (by omega) (by omega) (by omega) (by omega)]
      exact h6 v hv
    · rw [g (2 + w) (by omega), f (24 + 4) w (by omega) (by omega) (by omega) (by omega) (by omega) (by omega)]
      exact h7 w hw
  · have ag : ∀ x : Int, x < n → AG (I 238) (I' 238) v x := fun x hx => AG_of (fun k => ⟨fun a b d => by
      have := g1 (k - (6 + 8 * x.toNat)) x.toNat (by omega) (by omega)
      rw [if_neg (by omega), show 6 + 8 * x.toNat + (k - (6 + 8 * x.toNat)) = k by omega] at this
      exact this, fun a b => g k (by omega)⟩)
    exact ⟨⟨ag (-1) (by omega), g _ (by omega)⟩, fun x hx => ag x (by have := hR.2.1 v hv x hx; omega)⟩
theorem rb_xy {I : IM} (h : RB I) {q : Nat} (hq : q < 13) : 0 ≤ I 2 q ∧ I 2 q ≤ 40 ∧ 0 ≤ I 3 q ∧ I 3 q ≤ 40 := by
  have e := BK_xy h.2.2.1 h.2.2.2.1 hq
  rw [e.1, e.2]
  have a := nx_b h.1 (a := dc q) dc_lt
  have b := ny_b h.1 (a := dc q) dc_lt
  omega
theorem s_order {x1 x2 x3 x4 x5 : Int} {I : IM} (h : REL I) : BOTH 18 134 [vI x1, vI x2, vI x3, vI x4, vI x5] I := by
  unfold BOTH
  have hcn : I 1 0 = I 238 5 := h.1.2.1
  have hcr := h.1.1.1
  by_cases c0 : 0 ≤ x1 ∧ x1 ≤ 40
  · by_cases c1 : 0 ≤ x2 ∧ x2 ≤ 40
    · by_cases c2 : 0 ≤ x3 ∧ x3 ≤ 600
      · by_cases c3 : x3 ≤ x4 ∧ x4 ≤ 600
        · by_cases c4 : 0 ≤ x5 ∧ x5 ≤ 60
          · by_cases c5 : I 238 5 < 12
            · refine e18 ?_
              unfold D18_0
              refine k_within ⟨_, rfl, ?_⟩
              rw [b2i_t c0, if_neg (by decide)]
              refine k_within ⟨_, rfl, ?_⟩
              rw [b2i_t c1, if_neg (by decide)]
              refine k_within ⟨_, rfl, ?_⟩
              rw [b2i_t c2, if_neg (by decide)]
              refine k_within ⟨_, rfl, ?_⟩
              rw [b2i_t c3, if_neg (by decide)]
              refine k_within ⟨_, rfl, ?_⟩
              rw [b2i_t c4, if_neg (by decide)]
              rw [if_pos (by omega)]
              obtain ⟨n, hn⟩ : ∃ n : Nat, I 238 5 = n := ⟨(I 238 5).toNat, by omega⟩
              refine k_forget ⟨rfl, ?_⟩
              have q : ∀ o k, o ≠ 78 → iup I 78 2 0 o k = I o k := fun o k a => iup_ne (Or.inl a)
              refine k_enter (n := n) (by rw [q 1 0 (by decide)]; omega) (by omega) c0 c1 (fun p hp => by rw [q 2 p (by decide), q 3 p (by decide)]; exact rb_xy h.1 hp) (WSC_fr (BK_ws h.1.2) (fun o k a b => q o k (by omega))) fun J f j0 j2 j3 j4 j5 j6 j7 j8 j9 jw => ⟨_, rfl, ?_⟩
              refine ⟨_, rfl, ?_⟩
              refine e134 ?_
              unfold D134_0
              refine m_isIn ⟨_, rfl, ?_⟩
              rw [b2i_t c0, if_neg (by decide)]
              refine m_isIn ⟨_, rfl, ?_⟩
              rw [b2i_t c1, if_neg (by decide)]
              refine m_isIn ⟨_, rfl, ?_⟩
              rw [b2i_t c2, if_neg (by decide)]
              refine m_isIn ⟨_, rfl, ?_⟩
              rw [b2i_t c3, if_neg (by decide)]
              refine m_isIn ⟨_, rfl, ?_⟩
              rw [b2i_t c4, if_neg (by decide)]
              skip
              have e5 : J 238 5 = n := by rw [f 238 5 (by omega) (by omega) (by omega), q 238 5 (by decide)]; exact hn
              rw [if_neg (by omega)]
              refine m_adds (n := n) e5 (by omega) fun J2 f2 y5 z0 z1 z2 z3 z4 z5 z6 z7 => ⟨rfl, ?_, ?_⟩
              · unfold inR; omega
              · refine m_forgets ⟨_, rfl, ?_⟩
                have s : ∀ o k, (o ≠ 237 ∨ k ≠ 4) → iup J2 237 4 0 o k = J2 o k := fun o k a => iup_ne a
                refine ⟨by rw [y5, Int.add_sub_cancel], ?_, ?_⟩
                · refine orders_rel (n := n) (m := 1) (T := fun _ w => match w with | 0 => x1 | 1 => x2 | 2 => x3 | 3 => x4 | 4 => x5 | 5 => 0 | 6 => 0 | _ => 500) h hn (by omega) (fun i _ => ⟨c0, c1, ⟨c2.1, c3⟩, c4, ⟨by show (0 : Int) ≤ 0; omega, by show (0 : Int) ≤ 50; omega⟩, ⟨by show (0 : Int) ≤ 0; omega, by show (0 : Int) ≤ 50; omega⟩, ⟨by show (0 : Int) ≤ 500; omega, by show (500 : Int) ≤ 9999; omega⟩⟩) ?_ ?_ ?_ ?_ ?_ ?_ ?_
                  · intro o k a1 a2 a3 a4 a5 a6
                    rw [s o k a5, f2 o k (by omega), f o k a1 (by omega) a3, iup_ne a6]
                  · rw [s 1 0 (by omega), f2 1 0 (by omega)]; exact j0
                  · intro w o hw ho
                    rw [s (2 + w) o (by omega), f2 (2 + w) o (by omega)]
                    by_cases c : n ≤ o ∧ o < n + 1
                    · rw [if_pos c, show o = n by omega]
                      rcases (show w = 0 ∨ w = 1 ∨ w = 2 ∨ w = 3 ∨ w = 4 ∨ w = 5 ∨ w = 6 ∨ w = 7 by omega) with e | e | e | e | e | e | e | e <;> subst e <;> assumption
                    · rw [if_neg c, f (2 + w) o (by omega) (by omega) (by omega), q (2 + w) o (by omega)]
                  · exact WSC_fr jw (fun o k a b => by rw [s o k (by omega), f2 o k (by omega)])
                  · rw [s 238 5 (by omega)]; exact y5
                  · intro w o hw ho
                    rw [s 238 _ (by omega)]
                    by_cases c : n ≤ o ∧ o < n + 1
                    · rw [if_pos c, show o = n by omega]
                      rcases (show w = 0 ∨ w = 1 ∨ w = 2 ∨ w = 3 ∨ w = 4 ∨ w = 5 ∨ w = 6 ∨ w = 7 by omega) with e | e | e | e | e | e | e | e <;> subst e <;> assumption
                    · rw [if_neg c, f2 238 _ (by omega), f 238 _ (by omega) (by omega) (by omega), q 238 _ (by omega)]
                  · refine ⟨by rw [iup_same], ?_⟩
                    rw [s 78 2 (by omega), f2 78 2 (by omega), f 78 2 (by omega) (by omega) (by omega), iup_same]
                · intro o k ho
                  rw [s o k (by omega), f2 o k (by omega), f o k (by omega) (by omega) (by omega), q o k (by omega)]
            · refine e18 ?_
              unfold D18_0
              refine k_within ⟨_, rfl, ?_⟩
              rw [b2i_t c0, if_neg (by decide)]
              refine k_within ⟨_, rfl, ?_⟩
              rw [b2i_t c1, if_neg (by decide)]
              refine k_within ⟨_, rfl, ?_⟩
              rw [b2i_t c2, if_neg (by decide)]
              refine k_within ⟨_, rfl, ?_⟩
              rw [b2i_t c3, if_neg (by decide)]
              refine k_within ⟨_, rfl, ?_⟩
              rw [b2i_t c4, if_neg (by decide)]
              rw [if_neg (by omega)]
              refine ⟨_, rfl, ?_⟩
              refine e134 ?_
              unfold D134_0
              refine m_isIn ⟨_, rfl, ?_⟩
              rw [b2i_t c0, if_neg (by decide)]
              refine m_isIn ⟨_, rfl, ?_⟩
              rw [b2i_t c1, if_neg (by decide)]
              refine m_isIn ⟨_, rfl, ?_⟩
              rw [b2i_t c2, if_neg (by decide)]
              refine m_isIn ⟨_, rfl, ?_⟩
              rw [b2i_t c3, if_neg (by decide)]
              refine m_isIn ⟨_, rfl, ?_⟩
              rw [b2i_t c4, if_neg (by decide)]
              rw [if_pos (by omega)]
              exact ⟨rfl, h, fun _ _ _ => rfl⟩
          · refine e18 ?_
            unfold D18_0
            refine k_within ⟨_, rfl, ?_⟩
            rw [b2i_t c0, if_neg (by decide)]
            refine k_within ⟨_, rfl, ?_⟩
            rw [b2i_t c1, if_neg (by decide)]
            refine k_within ⟨_, rfl, ?_⟩
            rw [b2i_t c2, if_neg (by decide)]
            refine k_within ⟨_, rfl, ?_⟩
            rw [b2i_t c3, if_neg (by decide)]
            refine k_within ⟨_, rfl, ?_⟩
            rw [b2i_f c4, if_pos rfl]
            refine ⟨_, rfl, ?_⟩
            refine e134 ?_
            unfold D134_0
            refine m_isIn ⟨_, rfl, ?_⟩
            rw [b2i_t c0, if_neg (by decide)]
            refine m_isIn ⟨_, rfl, ?_⟩
            rw [b2i_t c1, if_neg (by decide)]
            refine m_isIn ⟨_, rfl, ?_⟩
            rw [b2i_t c2, if_neg (by decide)]
            refine m_isIn ⟨_, rfl, ?_⟩
            rw [b2i_t c3, if_neg (by decide)]
            refine m_isIn ⟨_, rfl, ?_⟩
            rw [b2i_f c4, if_pos rfl]
            exact ⟨rfl, h, fun _ _ _ => rfl⟩
        · refine e18 ?_
          unfold D18_0
          refine k_within ⟨_, rfl, ?_⟩
          rw [b2i_t c0, if_neg (by decide)]
          refine k_within ⟨_, rfl, ?_⟩
          rw [b2i_t c1, if_neg (by decide)]
          refine k_within ⟨_, rfl, ?_⟩
          rw [b2i_t c2, if_neg (by decide)]
          refine k_within ⟨_, rfl, ?_⟩
          rw [b2i_f c3, if_pos rfl]
          refine ⟨_, rfl, ?_⟩
          refine e134 ?_
          unfold D134_0
          refine m_isIn ⟨_, rfl, ?_⟩
          rw [b2i_t c0, if_neg (by decide)]
          refine m_isIn ⟨_, rfl, ?_⟩
          rw [b2i_t c1, if_neg (by decide)]
          refine m_isIn ⟨_, rfl, ?_⟩
          rw [b2i_t c2, if_neg (by decide)]
          refine m_isIn ⟨_, rfl, ?_⟩
          rw [b2i_f c3, if_pos rfl]
          exact ⟨rfl, h, fun _ _ _ => rfl⟩
      · refine e18 ?_
        unfold D18_0
        refine k_within ⟨_, rfl, ?_⟩
        rw [b2i_t c0, if_neg (by decide)]
        refine k_within ⟨_, rfl, ?_⟩
        rw [b2i_t c1, if_neg (by decide)]
        refine k_within ⟨_, rfl, ?_⟩
        rw [b2i_f c2, if_pos rfl]
        refine ⟨_, rfl, ?_⟩
        refine e134 ?_
        unfold D134_0
        refine m_isIn ⟨_, rfl, ?_⟩
        rw [b2i_t c0, if_neg (by decide)]
        refine m_isIn ⟨_, rfl, ?_⟩
        rw [b2i_t c1, if_neg (by decide)]
        refine m_isIn ⟨_, rfl, ?_⟩
        rw [b2i_f c2, if_pos rfl]
        exact ⟨rfl, h, fun _ _ _ => rfl⟩
    · refine e18 ?_
      unfold D18_0
      refine k_within ⟨_, rfl, ?_⟩
      rw [b2i_t c0, if_neg (by decide)]
      refine k_within ⟨_, rfl, ?_⟩
      rw [b2i_f c1, if_pos rfl]
      refine ⟨_, rfl, ?_⟩
      refine e134 ?_
      unfold D134_0
      refine m_isIn ⟨_, rfl, ?_⟩
      rw [b2i_t c0, if_neg (by decide)]
      refine m_isIn ⟨_, rfl, ?_⟩
      rw [b2i_f c1, if_pos rfl]
      exact ⟨rfl, h, fun _ _ _ => rfl⟩
  · refine e18 ?_
    unfold D18_0
    refine k_within ⟨_, rfl, ?_⟩
    rw [b2i_f c0, if_pos rfl]
    refine ⟨_, rfl, ?_⟩
    refine e134 ?_
    unfold D134_0
    refine m_isIn ⟨_, rfl, ?_⟩
    rw [b2i_f c0, if_pos rfl]
    exact ⟨rfl, h, fun _ _ _ => rfl⟩
theorem load_rel {a p : Nat} {x : Int} {I : IM} (h : REL I) (ha : (a : Int) < I 238 5) (hp : p < 3) (hx : 0 ≤ x ∧ (p = 2 → x ≤ 9999) ∧ (p ≠ 2 → x ≤ 50)) (hl : ∀ v, v < 4 → (a : Int) ∉ LM I 238 114 v) : REL (iup (iup (iup (iup I (7 + p) a x) 78 2 0) 238 (11 + 8 * a + p) x) 237 4 0) := by
  generalize hJ : iup (iup (iup (iup I (7 + p) a x) 78 2 0) 238 (11 + 8 * a + p) x) 237 4 0 = J
  have hG := h.1.1
  have hc := hG.1
  have g : ∀ k, (k ≠ 11 + 8 * a + p) → J 238 k = I 238 k := fun k hk => by rw [← hJ, iup_ne (Or.inl (by decide)), iup_ne (Or.inr hk), iup_ne (Or.inl (by decide)), iup_ne (Or.inl (by omega))]
  have gp : J 238 (11 + 8 * a + p) = x := by rw [← hJ, iup_ne (Or.inl (by decide)), iup_same]
  have o : ∀ o k, (o ≠ 7 + p ∨ k ≠ a) → o ≠ 238 → (o ≠ 78 ∨ k ≠ 2) → (o ≠ 237 ∨ k ≠ 4) → J o k = I o k := fun o k a b c d => by rw [← hJ, iup_ne d, iup_ne (Or.inl b), iup_ne c, iup_ne a]
  have op : J (7 + p) a = x := by rw [← hJ, iup_ne (Or.inl (by omega)), iup_ne (Or.inl (by omega)), iup_ne (Or.inl (by omega)), iup_same]
  have GR' : GR (J 238) := by
    refine ⟨by rw [g 5 (by omega)]; exact hG.1, fun q hq => ?_, by rw [g 0 (by omega), g 1 (by omega)]; exact hG.2.2.1, by rw [g 2 (by omega), g 3 (by omega), g 4 (by omega)]; exact hG.2.2.2.1, fun v hv => by rw [g (102 + 3 * v) (by omega), g (103 + 3 * v) (by omega), g (104 + 3 * v) (by omega)]; exact hG.2.2.2.2 v hv⟩
    have b := hG.2.1 q hq
    rw [g (6 + 8 * q + 0) (by omega), g (6 + 8 * q + 1) (by omega), g (6 + 8 * q + 2) (by omega), g (6 + 8 * q + 3) (by omega), g (6 + 8 * q + 4) (by omega)]
    by_cases c : q = a
    · rcases (show p = 0 ∨ p = 1 ∨ p = 2 by omega) with e | e | e <;> subst e
      · rw [show 6 + 8 * q + 5 = 11 + 8 * a + 0 by omega, gp, g (6 + 8 * q + 6) (by omega), g (6 + 8 * q + 7) (by omega)]
        refine ⟨b.1, b.2.1, b.2.2.1, b.2.2.2.1, by omega, b.2.2.2.2.2.1, b.2.2.2.2.2.2⟩
      · rw [show 6 + 8 * q + 6 = 11 + 8 * a + 1 by omega, gp, g (6 + 8 * q + 5) (by omega), g (6 + 8 * q + 7) (by omega)]
        refine ⟨b.1, b.2.1, b.2.2.1, b.2.2.2.1, b.2.2.2.2.1, by omega, b.2.2.2.2.2.2⟩
      · rw [show 6 + 8 * q + 7 = 11 + 8 * a + 2 by omega, gp, g (6 + 8 * q + 5) (by omega), g (6 + 8 * q + 6) (by omega)]
        refine ⟨b.1, b.2.1, b.2.2.1, b.2.2.2.1, b.2.2.2.2.1, b.2.2.2.2.2.1, by omega⟩
    · rw [g (6 + 8 * q + 5) (by omega), g (6 + 8 * q + 6) (by omega), g (6 + 8 * q + 7) (by omega)]
      exact b
  refine REL_book h (fun q k a b c d => o q k (by omega) b d c) (fun k hk => g k (by omega)) ⟨GR', ?_⟩ (fun R hR hz => ?_) (Or.inl ⟨by rw [← hJ, iup_same], by rw [← hJ, iup_ne (Or.inl (by decide)), iup_ne (Or.inl (by decide)), iup_same]⟩)
  · obtain ⟨h1, h2, h3, h4, h5, h6, h7⟩ := h.1.2
    have o' : ∀ q k, q < 29 → (q ≠ 7 + p ∨ k ≠ a) → J q k = I q k := fun q k a b => o q k b (by omega) (by omega) (by omega)
    refine BK_mk (by rw [o' 1 0 (by omega) (by omega), g 5 (by omega)]; exact h1) (fun q hq w hw => ?_) (by rw [o' (1 + 1) 12 (by omega) (by omega), o' (1 + 2) 12 (by omega) (by omega), g 0 (by omega), g 1 (by omega)]; exact h3) (by rw [o' (1 + 3) 12 (by omega) (by omega), o' (1 + 5) 12 (by omega) (by omega), o' (1 + 6) 12 (by omega) (by omega), o' (1 + 7) 12 (by omega) (by omega)]; exact h4) (WSC_fr (BK_ws h.1.2) (fun q k b c => o' q k (by omega) (by omega))) (fun v hv => by rw [o' (24 + 1) v (by omega) (by omega), o' (24 + 2) v (by omega) (by omega), o' (24 + 3) v (by omega) (by omega), g (102 + 3 * v) (by omega), g (103 + 3 * v) (by omega), g (104 + 3 * v) (by omega)]; exact h6 v hv) (fun w hw => by rw [o' (24 + 4) w (by omega) (by omega), g (2 + w) (by omega)]; exact h7 w hw)
    by_cases c : q = a ∧ w = 5 + p
    · rw [c.1, c.2, show 1 + 1 + (5 + p) = 7 + p by omega, show 6 + 8 * a + (5 + p) = 11 + 8 * a + p by omega, gp, op]
    · rw [o' (1 + 1 + w) q (by omega) (by omega), g (6 + 8 * q + w) (by omega)]
      exact h2 q hq w hw
  · have hz' : J 237 4 = 0 ∧ J 78 2 = 0 := ⟨by rw [← hJ, iup_same], by rw [← hJ, iup_ne (Or.inl (by decide)), iup_ne (Or.inl (by decide)), iup_same]⟩
    have eR : ∀ v, v < 4 → R v = LM I 238 114 v := by
      rcases hz with z | z
      · exact z
      · exact absurd hz' z
    refine VR_ch hR GR' (by rw [g 5 (by omega)]; omega) (fun v hv _ => ⟨⟨AG_of (fun k => ⟨fun c _ _ => by omega, fun _ b => g k (by omega)⟩), g _ (by omega)⟩, fun y hy => ?_⟩)
    have b := hR.2.1 v hv y hy
    have ne : y ≠ (a : Int) := fun e => hl v hv (by rw [← eR v hv, ← e]; exact hy)
    exact AG_of (fun k => ⟨fun _ c d => g k (by omega), fun c => by omega⟩)
theorem s_load {x1 x2 x3 : Int} {I : IM} (h : REL I) : BOTH 20 136 [vI x1, vI x2, vI x3] I := by
  unfold BOTH
  have hcn : I 1 0 = I 238 5 := h.1.2.1
  have hcr := h.1.1.1
  by_cases c0 : 0 ≤ x1 ∧ x1 < I 238 5
  · by_cases c1 : 0 ≤ x2 ∧ x2 ≤ 2
    · have go : ∀ M : Int, ((x2 = 2 ∧ M = 9999) ∨ (x2 ≠ 2 ∧ M = 50)) → ∀ u u' : AV, D20_34 x1 x2 x3 u u' x3 0 M I (fun v I1 => ∃ a, v = some (vI a) ∧ CALL S0 136 [vR 237, vI x1, vI x2, vI x3] I1 (fun v' I2 => v' = some (vI a) ∧ REL I2 ∧ SC I I2)) := by
        intro M hM u u'
        have md : ∀ I1 : IM, I1 238 = I 238 → ∀ K, D136_34 x1 x2 x3 vU x3 0 M I1 K → CALL S0 136 [vR 237, vI x1, vI x2, vI x3] I1 K := by
          intro I1 e1 K hK
          refine e136 ?_
          unfold D136_0
          refine m_isOrder (by rw [e1]; exact hcr) ⟨_, rfl, ?_⟩
          rw [e1, b2i_t c0, if_neg (by decide)]
          refine m_isIn ⟨_, rfl, ?_⟩
          rw [b2i_t c1, if_neg (by decide)]
          rcases hM with ⟨z1, z2⟩ | ⟨z1, z2⟩
          · rw [if_pos z1, ← z2]; exact hK
          · rw [if_neg z1, ← z2]; exact hK
        unfold D20_34
        refine k_within ⟨_, rfl, ?_⟩
        by_cases c2 : 0 ≤ x3 ∧ x3 ≤ M
        · rw [b2i_t c2, if_neg (by decide)]
          refine k_vanOf (r := 29) rd29 h.2.1.1 ⟨_, rfl, ?_⟩
          have ev := vanF_eq h.2.1.2.2.1 x1
          have vr := @vanF_r (LM I 238 114) x1
          rw [ev]
          by_cases c3 : vanF (LM I 238 114) x1 < 0
          · rw [if_pos (by omega)]
            obtain ⟨a, ha⟩ : ∃ a : Nat, x1 = a := ⟨x1.toNat, by omega⟩
            obtain ⟨p, hp⟩ : ∃ p : Nat, x2 = p := ⟨x2.toNat, by omega⟩
            have fin : D20_94 x1 x2 x3 u u' (7 + p) I (fun v I1 => ∃ a, v = some (vI a) ∧ CALL S0 136 [vR 237, vI x1, vI x2, vI x3] I1 (fun v' I2 => v' = some (vI a) ∧ REL I2 ∧ SC I I2)) := by
              unfold D20_94
              rw [show x1.toNat = a by omega]
              refine ⟨by omega, fun J ej => k_forget ⟨rfl, _, rfl, ?_⟩⟩
              rw [ej]
              have e238 : ∀ k, iup (iup I (7 + p) a x3) 78 2 0 238 k = I 238 k := fun k => by rw [iup_ne (Or.inl (by decide)), iup_ne (Or.inl (by omega))]
              refine md _ (funext e238) _ ?_
              unfold D136_34 inR
              refine m_isIn ⟨_, rfl, ?_⟩
              rw [b2i_t c2, if_neg (by decide)]
              have eM : ∀ v, LM (iup (iup I (7 + p) a x3) 78 2 0) 238 114 v = LM I 238 114 v := fun v => by unfold LM ln; rw [funext e238]
              refine m_isLeft (fun v hv => by rw [e238]; exact h.2.1.2.1 v hv) ⟨_, rfl, ?_⟩
              rw [vanF_eq (fun v _ => eM v) x1, b2i_t c3, if_neg (by decide)]
              refine ⟨by omega, m_ofOrder (by omega) (by omega) ⟨_, rfl, by omega, by omega, by omega, by omega, by omega, fun J2 e2 => m_forgets ⟨_, rfl, ?_⟩⟩⟩
              rw [e2, show (6 + 8 * x1 + 5 + x2).toNat = 11 + 8 * a + p by omega]
              have := load_rel (x := x3) h (a := a) (p := p) (by omega) (by omega) (by omega) (fun v hv hm => by rw [ha] at c3; exact vanF_neg.mp c3 v hv hm)
              refine ⟨?_, this, SC_up (SC_up (SC_up (SC_up SC_refl (by omega)) (by decide)) (by decide)) (by decide)⟩
              rw [e238, show 6 + 8 * x1.toNat + (5 + x2).toNat = 6 + 8 * a + (5 + p) by omega, ← h.1.2.2.1 a (by omega) (5 + p) (by omega), show 1 + 1 + (5 + p) = 7 + p by omega]
            split
            · rename_i c; rw [show (7 : Nat) = 7 + p by omega]; exact fin
            · split
              · rename_i c; rw [show (8 : Nat) = 7 + p by omega]; exact fin
              · rename_i c c'; rw [show (9 : Nat) = 7 + p by omega]; exact fin
          · rw [if_neg (by omega)]
            refine ⟨_, rfl, md I rfl _ ?_⟩
            unfold D136_34
            refine m_isIn ⟨_, rfl, ?_⟩
            rw [b2i_t c2, if_neg (by decide)]
            refine m_isLeft h.2.1.2.1 ⟨_, rfl, ?_⟩
            rw [b2i_f c3, if_pos rfl]
            exact ⟨rfl, h, SC_refl⟩
        · rw [b2i_f c2, if_pos rfl]
          refine ⟨_, rfl, md I rfl _ ?_⟩
          unfold D136_34
          refine m_isIn ⟨_, rfl, ?_⟩
          rw [b2i_f c2, if_pos rfl]
          exact ⟨rfl, h, SC_refl⟩
      refine e20 ?_
      unfold D20_0
      refine k_isOrder ⟨_, rfl, ?_⟩
      rw [hcn, b2i_t c0, if_neg (by decide)]
      refine k_within ⟨_, rfl, ?_⟩
      rw [b2i_t c1, if_neg (by decide)]
      split
      · rename_i c; exact go 9999 (Or.inl ⟨c, rfl⟩) _ _
      · rename_i c; exact go 50 (Or.inr ⟨c, rfl⟩) _ _
    · refine e20 ?_
      unfold D20_0
      refine k_isOrder ⟨_, rfl, ?_⟩
      rw [hcn, b2i_t c0, if_neg (by decide)]
      refine k_within ⟨_, rfl, ?_⟩
      rw [b2i_f c1, if_pos rfl]
      refine ⟨_, rfl, ?_⟩
      refine e136 ?_
      unfold D136_0
      refine m_isOrder hcr ⟨_, rfl, ?_⟩
      rw [b2i_t c0, if_neg (by decide)]
      refine m_isIn ⟨_, rfl, ?_⟩
      rw [b2i_f c1, if_pos rfl]
      exact ⟨rfl, h, SC_refl⟩
  · refine e20 ?_
    unfold D20_0
    refine k_isOrder ⟨_, rfl, ?_⟩
    rw [hcn, b2i_f c0, if_pos rfl]
    refine ⟨_, rfl, ?_⟩
    refine e136 ?_
    unfold D136_0
    refine m_isOrder hcr ⟨_, rfl, ?_⟩
    rw [b2i_f c0, if_pos rfl]
    exact ⟨rfl, h, SC_refl⟩
theorem van_rel {a : Nat} {x y z : Int} {I : IM} (h : REL I) (ha : a < 4) (hx : 0 ≤ x ∧ x ≤ 200) (hy : 0 ≤ y ∧ y ≤ z ∧ z ≤ 999) (hl : LM I 238 114 a = []) : REL (iup (iup (iup (iup (iup (iup (iup (iup I 25 a x) 26 a y) 27 a z) 78 2 0) 238 (102 + 3 * a) x) 238 (103 + 3 * a) y) 238 (104 + 3 * a) z) 237 4 0) := by
  generalize hJ : iup (iup (iup (iup (iup (iup (iup (iup I 25 a x) 26 a y) 27 a z) 78 2 0) 238 (102 + 3 * a) x) 238 (103 + 3 * a) y) 238 (104 + 3 * a) z) 237 4 0 = J
  have hG := h.1.1
  have hc := hG.1
  have g : ∀ k, (k < 102 + 3 * a ∨ 104 + 3 * a < k) → J 238 k = I 238 k := fun k hk => by rw [← hJ, iup_ne (Or.inl (by decide)), iup_ne (Or.inr (by omega)), iup_ne (Or.inr (by omega)), iup_ne (Or.inr (by omega)), iup_ne (Or.inl (by decide)), iup_ne (Or.inl (by decide)), iup_ne (Or.inl (by decide)), iup_ne (Or.inl (by decide))]
  have g0 : J 238 (102 + 3 * a) = x := by rw [← hJ, iup_ne (Or.inl (by decide)), iup_ne (Or.inr (by omega)), iup_ne (Or.inr (by omega)), iup_same]
  have g1 : J 238 (103 + 3 * a) = y := by rw [← hJ, iup_ne (Or.inl (by decide)), iup_ne (Or.inr (by omega)), iup_same]
  have g2 : J 238 (104 + 3 * a) = z := by rw [← hJ, iup_ne (Or.inl (by decide)), iup_same]
  have o : ∀ o k, (o < 25 ∨ 27 < o ∨ k ≠ a) → o ≠ 238 → (o ≠ 78 ∨ k ≠ 2) → (o ≠ 237 ∨ k ≠ 4) → J o k = I o k := fun o k a b c d => by rw [← hJ, iup_ne d, iup_ne (Or.inl b), iup_ne (Or.inl b), iup_ne (Or.inl b), iup_ne c, iup_ne (by omega), iup_ne (by omega), iup_ne (by omega)]
  have o0 : J 25 a = x := by rw [← hJ]; simp [iup]
  have o1 : J 26 a = y := by rw [← hJ]; simp [iup]
  have o2 : J 27 a = z := by rw [← hJ]; simp [iup]
  have GR' : GR (J 238) := by
    refine ⟨by rw [g 5 (by omega)]; exact hG.1, fun q hq => ?_, by rw [g 0 (by omega), g 1 (by omega)]; exact hG.2.2.1, by rw [g 2 (by omega), g 3 (by omega), g 4 (by omega)]; exact hG.2.2.2.1, fun v hv => ?_⟩
    · rw [g (6 + 8 * q + 0) (by omega), g (6 + 8 * q + 1) (by omega), g (6 + 8 * q + 2) (by omega), g (6 + 8 * q + 3) (by omega), g (6 + 8 * q + 4) (by omega), g (6 + 8 * q + 5) (by omega), g (6 + 8 * q + 6) (by omega), g (6 + 8 * q + 7) (by omega)]
      exact hG.2.1 q hq
    · by_cases c : v = a
      · rw [c, g0, g1, g2]; exact ⟨hx, hy.1, hy.2.1, hy.2.2⟩
      · rw [g (102 + 3 * v) (by omega), g (103 + 3 * v) (by omega), g (104 + 3 * v) (by omega)]; exact hG.2.2.2.2 v hv
  have hz' : J 237 4 = 0 ∧ J 78 2 = 0 := ⟨by rw [← hJ, iup_same], by rw [← hJ]; simp [iup]⟩
  refine REL_book h (fun q k a b c d => o q k (by omega) b d c) (fun k hk => g k (by omega)) ⟨GR', ?_⟩ (fun R hR hz => ?_) (Or.inl hz')
  · obtain ⟨h1, h2, h3, h4, h5, h6, h7⟩ := h.1.2
    have o' : ∀ q k, q < 29 → (q < 25 ∨ 27 < q ∨ k ≠ a) → J q k = I q k := fun q k a b => o q k b (by omega) (by omega) (by omega)
    refine BK_mk (by rw [o' 1 0 (by omega) (by omega), g 5 (by omega)]; exact h1) (fun q hq w hw => ?_) (by rw [o' (1 + 1) 12 (by omega) (by omega), o' (1 + 2) 12 (by omega) (by omega), g 0 (by omega), g 1 (by omega)]; exact h3) (by rw [o' (1 + 3) 12 (by omega) (by omega), o' (1 + 5) 12 (by omega) (by omega), o' (1 + 6) 12 (by omega) (by omega), o' (1 + 7) 12 (by omega) (by omega)]; exact h4) (WSC_fr (BK_ws h.1.2) (fun q k b c => o' q k (by omega) (by omega))) (fun v hv => ?_) (fun w hw => by rw [o' (24 + 4) w (by omega) (by omega), g (2 + w) (by omega)]; exact h7 w hw)
    · rw [o' (1 + 1 + w) q (by omega) (by omega), g (6 + 8 * q + w) (by omega)]
      exact h2 q hq w hw
    · by_cases c : v = a
      · rw [c, g0, g1, g2]; exact ⟨o0, o1, o2⟩
      · rw [o' (24 + 1) v (by omega) (by omega), o' (24 + 2) v (by omega) (by omega), o' (24 + 3) v (by omega) (by omega), g (102 + 3 * v) (by omega), g (103 + 3 * v) (by omega), g (104 + 3 * v) (by omega)]; exact h6 v hv
  · have eR : ∀ v, v < 4 → R v = LM I 238 114 v := by
      rcases hz with z | z
      · exact z
      · exact absurd hz' z
    refine VR_ch hR GR' (by rw [g 5 (by omega)]; omega) (fun v hv ne => ?_)
    have nv : v ≠ a := fun e => ne (by rw [eR v hv, e]; exact hl)
    exact ⟨⟨AG_of (fun k => ⟨fun c _ _ => by omega, fun _ b => g k (by omega)⟩), g _ (by omega)⟩, fun y hy => by
      have b := hR.2.1 v hv y hy
      exact AG_of (fun k => ⟨fun _ c d => g k (by omega), fun c => by omega⟩)⟩
theorem s_van {x1 x2 x3 x4 : Int} {I : IM} (h : REL I) : BOTH 23 141 [vI x1, vI x2, vI x3, vI x4] I := by
  unfold BOTH
  have hcn : I 1 0 = I 238 5 := h.1.2.1
  have hcr := h.1.1.1
  by_cases c0 : 0 ≤ x1 ∧ x1 ≤ 3
  · by_cases c1 : 0 ≤ x2 ∧ x2 ≤ 200
    · by_cases c2 : 0 ≤ x3 ∧ x3 ≤ 999
      · by_cases c3 : x3 ≤ x4 ∧ x4 ≤ 999
        · by_cases c4 : I 30 x1.toNat ≤ 0
          · refine e23 ?_
            unfold D23_0
            refine k_isVan ⟨_, rfl, ?_⟩
            rw [b2i_t c0, if_neg (by decide)]
            refine k_within ⟨_, rfl, ?_⟩
            rw [b2i_t c1, if_neg (by decide)]
            refine k_within ⟨_, rfl, ?_⟩
            rw [b2i_t c2, if_neg (by decide)]
            refine k_within ⟨_, rfl, ?_⟩
            rw [b2i_t c3, if_neg (by decide)]
            refine ⟨by omega, ?_⟩
            rw [if_pos c4]
            intro J1 e1 J2 e2 J3 e3
            refine k_forget ⟨rfl, ?_⟩
            rw [e3, e2, e1]
            obtain ⟨a, ha⟩ : ∃ a : Nat, x1 = a := ⟨x1.toNat, by omega⟩
            have sz := h.2.1.1 a (by omega)
            have es := rr_sz h.2.1 (v := a) (by omega)
            rw [show (29 + 1 : Nat) = 30 from rfl] at sz
            rw [show x1.toNat = a by omega] at c4 ⊢
            have o : ∀ k, iup (iup (iup (iup I 25 a x2) 26 a x3) 27 a x4) 78 2 0 238 k = I 238 k := fun k => by rw [iup_ne (Or.inl (by decide)), iup_ne (Or.inl (by decide)), iup_ne (Or.inl (by decide)), iup_ne (Or.inl (by decide))]
            refine ⟨_, rfl, ?_⟩
            refine e141 ?_
            unfold D141_0
            refine m_isVan ⟨_, rfl, ?_⟩
            rw [b2i_t c0, if_neg (by decide)]
            refine m_isIn ⟨_, rfl, ?_⟩
            rw [b2i_t c1, if_neg (by decide)]
            refine m_isIn ⟨_, rfl, ?_⟩
            rw [b2i_t c2, if_neg (by decide)]
            refine m_isIn ⟨_, rfl, ?_⟩
            rw [b2i_t c3, if_neg (by decide)]
            skip
            unfold inR
            refine m_stopsOf (by omega) ⟨_, rfl, ?_⟩
            rw [o, show x1.toNat = a by omega, ← es, if_pos c4]
            refine ⟨by omega, by omega, by omega, fun J4 e4 => ⟨by omega, by omega, fun J5 e5 => ⟨by omega, by omega, fun J6 e6 => m_forgets ⟨_, rfl, rfl, ?_, ?_⟩⟩⟩⟩
            · rw [e6, e5, e4, show (102 + 3 * x1).toNat = 102 + 3 * a by omega, show (102 + 3 * x1 + 1).toNat = 103 + 3 * a by omega, show (102 + 3 * x1 + 2).toNat = 104 + 3 * a by omega]
              refine van_rel h (by omega) c1 ⟨c2.1, c3⟩ ?_
              refine List.length_eq_zero_iff.mp ?_
              rw [LM_len]
              omega
            · rw [e6, e5, e4]
              exact SC_up (SC_up (SC_up (SC_up (SC_up (SC_up (SC_up (SC_up SC_refl (by decide)) (by decide)) (by decide)) (by decide)) (by decide)) (by decide)) (by decide)) (by decide)
          · refine e23 ?_
            unfold D23_0
            refine k_isVan ⟨_, rfl, ?_⟩
            rw [b2i_t c0, if_neg (by decide)]
            refine k_within ⟨_, rfl, ?_⟩
            rw [b2i_t c1, if_neg (by decide)]
            refine k_within ⟨_, rfl, ?_⟩
            rw [b2i_t c2, if_neg (by decide)]
            refine k_within ⟨_, rfl, ?_⟩
            rw [b2i_t c3, if_neg (by decide)]
            refine ⟨by omega, ?_⟩
            rw [if_neg c4]
            refine ⟨_, rfl, ?_⟩
            refine e141 ?_
            unfold D141_0
            refine m_isVan ⟨_, rfl, ?_⟩
            rw [b2i_t c0, if_neg (by decide)]
            refine m_isIn ⟨_, rfl, ?_⟩
            rw [b2i_t c1, if_neg (by decide)]
            refine m_isIn ⟨_, rfl, ?_⟩
            rw [b2i_t c2, if_neg (by decide)]
            refine m_isIn ⟨_, rfl, ?_⟩
            rw [b2i_t c3, if_neg (by decide)]
            refine m_stopsOf (by omega) ⟨_, rfl, ?_⟩
            rw [← rr_sz h.2.1 (v := x1.toNat) (by omega), if_neg c4]
            exact ⟨rfl, h, fun _ _ _ => rfl⟩
        · refine e23 ?_
          unfold D23_0
          refine k_isVan ⟨_, rfl, ?_⟩
          rw [b2i_t c0, if_neg (by decide)]
          refine k_within ⟨_, rfl, ?_⟩
          rw [b2i_t c1, if_neg (by decide)]
          refine k_within ⟨_, rfl, ?_⟩
          rw [b2i_t c2, if_neg (by decide)]
          refine k_within ⟨_, rfl, ?_⟩
          rw [b2i_f c3, if_pos rfl]
          refine ⟨_, rfl, ?_⟩
          refine e141 ?_
          unfold D141_0
          refine m_isVan ⟨_, rfl, ?_⟩
          rw [b2i_t c0, if_neg (by decide)]
          refine m_isIn ⟨_, rfl, ?_⟩
          rw [b2i_t c1, if_neg (by decide)]
          refine m_isIn ⟨_, rfl, ?_⟩
          rw [b2i_t c2, if_neg (by decide)]
          refine m_isIn ⟨_, rfl, ?_⟩
          rw [b2i_f c3, if_pos rfl]
          exact ⟨rfl, h, fun _ _ _ => rfl⟩
      · refine e23 ?_
        unfold D23_0
        refine k_isVan ⟨_, rfl, ?_⟩
        rw [b2i_t c0, if_neg (by decide)]
        refine k_within ⟨_, rfl, ?_⟩
        rw [b2i_t c1, if_neg (by decide)]
        refine k_within ⟨_, rfl, ?_⟩
        rw [b2i_f c2, if_pos rfl]
        refine ⟨_, rfl, ?_⟩
        refine e141 ?_
        unfold D141_0
        refine m_isVan ⟨_, rfl, ?_⟩
        rw [b2i_t c0, if_neg (by decide)]
        refine m_isIn ⟨_, rfl, ?_⟩
        rw [b2i_t c1, if_neg (by decide)]
        refine m_isIn ⟨_, rfl, ?_⟩
        rw [b2i_f c2, if_pos rfl]
        exact ⟨rfl, h, fun _ _ _ => rfl⟩
    · refine e23 ?_
      unfold D23_0
      refine k_isVan ⟨_, rfl, ?_⟩
      rw [b2i_t c0, if_neg (by decide)]
      refine k_within ⟨_, rfl, ?_⟩
      rw [b2i_f c1, if_pos rfl]
      refine ⟨_, rfl, ?_⟩
      refine e141 ?_
      unfold D141_0
      refine m_isVan ⟨_, rfl, ?_⟩
      rw [b2i_t c0, if_neg (by decide)]
      refine m_isIn ⟨_, rfl, ?_⟩
      rw [b2i_f c1, if_pos rfl]
      exact ⟨rfl, h, fun _ _ _ => rfl⟩
  · refine e23 ?_
    unfold D23_0
    refine k_isVan ⟨_, rfl, ?_⟩
    rw [b2i_f c0, if_pos rfl]
    refine ⟨_, rfl, ?_⟩
    refine e141 ?_
    unfold D141_0
    refine m_isVan ⟨_, rfl, ?_⟩
    rw [b2i_f c0, if_pos rfl]
    exact ⟨rfl, h, fun _ _ _ => rfl⟩
