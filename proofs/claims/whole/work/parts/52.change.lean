/-! level 2: rounds copied, kept, taken back -/
theorem rd_dis {a b : Nat} (ha : isRd a) (hb : isRd b) (h : a ≠ b) : a + 6 < b ∨ b + 6 < a := by
  have h1 : ∀ a ∈ rdIds, ∀ b ∈ rdIds, a ≠ b → a + 6 < b ∨ b + 6 < a := by decide +kernel
  exact h1 a ha b hb h
theorem k_copy {r0 r1 : Nat} {I : IM} {K : Option AV → IM → Prop} (h0 : isRd r0) (h1 : isRd r1) (hne : r0 ≠ r1) (hs : SZC I r1) (h : ∀ J, (∀ o k, ¬ (r0 + 1 ≤ o ∧ o ≤ r0 + 6) → J o k = I o k) → SZC J r0 → (∀ v, v < 4 → LC J r0 v = LC I r1 v) → K none J) : CALL S0 53 [vR r0, vR r1] I K := by
  refine e53 h0 h1 ?_
  unfold D53_0
  have dd := rd_dis h0 h1 hne
  have key : ∀ j i : Nat, i + j = 4 → ∀ J : IM, (∀ o k, ¬ (r0 + 1 ≤ o ∧ o ≤ r0 + 6) → J o k = I o k) → (∀ v, v < i → J (r0 + 1) v = I (r1 + 1) v ∧ LC J r0 v = LC I r1 v) → GO S0 53 2 [vR r0, vR r1, vI (i : Int)] [] J K := by
    intro j
    induction j with
    | zero =>
      intro i e J f g
      refine g53_2 r0 r1 h0 h1 _ J K ?_
      unfold D53_2
      rw [if_pos (by omega)]
      exact h J f (fun v hv => by rw [(g v (by omega)).1]; exact hs v hv) (fun v hv => (g v (by omega)).2)
    | succ j ih =>
      intro i e J f g
      refine g53_2 r0 r1 h0 h1 _ J K ?_
      unfold D53_2 inR
      rw [if_neg (by omega), Int.toNat_natCast]
      have sz := hs i (by omega)
      have e1 : J (r1 + 1) i = I (r1 + 1) i := f _ _ (by omega)
      refine ⟨by omega, fun I3 e3 => ?_⟩
      have s3 : I3 (r0 + 1) i = I (r1 + 1) i := by rw [e3, iup_same, e1]
      rw [s3]
      refine ⟨⟨by omega, by omega, by omega, by omega, by omega⟩, fun I5 e5 => ⟨by omega, ?_⟩⟩
      have f3 : ∀ o k, o ≠ r0 + 1 → I3 o k = J o k := fun o k a => by rw [e3, iup_ne (Or.inl a)]
      have f5 : ∀ o k, o ≠ r0 + 3 + i → I5 o k = I3 o k := fun o k a => by
        rw [e5]
        unfold icp
        rw [if_neg (by omega)]
      have := ih (i + 1) (by omega) I5 (fun o k a => by rw [f5 o k (by omega), f3 o k (by omega)]; exact f o k a) (fun v hv => by
        by_cases c : v = i
        · subst c
          have a1 : I5 (r0 + 1) v = I (r1 + 1) v := by rw [f5 _ _ (by omega)]; exact s3
          refine ⟨a1, LC_congr a1 fun k hk => ?_⟩
          rw [e5]
          unfold icp
          rw [if_pos ⟨rfl, by omega, by omega⟩, f3 _ _ (by omega), f _ _ (by omega)]
          congr 1
          omega
        · have a1 : I5 (r0 + 1) v = J (r0 + 1) v := by
            rw [f5 _ _ (by omega), e3, iup_ne (Or.inr c)]
          have a2 : LC I5 r0 v = LC J r0 v := LC_cg a1 (fun k => by rw [f5 _ _ (by omega), f3 _ _ (by omega)])
          rw [a1, a2]
          exact g v (by omega))
      rw [show ((i + 1 : Nat) : Int) = (i : Int) + 1 by omega] at this
      exact this
  exact key 4 0 rfl I (fun _ _ _ => rfl) (fun v hv => by omega)
theorem k_keep {r1 n c : Nat} {I : IM} {K : Option AV → IM → Prop} (h1 : isRd r1) (hr : r1 < 78) (hs : SZC I r1) (hn : I 78 1 = n) (n16 : n < 16) (hc : I 78 2 = c) (c16 : c ≤ 16) (h : ∀ J, (∀ o k, (o ≠ 78 ∨ (k ≠ 1 ∧ k ≠ 2)) → ¬ (80 + 7 * n + 1 ≤ o ∧ o ≤ 80 + 7 * n + 6) → J o k = I o k) → J 78 1 = (((n + 1) % 16 : Nat) : Int) → J 78 2 = ((if c = 16 then 16 else c + 1 : Nat) : Int) → SZC J (80 + 7 * n) → (∀ v, v < 4 → LC J (80 + 7 * n) v = LC I r1 v) → K none J) : CALL S0 77 [vR 78, vR r1] I K := by
  refine e77 h1 ?_
  unfold D77_0 inR
  rw [hn, Int.toNat_natCast]
  refine ⟨by omega, k_copy (q79 n16) h1 (by omega) hs fun J f s l => ⟨rfl, ?_⟩⟩
  rw [f 78 1 (by omega), hn, Int.tmod_eq_emod_of_nonneg (by omega), Int.tdiv_eq_ediv_of_nonneg (by omega)]
  refine ⟨by omega, by omega, fun I5 e5 => ?_⟩
  have c5 : I5 78 2 = c := by rw [e5, iup_ne (Or.inr (by decide)), f 78 2 (by omega)]; exact hc
  rw [c5]
  have f5 : ∀ o k, (o ≠ 78 ∨ k ≠ 1) → I5 o k = J o k := fun o k a => by rw [e5, iup_ne a]
  split
  · rename_i z
    refine h I5 (fun o k a b => by rw [f5 o k (by omega)]; exact f o k b) (by rw [e5, iup_same]; omega) ?_ (fun v hv => by rw [f5 _ _ (by omega)]; exact s v hv) (fun v hv => (LC_cg (f5 _ _ (by omega)) (fun k => f5 _ _ (by omega))).trans (l v hv))
    rw [c5, if_pos (by omega)]
    omega
  · rename_i z
    refine ⟨by omega, fun I8 e8 => ?_⟩
    have f8 : ∀ o k, (o ≠ 78 ∨ (k ≠ 1 ∧ k ≠ 2)) → I8 o k = J o k := fun o k a => by rw [e8, iup_ne (by omega)]; exact f5 o k (by omega)
    refine h I8 (fun o k a b => by rw [f8 o k a]; exact f o k b) (by rw [e8, iup_ne (Or.inr (by decide)), e5, iup_same]; omega) ?_ (fun v hv => by rw [f8 _ _ (by omega)]; exact s v hv) (fun v hv => (LC_cg (f8 _ _ (by omega)) (fun k => f8 _ _ (by omega))).trans (l v hv))
    rw [e8, iup_same, if_neg (by omega)]
    omega
theorem m_tries {I : IM} {K : Option AV → IM → Prop} (h : K none (cpd I 238 114 242 0 52)) : CALL S0 201 [vR 237] I K := by
  refine e201 ?_
  unfold D201_0
  have key : ∀ n : Nat, n ≤ 52 → GO S0 201 2 [vR 237, vI ((52 - n : Nat) : Int)] [] (cpd I 238 114 242 0 (52 - n)) K := by
    intro n
    induction n with
    | zero =>
      intro _
      refine g201_2 _ _ K ?_
      unfold D201_2
      rw [if_pos (by omega)]
      exact h
    | succ n ih =>
      intro hn
      refine g201_2 _ _ K ?_
      unfold D201_2 inR
      rw [if_neg (by omega)]
      refine ⟨by omega, by omega, by omega, fun I5 e5 => ⟨by omega, ?_⟩⟩
      have e1 : I5 = cpd I 238 114 242 0 (52 - n) := by
        rw [e5, show (114 + ((52 - (n + 1) : Nat) : Int)).toNat = 114 + (52 - (n + 1)) by omega, show (((52 - (n + 1) : Nat) : Int)).toNat = 0 + (52 - (n + 1)) by omega, cpd_c (by decide), cpd_s (by decide), show 52 - (n + 1) + 1 = 52 - n by omega]
      rw [e1, show ((52 - (n + 1) : Nat) : Int) + 1 = ((52 - n : Nat) : Int) by omega]
      exact ih (by omega)
  have := key 52 (Nat.le_refl _)
  rw [show 52 - 52 = 0 from rfl, cpd_0] at this
  exact this
theorem m_marks {I : IM} {K : Option AV → IM → Prop} (h : K none (cpd I 238 114 247 0 52)) : CALL S0 202 [vR 237] I K := by
  refine e202 ?_
  unfold D202_0
  have key : ∀ n : Nat, n ≤ 52 → GO S0 202 2 [vR 237, vI ((52 - n : Nat) : Int)] [] (cpd I 238 114 247 0 (52 - n)) K := by
    intro n
    induction n with
    | zero =>
      intro _
      refine g202_2 _ _ K ?_
      unfold D202_2
      rw [if_pos (by omega)]
      exact h
    | succ n ih =>
      intro hn
      refine g202_2 _ _ K ?_
      unfold D202_2 inR
      rw [if_neg (by omega)]
      refine ⟨by omega, by omega, by omega, fun I5 e5 => ⟨by omega, ?_⟩⟩
      have e1 : I5 = cpd I 238 114 247 0 (52 - n) := by
        rw [e5, show (114 + ((52 - (n + 1) : Nat) : Int)).toNat = 114 + (52 - (n + 1)) by omega, show (((52 - (n + 1) : Nat) : Int)).toNat = 0 + (52 - (n + 1)) by omega, cpd_c (by decide), cpd_s (by decide), show 52 - (n + 1) + 1 = 52 - n by omega]
      rw [e1, show ((52 - (n + 1) : Nat) : Int) + 1 = ((52 - n : Nat) : Int) by omega]
      exact ih (by omega)
  have := key 52 (Nat.le_refl _)
  rw [show 52 - 52 = 0 from rfl, cpd_0] at this
  exact this
theorem m_becomes {I : IM} {K : Option AV → IM → Prop} (h : K none (cpd I 242 0 238 114 52)) : CALL S0 170 [vR 237] I K := by
  refine e170 ?_
  unfold D170_0
  have key : ∀ n : Nat, n ≤ 52 → GO S0 170 2 [vR 237, vI ((52 - n : Nat) : Int)] [] (cpd I 242 0 238 114 (52 - n)) K := by
    intro n
    induction n with
    | zero =>
      intro _
      refine g170_2 _ _ K ?_
      unfold D170_2
      rw [if_pos (by omega)]
      exact h
    | succ n ih =>
      intro hn
      refine g170_2 _ _ K ?_
      unfold D170_2 inR
      rw [if_neg (by omega)]
      refine ⟨by omega, by omega, by omega, fun I5 e5 => ⟨by omega, ?_⟩⟩
      have e1 : I5 = cpd I 242 0 238 114 (52 - n) := by
        rw [e5, show (114 + ((52 - (n + 1) : Nat) : Int)).toNat = 114 + (52 - (n + 1)) by omega, show (((52 - (n + 1) : Nat) : Int)).toNat = 0 + (52 - (n + 1)) by omega, cpd_c (by decide), cpd_s (by decide), show 52 - (n + 1) + 1 = 52 - n by omega]
      rw [e1, show ((52 - (n + 1) : Nat) : Int) + 1 = ((52 - n : Nat) : Int) by omega]
      exact ih (by omega)
  have := key 52 (Nat.le_refl _)
  rw [show 52 - 52 = 0 from rfl, cpd_0] at this
  exact this
theorem m_marksBack {I : IM} {K : Option AV → IM → Prop} (h : K none (cpd I 247 0 238 114 52)) : CALL S0 239 [vR 237] I K := by
  refine e239 ?_
  unfold D239_0
  have key : ∀ n : Nat, n ≤ 52 → GO S0 239 2 [vR 237, vI ((52 - n : Nat) : Int)] [] (cpd I 247 0 238 114 (52 - n)) K := by
    intro n
    induction n with
    | zero =>
      intro _
      refine g239_2 _ _ K ?_
      unfold D239_2
      rw [if_pos (by omega)]
      exact h
    | succ n ih =>
      intro hn
      refine g239_2 _ _ K ?_
      unfold D239_2 inR
      rw [if_neg (by omega)]
      refine ⟨by omega, by omega, by omega, fun I5 e5 => ⟨by omega, ?_⟩⟩
      have e1 : I5 = cpd I 247 0 238 114 (52 - n) := by
        rw [e5, show (114 + ((52 - (n + 1) : Nat) : Int)).toNat = 114 + (52 - (n + 1)) by omega, show (((52 - (n + 1) : Nat) : Int)).toNat = 0 + (52 - (n + 1)) by omega, cpd_c (by decide), cpd_s (by decide), show 52 - (n + 1) + 1 = 52 - n by omega]
      rw [e1, show ((52 - (n + 1) : Nat) : Int) + 1 = ((52 - n : Nat) : Int) by omega]
      exact ih (by omega)
  have := key 52 (Nat.le_refl _)
  rw [show 52 - 52 = 0 from rfl, cpd_0] at this
  exact this
theorem cpd_in {I : IM} {c sp d dp n k : Nat} (h1 : dp ≤ k) (h2 : k < dp + n) : cpd I c sp d dp n d k = I c (sp + (k - dp)) := by
  unfold cpd
  rw [if_pos ⟨rfl, h1, h2⟩]
theorem cpd_out {I : IM} {c sp d dp n o k : Nat} (h : o ≠ d ∨ k < dp ∨ dp + n ≤ k) : cpd I c sp d dp n o k = I o k := by
  unfold cpd
  rw [if_neg (by omega)]
def sh5 (I : IM) (m : Nat) : IM := fun o k => if o = 240 ∧ k < m then I 240 (k + 52) else I o k
theorem sh5_in {I : IM} {m k : Nat} (h : k < m) : sh5 I m 240 k = I 240 (k + 52) := if_pos ⟨rfl, h⟩
theorem sh5_out {I : IM} {m o k : Nat} (h : o ≠ 240 ∨ m ≤ k) : sh5 I m o k = I o k := if_neg (by omega)
theorem sh5_s {I : IM} {m : Nat} : iup (sh5 I m) 240 m (I 240 (m + 52)) = sh5 I (m + 1) := by
  funext o k
  by_cases c1 : o = 240 ∧ k = m
  · rw [c1.1, c1.2, iup_same, sh5_in (by omega)]
  · rw [iup_ne (by omega)]
    by_cases c2 : o = 240 ∧ k < m
    · rw [c2.1, sh5_in c2.2, sh5_in (by omega)]
    · rw [sh5_out (by omega), sh5_out (by omega)]
theorem m_steps {c : Nat} {I : IM} {K : Option AV → IM → Prop} (hc : I 237 4 = c) (c16 : c ≤ 16) (h : ∀ J, (∀ o k, o ≠ 240 → (o ≠ 237 ∨ k ≠ 4) → J o k = I o k) → J 237 4 = ((if c = 16 then 16 else c + 1 : Nat) : Int) → (∀ k, k < 52 → J 240 (52 * (if c = 16 then 15 else c) + k) = I 247 k) → (∀ k, k < 52 * (if c = 16 then 15 else c) → J 240 k = I 240 (k + if c = 16 then 52 else 0)) → K none J) : CALL S0 203 [vR 237] I K := by
  refine e203 ?_
  unfold D203_0
  have lay : ∀ d : Nat, d ≤ 15 → ∀ J0 : IM, J0 237 4 = d → (∀ J, (∀ o k, (o ≠ 240 ∨ k < 52 * d ∨ 52 * d + 52 ≤ k) → (o ≠ 237 ∨ k ≠ 4) → J o k = J0 o k) → J 237 4 = (d : Int) + 1 → (∀ k, k < 52 → J 240 (52 * d + k) = J0 247 k) → K none J) → GO S0 203 51 [vR 237, vI 0] [] J0 K := by
    intro d hd J0 j4 hK
    have key : ∀ n : Nat, n ≤ 52 → GO S0 203 51 [vR 237, vI ((52 - n : Nat) : Int)] [] (cpd J0 247 0 240 (52 * d) (52 - n)) K := by
      intro n
      induction n with
      | zero =>
        intro _
        refine g203_51 _ _ K ?_
        unfold D203_51 inR
        rw [if_pos (by omega), cpd_out (by omega), j4]
        refine ⟨by omega, fun I3 e3 => ?_⟩
        refine hK I3 (fun o k a b => by rw [e3, iup_ne b, cpd_out (by omega)]) (by rw [e3, iup_same]) (fun k hk => ?_)
        rw [e3, iup_ne (Or.inl (by decide)), cpd_in (by omega) (by omega)]
        congr 1
        omega
      | succ n ih =>
        intro hn
        refine g203_51 _ _ K ?_
        unfold D203_51 inR
        rw [if_neg (by omega), cpd_out (o := 237) (by omega), j4]
        refine ⟨by omega, by omega, by omega, by omega, fun I8 e8 => ⟨by omega, ?_⟩⟩
        have e1 : I8 = cpd J0 247 0 240 (52 * d) (52 - n) := by
          rw [e8, show (52 * (d : Int) + ((52 - (n + 1) : Nat) : Int)).toNat = 52 * d + (52 - (n + 1)) by omega, show (((52 - (n + 1) : Nat) : Int)).toNat = 0 + (52 - (n + 1)) by omega, cpd_c (by decide), cpd_s (by decide), show 52 - (n + 1) + 1 = 52 - n by omega]
        rw [e1, show ((52 - (n + 1) : Nat) : Int) + 1 = ((52 - n : Nat) : Int) by omega]
        exact ih (by omega)
    have := key 52 (Nat.le_refl _)
    rw [show 52 - 52 = 0 from rfl, cpd_0] at this
    exact this
  rw [hc]
  by_cases z : c = 16
  · subst z
    rw [if_pos (by decide)]
    have key : ∀ n : Nat, n ≤ 780 → GO S0 203 11 [vR 237, vI ((780 - n : Nat) : Int)] [] (sh5 I (780 - n)) K := by
      intro n
      induction n with
      | zero =>
        intro _
        refine g203_11 _ _ K ?_
        unfold D203_11 inR
        rw [if_pos (by omega), sh5_out (by omega), hc]
        refine ⟨by omega, fun I3 e3 => lay 15 (by omega) I3 (by rw [e3, iup_same]; rfl) fun J f j4 jn => ?_⟩
        refine h J (fun o k a b => ?_) (by rw [j4]; rfl) (fun k hk => ?_) (fun k hk => ?_)
        · rw [f o k (Or.inl a) b, e3, iup_ne b, sh5_out (Or.inl a)]
        · rw [if_pos rfl, jn k hk, e3, iup_ne (Or.inl (by decide)), sh5_out (Or.inl (by decide))]
        · rw [if_pos rfl] at hk ⊢
          rw [f 240 k (by omega) (by omega), e3, iup_ne (Or.inl (by decide)), sh5_in (by omega)]
      | succ n ih =>
        intro hn
        refine g203_11 _ _ K ?_
        unfold D203_11 inR
        rw [if_neg (by omega)]
        refine ⟨by omega, by omega, by omega, fun I7 e7 => ⟨by omega, ?_⟩⟩
        have e1 : I7 = sh5 I (780 - n) := by
          rw [e7, show (((780 - (n + 1) : Nat) : Int) + 52).toNat = 780 - (n + 1) + 52 by omega, show (((780 - (n + 1) : Nat) : Int)).toNat = 780 - (n + 1) by omega, sh5_out (by omega), sh5_s, show 780 - (n + 1) + 1 = 780 - n by omega]
        rw [e1, show ((780 - (n + 1) : Nat) : Int) + 1 = ((780 - n : Nat) : Int) by omega]
        exact ih (by omega)
    have := key 780 (Nat.le_refl _)
    rw [show sh5 I (780 - 780) = I from funext fun o => funext fun k => sh5_out (by omega)] at this
    exact this
  · rw [if_neg (by omega)]
    refine lay c (by omega) I hc fun J f j4 jn => ?_
    refine h J (fun o k a b => f o k (Or.inl a) b) (by rw [j4, if_neg z]; omega) (fun k hk => by rw [if_neg z]; exact jn k hk) (fun k hk => ?_)
    rw [if_neg z] at hk ⊢
    rw [Nat.add_zero]
    exact f 240 k (by omega) (by omega)
/-- one out of, one into a list of the class, of the model -/
theorem k_ins {r v k : Nat} {x : Int} {I : IM} {K : Option AV → IM → Prop} (hr : isRd r) (hv : v < 4) (hs : SZC I r) (h12 : (LC I r v).length < 12) (hk : k ≤ (LC I r v).length) (h : ∀ J, (∀ p j, p ≠ r + 1 → (p < r + 3 ∨ r + 6 < p) → J p j = I p j) → SZC J r → (∀ w, w < 4 → LC J r w = setR (LC I r) v ((LC I r v).insertIdx k x) w) → K none J) : CALL S0 45 [vR r, vI x, vI (v : Int), vI (k : Int)] I K := by
  have sz := hs v hv
  have ll := @LC_len I r v
  have hkn : k ≤ (I (r + 1) v).toNat := by omega
  have f : ∀ p j, (p ≠ r + 1 ∨ j ≠ v) → p ≠ r + 3 + v → iup (insM I (r + 3 + v) 0 (I (r + 1) v).toNat k x) (r + 1) v (I (r + 1) v + 1) p j = I p j := fun p j a b => by rw [iup_ne a, insM_ne (Or.inl b) hkn]
  refine k_insert hr hv (by omega) (by omega) (h _ (fun p j a b => f p j (Or.inl a) (by omega)) (fun w hw => ?_) (fun w hw => ?_))
  · by_cases c : w = v
    · rw [c, iup_same]; omega
    · rw [f _ _ (Or.inr c) (by omega)]; exact hs w hw
  · by_cases c : w = v
    · subst c
      rw [setR_s]
      unfold LC
      rw [iup_same, show (I (r + 1) w + 1).toNat = (I (r + 1) w).toNat + 1 by omega, ← insM_ln hkn]
      exact ln_congr (fun k _ => iup_ne (Or.inl (by omega)))
    · rw [setR_n c]
      exact LC_cg (f _ _ (Or.inr c) (by omega)) (fun k => f _ _ (Or.inl (by omega)) (by omega))
theorem LM0_len {I : IM} {q v : Nat} : (LM I q 0 v).length = (I q (13 * v)).toNat := by rw [LM_len, Nat.zero_add]
theorem LM_cg {I J : IM} {q b v : Nat} (h0 : J q (b + 13 * v) = I q (b + 13 * v)) (h1 : ∀ k, k < (I q (b + 13 * v)).toNat → J q (b + 13 * v + 1 + k) = I q (b + 13 * v + 1 + k)) : LM J q b v = LM I q b v := by
  unfold LM
  rw [h0]
  exact ln_congr (fun k hk => h1 k hk)
theorem m_ins {q v k : Nat} {x : Int} {I : IM} {K : Option AV → IM → Prop} (hq : S0[q]? = some (100, 52, [])) (hv : v < 4) (hs : SZM I q 0) (h12 : (LM I q 0 v).length < 12) (hk : k ≤ (LM I q 0 v).length) (h : ∀ J, (∀ p j, p ≠ q → J p j = I p j) → SZM J q 0 → (∀ w, w < 4 → LM J q 0 w = setR (LM I q 0) v ((LM I q 0 v).insertIdx k x) w) → K none J) : CALL S0 157 [vR q, vI (v : Int), vI (k : Int), vI x] I K := by
  have sz := hs v hv
  have ll := @LM0_len I q v
  rw [Nat.zero_add] at sz
  have hkn : k ≤ (I q (13 * v)).toNat := by omega
  have f : ∀ p j, (p ≠ q ∨ j < 13 * v ∨ 13 * v + 13 ≤ j) → iup (insM I q (13 * v + 1) (I q (13 * v)).toNat k x) q (13 * v) (I q (13 * v) + 1) p j = I p j := fun p j a => by rw [iup_ne (by omega), insM_ne (by omega) hkn]
  refine m_putsIn hq hv (by omega) (by omega) (h _ (fun p j a => f p j (Or.inl a)) (fun w hw => ?_) (fun w hw => ?_))
  · rw [Nat.zero_add]
    by_cases c : w = v
    · rw [c, iup_same]; omega
    · rw [f _ _ (Or.inr (by omega))]
      have := hs w hw
      rw [Nat.zero_add] at this
      exact this
  · by_cases c : w = v
    · subst c
      rw [setR_s]
      unfold LM
      rw [Nat.zero_add, iup_same, show (I q (13 * w) + 1).toNat = (I q (13 * w)).toNat + 1 by omega, ← insM_ln hkn]
      exact ln_congr (fun k _ => iup_ne (Or.inr (by omega)))
    · rw [setR_n c]
      have := hs w hw
      exact LM_cg (f _ _ (Or.inr (by omega))) (fun k hk => f _ _ (Or.inr (by omega)))
theorem m_del {q v k : Nat} {I : IM} {K : Option AV → IM → Prop} (hq : S0[q]? = some (100, 52, [])) (hv : v < 4) (hs : SZM I q 0) (hk : k < (LM I q 0 v).length) (h : ∀ J, (∀ p j, p ≠ q → J p j = I p j) → SZM J q 0 → (∀ w, w < 4 → LM J q 0 w = setR (LM I q 0) v ((LM I q 0 v).eraseIdx k) w) → K none J) : CALL S0 207 [vR q, vI (v : Int), vI (k : Int)] I K := by
  have sz := hs v hv
  have ll := @LM0_len I q v
  rw [Nat.zero_add] at sz
  have hkn : k < (I q (13 * v)).toNat := by omega
  have f : ∀ p j, (p ≠ q ∨ j < 13 * v ∨ 13 * v + 13 ≤ j) → shD (iup I q (13 * v) (I q (13 * v) - 1)) q (13 * v + 1) k ((I q (13 * v)).toNat - 1) p j = I p j := fun p j a => by
    unfold shD
    rw [if_neg (by omega), iup_ne (by omega)]
  have s0 : shD (iup I q (13 * v) (I q (13 * v) - 1)) q (13 * v + 1) k ((I q (13 * v)).toNat - 1) q (13 * v) = I q (13 * v) - 1 := by
    unfold shD
    rw [if_neg (by omega), iup_same]
  refine m_takesOut hq hv (by omega) (by omega) (h _ (fun p j a => f p j (Or.inl a)) (fun w hw => ?_) (fun w hw => ?_))
  · rw [Nat.zero_add]
    by_cases c : w = v
    · rw [c, s0]; omega
    · rw [f _ _ (Or.inr (by omega))]
      have := hs w hw
      rw [Nat.zero_add] at this
      exact this
  · by_cases c : w = v
    · subst c
      rw [setR_s]
      have e2 := delM_ln (I := I) (o := q) (off := 13 * w + 1) hkn
      unfold LM
      rw [Nat.zero_add, s0, show (I q (13 * w) - 1).toNat = (I q (13 * w)).toNat - 1 by omega, ← e2]
      refine ln_congr (fun j hj => ?_)
      unfold shD
      by_cases d : k ≤ j
      · rw [if_pos (by omega), if_pos (by omega), iup_ne (Or.inr (by omega))]
      · rw [if_neg (by omega), if_neg (by omega), iup_ne (Or.inr (by omega))]
    · rw [setR_n c]
      have := hs w hw
      exact LM_cg (f _ _ (Or.inr (by omega))) (fun k hk => f _ _ (Or.inr (by omega)))
theorem k_del {r : Nat} {x : Int} {I : IM} {K : Option AV → IM → Prop} (hr : isRd r) (hs : SZC I r) (hx : 0 ≤ vanF (LC I r) x) (h : ∀ J, (∀ p j, p ≠ r + 1 → (p < r + 3 ∨ r + 6 < p) → J p j = I p j) → SZC J r → (∀ w, w < 4 → LC J r w = setR (LC I r) (vanF (LC I r) x).toNat ((LC I r (vanF (LC I r) x).toNat).eraseIdx (idx x (LC I r (vanF (LC I r) x).toNat))) w) → K none J) : CALL S0 80 [vR r, vI x] I K := by
  refine e80 hr ?_
  unfold D80_0 inR
  obtain ⟨h1, h2, h3⟩ := vanF_mem hx
  refine k_vanOf hr hs ⟨_, rfl, k_placeOf hr hs ⟨_, rfl, ?_⟩⟩
  rw [h3]
  generalize hw : (vanF (LC I r) x).toNat = v at h1 h2 h
  have il := idx_lt h2
  generalize hk : idx x (LC I r v) = k at il h
  rw [show vanF (LC I r) x = (v : Int) by omega, if_neg (by omega), if_neg (by omega)]
  have sz := hs v h1
  have ll := @LC_len I r v
  obtain ⟨n, hn⟩ : ∃ n : Nat, I (r + 1) v = (n : Int) + 1 := ⟨(I (r + 1) v).toNat - 1, by omega⟩
  refine ⟨by omega, by omega, fun I9 e9 => ?_⟩
  have s9 : I9 (r + 1) v = n := by rw [e9, iup_same]; omega
  have key : ∀ d : Nat, d ≤ n - k → GO S0 80 44 [vR r, vI x, vI (v : Int), vI (k : Int), vR (r + 3 + v), vI ((n - d : Nat) : Int)] [] (shD I9 (r + 3 + v) 0 k (n - d)) K := by
    intro d
    induction d with
    | zero =>
      intro _
      refine g80_44 r hr _ _ _ _ _ (rd_3 hr h1) _ K ?_
      unfold D80_44
      rw [Int.toNat_natCast, shD_ne (by omega), s9, if_pos (by omega)]
      refine ⟨by omega, ?_⟩
      have f : ∀ p j, (p ≠ r + 1 ∨ j ≠ v) → p ≠ r + 3 + v → shD I9 (r + 3 + v) 0 k (n - 0) p j = I p j := fun p j a b => by
        rw [shD_ne b, e9, iup_ne a]
      refine h _ (fun p j a b => f p j (Or.inl a) (by omega)) (fun w hw => ?_) (fun w hw => ?_)
      · by_cases c : w = v
        · rw [c, shD_ne (by omega), s9]; omega
        · rw [f _ _ (Or.inr c) (by omega)]; exact hs w hw
      · by_cases c : w = v
        · subst c
          rw [setR_s]
          have e2 := delM_ln (I := I) (o := r + 3 + w) (off := 0) (n := n + 1) (k := k) (by omega)
          unfold LC
          rw [shD_ne (by omega), s9, Int.toNat_natCast, show (I (r + 1) w).toNat = n + 1 by omega, ← e2, Nat.add_sub_cancel]
          refine ln_congr (fun j hj => ?_)
          unfold shD
          by_cases d : k ≤ j
          · rw [if_pos (by omega), if_pos (by omega), e9, iup_ne (Or.inl (by omega))]
          · rw [if_neg (by omega), if_neg (by omega), e9, iup_ne (Or.inl (by omega))]
        · rw [setR_n c]
          exact LC_cg (f _ _ (Or.inr c) (by omega)) (fun k => f _ _ (Or.inl (by omega)) (by omega))
    | succ d ih =>
      intro hd
      refine g80_44 r hr _ _ _ _ _ (rd_3 hr h1) _ K ?_
      unfold D80_44 inR
      rw [Int.toNat_natCast, shD_ne (by omega), s9, if_neg (by omega)]
      refine ⟨by omega, by omega, by omega, by omega, fun I6 e6 => ?_⟩
      have e1 : I6 = shD I9 (r + 3 + v) 0 k (n - d) := by
        rw [e6, show (((n - (d + 1) : Nat) : Int) + 1).toNat = 0 + (n - (d + 1)) + 1 by omega, show (((n - (d + 1) : Nat) : Int)).toNat = 0 + (n - (d + 1)) by omega, shD_hi (by omega), show n - d = n - (d + 1) + 1 by omega]
        exact shD_s (by omega)
      rw [e1, show ((n - (d + 1) : Nat) : Int) + 1 = ((n - d : Nat) : Int) by omega]
      exact ih (by omega)
  have := key (n - k) (Nat.le_refl _)
  rw [show n - (n - k) = k by omega, shD_0] at this
  exact this
/-! how rounds change, in class and model -/
theorem SAR_mv {I I' : IM} {r q b r' q' b' : Nat} (h : SAR I r q b) (h1 : ∀ v, v < 4 → I' (r' + 1) v = I (r + 1) v) (h2 : ∀ v k, v < 4 → k < 12 → I' (r' + 3 + v) k = I (r + 3 + v) k) (h3 : ∀ k, k < 52 → I' q' (b' + k) = I q (b + k)) (h4 : ∀ k, k < 114 → I' 238 k = I 238 k) (hn : I 238 5 ≤ 12) : SAR I' r' q' b' := by
  obtain ⟨a1, a2, a3, a4⟩ := h
  have eM : ∀ v, v < 4 → LM I' q' b' v = LM I q b v := fun v hv => LM_congr (a2 v hv) (fun k hk => by rw [Nat.add_assoc, Nat.add_assoc]; exact h3 _ (by omega))
  have eC : ∀ v, v < 4 → LC I' r' v = LC I r v := fun v hv => LC_congr (h1 v hv) (fun k hk => h2 v k hv (by have := a1 v hv; omega))
  refine ⟨fun v hv => by rw [h1 v hv]; exact a1 v hv, fun v hv => by rw [h3 _ (by omega)]; exact a2 v hv, fun v hv => by rw [eM v hv, eC v hv]; exact a3 v hv, VR_eq eM (VR_lo h4 hn a4)⟩
def CK (I J : IM) (kp : Bool) : Prop := match kp with
  | true => ∃ n c : Nat, I 78 1 = n ∧ n < 16 ∧ I 78 2 = c ∧ J 78 1 = (((n + 1) % 16 : Nat) : Int) ∧ J 78 2 = ((if c = 16 then 16 else c + 1 : Nat) : Int) ∧ (∀ o k, 80 ≤ o → o ≤ 191 → ¬ (80 + 7 * n + 1 ≤ o ∧ o ≤ 80 + 7 * n + 6) → J o k = I o k) ∧ SZC J (80 + 7 * n) ∧ ∀ v, v < 4 → LC J (80 + 7 * n) v = LC I 29 v
  | false => ∀ o k, 78 ≤ o → o ≤ 191 → J o k = I o k
def MK (I J : IM) (kp : Bool) : Prop := match kp with
  | true => ∃ c : Nat, I 237 4 = c ∧ J 237 4 = ((if c = 16 then 16 else c + 1 : Nat) : Int) ∧ (∀ k, k < 52 → J 240 (52 * (if c = 16 then 15 else c) + k) = I 238 (114 + k)) ∧ (∀ k, k < 52 * (if c = 16 then 15 else c) → J 240 k = I 240 (k + if c = 16 then 52 else 0))
  | false => J 240 = I 240 ∧ J 237 4 = I 237 4
def CS (I J : IM) (R : Nat → List Int) (kp : Bool) : Prop := (∀ o k, ¬ SCR o k → (o < 29 ∨ 35 < o) → (o < 78 ∨ 191 < o) → J o k = I o k) ∧ SZC J 29 ∧ (∀ v, v < 4 → LC J 29 v = R v) ∧ CK I J kp
def MS (I J : IM) (R : Nat → List Int) (kp : Bool) : Prop := (∀ o k, ¬ SCR o k → (o ≠ 238 ∨ k < 114) → o ≠ 240 → (o ≠ 237 ∨ k ≠ 4) → J o k = I o k) ∧ SZM J 238 114 ∧ (∀ v, v < 4 → LM J 238 114 v = R v) ∧ MK I J kp
theorem rel_of {I J1 J2 : IM} {R : Nat → List Int} {kp : Bool} (h : REL I) (hc : CS I J1 R kp) (hm : MS J1 J2 R kp) (hV : VR (I 238) R) : REL J2 ∧ SC I J2 := by
  obtain ⟨h1, h2, h3, h4, h5, h6, h7⟩ := h
  obtain ⟨c1, c2, c3, c4⟩ := hc
  obtain ⟨m1, m2, m3, m4⟩ := hm
  have hn := h1.1.1.2
  have f : ∀ o k, ¬ SCR o k → (o < 29 ∨ 35 < o) → (o < 78 ∨ 191 < o) → (o ≠ 238 ∨ k < 114) → o ≠ 240 → (o ≠ 237 ∨ k ≠ 4) → J2 o k = I o k := fun o k a b c d e g => (m1 o k a d e g).trans (c1 o k a b c)
  have fo : ∀ o k, (o < 29 ∨ (36 ≤ o ∧ o < 71) ∨ (208 ≤ o ∧ o ≤ 211) ∨ (231 ≤ o ∧ o ≤ 236) ∨ (o = 237 ∧ (k = 2 ∨ k = 16 ∨ k = 18)) ∨ (o = 238 ∧ k < 114) ∨ o = 239 ∨ o = 244 ∨ o = 246 ∨ 250 ≤ o) → J2 o k = I o k := fun o k a => f o k (by unfold SCR; omega) (by omega) (by omega) (by omega) (by omega) (by omega)
  have fm : ∀ o k, (o < 71 ∨ (78 ≤ o ∧ o < 192)) → J2 o k = J1 o k := fun o k a => m1 o k (by unfold SCR; omega) (by omega) (by omega) (by omega)
  have g : ∀ k, k < 114 → J2 238 k = I 238 k := fun k hk => fo 238 k (by omega)
  have q1 : ∀ o k, (o = 238 ∨ o = 240 ∨ (o = 237 ∧ k = 4)) → J1 o k = I o k := fun o k a => c1 o k (by unfold SCR; omega) (by omega) (by omega)
  refine ⟨⟨RB_fr h1 (fun o k _ _ => fo o k (by omega)) g, ⟨fun v hv => by rw [fm _ _ (by omega)]; exact c2 v hv, m2, fun v hv => ?_, VR_eq m3 (VR_lo g hn hV)⟩, RI_fr h3 (fun o k _ _ => fo o k (by omega)) (funext fun k => fo 239 k (by omega)) (fo 0 6 (by omega)) (fo 237 2 (by omega)), ?_, RT_fr h5 (fo 208 1 (by omega)) (fo 237 16 (by omega)) (funext fun k => fo 209 k (by omega)) (funext fun k => fo 244 k (by omega)), RP_fr h6 (fo 210 1 (by omega)) (fo 237 18 (by omega)) (funext fun k => fo 211 k (by omega)) (funext fun k => fo 246 k (by omega)), RW_fr h7 (fun o k _ _ => fo o k (by omega)) (funext fun k => fo 250 k (by omega)) (funext fun k => fo 251 k (by omega))⟩, fun o k a => fo o k (by omega)⟩
  · rw [m3 v hv, ← c3 v hv]
    exact LC_cg (fm _ _ (by omega)) (fun k => fm _ _ (by omega))
  · cases kp with
    | false =>
      refine RS_fr h4 (fun o k a b => by rw [fm o k (by omega)]; exact c4 o k a b) ?_ ?_ g hn
      · rw [m4.1]; exact funext fun k => q1 240 k (by omega)
      · rw [m4.2]; exact q1 237 4 (by omega)
    | true =>
      obtain ⟨c, n, a1, a2, a3, a4, a5, a6⟩ := h4
      obtain ⟨n', c', b1, b2, b3, b4, b5, b6, b7, b8⟩ := c4
      obtain ⟨c'', d1, d2, d3, d4⟩ := m4
      have en : n' = n := by omega
      have ec : c' = c := by omega
      have ec2 : c'' = c := by rw [q1 237 4 (by omega)] at d1; omega
      rw [en] at b4 b6 b7 b8
      rw [ec] at b5
      rw [ec2] at d2 d3 d4
      refine ⟨if c = 16 then 16 else c + 1, (n + 1) % 16, d2, by rw [fm 78 2 (by omega)]; exact b5, by split <;> omega, by rw [fm 78 1 (by omega)]; exact b4, by omega, fun i hi => ?_⟩
      by_cases z : i = 0
      · subst z
        have er : rg ((n + 1) % 16) 0 = 80 + 7 * n := by unfold rg; omega
        have eb : 52 * ((if c = 16 then 16 else c + 1) - 1 - 0) = 52 * (if c = 16 then 15 else c) := by split <;> omega
        rw [er, eb]
        have d3' : ∀ k, k < 52 → J2 240 (52 * (if c = 16 then 15 else c) + k) = I 238 (114 + k) := fun k hk => by rw [d3 k hk]; exact q1 238 _ (by omega)
        have eM : ∀ v, v < 4 → LM J2 240 (52 * (if c = 16 then 15 else c)) v = LM I 238 114 v := fun v hv => LM_congr (h2.2.1 v hv) (fun k hk => by rw [Nat.add_assoc, Nat.add_assoc]; exact d3' _ (by omega))
        refine ⟨fun v hv => by rw [fm _ _ (by omega)]; exact b7 v hv, fun v hv => by rw [d3' _ (by omega)]; exact h2.2.1 v hv, fun v hv => ?_, VR_eq eM (VR_lo g hn h2.2.2.2)⟩
        rw [eM v hv, ← h2.2.2.1 v hv, ← b8 v hv]
        exact LC_cg (fm _ _ (by omega)) (fun k => fm _ _ (by omega))
      · have hi' : i < c + 1 ∧ i < 16 := by split at hi <;> omega
        have er : rg ((n + 1) % 16) i = rg n (i - 1) := by unfold rg; congr 2; omega
        have hr : 80 ≤ rg n (i - 1) ∧ rg n (i - 1) ≤ 185 ∧ (rg n (i - 1) + 7 ≤ 80 + 7 * n ∨ 80 + 7 * n + 7 ≤ rg n (i - 1)) := by unfold rg; omega
        rw [er]
        refine SAR_mv (a6 (i - 1) (by omega)) (fun v hv => ?_) (fun v k hv _ => ?_) (fun k hk => ?_) g hn
        · rw [fm _ _ (by omega)]; exact b6 _ _ (by omega) (by omega) (by omega)
        · rw [fm _ _ (by omega)]; exact b6 _ _ (by omega) (by omega) (by omega)
        · by_cases y : c = 16
          · simp only [if_pos y] at d4 ⊢
            rw [d4 _ (by omega), q1 240 _ (by omega)]
            congr 1
            omega
          · simp only [if_neg y] at d4 ⊢
            rw [d4 _ (by omega), q1 240 _ (by omega)]
            congr 1
            omega
theorem both_r {cm mm : Nat} {as : List AV} {I : IM} (a : Int) (R : Nat → List Int) (kp : Bool) (h : REL I) (hV : VR (I 238) R) (hc : ∀ K : Option AV → IM → Prop, (∀ J, CS I J R kp → K (some (vI a)) J) → CALL S0 cm (vR 0 :: as) I K) (hm : ∀ J, CS I J R kp → J 238 = I 238 → ∀ K : Option AV → IM → Prop, (∀ J', MS J J' R kp → K (some (vI a)) J') → CALL S0 mm (vR 237 :: as) J K) : BOTH cm mm as I :=
  hc _ fun J c => ⟨a, rfl, hm J c (funext fun k => c.1 238 k (by unfold SCR; omega) (by omega) (by omega)) _ fun J' m => by
    have := rel_of h c m hV
    exact ⟨rfl, this.1, this.2⟩⟩
