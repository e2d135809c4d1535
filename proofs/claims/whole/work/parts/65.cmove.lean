/-! level 2: moves: the class -/
/-- frame of moves in the class -/
def FK (I J : IM) : Prop := ∀ p j, p ≠ 192 → (p < 195 ∨ 203 < p) → J p j = I p j
theorem FK_refl {I : IM} : FK I I := fun _ _ _ _ => rfl
theorem FK_trans {I J L : IM} (h : FK I J) (h' : FK J L) : FK I L := fun p j a b => (h' p j a b).trans (h p j a b)
theorem CF_fk {G : Nat → Int} {R : Nat → List Int} {J J' : IM} (h : CF G R J) (f : FK J J') : CF G R J' := CF_fr h (fun o k a => f o k (by omega) (by omega))
theorem c_last {b : Nat} {a : Int} {G : Nat → Int} {R : Nat → List Int} {J : IM} {K : Option AV → IM → Prop} (hC : CF G R J) (hb : b < 4) (h12 : (R b).length ≤ 12) (h : K (some (vI (((R b).length : Int) - (if vanF R a = (b : Int) then 1 else 0)))) J) : CALL S0 83 [vR 195, vI a, vI (b : Int)] J K := by
  refine e83 ?_
  unfold D83_0 inR
  have cl := CF_len hC hb
  refine c_vanOf hC.2.1 hC.2.2 ⟨_, rfl, ?_⟩
  rw [Int.toNat_natCast, cl]
  split
  · rename_i z
    rw [if_pos z] at h
    exact ⟨by omega, by omega, h⟩
  · rename_i z
    rw [if_neg z, Int.sub_zero] at h
    exact ⟨by omega, h⟩
theorem c_isMove {kind a b c : Int} {G : Nat → Int} {R : Nat → List Int} {J : IM} {K : Option AV → IM → Prop} (hC : CF G R J) (h12 : ∀ v, v < 4 → (R v).length ≤ 12) (hc : inR c) (h : K (some (vI (mvB R kind a b c))) J) : CALL S0 82 [vR 195, vI kind, vI a, vI b, vI c] J K := by
  refine e82 ?_
  unfold D82_0
  unfold mvB at h
  have vr := @vanF_r R a
  have vr2 := @vanF_r R b
  by_cases k0 : kind = 0
  · rw [if_pos k0] at h ⊢
    refine c_vanOf hC.2.1 hC.2.2 ⟨_, rfl, ?_⟩
    by_cases ha : vanF R a = -1
    · rw [if_pos ha]
      rw [if_neg (fun z => by omega)] at h
      exact h
    · rw [if_neg ha]
      refine k_isVan ⟨_, rfl, ?_⟩
      by_cases hb : 0 ≤ b ∧ b ≤ 3
      · rw [b2i_t hb, if_neg (by decide)]
        obtain ⟨B, rfl⟩ : ∃ n : Nat, b = n := ⟨b.toNat, by omega⟩
        rw [Int.toNat_natCast] at h
        refine c_last hC (by omega) (h12 B (by omega)) ⟨_, rfl, k_within ⟨_, rfl, ?_⟩⟩
        by_cases z : 0 ≤ c ∧ c ≤ ((R B).length : Int) - (if vanF R a = (B : Int) then 1 else 0)
        · rw [b2i_t z, if_neg (by decide)]
          rw [if_pos ⟨by omega, hb, z.1, z.2⟩] at h
          exact h
        · rw [b2i_f z, if_pos rfl]
          rw [if_neg (fun y => z y.2.2)] at h
          exact h
      · rw [b2i_f hb, if_pos rfl]
        rw [if_neg (fun z => hb z.2.1)] at h
        exact h
  · rw [if_neg k0] at h ⊢
    by_cases k1 : kind = 1
    · rw [if_pos k1] at h ⊢
      by_cases hab : b ≤ a
      · rw [if_pos hab]
        rw [if_neg (fun z => by omega)] at h
        exact h
      · rw [if_neg hab]
        by_cases hc0 : c = 0
        · rw [if_pos hc0]
          refine c_vanOf hC.2.1 hC.2.2 ⟨_, rfl, ?_⟩
          by_cases ha : vanF R a = -1
          · rw [if_pos ha]
            rw [if_neg (fun z => by omega)] at h
            exact h
          · rw [if_neg ha]
            refine c_vanOf hC.2.1 hC.2.2 ⟨_, rfl, ?_⟩
            by_cases hb : vanF R b = -1
            · rw [if_pos hb]
              rw [if_neg (fun z => by omega)] at h
              exact h
            · rw [if_neg hb]
              rw [if_pos ⟨by omega, hc0, by omega, by omega⟩] at h
              exact h
        · rw [if_neg hc0]
          rw [if_neg (fun z => hc0 z.2.1)] at h
          exact h
    · rw [if_neg k1] at h ⊢
      by_cases k2 : kind = 2
      · rw [if_pos k2] at h ⊢
        refine k_isVan ⟨_, rfl, ?_⟩
        by_cases ha : 0 ≤ a ∧ a ≤ 3
        · rw [b2i_t ha, if_neg (by decide)]
          refine k_isVan ⟨_, rfl, ?_⟩
          by_cases hb : 0 ≤ b ∧ b ≤ 3
          · rw [b2i_t hb, if_neg (by decide)]
            by_cases hab : b ≤ a
            · rw [if_pos hab]
              rw [if_neg (fun z => by omega)] at h
              exact h
            · rw [if_neg hab]
              by_cases hc0 : c < 0
              · rw [if_pos hc0]
                rw [if_neg (fun z => by omega)] at h
                exact h
              · rw [if_neg hc0, Int.tmod_eq_emod_of_nonneg (by omega), Int.tdiv_eq_ediv_of_nonneg (by omega), CF_len hC (v := a.toNat) (by omega)]
                refine ⟨by unfold inR; omega, by omega, ?_⟩
                by_cases hi : ((R a.toNat).length : Int) < c % 16
                · rw [if_pos hi]
                  rw [if_neg (fun z => by omega)] at h
                  exact h
                · rw [if_neg hi, CF_len hC (v := b.toNat) (by omega)]
                  refine ⟨by omega, ?_⟩
                  by_cases hj : ((R b.toNat).length : Int) < c / 16
                  · rw [if_pos hj]
                    rw [if_neg (fun z => by omega)] at h
                    exact h
                  · rw [if_neg hj]
                    rw [if_pos ⟨ha, hb, by omega, by omega, by omega, by omega⟩] at h
                    exact h
          · rw [b2i_f hb, if_pos rfl]
            rw [if_neg (fun z => hb z.2.1)] at h
            exact h
        · rw [b2i_f ha, if_pos rfl]
          rw [if_neg (fun z => ha z.1)] at h
          exact h
      · rw [if_neg k2] at h ⊢
        by_cases k3 : kind = 3
        · rw [if_pos k3] at h ⊢
          refine k_isVan ⟨_, rfl, ?_⟩
          by_cases ha : 0 ≤ a ∧ a ≤ 3
          · rw [b2i_t ha, if_neg (by decide)]
            by_cases hb : b < 0
            · rw [if_pos hb]
              rw [if_neg (fun z => by omega)] at h
              exact h
            · rw [if_neg hb]
              by_cases hbc : c ≤ b
              · rw [if_pos hbc]
                rw [if_neg (fun z => by omega)] at h
                exact h
              · rw [if_neg hbc, CF_len hC (v := a.toNat) (by omega)]
                refine ⟨by omega, ?_⟩
                by_cases hl : ((R a.toNat).length : Int) ≤ c
                · rw [if_pos hl]
                  rw [if_neg (fun z => by omega)] at h
                  exact h
                · rw [if_neg hl]
                  rw [if_pos ⟨ha, by omega, by omega, by omega⟩] at h
                  exact h
          · rw [b2i_f ha, if_pos rfl]
            rw [if_neg (fun z => ha z.1)] at h
            exact h
        · rw [if_neg k3] at h ⊢
          exact h
theorem c_weighNow {G : Nat → Int} {R : Nat → List Int} {J : IM} {K : Option AV → IM → Prop} (hG : GR G) (hV : VR G R) (hC : CF G R J) (h : ∀ J', (∀ p j, p ≠ 192 → p ≠ 196 → J' p j = J p j) → (∀ v, v < 4 → J' 196 v = csV G v (R v)) → K none J') : CALL S0 84 [vR 195] J K := by
  refine e84 ?_
  unfold D84_0
  have hR := VR_R12 hG hV
  have key : ∀ t v : Nat, v + t = 4 → ∀ L, (∀ p j, p ≠ 192 → p ≠ 196 → L p j = J p j) → (∀ w, w < v → L 196 w = csV G w (R w)) → GO S0 84 2 [vR 195, vI (v : Int)] [] L K := by
    intro t
    induction t with
    | zero =>
      intro v e L f g
      refine g84_2 _ L K ?_
      unfold D84_2
      rw [if_pos (by omega)]
      exact h L f (fun w hw => g w (by omega))
    | succ t ih =>
      intro v e L f g
      refine g84_2 _ L K ?_
      unfold D84_2 inR
      rw [if_neg (by omega)]
      have hv : v < 4 := by omega
      have C := CF_fr hC (J' := L) (fun o k a => f o k (by omega) (by omega))
      refine c_costOf rd29 hv hG C.1 C.2.1 hR C.2.2 fun L1 f1 => ⟨fun _ => ⟨_, rfl, by omega, fun I5 e5 => ⟨by omega, ?_⟩⟩, fun z => absurd (hV.2.2.2 v hv) z⟩
      rw [Int.toNat_natCast] at e5
      have := ih (v + 1) (by omega) I5 (fun p j a b => by rw [e5, iup_ne (Or.inl b), f1 _ _ a]; exact f p j a b) (fun w hw => by
        by_cases c : w = v
        · rw [c, e5, iup_same]
        · rw [e5, iup_ne (Or.inr c), f1 _ _ (by decide)]; exact g w (by omega))
      rw [show ((v + 1 : Nat) : Int) = (v : Int) + 1 by omega] at this
      exact this
  exact key 4 0 rfl J (fun _ _ _ _ => rfl) (fun w hw => by omega)
theorem c_changes {kind a b c : Int} {G : Nat → Int} {R : Nat → List Int} {J : IM} {K : Option AV → IM → Prop} (hC : CF G R J) (hm : mvB R kind a b c = 1) (h12 : ∀ v, v < 4 → (R v).length ≤ 12) (h : K (some (vI (chB R kind a b c))) J) : CALL S0 86 [vR 195, vI kind, vI a, vI b, vI c] J K := by
  refine e86 ?_
  unfold D86_0
  have hc := mv_c h12 hm
  unfold chB at h
  unfold mvB at hm
  by_cases k0 : kind = 0
  · rw [if_pos k0] at h ⊢
    refine c_vanOf hC.2.1 hC.2.2 ⟨_, rfl, ?_⟩
    by_cases z : vanF R a = b
    · rw [if_pos z]
      refine c_placeOf hC.2.1 hC.2.2 ⟨_, rfl, ?_⟩
      by_cases y : placeF R a = c
      · rw [if_pos y]
        rw [if_pos ⟨z, y⟩] at h
        exact h
      · rw [if_neg y]
        rw [if_neg (fun w => y w.2)] at h
        exact h
    · rw [if_neg z]
      rw [if_neg (fun w => z w.1)] at h
      exact h
  · rw [if_neg k0] at h hm ⊢
    by_cases k2 : kind = 2
    · rw [if_pos k2] at h ⊢
      rw [if_neg (by omega), if_pos k2] at hm
      have hq : (0 ≤ a ∧ a ≤ 3) ∧ (0 ≤ b ∧ b ≤ 3) ∧ a < b ∧ 0 ≤ c ∧ c % 16 ≤ ((R a.toNat).length : Int) ∧ c / 16 ≤ ((R b.toNat).length : Int) := if1 hm
      rw [Int.tmod_eq_emod_of_nonneg (by omega), Int.tdiv_eq_ediv_of_nonneg (by omega), CF_len hC (v := a.toNat) (by omega)]
      refine ⟨by unfold inR; omega, by omega, ?_⟩
      by_cases z : c % 16 = ((R a.toNat).length : Int)
      · rw [if_pos z, CF_len hC (v := b.toNat) (by omega)]
        refine ⟨by omega, ?_⟩
        by_cases y : c / 16 = ((R b.toNat).length : Int)
        · rw [if_pos y]
          rw [if_pos ⟨z, y⟩] at h
          exact h
        · rw [if_neg y]
          rw [if_neg (fun w => y w.2)] at h
          exact h
      · rw [if_neg z]
        rw [if_neg (fun w => z w.1)] at h
        exact h
    · rw [if_neg k2] at h ⊢
      exact h
/-- the rounds that a move makes lie in 197 -/
def TF (R : Nat → List Int) (J : IM) : Prop := SZC J 197 ∧ ∀ v, v < 4 → LC J 197 v = R v
theorem TF_fr {R : Nat → List Int} {J J' : IM} (h : TF R J) (f : ∀ p j, p = 198 ∨ (200 ≤ p ∧ p ≤ 203) → J' p j = J p j) : TF R J' := ⟨fun v hv => by rw [f _ _ (by omega)]; exact h.1 v hv, fun v hv => (LC_cg (f _ _ (by omega)) (fun k => f _ _ (by omega))).trans (h.2 v hv)⟩
theorem TF_len {R : Nat → List Int} {J : IM} (h : TF R J) {v : Nat} (hv : v < 4) : J 198 v = ((R v).length : Int) := by
  have ll := @LC_len J 197 v
  rw [h.2 v hv] at ll
  have sz := h.1 v hv
  rw [show (197 + 1 : Nat) = 198 from rfl] at ll sz
  omega
theorem TF_get {R : Nat → List Int} {J : IM} (h : TF R J) {v k : Nat} (hv : v < 4) (hk : k < (R v).length) : (R v)[k]? = some (J (200 + v) k) := by
  have e := LC_get (I := J) (r := 197) (v := v) (k := k) (by rw [show J (197 + 1) v = J 198 v from rfl, TF_len h hv]; omega)
  rw [h.2 v hv, show 197 + 3 + v = 200 + v by omega] at e
  exact e
theorem CF_get {G : Nat → Int} {R : Nat → List Int} {J : IM} (h : CF G R J) {v k : Nat} (hv : v < 4) (hk : k < (R v).length) : (R v)[k]? = some (J (32 + v) k) := by
  have e := LC_get (I := J) (r := 29) (v := v) (k := k) (by rw [show J (29 + 1) v = J 30 v from rfl, CF_len h hv]; omega)
  rw [h.2.2 v hv, show 29 + 3 + v = 32 + v by omega] at e
  exact e
theorem LC_ext {J : IM} {v : Nat} {L : List Int} (h1 : J 198 v = (L.length : Int)) (h2 : ∀ k, k < L.length → L[k]? = some (J (200 + v) k)) : LC J 197 v = L := by
  unfold LC
  rw [show J (197 + 1) v = J 198 v from rfl, h1, Int.toNat_natCast]
  exact ln_ext rfl (fun k hk => by rw [h2 k hk, Nat.zero_add, show 197 + 3 + v = 200 + v by omega])
theorem c_cross {A B i j : Nat} {G : Nat → Int} {R T : Nat → List Int} {J : IM} {K : Option AV → IM → Prop} (hA : A < 4) (hB : B < 4) (hC : CF G R J) (hT : TF T J) (hi : i ≤ (T A).length) (hj : j ≤ (R B).length) (h12 : i + ((R B).length - j) ≤ 12) (hl : (R B).length ≤ 12) (h : ∀ J', (∀ p q, p ≠ 198 → (p < 200 ∨ 203 < p) → J' p q = J p q) → TF (setR T A ((T A).take i ++ (R B).drop j)) J' → K none J') : CALL S0 88 [vR 195, vI (A : Int), vI (i : Int), vI (B : Int), vI (j : Int)] J K := by
  refine e88 ?_
  unfold D88_0 inR
  have cl := CF_len hC hB
  rw [Int.toNat_natCast, cl]
  refine ⟨by omega, by omega, ?_⟩
  rw [if_neg (by omega)]
  refine ⟨by omega, ?_⟩
  rw [if_pos (by omega)]
  refine ⟨by omega, by omega, fun I8 e8 I9 e9 => ?_⟩
  rw [Int.toNat_natCast, Int.toNat_natCast, Int.toNat_natCast, show (((R B).length : Int) - (j : Int)).toNat = (R B).length - j by omega, show 29 + 3 + B = 32 + B by omega, show 197 + 3 + A = 200 + A by omega] at e8
  have f8 : ∀ p q, (p ≠ 200 + A ∨ q < i ∨ i + ((R B).length - j) ≤ q) → I8 p q = J p q := fun p q a => by rw [e8, icp_out (by omega)]
  have f9 : ∀ p q, (p ≠ 198 ∨ q ≠ A) → I9 p q = I8 p q := fun p q a => by rw [e9, Int.toNat_natCast, iup_ne a]
  have n9 : I9 198 A = ((i + ((R B).length - j) : Nat) : Int) := by rw [e9, Int.toNat_natCast, iup_same]; omega
  have ll : ((T A).take i ++ (R B).drop j).length = i + ((R B).length - j) := by rw [List.length_append, List.length_take, List.length_drop]; omega
  refine h I9 (fun p q a b => by rw [f9 p q (Or.inl a)]; exact f8 p q (by omega)) ⟨fun v hv => ?_, fun v hv => ?_⟩
  · by_cases c : v = A
    · rw [c, show I9 (197 + 1) A = I9 198 A from rfl, n9]; omega
    · rw [f9 (197 + 1) v (by omega), f8 (197 + 1) v (by omega)]; exact hT.1 v hv
  · by_cases c : v = A
    · subst c
      rw [setR_s]
      refine LC_ext (by rw [n9, ll]) (fun k hk => ?_)
      rw [ll] at hk
      rw [f9 _ _ (by omega), List.getElem?_append, List.length_take]
      by_cases d : k < i
      · rw [if_pos (by omega), List.getElem?_take, if_pos d, f8 _ _ (by omega)]
        exact TF_get hT hv (by omega)
      · rw [if_neg (by omega), List.getElem?_drop, e8, icp_in (by omega) (by omega), CF_get hC hB (by omega)]
        congr 2
        omega
    · rw [setR_n c, ← hT.2 v hv]
      exact LC_cg (by rw [f9 _ _ (by omega), f8 _ _ (by omega)]) (fun k => by rw [f9 _ _ (by omega), f8 _ _ (by omega)])
theorem TF_eq {R R' : Nat → List Int} {J : IM} (h : TF R J) (e : ∀ v, v < 4 → R v = R' v) : TF R' J := ⟨h.1, fun v hv => (h.2 v hv).trans (e v hv)⟩
theorem c_shape {kind a b c : Int} {G : Nat → Int} {R : Nat → List Int} {J : IM} {K : Option AV → IM → Prop} (hG : GR G) (hV : VR G R) (hC : CF G R J) (hT : TF R J) (hm : mvB R kind a b c = 1) (h : ∀ J', (∀ p q, (p ≠ 195 ∨ (q ≠ 4 ∧ q ≠ 5)) → p ≠ 198 → (p < 200 ∨ 203 < p) → J' p q = J p q) → J' 195 4 = ((oneV R kind a : Nat) : Int) → J' 195 5 = ((othV R kind a b : Nat) : Int) → TF (mkR R kind a b c) J' → K none J') : CALL S0 87 [vR 195, vI kind, vI a, vI b, vI c] J K := by
  refine e87 ?_
  unfold D87_0
  intro I1 e1 I2 e2
  have hn := hG.1
  have hR := VR_R12 hG hV
  obtain ⟨h1, h2, h3⟩ := VR_V0 hV
  have v0 := (mk_V0 hG (VR_V0 hV) hm).1
  have f2 : ∀ p q, (p ≠ 195 ∨ (q ≠ 4 ∧ q ≠ 5)) → I2 p q = J p q := fun p q z => by rw [e2, iup_ne (by omega), e1, iup_ne (by omega)]
  have C2 := CF_fr hC (J' := I2) (fun o k z => f2 o k (by omega))
  have T2 : TF R I2 := TF_fr hT (fun p j z => f2 p j (by omega))
  unfold mvB at hm
  by_cases k0 : kind = 0
  · rw [if_pos k0] at hm ⊢
    have hc : 0 ≤ vanF R a ∧ (0 ≤ b ∧ b ≤ 3) ∧ 0 ≤ c ∧ c ≤ ((R b.toNat).length : Int) - (if vanF R a = b then 1 else 0) := if1 hm
    obtain ⟨ha, hb, hc0, hcl⟩ := hc
    have eR : mkR R kind a b c = shR R a b c := by unfold mkR; rw [if_pos k0]
    have eo : oneV R kind a = (vanF R a).toNat := by unfold oneV; rw [if_pos (Or.inl k0)]
    have ep : othV R kind a b = b.toNat := by unfold othV; rw [if_pos (Or.inl k0)]
    rw [eR] at v0 h
    rw [eo, ep] at h
    obtain ⟨B, rfl⟩ : ∃ n : Nat, b = n := ⟨b.toNat, by omega⟩
    obtain ⟨c, rfl⟩ : ∃ n : Nat, c = n := ⟨c.toNat, by omega⟩
    rw [Int.toNat_natCast] at h hcl
    have hB : B < 4 := by omega
    have hw := vanF_mem ha
    have aG := h2 _ hw.1 a hw.2.1
    have ol := out_len ha (v := B)
    refine c_vanOf C2.2.1 C2.2.2 ⟨_, rfl, fun I6 e6 => ?_⟩
    have f6 : ∀ p q, (p ≠ 195 ∨ q ≠ 4) → I6 p q = I2 p q := fun p q z => by rw [e6, iup_ne z]
    have T6 : TF R I6 := TF_fr T2 (fun p j z => f6 p j (by omega))
    refine c_del rd197 T6.1 T6.2 ha fun I7 f7 s7 l7 => ⟨rfl, ?_⟩
    have om := out_mem (x := a) h3 ha hB
    have on : (outR R a B).Nodup := by
      unfold outR
      by_cases d : B = (vanF R a).toNat
      · rw [d, setR_s]; exact (h3.1 _ hw.1).sublist (List.eraseIdx_sublist _ _)
      · rw [setR_n d]; exact h3.1 B hB
    have room : (outR R a B).length < 12 := by
      have := nd_len 12 (a :: outR R a B) (List.nodup_cons.mpr ⟨fun z => (om.mp z).2 rfl, on⟩) (fun x hx => by
        rcases List.mem_cons.mp hx with e | e
        · rw [e]; omega
        · have := hR B hB x ((out_mem h3 ha hB).mp e).1; omega)
      rw [List.length_cons] at this
      omega
    refine k_ins rd197 hB s7 (by rw [l7 B hB]; exact room) (by
      rw [l7 B hB, ol]
      by_cases z : vanF R a = (B : Int)
      · rw [if_pos z] at hcl ⊢; omega
      · rw [if_neg z] at hcl ⊢; omega) fun I8 f8 s8 l8 => ⟨rfl, ?_⟩
    refine h I8 (fun p q z1 z2 z3 => by rw [f8 p q (by omega) (by omega), f7 p q (by omega) (by omega), f6 p q (by omega)]; exact f2 p q z1) ?_ ?_ ⟨s8, fun w hw' => ?_⟩
    · rw [f8 _ _ (by decide) (by omega), f7 _ _ (by decide) (by omega), e6, iup_same]; omega
    · rw [f8 _ _ (by decide) (by omega), f7 _ _ (by decide) (by omega), f6 _ _ (by omega), e2, iup_same]
    · rw [l8 w hw']
      unfold shR
      rw [Int.toNat_natCast, Int.toNat_natCast, l7 B hB]
      by_cases d : w = B
      · rw [d, setR_s, setR_s]
      · rw [setR_n d, setR_n d]; exact l7 w hw'
  · rw [if_neg k0] at hm ⊢
    by_cases k1 : kind = 1
    · rw [if_pos k1] at hm ⊢
      have hc : a < b ∧ c = 0 ∧ 0 ≤ vanF R a ∧ 0 ≤ vanF R b := if1 hm
      obtain ⟨hab, hc0, ha, hb⟩ := hc
      have eR : mkR R kind a b c = swR R a b := by unfold mkR; rw [if_neg k0, if_pos k1]
      have eo : oneV R kind a = (vanF R a).toNat := by unfold oneV; rw [if_pos (Or.inr k1)]
      have ep : othV R kind a b = (vanF R b).toNat := by unfold othV; rw [if_neg (by omega), if_pos k1]
      rw [eR, eo, ep] at h
      have wa := vanF_mem ha
      have wb := vanF_mem hb
      have ia := idx_lt wa.2.1
      have ib := idx_lt wb.2.1
      have la := h1 _ wa.1
      have lb := h1 _ wb.1
      refine c_vanOf C2.2.1 C2.2.2 ⟨_, rfl, fun I6 e6 => ?_⟩
      have f6 : ∀ p q, (p ≠ 195 ∨ (q ≠ 4 ∧ q ≠ 5)) → I6 p q = J p q := fun p q z => by rw [e6, iup_ne (by omega)]; exact f2 p q z
      have C6 := CF_fr hC (J' := I6) (fun o k z => f6 o k (by omega))
      refine c_vanOf C6.2.1 C6.2.2 ⟨_, rfl, fun I15 e15 => ?_⟩
      have f15 : ∀ p q, (p ≠ 195 ∨ (q ≠ 4 ∧ q ≠ 5)) → I15 p q = J p q := fun p q z => by rw [e15, iup_ne (by omega)]; exact f6 p q z
      have C15 := CF_fr hC (J' := I15) (fun o k z => f15 o k (by omega))
      have q4 : I15 195 4 = vanF R a := by rw [e15, iup_ne (Or.inr (by decide)), e6, iup_same]
      have q5 : I15 195 5 = vanF R b := by rw [e15, iup_same]
      rw [q4]
      refine ⟨by omega, c_placeOf C15.2.1 C15.2.2 ⟨_, rfl, ?_⟩⟩
      rw [wa.2.2]
      refine ⟨by omega, fun I20 e20 => ?_⟩
      rw [Int.toNat_natCast, show 197 + 3 + (vanF R a).toNat = 200 + (vanF R a).toNat by omega] at e20
      have f20 : ∀ p q, (p ≠ 200 + (vanF R a).toNat ∨ q ≠ idx a (R (vanF R a).toNat)) → I20 p q = I15 p q := fun p q z => by rw [e20, iup_ne z]
      have C20 := CF_fr C15 (J' := I20) (fun o k z => f20 o k (by omega))
      rw [f20 195 5 (by omega), q5]
      refine ⟨by omega, c_placeOf C20.2.1 C20.2.2 ⟨_, rfl, ?_⟩⟩
      rw [wb.2.2]
      refine ⟨by omega, fun I25 e25 => ?_⟩
      rw [Int.toNat_natCast, show 197 + 3 + (vanF R b).toNat = 200 + (vanF R b).toNat by omega] at e25
      have f25 : ∀ p q, (p ≠ 200 + (vanF R b).toNat ∨ q ≠ idx b (R (vanF R b).toNat)) → I25 p q = I20 p q := fun p q z => by rw [e25, iup_ne z]
      refine h I25 (fun p q z1 z2 z3 => by rw [f25 p q (by omega), f20 p q (by omega)]; exact f15 p q z1) (by rw [f25 _ _ (by omega), f20 _ _ (by omega), q4]; omega) (by rw [f25 _ _ (by omega), f20 _ _ (by omega), q5]; omega) ⟨fun v hv => ?_, fun v hv => ?_⟩
      · rw [f25 (197 + 1) v (by omega), f20 (197 + 1) v (by omega), f15 (197 + 1) v (by omega)]
        exact hT.1 v hv
      · have lv : (swR R a b v).length = (R v).length := List.length_map _
        refine LC_ext (by rw [f25 198 v (by omega), f20 198 v (by omega), f15 198 v (by omega), lv]; exact TF_len hT hv) (fun k hk => ?_)
        rw [lv] at hk
        have gk := TF_get hT hv hk
        have mk := List.mem_of_getElem? gk
        rw [show (swR R a b v)[k]? = Option.map (sw a b) (R v)[k]? from List.getElem?_map, gk, Option.map_some]
        congr 1
        by_cases y1 : v = (vanF R b).toNat ∧ k = idx b (R (vanF R b).toNat)
        · have eb : J (200 + v) k = b := by
            rw [y1.1, y1.2] at gk ⊢
            exact Option.some.inj (gk.symm.trans ib.2)
          rw [eb, e25, y1.1, y1.2, iup_same]
          unfold sw
          rw [if_neg (by omega), if_pos rfl]
        · rw [f25 _ _ (by omega)]
          have nb : J (200 + v) k ≠ b := fun z => y1 (by
            rw [z] at gk mk
            have ev : v = (vanF R b).toNat := in_one h3 hv wb.1 mk wb.2.1
            exact ⟨ev, by rw [← ev]; exact (idx_of (h3.1 v hv) gk).symm⟩)
          by_cases y2 : v = (vanF R a).toNat ∧ k = idx a (R (vanF R a).toNat)
          · have ea : J (200 + v) k = a := by
              rw [y2.1, y2.2] at gk ⊢
              exact Option.some.inj (gk.symm.trans ia.2)
            rw [ea, e20, y2.1, y2.2, iup_same]
            unfold sw
            rw [if_pos rfl]
          · rw [f20 _ _ (by omega), f15 _ _ (by omega)]
            have na : J (200 + v) k ≠ a := fun z => y2 (by
              rw [z] at gk mk
              have ev : v = (vanF R a).toNat := in_one h3 hv wa.1 mk wa.2.1
              exact ⟨ev, by rw [← ev]; exact (idx_of (h3.1 v hv) gk).symm⟩)
            unfold sw
            rw [if_neg na, if_neg nb]
    · rw [if_neg k1] at hm ⊢
      by_cases k2 : kind = 2
      · rw [if_pos k2] at hm ⊢
        have hc : (0 ≤ a ∧ a ≤ 3) ∧ (0 ≤ b ∧ b ≤ 3) ∧ a < b ∧ 0 ≤ c ∧ c % 16 ≤ ((R a.toNat).length : Int) ∧ c / 16 ≤ ((R b.toNat).length : Int) := if1 hm
        obtain ⟨ha, hb, hab, hc0, hi, hj⟩ := hc
        have eR : mkR R kind a b c = crR R a.toNat b.toNat (c % 16).toNat (c / 16).toNat := by unfold mkR; rw [if_neg k0, if_neg k1, if_pos k2]
        have eo : oneV R kind a = a.toNat := by unfold oneV; rw [if_neg (by omega)]
        have ep : othV R kind a b = b.toNat := by unfold othV; rw [if_pos (Or.inr k2)]
        rw [eR] at h v0
        rw [eo, ep] at h
        rw [Int.tmod_eq_emod_of_nonneg hc0, Int.tdiv_eq_ediv_of_nonneg hc0]
        obtain ⟨A, rfl⟩ : ∃ n : Nat, a = n := ⟨a.toNat, by omega⟩
        obtain ⟨B, rfl⟩ : ∃ n : Nat, b = n := ⟨b.toNat, by omega⟩
        obtain ⟨i, ei⟩ : ∃ n : Nat, c % 16 = n := ⟨(c % 16).toNat, by omega⟩
        obtain ⟨j, ej⟩ : ∃ n : Nat, c / 16 = n := ⟨(c / 16).toNat, by omega⟩
        rw [ei, ej, Int.toNat_natCast, Int.toNat_natCast, Int.toNat_natCast, Int.toNat_natCast] at h v0
        rw [Int.toNat_natCast, ei] at hi
        rw [Int.toNat_natCast, ej] at hj
        rw [ei, ej]
        have hA : A < 4 := by omega
        have hB : B < 4 := by omega
        have ne : A ≠ B := by omega
        obtain ⟨c1, c2, c3⟩ := cr_at (R := R) (i := i) (j := j) ne
        have lA := v0.1 A hA
        have lB := v0.1 B hB
        rw [c1, List.length_append, List.length_take, List.length_drop] at lA
        rw [c2, List.length_append, List.length_take, List.length_drop] at lB
        have l1 := h1 A hA
        have l2 := h1 B hB
        refine ⟨by unfold inR; omega, c_cross hA hB C2 T2 (by omega) (by omega) (by omega) l2 fun I28 f28 T28 => ⟨rfl, ?_⟩⟩
        have C28 := CF_fr C2 (J' := I28) (fun o k z => f28 o k (by omega) (by omega))
        refine c_cross hB hA C28 T28 (by rw [setR_n (Ne.symm ne)]; omega) (by omega) (by omega) l1 fun I29 f29 T29 => ⟨rfl, ?_⟩
        refine h I29 (fun p q z1 z2 z3 => by rw [f29 p q z2 z3, f28 p q z2 z3]; exact f2 p q z1) (by rw [f29 _ _ (by decide) (by omega), f28 _ _ (by decide) (by omega), e2, iup_ne (Or.inr (by decide)), e1, iup_same]) (by rw [f29 _ _ (by decide) (by omega), f28 _ _ (by decide) (by omega), e2, iup_same]) (TF_eq T29 fun v hv => ?_)
        unfold crR
        rw [setR_n (Ne.symm ne)]
      · rw [if_neg k2] at hm ⊢
        have hk3 : kind = 3 := by
          split at hm
          · assumption
          · omega
        rw [if_pos hk3] at hm
        have hc : (0 ≤ a ∧ a ≤ 3) ∧ 0 ≤ b ∧ b < c ∧ c < ((R a.toNat).length : Int) := if1 hm
        obtain ⟨ha, hb, hbc, hcl⟩ := hc
        have eR : mkR R kind a b c = setR R a.toNat (tnL (R a.toNat) b.toNat c.toNat) := by unfold mkR; rw [if_neg k0, if_neg k1, if_neg k2]
        have eo : oneV R kind a = a.toNat := by unfold oneV; rw [if_neg (by omega)]
        have ep : othV R kind a b = a.toNat := by unfold othV; rw [if_neg (by omega), if_neg (by omega)]
        rw [eR, eo, ep] at h
        obtain ⟨A, rfl⟩ : ∃ n : Nat, a = n := ⟨a.toNat, by omega⟩
        obtain ⟨B, rfl⟩ : ∃ n : Nat, b = n := ⟨b.toNat, by omega⟩
        obtain ⟨D, rfl⟩ : ∃ n : Nat, c = n := ⟨c.toNat, by omega⟩
        rw [Int.toNat_natCast, Int.toNat_natCast, Int.toNat_natCast] at h
        rw [Int.toNat_natCast] at hcl
        have hA : A < 4 := by omega
        have l1 := h1 A hA
        intro I30 e30
        have f30 : ∀ p q, (p ≠ 195 ∨ (q ≠ 4 ∧ q ≠ 5)) → I30 p q = J p q := fun p q z => by rw [e30, iup_ne (by omega)]; exact f2 p q z
        have q4 : I30 195 4 = (A : Int) := by rw [e30, iup_ne (Or.inr (by decide)), e2, iup_ne (Or.inr (by decide)), e1, iup_same]
        have q5 : I30 195 5 = (A : Int) := by rw [e30, iup_same]
        have key : ∀ t k : Nat, k + t = D + 1 → B ≤ k → ∀ L, (∀ p q, (p ≠ 200 + A ∨ q < B ∨ k ≤ q) → L p q = I30 p q) → (∀ q, B ≤ q → q < k → L (200 + A) q = J (32 + A) (B + D - q)) → GO S0 87 184 [vR 195, vI kind, vI (A : Int), vI (B : Int), vI (D : Int), vI (k : Int)] [] L K := by
          intro t
          induction t with
          | zero =>
            intro k e hk L f g
            refine g87_184 _ _ _ _ _ L K ?_
            unfold D87_184
            rw [if_pos (by omega)]
            refine h L (fun p q z1 z2 z3 => by rw [f p q (by omega)]; exact f30 p q z1) ((f _ _ (by omega)).trans q4) ((f _ _ (by omega)).trans q5) ⟨fun v hv => ?_, fun v hv => ?_⟩
            · rw [f (197 + 1) v (by omega), f30 (197 + 1) v (by omega)]; exact hT.1 v hv
            · by_cases c : v = A
              · subst c
                have pl := (tn_perm (L := R v) (b := B) (c := D) (by omega)).length_eq
                rw [setR_s]
                refine LC_ext (by rw [f 198 v (by omega), f30 198 v (by omega), pl]; exact TF_len hT hv) (fun m hm' => ?_)
                rw [pl] at hm'
                rw [tn_get (by omega) (by omega)]
                by_cases d : B ≤ m ∧ m ≤ D
                · rw [if_pos d, g m d.1 (by omega)]
                  exact CF_get hC hv (by omega)
                · rw [if_neg d, f _ _ (by omega), f30 _ _ (by omega)]
                  exact TF_get hT hv hm'
              · rw [setR_n c, ← hT.2 v hv]
                exact LC_cg (by rw [f _ _ (by omega), f30 _ _ (by omega)]) (fun k => by rw [f _ _ (by omega), f30 _ _ (by omega)])
          | succ t ih =>
            intro k e hk L f g
            refine g87_184 _ _ _ _ _ L K ?_
            unfold D87_184 inR
            rw [if_neg (by omega), Int.toNat_natCast, Int.toNat_natCast, show ((B : Int) + (D : Int) - (k : Int)).toNat = B + D - k by omega, show 29 + 3 + A = 32 + A by omega, show 197 + 3 + A = 200 + A by omega]
            refine ⟨by omega, by omega, by omega, by omega, by omega, fun I7 e7 => ⟨by omega, ?_⟩⟩
            have x7 : L (32 + A) (B + D - k) = J (32 + A) (B + D - k) := by rw [f _ _ (by omega), f30 _ _ (by omega)]
            rw [x7] at e7
            have := ih (k + 1) (by omega) (by omega) I7 (fun p q z => by rw [e7, iup_ne (by omega)]; exact f p q (by omega)) (fun q z1 z2 => by
              by_cases d : q = k
              · rw [d, e7, iup_same]
              · rw [e7, iup_ne (Or.inr d)]; exact g q z1 (by omega))
            rw [show ((k + 1 : Nat) : Int) = (k : Int) + 1 by omega] at this
            exact this
        exact key (D + 1 - B) B (by omega) (Nat.le_refl _) I30 (fun _ _ _ => rfl) (fun q z1 z2 => by omega)
