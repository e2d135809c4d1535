/-! level 2: class and model call by call: put, would, take, back -/
/-- class and model hold the rounds R, of the low numbers G -/
def CF (G : Nat → Int) (R : Nat → List Int) (J : IM) : Prop := BK J G ∧ SZC J 29 ∧ (∀ v, v < 4 → LC J 29 v = R v)
def MF (G : Nat → Int) (R : Nat → List Int) (J : IM) : Prop := (∀ k, k < 114 → J 238 k = G k) ∧ SZM J 238 114 ∧ (∀ v, v < 4 → LM J 238 114 v = R v)
def R12 (R : Nat → List Int) : Prop := ∀ v, v < 4 → ∀ x ∈ R v, 0 ≤ x ∧ x < 12
theorem VR_R12 {G : Nat → Int} {R : Nat → List Int} (hG : GR G) (h : VR G R) : R12 R := fun _ hv => VR_12 hG h hv
theorem oc_of {R : Nat → List Int} {J : IM} {r : Nat} (hR : R12 R) (h : ∀ v, v < 4 → LC J r v = R v) : OC J r := fun v hv x hx => hR v hv x (by rw [← h v hv]; exact hx)
theorem om_of {R : Nat → List Int} {J : IM} {q b : Nat} (hR : R12 R) (h : ∀ v, v < 4 → LM J q b v = R v) : OM J q b := fun v hv x hx => hR v hv x (by rw [← h v hv]; exact hx)
theorem rel_CF {I : IM} (h : REL I) : CF (I 238) (LM I 238 114) I := ⟨h.1.2, h.2.1.1, fun _ hv => rl_eq h hv⟩
theorem rel_MF {I : IM} (h : REL I) : MF (I 238) (LM I 238 114) I := ⟨fun _ _ => rfl, h.2.1.2.1, fun _ _ => rfl⟩
theorem MF_238 {G : Nat → Int} {R : Nat → List Int} {J J' : IM} (h : MF G R J) (e : J' 238 = J 238) : MF G R J' := by
  obtain ⟨h1, h2, h3⟩ := h
  refine ⟨fun k hk => by rw [e]; exact h1 k hk, fun v hv => by rw [e]; exact h2 v hv, fun v hv => ?_⟩
  rw [← h3 v hv]
  unfold LM ln
  rw [e]
theorem CF_fr {G : Nat → Int} {R : Nat → List Int} {J J' : IM} (h : CF G R J) (f : ∀ o k, o ≤ 35 → J' o k = J o k) : CF G R J' :=
  ⟨BK_fp h.1 (fun o k ho => f o k (by omega)), fun v hv => by rw [f _ _ (by omega)]; exact h.2.1 v hv, fun v hv => (LC_cg (f _ _ (by omega)) (fun k => f _ _ (by omega))).trans (h.2.2 v hv)⟩
/-- frames: the class moves rounds, the model moves rounds -/
def FC (I J : IM) : Prop := ∀ o k, (o < 29 ∨ (35 < o ∧ o < 192) ∨ 207 < o) → J o k = I o k
def FM (I J : IM) : Prop := ∀ o k, (o < 237 ∨ (o = 237 ∧ (k = 2 ∨ k = 4 ∨ k = 16 ∨ k = 18)) ∨ (o = 238 ∧ k < 114) ∨ o = 239 ∨ o = 240 ∨ o = 244 ∨ o = 246 ∨ o = 247 ∨ 250 ≤ o) → J o k = I o k
theorem FC_refl {I : IM} : FC I I := fun _ _ _ => rfl
theorem FM_refl {I : IM} : FM I I := fun _ _ _ => rfl
theorem FC_trans {I J L : IM} (h : FC I J) (h' : FC J L) : FC I L := fun o k a => (h' o k a).trans (h o k a)
theorem FM_trans {I J L : IM} (h : FM I J) (h' : FM J L) : FM I L := fun o k a => (h' o k a).trans (h o k a)
theorem FC_fp {I J : IM} (h : FP I J) : FC I J := fun o k a => h o k (by omega)
theorem FM_fd {I J : IM} (h : FD I J) : FM I J := fun o k a => h o k (by omega) (by omega)
/-- costs, in class and model, of rounds that are R -/
theorem c_costOf {r v : Nat} {G : Nat → Int} {R : Nat → List Int} {J : IM} {K : Option AV → IM → Prop} (hr : isRd r) (hv : v < 4) (hG : GR G) (hB : BK J G) (hs : SZC J r) (hR : R12 R) (hL : ∀ v, v < 4 → LC J r v = R v) (h : ∀ J', FP J J' → (gdV G v (R v) → K (some (vI (csV G v (R v)))) J') ∧ (¬ gdV G v (R v) → K (some (vI (-1))) J')) : CALL S0 47 [vR 193, vR r, vI (v : Int)] J K :=
  k_costOf hr hv hG hB hs (oc_of hR hL) fun J' f => by rw [hL v hv]; exact h J' f
theorem c_costWith {v k : Nat} {x : Int} {G : Nat → Int} {R : Nat → List Int} {J : IM} {K : Option AV → IM → Prop} (hv : v < 4) (hG : GR G) (hC : CF G R J) (hR : R12 R) (hx : 0 ≤ x ∧ x < 12) (h12 : (R v).length < 12) (hk : k ≤ (R v).length) (h : ∀ J', FP J J' → (gdV G v ((R v).insertIdx k x) → K (some (vI (csV G v ((R v).insertIdx k x)))) J') ∧ (¬ gdV G v ((R v).insertIdx k x) → K (some (vI (-1))) J')) : CALL S0 76 [vR 193, vR 29, vI (v : Int), vI x, vI (k : Int)] J K := by
  have ll := @LC_len J 29 v
  have sz := hC.2.1 v hv
  rw [hC.2.2 v hv] at ll
  exact k_costWith rd29 hv hG hC.1 hC.2.1 (oc_of hR hC.2.2) hx (by omega) (by omega) fun J' f => by rw [hC.2.2 v hv]; exact h J' f
theorem c_vanOf {R : Nat → List Int} {o : Int} {J : IM} {K : Option AV → IM → Prop} (hs : SZC J 29) (hL : ∀ v, v < 4 → LC J 29 v = R v) (h : K (some (vI (vanF R o))) J) : CALL S0 22 [vR 29, vI o] J K :=
  k_vanOf rd29 hs (by rw [vanF_eq hL]; exact h)
theorem c_placeOf {R : Nat → List Int} {o : Int} {J : IM} {K : Option AV → IM → Prop} (hs : SZC J 29) (hL : ∀ v, v < 4 → LC J 29 v = R v) (h : K (some (vI (placeF R o))) J) : CALL S0 60 [vR 29, vI o] J K :=
  k_placeOf rd29 hs (by rw [placeF_eq hL]; exact h)
theorem n_vanOf {G : Nat → Int} {R : Nat → List Int} {o : Int} {J : IM} {K : Option AV → IM → Prop} (hM : MF G R J) (h : K (some (vI (vanF R o))) J) : CALL S0 139 [vR 237, vI o] J K :=
  m_vanOf hM.2.1 (by rw [vanF_eq hM.2.2]; exact h)
theorem n_placeOf {G : Nat → Int} {R : Nat → List Int} {o : Int} {J : IM} {K : Option AV → IM → Prop} (hM : MF G R J) (ho : 0 ≤ vanF R o) (h : K (some (vI (placeF R o))) J) : CALL S0 177 [vR 237, vI o] J K :=
  m_placeOf hM.2.1 (by rw [vanF_eq hM.2.2]; exact ho) (by rw [placeF_eq hM.2.2]; exact h)
theorem n_isLeft {G : Nat → Int} {R : Nat → List Int} {o : Int} {J : IM} {K : Option AV → IM → Prop} (hM : MF G R J) (h : K (some (vI (b2i (vanF R o < 0)))) J) : CALL S0 138 [vR 237, vI o] J K :=
  m_isLeft hM.2.1 (by rw [vanF_eq hM.2.2]; exact h)
theorem n_isOrder {G : Nat → Int} {R : Nat → List Int} {o : Int} {J : IM} {K : Option AV → IM → Prop} (hG : GR G) (hM : MF G R J) (h : K (some (vI (b2i (0 ≤ o ∧ o < G 5)))) J) : CALL S0 137 [vR 237, vI o] J K :=
  m_isOrder (by rw [hM.1 5 (by omega)]; exact hG.1) (by rw [hM.1 5 (by omega)]; exact h)
theorem MF_len {G : Nat → Int} {R : Nat → List Int} {J : IM} (hM : MF G R J) {v : Nat} (hv : v < 4) : J 238 (114 + 13 * v) = ((R v).length : Int) := by
  have ll := @LM_len J 238 114 v
  rw [hM.2.2 v hv] at ll
  have sz := hM.2.1 v hv
  omega
theorem CF_len {G : Nat → Int} {R : Nat → List Int} {J : IM} (hC : CF G R J) {v : Nat} (hv : v < 4) : J 30 v = ((R v).length : Int) := by
  have ll := @LC_len J 29 v
  rw [hC.2.2 v hv] at ll
  have sz := hC.2.1 v hv
  rw [show (29 + 1 : Nat) = 30 from rfl] at ll sz
  omega
theorem n_stopsOf {v : Nat} {G : Nat → Int} {R : Nat → List Int} {J : IM} {K : Option AV → IM → Prop} (hv : v < 4) (hM : MF G R J) (h : K (some (vI ((R v).length : Int))) J) : CALL S0 132 [vR 237, vI (v : Int)] J K :=
  m_stopsOf (by omega) (by rw [Int.toNat_natCast, MF_len hM hv]; exact h)
theorem gr_lo {G : Nat → Int} {J : IM} (hG : GR G) (h : ∀ k, k < 114 → J 238 k = G k) : GR (J 238) := GR_lo h hG
theorem n_isGoodOf {v : Nat} {G : Nat → Int} {R : Nat → List Int} {J : IM} {K : Option AV → IM → Prop} (hv : v < 4) (hG : GR G) (hlo : ∀ k, k < 114 → J 238 k = G k) (hs : SZM J 242 0) (hR : R12 R) (hL : ∀ v, v < 4 → LM J 242 0 v = R v) (h : ∀ J', FD J J' → (gdV G v (R v) → K (some (vI 1)) J') ∧ (¬ gdV G v (R v) → K (some (vI 0)) J')) : CALL S0 159 [vR 237, vR 242, vI (v : Int)] J K :=
  m_isGoodOf s0_242 (by decide) (by decide) hv (gr_lo hG hlo) hs (om_of hR hL) fun J' f => by
    rw [hL v hv, gdV_lo hlo hv (hR v hv)]
    exact h J' f
theorem n_isGood {G : Nat → Int} {R : Nat → List Int} {J : IM} {K : Option AV → IM → Prop} (hG : GR G) (hlo : ∀ k, k < 114 → J 238 k = G k) (hs : SZM J 242 0) (hR : R12 R) (hL : ∀ v, v < 4 → LM J 242 0 v = R v) (h : ∀ J', FD J J' → ((∀ v, v < 4 → gdV G v (R v)) → K (some (vI 1)) J') ∧ (¬ (∀ v, v < 4 → gdV G v (R v)) → K (some (vI 0)) J')) : CALL S0 158 [vR 237, vR 242] J K :=
  m_isGood s0_242 (by decide) (by decide) (gr_lo hG hlo) hs (om_of hR hL) fun J' f => by
    have e : (∀ v, v < 4 → gdV (J 238) v (LM J 242 0 v)) ↔ (∀ v, v < 4 → gdV G v (R v)) := ⟨fun z v hv => by have := z v hv; rw [hL v hv, gdV_lo hlo hv (hR v hv)] at this; exact this, fun z v hv => by rw [hL v hv, gdV_lo hlo hv (hR v hv)]; exact z v hv⟩
    rw [e]
    exact h J' f
theorem n_costOfVan {q v : Nat} {G : Nat → Int} {R : Nat → List Int} {J : IM} {K : Option AV → IM → Prop} (hq : q = 241 ∨ q = 242) (hv : v < 4) (hG : GR G) (hlo : ∀ k, k < 114 → J 238 k = G k) (hs : SZM J q 0) (hR : R12 R) (hL : ∀ v, v < 4 → LM J q 0 v = R v) (h : ∀ J', FD J J' → K (some (vI (csV G v (R v)))) J') : CALL S0 195 [vR 237, vR q, vI (v : Int)] J K :=
  m_costOfVan (by rcases hq with e | e <;> subst e; exact s0_241; exact s0_242) (by omega) (by omega) hv (gr_lo hG hlo) hs (om_of hR hL) fun J' f => by
    rw [hL v hv, csV_lo hlo hv (hR v hv)]
    exact h J' f
theorem n_costOf {q : Nat} {G : Nat → Int} {R : Nat → List Int} {J : IM} {K : Option AV → IM → Prop} (hq : q = 241 ∨ q = 242) (hG : GR G) (hlo : ∀ k, k < 114 → J 238 k = G k) (hs : SZM J q 0) (hR : R12 R) (hL : ∀ v, v < 4 → LM J q 0 v = R v) (h : ∀ J', FD J J' → K (some (vI (csA G R))) J') : CALL S0 194 [vR 237, vR q] J K :=
  m_costOf (by rcases hq with e | e <;> subst e; exact s0_241; exact s0_242) (by omega) (by omega) (gr_lo hG hlo) hs (om_of hR hL) fun J' f => by
    rw [csA_eq hL, csA_lo hlo hG.1.2 hR]
    exact h J' f
theorem n_looks {G : Nat → Int} {R : Nat → List Int} {J : IM} {K : Option AV → IM → Prop} (hM : MF G R J) (h : ∀ J', (∀ o k, o ≠ 241 → J' o k = J o k) → SZM J' 241 0 → (∀ v, v < 4 → LM J' 241 0 v = R v) → K none J') : CALL S0 183 [vR 237] J K :=
  m_looks (h _ (fun o k a => cpd_out (Or.inl a)) (cpd_SZ hM.2.1) (fun v hv => (cpd_LM hM.2.1 hv).trans (hM.2.2 v hv)))
theorem n_tries {G : Nat → Int} {R : Nat → List Int} {J : IM} {K : Option AV → IM → Prop} (hM : MF G R J) (h : ∀ J', (∀ o k, o ≠ 242 → J' o k = J o k) → SZM J' 242 0 → (∀ v, v < 4 → LM J' 242 0 v = R v) → K none J') : CALL S0 201 [vR 237] J K :=
  m_tries (h _ (fun o k a => cpd_out (Or.inl a)) (cpd_SZ hM.2.1) (fun v hv => (cpd_LM hM.2.1 hv).trans (hM.2.2 v hv)))
theorem n_becomes {G : Nat → Int} {R : Nat → List Int} {J : IM} {K : Option AV → IM → Prop} (hlo : ∀ k, k < 114 → J 238 k = G k) (hs : SZM J 242 0) (hL : ∀ v, v < 4 → LM J 242 0 v = R v) (h : ∀ J', (∀ o k, (o ≠ 238 ∨ k < 114) → J' o k = J o k) → MF G R J' → K none J') : CALL S0 170 [vR 237] J K := by
  have e : ∀ k, k < 52 → cpd J 242 0 238 114 52 238 (114 + k) = J 242 k := fun k hk => by
    rw [cpd_in (by omega) (by omega)]
    congr 1
    omega
  refine m_becomes (h _ (fun o k a => cpd_out (by omega)) ⟨fun k hk => by rw [cpd_out (by omega)]; exact hlo k hk, fun v hv => ?_, fun v hv => ?_⟩)
  · rw [e _ (by omega)]
    have := hs v hv
    rw [Nat.zero_add] at this
    exact this
  · rw [← hL v hv]
    refine LM_congr (hs v hv) (fun k hk => ?_)
    rw [Nat.add_assoc, e _ (by omega), Nat.zero_add]
theorem n_isGoodWith {v k : Nat} {x : Int} {G : Nat → Int} {R : Nat → List Int} {J : IM} {K : Option AV → IM → Prop} (hv : v < 4) (hG : GR G) (hM : MF G R J) (hR : R12 R) (hx : 0 ≤ x ∧ x < 12) (h12 : (R v).length < 12) (hk : k ≤ (R v).length)
    (h : ∀ J', FM J J' → J' 238 = J 238 → SZM J' 242 0 → (∀ w, w < 4 → LM J' 242 0 w = setR R v ((R v).insertIdx k x) w) → (∀ o, (o = 248 ∨ o = 249) → J' o = J o) → (∀ k, (k < 8 ∨ 12 < k) → J' 237 k = J 237 k) → (gdV G v ((R v).insertIdx k x) → K (some (vI 1)) J') ∧ (¬ gdV G v ((R v).insertIdx k x) → K (some (vI 0)) J')) : CALL S0 200 [vR 237, vI x, vI (v : Int), vI (k : Int)] J K := by
  refine e200 ?_
  unfold D200_0
  refine n_tries hM fun J1 f1 s1 l1 => ⟨rfl, ?_⟩
  refine m_ins s0_242 hv s1 (by rw [l1 v hv]; exact h12) (by rw [l1 v hv]; exact hk) fun J2 f2 s2 l2 => ⟨rfl, ?_⟩
  have l2' : ∀ w, w < 4 → LM J2 242 0 w = setR R v ((R v).insertIdx k x) w := fun w hw => by
    rw [l2 w hw, l1 v hv]
    by_cases c : w = v
    · rw [c, setR_s, setR_s]
    · rw [setR_n c, setR_n c]; exact l1 w hw
  have hR2 : R12 (setR R v ((R v).insertIdx k x)) := fun w hw y hy => by
    by_cases c : w = v
    · rw [c, setR_s] at hy
      rcases (List.mem_insertIdx hk).mp hy with e | e
      · rw [e]; exact hx
      · exact hR v hv y e
    · rw [setR_n c] at hy; exact hR w hw y hy
  have e2 : J2 238 = J 238 := funext fun j => (f2 238 j (by decide)).trans (f1 238 j (by decide))
  refine n_isGoodOf hv hG (fun k hk => by rw [e2]; exact hM.1 k hk) s2 hR2 l2' fun J3 f3 => ?_
  rw [setR_s]
  have h3 := h J3 (fun o k a => (f3 o k (by omega) (by omega)).trans ((f2 o k (by omega)).trans (f1 o k (by omega)))) ((FD_o f3 (by decide) (by decide)).trans e2) (fun w hw => by rw [f3 _ _ (by omega) (by omega)]; exact s2 w hw) (fun w hw => by
    rw [← l2' w hw]
    unfold LM ln
    rw [FD_o f3 (o := 242) (by decide) (by decide)]) (fun o ho => (FD_o f3 (by omega) (by omega)).trans (funext fun j => (f2 o j (by omega)).trans (f1 o j (by omega)))) (fun k hk => (f3 237 k (by omega) (by omega)).trans ((f2 237 k (by decide)).trans (f1 237 k (by decide))))
  exact ⟨fun g => ⟨_, rfl, Or.inr rfl, h3.1 g⟩, fun g => ⟨_, rfl, Or.inl rfl, h3.2 g⟩⟩
theorem n_moreBy {v : Nat} {G : Nat → Int} {R R' : Nat → List Int} {J : IM} {K : Option AV → IM → Prop} (hv : v < 4) (hG : GR G) (hM : MF G R J) (hR : R12 R) (hR' : R12 R') (hl : (R v).length ≤ 12) (hl' : (R' v).length ≤ 12) (hs : SZM J 242 0) (hL : ∀ v, v < 4 → LM J 242 0 v = R' v)
    (h : ∀ J', FM J J' → J' 238 = J 238 → (∀ o, (o = 242 ∨ o = 248 ∨ o = 249) → J' o = J o) → (∀ k, (k < 8 ∨ 12 < k) → J' 237 k = J 237 k) → K (some (vI (csV G v (R' v) - csV G v (R v)))) J') : CALL S0 205 [vR 237, vI (v : Int)] J K := by
  refine e205 ?_
  unfold D205_0
  refine n_looks hM fun J1 f1 s1 l1 => ⟨rfl, ?_⟩
  have e1 : J1 238 = J 238 := funext fun j => f1 238 j (by decide)
  have e1' : J1 242 = J 242 := funext fun j => f1 242 j (by decide)
  refine n_costOfVan (R := R') (Or.inr rfl) hv hG (fun k hk => by rw [e1]; exact hM.1 k hk) (fun v hv => by rw [e1']; exact hs v hv) hR' (fun v hv => by rw [← hL v hv]; unfold LM ln; rw [e1']) fun J2 f2 => ⟨_, rfl, ?_⟩
  have e2 : J2 238 = J 238 := (FD_o f2 (by decide) (by decide)).trans e1
  have e2' : J2 241 = J1 241 := FD_o f2 (by decide) (by decide)
  refine n_costOfVan (R := R) (Or.inl rfl) hv hG (fun k hk => by rw [e2]; exact hM.1 k hk) (fun v hv => by rw [e2']; exact s1 v hv) hR (fun v hv => by rw [← l1 v hv]; unfold LM ln; rw [e2']) fun J3 f3 => ⟨_, rfl, ?_⟩
  have b1 := csV_b (v := v) hG hv hl (hR v hv)
  have b2 := csV_b (v := v) hG hv hl' (hR' v hv)
  refine ⟨by unfold inR; omega, h J3 (fun o k a => ((FD_trans f2 f3) o k (by omega) (by omega)).trans (f1 o k (by omega))) ((FD_o f3 (by decide) (by decide)).trans e2) (fun o ho => (FD_o (FD_trans f2 f3) (by omega) (by omega)).trans (funext fun j => f1 o j (by omega))) (fun k hk => ((FD_trans f2 f3) 237 k (by omega) (by omega)).trans (f1 237 k (by decide)))⟩
theorem n_isPut {v : Int} {k x : Int} {G : Nat → Int} {R : Nat → List Int} {J : IM} {K : Option AV → IM → Prop} (hG : GR G) (hM : MF G R J) (h : K (some (vI (b2i ((0 ≤ x ∧ x < G 5) ∧ (0 ≤ v ∧ v ≤ 3) ∧ 0 ≤ k ∧ k ≤ ((R v.toNat).length : Int))))) J) : CALL S0 199 [vR 237, vI x, vI v, vI k] J K := by
  refine e199 ?_
  unfold D199_0
  refine n_isOrder hG hM ⟨_, rfl, ?_⟩
  by_cases c0 : 0 ≤ x ∧ x < G 5
  · rw [b2i_t c0, if_neg (by decide)]
    refine m_isVan ⟨_, rfl, ?_⟩
    by_cases c1 : 0 ≤ v ∧ v ≤ 3
    · rw [b2i_t c1, if_neg (by decide)]
      obtain ⟨w, rfl⟩ : ∃ w : Nat, v = w := ⟨v.toNat, by omega⟩
      refine n_stopsOf (by omega) hM ⟨_, rfl, m_isIn ⟨_, rfl, ?_⟩⟩
      rw [Int.toNat_natCast] at h
      by_cases c2 : 0 ≤ k ∧ k ≤ ((R w).length : Int)
      · rw [b2i_t ⟨c0, c1, c2⟩] at h
        rw [b2i_t c2, if_neg (by decide)]
        exact h
      · rw [b2i_f (fun z => c2 z.2.2)] at h
        rw [b2i_f c2, if_pos rfl]
        exact h
    · rw [b2i_f (fun z => c1 z.2.1)] at h
      rw [b2i_f c1, if_pos rfl]
      exact h
  · rw [b2i_f (fun z => c0 z.1)] at h
    rw [b2i_f c0, if_pos rfl]
    exact h
/-- the class' step, the model's -/
theorem c_keep {I J : IM} {r : Nat} {K : Option AV → IM → Prop} (h : REL I) (hr : isRd r) (hr1 : r = 29 ∨ r = 71) (hs : SZC J r) (hL : ∀ v, v < 4 → LC J r v = LC I 29 v) (f : ∀ o k, 78 ≤ o → o ≤ 191 → J o k = I o k) (hK : ∀ J', (∀ o k, (o < 78 ∨ 191 < o) → J' o k = J o k) → CK I J' true → K none J') : CALL S0 77 [vR 78, vR r] J K := by
  obtain ⟨c, n, a1, a2, a3, a4, a5, a6⟩ := h.2.2.2.1
  refine k_keep (n := n) (c := c) hr (by omega) hs (by rw [f 78 1 (by omega) (by omega)]; exact a4) a5 (by rw [f 78 2 (by omega) (by omega)]; exact a2) a3 fun J' f' e1 e2 s l => hK J' (fun o k a => f' o k (by omega) (by omega)) ⟨n, c, a4, a5, a2, e1, e2, fun o k b1 b2 b3 => (f' o k (by omega) b3).trans (f o k (by omega) b2), s, fun v hv => (l v hv).trans (hL v hv)⟩
theorem n_steps {I J : IM} {K : Option AV → IM → Prop} (hc : ∃ c : Nat, I 237 4 = c ∧ c ≤ 16) (e4 : J 237 4 = I 237 4) (e40 : J 240 = I 240) (e47 : ∀ k, k < 52 → J 247 k = I 238 (114 + k)) (hK : ∀ J', (∀ o k, o ≠ 240 → (o ≠ 237 ∨ k ≠ 4) → J' o k = J o k) → MK I J' true → K none J') : CALL S0 203 [vR 237] J K := by
  obtain ⟨c, c1, c2⟩ := hc
  exact m_steps (c := c) (e4.trans c1) c2 fun J' f a b d => hK J' f ⟨c, c1, a, fun k hk => (b k hk).trans (e47 k hk), fun k hk => by rw [d k hk, e40]⟩
theorem rel_st {I : IM} (h : REL I) : ∃ c : Nat, I 237 4 = c ∧ c ≤ 16 := by
  obtain ⟨c, n, a1, a2, a3, a4, a5, a6⟩ := h.2.2.2.1
  exact ⟨c, a1, a3⟩
theorem rel_VR {I : IM} (h : REL I) : VR (I 238) (LM I 238 114) := h.2.1.2.2.2
theorem s_put {x1 x2 x3 : Int} {I : IM} (h : REL I) : BOTH 75 198 [vI x1, vI x2, vI x3] I := by
  have hcn : I 1 0 = I 238 5 := h.1.2.1
  have hG := h.1.1
  have hV := rel_VR h
  have hR := VR_R12 hG hV
  have hC := rel_CF h
  have hn := hG.1
  have kput : ∀ K : Option AV → IM → Prop, (¬ ((0 ≤ x1 ∧ x1 < I 238 5) ∧ (0 ≤ x2 ∧ x2 ≤ 3) ∧ 0 ≤ x3 ∧ x3 ≤ ((LM I 238 114 x2.toNat).length : Int))) → (∀ J, FS I J → K (some (vI (-1))) J) → CALL S0 75 [vR 0, vI x1, vI x2, vI x3] I K := by
    intro K c hK
    refine e75 ?_
    unfold D75_0
    refine k_isOrder ⟨_, rfl, ?_⟩
    rw [hcn]
    by_cases c0 : 0 ≤ x1 ∧ x1 < I 238 5
    · rw [b2i_t c0, if_neg (by decide)]
      refine k_isVan ⟨_, rfl, ?_⟩
      by_cases c1 : 0 ≤ x2 ∧ x2 ≤ 3
      · rw [b2i_t c1, if_neg (by decide)]
        refine ⟨by omega, k_within ⟨_, rfl, ?_⟩⟩
        rw [b2i_f (fun z => c ⟨c0, c1, by rw [← CF_len hC (by omega)]; exact z⟩), if_pos rfl]
        exact hK I FS_refl
      · rw [b2i_f c1, if_pos rfl]
        exact hK I FS_refl
    · rw [b2i_f c0, if_pos rfl]
      exact hK I FS_refl
  by_cases c : (0 ≤ x1 ∧ x1 < I 238 5) ∧ (0 ≤ x2 ∧ x2 ≤ 3) ∧ 0 ≤ x3 ∧ x3 ≤ ((LM I 238 114 x2.toNat).length : Int)
  · obtain ⟨v, rfl⟩ : ∃ v : Nat, x2 = v := ⟨x2.toNat, by omega⟩
    obtain ⟨k, rfl⟩ : ∃ k : Nat, x3 = k := ⟨x3.toNat, by omega⟩
    rw [Int.toNat_natCast] at c
    have hv : v < 4 := by omega
    have cl := CF_len hC hv
    have khead : ∀ K : Option AV → IM → Prop, D75_0 x1 v k I K = D75_0 x1 v k I K := fun _ => rfl
    by_cases cv : vanF (LM I 238 114) x1 < 0
    · have room := VR_room hG hV hv c.1 cv
      have vr := @vanF_r (LM I 238 114) x1
      by_cases cg : gdV (I 238) v ((LM I 238 114 v).insertIdx k x1)
      · have hV2 := VR_in hG hV hv c.1 cv (by omega) cg
        refine both_r 1 (setR (LM I 238 114) v ((LM I 238 114 v).insertIdx k x1)) true h hV2 (fun K hK => ?_) (fun J hJ eJ K hK => ?_)
        · refine e75 ?_
          unfold D75_0
          refine k_isOrder ⟨_, rfl, ?_⟩
          rw [hcn, b2i_t c.1, if_neg (by decide)]
          refine k_isVan ⟨_, rfl, ?_⟩
          rw [b2i_t (by omega), if_neg (by decide), Int.toNat_natCast]
          refine ⟨by omega, k_within ⟨_, rfl, ?_⟩⟩
          rw [b2i_t (by omega), if_neg (by decide)]
          refine c_vanOf hC.2.1 hC.2.2 ⟨_, rfl, ?_⟩
          rw [if_pos (by omega)]
          refine c_costWith hv hG hC hR (by omega) room (by omega) fun J1 f1 => ⟨fun _ => ⟨_, rfl, ?_⟩, fun z => absurd cg z⟩
          have cs := cs_good hG hv (fun y hy => VR_R12 hG hV2 v hv y (by rw [setR_s]; exact hy)) cg
          rw [if_neg (by omega)]
          have q1 := CF_fr hC (J' := J1) (fun o k a => f1 o k (by omega))
          refine c_keep (I := I) h rd29 (Or.inl rfl) q1.2.1 (fun w hw => (q1.2.2 w hw).trans (rl_eq h hw).symm) (fun o k a b => f1 o k (by omega)) fun J2 f2 ck => ⟨rfl, ?_⟩
          have q2 := CF_fr q1 (J' := J2) (fun o k a => f2 o k (by omega))
          refine k_ins rd29 hv q2.2.1 (by rw [q2.2.2 v hv]; exact room) (by rw [q2.2.2 v hv]; omega) fun J3 f3 s3 l3 => ⟨rfl, hK J3 ⟨fun o k a1 a2 a3 => ?_, s3, fun w hw => ?_, ?_⟩⟩
          · rw [f3 o k (by omega) (by omega), f2 o k (by omega), f1 o k (fun z => a1 (by unfold SCR; omega))]
          · rw [l3 w hw, q2.2.2 v hv]
            by_cases d : w = v
            · rw [d, setR_s, setR_s]
            · rw [setR_n d, setR_n d]; exact q2.2.2 w hw
          · obtain ⟨n', c', b1, b2, b3, b4, b5, b6, b7, b8⟩ := ck
            refine ⟨n', c', b1, b2, b3, by rw [f3 _ _ (by omega) (by omega)]; exact b4, by rw [f3 _ _ (by omega) (by omega)]; exact b5, fun o k d1 d2 d3 => by rw [f3 _ _ (by omega) (by omega)]; exact b6 o k d1 d2 d3, fun w hw => by rw [f3 _ _ (by omega) (by omega)]; exact b7 w hw, fun w hw => (LC_cg (f3 _ _ (by omega) (by omega)) (fun k => f3 _ _ (by omega) (by omega))).trans (b8 w hw)⟩
        · have mJ : MF (I 238) (LM I 238 114) J := MF_238 (rel_MF h) eJ
          have jJ : ∀ o k, (o = 240 ∨ (o = 237 ∧ k = 4) ∨ o = 238) → J o k = I o k := fun o k a => hJ.1 o k (by unfold SCR; omega) (by omega) (by omega)
          refine e198 ?_
          unfold D198_0
          refine n_isPut hG mJ ⟨_, rfl, ?_⟩
          rw [Int.toNat_natCast, b2i_t c, if_neg (by decide)]
          refine n_isLeft mJ ⟨_, rfl, ?_⟩
          rw [b2i_t cv, if_neg (by decide)]
          refine n_isGoodWith hv hG mJ hR (by omega) room (by omega) fun J1 f1 e1 s1 l1 _ _ => ⟨fun _ => ⟨_, rfl, ?_⟩, fun z => absurd cg z⟩
          rw [if_neg (by decide)]
          refine m_marks ⟨rfl, ?_⟩
          generalize hJ2 : cpd J1 238 114 247 0 52 = J2
          have f2 : ∀ o k, o ≠ 247 → J2 o k = J1 o k := fun o k a => by rw [← hJ2, cpd_out (Or.inl a)]
          have k2 : ∀ k, k < 52 → J2 247 k = I 238 (114 + k) := fun k hk => by
            rw [← hJ2, cpd_in (by omega) (by omega), e1, Nat.sub_zero]
            exact jJ _ _ (by omega)
          refine n_becomes (G := I 238) (R := setR (LM I 238 114) v ((LM I 238 114 v).insertIdx k x1)) (fun k hk => by rw [f2 _ _ (by decide), e1]; exact mJ.1 k hk) (fun w hw => by rw [f2 _ _ (by decide)]; exact s1 w hw) (fun w hw => by rw [← l1 w hw]; exact LM_cg (f2 _ _ (by decide)) (fun k _ => f2 _ _ (by decide))) fun J3 f3 m3 => ⟨rfl, ?_⟩
          refine n_steps (I := J) (by rw [jJ 237 4 (by omega)]; exact rel_st h) (by rw [f3 _ _ (by omega), f2 _ _ (by omega)]; exact f1 _ _ (by omega)) (funext fun k => by rw [f3 _ _ (by omega), f2 _ _ (by omega)]; exact f1 _ _ (by omega)) (fun k hk => by rw [f3 _ _ (by omega), k2 k hk]; exact (jJ _ _ (by omega)).symm) fun J4 f4 mk => ⟨rfl, hK J4 ⟨fun o k a1 a2 a3 a4 => ?_, ?_, ?_, mk⟩⟩
          · rw [f4 o k a3 a4, f3 o k a2, f2 o k (fun z => a1 (by unfold SCR; omega))]
            refine f1 o k ?_
            unfold SCR at a1
            omega
          · exact (MF_238 m3 (funext fun k => f4 238 k (by decide) (by omega))).2.1
          · exact (MF_238 m3 (funext fun k => f4 238 k (by decide) (by omega))).2.2
      · refine both_q (-7) h (fun K hK => ?_) (fun J f hJ K hK => ?_)
        · refine e75 ?_
          unfold D75_0
          refine k_isOrder ⟨_, rfl, ?_⟩
          rw [hcn, b2i_t c.1, if_neg (by decide)]
          refine k_isVan ⟨_, rfl, ?_⟩
          rw [b2i_t (by omega), if_neg (by decide), Int.toNat_natCast]
          refine ⟨by omega, k_within ⟨_, rfl, ?_⟩⟩
          rw [b2i_t (by omega), if_neg (by decide)]
          refine c_vanOf hC.2.1 hC.2.2 ⟨_, rfl, ?_⟩
          rw [if_pos (by omega)]
          refine c_costWith hv hG hC hR (by omega) room (by omega) fun J1 f1 => ⟨fun z => absurd z cg, fun _ => ⟨_, rfl, ?_⟩⟩
          rw [if_pos rfl]
          exact hK J1 (FS_fp f1)
        · have mJ : MF (I 238) (LM I 238 114) J := MF_238 (rel_MF h) (fs238 f)
          refine e198 ?_
          unfold D198_0
          refine n_isPut hG mJ ⟨_, rfl, ?_⟩
          rw [Int.toNat_natCast, b2i_t c, if_neg (by decide)]
          refine n_isLeft mJ ⟨_, rfl, ?_⟩
          rw [b2i_t cv, if_neg (by decide)]
          refine n_isGoodWith hv hG mJ hR (by omega) room (by omega) fun J1 f1 e1 s1 l1 _ _ => ⟨fun z => absurd z cg, fun _ => ⟨_, rfl, ?_⟩⟩
          rw [if_pos rfl]
          refine hK J1 (fun o k a => ?_)
          by_cases z : o = 238
          · rw [z, e1]
          · refine f1 o k ?_
            unfold SCR at a
            omega
    · refine both_q (-3) h (fun K hK => ?_) (fun J f hJ K hK => ?_)
      · refine e75 ?_
        unfold D75_0
        refine k_isOrder ⟨_, rfl, ?_⟩
        rw [hcn, b2i_t c.1, if_neg (by decide)]
        refine k_isVan ⟨_, rfl, ?_⟩
        rw [b2i_t (by omega), if_neg (by decide), Int.toNat_natCast]
        refine ⟨by omega, k_within ⟨_, rfl, ?_⟩⟩
        rw [b2i_t (by omega), if_neg (by decide)]
        refine c_vanOf hC.2.1 hC.2.2 ⟨_, rfl, ?_⟩
        rw [if_neg (by omega)]
        exact hK I FS_refl
      · have mJ : MF (I 238) (LM I 238 114) J := MF_238 (rel_MF h) (fs238 f)
        refine e198 ?_
        unfold D198_0
        refine n_isPut hG mJ ⟨_, rfl, ?_⟩
        rw [Int.toNat_natCast, b2i_t c, if_neg (by decide)]
        refine n_isLeft mJ ⟨_, rfl, ?_⟩
        rw [b2i_f cv, if_pos rfl]
        exact hK J FS_refl
  · refine both_q (-1) h (fun K hK => kput K c hK) (fun J f hJ K hK => ?_)
    have mJ : MF (I 238) (LM I 238 114) J := MF_238 (rel_MF h) (fs238 f)
    refine e198 ?_
    unfold D198_0
    refine n_isPut hG mJ ⟨_, rfl, ?_⟩
    rw [b2i_f c, if_pos rfl]
    exact hK J FS_refl
theorem s_would {x1 x2 x3 : Int} {I : IM} (h : REL I) : BOTHL 78 204 [vI x1, vI x2, vI x3] I := by
  have hcn : I 1 0 = I 238 5 := h.1.2.1
  have hG := h.1.1
  have hV := rel_VR h
  have hR := VR_R12 hG hV
  have hC := rel_CF h
  have hn := hG.1
  have kput : ∀ K : Option AV → IM → Prop, (¬ ((0 ≤ x1 ∧ x1 < I 238 5) ∧ (0 ≤ x2 ∧ x2 ≤ 3) ∧ 0 ≤ x3 ∧ x3 ≤ ((LM I 238 114 x2.toNat).length : Int))) → (∀ J, FS I J → K (some (vL (-9223372036854775808))) J) → CALL S0 78 [vR 0, vI x1, vI x2, vI x3] I K := by
    intro K c hK
    refine e78 ?_
    unfold D78_0
    refine k_isOrder ⟨_, rfl, ?_⟩
    rw [hcn]
    by_cases c0 : 0 ≤ x1 ∧ x1 < I 238 5
    · rw [b2i_t c0, if_neg (by decide)]
      refine k_isVan ⟨_, rfl, ?_⟩
      by_cases c1 : 0 ≤ x2 ∧ x2 ≤ 3
      · rw [b2i_t c1, if_neg (by decide)]
        refine ⟨by omega, k_within ⟨_, rfl, ?_⟩⟩
        rw [b2i_f (fun z => c ⟨c0, c1, by rw [← CF_len hC (by omega)]; exact z⟩), if_pos rfl]
        exact hK I FS_refl
      · rw [b2i_f c1, if_pos rfl]
        exact hK I FS_refl
    · rw [b2i_f c0, if_pos rfl]
      exact hK I FS_refl
  by_cases c : (0 ≤ x1 ∧ x1 < I 238 5) ∧ (0 ≤ x2 ∧ x2 ≤ 3) ∧ 0 ≤ x3 ∧ x3 ≤ ((LM I 238 114 x2.toNat).length : Int)
  · obtain ⟨v, rfl⟩ : ∃ v : Nat, x2 = v := ⟨x2.toNat, by omega⟩
    obtain ⟨k, rfl⟩ : ∃ k : Nat, x3 = k := ⟨x3.toNat, by omega⟩
    rw [Int.toNat_natCast] at c
    have hv : v < 4 := by omega
    have cl := CF_len hC hv
    by_cases cv : vanF (LM I 238 114) x1 < 0
    · have room := VR_room hG hV hv c.1 cv
      have vr := @vanF_r (LM I 238 114) x1
      by_cases cg : gdV (I 238) v ((LM I 238 114 v).insertIdx k x1)
      · have hV2 := VR_in hG hV hv c.1 cv (by omega) cg
        have cs := cs_good hG hv (fun y hy => VR_R12 hG hV2 v hv y (by rw [setR_s]; exact hy)) cg
        have cs0 := cs_good hG hv (hR v hv) (hV.2.2.2 v hv)
        refine both_ql (csV (I 238) v ((LM I 238 114 v).insertIdx k x1) - csV (I 238) v (LM I 238 114 v)) h (fun K hK => ?_) (fun J f hJ K hK => ?_)
        · refine e78 ?_
          unfold D78_0
          refine k_isOrder ⟨_, rfl, ?_⟩
          rw [hcn, b2i_t c.1, if_neg (by decide)]
          refine k_isVan ⟨_, rfl, ?_⟩
          rw [b2i_t (by omega), if_neg (by decide), Int.toNat_natCast]
          refine ⟨by omega, k_within ⟨_, rfl, ?_⟩⟩
          rw [b2i_t (by omega), if_neg (by decide)]
          refine c_vanOf hC.2.1 hC.2.2 ⟨_, rfl, ?_⟩
          rw [if_pos (by omega)]
          refine c_costWith hv hG hC hR (by omega) room (by omega) fun J1 f1 => ⟨fun _ => ⟨_, rfl, ?_⟩, fun z => absurd cg z⟩
          rw [if_neg (by omega)]
          have q1 := CF_fr hC (J' := J1) (fun o k a => f1 o k (by omega))
          refine c_costOf rd29 hv hG q1.1 q1.2.1 hR q1.2.2 fun J2 f2 => ⟨fun _ => ⟨_, rfl, ?_⟩, fun z => absurd (hV.2.2.2 v hv) z⟩
          exact ⟨by unfold inR; omega, hK J2 (FS_fp (FP_trans f1 f2))⟩
        · have mJ : MF (I 238) (LM I 238 114) J := MF_238 (rel_MF h) (fs238 f)
          refine e204 ?_
          unfold D204_0
          refine n_isPut hG mJ ⟨_, rfl, ?_⟩
          rw [Int.toNat_natCast, b2i_t c, if_neg (by decide)]
          refine n_isLeft mJ ⟨_, rfl, ?_⟩
          rw [b2i_t cv, if_neg (by decide)]
          refine n_isGoodWith hv hG mJ hR (by omega) room (by omega) fun J1 f1 e1 s1 l1 _ _ => ⟨fun _ => ⟨_, rfl, ?_⟩, fun z => absurd cg z⟩
          rw [if_neg (by decide)]
          have ll := hV2.1 v hv
          refine n_moreBy (R' := setR (LM I 238 114) v ((LM I 238 114 v).insertIdx k x1)) hv hG (MF_238 mJ e1) hR (VR_R12 hG hV2) (hV.1 v hv) ll s1 l1 fun J2 f2 e2 _ _ => ⟨_, rfl, ?_⟩
          rw [setR_s]
          refine hK J2 (fun o k a => ?_)
          by_cases z : o = 238
          · rw [z, e2, e1]
          · refine (FM_trans f1 f2) o k ?_
            unfold SCR at a
            omega
      · refine both_ql (-9223372036854775808) h (fun K hK => ?_) (fun J f hJ K hK => ?_)
        · refine e78 ?_
          unfold D78_0
          refine k_isOrder ⟨_, rfl, ?_⟩
          rw [hcn, b2i_t c.1, if_neg (by decide)]
          refine k_isVan ⟨_, rfl, ?_⟩
          rw [b2i_t (by omega), if_neg (by decide), Int.toNat_natCast]
          refine ⟨by omega, k_within ⟨_, rfl, ?_⟩⟩
          rw [b2i_t (by omega), if_neg (by decide)]
          refine c_vanOf hC.2.1 hC.2.2 ⟨_, rfl, ?_⟩
          rw [if_pos (by omega)]
          refine c_costWith hv hG hC hR (by omega) room (by omega) fun J1 f1 => ⟨fun z => absurd z cg, fun _ => ⟨_, rfl, ?_⟩⟩
          rw [if_pos rfl]
          exact hK J1 (FS_fp f1)
        · have mJ : MF (I 238) (LM I 238 114) J := MF_238 (rel_MF h) (fs238 f)
          refine e204 ?_
          unfold D204_0
          refine n_isPut hG mJ ⟨_, rfl, ?_⟩
          rw [Int.toNat_natCast, b2i_t c, if_neg (by decide)]
          refine n_isLeft mJ ⟨_, rfl, ?_⟩
          rw [b2i_t cv, if_neg (by decide)]
          refine n_isGoodWith hv hG mJ hR (by omega) room (by omega) fun J1 f1 e1 s1 l1 _ _ => ⟨fun z => absurd z cg, fun _ => ⟨_, rfl, ?_⟩⟩
          rw [if_pos rfl]
          refine hK J1 (fun o k a => ?_)
          by_cases z : o = 238
          · rw [z, e1]
          · refine f1 o k ?_
            unfold SCR at a
            omega
    · refine both_ql (-9223372036854775808) h (fun K hK => ?_) (fun J f hJ K hK => ?_)
      · refine e78 ?_
        unfold D78_0
        refine k_isOrder ⟨_, rfl, ?_⟩
        rw [hcn, b2i_t c.1, if_neg (by decide)]
        refine k_isVan ⟨_, rfl, ?_⟩
        rw [b2i_t (by omega), if_neg (by decide), Int.toNat_natCast]
        refine ⟨by omega, k_within ⟨_, rfl, ?_⟩⟩
        rw [b2i_t (by omega), if_neg (by decide)]
        refine c_vanOf hC.2.1 hC.2.2 ⟨_, rfl, ?_⟩
        rw [if_neg (by omega)]
        exact hK I FS_refl
      · have mJ : MF (I 238) (LM I 238 114) J := MF_238 (rel_MF h) (fs238 f)
        refine e204 ?_
        unfold D204_0
        refine n_isPut hG mJ ⟨_, rfl, ?_⟩
        rw [Int.toNat_natCast, b2i_t c, if_neg (by decide)]
        refine n_isLeft mJ ⟨_, rfl, ?_⟩
        rw [b2i_f cv, if_pos rfl]
        exact hK J FS_refl
  · refine both_ql (-9223372036854775808) h (fun K hK => kput K c hK) (fun J f hJ K hK => ?_)
    have mJ : MF (I 238) (LM I 238 114) J := MF_238 (rel_MF h) (fs238 f)
    refine e204 ?_
    unfold D204_0
    refine n_isPut hG mJ ⟨_, rfl, ?_⟩
    rw [b2i_f c, if_pos rfl]
    exact hK J FS_refl
