/-! level 2: class and model stand alike -/
/-- two banks of numbers say the same of a node -/
def AG (G G' : Nat → Int) (v : Nat) (a : Int) : Prop := nx G' a = nx G a ∧ ny G' a = ny G a ∧ opn G' v a = opn G v a ∧ cls G' v a = cls G v a ∧ nw G' 4 a = nw G 4 a ∧ nw G' 5 a = nw G 5 a ∧ nw G' 6 a = nw G 6 a
theorem wy_ag {G G' : Nat → Int} {v : Nat} {a b : Int} (ha : AG G G' v a) (hb : AG G G' v b) : wy G' a b = wy G a b := by
  unfold wy
  rw [ha.1, ha.2.1, hb.1, hb.2.1]
theorem lvs_ag {G G' : Nat → Int} {v : Nat} {N : Nat → Int} {s : Int} (h : ∀ k, AG G G' v (N k)) : ∀ k, lvs G' v N s k = lvs G v N s k
  | 0 => by rw [show lvs G' v N s 0 = s + nw G' 4 (N 0) from rfl, (h 0).2.2.2.2.1]; rfl
  | k + 1 => by
    rw [show lvs G' v N s (k + 1) = (if lvs G' v N s k + wy G' (N k) (N (k + 1)) < opn G' v (N (k + 1)) then opn G' v (N (k + 1)) else lvs G' v N s k + wy G' (N k) (N (k + 1))) + nw G' 4 (N (k + 1)) from rfl, lvs_ag h k, wy_ag (h k) (h (k + 1)), (h (k + 1)).2.2.1, (h (k + 1)).2.2.2.2.1]
    rfl
theorem cms_ag {G G' : Nat → Int} {v : Nat} {N : Nat → Int} {s : Int} (h : ∀ k, AG G G' v (N k)) (k : Nat) : cms G' v N s k = cms G v N s k := by
  cases k with
  | zero => rfl
  | succ k =>
    rw [show cms G' v N s (k + 1) = lvs G' v N s k + wy G' (N k) (N (k + 1)) from rfl, lvs_ag h k, wy_ag (h k) (h (k + 1))]
    rfl
theorem bgs_ag {G G' : Nat → Int} {v : Nat} {N : Nat → Int} {s : Int} (h : ∀ k, AG G G' v (N k)) (k : Nat) : bgs G' v N s k = bgs G v N s k := by
  cases k with
  | zero => rfl
  | succ k =>
    rw [show bgs G' v N s (k + 1) = if cms G' v N s (k + 1) < opn G' v (N (k + 1)) then opn G' v (N (k + 1)) else cms G' v N s (k + 1) from rfl, cms_ag h, (h (k + 1)).2.2.1]
    rfl
theorem ltf_ag {G G' : Nat → Int} {v : Nat} {N : Nat → Int} {s : Int} (h : ∀ k, AG G G' v (N k)) : ∀ k, ltf G' v N s k = ltf G v N s k
  | 0 => rfl
  | k + 1 => by
    rw [show ltf G' v N s (k + 1) = if bgs G' v N s (k + 1) ≤ cls G' v (N (k + 1)) then ltf G' v N s k else 1 from rfl, ltf_ag h k, bgs_ag h, (h (k + 1)).2.2.2.1]
    rfl
theorem sms_ag {G G' : Nat → Int} {w : Nat} {N : Nat → Int} (h : ∀ k, nw G' w (N k) = nw G w (N k)) : ∀ k, sms G' w N k = sms G w N k
  | 0 => rfl
  | k + 1 => by
    rw [show sms G' w N (k + 1) = sms G' w N k + nw G' w (N k) from rfl, sms_ag h k, h k]
    rfl
theorem tps_ag {G G' : Nat → Int} {N : Nat → Int} {n : Nat} (h5 : ∀ k, nw G' 5 (N k) = nw G 5 (N k)) (h6 : ∀ k, nw G' 6 (N k) = nw G 6 (N k)) : ∀ k, tps G' N n k = tps G N n k
  | 0 => sms_ag h5 n
  | k + 1 => by
    have e : lds G' N n (k + 1) = lds G N n (k + 1) := by
      unfold lds
      rw [sms_ag h5, sms_ag h5, sms_ag h6]
    rw [show tps G' N n (k + 1) = if tps G' N n k < lds G' N n (k + 1) then lds G' N n (k + 1) else tps G' N n k from rfl, tps_ag h5 h6 k, e]
    rfl
theorem gN_mem {L : List Int} {i : Int} {k : Nat} : gN L i k = -1 ∨ gN L i k ∈ L := by
  unfold gN
  split
  · cases e : L[(i + k).toNat]? with
    | none => exact Or.inl rfl
    | some x => exact Or.inr (List.mem_of_getElem? e)
  · exact Or.inl rfl
theorem gdV_ag {G G' : Nat → Int} {v : Nat} {L : List Int} (h : ∀ x ∈ L, AG G G' v x) (h1 : AG G G' v (-1)) (hc : G' (102 + 3 * v) = G (102 + 3 * v)) : gdV G' v L ↔ gdV G v L := by
  have hk : ∀ k, AG G G' v (gN L (-1) k) := fun k => by
    rcases @gN_mem L (-1) k with e | e
    · rw [e]; exact h1
    · exact h _ e
  have hs : G' (103 + 3 * v) = G (103 + 3 * v) := h1.2.2.1
  unfold gdV
  rw [hs, ltf_ag hk, tps_ag (fun k => (hk k).2.2.2.2.2.1) (fun k => (hk k).2.2.2.2.2.2), hc]
theorem gdV_lo {G G' : Nat → Int} (hG : ∀ k, k < 114 → G' k = G k) {v : Nat} (hv : v < 4) {L : List Int} (ho : ∀ x ∈ L, 0 ≤ x ∧ x < 12) : gdV G' v L ↔ gdV G v L := by
  have h : ∀ a : Int, a < 12 → AG G G' v a := by
    intro a ha
    unfold AG nx ny opn cls nw
    split
    · rw [hG _ (by omega), hG _ (by omega), hG _ (by omega), hG _ (by omega), hG _ (by omega), hG _ (by omega), hG _ (by omega)]
      exact ⟨rfl, rfl, rfl, rfl, rfl, rfl, rfl⟩
    · rw [hG _ (by omega), hG _ (by omega), hG _ (by omega), hG _ (by omega)]
      exact ⟨rfl, rfl, rfl, rfl, rfl, rfl, rfl⟩
  exact gdV_ag (fun x hx => h x (ho x hx).2) (h (-1) (by omega)) (hG _ (by omega))
theorem GR_lo {G G' : Nat → Int} (hG : ∀ k, k < 114 → G' k = G k) (h : GR G) : GR G' := by
  obtain ⟨h1, h2, h3, h4, h5⟩ := h
  refine ⟨by rw [hG 5 (by omega)]; exact h1, fun o ho => ?_, by rw [hG 0 (by omega), hG 1 (by omega)]; exact h3, by rw [hG 2 (by omega), hG 3 (by omega), hG 4 (by omega)]; exact h4, fun v hv => ?_⟩
  · rw [hG _ (by omega), hG _ (by omega), hG _ (by omega), hG _ (by omega), hG _ (by omega), hG _ (by omega), hG _ (by omega), hG _ (by omega)]
    exact h2 o ho
  · rw [hG _ (by omega), hG _ (by omega), hG _ (by omega)]
    exact h5 v hv
theorem dc_lt {a : Nat} : dc a < 12 := by unfold dc; split <;> omega
theorem wy_lo {G G' : Nat → Int} (hG : ∀ k, k < 114 → G' k = G k) {a b : Int} (ha : a < 12) (hb : b < 12) : wy G' a b = wy G a b := by
  have e : ∀ c : Int, c < 12 → nx G' c = nx G c ∧ ny G' c = ny G c := by
    intro c hc
    unfold nx ny
    split
    · rw [hG _ (by omega), hG _ (by omega)]; exact ⟨rfl, rfl⟩
    · rw [hG _ (by omega), hG _ (by omega)]; exact ⟨rfl, rfl⟩
  unfold wy
  rw [(e a ha).1, (e a ha).2, (e b hb).1, (e b hb).2]
theorem BKof_lo {I : IM} {r f : Nat} {G G' : Nat → Int} (hG : ∀ k, k < 114 → G' k = G k) (h : BKof I r f G) : BKof I r f G' := by
  obtain ⟨h1, h2, h3, h4, h5, h6, h7⟩ := h
  refine ⟨by rw [hG _ (by omega)]; exact h1, fun o ho w hw => by rw [hG _ (by omega)]; exact h2 o ho w hw, by rw [hG _ (by omega), hG _ (by omega)]; exact h3, h4, fun a b ha hb => by rw [wy_lo hG dc_lt dc_lt]; exact h5 a b ha hb, fun v hv => by rw [hG _ (by omega), hG _ (by omega), hG _ (by omega)]; exact h6 v hv, fun w hw => by rw [hG _ (by omega)]; exact h7 w hw⟩
/-- no order twice -/
def ND4 (R : Nat → List Int) : Prop := (∀ v, v < 4 → (R v).Nodup) ∧ (∀ u v, u < 4 → v < 4 → u ≠ v → ∀ x ∈ R u, x ∉ R v)
/-- rounds as they may stand -/
def VR (G : Nat → Int) (R : Nat → List Int) : Prop := (∀ v, v < 4 → (R v).length ≤ 12) ∧ (∀ v, v < 4 → ∀ x ∈ R v, 0 ≤ x ∧ x < G 5) ∧ ND4 R ∧ (∀ v, v < 4 → gdV G v (R v))
theorem VR_eq {G : Nat → Int} {R R' : Nat → List Int} (h : ∀ v, v < 4 → R' v = R v) (hV : VR G R) : VR G R' := by
  obtain ⟨h1, h2, h3, h4⟩ := hV
  refine ⟨fun v hv => by rw [h v hv]; exact h1 v hv, fun v hv => by rw [h v hv]; exact h2 v hv, ⟨fun v hv => by rw [h v hv]; exact h3.1 v hv, fun u v hu hv => by rw [h u hu, h v hv]; exact h3.2 u v hu hv⟩, fun v hv => by rw [h v hv]; exact h4 v hv⟩
theorem VR_lo {G G' : Nat → Int} {R : Nat → List Int} (hG : ∀ k, k < 114 → G' k = G k) (hn : G 5 ≤ 12) (hV : VR G R) : VR G' R := by
  obtain ⟨h1, h2, h3, h4⟩ := hV
  refine ⟨h1, fun v hv => by rw [hG 5 (by omega)]; exact h2 v hv, h3, fun v hv => (gdV_lo hG hv (fun x hx => by have := h2 v hv x hx; omega)).mpr (h4 v hv)⟩
/-- class rounds r and a model's row tell the same -/
def SAR (I : IM) (r q b : Nat) : Prop := SZC I r ∧ SZM I q b ∧ (∀ v, v < 4 → LC I r v = LM I q b v) ∧ VR (I 238) (LM I q b)
theorem LM_congr {I I' : IM} {q q' b b' v : Nat} (hz : 0 ≤ I q (b + 13 * v) ∧ I q (b + 13 * v) ≤ 12) (h : ∀ k, k < 13 → I' q' (b' + 13 * v + k) = I q (b + 13 * v + k)) : LM I' q' b' v = LM I q b v := by
  have h0 : I' q' (b' + 13 * v) = I q (b + 13 * v) := h 0 (by omega)
  unfold LM
  rw [h0]
  exact ln_congr (fun k hk => by
    rw [Nat.add_assoc, Nat.add_assoc (b + 13 * v)]
    exact h (1 + k) (by omega))
theorem LC_congr {I I' : IM} {r r' v : Nat} (h0 : I' (r' + 1) v = I (r + 1) v) (h : ∀ k, k < (I (r + 1) v).toNat → I' (r' + 3 + v) k = I (r + 3 + v) k) : LC I' r' v = LC I r v := by
  unfold LC
  rw [h0]
  exact ln_congr (fun k hk => h _ (by omega))
/-- the memory is as it was in r's objects, the model's row, and the numbers -/
theorem SAR_fr {I I' : IM} {r q b : Nat} (h : SAR I r q b) (h1 : ∀ v, v < 4 → I' (r + 1) v = I (r + 1) v) (h2 : ∀ v k, v < 4 → k < 12 → I' (r + 3 + v) k = I (r + 3 + v) k) (h3 : ∀ k, k < 52 → I' q (b + k) = I q (b + k)) (h4 : ∀ k, k < 114 → I' 238 k = I 238 k) (hn : I 238 5 ≤ 12) : SAR I' r q b := by
  obtain ⟨a1, a2, a3, a4⟩ := h
  have eM : ∀ v, v < 4 → LM I' q b v = LM I q b v := fun v hv => LM_congr (a2 v hv) (fun k hk => by rw [Nat.add_assoc]; exact h3 _ (by omega))
  have eC : ∀ v, v < 4 → LC I' r v = LC I r v := fun v hv => LC_congr (h1 v hv) (fun k hk => h2 v k hv (by have := a1 v hv; omega))
  refine ⟨fun v hv => by rw [h1 v hv]; exact a1 v hv, fun v hv => by rw [h3 _ (by omega)]; exact a2 v hv, fun v hv => by rw [eM v hv, eC v hv]; exact a3 v hv, VR_eq eM (VR_lo h4 hn a4)⟩
def RB (I : IM) : Prop := GR (I 238) ∧ BK I (I 238)
def RR (I : IM) : Prop := SAR I 29 238 114
/-- the image -/
def RI' (I : IM) : Prop := I 0 6 = I 237 2 ∧ (I 237 2 = 0 ∨ I 237 2 = 1) ∧ (I 237 2 = 1 → GR (I 239) ∧ BKof I 36 59 (I 239) ∧ SZC I 64 ∧ SZM I 239 114 ∧ (∀ v, v < 4 → LC I 64 v = LM I 239 114 v) ∧ VR (I 239) (LM I 239 114))
/-- the steps -/
def rg (n i : Nat) : Nat := 80 + 7 * ((n + 15 - i) % 16)
def RS (I : IM) : Prop := ∃ c n : Nat, I 237 4 = c ∧ I 78 2 = c ∧ c ≤ 16 ∧ I 78 1 = n ∧ n < 16 ∧ ∀ i, i < c → SAR I (rg n i) 240 (52 * (c - 1 - i))
def RT (I : IM) : Prop := I 208 1 = I 237 16 ∧ (0 ≤ I 237 16 ∧ I 237 16 ≤ 160) ∧ ∀ k : Nat, (k : Int) < I 237 16 → I 209 k = I 244 k ∧ 1 ≤ I 244 k ∧ I 244 k ≤ 127
def RP (I : IM) : Prop := I 210 1 = I 237 18 ∧ (0 ≤ I 237 18 ∧ I 237 18 ≤ 64) ∧ ∀ k : Nat, (k : Int) < I 237 18 → I 211 k = I 246 k
def RW (I : IM) : Prop := ∀ r, r < 4 → (I 236 r = -11 ∧ I 250 r = -1) ∨ (I 236 r = I 250 r ∧ 0 ≤ I 250 r ∧ I 250 r ≤ 40 ∧ ∀ k : Nat, (k : Int) < I 250 r → I (232 + r) k = I 251 (40 * r + k))
def REL (I : IM) : Prop := RB I ∧ RR I ∧ RI' I ∧ RS I ∧ RT I ∧ RP I ∧ RW I
theorem RB_fr {I I' : IM} (h : RB I) (f : ∀ o k, 1 ≤ o → o < 29 → I' o k = I o k) (g : ∀ k, k < 114 → I' 238 k = I 238 k) : RB I' := by
  refine ⟨GR_lo g h.1, BKof_lo g ?_⟩
  obtain ⟨h1, h2, h3, h4, h5, h6, h7⟩ := h.2
  refine ⟨by rw [f _ _ (by omega) (by omega)]; exact h1, fun o ho w hw => by rw [f _ _ (by omega) (by omega)]; exact h2 o ho w hw, ?_, ?_, fun a b ha hb => by rw [f _ _ (by omega) (by omega)]; exact h5 a b ha hb, fun v hv => ?_, fun w hw => by rw [f _ _ (by omega) (by omega)]; exact h7 w hw⟩
  · rw [f _ _ (by omega) (by omega), f _ _ (by omega) (by omega)]; exact h3
  · rw [f _ _ (by omega) (by omega), f _ _ (by omega) (by omega), f _ _ (by omega) (by omega), f _ _ (by omega) (by omega)]; exact h4
  · rw [f _ _ (by omega) (by omega), f _ _ (by omega) (by omega), f _ _ (by omega) (by omega)]; exact h6 v hv
theorem RI_fr {I I' : IM} (h : RI' I) (f : ∀ o k, 36 ≤ o → o ≤ 70 → I' o k = I o k) (g : I' 239 = I 239) (z : I' 0 6 = I 0 6) (y : I' 237 2 = I 237 2) : RI' I' := by
  obtain ⟨a1, a2, a3⟩ := h
  refine ⟨by rw [z, y]; exact a1, by rw [y]; exact a2, fun e => ?_⟩
  obtain ⟨b1, b2, b3, b4, b5, b6⟩ := a3 (by rw [← y]; exact e)
  rw [g]
  have eM : ∀ v, LM I' 239 114 v = LM I 239 114 v := fun v => by unfold LM ln; rw [g]
  have eC : ∀ v, v < 4 → LC I' 64 v = LC I 64 v := fun v hv => LC_congr (f _ _ (by omega) (by omega)) (fun k _ => f _ _ (by omega) (by omega))
  refine ⟨b1, ?_, fun v hv => by rw [f _ _ (by omega) (by omega)]; exact b3 v hv, fun v hv => by rw [g]; exact b4 v hv, fun v hv => by rw [eC v hv, eM]; exact b5 v hv, VR_eq (fun v _ => eM v) b6⟩
  obtain ⟨h1, h2, h3, h4, h5, h6, h7⟩ := b2
  refine ⟨by rw [f _ _ (by omega) (by omega)]; exact h1, fun o ho w hw => by rw [f _ _ (by omega) (by omega)]; exact h2 o ho w hw, ?_, ?_, fun a b ha hb => by rw [f _ _ (by omega) (by omega)]; exact h5 a b ha hb, fun v hv => ?_, fun w hw => by rw [f _ _ (by omega) (by omega)]; exact h7 w hw⟩
  · rw [f _ _ (by omega) (by omega), f _ _ (by omega) (by omega)]; exact h3
  · rw [f _ _ (by omega) (by omega), f _ _ (by omega) (by omega), f _ _ (by omega) (by omega), f _ _ (by omega) (by omega)]; exact h4
  · rw [f _ _ (by omega) (by omega), f _ _ (by omega) (by omega), f _ _ (by omega) (by omega)]; exact h6 v hv
theorem RS_fr {I I' : IM} (h : RS I) (f : ∀ o k, 78 ≤ o → o ≤ 191 → I' o k = I o k) (g : I' 240 = I 240) (y : I' 237 4 = I 237 4) (h4 : ∀ k, k < 114 → I' 238 k = I 238 k) (hn : I 238 5 ≤ 12) : RS I' := by
  obtain ⟨c, n, a1, a2, a3, a4, a5, a6⟩ := h
  refine ⟨c, n, by rw [y]; exact a1, by rw [f _ _ (by omega) (by omega)]; exact a2, a3, by rw [f _ _ (by omega) (by omega)]; exact a4, a5, fun i hi => ?_⟩
  have hr : 80 ≤ rg n i ∧ rg n i ≤ 185 := by unfold rg; omega
  exact SAR_fr (a6 i hi) (fun v hv => f _ _ (by omega) (by omega)) (fun v k hv _ => f _ _ (by omega) (by omega)) (fun k _ => by rw [g]) h4 hn
theorem RS_0 {I : IM} (h1 : I 237 4 = 0) (h2 : I 78 2 = 0) {n : Nat} (h3 : I 78 1 = n) (h4 : n < 16) : RS I := ⟨0, n, h1, h2, by omega, h3, h4, fun i hi => by omega⟩
theorem RT_fr {I I' : IM} (h : RT I) (f1 : I' 208 1 = I 208 1) (f2 : I' 237 16 = I 237 16) (f3 : I' 209 = I 209) (f4 : I' 244 = I 244) : RT I' := by
  unfold RT
  rw [f1, f2, f3, f4]
  exact h
theorem RP_fr {I I' : IM} (h : RP I) (f1 : I' 210 1 = I 210 1) (f2 : I' 237 18 = I 237 18) (f3 : I' 211 = I 211) (f4 : I' 246 = I 246) : RP I' := by
  unfold RP
  rw [f1, f2, f3, f4]
  exact h
theorem RW_fr {I I' : IM} (h : RW I) (f : ∀ o k, 232 ≤ o → o ≤ 236 → I' o k = I o k) (g1 : I' 250 = I 250) (g2 : I' 251 = I 251) : RW I' := by
  intro r hr
  rw [f 236 r (by omega) (by omega), g1]
  rcases h r hr with z | ⟨z1, z2, z3, z4⟩
  · exact Or.inl z
  · exact Or.inr ⟨z1, z2, z3, fun k hk => by rw [f _ _ (by omega) (by omega), g2]; exact z4 k hk⟩
/-- what class and model work with beside what they keep -/
def SCR (o k : Nat) : Prop := (71 ≤ o ∧ o ≤ 77) ∨ (192 ≤ o ∧ o ≤ 207) ∨ (212 ≤ o ∧ o ≤ 230) ∨ (o = 237 ∧ k ≠ 2 ∧ k ≠ 4 ∧ k ≠ 16 ∧ k ≠ 18) ∨ (241 ≤ o ∧ o ≤ 243) ∨ o = 245 ∨ (247 ≤ o ∧ o ≤ 249)
def FS (I I' : IM) : Prop := ∀ o k, ¬ SCR o k → I' o k = I o k
theorem FS_refl {I : IM} : FS I I := fun _ _ _ => rfl
theorem FS_trans {I I' I'' : IM} (h : FS I I') (h' : FS I' I'') : FS I I'' := fun o k a => (h' o k a).trans (h o k a)
theorem FS_fd {I I' : IM} (h : FD I I') : FS I I' := fun o k a => by
  unfold SCR at a
  exact h o k (by omega) (by omega)
theorem FS_fp {I I' : IM} (h : FP I I') : FS I I' := fun o k a => by
  unfold SCR at a
  exact h o k (by omega)
theorem FS_up {I I' : IM} {o k : Nat} {x : Int} (h : FS I I') (ho : SCR o k) : FS I (iup I' o k x) := fun o' k' a => by
  rw [iup_ne (by
    by_cases c : o' = o
    · by_cases d : k' = k
      · rw [c, d] at a; exact absurd ho a
      · exact Or.inr d
    · exact Or.inl c)]
  exact h o' k' a
theorem FS_o {I I' : IM} (h : FS I I') {o : Nat} (ho : ∀ k, ¬ SCR o k) : I' o = I o := funext fun k => h o k (ho k)
theorem REL_fr {I I' : IM} (h : REL I) (f : FS I I') : REL I' := by
  obtain ⟨h1, h2, h3, h4, h5, h6, h7⟩ := h
  have n : ∀ o, (o < 71 ∨ (78 ≤ o ∧ o < 192) ∨ (208 ≤ o ∧ o ≤ 211) ∨ (231 ≤ o ∧ o ≤ 236) ∨ (238 ≤ o ∧ o ≤ 240) ∨ o = 244 ∨ o = 246 ∨ 250 ≤ o) → I' o = I o := fun o ho => FS_o f (fun k => by unfold SCR; omega)
  have m : ∀ k, (k = 2 ∨ k = 4 ∨ k = 16 ∨ k = 18) → I' 237 k = I 237 k := fun k hk => f 237 k (by unfold SCR; omega)
  have g : ∀ k, k < 114 → I' 238 k = I 238 k := fun k _ => by rw [n 238 (by omega)]
  have hn := h1.1.1.2
  refine ⟨RB_fr h1 (fun o k _ _ => by rw [n o (by omega)]) g, SAR_fr h2 (fun v _ => by rw [n 30 (by omega)]) (fun v k _ _ => by rw [n _ (by omega)]) (fun k _ => by rw [n 238 (by omega)]) g hn, RI_fr h3 (fun o k _ _ => by rw [n o (by omega)]) (n 239 (by omega)) (by rw [n 0 (by omega)]) (m 2 (by omega)), RS_fr h4 (fun o k _ _ => by rw [n o (by omega)]) (n 240 (by omega)) (m 4 (by omega)) g hn, RT_fr h5 (by rw [n 208 (by omega)]) (m 16 (by omega)) (n 209 (by omega)) (n 244 (by omega)), RP_fr h6 (by rw [n 210 (by omega)]) (m 18 (by omega)) (n 211 (by omega)) (n 246 (by omega)), RW_fr h7 (fun o k _ _ => by rw [n o (by omega)]) (n 250 (by omega)) (n 251 (by omega))⟩
/-- the script stays -/
def SC (I I' : IM) : Prop := ∀ o k, 1000 ≤ o → I' o k = I o k
theorem SC_fs {I I' : IM} (h : FS I I') : SC I I' := fun o k a => h o k (by unfold SCR; omega)
theorem SC_trans {I I' I'' : IM} (h : SC I I') (h' : SC I' I'') : SC I I'' := fun o k a => (h' o k a).trans (h o k a)
/-- first the class, then the model: one answer, and they stand alike again -/
def BOTH (cm mm : Nat) (as : List AV) (I : IM) : Prop := CALL S0 cm (vR 0 :: as) I (fun v I1 => ∃ a : Int, v = some (vI a) ∧ CALL S0 mm (vR 237 :: as) I1 (fun v' I2 => v' = some (vI a) ∧ REL I2 ∧ SC I I2))
def BOTHL (cm mm : Nat) (as : List AV) (I : IM) : Prop := CALL S0 cm (vR 0 :: as) I (fun v I1 => ∃ a : Int, v = some (vL a) ∧ CALL S0 mm (vR 237 :: as) I1 (fun v' I2 => v' = some (vL a) ∧ REL I2 ∧ SC I I2))
