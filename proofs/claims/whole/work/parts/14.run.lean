theorem callB_mk {R : Room} {s : State} {args : Array Value} {own : String} {ix mid mc ms : Nat} {rm : Room} (h0 : mid ≠ 0) (hm : mid < nM) (hts : ∀ w ∈ lw_gt, w.before args s = true) (hrc : rm.cells = mc) (hrs : rm.slots = ms) (hl : (Jvm.Cond.methodLink own ix (m_y mid)).before args s = true) (hR : rm.frames + 1 ≤ R.frames ∧ 8 + (m_ml mid + 11) + rm.locals ≤ R.locals) :
    CallB R s args own ix (m_y mid) (m_cd mid) (m_ml mid) (rkT (m_rk mid)) (wsm mid) rm mc ms (m_np mid - (if m_kd mid = 1 then 0 else 1)) := by
  obtain ⟨b1, b2, b3, b4, b5, b6, b7, b8, b9, b10, b11, b12, b13⟩ := okM_parts h0 hm
  exact callB_of _ hts (wsm_good h0 hm) rfl hrc hrs (hts _ b13) hl ⟨b3.1, b3.2, b4⟩ hR
theorem callN_mk {R : Room} {s : State} {args : Array Value} {own host : String} {ix mid mc ms : Nat} {rm : Room} (h0 : mid ≠ 0) (hm : mid < nM) (hts : ∀ w ∈ lw_gt, w.before args s = true) (hrc : rm.cells = mc) (hrs : rm.slots = ms) (hl : va_Nw (.methodLinkNest own ix (m_y mid) host) s) (hR : rm.frames + 1 ≤ R.frames ∧ 8 + (m_ml mid + 11) + rm.locals ≤ R.locals) :
    va_CN R s args own ix (m_y mid) host (m_cd mid) (m_ml mid) (rkT (m_rk mid)) (wsm mid) rm mc ms (m_np mid - (if m_kd mid = 1 then 0 else 1)) := by
  obtain ⟨b1, b2, b3, b4, b5, b6, b7, b8, b9, b10, b11, b12, b13⟩ := okM_parts h0 hm
  exact va_cnB _ hts (wsm_good h0 hm) rfl hrc hrs hl (hts _ b13) ⟨b3.1, b3.2, b4⟩ hR
theorem mtb_word {own ix mid nest wi : Nat} (hf : mtb.lookup (own, ix) = some (mid, nest, wi)) : (nest = 0 → Jvm.Cond.methodLink (cname own) ix (m_y mid) ∈ lw_gt) ∧ (nest ≠ 0 → Jvm.Cond.methodLinkNest (cname own) ix (m_y mid) "RoundSlack" ∈ nests) := by
  have hm := of_lk hf
  have hw := List.all_eq_true.mp mtb_ok _ hm
  refine ⟨fun z => ?_, fun z => ?_⟩
  · rw [if_pos (show ((own, ix), mid, nest, wi).2.2.1 = 0 from z)] at hw
    exact okw_in hw
  · exact List.mem_map.mpr ⟨_, List.mem_filter.mpr ⟨hm, by simpa using z⟩, rfl⟩
theorem am_call {f : Nat} (IH : SIM f) {X : CT} {ad : Nat → Nat} {cells slots pc ix mid nest wi kk : Nat} {ls as rest : List AV} {h h' : AH} {v : Option AV} {raw : Instr} (hX : CX X) (hd : decode (m_cd (xm X)) pc = .ok (raw, 3)) (hraw : raw = .invokevirtual ix ∧ kk = 0 ∧ nest = 0 ∨ raw = .invokestatic ix ∧ kk = 1 ∨ raw = .invokespecial ix ∧ kk = 2) (hf : mtb.lookup (m_own (xm X), ix) = some (mid, nest, wi)) (h0 : mid ≠ 0) (hm : mid < nM) (hkd : m_kd mid = kk) (hfr : m_fr mid + 1 ≤ m_fr (xm X)) (hlo : 8 + (m_ml mid + 11) + m_lo mid ≤ m_lo (xm X)) (hnp : m_np mid ≤ m_ml mid)
    (hlen : as.length = m_np mid) (hw : wcat as = as.length) (hw8 : wcat rest ≤ 8) (hrecv : recvOk kk mid as h = true) (has : okL as) (hI : okI h.1) (e : arun f mid 0 (entryL mid as) [] h = some (v, h')) (hrefs : h'.2.length = h.2.length ∨ (okRefs h.2.length ls = true ∧ okRefs h.2.length rest = true)) (hc : cells + h'.2.length ≤ (xR X).cells + h.2.length) (hs : slots + sl h'.2 ≤ (xR X).slots + sl h.2)
    (K : KK X ad cells slots (pc + 3) ls (v.toList ++ rest) h h') : TT X ad cells slots pc ls (as.reverse ++ rest) h := by
  obtain ⟨b1, b2, b3, b4, b5, b6, b7, b8, b9, b10, b11, b12, b13⟩ := okM_parts h0 hm
  obtain ⟨hv9, -, l1, l2⟩ := arun_ok _ _ _ _ _ _ _ _ e (okL_entry has) okL_nil hI
  obtain ⟨x, y⟩ := mtb_word hf
  obtain ⟨p, l, en, R, s, mm, args, below, meth, c, Q, D, tc, A, m⟩ := X
  have hX0 := hX
  obtain ⟨hx, hb, hml, hown, hts, hin, hK, hA, hnw, hfr9, hlo9⟩ := hX
  intro L H locs hL hS
  have hLs : L.size = m_ml m := by obtain ⟨-, lv, g1, -⟩ := hL; exact g1.1
  have hlen0 := hS.2.2.2.1
  obtain ⟨hl', hscr⟩ := arun_ps _ _ _ _ _ _ _ _ e hlen0
  have hM := met_of IH l h0 hm e has hI hw (by omega) hv9 D tc ad H.size
  have hroom : m_fr mid + 1 ≤ R.frames ∧ 8 + (m_ml mid + 11) + m_lo mid ≤ R.locals := ⟨Nat.le_trans hfr hfr9, Nat.le_trans hlo hlo9⟩
  have hPc : ∀ U : State, U.heap = H → s.WarmedH U.vm → PcA D tc ad h H.size U := fun U hU hW => ⟨by rw [hU], by rw [hU]; exact hS.1, va_K.moved hW.alike hK, hS.2.1.weaken (fun _ _ _ _ => trivial), hnw.warm hW, hlen0⟩
  have hcs : cells + (h'.2.length - h.2.length) ≤ R.cells ∧ slots + (sl h'.2 - sl h.2) ≤ R.slots := ⟨by have : (xR (p, l, en, R, s, mm, args, below, meth, c, Q, D, tc, A, m)).cells = R.cells := rfl; omega, by have : (xR (p, l, en, R, s, mm, args, below, meth, c, Q, D, tc, A, m)).slots = R.slots := rfl; omega⟩
  have hroomW : 2 * (F0 mm pc L ((as.reverse ++ rest).map (cv ad))).monitorRoom + ((rest.map (cv ad)).map fun v => v.category).sum ≤ 8 := lv_room (by rw [wcat_cv]; exact hw8)
  refine call_end (mc := h'.2.length - h.2.length) (ms := sl h'.2 - sl h.2) (a := (as.map (cv ad)).toArray) hX0 hL hS hl' l1 hscr hrefs ?_ (fun ad' hag => K ad' _ _ hag (by omega) (by omega))
  rcases hraw with ⟨rfl, rfl, rfl⟩ | ⟨rfl, rfl⟩ | ⟨rfl, rfl⟩
  · -- virtual
    have hlk := hts _ (x rfl)
    cases as with
    | nil => simp at hlen; have := b7 (by omega); omega
    | cons r0 as =>
      rcases r0 with r0 | r0 | o
      · simp [recvOk] at hrecv
      · simp [recvOk] at hrecv
      · have hrk : ∃ q, h.2[o]? = some q ∧ q.1 = m_own mid := by
          unfold recvOk at hrecv
          cases hq : h.2[o]? with
          | none => simp [hq] at hrecv
          | some q => simp [hq] at hrecv; exact ⟨q, rfl, hrecv⟩
        obtain ⟨⟨kd, sz, rf⟩, hq, hkq⟩ := hrk
        have hkq2 : kd = m_own mid := hkq
        subst hkq2
        obtain ⟨C, T, N, hcl⟩ := cls_at b10
        obtain ⟨c1, c2, c3, c4, c5, c6, c7, c8⟩ := clsF hcl
        have he := wd_at (tc := tc) (ad := ad) hq
        rw [ent_obj (ci := m_own mid) (by omega)] at he
        have hrv := va_recv hK hS.1 hcl he
        have hsel := hts _ (b12 hkd)
        have hinst : (Jvm.Cond.instanceMethod (m_y mid)).before args s = true := hts _ (by rw [if_neg (by omega)] at b11; exact b11)
        exact va_runV (C := C) (As := as.map (cv ad)) (rest := rest.map (cv ad)) (b := ad o) (g := F0 mm pc L (((Sum.inr (Sum.inr o) :: as).reverse ++ rest).map (cv ad))) ⟨hx, hb, hml, hown, hts⟩ hM ⟨callB_mk h0 hm hts rfl rfl hlk hroom, hinst, by rw [c4, ← b1]; exact hsel⟩ ⟨pc_blind, hrv, fun U hU hW => ⟨rfl, hPc U hU hW⟩⟩ rfl (by simp only [List.length_map]; simp only [List.length_cons] at hlen; rw [if_neg (by omega)]; omega) hLs (by simp [cv, List.map_reverse]) hroomW hd hcs
  · -- static
    have hst : (Jvm.Cond.static (m_y mid)).before args s = true := hts _ (by rw [if_pos hkd] at b11; exact b11)
    have hn : (as.map (cv ad)).length = m_np mid - (if m_kd mid = 1 then 0 else 1) := by rw [if_pos hkd, List.length_map]; omega
    by_cases z : nest = 0
    · exact va_runS (As := as.map (cv ad)) (rest := rest.map (cv ad)) (g := F0 mm pc L ((as.reverse ++ rest).map (cv ad))) ⟨hx, hb, hml, hown, hts⟩ hM ⟨callB_mk h0 hm hts rfl rfl (hts _ (x z)) hroom, hst⟩ ⟨pc_blind, fun U hU hW => ⟨rfl, hPc U hU hW⟩⟩ rfl hn hLs (by simp [List.map_reverse]) hroomW hd hcs
    · exact va_runSN (As := as.map (cv ad)) (rest := rest.map (cv ad)) (g := F0 mm pc L ((as.reverse ++ rest).map (cv ad))) ⟨hx, hb, hml, hown, hts⟩ hM ⟨callN_mk h0 hm hts rfl rfl (hnw.1 _ (y z)) hroom, hst, trivial⟩ ⟨pc_blind, fun U hU hW => ⟨rfl, hPc U hU hW⟩⟩ rfl hn hLs (by simp [List.map_reverse]) hroomW hd hcs
  · -- a constructor
    have hinst : (Jvm.Cond.instanceMethod (m_y mid)).before args s = true := hts _ (by rw [if_neg (by omega)] at b11; exact b11)
    cases as with
    | nil => simp at hlen; have := b7 (by omega); omega
    | cons r0 as =>
      rcases r0 with r0 | r0 | o
      · simp [recvOk] at hrecv
      · simp [recvOk] at hrecv
      · have hn : (as.map (cv ad)).length = m_np mid - (if m_kd mid = 1 then 0 else 1) := by simp only [List.length_map]; simp only [List.length_cons] at hlen; rw [if_neg (by omega)]; omega
        have hret : rkT (m_rk mid) = none := by rw [b9 hkd]; rfl
        by_cases z : nest = 0
        · have hcb := callB_mk (rm := { frames := m_fr mid, cells := h'.2.length - h.2.length, slots := sl h'.2 - sl h.2, locals := m_lo mid }) h0 hm hts rfl rfl (hts _ (x z)) hroom
          rw [hret] at hcb
          exact va_runI (As := as.map (cv ad)) (rest := rest.map (cv ad)) (b := ad o) (g := F0 mm pc L (((Sum.inr (Sum.inr o) :: as).reverse ++ rest).map (cv ad))) ⟨hx, hb, hml, hown, hts⟩ hM ⟨hcb, b5 hkd, hinst⟩ ⟨pc_blind, fun U hU hW => ⟨rfl, hPc U hU hW⟩⟩ rfl hn hLs (by simp [cv, List.map_reverse]) hroomW hd hcs
        · have hcb := callN_mk (rm := { frames := m_fr mid, cells := h'.2.length - h.2.length, slots := sl h'.2 - sl h.2, locals := m_lo mid }) h0 hm hts rfl rfl (hnw.1 _ (y z)) hroom
          rw [hret] at hcb
          exact va_runIN (As := as.map (cv ad)) (rest := rest.map (cv ad)) (b := ad o) (g := F0 mm pc L (((Sum.inr (Sum.inr o) :: as).reverse ++ rest).map (cv ad))) ⟨hx, hb, hml, hown, hts⟩ hM ⟨hcb, b5 hkd, hinst⟩ ⟨pc_blind, fun U hU hW => ⟨rfl, hPc U hU hW⟩⟩ rfl hn hLs (by simp [cv, List.map_reverse]) hroomW hd hcs
