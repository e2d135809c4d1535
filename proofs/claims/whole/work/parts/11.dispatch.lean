/-! the rest of one step: the JDK's few, all instructions together; what a run leaves as it is -/
def okPS (f : PF) : Prop := ∀ {a : Nat} {b : Int} {tb : List (Int × Nat)} {np pc' : Nat} {ls st ls' st' : List AV} {h h' : AH}, f a b tb np ls st h = some (pc', ls', st', h') → h.2.length ≤ 1000 → h'.2.length ≤ 1000 ∧ ∀ o k, 1000 ≤ o → h'.1 o k = h.1 o k
theorem lt_of_get {S : List AO} {o : Nat} {q : AO} (h : S[o]? = some q) : o < S.length := (List.getElem?_eq_some_iff.mp h).1
theorem ps_p0 : okPS p0 := by
  intro a b tb np pc' ls st ls' st' h h' e hl
  unfold p0 at e
  (try dsimp only at e)
  (repeat' split at e)
  all_goals first
    | (cases e; done)
    | (cases e; exact ⟨hl, fun _ _ _ => rfl⟩)
theorem ps_p1 : okPS p1 := by
  intro a b tb np pc' ls st ls' st' h h' e hl
  unfold p1 at e
  (try dsimp only at e)
  (repeat' split at e)
  all_goals first
    | (cases e; done)
    | (cases e; exact ⟨hl, fun _ _ _ => rfl⟩)
theorem ps_p2 : okPS p2 := by
  intro a b tb np pc' ls st ls' st' h h' e hl
  unfold p2 at e
  (try dsimp only at e)
  (repeat' split at e)
  all_goals first
    | (cases e; done)
    | (cases e; exact ⟨hl, fun _ _ _ => rfl⟩)
theorem ps_p3 : okPS p3 := by
  intro a b tb np pc' ls st ls' st' h h' e hl
  unfold p3 at e
  (try dsimp only at e)
  (repeat' split at e)
  all_goals first
    | (cases e; done)
    | (cases e; exact ⟨hl, fun _ _ _ => rfl⟩)
theorem ps_p4 : okPS p4 := by
  intro a b tb np pc' ls st ls' st' h h' e hl
  unfold p4 at e
  (try dsimp only at e)
  (repeat' split at e)
  all_goals first
    | (cases e; done)
    | (cases e; exact ⟨hl, fun _ _ _ => rfl⟩)
theorem ps_p5 : okPS p5 := by
  intro a b tb np pc' ls st ls' st' h h' e hl
  unfold p5 at e
  (try dsimp only at e)
  (repeat' split at e)
  all_goals first
    | (cases e; done)
    | (cases e; exact ⟨hl, fun _ _ _ => rfl⟩)
theorem ps_p6 : okPS p6 := by
  intro a b tb np pc' ls st ls' st' h h' e hl
  unfold p6 at e
  (try dsimp only at e)
  (repeat' split at e)
  all_goals first
    | (cases e; done)
    | (cases e; exact ⟨hl, fun _ _ _ => rfl⟩)
theorem ps_p7 : okPS p7 := by
  intro a b tb np pc' ls st ls' st' h h' e hl
  unfold p7 at e
  (try dsimp only at e)
  (repeat' split at e)
  all_goals first
    | (cases e; done)
    | (cases e; exact ⟨hl, fun _ _ _ => rfl⟩)
theorem ps_p8 : okPS p8 := by
  intro a b tb np pc' ls st ls' st' h h' e hl
  unfold p8 at e
  (try dsimp only at e)
  (repeat' split at e)
  all_goals first
    | (cases e; done)
    | (cases e; exact ⟨hl, fun _ _ _ => rfl⟩)
theorem ps_p9 : okPS p9 := by
  intro a b tb np pc' ls st ls' st' h h' e hl
  unfold p9 at e
  (try dsimp only at e)
  (repeat' split at e)
  all_goals first
    | (cases e; done)
    | (cases e; exact ⟨hl, fun o k ho => if_neg (fun y => by have := lt_of_get (by assumption); omega)⟩)
    | (cases e; (rename_i hq _; have := lt_of_get hq; exact ⟨hl, fun o k ho => if_neg (fun y => by omega)⟩))
theorem ps_p10 : okPS p10 := by
  intro a b tb np pc' ls st ls' st' h h' e hl
  unfold p10 at e
  (try dsimp only at e)
  (repeat' split at e)
  all_goals first
    | (cases e; done)
    | (cases e; exact ⟨by simpa using hl, fun _ _ _ => rfl⟩)
theorem ps_p11 : okPS p11 := by
  intro a b tb np pc' ls st ls' st' h h' e hl
  unfold p11 at e
  (try dsimp only at e)
  (repeat' split at e)
  all_goals first
    | (cases e; done)
    | (cases e; exact ⟨hl, fun _ _ _ => rfl⟩)
theorem ps_p12 : okPS p12 := by
  intro a b tb np pc' ls st ls' st' h h' e hl
  unfold p12 at e
  (try dsimp only at e)
  (repeat' split at e)
  all_goals first
    | (cases e; done)
    | (cases e; exact ⟨hl, fun _ _ _ => rfl⟩)
theorem ps_p13 : okPS p13 := by
  intro a b tb np pc' ls st ls' st' h h' e hl
  unfold p13 at e
  (try dsimp only at e)
  (repeat' split at e)
  all_goals first
    | (cases e; done)
    | (cases e; exact ⟨hl, fun o k ho => if_neg (fun y => by have := lt_of_get (by assumption); omega)⟩)
    | (cases e; (rename_i hq _; have := lt_of_get hq; exact ⟨hl, fun o k ho => if_neg (fun y => by omega)⟩))
theorem ps_p14 : okPS p14 := by
  intro a b tb np pc' ls st ls' st' h h' e hl
  unfold p14 at e
  (try dsimp only at e)
  (repeat' split at e)
  all_goals first
    | (cases e; done)
    | (cases e; exact ⟨by simpa using hl, fun _ _ _ => rfl⟩)
theorem ps_p15 : okPS p15 := by
  intro a b tb np pc' ls st ls' st' h h' e hl
  unfold p15 at e
  (try dsimp only at e)
  (repeat' split at e)
  all_goals first
    | (cases e; done)
    | (cases e; exact ⟨hl, fun _ _ _ => rfl⟩)
theorem ps_p16 : okPS p16 := by
  intro a b tb np pc' ls st ls' st' h h' e hl
  unfold p16 at e
  (try dsimp only at e)
  (repeat' split at e)
  all_goals first
    | (cases e; done)
    | (cases e; exact ⟨hl, fun _ _ _ => rfl⟩)
theorem ps_p17 : okPS p17 := by
  intro a b tb np pc' ls st ls' st' h h' e hl
  unfold p17 at e
  (try dsimp only at e)
  (repeat' split at e)
  all_goals first
    | (cases e; done)
    | (cases e; exact ⟨hl, fun _ _ _ => rfl⟩)
theorem ps_p18 : okPS p18 := by
  intro a b tb np pc' ls st ls' st' h h' e hl
  unfold p18 at e
  (try dsimp only at e)
  (repeat' split at e)
  all_goals first
    | (cases e; done)
    | (cases e; exact ⟨hl, fun _ _ _ => rfl⟩)
theorem ps_p19 : okPS p19 := by
  intro a b tb np pc' ls st ls' st' h h' e hl
  unfold p19 at e
  (try dsimp only at e)
  (repeat' split at e)
  all_goals first
    | (cases e; done)
    | (cases e; exact ⟨hl, fun _ _ _ => rfl⟩)
theorem ps_p20 : okPS p20 := by
  intro a b tb np pc' ls st ls' st' h h' e hl
  unfold p20 at e
  (try dsimp only at e)
  (repeat' split at e)
  all_goals first
    | (cases e; done)
    | (cases e; exact ⟨hl, fun _ _ _ => rfl⟩)
theorem ps_p21 : okPS p21 := by
  intro a b tb np pc' ls st ls' st' h h' e hl
  unfold p21 at e
  (try dsimp only at e)
  (repeat' split at e)
  all_goals first
    | (cases e; done)
    | (cases e; exact ⟨hl, fun _ _ _ => rfl⟩)
theorem ps_p22 : okPS p22 := by
  intro a b tb np pc' ls st ls' st' h h' e hl
  unfold p22 at e
  (try dsimp only at e)
  (repeat' split at e)
  all_goals first
    | (cases e; done)
    | (cases e; exact ⟨hl, fun _ _ _ => rfl⟩)
theorem ps_p23 : okPS p23 := by
  intro a b tb np pc' ls st ls' st' h h' e hl
  unfold p23 at e
  (try dsimp only at e)
  (repeat' split at e)
  all_goals first
    | (cases e; done)
    | (cases e; exact ⟨hl, fun _ _ _ => rfl⟩)
theorem ps_p24 : okPS p24 := by
  intro a b tb np pc' ls st ls' st' h h' e hl
  unfold p24 at e
  (try dsimp only at e)
  (repeat' split at e)
  all_goals first
    | (cases e; done)
    | (cases e; exact ⟨hl, fun _ _ _ => rfl⟩)
theorem ps_p25 : okPS p25 := by
  intro a b tb np pc' ls st ls' st' h h' e hl
  unfold p25 at e
  (try dsimp only at e)
  (repeat' split at e)
  all_goals first
    | (cases e; done)
    | (cases e; exact ⟨hl, fun _ _ _ => rfl⟩)
theorem ps_p26 : okPS p26 := by
  intro a b tb np pc' ls st ls' st' h h' e hl
  unfold p26 at e
  (try dsimp only at e)
  (repeat' split at e)
  all_goals first
    | (cases e; done)
    | (cases e; exact ⟨hl, fun _ _ _ => rfl⟩)
theorem ps_p27 : okPS p27 := by
  intro a b tb np pc' ls st ls' st' h h' e hl
  unfold p27 at e
  (try dsimp only at e)
  (repeat' split at e)
  all_goals first
    | (cases e; done)
    | (cases e; exact ⟨by simp; omega, fun o k ho => clr_old (Or.inr ho) k⟩)
theorem ps_p28 : okPS p28 := by
  intro a b tb np pc' ls st ls' st' h h' e hl
  unfold p28 at e
  (try dsimp only at e)
  (repeat' split at e)
  all_goals first
    | (cases e; done)
    | (cases e; exact ⟨by simp; omega, fun o k ho => clr_old (Or.inr ho) k⟩)
theorem ps_p29 : okPS p29 := by
  intro a b tb np pc' ls st ls' st' h h' e hl
  unfold p29 at e
  (try dsimp only at e)
  (repeat' split at e)
  all_goals first
    | (cases e; done)
    | (cases e; exact ⟨by simp; omega, fun o k ho => clr_old (Or.inr ho) k⟩)
theorem ps_p30 : okPS p30 := by
  intro a b tb np pc' ls st ls' st' h h' e hl
  unfold p30 at e
  (try dsimp only at e)
  (repeat' split at e)
  all_goals first
    | (cases e; done)
    | (cases e; exact ⟨by simp; omega, fun o k ho => clr_old (Or.inr ho) k⟩)
theorem ps_p31 : okPS p31 := by
  intro a b tb np pc' ls st ls' st' h h' e hl
  unfold p31 at e
  (try dsimp only at e)
  (repeat' split at e)
  all_goals first
    | (cases e; done)
    | (cases e; exact ⟨hl, fun _ _ _ => rfl⟩)
theorem ps_p32 : okPS p32 := by
  intro a b tb np pc' ls st ls' st' h h' e hl
  unfold p32 at e
  (try dsimp only at e)
  (repeat' split at e)
  all_goals first
    | (cases e; done)
    | (cases e; exact ⟨hl, fun _ _ _ => rfl⟩)
theorem ps_p33 : okPS p33 := by
  intro a b tb np pc' ls st ls' st' h h' e hl
  unfold p33 at e
  (try dsimp only at e)
  (repeat' split at e)
  all_goals first
    | (cases e; done)
    | (cases e; exact ⟨hl, fun _ _ _ => rfl⟩)
theorem ps_p34 : okPS p34 := by
  intro a b tb np pc' ls st ls' st' h h' e hl
  unfold p34 at e
  (try dsimp only at e)
  (repeat' split at e)
  all_goals first
    | (cases e; done)
    | (cases e; (rename_i hq _; have := lt_of_get hq; exact ⟨hl, fun o k ho => if_neg (fun y => by omega)⟩))
theorem ps_p35 : okPS p35 := by
  intro a b tb np pc' ls st ls' st' h h' e hl
  unfold p35 at e
  (try dsimp only at e)
  (repeat' split at e)
  all_goals first
    | (cases e; done)
    | (cases e; exact ⟨hl, fun _ _ _ => rfl⟩)
theorem ps_p36 : okPS p36 := by
  intro a b tb np pc' ls st ls' st' h h' e hl
  unfold p36 at e
  (try dsimp only at e)
  (repeat' split at e)
  all_goals first
    | (cases e; done)
    | (cases e; exact ⟨hl, fun _ _ _ => rfl⟩)
theorem ps_p37 : okPS p37 := by
  intro a b tb np pc' ls st ls' st' h h' e hl
  unfold p37 at e
  (try dsimp only at e)
  (repeat' split at e)
  all_goals first
    | (cases e; done)
    | (cases e; exact ⟨hl, fun _ _ _ => rfl⟩)
theorem pfs_ps : ∀ f ∈ pfs, okPS f := by
  unfold pfs
  simp only [List.forall_mem_cons]
  exact ⟨ps_p0, ps_p1, ps_p2, ps_p3, ps_p4, ps_p5, ps_p6, ps_p7, ps_p8, ps_p9, ps_p10, ps_p11, ps_p12, ps_p13, ps_p14, ps_p15, ps_p16, ps_p17, ps_p18, ps_p19, ps_p20, ps_p21, ps_p22, ps_p23, ps_p24, ps_p25, ps_p26, ps_p27, ps_p28, ps_p29, ps_p30, ps_p31, ps_p32, ps_p33, ps_p34, ps_p35, ps_p36, ps_p37, fun f h => absurd h List.not_mem_nil⟩
theorem pstep_ps {op a : Nat} {b : Int} {tb : List (Int × Nat)} {np pc' : Nat} {ls st ls' st' : List AV} {h h' : AH} (e : pstep op a b tb np ls st h = some (pc', ls', st', h')) (hl : h.2.length ≤ 1000) : h'.2.length ≤ 1000 ∧ ∀ o k, 1000 ≤ o → h'.1 o k = h.1 o k := by
  unfold pstep at e
  split at e
  · rename_i f hf
    exact pfs_ps f (List.mem_of_getElem? hf) e hl
  · cases e
theorem arun_ps : ∀ (f m pc : Nat) (ls st : List AV) (h : AH) (v : Option AV) (h' : AH), arun f m pc ls st h = some (v, h') → h.2.length ≤ 1000 → h'.2.length ≤ 1000 ∧ ∀ o k, 1000 ≤ o → h'.1 o k = h.1 o k := by
  intro f
  induction f with
  | zero => intro m pc ls st h v h' e; cases e
  | succ f ih =>
    intro m pc ls st h v h' e hl
    unfold arun at e
    split at e
    · cases e
    · split at e
      · split at e
        · cases e
        · rename_i hp
          obtain ⟨a1, a2⟩ := pstep_ps hp hl
          obtain ⟨b1, b2⟩ := ih _ _ _ _ _ _ _ e a1
          exact ⟨b1, fun o k ho => (b2 o k ho).trans (a2 o k ho)⟩
      · split at e
        · split at e
          · cases e; exact ⟨hl, fun _ _ _ => rfl⟩
          · cases e
        · split at e
          · split at e
            · split at e
              · cases e; exact ⟨hl, fun _ _ _ => rfl⟩
              · cases e
            · cases e
          · split at e
            · split at e
              · cases e; exact ⟨hl, fun _ _ _ => rfl⟩
              · cases e
            · split at e
              · split at e
                · split at e
                  · cases e
                  · rename_i hc
                    obtain ⟨a1, a2⟩ := ih _ _ _ _ _ _ _ hc hl
                    split at e
                    · obtain ⟨b1, b2⟩ := ih _ _ _ _ _ _ _ e a1
                      exact ⟨b1, fun o k ho => (b2 o k ho).trans (a2 o k ho)⟩
                    · cases e
                · cases e
              · cases e
section STEP
variable {X : CT} {ad : Nat → Nat} {cells slots pc len op a pc' : Nat} {b : Int} {tb : List (Int × Nat)} {ls st ls' st' : List AV} {h h1 : AH}
theorem s_static {ix : Nat} (hX : CX X) (hr : 1 ≤ m_fr (xm X) ∧ 40 ≤ m_lo (xm X)) (hd : decode (m_cd (xm X)) pc = .ok (.invokestatic ix, len)) (hrs : rs (xm X) pc len (.invokestatic ix) = some (op, a, b, tb)) (hp : pstep op a b tb (pc + len) ls st h = some (pc', ls', st', h1)) (hst : okL st) (hc : cells + h1.2.length ≤ (xR X).cells + h.2.length) (hs : slots + sl h1.2 ≤ (xR X).slots + sl h.2) (hop : op < 40) (K : KK X ad cells slots pc' ls' st' h h1) : TT X ad cells slots pc ls st h := by
  unfold rs at hrs
  dsimp only at hrs
  split at hrs
  case isFalse => cases hrs
  rename_i hl
  subst hl
  split at hrs
  · unfold rcall at hrs
    split at hrs
    · cases hrs; omega
    · cases hrs
  · split at hrs
    case h_2 => cases hrs
    rename_i q hf
    obtain ⟨j, wi⟩ := q
    unfold rjdk at hrs
    dsimp only at hrs
    split at hrs
    · rename_i hj
      subst hj
      cases hrs
      have hp2 := ps_at (f := p31) rfl hp
      unfold p31 at hp2
      split at hp2
      case h_2 => cases hp2
      split at hp2
      case isFalse => cases hp2
      rename_i hg
      cases hp2
      exact am_abs hX hd hf (okv_i hst) hg.2 hr (by omega) (by omega) (K.same rfl rfl)
    · split at hrs
      · rename_i hj
        subst hj
        cases hrs
        have hp2 := ps_at (f := p32) rfl hp
        unfold p32 at hp2
        split at hp2
        case h_2 => cases hp2
        split at hp2
        case isFalse => cases hp2
        rename_i hg
        cases hp2
        exact am_max hX hd hf (okv_i (okv_t hst)) (okv_i hst) hg hr (by omega) (by omega) (K.same rfl rfl)
      · split at hrs
        · rename_i hj
          subst hj
          cases hrs
          have hp2 := ps_at (f := p33) rfl hp
          unfold p33 at hp2
          split at hp2
          case h_2 => cases hp2
          split at hp2
          case isFalse => cases hp2
          rename_i hg
          cases hp2
          exact am_min hX hd hf (okv_i (okv_t hst)) (okv_i hst) hg hr (by omega) (by omega) (K.same rfl rfl)
        · split at hrs
          · rename_i hj
            subst hj
            cases hrs
            have hp2 := ps_at (f := p34) rfl hp
            unfold p34 at hp2
            split at hp2
            case h_2 => cases hp2
            split at hp2
            case h_2 => cases hp2
            rename_i kc zc rc0 kd zd rd hqc hqd
            split at hp2
            case isFalse => cases hp2
            rename_i hg
            obtain ⟨rfl, rfl, g1, g2, g3, g4, g5, g6⟩ := hg
            cases hp2
            exact am_copy hX hd hf hqc hqd (okv_i (okv_t (okv_t (okv_t hst)))) (okv_i (okv_t hst)) (okv_i hst) g1 g2 g3 g4 g5 g6 hr (K.same rfl rfl)
          · cases hrs
theorem s_special {ix : Nat} (hX : CX X) (hr : 1 ≤ m_fr (xm X) ∧ 40 ≤ m_lo (xm X)) (hd : decode (m_cd (xm X)) pc = .ok (.invokespecial ix, len)) (hrs : rs (xm X) pc len (.invokespecial ix) = some (op, a, b, tb)) (hp : pstep op a b tb (pc + len) ls st h = some (pc', ls', st', h1)) (hst : okL st) (hc : cells + h1.2.length ≤ (xR X).cells + h.2.length) (hs : slots + sl h1.2 ≤ (xR X).slots + sl h.2) (hop : op < 40) (K : KK X ad cells slots pc' ls' st' h h1) : TT X ad cells slots pc ls st h := by
  unfold rs at hrs
  dsimp only at hrs
  split at hrs
  case isFalse => cases hrs
  rename_i hl
  subst hl
  split at hrs
  · unfold rcall at hrs
    split at hrs
    · cases hrs; omega
    · cases hrs
  · split at hrs
    case h_2 => cases hrs
    rename_i q hf
    obtain ⟨j, wi⟩ := q
    split at hrs
    case isFalse => cases hrs
    rename_i hj
    have hj2 : j = 0 := hj
    subst hj2
    cases hrs
    have hp2 := ps_at (f := p35) rfl hp
    unfold p35 at hp2
    split at hp2
    case h_2 => cases hp2
    split at hp2
    case isFalse => cases hp2
    rename_i hg
    cases hp2
    exact am_obj hX hd hf hg hr (K.same rfl rfl)
theorem am_step (hX : CX X) (hr : 1 ≤ m_fr (xm X) ∧ 40 ≤ m_lo (xm X)) (hrc : rc (xm X) pc = some (len, op, a, b, tb)) (hop : op < 40) (hp : pstep op a b tb (pc + len) ls st h = some (pc', ls', st', h1)) (hst : okL st) (hc : cells + h1.2.length ≤ (xR X).cells + h.2.length) (hs : slots + sl h1.2 ≤ (xR X).slots + sl h.2) (K : KK X ad cells slots pc' ls' st' h h1) : TT X ad cells slots pc ls st h := by
  unfold rc at hrc
  split at hrc
  case h_2 => cases hrc
  rename_i i len' hd
  split at hrc
  case h_2 => cases hrc
  rename_i r hrs
  cases hrc
  have hrs0 := hrs
  unfold rs at hrs
  split at hrs
  · exact s_iconst hX hr hd hrs0 hp hst hc hs K
  · exact s_bipush hX hr hd hrs0 hp hst hc hs K
  · exact s_sipush hX hr hd hrs0 hp hst hc hs K
  · exact s_ldc hX hr hd hrs0 hp hst hc hs K
  · exact s_ldcw hX hr hd hrs0 hp hst hc hs K
  · exact s_ldc2 hX hr hd hrs0 hp hst hc hs K
  · exact s_iload_n hX hr hd hrs0 hp hst hc hs K
  · exact s_iload hX hr hd hrs0 hp hst hc hs K
  · exact s_aload_n hX hr hd hrs0 hp hst hc hs K
  · exact s_aload hX hr hd hrs0 hp hst hc hs K
  · exact s_istore_n hX hr hd hrs0 hp hst hc hs K
  · exact s_istore hX hr hd hrs0 hp hst hc hs K
  · exact s_astore_n hX hr hd hrs0 hp hst hc hs K
  · exact s_astore hX hr hd hrs0 hp hst hc hs K
  · exact s_iinc hX hr hd hrs0 hp hst hc hs K
  · exact s_getfield hX hr hd hrs0 hp hst hc hs K
  · exact s_putfield hX hr hd hrs0 hp hst hc hs K
  · exact s_iaload hX hr hd hrs0 hp hst hc hs K
  · exact s_baload hX hr hd hrs0 hp hst hc hs K
  · exact s_aaload hX hr hd hrs0 hp hst hc hs K
  · exact s_iastore hX hr hd hrs0 hp hst hc hs K
  · exact s_bastore hX hr hd hrs0 hp hst hc hs K
  · exact s_aastore hX hr hd hrs0 hp hst hc hs K
  · exact s_arraylength hX hr hd hrs0 hp hst hc hs K
  · exact s_iadd hX hr hd hrs0 hp hst hc hs K
  · exact s_isub hX hr hd hrs0 hp hst hc hs K
  · exact s_imul hX hr hd hrs0 hp hst hc hs K
  · exact s_idiv hX hr hd hrs0 hp hst hc hs K
  · exact s_irem hX hr hd hrs0 hp hst hc hs K
  · exact s_ishl hX hr hd hrs0 hp hst hc hs K
  · exact s_ishr hX hr hd hrs0 hp hst hc hs K
  · exact s_iand hX hr hd hrs0 hp hst hc hs K
  · exact s_ior hX hr hd hrs0 hp hst hc hs K
  · exact s_ixor hX hr hd hrs0 hp hst hc hs K
  · exact s_i2b hX hr hd hrs0 hp hst hc hs K
  · exact s_i2l hX hr hd hrs0 hp hst hc hs K
  · exact s_lcmp hX hr hd hrs0 hp hst hc hs K
  · exact s_ifCond hX hr hd hrs0 hp hst hc hs K
  · exact s_icmp hX hr hd hrs0 hp hst hc hs K
  · exact s_goto hX hr hd hrs0 hp hst hc hs K
  · exact s_table hX hr hd hrs0 hp hst hc hs K
  · exact s_lookup hX hr hd hrs0 hp hst hc hs K
  · exact s_dup hX hr hd hrs0 hp hst hc hs K
  · exact s_dup2 hX hr hd hrs0 hp hst hc hs K
  · exact s_pop hX hr hd hrs0 hp hst hc hs K
  · exact s_new hX hr hd hrs0 hp hst hc hs K
  · exact s_newarr100 hX hr hd hrs0 hp hst hc hs K
  · exact s_newarr101 hX hr hd hrs0 hp hst hc hs K
  · exact s_anew hX hr hd hrs0 hp hst hc hs K
  · exact s_mna hX hr hd hrs0 hp hst hc hs K
  · split at hrs
    · cases hrs; omega
    · cases hrs
  · split at hrs
    · cases hrs; omega
    · cases hrs
  · split at hrs
    · cases hrs; omega
    · cases hrs
  · split at hrs
    · split at hrs
      · split at hrs
        · unfold rcall at hrs
          split at hrs
          · cases hrs; omega
          · cases hrs
        · cases hrs
      · cases hrs
    · cases hrs
  · exact s_static hX hr hd hrs0 hp hst hc hs hop K
  · exact s_special hX hr hd hrs0 hp hst hc hs hop K
  · cases hrs
end STEP
