/-! level 2: the law's own start -/
theorem pfs_pa : ∀ f ∈ [p0, p1, p2, p3, p4, p5, p6, p7, p8, p9, p10, p11, p12, p13, p14, p15, p16, p17, p18, p19, p20, p21, p22, p23, p24, p25, p26, p27, p28, p29, p30, p31, p32, p33, p34, p35], okPA f := by
  simp only [List.forall_mem_cons]
  exact ⟨pa_p0, pa_p1, pa_p2, pa_p3, pa_p4, pa_p5, pa_p6, pa_p7, pa_p8, pa_p9, pa_p10, pa_p11, pa_p12, pa_p13, pa_p14, pa_p15, pa_p16, pa_p17, pa_p18, pa_p19, pa_p20, pa_p21, pa_p22, pa_p23, pa_p24, pa_p25, pa_p26, pa_p27, pa_p28, pa_p29, pa_p30, pa_p31, pa_p32, pa_p33, pa_p34, pa_p35, fun f h => absurd h List.not_mem_nil⟩
theorem pstep_pa {op a : Nat} {b : Int} {tb : List (Int × Nat)} {np pc' : Nat} {ls st ls' st' : List AV} {I I1 I' : IM} {S S1 : List AO} (ho : op < 36) (e : pstep op a b tb np ls st (I, S) = some (pc', ls', st', (I1, S1))) (hl : S.length ≤ 1000) (hA : agI I I') : ∃ J, agI I1 J ∧ pstep op a b tb np ls st (I', S) = some (pc', ls', st', (J, S1)) := by
  unfold pstep at e ⊢
  split at e
  · rename_i f hf
    have h36 := List.getElem?_take_of_lt ho (l := pfs)
    rw [hf] at h36
    have hm : f ∈ pfs.take 36 := List.mem_of_getElem? h36
    exact pfs_pa f hm e hl hA
  · cases e
def arunN : Nat → Nat → Nat → List AV → List AV → AH → Option (Option AV × AH)
  | 0, _, _, _, _, _ => none
  | f + 1, m, pc, ls, st, h => match rc m pc with
    | none => none
    | some (len, op, a, b, tb) =>
      if op < 36 then (match pstep op a b tb (pc + len) ls st h with
        | none => none
        | some (pc', ls', st', h') => arunN f m pc' ls' st' h')
      else if op = 40 then (match st with | [] => some (none, h) | _ => none)
      else if op = 43 then
        (if b.toNat ≤ st.length ∧ wcat (st.take b.toNat) = b.toNat ∧ wcat (st.drop b.toNat) ≤ 8 ∧ recvOk (tk tb) a (st.take b.toNat).reverse h = true then
          (match arunN f a 0 (entryL a (st.take b.toNat).reverse) [] h with
          | none => none
          | some (v, h') => (if h'.2.length = h.2.length ∨ (okRefs h.2.length ls = true ∧ okRefs h.2.length (st.drop b.toNat) = true) then arunN f m (pc + len) ls (v.toList ++ st.drop b.toNat) h' else none))
        else none)
      else none
theorem arunN_ag : ∀ (f m pc : Nat) (ls st : List AV) (I I' : IM) (S : List AO) (v : Option AV) (I1 : IM) (S1 : List AO), arunN f m pc ls st (I, S) = some (v, (I1, S1)) → S.length ≤ 1000 → agI I I' → ∃ J, agI I1 J ∧ arun f m pc ls st (I', S) = some (v, (J, S1)) := by
  intro f
  induction f with
  | zero => intro m pc ls st I I' S v I1 S1 e; cases e
  | succ f ih =>
    intro m pc ls st I I' S v I1 S1 e hl hA
    rw [arun_succ]
    unfold AS
    unfold arunN at e
    split at e
    · cases e
    rename_i len op a b tb hrc
    rw [hrc]
    dsimp only
    split at e
    · rename_i ho
      rw [if_pos (by omega)]
      split at e
      · cases e
      rename_i pc' ls' st' h' hp
      obtain ⟨I2, S2⟩ := h'
      obtain ⟨J2, a2, p2⟩ := pstep_pa ho hp hl hA
      rw [p2]
      exact ih _ _ _ _ _ _ _ _ _ _ e (pstep_ps hp hl).1 a2
    · rename_i ho
      split at e
      · rename_i h40
        subst h40
        rw [if_neg (by decide), if_pos rfl]
        split at e
        · cases e
          exact ⟨I', hA, rfl⟩
        · cases e
      · rename_i h40
        split at e
        · rename_i h43
          subst h43
          rw [if_neg (by decide), if_neg (by decide), if_neg (by decide), if_neg (by decide), if_pos rfl]
          split at e
          · rename_i hc
            have hc' : b.toNat ≤ st.length ∧ wcat (st.take b.toNat) = b.toNat ∧ wcat (st.drop b.toNat) ≤ 8 ∧ recvOk (tk tb) a (st.take b.toNat).reverse (I', S) = true := hc
            rw [if_pos hc']
            split at e
            · cases e
            · rename_i v' h' hcall
              obtain ⟨I2, S2⟩ := h'
              obtain ⟨J2, a2, p2⟩ := ih _ _ _ _ _ _ _ _ _ _ hcall hl hA
              rw [p2]
              dsimp only
              split at e
              · rename_i h5
                rw [if_pos h5]
                exact ih _ _ _ _ _ _ _ _ _ _ e (arun_ps _ _ _ _ _ _ _ _ p2 hl).1 a2
              · cases e
          · cases e
        · cases e
/-- the law as far as its loop -/
def arunU (m : Nat) : Nat → Nat → List AV → List AV → AH → Option (List AV × List AV × AH)
  | 0, _, _, _, _ => none
  | f + 1, pc, ls, st, h => if pc = 18 then some (ls, st, h) else match rc m pc with
    | none => none
    | some (len, op, a, b, tb) =>
      if op < 36 then (match pstep op a b tb (pc + len) ls st h with
        | none => none
        | some (pc', ls', st', h') => arunU m f pc' ls' st' h')
      else if op = 43 then
        (if b.toNat ≤ st.length ∧ wcat (st.take b.toNat) = b.toNat ∧ wcat (st.drop b.toNat) ≤ 8 ∧ recvOk (tk tb) a (st.take b.toNat).reverse h = true then
          (match arunN f a 0 (entryL a (st.take b.toNat).reverse) [] h with
          | none => none
          | some (v, h') => (if h'.2.length = h.2.length ∨ (okRefs h.2.length ls = true ∧ okRefs h.2.length (st.drop b.toNat) = true) then arunU m f (pc + len) ls (v.toList ++ st.drop b.toNat) h' else none))
        else none)
      else none
theorem arunU_ag {m : Nat} : ∀ (f pc : Nat) (ls st : List AV) (I I' : IM) (S : List AO) (ls1 st1 : List AV) (I1 : IM) (S1 : List AO), arunU m f pc ls st (I, S) = some (ls1, st1, (I1, S1)) → S.length ≤ 1000 → agI I I' → ∃ J, agI I1 J ∧ (∀ o k, 1000 ≤ o → J o k = I' o k) ∧ ∀ g r, arun g m 18 ls1 st1 (J, S1) = some r → ∃ g', arun g' m pc ls st (I', S) = some r := by
  intro f
  induction f with
  | zero => intro pc ls st I I' S ls1 st1 I1 S1 e; cases e
  | succ f ih =>
    intro pc ls st I I' S ls1 st1 I1 S1 e hl hA
    unfold arunU at e
    split at e
    · rename_i h18
      subst h18
      cases e
      exact ⟨I', hA, fun _ _ _ => rfl, fun g r h => ⟨g, h⟩⟩
    split at e
    · cases e
    rename_i len op a b tb hrc
    split at e
    · rename_i ho
      split at e
      · cases e
      rename_i pc' ls' st' h' hp
      obtain ⟨I2, S2⟩ := h'
      obtain ⟨J2, a2, p2⟩ := pstep_pa ho hp hl hA
      obtain ⟨J, b1, b2, b3⟩ := ih _ _ _ _ _ _ _ _ _ _ e (pstep_ps hp hl).1 a2
      refine ⟨J, b1, fun o k hk => (b2 o k hk).trans ((pstep_ps p2 hl).2 o k hk), fun g r hr => ?_⟩
      obtain ⟨g', hg⟩ := b3 g r hr
      refine ⟨g' + 1, ?_⟩
      rw [arun_succ]
      unfold AS
      rw [hrc]
      dsimp only
      rw [if_pos (by omega), p2]
      exact hg
    · rename_i ho
      split at e
      · rename_i h43
        subst h43
        split at e
        · rename_i hc
          split at e
          · cases e
          · rename_i v' h' hcall
            obtain ⟨I2, S2⟩ := h'
            obtain ⟨J2, a2, p2⟩ := arunN_ag _ _ _ _ _ _ _ _ _ _ _ hcall hl hA
            split at e
            · rename_i h5
              have ps := arun_ps _ _ _ _ _ _ _ _ p2 hl
              obtain ⟨J, b1, b2, b3⟩ := ih _ _ _ _ _ _ _ _ _ _ e ps.1 a2
              refine ⟨J, b1, fun o k hk => (b2 o k hk).trans (ps.2 o k hk), fun g r hr => ?_⟩
              obtain ⟨g', hg⟩ := b3 g r hr
              refine ⟨max f g' + 1, ?_⟩
              rw [arun_succ]
              unfold AS
              rw [hrc]
              dsimp only
              have hc' : b.toNat ≤ st.length ∧ wcat (st.take b.toNat) = b.toNat ∧ wcat (st.drop b.toNat) ≤ 8 ∧ recvOk (tk tb) a (st.take b.toNat).reverse (I', S) = true := hc
              rw [if_neg (by decide), if_neg (by decide), if_neg (by decide), if_neg (by decide), if_pos rfl, if_pos hc', arun_up (Nat.le_max_left f g') p2]
              dsimp only
              rw [if_pos h5]
              exact arun_up (Nat.le_max_right f g') hg
            · cases e
        · cases e
      · cases e
