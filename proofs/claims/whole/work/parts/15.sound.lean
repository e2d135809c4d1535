theorem entryNZ : ∀ m, m_own m = 13 → m = 0 ∨ nM ≤ m := by
  intro m h
  by_cases h0 : m = 0
  · exact Or.inl h0
  · by_cases hm : m < nM
    · have := (okM_parts h0 hm).2.2.2.2.2.2.2.2.2.1
      omega
    · exact Or.inr (by omega)
def calleeOk : Bool := mtb.all (fun q => decide (q.2.1 ≠ 0))
theorem calleeOk_t : calleeOk = true := by decide +kernel
theorem mtb_nz {own ix mid nest wi : Nat} (hf : mtb.lookup (own, ix) = some (mid, nest, wi)) : mid ≠ 0 := by
  have := List.all_eq_true.mp calleeOk_t _ (of_lk hf)
  simpa using this
theorem rc_call {m pc len a : Nat} {b : Int} {tb : List (Int × Nat)} (h : rc m pc = some (len, 43, a, b, tb)) : ∃ (raw : Instr) (ix nest wi : Nat), len = 3 ∧ decode (m_cd m) pc = .ok (raw, 3) ∧ (raw = .invokevirtual ix ∧ tk tb = 0 ∧ nest = 0 ∨ raw = .invokestatic ix ∧ tk tb = 1 ∨ raw = .invokespecial ix ∧ tk tb = 2) ∧ mtb.lookup (m_own m, ix) = some (a, nest, wi) ∧ a < nM ∧ m_kd a = tk tb ∧ m_fr a + 1 ≤ m_fr m ∧ 8 + (m_ml a + 11) + m_lo a ≤ m_lo m ∧ m_np a ≤ m_ml a ∧ b = (m_np a : Int) := by
  unfold rc at h
  split at h
  case h_2 => cases h
  rename_i i len' hd
  split at h
  case h_2 => cases h
  rename_i r hrs
  cases h
  have key : ∀ {k mid : Nat}, rcall m k mid = some (43, a, b, tb) → a = mid ∧ tk tb = k ∧ a < nM ∧ m_kd a = k ∧ m_fr a + 1 ≤ m_fr m ∧ 8 + (m_ml a + 11) + m_lo a ≤ m_lo m ∧ m_np a ≤ m_ml a ∧ b = (m_np a : Int) := by
    intro k mid z
    unfold rcall at z
    split at z
    · rename_i hc
      simp only [Option.some.injEq, Prod.mk.injEq] at z
      obtain ⟨-, rfl, rfl, rfl⟩ := z
      exact ⟨rfl, by simp [tk], hc.1, hc.2.1, hc.2.2.1, hc.2.2.2.1, hc.2.2.2.2, rfl⟩
    · cases z
  unfold rs at hrs
  split at hrs
  · (repeat' split at hrs) <;> cases hrs
  · (repeat' split at hrs) <;> cases hrs
  · (repeat' split at hrs) <;> cases hrs
  · (repeat' split at hrs) <;> cases hrs
  · (repeat' split at hrs) <;> cases hrs
  · (repeat' split at hrs) <;> cases hrs
  · (repeat' split at hrs) <;> cases hrs
  · (repeat' split at hrs) <;> cases hrs
  · (repeat' split at hrs) <;> cases hrs
  · (repeat' split at hrs) <;> cases hrs
  · (repeat' split at hrs) <;> cases hrs
  · (repeat' split at hrs) <;> cases hrs
  · (repeat' split at hrs) <;> cases hrs
  · (repeat' split at hrs) <;> cases hrs
  · (repeat' split at hrs) <;> cases hrs
  · split at hrs
    · split at hrs
      · unfold rget at hrs
        (repeat' split at hrs) <;> cases hrs
      · cases hrs
    · cases hrs
  · split at hrs
    · split at hrs
      · unfold rput at hrs
        (repeat' split at hrs) <;> cases hrs
      · cases hrs
    · cases hrs
  · (repeat' split at hrs) <;> cases hrs
  · (repeat' split at hrs) <;> cases hrs
  · (repeat' split at hrs) <;> cases hrs
  · (repeat' split at hrs) <;> cases hrs
  · (repeat' split at hrs) <;> cases hrs
  · (repeat' split at hrs) <;> cases hrs
  · (repeat' split at hrs) <;> cases hrs
  · (repeat' split at hrs) <;> cases hrs
  · (repeat' split at hrs) <;> cases hrs
  · (repeat' split at hrs) <;> cases hrs
  · (repeat' split at hrs) <;> cases hrs
  · (repeat' split at hrs) <;> cases hrs
  · (repeat' split at hrs) <;> cases hrs
  · (repeat' split at hrs) <;> cases hrs
  · (repeat' split at hrs) <;> cases hrs
  · (repeat' split at hrs) <;> cases hrs
  · (repeat' split at hrs) <;> cases hrs
  · (repeat' split at hrs) <;> cases hrs
  · (repeat' split at hrs) <;> cases hrs
  · (repeat' split at hrs) <;> cases hrs
  · (repeat' split at hrs) <;> cases hrs
  · (repeat' split at hrs) <;> cases hrs
  · (repeat' split at hrs) <;> cases hrs
  · (repeat' split at hrs) <;> cases hrs
  · (repeat' split at hrs) <;> cases hrs
  · (repeat' split at hrs) <;> cases hrs
  · (repeat' split at hrs) <;> cases hrs
  · (repeat' split at hrs) <;> cases hrs
  · (repeat' split at hrs) <;> cases hrs
  · (repeat' split at hrs) <;> cases hrs
  · (repeat' split at hrs) <;> cases hrs
  · (repeat' split at hrs) <;> cases hrs
  · (repeat' split at hrs) <;> cases hrs
  · (repeat' split at hrs) <;> cases hrs
  · (repeat' split at hrs) <;> cases hrs
  · (repeat' split at hrs) <;> cases hrs
  · rename_i ix
    split at hrs
    case isFalse => cases hrs
    rename_i hl
    subst hl
    split at hrs
    case h_2 => cases hrs
    rename_i q hf
    obtain ⟨mid, nest, wi⟩ := q
    split at hrs
    case isFalse => cases hrs
    rename_i hn
    obtain ⟨rfl, k1, k2⟩ := key hrs
    exact ⟨_, ix, nest, wi, rfl, hd, Or.inl ⟨rfl, k1, hn⟩, hf, k2.1, by rw [k2.2.1, k1], k2.2.2⟩
  · rename_i ix
    split at hrs
    case isFalse => cases hrs
    rename_i hl
    subst hl
    split at hrs
    · rename_i q hf
      obtain ⟨mid, nest, wi⟩ := q
      obtain ⟨rfl, k1, k2⟩ := key hrs
      exact ⟨_, ix, nest, wi, rfl, hd, Or.inr (Or.inl ⟨rfl, k1⟩), hf, k2.1, by rw [k2.2.1, k1], k2.2.2⟩
    · split at hrs
      · unfold rjdk at hrs
        (repeat' split at hrs) <;> cases hrs
      · cases hrs
  · rename_i ix
    split at hrs
    case isFalse => cases hrs
    rename_i hl
    subst hl
    split at hrs
    · rename_i q hf
      obtain ⟨mid, nest, wi⟩ := q
      obtain ⟨rfl, k1, k2⟩ := key hrs
      exact ⟨_, ix, nest, wi, rfl, hd, Or.inr (Or.inr ⟨rfl, k1⟩), hf, k2.1, by rw [k2.2.1, k1], k2.2.2⟩
    · split at hrs
      · split at hrs <;> cases hrs
      · cases hrs
  · cases hrs
theorem rc_ret {m pc len op a : Nat} {b : Int} {tb : List (Int × Nat)} (h : rc m pc = some (len, op, a, b, tb)) : 40 ≤ op → op ≤ 42 → ∃ raw : Instr, decode (m_cd m) pc = .ok (raw, 1) ∧ (op = 40 → retOk m raw none) ∧ (op = 41 → ∀ x : Int, (a = 1 ∨ x = 0 ∨ x = 1) → retOk m raw (some (vI x))) ∧ (op = 42 → ∀ x : Int, retOk m raw (some (vL x))) := by
  intro ho1 ho2
  unfold rc at h
  split at h
  case h_2 => cases h
  rename_i i len' hd
  split at h
  case h_2 => cases h
  rename_i r hrs
  cases h
  unfold rs at hrs
  split at hrs
  · (repeat' split at hrs) <;> first | (cases hrs; done) | (cases hrs; omega)
  · (repeat' split at hrs) <;> first | (cases hrs; done) | (cases hrs; omega)
  · (repeat' split at hrs) <;> first | (cases hrs; done) | (cases hrs; omega)
  · (repeat' split at hrs) <;> first | (cases hrs; done) | (cases hrs; omega)
  · (repeat' split at hrs) <;> first | (cases hrs; done) | (cases hrs; omega)
  · (repeat' split at hrs) <;> first | (cases hrs; done) | (cases hrs; omega)
  · (repeat' split at hrs) <;> first | (cases hrs; done) | (cases hrs; omega)
  · (repeat' split at hrs) <;> first | (cases hrs; done) | (cases hrs; omega)
  · (repeat' split at hrs) <;> first | (cases hrs; done) | (cases hrs; omega)
  · (repeat' split at hrs) <;> first | (cases hrs; done) | (cases hrs; omega)
  · (repeat' split at hrs) <;> first | (cases hrs; done) | (cases hrs; omega)
  · (repeat' split at hrs) <;> first | (cases hrs; done) | (cases hrs; omega)
  · (repeat' split at hrs) <;> first | (cases hrs; done) | (cases hrs; omega)
  · (repeat' split at hrs) <;> first | (cases hrs; done) | (cases hrs; omega)
  · (repeat' split at hrs) <;> first | (cases hrs; done) | (cases hrs; omega)
  · split at hrs
    · split at hrs
      · unfold rget at hrs
        (repeat' split at hrs) <;> cases hrs <;> omega
      · cases hrs
    · cases hrs
  · split at hrs
    · split at hrs
      · unfold rput at hrs
        (repeat' split at hrs) <;> cases hrs <;> omega
      · cases hrs
    · cases hrs
  · (repeat' split at hrs) <;> first | (cases hrs; done) | (cases hrs; omega)
  · (repeat' split at hrs) <;> first | (cases hrs; done) | (cases hrs; omega)
  · (repeat' split at hrs) <;> first | (cases hrs; done) | (cases hrs; omega)
  · (repeat' split at hrs) <;> first | (cases hrs; done) | (cases hrs; omega)
  · (repeat' split at hrs) <;> first | (cases hrs; done) | (cases hrs; omega)
  · (repeat' split at hrs) <;> first | (cases hrs; done) | (cases hrs; omega)
  · (repeat' split at hrs) <;> first | (cases hrs; done) | (cases hrs; omega)
  · (repeat' split at hrs) <;> first | (cases hrs; done) | (cases hrs; omega)
  · (repeat' split at hrs) <;> first | (cases hrs; done) | (cases hrs; omega)
  · (repeat' split at hrs) <;> first | (cases hrs; done) | (cases hrs; omega)
  · (repeat' split at hrs) <;> first | (cases hrs; done) | (cases hrs; omega)
  · (repeat' split at hrs) <;> first | (cases hrs; done) | (cases hrs; omega)
  · (repeat' split at hrs) <;> first | (cases hrs; done) | (cases hrs; omega)
  · (repeat' split at hrs) <;> first | (cases hrs; done) | (cases hrs; omega)
  · (repeat' split at hrs) <;> first | (cases hrs; done) | (cases hrs; omega)
  · (repeat' split at hrs) <;> first | (cases hrs; done) | (cases hrs; omega)
  · (repeat' split at hrs) <;> first | (cases hrs; done) | (cases hrs; omega)
  · (repeat' split at hrs) <;> first | (cases hrs; done) | (cases hrs; omega)
  · (repeat' split at hrs) <;> first | (cases hrs; done) | (cases hrs; omega)
  · (repeat' split at hrs) <;> first | (cases hrs; done) | (cases hrs; omega)
  · (repeat' split at hrs) <;> first | (cases hrs; done) | (cases hrs; omega)
  · (repeat' split at hrs) <;> first | (cases hrs; done) | (cases hrs; omega)
  · (repeat' split at hrs) <;> first | (cases hrs; done) | (cases hrs; omega)
  · (repeat' split at hrs) <;> first | (cases hrs; done) | (cases hrs; omega)
  · (repeat' split at hrs) <;> first | (cases hrs; done) | (cases hrs; omega)
  · (repeat' split at hrs) <;> first | (cases hrs; done) | (cases hrs; omega)
  · (repeat' split at hrs) <;> first | (cases hrs; done) | (cases hrs; omega)
  · (repeat' split at hrs) <;> first | (cases hrs; done) | (cases hrs; omega)
  · (repeat' split at hrs) <;> first | (cases hrs; done) | (cases hrs; omega)
  · (repeat' split at hrs) <;> first | (cases hrs; done) | (cases hrs; omega)
  · (repeat' split at hrs) <;> first | (cases hrs; done) | (cases hrs; omega)
  · (repeat' split at hrs) <;> first | (cases hrs; done) | (cases hrs; omega)
  · (repeat' split at hrs) <;> first | (cases hrs; done) | (cases hrs; omega)
  · split at hrs
    case isFalse => cases hrs
    rename_i hl
    obtain ⟨rfl, hk⟩ := hl
    cases hrs
    refine ⟨_, hd, fun z => by omega, fun _ x hx => ⟨rfl, ?_⟩, fun z => by omega⟩
    rcases hk with hk | hk
    · exact Or.inl hk
    · exact Or.inr ⟨hk, hx.resolve_left (by omega)⟩
  · split at hrs
    case isFalse => cases hrs
    rename_i hl
    obtain ⟨rfl, hk⟩ := hl
    cases hrs
    exact ⟨_, hd, fun z => by omega, fun z => by omega, fun _ x => ⟨rfl, hk⟩⟩
  · split at hrs
    case isFalse => cases hrs
    rename_i hl
    obtain ⟨rfl, hk⟩ := hl
    cases hrs
    exact ⟨_, hd, fun _ => ⟨rfl, hk⟩, fun z => by omega, fun z => by omega⟩
  · split at hrs
    · split at hrs
      · split at hrs
        · unfold rcall at hrs
          split at hrs <;> cases hrs
          omega
        · cases hrs
      · cases hrs
    · cases hrs
  · split at hrs
    · split at hrs
      · unfold rcall at hrs
        split at hrs <;> cases hrs
        omega
      · split at hrs
        · unfold rjdk at hrs
          (repeat' split at hrs) <;> first | (cases hrs; done) | (cases hrs; omega)
        · cases hrs
    · cases hrs
  · split at hrs
    · split at hrs
      · unfold rcall at hrs
        split at hrs <;> cases hrs
        omega
      · split at hrs
        · split at hrs <;> first | (cases hrs; done) | (cases hrs; omega)
        · cases hrs
    · cases hrs
  · cases hrs
theorem sim : ∀ f, SIM f := by
  intro f
  induction f with
  | zero =>
    intro m pc ls st h v h' e
    cases e
  | succ f ih =>
    intro m pc ls st h v h' e hl hst hI X ad cells slots hX hm hr hc hs hF
    subst hm
    unfold arun at e
    split at e
    · cases e
    rename_i len op a b tb hrc
    split at e
    · rename_i hop
      split at e
      · cases e
      rename_i pc' ls' st' h1 hp
      obtain ⟨a1, a2, a3, a4, a5, -⟩ := pstep_ok hp hl hst hI
      obtain ⟨-, -, b3, b4⟩ := arun_ok _ _ _ _ _ _ _ _ e a1 a2 a3
      refine am_step hX hr hrc hop hp hst (by omega) (by omega) (fun ad' cells' slots' hag hc' hs' => ?_)
      refine ih (xm X) pc' ls' st' h1 v h' e a1 a2 a3 X ad' cells' slots' hX rfl hr (by omega) (by omega) (fun ad2 c2 s2 pc2 raw ls2 hag2 hc2 hs2 hd2 hr2 => ?_)
      exact hF ad2 c2 s2 pc2 raw ls2 (fun o ho => (hag2 o (by omega)).trans (hag o (by omega))) (by omega) (by omega) hd2 hr2
    · rename_i hop
      split at e
      · rename_i h40
        subst h40
        split at e
        · cases e
          obtain ⟨raw, hd, hret⟩ : ∃ raw, decode (m_cd (xm X)) pc = .ok (raw, 1) ∧ retOk (xm X) raw none := by
            obtain ⟨raw, h1, h2⟩ := rc_ret hrc (by omega) (by omega)
            exact ⟨raw, h1, h2.1 rfl⟩
          exact hF ad cells slots pc raw ls (fun _ _ => rfl) rfl rfl hd hret
        · cases e
      · split at e
        · rename_i h41
          subst h41
          split at e
          · split at e
            · rename_i hx
              cases e
              rename_i x
              obtain ⟨raw, hd, hret⟩ : ∃ raw, decode (m_cd (xm X)) pc = .ok (raw, 1) ∧ retOk (xm X) raw (some (vI x)) := by
                obtain ⟨raw, h1, h2⟩ := rc_ret hrc (by omega) (by omega)
                exact ⟨raw, h1, h2.2.1 rfl x hx⟩
              exact hF ad cells slots pc raw ls (fun _ _ => rfl) rfl rfl hd hret
            · cases e
          · cases e
        · split at e
          · rename_i h42
            subst h42
            split at e
            · cases e
              rename_i x
              obtain ⟨raw, hd, hret⟩ : ∃ raw, decode (m_cd (xm X)) pc = .ok (raw, 1) ∧ retOk (xm X) raw (some (vL x)) := by
                obtain ⟨raw, h1, h2⟩ := rc_ret hrc (by omega) (by omega)
                exact ⟨raw, h1, h2.2.2 rfl x⟩
              exact hF ad cells slots pc raw ls (fun _ _ => rfl) rfl rfl hd hret
            · cases e
          · split at e
            · rename_i h43
              subst h43
              split at e
              · rename_i hcond
                obtain ⟨g1, g2, g3, g4⟩ := hcond
                split at e
                · cases e
                rename_i v1 h1 hcall
                split at e
                · rename_i hrefs
                  obtain ⟨raw, ix, nest, wi, rfl, hd, hraw, hf, q1, q2, q3, q4, q5, q6⟩ := rc_call hrc
                  have hlen : (st.take b.toNat).length = b.toNat := by rw [List.length_take]; omega
                  have has := okL_rev (okL_take (n := b.toNat) hst)
                  obtain ⟨a1, a2, a4, a5⟩ := arun_ok _ _ _ _ _ _ _ _ hcall (okL_entry has) okL_nil hI
                  have hst2 := okL_app.mpr ⟨a1, okL_drop (n := b.toNat) hst⟩
                  obtain ⟨-, -, b3, b4⟩ := arun_ok _ _ _ _ _ _ _ _ e hl hst2 a2
                  have hwr : wcat (st.take b.toNat).reverse = (st.take b.toNat).reverse.length := by
                    rw [List.length_reverse, hlen]
                    unfold wcat
                    rw [List.map_reverse, List.sum_reverse]
                    exact g2
                  have key := am_call ih (X := X) (ad := ad) (cells := cells) (slots := slots) (pc := pc) (as := (st.take b.toNat).reverse) (rest := st.drop b.toNat) hX hd hraw hf (mtb_nz hf) q1 q2 q3 q4 q5 (by rw [List.length_reverse, hlen, q6]; simp) hwr g3 g4 has hI hcall hrefs (by omega) (by omega) (fun ad' cells' slots' hag hc' hs' => ?_)
                  · rw [List.reverse_reverse, List.take_append_drop] at key
                    exact key
                  · refine ih (xm X) _ ls _ h1 v h' e hl hst2 a2 X ad' cells' slots' hX rfl hr (by omega) (by omega) (fun ad2 c2 s2 pc2 raw ls2 hag2 hc2 hs2 hd2 hr2 => ?_)
                    exact hF ad2 c2 s2 pc2 raw ls2 (fun o ho => (hag2 o (by omega)).trans (hag o (by omega))) (by omega) (by omega) hd2 hr2
                · cases e
              · cases e
            · cases e
