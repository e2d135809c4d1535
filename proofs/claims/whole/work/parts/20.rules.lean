/-! level 2: rules over the abstract run, objects fixed -/
abbrev IM : Type := Nat → Nat → Int
def AS (R : Nat → Nat → List AV → List AV → AH → Option (Option AV × AH)) (m pc : Nat) (ls st : List AV) (h : AH) : Option (Option AV × AH) := match rc m pc with
    | none => none
    | some (len, op, a, b, tb) =>
      if op < 40 then (match pstep op a b tb (pc + len) ls st h with
        | none => none
        | some (pc', ls', st', h') => R m pc' ls' st' h')
      else if op = 40 then (match st with | [] => some (none, h) | _ => none)
      else if op = 41 then (match st with | [.inl x] => (if a = 1 ∨ x = 0 ∨ x = 1 then some (some (vI x), h) else none) | _ => none)
      else if op = 42 then (match st with | [.inr (.inl x)] => some (some (vL x), h) | _ => none)
      else if op = 43 then
        (if b.toNat ≤ st.length ∧ wcat (st.take b.toNat) = b.toNat ∧ wcat (st.drop b.toNat) ≤ 8 ∧ recvOk (tk tb) a (st.take b.toNat).reverse h = true then
          (match R a 0 (entryL a (st.take b.toNat).reverse) [] h with
          | none => none
          | some (v, h') => (if h'.2.length = h.2.length ∨ (okRefs h.2.length ls = true ∧ okRefs h.2.length (st.drop b.toNat) = true) then R m (pc + len) ls (v.toList ++ st.drop b.toNat) h' else none))
        else none)
      else none
theorem arun_succ (f m pc : Nat) (ls st : List AV) (h : AH) : arun (f + 1) m pc ls st h = AS (arun f) m pc ls st h := rfl
theorem AS_mono {R R' : Nat → Nat → List AV → List AV → AH → Option (Option AV × AH)} (hR : ∀ m pc ls st h r, R m pc ls st h = some r → R' m pc ls st h = some r) {m pc : Nat} {ls st : List AV} {h : AH} {r : Option AV × AH} (e : AS R m pc ls st h = some r) : AS R' m pc ls st h = some r := by
  unfold AS at e ⊢
  split at e
  · cases e
  rename_i len op a b tb hrc
  split at e
  · rename_i ho
    simp only [if_pos ho]
    split at e
    · cases e
    · exact hR _ _ _ _ _ _ e
  · rename_i ho
    simp only [if_neg ho]
    split at e
    · rename_i h0; simp only [if_pos h0]; exact e
    · rename_i h0
      simp only [if_neg h0]
      split at e
      · rename_i h1; simp only [if_pos h1]; exact e
      · rename_i h1
        simp only [if_neg h1]
        split at e
        · rename_i h2; simp only [if_pos h2]; exact e
        · rename_i h2
          simp only [if_neg h2]
          split at e
          · rename_i h3
            simp only [if_pos h3]
            split at e
            · rename_i h4
              simp only [if_pos h4]
              split at e
              · cases e
              · rename_i v h' hc
                rw [hR _ _ _ _ _ _ hc]
                split at e
                · rename_i h5
                  simp only [if_pos h5]
                  exact hR _ _ _ _ _ _ e
                · cases e
            · cases e
          · cases e
theorem arun_up1 : ∀ (f m pc : Nat) (ls st : List AV) (h : AH) (r : Option AV × AH), arun f m pc ls st h = some r → arun (f + 1) m pc ls st h = some r := by
  intro f
  induction f with
  | zero => intro m pc ls st h r e; cases e
  | succ f ih =>
    intro m pc ls st h r e
    rw [arun_succ] at e ⊢
    exact AS_mono ih e
theorem arun_up {f g m pc : Nat} {ls st : List AV} {h : AH} {r : Option AV × AH} (hfg : f ≤ g) (e : arun f m pc ls st h = some r) : arun g m pc ls st h = some r := by
  obtain ⟨k, rfl⟩ := Nat.le.dest hfg
  induction k with
  | zero => exact e
  | succ k ih => exact arun_up1 _ _ _ _ _ _ _ (ih (by omega))
def GO (S : List AO) (m pc : Nat) (ls st : List AV) (I : IM) (K : Option AV → IM → Prop) : Prop := ∃ (f : Nat) (v : Option AV) (I' : IM), arun f m pc ls st (I, S) = some (v, (I', S)) ∧ K v I'
def CALL (S : List AO) (mid : Nat) (as : List AV) (I : IM) (K : Option AV → IM → Prop) : Prop := GO S mid 0 (entryL mid as) [] I K
theorem GO.imp {S : List AO} {m pc : Nat} {ls st : List AV} {I : IM} {K K' : Option AV → IM → Prop} (h : GO S m pc ls st I K) (hK : ∀ v I', K v I' → K' v I') : GO S m pc ls st I K' := by
  obtain ⟨f, v, I', e, k⟩ := h
  exact ⟨f, v, I', e, hK v I' k⟩
section RULES
variable {S : List AO} {m pc len a : Nat} {b : Int} {tb : List (Int × Nat)} {ls st : List AV} {I : IM} {K : Option AV → IM → Prop}
theorem G_step {op pc' : Nat} {ls' st' : List AV} {I' : IM} (hr : rc m pc = some (len, op, a, b, tb)) (ho : op < 40) (hp : pstep op a b tb (pc + len) ls st (I, S) = some (pc', ls', st', (I', S))) (k : GO S m pc' ls' st' I' K) : GO S m pc ls st I K := by
  obtain ⟨f, v, I2, e, k⟩ := k
  refine ⟨f + 1, v, I2, ?_, k⟩
  rw [arun_succ]
  unfold AS
  rw [hr]
  simp only [if_pos ho]
  rw [hp]
  exact e
theorem G_const (hr : rc m pc = some (len, 0, a, b, tb)) (hb : inR b) (k : GO S m (pc + len) ls (vI b :: st) I K) : GO S m pc ls st I K := G_step hr (by decide) (if_pos hb) k
theorem G_lconst (hr : rc m pc = some (len, 1, a, b, tb)) (hb : inL b) (k : GO S m (pc + len) ls (vL b :: st) I K) : GO S m pc ls st I K := G_step hr (by decide) (if_pos hb) k
theorem G_loadI {x : Int} (hr : rc m pc = some (len, 2, a, b, tb)) (hl : ls[a]? = some (vI x)) (k : GO S m (pc + len) ls (vI x :: st) I K) : GO S m pc ls st I K := G_step hr (by decide) (by show p2 a b tb _ ls st (I, S) = _; unfold p2; rw [hl]) k
theorem G_loadR {x : Nat} (hr : rc m pc = some (len, 3, a, b, tb)) (hl : ls[a]? = some (vR x)) (k : GO S m (pc + len) ls (vR x :: st) I K) : GO S m pc ls st I K := G_step hr (by decide) (by show p3 a b tb _ ls st (I, S) = _; unfold p3; rw [hl]) k
theorem G_storeI {x : Int} (hr : rc m pc = some (len, 4, a, b, tb)) (hl : a < ls.length) (k : GO S m (pc + len) (ls.set a (vI x)) st I K) : GO S m pc ls (vI x :: st) I K := G_step hr (by decide) (if_pos hl) k
theorem G_storeR {x : Nat} (hr : rc m pc = some (len, 5, a, b, tb)) (hl : a < ls.length) (k : GO S m (pc + len) (ls.set a (vR x)) st I K) : GO S m pc ls (vR x :: st) I K := G_step hr (by decide) (if_pos hl) k
theorem G_iinc {x : Int} (hr : rc m pc = some (len, 6, a, b, tb)) (hl : ls[a]? = some (vI x)) (hx : inR (x + b)) (k : GO S m (pc + len) (ls.set a (vI (x + b))) st I K) : GO S m pc ls st I K := G_step hr (by decide) (by show p6 a b tb _ ls st (I, S) = _; unfold p6; rw [hl]; exact if_pos hx) k
theorem G_getI {o sz : Nat} {rf : List Nat} (hr : rc m pc = some (len, 7, a, b, tb)) (hq : S[o]? = some (a, sz, rf)) (hz : b.toNat < sz) (k : GO S m (pc + len) ls (vI (I o b.toNat) :: st) I K) : GO S m pc ls (vR o :: st) I K := G_step hr (by decide) (by show p7 a b tb _ ls (vR o :: st) (I, S) = _; unfold p7; simp only [hq]; exact if_pos ⟨trivial, hz⟩) k
theorem G_getR {o sz q : Nat} {rf : List Nat} (hr : rc m pc = some (len, 8, a, b, tb)) (hq : S[o]? = some (a, sz, rf)) (hz : b.toNat < sz) (hf : rf[b.toNat]? = some q) (hq3 : q < 1000) (k : GO S m (pc + len) ls (vR q :: st) I K) : GO S m pc ls (vR o :: st) I K := G_step hr (by decide) (by show p8 a b tb _ ls (vR o :: st) (I, S) = _; unfold p8; simp only [hq, hf]; exact if_pos ⟨trivial, hz, hq3⟩) k
theorem G_putI {o sz : Nat} {rf : List Nat} {x : Int} (hr : rc m pc = some (len, 9, a, b, tb)) (hq : S[o]? = some (a, sz, rf)) (hz : b.toNat < sz) (ht : tb = [] ∨ x = 0 ∨ x = 1) (k : GO S m (pc + len) ls st (iup I o b.toNat x) K) : GO S m pc ls (vI x :: vR o :: st) I K := G_step hr (by decide) (by show p9 a b tb _ ls (vI x :: vR o :: st) (I, S) = _; unfold p9; simp only [hq]; exact if_pos ⟨trivial, hz, ht⟩) k
theorem G_ald {o sz : Nat} {rf : List Nat} {i : Int} (hr : rc m pc = some (len, 11, a, b, tb)) (hq : S[o]? = some (a, sz, rf)) (h0 : 0 ≤ i) (h1 : i < sz) (k : GO S m (pc + len) ls (vI (I o i.toNat) :: st) I K) : GO S m pc ls (vI i :: vR o :: st) I K := G_step hr (by decide) (by show p11 a b tb _ ls (vI i :: vR o :: st) (I, S) = _; unfold p11; simp only [hq]; exact if_pos ⟨trivial, h0, h1⟩) k
theorem G_aldR {o sz kd q : Nat} {rf : List Nat} {i : Int} (hr : rc m pc = some (len, 12, a, b, tb)) (hq : S[o]? = some (kd, sz, rf)) (hk : kd = 102 ∨ kd = 103) (h0 : 0 ≤ i) (h1 : i < sz) (hf : rf[i.toNat]? = some q) (hq3 : q < 1000) (k : GO S m (pc + len) ls (vR q :: st) I K) : GO S m pc ls (vI i :: vR o :: st) I K := G_step hr (by decide) (by show p12 a b tb _ ls (vI i :: vR o :: st) (I, S) = _; unfold p12; simp only [hq, hf]; exact if_pos ⟨hk, h0, h1, hq3⟩) k
theorem G_ast {o sz : Nat} {rf : List Nat} {i x : Int} (hr : rc m pc = some (len, 13, a, b, tb)) (hq : S[o]? = some (a, sz, rf)) (h0 : 0 ≤ i) (h1 : i < sz) (hb : a = 100 ∨ (-128 ≤ x ∧ x ≤ 127)) (k : GO S m (pc + len) ls st (iup I o i.toNat x) K) : GO S m pc ls (vI x :: vI i :: vR o :: st) I K := G_step hr (by decide) (by show p13 a b tb _ ls (vI x :: vI i :: vR o :: st) (I, S) = _; unfold p13; simp only [hq]; exact if_pos ⟨trivial, h0, h1, hb⟩) k
theorem G_alen {o sz kd : Nat} {rf : List Nat} (hr : rc m pc = some (len, 15, a, b, tb)) (hq : S[o]? = some (kd, sz, rf)) (h1 : 100 ≤ kd) (h2 : kd ≤ 103) (h3 : sz ≤ 100000) (k : GO S m (pc + len) ls (vI sz :: st) I K) : GO S m pc ls (vR o :: st) I K := G_step hr (by decide) (by show p15 a b tb _ ls (vR o :: st) (I, S) = _; unfold p15; simp only [hq]; exact if_pos ⟨h1, h2, h3⟩) k
theorem G_bop {x y z : Int} (hr : rc m pc = some (len, 16, a, b, tb)) (hz : bop a x y = some z) (k : GO S m (pc + len) ls (vI z :: st) I K) : GO S m pc ls (vI y :: vI x :: st) I K := G_step hr (by decide) (by show p16 a b tb _ ls (vI y :: vI x :: st) (I, S) = _; unfold p16; simp only [hz]) k
theorem G_i2b {x : Int} (hr : rc m pc = some (len, 17, a, b, tb)) (h1 : -128 ≤ x ∧ x ≤ 127) (k : GO S m (pc + len) ls (vI x :: st) I K) : GO S m pc ls (vI x :: st) I K := G_step hr (by decide) (if_pos h1) k
theorem G_i2l {x : Int} (hr : rc m pc = some (len, 18, a, b, tb)) (k : GO S m (pc + len) ls (vL x :: st) I K) : GO S m pc ls (vI x :: st) I K := G_step hr (by decide) rfl k
theorem G_lcmp {x y : Int} (hr : rc m pc = some (len, 19, a, b, tb)) (k : GO S m (pc + len) ls (vI (if y < x then 1 else if x = y then 0 else -1) :: st) I K) : GO S m pc ls (vL y :: vL x :: st) I K := G_step hr (by decide) rfl k
theorem G_if {x : Int} (hr : rc m pc = some (len, 20, a, b, tb)) (k : GO S m (if cop a x 0 then b.toNat else pc + len) ls st I K) : GO S m pc ls (vI x :: st) I K := G_step hr (by decide) rfl k
theorem G_icmp {x y : Int} (hr : rc m pc = some (len, 21, a, b, tb)) (k : GO S m (if cop a x y then b.toNat else pc + len) ls st I K) : GO S m pc ls (vI y :: vI x :: st) I K := G_step hr (by decide) rfl k
theorem G_goto (hr : rc m pc = some (len, 22, a, b, tb)) (k : GO S m b.toNat ls st I K) : GO S m pc ls st I K := G_step hr (by decide) rfl k
theorem G_switch {x : Int} (hr : rc m pc = some (len, 23, a, b, tb)) (k : GO S m (tlook tb x b.toNat) ls st I K) : GO S m pc ls (vI x :: st) I K := G_step hr (by decide) rfl k
theorem G_dupI {x : Int} (hr : rc m pc = some (len, 24, a, b, tb)) (k : GO S m (pc + len) ls (vI x :: vI x :: st) I K) : GO S m pc ls (vI x :: st) I K := G_step hr (by decide) rfl k
theorem G_dupR {x : Nat} (hr : rc m pc = some (len, 24, a, b, tb)) (k : GO S m (pc + len) ls (vR x :: vR x :: st) I K) : GO S m pc ls (vR x :: st) I K := G_step hr (by decide) rfl k
theorem G_dup2 {y : Int} {x : Nat} (hr : rc m pc = some (len, 25, a, b, tb)) (k : GO S m (pc + len) ls (vI y :: vR x :: vI y :: vR x :: st) I K) : GO S m pc ls (vI y :: vR x :: st) I K := G_step hr (by decide) rfl k
theorem G_pop {x : Int} (hr : rc m pc = some (len, 26, a, b, tb)) (k : GO S m (pc + len) ls st I K) : GO S m pc ls (vI x :: st) I K := G_step hr (by decide) rfl k
theorem G_abs {x : Int} (hr : rc m pc = some (len, 31, a, b, tb)) (hx : inR (-x)) (hw : wcat st ≤ 8) (k : GO S m (pc + len) ls (vI (if 0 ≤ x then x else -x) :: st) I K) : GO S m pc ls (vI x :: st) I K := G_step hr (by decide) (if_pos ⟨hx, hw⟩) k
theorem G_max {x y : Int} (hr : rc m pc = some (len, 32, a, b, tb)) (hw : wcat st ≤ 8) (k : GO S m (pc + len) ls (vI (if x < y then y else x) :: st) I K) : GO S m pc ls (vI y :: vI x :: st) I K := G_step hr (by decide) (if_pos hw) k
theorem G_min {x y : Int} (hr : rc m pc = some (len, 33, a, b, tb)) (hw : wcat st ≤ 8) (k : GO S m (pc + len) ls (vI (if y < x then y else x) :: st) I K) : GO S m pc ls (vI y :: vI x :: st) I K := G_step hr (by decide) (if_pos hw) k
theorem G_copy {c d zc zd : Nat} {rc0 rd : List Nat} {sp dp n : Int} (hr : rc m pc = some (len, 34, a, b, tb)) (hc : S[c]? = some (100, zc, rc0)) (hd : S[d]? = some (100, zd, rd)) (h1 : 0 ≤ sp) (h2 : 0 ≤ dp) (h3 : 0 ≤ n) (h4 : sp + n ≤ zc) (h5 : dp + n ≤ zd) (hw : wcat st ≤ 8) (k : GO S m (pc + len) ls st (icp I c sp.toNat d dp.toNat n.toNat) K) : GO S m pc ls (vI n :: vI dp :: vR d :: vI sp :: vR c :: st) I K := G_step hr (by decide) (by show p34 a b tb _ ls (vI n :: vI dp :: vR d :: vI sp :: vR c :: st) (I, S) = _; unfold p34; simp only [hc, hd]; exact if_pos ⟨trivial, trivial, h1, h2, h3, h4, h5, hw⟩) k
theorem G_sld {i : Int} (hr : rc m pc = some (len, 36, a, b, tb)) (h0 : 0 ≤ i) (h1 : i < I 1001 0) (k : GO S m (pc + len) ls (vI (I 1000 i.toNat) :: st) I K) : GO S m pc ls (vI i :: vR 1000 :: st) I K := G_step hr (by decide) (if_pos ⟨rfl, h0, h1⟩) k
theorem G_slen (hr : rc m pc = some (len, 37, a, b, tb)) (k : GO S m (pc + len) ls (vI (I 1001 0) :: st) I K) : GO S m pc ls (vR 1000 :: st) I K := G_step hr (by decide) (by show p37 a b tb _ ls (vR 1000 :: st) (I, S) = _; unfold p37; exact if_pos rfl) k
theorem G_ret0 (hr : rc m pc = some (len, 40, a, b, tb)) (k : K none I) : GO S m pc ls [] I K := ⟨1, none, I, by rw [arun_succ]; unfold AS; rw [hr]; rfl, k⟩
theorem G_retI {x : Int} (hr : rc m pc = some (len, 41, a, b, tb)) (hx : a = 1 ∨ x = 0 ∨ x = 1) (k : K (some (vI x)) I) : GO S m pc ls [vI x] I K := ⟨1, some (vI x), I, by rw [arun_succ]; unfold AS; rw [hr]; exact if_pos hx, k⟩
theorem G_retL {x : Int} (hr : rc m pc = some (len, 42, a, b, tb)) (k : K (some (vL x)) I) : GO S m pc ls [vL x] I K := ⟨1, some (vL x), I, by rw [arun_succ]; unfold AS; rw [hr]; rfl, k⟩
theorem G_call {as rest : List AV} (hr : rc m pc = some (len, 43, a, b, tb)) (hst : as.reverse ++ rest = st) (hn : b.toNat = as.length) (hw : wcat as.reverse = as.length) (hw8 : wcat rest ≤ 8) (hrec : recvOk (tk tb) a as (I, S) = true) (k : CALL S a as I (fun v I' => GO S m (pc + len) ls (v.toList ++ rest) I' K)) : GO S m pc ls st I K := by
  obtain ⟨f, v, I1, e1, g, v2, I2, e2, k⟩ := k
  refine ⟨max f g + 1, v2, I2, ?_, k⟩
  rw [arun_succ]
  unfold AS
  rw [hr]
  have ht : st.take b.toNat = as.reverse := by rw [← hst, hn, ← List.length_reverse, List.take_left']; rfl
  have hd : st.drop b.toNat = rest := by rw [← hst, hn, ← List.length_reverse, List.drop_left']; rfl
  have hl : b.toNat ≤ st.length := by rw [← hst, List.length_append, List.length_reverse]; omega
  simp only [show ¬ (43 : Nat) < 40 by decide, show ¬ (43 : Nat) = 40 by decide, show ¬ (43 : Nat) = 41 by decide, show ¬ (43 : Nat) = 42 by decide, if_false, if_true, ht, hd, List.reverse_reverse]
  rw [if_pos ⟨hl, by rw [hw]; exact hn.symm, hw8, hrec⟩, arun_up (Nat.le_max_left f g) e1]
  simp only [true_or, if_true]
  exact arun_up (Nat.le_max_right f g) e2
theorem g_recv {o k kd sz mid : Nat} {rf : List Nat} {as : List AV} (hq : S[o]? = some (kd, sz, rf)) (hk : m_own mid = kd) : recvOk k mid (vR o :: as) (I, S) = true := by
  unfold recvOk
  simp only [hq, hk]
  simp
end RULES
