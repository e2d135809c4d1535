/-! the machine's instructions over TT -/
theorem of_lk {α : Type} {l : List ((Nat × Nat) × α)} {k : Nat × Nat} {v : α} (h : l.lookup k = some v) : (k, v) ∈ l := of_lookup (β := Unit) h
theorem i32_eq {x : Int} (h : inR x) : (Int32.ofInt x).toInt = x := Int32.toInt_ofInt_of_le (by have := h.1; omega) (by have := h.2; omega)
theorem i64_eq {x : Int} (h : inL x) : (Int64.ofInt x).toInt = x := Int64.toInt_ofInt_of_le (by have := h.1; omega) (by have := h.2; omega)
theorem i32_lt {x y : Int} (hx : inR x) (hy : inR y) : Int32.ofInt x < Int32.ofInt y ↔ x < y := by rw [Int32.lt_iff_toInt_lt, i32_eq hx, i32_eq hy]
theorem i32_le {x y : Int} (hx : inR x) (hy : inR y) : Int32.ofInt x ≤ Int32.ofInt y ↔ x ≤ y := by rw [Int32.le_iff_toInt_le, i32_eq hx, i32_eq hy]
theorem i32_inj {x y : Int} (hx : inR x) (hy : inR y) : Int32.ofInt x = Int32.ofInt y ↔ x = y := by rw [← Int32.toInt_inj, i32_eq hx, i32_eq hy]
theorem i32_z {x : Int} (hx : inR x) : Int32.ofInt x = 0 ↔ x = 0 := i32_inj (y := 0) hx ⟨by decide, by decide⟩
theorem in0 : inR 0 := ⟨by decide, by decide⟩
theorem i32_clamp {x : Int} (h : inR x) : (Int32.ofInt x).toNatClampNeg = x.toNat := Int32.toNatClampNeg_ofInt_of_le (by have := h.1; omega) (by have := h.2; omega)
theorem i32_vin {x : Int} {n : Nat} (h : inR x) (h0 : 0 ≤ x) (h1 : x < n) : vp_in (Int32.ofInt x) n := vp_in_iff.mpr (by rw [i32_eq h]; exact ⟨h0, h1⟩)
theorem i32_of {x : Int32} {y : Int} (hy : inR y) (h : x.toInt = y) : x = Int32.ofInt y := Int32.toInt_inj.mp (by rw [h, i32_eq hy])
theorem ent_obj {tc : Nat → ClassId} {ad : Nat → Nat} {I : Nat → Nat → Int} {o ci sz : Nat} {rf : List Nat} (h : ci < 100) : ent tc ad I o (ci, sz, rf) = .inr (ci, (List.range sz).map (fval ad I o ci rf)) := if_pos h
theorem clsF {ci : Nat} {C : String} {T : u_T} {N : Nat} (h : vwCl[ci]? = some (C, T, N)) : (∀ w ∈ u_ws C T N, w ∈ lw_gt) ∧ (∀ k, k < N → parseFieldDescriptor (T k).2.2.1 = some (tyT ci k)) ∧ (∀ a, a < N → ∀ b, b < N → a ≠ b → (T a).2.1 ≠ (T b).2.1) ∧ C = cname ci ∧ N = nF ci ∧ (∀ k, (T k).2.2.2 = fFin ci k) ∧ (∀ k, k < N → (T k).1 = C) ∧ ci < 13 := by
  have hl : ci < 13 := (List.getElem?_eq_some_iff.mp h).1
  have key : ∀ (C : String) (T : u_T) (N : Nat), (∀ w ∈ u_ws C T N, w ∈ lw_tbl) → (u_ws C T N).all goodWord = true → ∀ w ∈ u_ws C T N, w ∈ lw_gt := fun C T N h1 h2 w hw => List.mem_filter.mpr ⟨h1 w hw, List.all_eq_true.mp h2 w hw⟩
  match ci, h with
  | 0, h => cases h; exact ⟨key _ _ _ inX0 (by decide +kernel), tyX0_ok, nmX0, rfl, rfl, fun _ => rfl, by decide +kernel, by decide⟩
  | 1, h => cases h; exact ⟨key _ _ _ inX1 (by decide +kernel), tyX1_ok, nmX1, rfl, rfl, fun _ => rfl, by decide +kernel, by decide⟩
  | 2, h => cases h; exact ⟨key _ _ _ inX2 (by decide +kernel), tyX2_ok, nmX2, rfl, rfl, fun _ => rfl, by decide +kernel, by decide⟩
  | 3, h => cases h; exact ⟨key _ _ _ inX3 (by decide +kernel), tyX3_ok, nmX3, rfl, rfl, fun _ => rfl, by decide +kernel, by decide⟩
  | 4, h => cases h; exact ⟨key _ _ _ inX4 (by decide +kernel), tyX4_ok, nmX4, rfl, rfl, fun _ => rfl, by decide +kernel, by decide⟩
  | 5, h => cases h; exact ⟨key _ _ _ inX5 (by decide +kernel), tyX5_ok, nmX5, rfl, rfl, fun _ => rfl, by decide +kernel, by decide⟩
  | 6, h => cases h; exact ⟨key _ _ _ inX6 (by decide +kernel), tyX6_ok, nmX6, rfl, rfl, fun _ => rfl, by decide +kernel, by decide⟩
  | 7, h => cases h; exact ⟨key _ _ _ inX7 (by decide +kernel), tyX7_ok, nmX7, rfl, rfl, fun _ => rfl, by decide +kernel, by decide⟩
  | 8, h => cases h; exact ⟨key _ _ _ inX8 (by decide +kernel), tyX8_ok, nmX8, rfl, rfl, fun _ => rfl, by decide +kernel, by decide⟩
  | 9, h => cases h; exact ⟨key _ _ _ inX9 (by decide +kernel), tyX9_ok, nmX9, rfl, rfl, fun _ => rfl, by decide +kernel, by decide⟩
  | 10, h => cases h; exact ⟨key _ _ _ inX10 (by decide +kernel), tyX10_ok, nmX10, rfl, rfl, fun _ => rfl, by decide +kernel, by decide⟩
  | 11, h => cases h; exact ⟨key _ _ _ inX11 (by decide +kernel), tyX11_ok, nmX11, rfl, rfl, fun _ => rfl, by decide +kernel, by decide⟩
  | 12, h => cases h; exact ⟨key _ _ _ inX12 (by decide +kernel), tyX12_ok, nmX12, rfl, rfl, fun _ => rfl, by decide +kernel, by decide⟩
  | n + 13, h => omega
section OPS
variable {X : CT} {ad : Nat → Nat} {cells slots pc : Nat} {ls st : List AV} {h : AH}
theorem am_iconst {n : Int} (hX : CX X) (hd : decode (m_cd (xm X)) pc = .ok (.iconst n, 1)) (k : TT X ad cells slots (pc + 1) ls (vI n :: st) h) : TT X ad cells slots pc ls st h := by
  obtain ⟨p, l, e, R, s, mm, args, below, meth, c, Q, D, tc, A, m⟩ := X
  obtain ⟨hx, hb, -⟩ := hX
  intro L H locs hL hS
  exact lv_iconst hx hb hd rfl (k L H locs hL hS)
theorem am_bipush {n : Int} (hX : CX X) (hd : decode (m_cd (xm X)) pc = .ok (.bipush n, 2)) (h1 : -128 ≤ n) (h2 : n ≤ 127) (k : TT X ad cells slots (pc + 2) ls (vI n :: st) h) : TT X ad cells slots pc ls st h := by
  obtain ⟨p, l, e, R, s, mm, args, below, meth, c, Q, D, tc, A, m⟩ := X
  obtain ⟨hx, hb, -⟩ := hX
  intro L H locs hL hS
  exact lv_bipush hx hb hd (i32_of ⟨by omega, by omega⟩ (by rw [Int8.toInt_toInt32]; exact Int8.toInt_ofInt_of_le (by omega) (by omega))) (k L H locs hL hS)
theorem am_sipush {n : Int} (hX : CX X) (hd : decode (m_cd (xm X)) pc = .ok (.sipush n, 3)) (h1 : -32768 ≤ n) (h2 : n ≤ 32767) (k : TT X ad cells slots (pc + 3) ls (vI n :: st) h) : TT X ad cells slots pc ls st h := by
  obtain ⟨p, l, e, R, s, mm, args, below, meth, c, Q, D, tc, A, m⟩ := X
  obtain ⟨hx, hb, -⟩ := hX
  intro L H locs hL hS
  exact lv_sipush hx hb hd (i32_of ⟨by omega, by omega⟩ (by rw [Int16.toInt_toInt32]; exact Int16.toInt_ofInt_of_le (by omega) (by omega))) (k L H locs hL hS)
theorem am_ldc {ix wi : Nat} {v : Int} (hX : CX X) (hd : decode (m_cd (xm X)) pc = .ok (.ldc ix, 2)) (hf : ktab.lookup (m_own (xm X), ix) = some (v, wi)) (k : TT X ad cells slots (pc + 2) ls (vI v :: st) h) : TT X ad cells slots pc ls st h := by
  have hw := List.all_eq_true.mp ktab_ok _ (of_lk hf)
  simp only [Bool.and_eq_true] at hw
  obtain ⟨p, l, e, R, s, mm, args, below, meth, c, Q, D, tc, A, m⟩ := X
  obtain ⟨hx, hb, hml, hown, hts, -⟩ := hX
  intro L H locs hL hS
  exact lv_ldc hx hb hown (hts _ (okw_in hw.1)) hd (k L H locs hL hS)
theorem am_ldcw {ix wi : Nat} {v : Int} (hX : CX X) (hd : decode (m_cd (xm X)) pc = .ok (.ldc_w ix, 3)) (hf : ktab.lookup (m_own (xm X), ix) = some (v, wi)) (k : TT X ad cells slots (pc + 3) ls (vI v :: st) h) : TT X ad cells slots pc ls st h := by
  have hw := List.all_eq_true.mp ktab_ok _ (of_lk hf)
  simp only [Bool.and_eq_true] at hw
  obtain ⟨p, l, e, R, s, mm, args, below, meth, c, Q, D, tc, A, m⟩ := X
  obtain ⟨hx, hb, hml, hown, hts, -⟩ := hX
  intro L H locs hL hS
  exact lv_ldcw hx hb hown (hts _ (okw_in hw.1)) hd (k L H locs hL hS)
theorem am_ldc2 {ix wi : Nat} {v : Int} (hX : CX X) (hd : decode (m_cd (xm X)) pc = .ok (.ldc2_w ix, 3)) (hf : ltab.lookup (m_own (xm X), ix) = some (v, wi)) (k : TT X ad cells slots (pc + 3) ls (vL v :: st) h) : TT X ad cells slots pc ls st h := by
  have hw := List.all_eq_true.mp ltab_ok _ (of_lk hf)
  simp only [Bool.and_eq_true] at hw
  obtain ⟨p, l, e, R, s, mm, args, below, meth, c, Q, D, tc, A, m⟩ := X
  obtain ⟨hx, hb, hml, hown, hts, -⟩ := hX
  intro L H locs hL hS
  exact lv_ldc2 hx hb hown (hts _ (okw_in hw.1)) hd (k L H locs hL hS)
theorem am_iload_n {i : Fin 4} {x : Int} (hX : CX X) (hd : decode (m_cd (xm X)) pc = .ok (.iload_n i, 1)) (hv : ls[i.val]? = some (vI x)) (k : TT X ad cells slots (pc + 1) ls (vI x :: st) h) : TT X ad cells slots pc ls st h := by
  obtain ⟨p, l, e, R, s, mm, args, below, meth, c, Q, D, tc, A, m⟩ := X
  obtain ⟨hx, hb, -⟩ := hX
  intro L H locs hL hS
  exact lv_iload_n hx hb hd rfl (LR_at hL hv (fun y z => by cases z)) (k L H locs hL hS)
theorem am_iload {i : Nat} {x : Int} (hX : CX X) (hd : decode (m_cd (xm X)) pc = .ok (.iload i, 2)) (hv : ls[i]? = some (vI x)) (k : TT X ad cells slots (pc + 2) ls (vI x :: st) h) : TT X ad cells slots pc ls st h := by
  obtain ⟨p, l, e, R, s, mm, args, below, meth, c, Q, D, tc, A, m⟩ := X
  obtain ⟨hx, hb, -⟩ := hX
  intro L H locs hL hS
  exact lv_iload hx hb hd (LR_at hL hv (fun y z => by cases z)) (k L H locs hL hS)
theorem am_aload_n {i : Fin 4} {x : Nat} (hX : CX X) (hd : decode (m_cd (xm X)) pc = .ok (.aload_n i, 1)) (hv : ls[i.val]? = some (vR x)) (k : TT X ad cells slots (pc + 1) ls (vR x :: st) h) : TT X ad cells slots pc ls st h := by
  obtain ⟨p, l, e, R, s, mm, args, below, meth, c, Q, D, tc, A, m⟩ := X
  obtain ⟨hx, hb, -⟩ := hX
  intro L H locs hL hS
  exact lv_aload_n hx hb hd rfl (LR_at hL hv (fun y z => by cases z)) (k L H locs hL hS)
theorem am_aload {i x : Nat} (hX : CX X) (hd : decode (m_cd (xm X)) pc = .ok (.aload i, 2)) (hv : ls[i]? = some (vR x)) (k : TT X ad cells slots (pc + 2) ls (vR x :: st) h) : TT X ad cells slots pc ls st h := by
  obtain ⟨p, l, e, R, s, mm, args, below, meth, c, Q, D, tc, A, m⟩ := X
  obtain ⟨hx, hb, -⟩ := hX
  intro L H locs hL hS
  exact lv_aload hx hb hd (LR_at hL hv (fun y z => by cases z)) (k L H locs hL hS)
theorem am_istore_n {i : Fin 4} {x : Int} (hX : CX X) (hd : decode (m_cd (xm X)) pc = .ok (.istore_n i, 1)) (hi : i.val < ls.length) (k : TT X ad cells slots (pc + 1) (ls.set i.val (vI x)) st h) : TT X ad cells slots pc ls (vI x :: st) h := by
  obtain ⟨p, l, e, R, s, mm, args, below, meth, c, Q, D, tc, A, m⟩ := X
  obtain ⟨hx, hb, -⟩ := hX
  intro L H locs hL hS
  obtain ⟨h0, lv, h1, h2, h3⟩ := hL
  exact lv_istore_n hx hb hd rfl h1 (by rw [← h0]; exact hi) rfl (fun L' h' => k L' H locs (LR_st (v := vI x) h0 h2 h3 rfl h') hS)
theorem am_istore {i : Nat} {x : Int} (hX : CX X) (hd : decode (m_cd (xm X)) pc = .ok (.istore i, 2)) (hi : i < ls.length) (k : TT X ad cells slots (pc + 2) (ls.set i (vI x)) st h) : TT X ad cells slots pc ls (vI x :: st) h := by
  obtain ⟨p, l, e, R, s, mm, args, below, meth, c, Q, D, tc, A, m⟩ := X
  obtain ⟨hx, hb, -⟩ := hX
  intro L H locs hL hS
  obtain ⟨h0, lv, h1, h2, h3⟩ := hL
  exact lv_istore hx hb hd h1 (by rw [← h0]; exact hi) rfl (fun L' h' => k L' H locs (LR_st (v := vI x) h0 h2 h3 rfl h') hS)
theorem am_astore_n {i : Fin 4} {x : Nat} (hX : CX X) (hd : decode (m_cd (xm X)) pc = .ok (.astore_n i, 1)) (hi : i.val < ls.length) (k : TT X ad cells slots (pc + 1) (ls.set i.val (vR x)) st h) : TT X ad cells slots pc ls (vR x :: st) h := by
  obtain ⟨p, l, e, R, s, mm, args, below, meth, c, Q, D, tc, A, m⟩ := X
  obtain ⟨hx, hb, -⟩ := hX
  intro L H locs hL hS
  obtain ⟨h0, lv, h1, h2, h3⟩ := hL
  exact lv_astore_n hx hb hd rfl h1 (by rw [← h0]; exact hi) rfl (fun L' h' => k L' H locs (LR_st (v := vR x) h0 h2 h3 rfl h') hS)
theorem am_astore {i x : Nat} (hX : CX X) (hd : decode (m_cd (xm X)) pc = .ok (.astore i, 2)) (hi : i < ls.length) (k : TT X ad cells slots (pc + 2) (ls.set i (vR x)) st h) : TT X ad cells slots pc ls (vR x :: st) h := by
  obtain ⟨p, l, e, R, s, mm, args, below, meth, c, Q, D, tc, A, m⟩ := X
  obtain ⟨hx, hb, -⟩ := hX
  intro L H locs hL hS
  obtain ⟨h0, lv, h1, h2, h3⟩ := hL
  exact lv_astore hx hb hd h1 (by rw [← h0]; exact hi) rfl (fun L' h' => k L' H locs (LR_st (v := vR x) h0 h2 h3 rfl h') hS)
theorem am_iinc {i : Nat} {n x : Int} (hX : CX X) (hd : decode (m_cd (xm X)) pc = .ok (.iinc i n, 3)) (hv : ls[i]? = some (vI x)) (k : TT X ad cells slots (pc + 3) (ls.set i (vI (x + n))) st h) : TT X ad cells slots pc ls st h := by
  obtain ⟨p, l, e, R, s, mm, args, below, meth, c, Q, D, tc, A, m⟩ := X
  obtain ⟨hx, hb, -⟩ := hX
  intro L H locs hL hS
  obtain ⟨h0, lv, h1, h2, h3⟩ := hL
  obtain ⟨j, hj⟩ := List.getElem?_of_mem (h3 i _ hv (fun y z => by cases z))
  have hi : i < ls.length := (List.getElem?_eq_some_iff.mp hv).1
  exact lv_iinc (v := Int32.ofInt (x + n)) hx hb hd h1 hj (Int32.ofInt_add x n).symm (by rw [← h0]; exact hi) rfl (fun L' h' => k L' H locs (LR_st (v := vI (x + n)) h0 h2 h3 rfl h') hS)
theorem am_iadd {x y : Int} (hX : CX X) (hd : decode (m_cd (xm X)) pc = .ok (.iadd, 1)) (k : TT X ad cells slots (pc + 1) ls (vI (x + y) :: st) h) : TT X ad cells slots pc ls (vI y :: vI x :: st) h := by
  obtain ⟨p, l, e, R, s, mm, args, below, meth, c, Q, D, tc, A, m⟩ := X
  obtain ⟨hx, hb, -⟩ := hX
  intro L H locs hL hS
  have kk := k L H locs hL hS
  simp only [List.map_cons, cv] at kk
  rw [Int32.ofInt_add x y] at kk
  exact lv_iadd hx hb hd kk
theorem am_isub {x y : Int} (hX : CX X) (hd : decode (m_cd (xm X)) pc = .ok (.isub, 1)) (k : TT X ad cells slots (pc + 1) ls (vI (x - y) :: st) h) : TT X ad cells slots pc ls (vI y :: vI x :: st) h := by
  obtain ⟨p, l, e, R, s, mm, args, below, meth, c, Q, D, tc, A, m⟩ := X
  obtain ⟨hx, hb, -⟩ := hX
  intro L H locs hL hS
  have kk := k L H locs hL hS
  simp only [List.map_cons, cv] at kk
  rw [Int32.ofInt_sub x y] at kk
  exact lv_isub hx hb hd kk
theorem am_imul {x y : Int} (hX : CX X) (hd : decode (m_cd (xm X)) pc = .ok (.imul, 1)) (k : TT X ad cells slots (pc + 1) ls (vI (x * y) :: st) h) : TT X ad cells slots pc ls (vI y :: vI x :: st) h := by
  obtain ⟨p, l, e, R, s, mm, args, below, meth, c, Q, D, tc, A, m⟩ := X
  obtain ⟨hx, hb, -⟩ := hX
  intro L H locs hL hS
  have kk := k L H locs hL hS
  simp only [List.map_cons, cv] at kk
  rw [Int32.ofInt_mul x y] at kk
  exact lv_imul hx hb hd kk
theorem am_ishl {x y : Int} (hX : CX X) (hd : decode (m_cd (xm X)) pc = .ok (.ishl, 1)) (k : TT X ad cells slots (pc + 1) ls (vI (Int32.ofInt x <<< (Int32.ofInt y &&& 31)).toInt :: st) h) : TT X ad cells slots pc ls (vI y :: vI x :: st) h := by
  obtain ⟨p, l, e, R, s, mm, args, below, meth, c, Q, D, tc, A, m⟩ := X
  obtain ⟨hx, hb, -⟩ := hX
  intro L H locs hL hS
  have kk := k L H locs hL hS
  simp only [List.map_cons, cv, Int32.ofInt_toInt] at kk
  exact lv_ishl hx hb hd kk
theorem am_ishr {x y : Int} (hX : CX X) (hd : decode (m_cd (xm X)) pc = .ok (.ishr, 1)) (k : TT X ad cells slots (pc + 1) ls (vI (Int32.ofInt x >>> (Int32.ofInt y &&& 31)).toInt :: st) h) : TT X ad cells slots pc ls (vI y :: vI x :: st) h := by
  obtain ⟨p, l, e, R, s, mm, args, below, meth, c, Q, D, tc, A, m⟩ := X
  obtain ⟨hx, hb, -⟩ := hX
  intro L H locs hL hS
  have kk := k L H locs hL hS
  simp only [List.map_cons, cv, Int32.ofInt_toInt] at kk
  exact lv_ishr hx hb hd kk
theorem am_iand {x y : Int} (hX : CX X) (hd : decode (m_cd (xm X)) pc = .ok (.iand, 1)) (k : TT X ad cells slots (pc + 1) ls (vI (Int32.ofInt x &&& Int32.ofInt y).toInt :: st) h) : TT X ad cells slots pc ls (vI y :: vI x :: st) h := by
  obtain ⟨p, l, e, R, s, mm, args, below, meth, c, Q, D, tc, A, m⟩ := X
  obtain ⟨hx, hb, -⟩ := hX
  intro L H locs hL hS
  have kk := k L H locs hL hS
  simp only [List.map_cons, cv, Int32.ofInt_toInt] at kk
  exact lv_iand hx hb hd kk
theorem am_ior {x y : Int} (hX : CX X) (hd : decode (m_cd (xm X)) pc = .ok (.ior, 1)) (k : TT X ad cells slots (pc + 1) ls (vI (Int32.ofInt x ||| Int32.ofInt y).toInt :: st) h) : TT X ad cells slots pc ls (vI y :: vI x :: st) h := by
  obtain ⟨p, l, e, R, s, mm, args, below, meth, c, Q, D, tc, A, m⟩ := X
  obtain ⟨hx, hb, -⟩ := hX
  intro L H locs hL hS
  have kk := k L H locs hL hS
  simp only [List.map_cons, cv, Int32.ofInt_toInt] at kk
  exact lv_ior hx hb hd kk
theorem am_ixor {x y : Int} (hX : CX X) (hd : decode (m_cd (xm X)) pc = .ok (.ixor, 1)) (k : TT X ad cells slots (pc + 1) ls (vI (Int32.ofInt x ^^^ Int32.ofInt y).toInt :: st) h) : TT X ad cells slots pc ls (vI y :: vI x :: st) h := by
  obtain ⟨p, l, e, R, s, mm, args, below, meth, c, Q, D, tc, A, m⟩ := X
  obtain ⟨hx, hb, -⟩ := hX
  intro L H locs hL hS
  have kk := k L H locs hL hS
  simp only [List.map_cons, cv, Int32.ofInt_toInt] at kk
  exact lv_ixor hx hb hd kk
theorem am_idiv {x y : Int} (hX : CX X) (hd : decode (m_cd (xm X)) pc = .ok (.idiv, 1)) (hx0 : inR x) (hy0 : inR y) (h0 : y ≠ 0) (hr : inR (x.tdiv y)) (k : TT X ad cells slots (pc + 1) ls (vI (x.tdiv y) :: st) h) : TT X ad cells slots pc ls (vI y :: vI x :: st) h := by
  have e1 : Int32.ofInt x / Int32.ofInt y = Int32.ofInt (x.tdiv y) := i32_of hr (by rw [Int32.toInt_div, i32_eq hx0, i32_eq hy0]; exact Int.bmod_eq_of_le (by have := hr.1; omega) (by have := hr.2; omega))
  obtain ⟨p, l, e, R, s, mm, args, below, meth, c, Q, D, tc, A, m⟩ := X
  obtain ⟨hx, hb, -⟩ := hX
  intro L H locs hL hS
  exact lv_idiv hx hb hd (fun z => h0 ((i32_z hy0).mp z)) (by rw [e1]; exact k L H locs hL hS)
theorem am_irem {x y : Int} (hX : CX X) (hd : decode (m_cd (xm X)) pc = .ok (.irem, 1)) (hx0 : inR x) (hy0 : inR y) (h0 : y ≠ 0) (hr : inR (x.tdiv y)) (k : TT X ad cells slots (pc + 1) ls (vI (x.tmod y) :: st) h) : TT X ad cells slots pc ls (vI y :: vI x :: st) h := by
  have e1 : Int32.ofInt x / Int32.ofInt y = Int32.ofInt (x.tdiv y) := i32_of hr (by rw [Int32.toInt_div, i32_eq hx0, i32_eq hy0]; exact Int.bmod_eq_of_le (by have := hr.1; omega) (by have := hr.2; omega))
  have e2 : Int32.ofInt x - Int32.ofInt x / Int32.ofInt y * Int32.ofInt y = Int32.ofInt (x.tmod y) := by
    rw [e1, ← Int32.ofInt_mul, ← Int32.ofInt_sub]
    congr 1
    have := Int.mul_tdiv_add_tmod x y
    rw [Int.mul_comm] at this
    omega
  obtain ⟨p, l, e, R, s, mm, args, below, meth, c, Q, D, tc, A, m⟩ := X
  obtain ⟨hx, hb, -⟩ := hX
  intro L H locs hL hS
  exact lv_irem hx hb hd (fun z => h0 ((i32_z hy0).mp z)) (by rw [e2]; exact k L H locs hL hS)
theorem am_i2b {x : Int} (hX : CX X) (hd : decode (m_cd (xm X)) pc = .ok (.i2b, 1)) (h1 : -128 ≤ x) (h2 : x ≤ 127) (k : TT X ad cells slots (pc + 1) ls (vI x :: st) h) : TT X ad cells slots pc ls (vI x :: st) h := by
  have hr : inR x := ⟨by omega, by omega⟩
  obtain ⟨p, l, e, R, s, mm, args, below, meth, c, Q, D, tc, A, m⟩ := X
  obtain ⟨hx, hb, -⟩ := hX
  intro L H locs hL hS
  exact lv_i2b (v := Int32.ofInt x) hx hb hd (i32_of hr (by rw [Int8.toInt_toInt32, Int32.toInt_toInt8, i32_eq hr]; exact Int.bmod_eq_of_le (by omega) (by omega))) (k L H locs hL hS)
theorem am_i2l {x : Int} (hX : CX X) (hd : decode (m_cd (xm X)) pc = .ok (.i2l, 1)) (hr : inR x) (k : TT X ad cells slots (pc + 1) ls (vL x :: st) h) : TT X ad cells slots pc ls (vI x :: st) h := by
  obtain ⟨p, l, e, R, s, mm, args, below, meth, c, Q, D, tc, A, m⟩ := X
  obtain ⟨hx, hb, -⟩ := hX
  intro L H locs hL hS
  exact lv_i2l (v := Int64.ofInt x) hx hb hd (Int64.toInt_inj.mp (by rw [Int32.toInt_toInt64, i32_eq hr, i64_eq ⟨by have := hr.1; omega, by have := hr.2; omega⟩])) (k L H locs hL hS)
theorem am_lcmp {x y : Int} (hX : CX X) (hd : decode (m_cd (xm X)) pc = .ok (.lcmp, 1)) (hx0 : inL x) (hy0 : inL y) (k : TT X ad cells slots (pc + 1) ls (vI (if y < x then 1 else if x = y then 0 else -1) :: st) h) : TT X ad cells slots pc ls (vL y :: vL x :: st) h := by
  have e1 : lg_cmp (Int64.ofInt x) (Int64.ofInt y) = Int32.ofInt (if y < x then 1 else if x = y then 0 else -1) := by
    unfold lg_cmp
    simp only [gt_iff_lt, Int64.lt_iff_toInt_lt, ← Int64.toInt_inj, i64_eq hx0, i64_eq hy0]
    split
    · rfl
    · split <;> rfl
  obtain ⟨p, l, e, R, s, mm, args, below, meth, c, Q, D, tc, A, m⟩ := X
  obtain ⟨hx, hb, -⟩ := hX
  intro L H locs hL hS
  exact W.lcmp hx hb hd (by rw [e1]; exact k L H locs hL hS)
theorem am_if {c0 : Jvm.ClassFile.Cond} {off x : Int} (hX : CX X) (hd : decode (m_cd (xm X)) pc = .ok (.ifCond c0 off, 3)) (ht : 0 ≤ tgt pc off) (hr : inR x) (k : TT X ad cells slots (if cop (rsc c0) x 0 then (tgt pc off).toNat else pc + 3) ls st h) : TT X ad cells slots pc ls (vI x :: st) h := by
  have ht' : (pc : Int) + off = ((tgt pc off).toNat : Int) := by rw [Int.toNat_of_nonneg ht]; rfl
  have z0 : (0 : Int32) = Int32.ofInt 0 := rfl
  obtain ⟨p, l, e, R, s, mm, args, below, meth, c, Q, D, tc, A, m⟩ := X
  obtain ⟨hx, hb, -⟩ := hX
  intro L H locs hL hS
  have kk := k L H locs hL hS
  cases c0
  · exact lv_if_eq hx hb hd ht' (fun q => by rw [if_pos (show cop (rsc .eq) x 0 from (i32_z hr).mp q)] at kk; exact kk) (fun q => by rw [if_neg (show ¬ cop (rsc .eq) x 0 from fun z => q ((i32_z hr).mpr z))] at kk; exact kk)
  · exact lv_if_ne hx hb hd ht' (fun q => by rw [if_pos (show cop (rsc .ne) x 0 from fun z => q ((i32_z hr).mpr z))] at kk; exact kk) (fun q => by rw [if_neg (show ¬ cop (rsc .ne) x 0 from fun z => z ((i32_z hr).mp q))] at kk; exact kk)
  · exact lv_if_lt hx hb hd ht' (fun q => by rw [if_pos (show cop (rsc .lt) x 0 from (i32_lt hr in0).mp q)] at kk; exact kk) (fun q => by rw [if_neg (show ¬ cop (rsc .lt) x 0 from fun z => q ((i32_lt hr in0).mpr z))] at kk; exact kk)
  · exact lv_if_ge hx hb hd ht' (fun q => by rw [if_pos (show cop (rsc .ge) x 0 from (i32_le in0 hr).mp q)] at kk; exact kk) (fun q => by rw [if_neg (show ¬ cop (rsc .ge) x 0 from fun z => q ((i32_le in0 hr).mpr z))] at kk; exact kk)
  · exact lv_if_gt hx hb hd ht' (fun q => by rw [if_pos (show cop (rsc .gt) x 0 from (i32_lt in0 hr).mp q)] at kk; exact kk) (fun q => by rw [if_neg (show ¬ cop (rsc .gt) x 0 from fun z => q ((i32_lt in0 hr).mpr z))] at kk; exact kk)
  · exact lv_if_le hx hb hd ht' (fun q => by rw [if_pos (show cop (rsc .le) x 0 from (i32_le hr in0).mp q)] at kk; exact kk) (fun q => by rw [if_neg (show ¬ cop (rsc .le) x 0 from fun z => q ((i32_le hr in0).mpr z))] at kk; exact kk)
theorem am_icmp {c0 : Jvm.ClassFile.Cond} {off x y : Int} (hX : CX X) (hd : decode (m_cd (xm X)) pc = .ok (.if_icmp c0 off, 3)) (ht : 0 ≤ tgt pc off) (hr : inR x) (hy : inR y) (k : TT X ad cells slots (if cop (rsc c0) x y then (tgt pc off).toNat else pc + 3) ls st h) : TT X ad cells slots pc ls (vI y :: vI x :: st) h := by
  have ht' : (pc : Int) + off = ((tgt pc off).toNat : Int) := by rw [Int.toNat_of_nonneg ht]; rfl
  obtain ⟨p, l, e, R, s, mm, args, below, meth, c, Q, D, tc, A, m⟩ := X
  obtain ⟨hx, hb, -⟩ := hX
  intro L H locs hL hS
  have kk := k L H locs hL hS
  cases c0
  · exact lv_icmp_eq hx hb hd ht' (fun q => by rw [if_pos (show cop (rsc .eq) x y from (i32_inj hr hy).mp q)] at kk; exact kk) (fun q => by rw [if_neg (show ¬ cop (rsc .eq) x y from fun z => q ((i32_inj hr hy).mpr z))] at kk; exact kk)
  · exact lv_icmp_ne hx hb hd ht' (fun q => by rw [if_pos (show cop (rsc .ne) x y from fun z => q ((i32_inj hr hy).mpr z))] at kk; exact kk) (fun q => by rw [if_neg (show ¬ cop (rsc .ne) x y from fun z => z ((i32_inj hr hy).mp q))] at kk; exact kk)
  · exact lv_icmp_lt hx hb hd ht' (fun q => by rw [if_pos (show cop (rsc .lt) x y from (i32_lt hr hy).mp q)] at kk; exact kk) (fun q => by rw [if_neg (show ¬ cop (rsc .lt) x y from fun z => q ((i32_lt hr hy).mpr z))] at kk; exact kk)
  · exact lv_icmp_ge hx hb hd ht' (fun q => by rw [if_pos (show cop (rsc .ge) x y from (i32_le hy hr).mp q)] at kk; exact kk) (fun q => by rw [if_neg (show ¬ cop (rsc .ge) x y from fun z => q ((i32_le hy hr).mpr z))] at kk; exact kk)
  · exact lv_icmp_gt hx hb hd ht' (fun q => by rw [if_pos (show cop (rsc .gt) x y from (i32_lt hy hr).mp q)] at kk; exact kk) (fun q => by rw [if_neg (show ¬ cop (rsc .gt) x y from fun z => q ((i32_lt hy hr).mpr z))] at kk; exact kk)
  · exact lv_icmp_le hx hb hd ht' (fun q => by rw [if_pos (show cop (rsc .le) x y from (i32_le hr hy).mp q)] at kk; exact kk) (fun q => by rw [if_neg (show ¬ cop (rsc .le) x y from fun z => q ((i32_le hr hy).mpr z))] at kk; exact kk)
theorem am_goto {off : Int} (hX : CX X) (hd : decode (m_cd (xm X)) pc = .ok (.goto off, 3)) (ht : 0 ≤ tgt pc off) (k : TT X ad cells slots (tgt pc off).toNat ls st h) : TT X ad cells slots pc ls st h := by
  have ht' : (pc : Int) + off = ((tgt pc off).toNat : Int) := by rw [Int.toNat_of_nonneg ht]; rfl
  obtain ⟨p, l, e, R, s, mm, args, below, meth, c, Q, D, tc, A, m⟩ := X
  obtain ⟨hx, hb, -⟩ := hX
  intro L H locs hL hS
  exact lv_goto hx hb hd ht' (k L H locs hL hS)
theorem am_dupI {x : Int} (hX : CX X) (hd : decode (m_cd (xm X)) pc = .ok (.dup, 1)) (k : TT X ad cells slots (pc + 1) ls (vI x :: vI x :: st) h) : TT X ad cells slots pc ls (vI x :: st) h := by
  obtain ⟨p, l, e, R, s, mm, args, below, meth, c, Q, D, tc, A, m⟩ := X
  obtain ⟨hx, hb, -⟩ := hX
  intro L H locs hL hS
  exact lv_dup hx hb hd rfl (k L H locs hL hS)
theorem am_dupR {x : Nat} (hX : CX X) (hd : decode (m_cd (xm X)) pc = .ok (.dup, 1)) (k : TT X ad cells slots (pc + 1) ls (vR x :: vR x :: st) h) : TT X ad cells slots pc ls (vR x :: st) h := by
  obtain ⟨p, l, e, R, s, mm, args, below, meth, c, Q, D, tc, A, m⟩ := X
  obtain ⟨hx, hb, -⟩ := hX
  intro L H locs hL hS
  exact lv_dup hx hb hd rfl (k L H locs hL hS)
theorem am_dup2 {y : Int} {x : Nat} (hX : CX X) (hd : decode (m_cd (xm X)) pc = .ok (.dup2, 1)) (k : TT X ad cells slots (pc + 1) ls (vI y :: vR x :: vI y :: vR x :: st) h) : TT X ad cells slots pc ls (vI y :: vR x :: st) h := by
  obtain ⟨p, l, e, R, s, mm, args, below, meth, c, Q, D, tc, A, m⟩ := X
  obtain ⟨hx, hb, -⟩ := hX
  intro L H locs hL hS
  exact lv_dup2_11 hx hb hd rfl rfl (k L H locs hL hS)
theorem am_pop {y : Int} (hX : CX X) (hd : decode (m_cd (xm X)) pc = .ok (.pop, 1)) (k : TT X ad cells slots (pc + 1) ls st h) : TT X ad cells slots pc ls (vI y :: st) h := by
  obtain ⟨p, l, e, R, s, mm, args, below, meth, c, Q, D, tc, A, m⟩ := X
  obtain ⟨hx, hb, -⟩ := hX
  intro L H locs hL hS
  exact lv_pop hx hb hd rfl (k L H locs hL hS)
end OPS
