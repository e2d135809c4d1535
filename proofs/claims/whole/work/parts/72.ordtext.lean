/-! level 2: an order's text (laid by program) -/
def od1 (T : Nat → Int) (n : Nat) (s : PS) : PS × Int := nmC T n 3 0 40 s
def od2 (T : Nat → Int) (n : Nat) (s : PS) : PS := sgC T n 44 (od1 T n s).1
def od3 (T : Nat → Int) (n : Nat) (s : PS) : PS × Int := nmC T n 3 0 40 (od2 T n s)
def od4 (T : Nat → Int) (n : Nat) (s : PS) : PS := sgC T n 64 (od3 T n s).1
def od5 (T : Nat → Int) (n : Nat) (s : PS) : PS × Int := nmC T n 3 0 600 (od4 T n s)
def od6 (T : Nat → Int) (n : Nat) (s : PS) : PS := sgC T n 45 (od5 T n s).1
def od7 (T : Nat → Int) (n : Nat) (s : PS) : PS × Int := nmC T n 3 (od5 T n s).2 600 (od6 T n s)
def od8 (T : Nat → Int) (n : Nat) (s : PS) : PS := sgC T n 47 (od7 T n s).1
def od9 (T : Nat → Int) (n : Nat) (s : PS) : PS × Int := nmC T n 3 0 60 (od8 T n s)
def od10 (T : Nat → Int) (n : Nat) (s : PS) : PS × Int := ldC T n 100 (od9 T n s).1
def od11 (T : Nat → Int) (n : Nat) (s : PS) : PS × Int := ldC T n 117 (od10 T n s).1
def odS (T : Nat → Int) (n : Nat) (s : PS) : PS := (od11 T n s).1
def odV (T : Nat → Int) (n : Nat) (s : PS) : Nat → Int
  | 0 => (od1 T n s).2
  | 1 => (od3 T n s).2
  | 2 => (od5 T n s).2
  | 3 => (od7 T n s).2
  | 4 => (od9 T n s).2
  | 5 => (od10 T n s).2
  | 6 => (od11 T n s).2
  | _ => 500
theorem od1_ok {T : Nat → Int} {n : Nat} {s : PS} (h : okP n s) : okP n (od1 T n s).1 := (nm_ok (by omega) h).1
theorem od2_ok {T : Nat → Int} {n : Nat} {s : PS} (h : okP n s) : okP n (od2 T n s) := sg_ok (by decide) (od1_ok h)
theorem od3_ok {T : Nat → Int} {n : Nat} {s : PS} (h : okP n s) : okP n (od3 T n s).1 := (nm_ok (by omega) (od2_ok h)).1
theorem od4_ok {T : Nat → Int} {n : Nat} {s : PS} (h : okP n s) : okP n (od4 T n s) := sg_ok (by decide) (od3_ok h)
theorem od5_ok {T : Nat → Int} {n : Nat} {s : PS} (h : okP n s) : okP n (od5 T n s).1 := (nm_ok (by omega) (od4_ok h)).1
theorem od6_ok {T : Nat → Int} {n : Nat} {s : PS} (h : okP n s) : okP n (od6 T n s) := sg_ok (by decide) (od5_ok h)
theorem od7_ok {T : Nat → Int} {n : Nat} {s : PS} (h : okP n s) : okP n (od7 T n s).1 := (nm_ok (by omega) (od6_ok h)).1
theorem od8_ok {T : Nat → Int} {n : Nat} {s : PS} (h : okP n s) : okP n (od8 T n s) := sg_ok (by decide) (od7_ok h)
theorem od9_ok {T : Nat → Int} {n : Nat} {s : PS} (h : okP n s) : okP n (od9 T n s).1 := (nm_ok (by omega) (od8_ok h)).1
theorem od10_ok {T : Nat → Int} {n : Nat} {s : PS} (h : okP n s) : okP n (od10 T n s).1 := (ld_ok (by decide) (od9_ok h)).1
theorem od11_ok {T : Nat → Int} {n : Nat} {s : PS} (h : okP n s) : okP n (od11 T n s).1 := (ld_ok (by decide) (od10_ok h)).1
theorem od11_l {T : Nat → Int} {n q : Nat} {s : PS} (h : (od11 T n s).1 = .inl q) : odS T n s = .inl q := h
theorem od10_l {T : Nat → Int} {n q : Nat} {s : PS} (h : (od10 T n s).1 = .inl q) : odS T n s = .inl q := od11_l (by unfold od11; rw [h]; rfl)
theorem od9_l {T : Nat → Int} {n q : Nat} {s : PS} (h : (od9 T n s).1 = .inl q) : odS T n s = .inl q := od10_l (by unfold od10; rw [h]; rfl)
theorem od8_l {T : Nat → Int} {n q : Nat} {s : PS} (h : (od8 T n s) = .inl q) : odS T n s = .inl q := od9_l (by unfold od9; rw [h]; rfl)
theorem od7_l {T : Nat → Int} {n q : Nat} {s : PS} (h : (od7 T n s).1 = .inl q) : odS T n s = .inl q := od8_l (by unfold od8; rw [h]; rfl)
theorem od6_l {T : Nat → Int} {n q : Nat} {s : PS} (h : (od6 T n s) = .inl q) : odS T n s = .inl q := od7_l (by unfold od7; rw [h]; rfl)
theorem od5_l {T : Nat → Int} {n q : Nat} {s : PS} (h : (od5 T n s).1 = .inl q) : odS T n s = .inl q := od6_l (by unfold od6; rw [h]; rfl)
theorem od4_l {T : Nat → Int} {n q : Nat} {s : PS} (h : (od4 T n s) = .inl q) : odS T n s = .inl q := od5_l (by unfold od5; rw [h]; rfl)
theorem od3_l {T : Nat → Int} {n q : Nat} {s : PS} (h : (od3 T n s).1 = .inl q) : odS T n s = .inl q := od4_l (by unfold od4; rw [h]; rfl)
theorem od2_l {T : Nat → Int} {n q : Nat} {s : PS} (h : (od2 T n s) = .inl q) : odS T n s = .inl q := od3_l (by unfold od3; rw [h]; rfl)
theorem od1_l {T : Nat → Int} {n q : Nat} {s : PS} (h : (od1 T n s).1 = .inl q) : odS T n s = .inl q := od2_l (by unfold od2; rw [h]; rfl)
theorem od0_l {T : Nat → Int} {n q : Nat} {s : PS} (h : s = .inl q) : odS T n s = .inl q := od1_l (by unfold od1; rw [h]; rfl)
theorem od_inr {T : Nat → Int} {n p' : Nat} {s : PS} (h : okP n s) (e : odS T n s = .inr p') : ∃ p, s = .inr p ∧ p + 9 ≤ p' ∧ p' ≤ n ∧ OT (odV T n s) := by
  obtain ⟨p11, a11, b11, m11, v11⟩ := ld_inr (by decide) (od10_ok h) e
  obtain ⟨p10, a10, b10, m10, v10⟩ := ld_inr (by decide) (od9_ok h) a11
  obtain ⟨p9, a9, b9, m9, v9⟩ := nm_inr (by omega) (od8_ok h) a10
  obtain ⟨p8, a8, b8, m8⟩ := sg_inr a9
  obtain ⟨p7, a7, b7, m7, v7⟩ := nm_inr (by omega) (od6_ok h) a8
  obtain ⟨p6, a6, b6, m6⟩ := sg_inr a7
  obtain ⟨p5, a5, b5, m5, v5⟩ := nm_inr (by omega) (od4_ok h) a6
  obtain ⟨p4, a4, b4, m4⟩ := sg_inr a5
  obtain ⟨p3, a3, b3, m3, v3⟩ := nm_inr (by omega) (od2_ok h) a4
  obtain ⟨p2, a2, b2, m2⟩ := sg_inr a3
  obtain ⟨p1, a1, b1, m1, v1⟩ := nm_inr (by omega) h a2
  refine ⟨p1, a1, by omega, m11, v1, v3, ?_, v9, v10, v11, by show (0 : Int) ≤ 500 ∧ (500 : Int) ≤ 9999; omega⟩
  show 0 ≤ (od5 T n s).2 ∧ (od5 T n s).2 ≤ (od7 T n s).2 ∧ (od7 T n s).2 ≤ 600
  exact ⟨v5.1, v7⟩
theorem s0_lots : ∀ i, i < 17 → S0[214 + i]? = some (100, 7, []) := by decide
theorem c_order {T : Nat → Int} {n q : Nat} {s : PS} {J : IM} {K : Option AV → IM → Prop} (f1 : S0[q]? = some (100, 7, [])) (hq : 213 < q) (hB : TB T n) (hT : CTp T n J) (hs : RD s J) (ho : okP n s) (h : ∀ J', (∀ p j, (p ≠ 212 ∨ (j ≠ 1 ∧ j ≠ 2)) → p ≠ q → J' p j = J p j) → RD (odS T n s) J' → (∀ w, w < 7 → J' q w = odV T n s w) → K none J') : CALL S0 32 [vR 212, vR q] J K := by
  refine e32 f1 ?_
  unfold D32_0
  rw [if_pos (by decide)]
  have f0 : ∀ p j, (p ≠ 212 ∨ (j ≠ 1 ∧ j ≠ 2)) → p ≠ q → J p j = J p j := fun _ _ _ _ => rfl
  have r0 : RD s J := hs
  have t0 := hT
  refine c_number (f := 3) (by omega) hB t0 r0 ho fun A1 ga1 ra1 => ⟨_, rfl, fun B1 eb1 => ?_⟩
  have f1 : ∀ p j, (p ≠ 212 ∨ (j ≠ 1 ∧ j ≠ 2)) → p ≠ q → B1 p j = J p j := fun p j a b => by rw [eb1, iup_ne (Or.inl b)]; exact (ga1 p j a).trans (f0 p j a b)
  have r1 : RD (od1 T n s).1 B1 := RD_fr ra1 (fun j => by rw [eb1, iup_ne (Or.inl (by omega))])
  have x0 : B1 q 0 = odV T n s 0 := by rw [eb1, iup_same]; rfl
  have t1 : CTp T n B1 := CTp_fr hT (fun p j a => f1 p j (by omega) (by omega))
  refine c_pass hB t1 r1 (od1_ok ho) fun A2 ga2 ra2 => ⟨rfl, ?_⟩
  have f2 : ∀ p j, (p ≠ 212 ∨ (j ≠ 1 ∧ j ≠ 2)) → p ≠ q → A2 p j = J p j := fun p j a b => (ga2 p j a).trans (f1 p j a b)
  have r2 : RD (od2 T n s) A2 := ra2
  replace x0 : A2 q 0 = odV T n s 0 := (ga2 q 0 (Or.inl (by omega))).trans x0
  have t2 : CTp T n A2 := CTp_fr hT (fun p j a => f2 p j (by omega) (by omega))
  refine c_number (f := 3) (by omega) hB t2 r2 (od2_ok ho) fun A3 ga3 ra3 => ⟨_, rfl, fun B3 eb3 => ?_⟩
  have f3 : ∀ p j, (p ≠ 212 ∨ (j ≠ 1 ∧ j ≠ 2)) → p ≠ q → B3 p j = J p j := fun p j a b => by rw [eb3, iup_ne (Or.inl b)]; exact (ga3 p j a).trans (f2 p j a b)
  have r3 : RD (od3 T n s).1 B3 := RD_fr ra3 (fun j => by rw [eb3, iup_ne (Or.inl (by omega))])
  replace x0 : B3 q 0 = odV T n s 0 := by rw [eb3, iup_ne (Or.inr (by decide))]; exact (ga3 q 0 (Or.inl (by omega))).trans x0
  have x1 : B3 q 1 = odV T n s 1 := by rw [eb3, iup_same]; rfl
  have t3 : CTp T n B3 := CTp_fr hT (fun p j a => f3 p j (by omega) (by omega))
  refine c_pass hB t3 r3 (od3_ok ho) fun A4 ga4 ra4 => ⟨rfl, ?_⟩
  have f4 : ∀ p j, (p ≠ 212 ∨ (j ≠ 1 ∧ j ≠ 2)) → p ≠ q → A4 p j = J p j := fun p j a b => (ga4 p j a).trans (f3 p j a b)
  have r4 : RD (od4 T n s) A4 := ra4
  replace x0 : A4 q 0 = odV T n s 0 := (ga4 q 0 (Or.inl (by omega))).trans x0
  replace x1 : A4 q 1 = odV T n s 1 := (ga4 q 1 (Or.inl (by omega))).trans x1
  have t4 : CTp T n A4 := CTp_fr hT (fun p j a => f4 p j (by omega) (by omega))
  refine c_number (f := 3) (by omega) hB t4 r4 (od4_ok ho) fun A5 ga5 ra5 => ⟨_, rfl, fun B5 eb5 => ?_⟩
  have f5 : ∀ p j, (p ≠ 212 ∨ (j ≠ 1 ∧ j ≠ 2)) → p ≠ q → B5 p j = J p j := fun p j a b => by rw [eb5, iup_ne (Or.inl b)]; exact (ga5 p j a).trans (f4 p j a b)
  have r5 : RD (od5 T n s).1 B5 := RD_fr ra5 (fun j => by rw [eb5, iup_ne (Or.inl (by omega))])
  replace x0 : B5 q 0 = odV T n s 0 := by rw [eb5, iup_ne (Or.inr (by decide))]; exact (ga5 q 0 (Or.inl (by omega))).trans x0
  replace x1 : B5 q 1 = odV T n s 1 := by rw [eb5, iup_ne (Or.inr (by decide))]; exact (ga5 q 1 (Or.inl (by omega))).trans x1
  have x2 : B5 q 2 = odV T n s 2 := by rw [eb5, iup_same]; rfl
  have t5 : CTp T n B5 := CTp_fr hT (fun p j a => f5 p j (by omega) (by omega))
  refine c_pass hB t5 r5 (od5_ok ho) fun A6 ga6 ra6 => ⟨rfl, ?_⟩
  have f6 : ∀ p j, (p ≠ 212 ∨ (j ≠ 1 ∧ j ≠ 2)) → p ≠ q → A6 p j = J p j := fun p j a b => (ga6 p j a).trans (f5 p j a b)
  have r6 : RD (od6 T n s) A6 := ra6
  replace x0 : A6 q 0 = odV T n s 0 := (ga6 q 0 (Or.inl (by omega))).trans x0
  replace x1 : A6 q 1 = odV T n s 1 := (ga6 q 1 (Or.inl (by omega))).trans x1
  replace x2 : A6 q 2 = odV T n s 2 := (ga6 q 2 (Or.inl (by omega))).trans x2
  have t6 : CTp T n A6 := CTp_fr hT (fun p j a => f6 p j (by omega) (by omega))
  rw [x2]
  refine c_number (f := 3) (by omega) hB t6 r6 (od6_ok ho) fun A7 ga7 ra7 => ⟨_, rfl, fun B7 eb7 => ?_⟩
  have f7 : ∀ p j, (p ≠ 212 ∨ (j ≠ 1 ∧ j ≠ 2)) → p ≠ q → B7 p j = J p j := fun p j a b => by rw [eb7, iup_ne (Or.inl b)]; exact (ga7 p j a).trans (f6 p j a b)
  have r7 : RD (od7 T n s).1 B7 := RD_fr ra7 (fun j => by rw [eb7, iup_ne (Or.inl (by omega))])
  replace x0 : B7 q 0 = odV T n s 0 := by rw [eb7, iup_ne (Or.inr (by decide))]; exact (ga7 q 0 (Or.inl (by omega))).trans x0
  replace x1 : B7 q 1 = odV T n s 1 := by rw [eb7, iup_ne (Or.inr (by decide))]; exact (ga7 q 1 (Or.inl (by omega))).trans x1
  replace x2 : B7 q 2 = odV T n s 2 := by rw [eb7, iup_ne (Or.inr (by decide))]; exact (ga7 q 2 (Or.inl (by omega))).trans x2
  have x3 : B7 q 3 = odV T n s 3 := by rw [eb7, iup_same]; rfl
  have t7 : CTp T n B7 := CTp_fr hT (fun p j a => f7 p j (by omega) (by omega))
  refine c_pass hB t7 r7 (od7_ok ho) fun A8 ga8 ra8 => ⟨rfl, ?_⟩
  have f8 : ∀ p j, (p ≠ 212 ∨ (j ≠ 1 ∧ j ≠ 2)) → p ≠ q → A8 p j = J p j := fun p j a b => (ga8 p j a).trans (f7 p j a b)
  have r8 : RD (od8 T n s) A8 := ra8
  replace x0 : A8 q 0 = odV T n s 0 := (ga8 q 0 (Or.inl (by omega))).trans x0
  replace x1 : A8 q 1 = odV T n s 1 := (ga8 q 1 (Or.inl (by omega))).trans x1
  replace x2 : A8 q 2 = odV T n s 2 := (ga8 q 2 (Or.inl (by omega))).trans x2
  replace x3 : A8 q 3 = odV T n s 3 := (ga8 q 3 (Or.inl (by omega))).trans x3
  have t8 : CTp T n A8 := CTp_fr hT (fun p j a => f8 p j (by omega) (by omega))
  refine c_number (f := 3) (by omega) hB t8 r8 (od8_ok ho) fun A9 ga9 ra9 => ⟨_, rfl, fun B9 eb9 => ?_⟩
  have f9 : ∀ p j, (p ≠ 212 ∨ (j ≠ 1 ∧ j ≠ 2)) → p ≠ q → B9 p j = J p j := fun p j a b => by rw [eb9, iup_ne (Or.inl b)]; exact (ga9 p j a).trans (f8 p j a b)
  have r9 : RD (od9 T n s).1 B9 := RD_fr ra9 (fun j => by rw [eb9, iup_ne (Or.inl (by omega))])
  replace x0 : B9 q 0 = odV T n s 0 := by rw [eb9, iup_ne (Or.inr (by decide))]; exact (ga9 q 0 (Or.inl (by omega))).trans x0
  replace x1 : B9 q 1 = odV T n s 1 := by rw [eb9, iup_ne (Or.inr (by decide))]; exact (ga9 q 1 (Or.inl (by omega))).trans x1
  replace x2 : B9 q 2 = odV T n s 2 := by rw [eb9, iup_ne (Or.inr (by decide))]; exact (ga9 q 2 (Or.inl (by omega))).trans x2
  replace x3 : B9 q 3 = odV T n s 3 := by rw [eb9, iup_ne (Or.inr (by decide))]; exact (ga9 q 3 (Or.inl (by omega))).trans x3
  have x4 : B9 q 4 = odV T n s 4 := by rw [eb9, iup_same]; rfl
  have t9 : CTp T n B9 := CTp_fr hT (fun p j a => f9 p j (by omega) (by omega))
  refine c_load (by decide) hB t9 r9 (od9_ok ho) fun A10 ga10 ra10 => ⟨_, rfl, fun B10 eb10 => ?_⟩
  have f10 : ∀ p j, (p ≠ 212 ∨ (j ≠ 1 ∧ j ≠ 2)) → p ≠ q → B10 p j = J p j := fun p j a b => by rw [eb10, iup_ne (Or.inl b)]; exact (ga10 p j a).trans (f9 p j a b)
  have r10 : RD (od10 T n s).1 B10 := RD_fr ra10 (fun j => by rw [eb10, iup_ne (Or.inl (by omega))])
  replace x0 : B10 q 0 = odV T n s 0 := by rw [eb10, iup_ne (Or.inr (by decide))]; exact (ga10 q 0 (Or.inl (by omega))).trans x0
  replace x1 : B10 q 1 = odV T n s 1 := by rw [eb10, iup_ne (Or.inr (by decide))]; exact (ga10 q 1 (Or.inl (by omega))).trans x1
  replace x2 : B10 q 2 = odV T n s 2 := by rw [eb10, iup_ne (Or.inr (by decide))]; exact (ga10 q 2 (Or.inl (by omega))).trans x2
  replace x3 : B10 q 3 = odV T n s 3 := by rw [eb10, iup_ne (Or.inr (by decide))]; exact (ga10 q 3 (Or.inl (by omega))).trans x3
  replace x4 : B10 q 4 = odV T n s 4 := by rw [eb10, iup_ne (Or.inr (by decide))]; exact (ga10 q 4 (Or.inl (by omega))).trans x4
  have x5 : B10 q 5 = odV T n s 5 := by rw [eb10, iup_same]; rfl
  have t10 : CTp T n B10 := CTp_fr hT (fun p j a => f10 p j (by omega) (by omega))
  refine c_load (by decide) hB t10 r10 (od10_ok ho) fun A11 ga11 ra11 => ⟨_, rfl, fun B11 eb11 => ?_⟩
  have f11 : ∀ p j, (p ≠ 212 ∨ (j ≠ 1 ∧ j ≠ 2)) → p ≠ q → B11 p j = J p j := fun p j a b => by rw [eb11, iup_ne (Or.inl b)]; exact (ga11 p j a).trans (f10 p j a b)
  have r11 : RD (od11 T n s).1 B11 := RD_fr ra11 (fun j => by rw [eb11, iup_ne (Or.inl (by omega))])
  replace x0 : B11 q 0 = odV T n s 0 := by rw [eb11, iup_ne (Or.inr (by decide))]; exact (ga11 q 0 (Or.inl (by omega))).trans x0
  replace x1 : B11 q 1 = odV T n s 1 := by rw [eb11, iup_ne (Or.inr (by decide))]; exact (ga11 q 1 (Or.inl (by omega))).trans x1
  replace x2 : B11 q 2 = odV T n s 2 := by rw [eb11, iup_ne (Or.inr (by decide))]; exact (ga11 q 2 (Or.inl (by omega))).trans x2
  replace x3 : B11 q 3 = odV T n s 3 := by rw [eb11, iup_ne (Or.inr (by decide))]; exact (ga11 q 3 (Or.inl (by omega))).trans x3
  replace x4 : B11 q 4 = odV T n s 4 := by rw [eb11, iup_ne (Or.inr (by decide))]; exact (ga11 q 4 (Or.inl (by omega))).trans x4
  replace x5 : B11 q 5 = odV T n s 5 := by rw [eb11, iup_ne (Or.inr (by decide))]; exact (ga11 q 5 (Or.inl (by omega))).trans x5
  have x6 : B11 q 6 = odV T n s 6 := by rw [eb11, iup_same]; rfl
  have t11 : CTp T n B11 := CTp_fr hT (fun p j a => f11 p j (by omega) (by omega))
  refine h _ f11 r11 fun w hw => ?_
  rcases (show w = 0 ∨ w = 1 ∨ w = 2 ∨ w = 3 ∨ w = 4 ∨ w = 5 ∨ w = 6 by omega) with e | e | e | e | e | e | e <;> subst e
  · exact x0
  · exact x1
  · exact x2
  · exact x3
  · exact x4
  · exact x5
  · exact x6
