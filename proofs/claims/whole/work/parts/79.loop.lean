/-! level 2: the law's loop (laid by program) -/
theorem s0_len : S0.length ≤ 1000 := by decide +kernel
/-- a run leaves the script as it is -/
theorem c_sc {m : Nat} {as : List AV} {I : IM} {K : Option AV → IM → Prop} (h : CALL S0 m as I K) : CALL S0 m as I (fun v J => K v J ∧ SC I J) := by
  obtain ⟨f, v, J, e, k⟩ := h
  exact ⟨f, v, J, e, k, (arun_ps _ _ _ _ _ _ _ _ e s0_len).2⟩
def LB (x3 : Int) (I : IM) : Prop := 0 ≤ x3 ∧ x3 + 6 ≤ I 1001 0 ∧ I 1001 0 ≤ 3072 ∧ ∀ k, inR (I 1000 k)
theorem ite_c {c : Prop} [Decidable c] {a b : Prop} (ha : a) (hb : b) : if c then a else b := by split <;> assumption
theorem o_236 {x3 : Int} {I : IM} {K : Option AV → IM → Prop} (h : REL I) (b : LB x3 I) (hK : ∀ J, REL J → SC I J → D0_1720 x3 J K) : D0_236 x3 I K := by
  unfold D0_236
  obtain ⟨b1, b2, b3, b4⟩ := id b
  refine ⟨by unfold inR; omega, by omega, by unfold inR; omega, by omega, GO.imp (c_sc (s_depot h)) (fun v J q => ?_)⟩
  obtain ⟨⟨a, e, q⟩, sc⟩ := q
  rw [sc 1001 0 (by decide), sc 1000 (x3 + 1).toNat (by decide), sc 1000 (x3 + 2).toNat (by decide)]
  refine ⟨a, e, by omega, by omega, GO.imp q (fun v2 J2 r => ?_)⟩
  obtain ⟨e2, rl, s2⟩ := r
  exact ⟨a, e2, by rw [if_pos rfl]; exact hK J2 rl s2⟩
theorem o_269 {x3 : Int} {I : IM} {K : Option AV → IM → Prop} (h : REL I) (b : LB x3 I) (hK : ∀ J, REL J → SC I J → D0_1720 x3 J K) : D0_269 x3 I K := by
  unfold D0_269
  obtain ⟨b1, b2, b3, b4⟩ := id b
  refine ⟨by unfold inR; omega, by omega, by unfold inR; omega, by omega, by unfold inR; omega, by omega, by unfold inR; omega, by omega, by unfold inR; omega, by omega, GO.imp (c_sc (s_order h)) (fun v J q => ?_)⟩
  obtain ⟨⟨a, e, q⟩, sc⟩ := q
  rw [sc 1001 0 (by decide), sc 1000 (x3 + 1).toNat (by decide), sc 1000 (x3 + 2).toNat (by decide), sc 1000 (x3 + 3).toNat (by decide), sc 1000 (x3 + 4).toNat (by decide), sc 1000 (x3 + 5).toNat (by decide)]
  refine ⟨a, e, by omega, by omega, by omega, by omega, by omega, GO.imp q (fun v2 J2 r => ?_)⟩
  obtain ⟨e2, rl, s2⟩ := r
  exact ⟨a, e2, by rw [if_pos rfl]; exact hK J2 rl s2⟩
theorem o_332 {x3 : Int} {I : IM} {K : Option AV → IM → Prop} (h : REL I) (b : LB x3 I) (hK : ∀ J, REL J → SC I J → D0_1720 x3 J K) : D0_332 x3 I K := by
  unfold D0_332
  obtain ⟨b1, b2, b3, b4⟩ := id b
  refine ⟨by unfold inR; omega, by omega, by unfold inR; omega, by omega, by unfold inR; omega, by omega, GO.imp (c_sc (s_load h)) (fun v J q => ?_)⟩
  obtain ⟨⟨a, e, q⟩, sc⟩ := q
  rw [sc 1001 0 (by decide), sc 1000 (x3 + 1).toNat (by decide), sc 1000 (x3 + 2).toNat (by decide), sc 1000 (x3 + 3).toNat (by decide)]
  refine ⟨a, e, by omega, by omega, by omega, GO.imp q (fun v2 J2 r => ?_)⟩
  obtain ⟨e2, rl, s2⟩ := r
  exact ⟨a, e2, by rw [if_pos rfl]; exact hK J2 rl s2⟩
theorem o_375 {x3 : Int} {I : IM} {K : Option AV → IM → Prop} (h : REL I) (b : LB x3 I) (hK : ∀ J, REL J → SC I J → D0_1720 x3 J K) : D0_375 x3 I K := by
  unfold D0_375
  obtain ⟨b1, b2, b3, b4⟩ := id b
  refine ⟨by unfold inR; omega, by omega, by unfold inR; omega, by omega, by unfold inR; omega, by omega, by unfold inR; omega, by omega, GO.imp (c_sc (s_van h)) (fun v J q => ?_)⟩
  obtain ⟨⟨a, e, q⟩, sc⟩ := q
  rw [sc 1001 0 (by decide), sc 1000 (x3 + 1).toNat (by decide), sc 1000 (x3 + 2).toNat (by decide), sc 1000 (x3 + 3).toNat (by decide), sc 1000 (x3 + 4).toNat (by decide)]
  refine ⟨a, e, by omega, by omega, by omega, by omega, GO.imp q (fun v2 J2 r => ?_)⟩
  obtain ⟨e2, rl, s2⟩ := r
  exact ⟨a, e2, by rw [if_pos rfl]; exact hK J2 rl s2⟩
theorem o_428 {x3 : Int} {I : IM} {K : Option AV → IM → Prop} (h : REL I) (b : LB x3 I) (hK : ∀ J, REL J → SC I J → D0_1720 x3 J K) : D0_428 x3 I K := by
  unfold D0_428
  obtain ⟨b1, b2, b3, b4⟩ := id b
  refine ⟨by unfold inR; omega, by omega, by unfold inR; omega, by omega, GO.imp (c_sc (s_price h)) (fun v J q => ?_)⟩
  obtain ⟨⟨a, e, q⟩, sc⟩ := q
  rw [sc 1001 0 (by decide), sc 1000 (x3 + 1).toNat (by decide), sc 1000 (x3 + 2).toNat (by decide)]
  refine ⟨a, e, by omega, by omega, GO.imp q (fun v2 J2 r => ?_)⟩
  obtain ⟨e2, rl, s2⟩ := r
  exact ⟨a, e2, by rw [if_pos rfl]; exact hK J2 rl s2⟩
theorem o_461 {x3 : Int} {I : IM} {K : Option AV → IM → Prop} (h : REL I) (b : LB x3 I) (hK : ∀ J, REL J → SC I J → D0_1720 x3 J K) : D0_461 x3 I K := by
  unfold D0_461
  obtain ⟨b1, b2, b3, b4⟩ := id b
  refine ⟨by unfold inR; omega, by omega, GO.imp (c_sc (s_feed h)) (fun v J q => ?_)⟩
  obtain ⟨⟨a, e, q⟩, sc⟩ := q
  rw [sc 1001 0 (by decide), sc 1000 (x3 + 1).toNat (by decide)]
  refine ⟨a, e, by omega, GO.imp q (fun v2 J2 r => ?_)⟩
  obtain ⟨e2, rl, s2⟩ := r
  exact ⟨a, e2, by rw [if_pos rfl]; exact hK J2 rl s2⟩
theorem o_484 {x3 : Int} {I : IM} {K : Option AV → IM → Prop} (h : REL I) (b : LB x3 I) (hK : ∀ J, REL J → SC I J → D0_1720 x3 J K) : D0_484 x3 I K := by
  unfold D0_484
  refine GO.imp (c_sc (s_clear h)) (fun v J q => ?_)
  obtain ⟨⟨a, e, q⟩, sc⟩ := q
  refine ⟨a, e, GO.imp q (fun v2 J2 r => ?_)⟩
  obtain ⟨e2, rl, s2⟩ := r
  exact ⟨a, e2, by rw [if_pos rfl]; exact hK J2 rl s2⟩
theorem o_497 {x3 : Int} {I : IM} {K : Option AV → IM → Prop} (h : REL I) (b : LB x3 I) (hK : ∀ J, REL J → SC I J → D0_1720 x3 J K) : D0_497 x3 I K := by
  unfold D0_497
  refine GO.imp (c_sc (s_orders h)) (fun v J q => ?_)
  obtain ⟨⟨a, e, q⟩, sc⟩ := q
  refine ⟨a, e, GO.imp q (fun v2 J2 r => ?_)⟩
  obtain ⟨e2, rl, s2⟩ := r
  exact ⟨a, e2, by rw [if_pos rfl]; exact hK J2 rl s2⟩
theorem o_510 {x3 : Int} {I : IM} {K : Option AV → IM → Prop} (h : REL I) (b : LB x3 I) (hK : ∀ J, REL J → SC I J → D0_1720 x3 J K) : D0_510 x3 I K := by
  unfold D0_510
  refine GO.imp (c_sc (s_plan h)) (fun v J q => ?_)
  obtain ⟨⟨a, e, q⟩, sc⟩ := q
  refine ⟨a, e, GO.imp q (fun v2 J2 r => ?_)⟩
  obtain ⟨e2, rl, s2⟩ := r
  exact ⟨a, e2, by rw [if_pos rfl]; exact hK J2 rl s2⟩
theorem o_523 {x3 : Int} {I : IM} {K : Option AV → IM → Prop} (h : REL I) (b : LB x3 I) (hK : ∀ J, REL J → SC I J → D0_1720 x3 J K) : D0_523 x3 I K := by
  unfold D0_523
  refine GO.imp (c_sc (s_spell h)) (fun v J q => ?_)
  obtain ⟨⟨a, e, q⟩, sc⟩ := q
  refine ⟨a, e, GO.imp q (fun v2 J2 r => ?_)⟩
  obtain ⟨e2, rl, s2⟩ := r
  exact ⟨a, e2, by rw [if_pos rfl]; exact hK J2 rl s2⟩
theorem o_536 {x3 : Int} {I : IM} {K : Option AV → IM → Prop} (h : REL I) (b : LB x3 I) (hK : ∀ J, REL J → SC I J → D0_1720 x3 J K) : D0_536 x3 I K := by
  unfold D0_536
  obtain ⟨b1, b2, b3, b4⟩ := id b
  refine ⟨by unfold inR; omega, by omega, GO.imp (c_sc (s_paper h)) (fun v J q => ?_)⟩
  obtain ⟨⟨a, e, q⟩, sc⟩ := q
  rw [sc 1001 0 (by decide), sc 1000 (x3 + 1).toNat (by decide)]
  refine ⟨a, e, by omega, GO.imp q (fun v2 J2 r => ?_)⟩
  obtain ⟨e2, rl, s2⟩ := r
  exact ⟨a, e2, by rw [if_pos rfl]; exact hK J2 rl s2⟩
theorem o_559 {x3 : Int} {I : IM} {K : Option AV → IM → Prop} (h : REL I) (b : LB x3 I) (hK : ∀ J, REL J → SC I J → D0_1720 x3 J K) : D0_559 x3 I K := by
  unfold D0_559
  obtain ⟨b1, b2, b3, b4⟩ := id b
  refine ⟨by unfold inR; omega, by omega, by unfold inR; omega, by omega, GO.imp (c_sc (s_way h)) (fun v J q => ?_)⟩
  obtain ⟨⟨a, e, q⟩, sc⟩ := q
  rw [sc 1001 0 (by decide), sc 1000 (x3 + 1).toNat (by decide), sc 1000 (x3 + 2).toNat (by decide)]
  refine ⟨a, e, by omega, by omega, GO.imp q (fun v2 J2 r => ?_)⟩
  obtain ⟨e2, rl, s2⟩ := r
  exact ⟨a, e2, by rw [if_pos rfl]; exact hK J2 rl s2⟩
theorem o_592 {x3 : Int} {I : IM} {K : Option AV → IM → Prop} (h : REL I) (b : LB x3 I) (hK : ∀ J, REL J → SC I J → D0_1720 x3 J K) : D0_592 x3 I K := by
  unfold D0_592
  obtain ⟨b1, b2, b3, b4⟩ := id b
  refine ⟨by unfold inR; omega, by omega, by unfold inR; omega, by omega, GO.imp (c_sc (s_of h)) (fun v J q => ?_)⟩
  obtain ⟨⟨a, e, q⟩, sc⟩ := q
  rw [sc 1001 0 (by decide), sc 1000 (x3 + 1).toNat (by decide), sc 1000 (x3 + 2).toNat (by decide)]
  refine ⟨a, e, by omega, by omega, GO.imp q (fun v2 J2 r => ?_)⟩
  obtain ⟨e2, rl, s2⟩ := r
  exact ⟨a, e2, by rw [if_pos rfl]; exact hK J2 rl s2⟩
theorem o_625 {x3 : Int} {I : IM} {K : Option AV → IM → Prop} (h : REL I) (b : LB x3 I) (hK : ∀ J, REL J → SC I J → D0_1720 x3 J K) : D0_625 x3 I K := by
  unfold D0_625
  obtain ⟨b1, b2, b3, b4⟩ := id b
  refine ⟨by unfold inR; omega, by omega, GO.imp (c_sc (s_stops h)) (fun v J q => ?_)⟩
  obtain ⟨⟨a, e, q⟩, sc⟩ := q
  rw [sc 1001 0 (by decide), sc 1000 (x3 + 1).toNat (by decide)]
  refine ⟨a, e, by omega, GO.imp q (fun v2 J2 r => ?_)⟩
  obtain ⟨e2, rl, s2⟩ := r
  exact ⟨a, e2, by rw [if_pos rfl]; exact hK J2 rl s2⟩
theorem o_648 {x3 : Int} {I : IM} {K : Option AV → IM → Prop} (h : REL I) (b : LB x3 I) (hK : ∀ J, REL J → SC I J → D0_1720 x3 J K) : D0_648 x3 I K := by
  unfold D0_648
  obtain ⟨b1, b2, b3, b4⟩ := id b
  refine ⟨by unfold inR; omega, by omega, by unfold inR; omega, by omega, GO.imp (c_sc (s_stop h)) (fun v J q => ?_)⟩
  obtain ⟨⟨a, e, q⟩, sc⟩ := q
  rw [sc 1001 0 (by decide), sc 1000 (x3 + 1).toNat (by decide), sc 1000 (x3 + 2).toNat (by decide)]
  refine ⟨a, e, by omega, by omega, GO.imp q (fun v2 J2 r => ?_)⟩
  obtain ⟨e2, rl, s2⟩ := r
  exact ⟨a, e2, by rw [if_pos rfl]; exact hK J2 rl s2⟩
theorem o_681 {x3 : Int} {I : IM} {K : Option AV → IM → Prop} (h : REL I) (b : LB x3 I) (hK : ∀ J, REL J → SC I J → D0_1720 x3 J K) : D0_681 x3 I K := by
  unfold D0_681
  obtain ⟨b1, b2, b3, b4⟩ := id b
  refine ⟨by unfold inR; omega, by omega, by unfold inR; omega, by omega, by unfold inR; omega, by omega, GO.imp (c_sc (s_driven h)) (fun v J q => ?_)⟩
  obtain ⟨⟨a, e, q⟩, sc⟩ := q
  rw [sc 1001 0 (by decide), sc 1000 (x3 + 1).toNat (by decide), sc 1000 (x3 + 2).toNat (by decide), sc 1000 (x3 + 3).toNat (by decide)]
  refine ⟨a, e, by omega, by omega, by omega, GO.imp q (fun v2 J2 r => ?_)⟩
  obtain ⟨e2, rl, s2⟩ := r
  exact ⟨a, e2, by rw [if_pos rfl]; exact hK J2 rl s2⟩
theorem o_724 {x3 : Int} {I : IM} {K : Option AV → IM → Prop} (h : REL I) (b : LB x3 I) (hK : ∀ J, REL J → SC I J → D0_1720 x3 J K) : D0_724 x3 I K := by
  unfold D0_724
  obtain ⟨b1, b2, b3, b4⟩ := id b
  refine ⟨by unfold inR; omega, by omega, by unfold inR; omega, by omega, GO.imp (c_sc (s_latest h)) (fun v J q => ?_)⟩
  obtain ⟨⟨a, e, q⟩, sc⟩ := q
  rw [sc 1001 0 (by decide), sc 1000 (x3 + 1).toNat (by decide), sc 1000 (x3 + 2).toNat (by decide)]
  refine ⟨a, e, by omega, by omega, GO.imp q (fun v2 J2 r => ?_)⟩
  obtain ⟨e2, rl, s2⟩ := r
  exact ⟨a, e2, by rw [if_pos rfl]; exact hK J2 rl s2⟩
theorem o_757 {x3 : Int} {I : IM} {K : Option AV → IM → Prop} (h : REL I) (b : LB x3 I) (hK : ∀ J, REL J → SC I J → D0_1720 x3 J K) : D0_757 x3 I K := by
  unfold D0_757
  obtain ⟨b1, b2, b3, b4⟩ := id b
  refine ⟨by unfold inR; omega, by omega, by unfold inR; omega, by omega, GO.imp (c_sc (s_slack h)) (fun v J q => ?_)⟩
  obtain ⟨⟨a, e, q⟩, sc⟩ := q
  rw [sc 1001 0 (by decide), sc 1000 (x3 + 1).toNat (by decide), sc 1000 (x3 + 2).toNat (by decide)]
  refine ⟨a, e, by omega, by omega, GO.imp q (fun v2 J2 r => ?_)⟩
  obtain ⟨e2, rl, s2⟩ := r
  exact ⟨a, e2, by rw [if_pos rfl]; exact hK J2 rl s2⟩
theorem o_790 {x3 : Int} {I : IM} {K : Option AV → IM → Prop} (h : REL I) (b : LB x3 I) (hK : ∀ J, REL J → SC I J → D0_1720 x3 J K) : D0_790 x3 I K := by
  unfold D0_790
  obtain ⟨b1, b2, b3, b4⟩ := id b
  refine ⟨by unfold inR; omega, by omega, by unfold inR; omega, by omega, by unfold inR; omega, by omega, by unfold inR; omega, by omega, GO.imp (c_sc (s_piece h)) (fun v J q => ?_)⟩
  obtain ⟨⟨a, e, q⟩, sc⟩ := q
  rw [sc 1001 0 (by decide), sc 1000 (x3 + 1).toNat (by decide), sc 1000 (x3 + 2).toNat (by decide), sc 1000 (x3 + 3).toNat (by decide), sc 1000 (x3 + 4).toNat (by decide)]
  refine ⟨a, e, by omega, by omega, by omega, by omega, GO.imp q (fun v2 J2 r => ?_)⟩
  obtain ⟨e2, rl, s2⟩ := r
  exact ⟨a, e2, by rw [if_pos rfl]; exact hK J2 rl s2⟩
theorem o_843 {x3 : Int} {I : IM} {K : Option AV → IM → Prop} (h : REL I) (b : LB x3 I) (hK : ∀ J, REL J → SC I J → D0_1720 x3 J K) : D0_843 x3 I K := by
  unfold D0_843
  obtain ⟨b1, b2, b3, b4⟩ := id b
  refine ⟨by unfold inR; omega, by omega, by unfold inR; omega, by omega, GO.imp (c_sc (s_whole h)) (fun v J q => ?_)⟩
  obtain ⟨⟨a, e, q⟩, sc⟩ := q
  rw [sc 1001 0 (by decide), sc 1000 (x3 + 1).toNat (by decide), sc 1000 (x3 + 2).toNat (by decide)]
  refine ⟨a, e, by omega, by omega, GO.imp q (fun v2 J2 r => ?_)⟩
  obtain ⟨e2, rl, s2⟩ := r
  exact ⟨a, e2, by rw [if_pos rfl]; exact hK J2 rl s2⟩
theorem o_876 {x3 : Int} {I : IM} {K : Option AV → IM → Prop} (h : REL I) (b : LB x3 I) (hK : ∀ J, REL J → SC I J → D0_1720 x3 J K) : D0_876 x3 I K := by
  unfold D0_876
  obtain ⟨b1, b2, b3, b4⟩ := id b
  refine ⟨by unfold inR; omega, by omega, GO.imp (c_sc (s_cost h)) (fun v J q => ?_)⟩
  obtain ⟨⟨a, e, q⟩, sc⟩ := q
  rw [sc 1001 0 (by decide), sc 1000 (x3 + 1).toNat (by decide)]
  refine ⟨a, e, by omega, GO.imp q (fun v2 J2 r => ?_)⟩
  obtain ⟨e2, rl, s2⟩ := r
  exact ⟨a, e2, by rw [if_pos rfl]; exact hK J2 rl s2⟩
theorem o_899 {x3 : Int} {I : IM} {K : Option AV → IM → Prop} (h : REL I) (b : LB x3 I) (hK : ∀ J, REL J → SC I J → D0_1720 x3 J K) : D0_899 x3 I K := by
  unfold D0_899
  refine GO.imp (c_sc (s_left h)) (fun v J q => ?_)
  obtain ⟨⟨a, e, q⟩, sc⟩ := q
  refine ⟨a, e, GO.imp q (fun v2 J2 r => ?_)⟩
  obtain ⟨e2, rl, s2⟩ := r
  exact ⟨a, e2, by rw [if_pos rfl]; exact hK J2 rl s2⟩
theorem o_912 {x3 : Int} {I : IM} {K : Option AV → IM → Prop} (h : REL I) (b : LB x3 I) (hK : ∀ J, REL J → SC I J → D0_1720 x3 J K) : D0_912 x3 I K := by
  unfold D0_912
  obtain ⟨b1, b2, b3, b4⟩ := id b
  refine ⟨by unfold inR; omega, by omega, by unfold inR; omega, by omega, by unfold inR; omega, by omega, GO.imp (c_sc (s_put h)) (fun v J q => ?_)⟩
  obtain ⟨⟨a, e, q⟩, sc⟩ := q
  rw [sc 1001 0 (by decide), sc 1000 (x3 + 1).toNat (by decide), sc 1000 (x3 + 2).toNat (by decide), sc 1000 (x3 + 3).toNat (by decide)]
  refine ⟨a, e, by omega, by omega, by omega, GO.imp q (fun v2 J2 r => ?_)⟩
  obtain ⟨e2, rl, s2⟩ := r
  exact ⟨a, e2, by rw [if_pos rfl]; exact hK J2 rl s2⟩
theorem o_955 {x3 : Int} {I : IM} {K : Option AV → IM → Prop} (h : REL I) (b : LB x3 I) (hK : ∀ J, REL J → SC I J → D0_1720 x3 J K) : D0_955 x3 I K := by
  unfold D0_955
  obtain ⟨b1, b2, b3, b4⟩ := id b
  refine ⟨by unfold inR; omega, by omega, by unfold inR; omega, by omega, by unfold inR; omega, by omega, GO.imp (c_sc (s_would h)) (fun v J q => ?_)⟩
  obtain ⟨⟨a, e, q⟩, sc⟩ := q
  rw [sc 1001 0 (by decide), sc 1000 (x3 + 1).toNat (by decide), sc 1000 (x3 + 2).toNat (by decide), sc 1000 (x3 + 3).toNat (by decide)]
  refine ⟨a, e, by omega, by omega, by omega, GO.imp q (fun v2 J2 r => ?_)⟩
  obtain ⟨e2, rl, s2⟩ := r
  exact ⟨a, e2, by rw [if_pos (by rw [if_neg (by omega), if_pos rfl])]; exact hK J2 rl s2⟩
theorem o_999 {x3 : Int} {I : IM} {K : Option AV → IM → Prop} (h : REL I) (b : LB x3 I) (hK : ∀ J, REL J → SC I J → D0_1720 x3 J K) : D0_999 x3 I K := by
  unfold D0_999
  obtain ⟨b1, b2, b3, b4⟩ := id b
  refine ⟨by unfold inR; omega, by omega, GO.imp (c_sc (s_take h)) (fun v J q => ?_)⟩
  obtain ⟨⟨a, e, q⟩, sc⟩ := q
  rw [sc 1001 0 (by decide), sc 1000 (x3 + 1).toNat (by decide)]
  refine ⟨a, e, by omega, GO.imp q (fun v2 J2 r => ?_)⟩
  obtain ⟨e2, rl, s2⟩ := r
  exact ⟨a, e2, by rw [if_pos rfl]; exact hK J2 rl s2⟩
theorem o_1022 {x3 : Int} {I : IM} {K : Option AV → IM → Prop} (h : REL I) (b : LB x3 I) (hK : ∀ J, REL J → SC I J → D0_1720 x3 J K) : D0_1022 x3 I K := by
  unfold D0_1022
  obtain ⟨b1, b2, b3, b4⟩ := id b
  refine ⟨by unfold inR; omega, by omega, by unfold inR; omega, by omega, by unfold inR; omega, by omega, by unfold inR; omega, by omega, GO.imp (c_sc (s_may h (b.2.2.2 _))) (fun v J q => ?_)⟩
  obtain ⟨⟨a, e, q⟩, sc⟩ := q
  rw [sc 1001 0 (by decide), sc 1000 (x3 + 1).toNat (by decide), sc 1000 (x3 + 2).toNat (by decide), sc 1000 (x3 + 3).toNat (by decide), sc 1000 (x3 + 4).toNat (by decide)]
  refine ⟨a, e, by omega, by omega, by omega, by omega, GO.imp q (fun v2 J2 r => ?_)⟩
  obtain ⟨e2, rl, s2⟩ := r
  exact ⟨a, e2, by rw [if_pos rfl]; exact hK J2 rl s2⟩
theorem o_1075 {x3 : Int} {I : IM} {K : Option AV → IM → Prop} (h : REL I) (b : LB x3 I) (hK : ∀ J, REL J → SC I J → D0_1720 x3 J K) : D0_1075 x3 I K := by
  unfold D0_1075
  obtain ⟨b1, b2, b3, b4⟩ := id b
  refine ⟨by unfold inR; omega, by omega, by unfold inR; omega, by omega, by unfold inR; omega, by omega, by unfold inR; omega, by omega, GO.imp (c_sc (s_gain h (b.2.2.2 _))) (fun v J q => ?_)⟩
  obtain ⟨⟨a, e, q⟩, sc⟩ := q
  rw [sc 1001 0 (by decide), sc 1000 (x3 + 1).toNat (by decide), sc 1000 (x3 + 2).toNat (by decide), sc 1000 (x3 + 3).toNat (by decide), sc 1000 (x3 + 4).toNat (by decide)]
  refine ⟨a, e, by omega, by omega, by omega, by omega, GO.imp q (fun v2 J2 r => ?_)⟩
  obtain ⟨e2, rl, s2⟩ := r
  exact ⟨a, e2, by rw [if_pos (by rw [if_neg (by omega), if_pos rfl])]; exact hK J2 rl s2⟩
theorem o_1129 {x3 : Int} {I : IM} {K : Option AV → IM → Prop} (h : REL I) (b : LB x3 I) (hK : ∀ J, REL J → SC I J → D0_1720 x3 J K) : D0_1129 x3 I K := by
  unfold D0_1129
  obtain ⟨b1, b2, b3, b4⟩ := id b
  refine ⟨by unfold inR; omega, by omega, by unfold inR; omega, by omega, by unfold inR; omega, by omega, by unfold inR; omega, by omega, GO.imp (c_sc (s_move h (b.2.2.2 _))) (fun v J q => ?_)⟩
  obtain ⟨⟨a, e, q⟩, sc⟩ := q
  rw [sc 1001 0 (by decide), sc 1000 (x3 + 1).toNat (by decide), sc 1000 (x3 + 2).toNat (by decide), sc 1000 (x3 + 3).toNat (by decide), sc 1000 (x3 + 4).toNat (by decide)]
  refine ⟨a, e, by omega, by omega, by omega, by omega, GO.imp q (fun v2 J2 r => ?_)⟩
  obtain ⟨e2, rl, s2⟩ := r
  exact ⟨a, e2, by rw [if_pos rfl]; exact hK J2 rl s2⟩
theorem o_1182 {x3 : Int} {I : IM} {K : Option AV → IM → Prop} (h : REL I) (b : LB x3 I) (hK : ∀ J, REL J → SC I J → D0_1720 x3 J K) : D0_1182 x3 I K := by
  unfold D0_1182
  obtain ⟨b1, b2, b3, b4⟩ := id b
  refine ⟨by unfold inR; omega, by omega, by unfold inR; omega, by omega, GO.imp (c_sc (s_best h)) (fun v J q => ?_)⟩
  obtain ⟨⟨a, e, q⟩, sc⟩ := q
  rw [sc 1001 0 (by decide), sc 1000 (x3 + 1).toNat (by decide), sc 1000 (x3 + 2).toNat (by decide)]
  refine ⟨a, e, by omega, by omega, GO.imp q (fun v2 J2 r => ?_)⟩
  obtain ⟨e2, rl, s2⟩ := r
  exact ⟨a, e2, by rw [if_pos rfl]; exact hK J2 rl s2⟩
theorem o_1215 {x3 : Int} {I : IM} {K : Option AV → IM → Prop} (h : REL I) (b : LB x3 I) (hK : ∀ J, REL J → SC I J → D0_1720 x3 J K) : D0_1215 x3 I K := by
  unfold D0_1215
  obtain ⟨b1, b2, b3, b4⟩ := id b
  refine ⟨by unfold inR; omega, by omega, GO.imp (c_sc (s_descent h)) (fun v J q => ?_)⟩
  obtain ⟨⟨a, e, q⟩, sc⟩ := q
  rw [sc 1001 0 (by decide), sc 1000 (x3 + 1).toNat (by decide)]
  refine ⟨a, e, by omega, GO.imp q (fun v2 J2 r => ?_)⟩
  obtain ⟨e2, rl, s2⟩ := r
  exact ⟨a, e2, by rw [if_pos rfl]; exact hK J2 rl s2⟩
theorem o_1238 {x3 : Int} {I : IM} {K : Option AV → IM → Prop} (h : REL I) (b : LB x3 I) (hK : ∀ J, REL J → SC I J → D0_1720 x3 J K) : D0_1238 x3 I K := by
  unfold D0_1238
  obtain ⟨b1, b2, b3, b4⟩ := id b
  refine ⟨by unfold inR; omega, by omega, GO.imp (c_sc (s_many h)) (fun v J q => ?_)⟩
  obtain ⟨⟨a, e, q⟩, sc⟩ := q
  rw [sc 1001 0 (by decide), sc 1000 (x3 + 1).toNat (by decide)]
  refine ⟨a, e, by omega, GO.imp q (fun v2 J2 r => ?_)⟩
  obtain ⟨e2, rl, s2⟩ := r
  exact ⟨a, e2, by rw [if_pos rfl]; exact hK J2 rl s2⟩
theorem o_1261 {x3 : Int} {I : IM} {K : Option AV → IM → Prop} (h : REL I) (b : LB x3 I) (hK : ∀ J, REL J → SC I J → D0_1720 x3 J K) : D0_1261 x3 I K := by
  unfold D0_1261
  obtain ⟨b1, b2, b3, b4⟩ := id b
  refine ⟨by unfold inR; omega, by omega, by unfold inR; omega, by omega, GO.imp (c_sc (s_priced h)) (fun v J q => ?_)⟩
  obtain ⟨⟨a, e, q⟩, sc⟩ := q
  rw [sc 1001 0 (by decide), sc 1000 (x3 + 1).toNat (by decide), sc 1000 (x3 + 2).toNat (by decide)]
  refine ⟨a, e, by omega, by omega, GO.imp q (fun v2 J2 r => ?_)⟩
  obtain ⟨e2, rl, s2⟩ := r
  exact ⟨a, e2, by rw [if_pos rfl]; exact hK J2 rl s2⟩
theorem o_1294 {x3 : Int} {I : IM} {K : Option AV → IM → Prop} (h : REL I) (b : LB x3 I) (hK : ∀ J, REL J → SC I J → D0_1720 x3 J K) : D0_1294 x3 I K := by
  unfold D0_1294
  obtain ⟨b1, b2, b3, b4⟩ := id b
  refine ⟨by unfold inR; omega, by omega, by unfold inR; omega, by omega, GO.imp (c_sc (s_placed h)) (fun v J q => ?_)⟩
  obtain ⟨⟨a, e, q⟩, sc⟩ := q
  rw [sc 1001 0 (by decide), sc 1000 (x3 + 1).toNat (by decide), sc 1000 (x3 + 2).toNat (by decide)]
  refine ⟨a, e, by omega, by omega, GO.imp q (fun v2 J2 r => ?_)⟩
  obtain ⟨e2, rl, s2⟩ := r
  exact ⟨a, e2, by rw [if_pos rfl]; exact hK J2 rl s2⟩
theorem o_1327 {x3 : Int} {I : IM} {K : Option AV → IM → Prop} (h : REL I) (b : LB x3 I) (hK : ∀ J, REL J → SC I J → D0_1720 x3 J K) : D0_1327 x3 I K := by
  unfold D0_1327
  obtain ⟨b1, b2, b3, b4⟩ := id b
  refine ⟨by unfold inR; omega, by omega, by unfold inR; omega, by omega, GO.imp (c_sc (s_regret h)) (fun v J q => ?_)⟩
  obtain ⟨⟨a, e, q⟩, sc⟩ := q
  rw [sc 1001 0 (by decide), sc 1000 (x3 + 1).toNat (by decide), sc 1000 (x3 + 2).toNat (by decide)]
  refine ⟨a, e, by omega, by omega, GO.imp q (fun v2 J2 r => ?_)⟩
  obtain ⟨e2, rl, s2⟩ := r
  exact ⟨a, e2, by rw [if_pos rfl]; exact hK J2 rl s2⟩
theorem o_1360 {x3 : Int} {I : IM} {K : Option AV → IM → Prop} (h : REL I) (b : LB x3 I) (hK : ∀ J, REL J → SC I J → D0_1720 x3 J K) : D0_1360 x3 I K := by
  unfold D0_1360
  obtain ⟨b1, b2, b3, b4⟩ := id b
  refine ⟨by unfold inR; omega, by omega, GO.imp (c_sc (s_first h)) (fun v J q => ?_)⟩
  obtain ⟨⟨a, e, q⟩, sc⟩ := q
  rw [sc 1001 0 (by decide), sc 1000 (x3 + 1).toNat (by decide)]
  refine ⟨a, e, by omega, GO.imp q (fun v2 J2 r => ?_)⟩
  obtain ⟨e2, rl, s2⟩ := r
  exact ⟨a, e2, by rw [if_pos rfl]; exact hK J2 rl s2⟩
theorem o_1383 {x3 : Int} {I : IM} {K : Option AV → IM → Prop} (h : REL I) (b : LB x3 I) (hK : ∀ J, REL J → SC I J → D0_1720 x3 J K) : D0_1383 x3 I K := by
  unfold D0_1383
  obtain ⟨b1, b2, b3, b4⟩ := id b
  refine ⟨by unfold inR; omega, by omega, GO.imp (c_sc (s_fill h)) (fun v J q => ?_)⟩
  obtain ⟨⟨a, e, q⟩, sc⟩ := q
  rw [sc 1001 0 (by decide), sc 1000 (x3 + 1).toNat (by decide)]
  refine ⟨a, e, by omega, GO.imp q (fun v2 J2 r => ?_)⟩
  obtain ⟨e2, rl, s2⟩ := r
  exact ⟨a, e2, by rw [if_pos rfl]; exact hK J2 rl s2⟩
theorem o_1406 {x3 : Int} {I : IM} {K : Option AV → IM → Prop} (h : REL I) (b : LB x3 I) (hK : ∀ J, REL J → SC I J → D0_1720 x3 J K) : D0_1406 x3 I K := by
  unfold D0_1406
  obtain ⟨b1, b2, b3, b4⟩ := id b
  refine ⟨by unfold inR; omega, by omega, by unfold inR; omega, by omega, GO.imp (c_sc (s_ruin h)) (fun v J q => ?_)⟩
  obtain ⟨⟨a, e, q⟩, sc⟩ := q
  rw [sc 1001 0 (by decide), sc 1000 (x3 + 1).toNat (by decide), sc 1000 (x3 + 2).toNat (by decide)]
  refine ⟨a, e, by omega, by omega, GO.imp q (fun v2 J2 r => ?_)⟩
  obtain ⟨e2, rl, s2⟩ := r
  exact ⟨a, e2, by rw [if_pos rfl]; exact hK J2 rl s2⟩
theorem o_1439 {x3 : Int} {I : IM} {K : Option AV → IM → Prop} (h : REL I) (b : LB x3 I) (hK : ∀ J, REL J → SC I J → D0_1720 x3 J K) : D0_1439 x3 I K := by
  unfold D0_1439
  obtain ⟨b1, b2, b3, b4⟩ := id b
  refine ⟨by unfold inR; omega, by omega, by unfold inR; omega, by omega, by unfold inR; omega, by omega, GO.imp (c_sc (s_again h)) (fun v J q => ?_)⟩
  obtain ⟨⟨a, e, q⟩, sc⟩ := q
  rw [sc 1001 0 (by decide), sc 1000 (x3 + 1).toNat (by decide), sc 1000 (x3 + 2).toNat (by decide), sc 1000 (x3 + 3).toNat (by decide)]
  refine ⟨a, e, by omega, by omega, by omega, GO.imp q (fun v2 J2 r => ?_)⟩
  obtain ⟨e2, rl, s2⟩ := r
  exact ⟨a, e2, by rw [if_pos rfl]; exact hK J2 rl s2⟩
theorem o_1482 {x3 : Int} {I : IM} {K : Option AV → IM → Prop} (h : REL I) (b : LB x3 I) (hK : ∀ J, REL J → SC I J → D0_1720 x3 J K) : D0_1482 x3 I K := by
  unfold D0_1482
  refine GO.imp (c_sc (s_back h)) (fun v J q => ?_)
  obtain ⟨⟨a, e, q⟩, sc⟩ := q
  refine ⟨a, e, GO.imp q (fun v2 J2 r => ?_)⟩
  obtain ⟨e2, rl, s2⟩ := r
  exact ⟨a, e2, by rw [if_pos rfl]; exact hK J2 rl s2⟩
theorem o_1495 {x3 : Int} {I : IM} {K : Option AV → IM → Prop} (h : REL I) (b : LB x3 I) (hK : ∀ J, REL J → SC I J → D0_1720 x3 J K) : D0_1495 x3 I K := by
  unfold D0_1495
  obtain ⟨b1, b2, b3, b4⟩ := id b
  refine ⟨by unfold inR; omega, by omega, GO.imp (c_sc (s_told h)) (fun v J q => ?_)⟩
  obtain ⟨⟨a, e, q⟩, sc⟩ := q
  rw [sc 1001 0 (by decide), sc 1000 (x3 + 1).toNat (by decide)]
  refine ⟨a, e, by omega, GO.imp q (fun v2 J2 r => ?_)⟩
  obtain ⟨e2, rl, s2⟩ := r
  exact ⟨a, e2, by rw [if_pos rfl]; exact hK J2 rl s2⟩
theorem o_1518 {x3 : Int} {I : IM} {K : Option AV → IM → Prop} (h : REL I) (b : LB x3 I) (hK : ∀ J, REL J → SC I J → D0_1720 x3 J K) : D0_1518 x3 I K := by
  unfold D0_1518
  obtain ⟨b1, b2, b3, b4⟩ := id b
  refine ⟨by unfold inR; omega, by omega, by unfold inR; omega, by omega, GO.imp (c_sc (s_row h)) (fun v J q => ?_)⟩
  obtain ⟨⟨a, e, q⟩, sc⟩ := q
  rw [sc 1001 0 (by decide), sc 1000 (x3 + 1).toNat (by decide), sc 1000 (x3 + 2).toNat (by decide)]
  refine ⟨a, e, by omega, by omega, GO.imp q (fun v2 J2 r => ?_)⟩
  obtain ⟨e2, rl, s2⟩ := r
  exact ⟨a, e2, by rw [if_pos rfl]; exact hK J2 rl s2⟩
theorem o_1551 {x3 : Int} {I : IM} {K : Option AV → IM → Prop} (h : REL I) (b : LB x3 I) (hK : ∀ J, REL J → SC I J → D0_1720 x3 J K) : D0_1551 x3 I K := by
  unfold D0_1551
  obtain ⟨b1, b2, b3, b4⟩ := id b
  refine ⟨by unfold inR; omega, by omega, by unfold inR; omega, by omega, by unfold inR; omega, by omega, GO.imp (c_sc (s_set h)) (fun v J q => ?_)⟩
  obtain ⟨⟨a, e, q⟩, sc⟩ := q
  rw [sc 1001 0 (by decide), sc 1000 (x3 + 1).toNat (by decide), sc 1000 (x3 + 2).toNat (by decide), sc 1000 (x3 + 3).toNat (by decide)]
  refine ⟨a, e, by omega, by omega, by omega, GO.imp q (fun v2 J2 r => ?_)⟩
  obtain ⟨e2, rl, s2⟩ := r
  exact ⟨a, e2, by rw [if_pos rfl]; exact hK J2 rl s2⟩
theorem o_1594 {x3 : Int} {I : IM} {K : Option AV → IM → Prop} (h : REL I) (b : LB x3 I) (hK : ∀ J, REL J → SC I J → D0_1720 x3 J K) : D0_1594 x3 I K := by
  unfold D0_1594
  obtain ⟨b1, b2, b3, b4⟩ := id b
  refine ⟨by unfold inR; omega, by omega, by unfold inR; omega, by omega, GO.imp (c_sc (s_get h)) (fun v J q => ?_)⟩
  obtain ⟨⟨a, e, q⟩, sc⟩ := q
  rw [sc 1001 0 (by decide), sc 1000 (x3 + 1).toNat (by decide), sc 1000 (x3 + 2).toNat (by decide)]
  refine ⟨a, e, by omega, by omega, GO.imp q (fun v2 J2 r => ?_)⟩
  obtain ⟨e2, rl, s2⟩ := r
  exact ⟨a, e2, by rw [if_pos (by rw [if_neg (by omega), if_pos rfl])]; exact hK J2 rl s2⟩
theorem o_1628 {x3 : Int} {I : IM} {K : Option AV → IM → Prop} (h : REL I) (b : LB x3 I) (hK : ∀ J, REL J → SC I J → D0_1720 x3 J K) : D0_1628 x3 I K := by
  unfold D0_1628
  obtain ⟨b1, b2, b3, b4⟩ := id b
  refine ⟨by unfold inR; omega, by omega, by unfold inR; omega, by omega, GO.imp (c_sc (s_lay h (b.2.2.2 _))) (fun v J q => ?_)⟩
  obtain ⟨⟨a, e, q⟩, sc⟩ := q
  rw [sc 1001 0 (by decide), sc 1000 (x3 + 1).toNat (by decide), sc 1000 (x3 + 2).toNat (by decide)]
  refine ⟨a, e, by omega, by omega, GO.imp q (fun v2 J2 r => ?_)⟩
  obtain ⟨e2, rl, s2⟩ := r
  exact ⟨a, e2, by rw [if_pos rfl]; exact hK J2 rl s2⟩
theorem o_1661 {x3 : Int} {I : IM} {K : Option AV → IM → Prop} (h : REL I) (b : LB x3 I) (hK : ∀ J, REL J → SC I J → D0_1720 x3 J K) : D0_1661 x3 I K := by
  unfold D0_1661
  obtain ⟨b1, b2, b3, b4⟩ := id b
  refine ⟨by unfold inR; omega, by omega, by unfold inR; omega, by omega, GO.imp (c_sc (s_judge h (b.2.2.2 _))) (fun v J q => ?_)⟩
  obtain ⟨⟨a, e, q⟩, sc⟩ := q
  rw [sc 1001 0 (by decide), sc 1000 (x3 + 1).toNat (by decide), sc 1000 (x3 + 2).toNat (by decide)]
  refine ⟨a, e, by omega, by omega, GO.imp q (fun v2 J2 r => ?_)⟩
  obtain ⟨e2, rl, s2⟩ := r
  exact ⟨a, e2, by rw [if_pos rfl]; exact hK J2 rl s2⟩
theorem o_1694 {x3 : Int} {I : IM} {K : Option AV → IM → Prop} (h : REL I) (b : LB x3 I) (hK : ∀ J, REL J → SC I J → D0_1720 x3 J K) : D0_1694 x3 I K := by
  unfold D0_1694
  refine GO.imp (c_sc (s_image h)) (fun v J q => ?_)
  obtain ⟨⟨a, e, q⟩, sc⟩ := q
  refine ⟨a, e, GO.imp q (fun v2 J2 r => ?_)⟩
  obtain ⟨e2, rl, s2⟩ := r
  exact ⟨a, e2, by rw [if_pos rfl]; exact hK J2 rl s2⟩
theorem o_1707 {x3 : Int} {I : IM} {K : Option AV → IM → Prop} (h : REL I) (b : LB x3 I) (hK : ∀ J, REL J → SC I J → D0_1720 x3 J K) : D0_1707 x3 I K := by
  unfold D0_1707
  refine GO.imp (c_sc (s_undo h)) (fun v J q => ?_)
  obtain ⟨⟨a, e, q⟩, sc⟩ := q
  refine ⟨a, e, GO.imp q (fun v2 J2 r => ?_)⟩
  obtain ⟨e2, rl, s2⟩ := r
  exact ⟨a, e2, by rw [if_pos rfl]; exact hK J2 rl s2⟩
theorem law_loop : ∀ (d : Nat) (x3 : Int) (I : IM), I 1001 0 - x3 ≤ d → REL I → 0 ≤ x3 → 0 ≤ I 1001 0 → I 1001 0 ≤ 3072 → (∀ k, inR (I 1000 k)) → x3 ≤ 3078 → GO S0 0 18 [vR 1000, vR 0, vR 237, vI x3] [] I (fun v _ => v = some (vI 1)) := by
  intro d
  induction d using Nat.strongRecOn with
  | _ d ih =>
    intro x3 I hd h x0 l0 l1 hr x1
    refine g0_18 x3 I _ ?_
    unfold D0_18
    refine ⟨by unfold inR; omega, ?_⟩
    by_cases c : I 1001 0 - 6 < x3
    · rw [if_pos c]
    · rw [if_neg c]
      have b : LB x3 I := ⟨x0, by omega, l1, hr⟩
      have hK : ∀ J, REL J → SC I J → D0_1720 x3 J (fun v _ => v = some (vI 1)) := fun J rl sc => by
        unfold D0_1720
        have e := sc 1001 0 (by decide)
        refine ⟨by unfold inR; omega, ih (d - 1) (by omega) (x3 + 6) J (by rw [e]; omega) rl (by omega) (by rw [e]; exact l0) (by rw [e]; exact l1) (fun k => by rw [sc 1000 k (by decide)]; exact hr k) (by omega)⟩
      refine ⟨by omega, ?_⟩
      refine ite_c (o_236 h b hK) ?_
      refine ite_c (o_269 h b hK) ?_
      refine ite_c (o_332 h b hK) ?_
      refine ite_c (o_375 h b hK) ?_
      refine ite_c (o_428 h b hK) ?_
      refine ite_c (o_461 h b hK) ?_
      refine ite_c (o_484 h b hK) ?_
      refine ite_c (o_497 h b hK) ?_
      refine ite_c (o_510 h b hK) ?_
      refine ite_c (o_523 h b hK) ?_
      refine ite_c (o_536 h b hK) ?_
      refine ite_c (o_559 h b hK) ?_
      refine ite_c (o_592 h b hK) ?_
      refine ite_c (o_625 h b hK) ?_
      refine ite_c (o_648 h b hK) ?_
      refine ite_c (o_681 h b hK) ?_
      refine ite_c (o_724 h b hK) ?_
      refine ite_c (o_757 h b hK) ?_
      refine ite_c (o_790 h b hK) ?_
      refine ite_c (o_843 h b hK) ?_
      refine ite_c (o_876 h b hK) ?_
      refine ite_c (o_899 h b hK) ?_
      refine ite_c (o_912 h b hK) ?_
      refine ite_c (o_955 h b hK) ?_
      refine ite_c (o_999 h b hK) ?_
      refine ite_c (o_1022 h b hK) ?_
      refine ite_c (o_1075 h b hK) ?_
      refine ite_c (o_1129 h b hK) ?_
      refine ite_c (o_1182 h b hK) ?_
      refine ite_c (o_1215 h b hK) ?_
      refine ite_c (o_1238 h b hK) ?_
      refine ite_c (o_1261 h b hK) ?_
      refine ite_c (o_1294 h b hK) ?_
      refine ite_c (o_1327 h b hK) ?_
      refine ite_c (o_1360 h b hK) ?_
      refine ite_c (o_1383 h b hK) ?_
      refine ite_c (o_1406 h b hK) ?_
      refine ite_c (o_1439 h b hK) ?_
      refine ite_c (o_1482 h b hK) ?_
      refine ite_c (o_1495 h b hK) ?_
      refine ite_c (o_1518 h b hK) ?_
      refine ite_c (o_1551 h b hK) ?_
      refine ite_c (o_1594 h b hK) ?_
      refine ite_c (o_1628 h b hK) ?_
      refine ite_c (o_1661 h b hK) ?_
      refine ite_c (o_1694 h b hK) ?_
      refine ite_c (o_1707 h b hK) ?_
      exact hK I h (fun _ _ _ => rfl)
