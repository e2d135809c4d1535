/-! level 2: the law's own code (laid by program) -/
def D0_1720 (x3 : Int) (I : IM) (K : Option AV → IM → Prop) : Prop :=
  (inR (x3 + 6)) ∧ GO S0 0 18 [vR 1000, vR 0, vR 237, vI (x3 + 6)] [] I K
set_option maxRecDepth 10000 in
theorem g0_1720 (x3 : Int) (I : IM) (K : Option AV → IM → Prop) (h : D0_1720 x3 I K) : GO S0 0 1720 [vR 1000, vR 0, vR 237, vI x3] [] I K := by
  unfold D0_1720 at h
  obtain ⟨c1, h⟩ := h
  refine G_iinc rc_0_1720 rfl c1 ?_
  show GO S0 0 1723 [vR 1000, vR 0, vR 237, vI (x3 + 6)] [] I K
  refine G_goto rc_0_1723 ?_
  show GO S0 0 18 [vR 1000, vR 0, vR 237, vI (x3 + 6)] [] I K
  exact h
def D0_1707 (x3 : Int) (I : IM) (K : Option AV → IM → Prop) : Prop :=
  CALL S0 127 [vR 0] I (fun v I1 => ∃ y2 : Int, v = some (vI y2) ∧ CALL S0 250 [vR 237] I1 (fun v I3 => ∃ y4 : Int, v = some (vI y4) ∧ (if y2 = y4 then (D0_1720 x3 I3 K) else (K (some (vI 0)) I3))))
set_option maxRecDepth 10000 in
theorem g0_1707 (x3 : Int) (I : IM) (K : Option AV → IM → Prop) (h : D0_1707 x3 I K) : GO S0 0 1707 [vR 1000, vR 0, vR 237, vI x3] [] I K := by
  unfold D0_1707 at h
  refine G_loadR rc_0_1707 rfl ?_
  refine G_call (as := [vR 0]) (rest := []) rc_0_1708 rfl rfl rfl (Nat.le_of_ble_eq_true rfl) (g_recv s0_0 rfl) ?_
  refine GO.imp h (fun v I1 h => ?_)
  obtain ⟨y2, rfl, h⟩ := h
  show GO S0 0 1711 [vR 1000, vR 0, vR 237, vI x3] [vI y2] I1 K
  refine G_loadR rc_0_1711 rfl ?_
  refine G_call (as := [vR 237]) (rest := [vI y2]) rc_0_1712 rfl rfl rfl (Nat.le_of_ble_eq_true rfl) (g_recv s0_237 rfl) ?_
  refine GO.imp h (fun v I3 h => ?_)
  obtain ⟨y4, rfl, h⟩ := h
  show GO S0 0 1715 [vR 1000, vR 0, vR 237, vI x3] [vI y4, vI y2] I3 K
  refine G_i2 (C := y2 = y4) rc_0_1715 rfl (fun c5 => ?_) (fun c5 => ?_)
  · rw [if_pos c5] at h
    show GO S0 0 1720 [vR 1000, vR 0, vR 237, vI x3] [] I3 K
    exact g0_1720 x3 I3 K h
  · rw [if_neg c5] at h
    show GO S0 0 1718 [vR 1000, vR 0, vR 237, vI x3] [] I3 K
    refine G_const rc_0_1718 (by decide) ?_
    exact G_retI rc_0_1719 (Or.inr (by decide)) h
def D0_1694 (x3 : Int) (I : IM) (K : Option AV → IM → Prop) : Prop :=
  CALL S0 124 [vR 0] I (fun v I1 => ∃ y2 : Int, v = some (vI y2) ∧ CALL S0 249 [vR 237] I1 (fun v I3 => ∃ y4 : Int, v = some (vI y4) ∧ (if y2 = y4 then (D0_1720 x3 I3 K) else (K (some (vI 0)) I3))))
set_option maxRecDepth 10000 in
theorem g0_1694 (x3 : Int) (I : IM) (K : Option AV → IM → Prop) (h : D0_1694 x3 I K) : GO S0 0 1694 [vR 1000, vR 0, vR 237, vI x3] [] I K := by
  unfold D0_1694 at h
  refine G_loadR rc_0_1694 rfl ?_
  refine G_call (as := [vR 0]) (rest := []) rc_0_1695 rfl rfl rfl (Nat.le_of_ble_eq_true rfl) (g_recv s0_0 rfl) ?_
  refine GO.imp h (fun v I1 h => ?_)
  obtain ⟨y2, rfl, h⟩ := h
  show GO S0 0 1698 [vR 1000, vR 0, vR 237, vI x3] [vI y2] I1 K
  refine G_loadR rc_0_1698 rfl ?_
  refine G_call (as := [vR 237]) (rest := [vI y2]) rc_0_1699 rfl rfl rfl (Nat.le_of_ble_eq_true rfl) (g_recv s0_237 rfl) ?_
  refine GO.imp h (fun v I3 h => ?_)
  obtain ⟨y4, rfl, h⟩ := h
  show GO S0 0 1702 [vR 1000, vR 0, vR 237, vI x3] [vI y4, vI y2] I3 K
  refine G_i2 (C := y2 = y4) rc_0_1702 rfl (fun c5 => ?_) (fun c5 => ?_)
  · rw [if_pos c5] at h
    show GO S0 0 1720 [vR 1000, vR 0, vR 237, vI x3] [] I3 K
    exact g0_1720 x3 I3 K h
  · rw [if_neg c5] at h
    show GO S0 0 1705 [vR 1000, vR 0, vR 237, vI x3] [] I3 K
    refine G_const rc_0_1705 (by decide) ?_
    exact G_retI rc_0_1706 (Or.inr (by decide)) h
def D0_1661 (x3 : Int) (I : IM) (K : Option AV → IM → Prop) : Prop :=
  (inR (x3 + 1)) ∧ (0 ≤ x3 + 1 ∧ x3 + 1 < I 1001 0) ∧ (inR (x3 + 2)) ∧ (0 ≤ x3 + 2 ∧ x3 + 2 < I 1001 0) ∧ CALL S0 121 [vR 0, vI (I 1000 (x3 + 1).toNat), vI (I 1000 (x3 + 2).toNat)] I (fun v I5 => ∃ y6 : Int, v = some (vI y6) ∧ (0 ≤ x3 + 1 ∧ x3 + 1 < I5 1001 0) ∧ (0 ≤ x3 + 2 ∧ x3 + 2 < I5 1001 0) ∧ CALL S0 247 [vR 237, vI (I5 1000 (x3 + 1).toNat), vI (I5 1000 (x3 + 2).toNat)] I5 (fun v I9 => ∃ y10 : Int, v = some (vI y10) ∧ (if y6 = y10 then (D0_1720 x3 I9 K) else (K (some (vI 0)) I9))))
set_option maxRecDepth 10000 in
theorem g0_1661 (x3 : Int) (I : IM) (K : Option AV → IM → Prop) (h : D0_1661 x3 I K) : GO S0 0 1661 [vR 1000, vR 0, vR 237, vI x3] [] I K := by
  unfold D0_1661 at h
  refine G_loadR rc_0_1661 rfl ?_
  refine G_loadR rc_0_1662 rfl ?_
  refine G_loadI rc_0_1663 rfl ?_
  refine G_const rc_0_1664 (by decide) ?_
  obtain ⟨c1, h⟩ := h
  refine G_bop (z := x3 + 1) rc_0_1665 (if_pos c1) ?_
  show GO S0 0 1666 [vR 1000, vR 0, vR 237, vI x3] [vI (x3 + 1), vR 1000, vR 0] I K
  obtain ⟨c2, h⟩ := h
  refine G_sld rc_0_1666 (by omega) (by omega) ?_
  show GO S0 0 1667 [vR 1000, vR 0, vR 237, vI x3] [vI (I 1000 (x3 + 1).toNat), vR 0] I K
  refine G_loadR rc_0_1667 rfl ?_
  refine G_loadI rc_0_1668 rfl ?_
  refine G_const rc_0_1669 (by decide) ?_
  obtain ⟨c3, h⟩ := h
  refine G_bop (z := x3 + 2) rc_0_1670 (if_pos c3) ?_
  show GO S0 0 1671 [vR 1000, vR 0, vR 237, vI x3] [vI (x3 + 2), vR 1000, vI (I 1000 (x3 + 1).toNat), vR 0] I K
  obtain ⟨c4, h⟩ := h
  refine G_sld rc_0_1671 (by omega) (by omega) ?_
  show GO S0 0 1672 [vR 1000, vR 0, vR 237, vI x3] [vI (I 1000 (x3 + 2).toNat), vI (I 1000 (x3 + 1).toNat), vR 0] I K
  refine G_call (as := [vR 0, vI (I 1000 (x3 + 1).toNat), vI (I 1000 (x3 + 2).toNat)]) (rest := []) rc_0_1672 rfl rfl rfl (Nat.le_of_ble_eq_true rfl) (g_recv s0_0 rfl) ?_
  refine GO.imp h (fun v I5 h => ?_)
  obtain ⟨y6, rfl, h⟩ := h
  show GO S0 0 1675 [vR 1000, vR 0, vR 237, vI x3] [vI y6] I5 K
  refine G_loadR rc_0_1675 rfl ?_
  refine G_loadR rc_0_1676 rfl ?_
  refine G_loadI rc_0_1677 rfl ?_
  refine G_const rc_0_1678 (by decide) ?_
  refine G_bop (z := x3 + 1) rc_0_1679 (if_pos c1) ?_
  show GO S0 0 1680 [vR 1000, vR 0, vR 237, vI x3] [vI (x3 + 1), vR 1000, vR 237, vI y6] I5 K
  obtain ⟨c7, h⟩ := h
  refine G_sld rc_0_1680 (by omega) (by omega) ?_
  show GO S0 0 1681 [vR 1000, vR 0, vR 237, vI x3] [vI (I5 1000 (x3 + 1).toNat), vR 237, vI y6] I5 K
  refine G_loadR rc_0_1681 rfl ?_
  refine G_loadI rc_0_1682 rfl ?_
  refine G_const rc_0_1683 (by decide) ?_
  refine G_bop (z := x3 + 2) rc_0_1684 (if_pos c3) ?_
  show GO S0 0 1685 [vR 1000, vR 0, vR 237, vI x3] [vI (x3 + 2), vR 1000, vI (I5 1000 (x3 + 1).toNat), vR 237, vI y6] I5 K
  obtain ⟨c8, h⟩ := h
  refine G_sld rc_0_1685 (by omega) (by omega) ?_
  show GO S0 0 1686 [vR 1000, vR 0, vR 237, vI x3] [vI (I5 1000 (x3 + 2).toNat), vI (I5 1000 (x3 + 1).toNat), vR 237, vI y6] I5 K
  refine G_call (as := [vR 237, vI (I5 1000 (x3 + 1).toNat), vI (I5 1000 (x3 + 2).toNat)]) (rest := [vI y6]) rc_0_1686 rfl rfl rfl (Nat.le_of_ble_eq_true rfl) (g_recv s0_237 rfl) ?_
  refine GO.imp h (fun v I9 h => ?_)
  obtain ⟨y10, rfl, h⟩ := h
  show GO S0 0 1689 [vR 1000, vR 0, vR 237, vI x3] [vI y10, vI y6] I9 K
  refine G_i2 (C := y6 = y10) rc_0_1689 rfl (fun c11 => ?_) (fun c11 => ?_)
  · rw [if_pos c11] at h
    show GO S0 0 1720 [vR 1000, vR 0, vR 237, vI x3] [] I9 K
    exact g0_1720 x3 I9 K h
  · rw [if_neg c11] at h
    show GO S0 0 1692 [vR 1000, vR 0, vR 237, vI x3] [] I9 K
    refine G_const rc_0_1692 (by decide) ?_
    exact G_retI rc_0_1693 (Or.inr (by decide)) h
def D0_1628 (x3 : Int) (I : IM) (K : Option AV → IM → Prop) : Prop :=
  (inR (x3 + 1)) ∧ (0 ≤ x3 + 1 ∧ x3 + 1 < I 1001 0) ∧ (inR (x3 + 2)) ∧ (0 ≤ x3 + 2 ∧ x3 + 2 < I 1001 0) ∧ CALL S0 120 [vR 0, vI (I 1000 (x3 + 1).toNat), vI (I 1000 (x3 + 2).toNat)] I (fun v I5 => ∃ y6 : Int, v = some (vI y6) ∧ (0 ≤ x3 + 1 ∧ x3 + 1 < I5 1001 0) ∧ (0 ≤ x3 + 2 ∧ x3 + 2 < I5 1001 0) ∧ CALL S0 246 [vR 237, vI (I5 1000 (x3 + 1).toNat), vI (I5 1000 (x3 + 2).toNat)] I5 (fun v I9 => ∃ y10 : Int, v = some (vI y10) ∧ (if y6 = y10 then (D0_1720 x3 I9 K) else (K (some (vI 0)) I9))))
set_option maxRecDepth 10000 in
theorem g0_1628 (x3 : Int) (I : IM) (K : Option AV → IM → Prop) (h : D0_1628 x3 I K) : GO S0 0 1628 [vR 1000, vR 0, vR 237, vI x3] [] I K := by
  unfold D0_1628 at h
  refine G_loadR rc_0_1628 rfl ?_
  refine G_loadR rc_0_1629 rfl ?_
  refine G_loadI rc_0_1630 rfl ?_
  refine G_const rc_0_1631 (by decide) ?_
  obtain ⟨c1, h⟩ := h
  refine G_bop (z := x3 + 1) rc_0_1632 (if_pos c1) ?_
  show GO S0 0 1633 [vR 1000, vR 0, vR 237, vI x3] [vI (x3 + 1), vR 1000, vR 0] I K
  obtain ⟨c2, h⟩ := h
  refine G_sld rc_0_1633 (by omega) (by omega) ?_
  show GO S0 0 1634 [vR 1000, vR 0, vR 237, vI x3] [vI (I 1000 (x3 + 1).toNat), vR 0] I K
  refine G_loadR rc_0_1634 rfl ?_
  refine G_loadI rc_0_1635 rfl ?_
  refine G_const rc_0_1636 (by decide) ?_
  obtain ⟨c3, h⟩ := h
  refine G_bop (z := x3 + 2) rc_0_1637 (if_pos c3) ?_
  show GO S0 0 1638 [vR 1000, vR 0, vR 237, vI x3] [vI (x3 + 2), vR 1000, vI (I 1000 (x3 + 1).toNat), vR 0] I K
  obtain ⟨c4, h⟩ := h
  refine G_sld rc_0_1638 (by omega) (by omega) ?_
  show GO S0 0 1639 [vR 1000, vR 0, vR 237, vI x3] [vI (I 1000 (x3 + 2).toNat), vI (I 1000 (x3 + 1).toNat), vR 0] I K
  refine G_call (as := [vR 0, vI (I 1000 (x3 + 1).toNat), vI (I 1000 (x3 + 2).toNat)]) (rest := []) rc_0_1639 rfl rfl rfl (Nat.le_of_ble_eq_true rfl) (g_recv s0_0 rfl) ?_
  refine GO.imp h (fun v I5 h => ?_)
  obtain ⟨y6, rfl, h⟩ := h
  show GO S0 0 1642 [vR 1000, vR 0, vR 237, vI x3] [vI y6] I5 K
  refine G_loadR rc_0_1642 rfl ?_
  refine G_loadR rc_0_1643 rfl ?_
  refine G_loadI rc_0_1644 rfl ?_
  refine G_const rc_0_1645 (by decide) ?_
  refine G_bop (z := x3 + 1) rc_0_1646 (if_pos c1) ?_
  show GO S0 0 1647 [vR 1000, vR 0, vR 237, vI x3] [vI (x3 + 1), vR 1000, vR 237, vI y6] I5 K
  obtain ⟨c7, h⟩ := h
  refine G_sld rc_0_1647 (by omega) (by omega) ?_
  show GO S0 0 1648 [vR 1000, vR 0, vR 237, vI x3] [vI (I5 1000 (x3 + 1).toNat), vR 237, vI y6] I5 K
  refine G_loadR rc_0_1648 rfl ?_
  refine G_loadI rc_0_1649 rfl ?_
  refine G_const rc_0_1650 (by decide) ?_
  refine G_bop (z := x3 + 2) rc_0_1651 (if_pos c3) ?_
  show GO S0 0 1652 [vR 1000, vR 0, vR 237, vI x3] [vI (x3 + 2), vR 1000, vI (I5 1000 (x3 + 1).toNat), vR 237, vI y6] I5 K
  obtain ⟨c8, h⟩ := h
  refine G_sld rc_0_1652 (by omega) (by omega) ?_
  show GO S0 0 1653 [vR 1000, vR 0, vR 237, vI x3] [vI (I5 1000 (x3 + 2).toNat), vI (I5 1000 (x3 + 1).toNat), vR 237, vI y6] I5 K
  refine G_call (as := [vR 237, vI (I5 1000 (x3 + 1).toNat), vI (I5 1000 (x3 + 2).toNat)]) (rest := [vI y6]) rc_0_1653 rfl rfl rfl (Nat.le_of_ble_eq_true rfl) (g_recv s0_237 rfl) ?_
  refine GO.imp h (fun v I9 h => ?_)
  obtain ⟨y10, rfl, h⟩ := h
  show GO S0 0 1656 [vR 1000, vR 0, vR 237, vI x3] [vI y10, vI y6] I9 K
  refine G_i2 (C := y6 = y10) rc_0_1656 rfl (fun c11 => ?_) (fun c11 => ?_)
  · rw [if_pos c11] at h
    show GO S0 0 1720 [vR 1000, vR 0, vR 237, vI x3] [] I9 K
    exact g0_1720 x3 I9 K h
  · rw [if_neg c11] at h
    show GO S0 0 1659 [vR 1000, vR 0, vR 237, vI x3] [] I9 K
    refine G_const rc_0_1659 (by decide) ?_
    exact G_retI rc_0_1660 (Or.inr (by decide)) h
def D0_1594 (x3 : Int) (I : IM) (K : Option AV → IM → Prop) : Prop :=
  (inR (x3 + 1)) ∧ (0 ≤ x3 + 1 ∧ x3 + 1 < I 1001 0) ∧ (inR (x3 + 2)) ∧ (0 ≤ x3 + 2 ∧ x3 + 2 < I 1001 0) ∧ CALL S0 119 [vR 0, vI (I 1000 (x3 + 1).toNat), vI (I 1000 (x3 + 2).toNat)] I (fun v I5 => ∃ y6 : Int, v = some (vL y6) ∧ (0 ≤ x3 + 1 ∧ x3 + 1 < I5 1001 0) ∧ (0 ≤ x3 + 2 ∧ x3 + 2 < I5 1001 0) ∧ CALL S0 245 [vR 237, vI (I5 1000 (x3 + 1).toNat), vI (I5 1000 (x3 + 2).toNat)] I5 (fun v I9 => ∃ y10 : Int, v = some (vL y10) ∧ (if (if y10 < y6 then 1 else if y6 = y10 then 0 else -1) = 0 then (D0_1720 x3 I9 K) else (K (some (vI 0)) I9))))
set_option maxRecDepth 10000 in
theorem g0_1594 (x3 : Int) (I : IM) (K : Option AV → IM → Prop) (h : D0_1594 x3 I K) : GO S0 0 1594 [vR 1000, vR 0, vR 237, vI x3] [] I K := by
  unfold D0_1594 at h
  refine G_loadR rc_0_1594 rfl ?_
  refine G_loadR rc_0_1595 rfl ?_
  refine G_loadI rc_0_1596 rfl ?_
  refine G_const rc_0_1597 (by decide) ?_
  obtain ⟨c1, h⟩ := h
  refine G_bop (z := x3 + 1) rc_0_1598 (if_pos c1) ?_
  show GO S0 0 1599 [vR 1000, vR 0, vR 237, vI x3] [vI (x3 + 1), vR 1000, vR 0] I K
  obtain ⟨c2, h⟩ := h
  refine G_sld rc_0_1599 (by omega) (by omega) ?_
  show GO S0 0 1600 [vR 1000, vR 0, vR 237, vI x3] [vI (I 1000 (x3 + 1).toNat), vR 0] I K
  refine G_loadR rc_0_1600 rfl ?_
  refine G_loadI rc_0_1601 rfl ?_
  refine G_const rc_0_1602 (by decide) ?_
  obtain ⟨c3, h⟩ := h
  refine G_bop (z := x3 + 2) rc_0_1603 (if_pos c3) ?_
  show GO S0 0 1604 [vR 1000, vR 0, vR 237, vI x3] [vI (x3 + 2), vR 1000, vI (I 1000 (x3 + 1).toNat), vR 0] I K
  obtain ⟨c4, h⟩ := h
  refine G_sld rc_0_1604 (by omega) (by omega) ?_
  show GO S0 0 1605 [vR 1000, vR 0, vR 237, vI x3] [vI (I 1000 (x3 + 2).toNat), vI (I 1000 (x3 + 1).toNat), vR 0] I K
  refine G_call (as := [vR 0, vI (I 1000 (x3 + 1).toNat), vI (I 1000 (x3 + 2).toNat)]) (rest := []) rc_0_1605 rfl rfl rfl (Nat.le_of_ble_eq_true rfl) (g_recv s0_0 rfl) ?_
  refine GO.imp h (fun v I5 h => ?_)
  obtain ⟨y6, rfl, h⟩ := h
  show GO S0 0 1608 [vR 1000, vR 0, vR 237, vI x3] [vL y6] I5 K
  refine G_loadR rc_0_1608 rfl ?_
  refine G_loadR rc_0_1609 rfl ?_
  refine G_loadI rc_0_1610 rfl ?_
  refine G_const rc_0_1611 (by decide) ?_
  refine G_bop (z := x3 + 1) rc_0_1612 (if_pos c1) ?_
  show GO S0 0 1613 [vR 1000, vR 0, vR 237, vI x3] [vI (x3 + 1), vR 1000, vR 237, vL y6] I5 K
  obtain ⟨c7, h⟩ := h
  refine G_sld rc_0_1613 (by omega) (by omega) ?_
  show GO S0 0 1614 [vR 1000, vR 0, vR 237, vI x3] [vI (I5 1000 (x3 + 1).toNat), vR 237, vL y6] I5 K
  refine G_loadR rc_0_1614 rfl ?_
  refine G_loadI rc_0_1615 rfl ?_
  refine G_const rc_0_1616 (by decide) ?_
  refine G_bop (z := x3 + 2) rc_0_1617 (if_pos c3) ?_
  show GO S0 0 1618 [vR 1000, vR 0, vR 237, vI x3] [vI (x3 + 2), vR 1000, vI (I5 1000 (x3 + 1).toNat), vR 237, vL y6] I5 K
  obtain ⟨c8, h⟩ := h
  refine G_sld rc_0_1618 (by omega) (by omega) ?_
  show GO S0 0 1619 [vR 1000, vR 0, vR 237, vI x3] [vI (I5 1000 (x3 + 2).toNat), vI (I5 1000 (x3 + 1).toNat), vR 237, vL y6] I5 K
  refine G_call (as := [vR 237, vI (I5 1000 (x3 + 1).toNat), vI (I5 1000 (x3 + 2).toNat)]) (rest := [vL y6]) rc_0_1619 rfl rfl rfl (Nat.le_of_ble_eq_true rfl) (g_recv s0_237 rfl) ?_
  refine GO.imp h (fun v I9 h => ?_)
  obtain ⟨y10, rfl, h⟩ := h
  show GO S0 0 1622 [vR 1000, vR 0, vR 237, vI x3] [vL y10, vL y6] I9 K
  refine G_lcmp rc_0_1622 ?_
  show GO S0 0 1623 [vR 1000, vR 0, vR 237, vI x3] [vI ((if y10 < y6 then 1 else if y6 = y10 then 0 else -1))] I9 K
  refine G_i1 (C := (if y10 < y6 then 1 else if y6 = y10 then 0 else -1) = 0) rc_0_1623 rfl (fun c11 => ?_) (fun c11 => ?_)
  · rw [if_pos c11] at h
    show GO S0 0 1720 [vR 1000, vR 0, vR 237, vI x3] [] I9 K
    exact g0_1720 x3 I9 K h
  · rw [if_neg c11] at h
    show GO S0 0 1626 [vR 1000, vR 0, vR 237, vI x3] [] I9 K
    refine G_const rc_0_1626 (by decide) ?_
    exact G_retI rc_0_1627 (Or.inr (by decide)) h
def D0_1551 (x3 : Int) (I : IM) (K : Option AV → IM → Prop) : Prop :=
  (inR (x3 + 1)) ∧ (0 ≤ x3 + 1 ∧ x3 + 1 < I 1001 0) ∧ (inR (x3 + 2)) ∧ (0 ≤ x3 + 2 ∧ x3 + 2 < I 1001 0) ∧ (inR (x3 + 3)) ∧ (0 ≤ x3 + 3 ∧ x3 + 3 < I 1001 0) ∧ CALL S0 118 [vR 0, vI (I 1000 (x3 + 1).toNat), vI (I 1000 (x3 + 2).toNat), vI (I 1000 (x3 + 3).toNat)] I (fun v I7 => ∃ y8 : Int, v = some (vI y8) ∧ (0 ≤ x3 + 1 ∧ x3 + 1 < I7 1001 0) ∧ (0 ≤ x3 + 2 ∧ x3 + 2 < I7 1001 0) ∧ (0 ≤ x3 + 3 ∧ x3 + 3 < I7 1001 0) ∧ CALL S0 244 [vR 237, vI (I7 1000 (x3 + 1).toNat), vI (I7 1000 (x3 + 2).toNat), vI (I7 1000 (x3 + 3).toNat)] I7 (fun v I12 => ∃ y13 : Int, v = some (vI y13) ∧ (if y8 = y13 then (D0_1720 x3 I12 K) else (K (some (vI 0)) I12))))
set_option maxRecDepth 10000 in
theorem g0_1551 (x3 : Int) (I : IM) (K : Option AV → IM → Prop) (h : D0_1551 x3 I K) : GO S0 0 1551 [vR 1000, vR 0, vR 237, vI x3] [] I K := by
  unfold D0_1551 at h
  refine G_loadR rc_0_1551 rfl ?_
  refine G_loadR rc_0_1552 rfl ?_
  refine G_loadI rc_0_1553 rfl ?_
  refine G_const rc_0_1554 (by decide) ?_
  obtain ⟨c1, h⟩ := h
  refine G_bop (z := x3 + 1) rc_0_1555 (if_pos c1) ?_
  show GO S0 0 1556 [vR 1000, vR 0, vR 237, vI x3] [vI (x3 + 1), vR 1000, vR 0] I K
  obtain ⟨c2, h⟩ := h
  refine G_sld rc_0_1556 (by omega) (by omega) ?_
  show GO S0 0 1557 [vR 1000, vR 0, vR 237, vI x3] [vI (I 1000 (x3 + 1).toNat), vR 0] I K
  refine G_loadR rc_0_1557 rfl ?_
  refine G_loadI rc_0_1558 rfl ?_
  refine G_const rc_0_1559 (by decide) ?_
  obtain ⟨c3, h⟩ := h
  refine G_bop (z := x3 + 2) rc_0_1560 (if_pos c3) ?_
  show GO S0 0 1561 [vR 1000, vR 0, vR 237, vI x3] [vI (x3 + 2), vR 1000, vI (I 1000 (x3 + 1).toNat), vR 0] I K
  obtain ⟨c4, h⟩ := h
  refine G_sld rc_0_1561 (by omega) (by omega) ?_
  show GO S0 0 1562 [vR 1000, vR 0, vR 237, vI x3] [vI (I 1000 (x3 + 2).toNat), vI (I 1000 (x3 + 1).toNat), vR 0] I K
  refine G_loadR rc_0_1562 rfl ?_
  refine G_loadI rc_0_1563 rfl ?_
  refine G_const rc_0_1564 (by decide) ?_
  obtain ⟨c5, h⟩ := h
  refine G_bop (z := x3 + 3) rc_0_1565 (if_pos c5) ?_
  show GO S0 0 1566 [vR 1000, vR 0, vR 237, vI x3] [vI (x3 + 3), vR 1000, vI (I 1000 (x3 + 2).toNat), vI (I 1000 (x3 + 1).toNat), vR 0] I K
  obtain ⟨c6, h⟩ := h
  refine G_sld rc_0_1566 (by omega) (by omega) ?_
  show GO S0 0 1567 [vR 1000, vR 0, vR 237, vI x3] [vI (I 1000 (x3 + 3).toNat), vI (I 1000 (x3 + 2).toNat), vI (I 1000 (x3 + 1).toNat), vR 0] I K
  refine G_call (as := [vR 0, vI (I 1000 (x3 + 1).toNat), vI (I 1000 (x3 + 2).toNat), vI (I 1000 (x3 + 3).toNat)]) (rest := []) rc_0_1567 rfl rfl rfl (Nat.le_of_ble_eq_true rfl) (g_recv s0_0 rfl) ?_
  refine GO.imp h (fun v I7 h => ?_)
  obtain ⟨y8, rfl, h⟩ := h
  show GO S0 0 1570 [vR 1000, vR 0, vR 237, vI x3] [vI y8] I7 K
  refine G_loadR rc_0_1570 rfl ?_
  refine G_loadR rc_0_1571 rfl ?_
  refine G_loadI rc_0_1572 rfl ?_
  refine G_const rc_0_1573 (by decide) ?_
  refine G_bop (z := x3 + 1) rc_0_1574 (if_pos c1) ?_
  show GO S0 0 1575 [vR 1000, vR 0, vR 237, vI x3] [vI (x3 + 1), vR 1000, vR 237, vI y8] I7 K
  obtain ⟨c9, h⟩ := h
  refine G_sld rc_0_1575 (by omega) (by omega) ?_
  show GO S0 0 1576 [vR 1000, vR 0, vR 237, vI x3] [vI (I7 1000 (x3 + 1).toNat), vR 237, vI y8] I7 K
  refine G_loadR rc_0_1576 rfl ?_
  refine G_loadI rc_0_1577 rfl ?_
  refine G_const rc_0_1578 (by decide) ?_
  refine G_bop (z := x3 + 2) rc_0_1579 (if_pos c3) ?_
  show GO S0 0 1580 [vR 1000, vR 0, vR 237, vI x3] [vI (x3 + 2), vR 1000, vI (I7 1000 (x3 + 1).toNat), vR 237, vI y8] I7 K
  obtain ⟨c10, h⟩ := h
  refine G_sld rc_0_1580 (by omega) (by omega) ?_
  show GO S0 0 1581 [vR 1000, vR 0, vR 237, vI x3] [vI (I7 1000 (x3 + 2).toNat), vI (I7 1000 (x3 + 1).toNat), vR 237, vI y8] I7 K
  refine G_loadR rc_0_1581 rfl ?_
  refine G_loadI rc_0_1582 rfl ?_
  refine G_const rc_0_1583 (by decide) ?_
  refine G_bop (z := x3 + 3) rc_0_1584 (if_pos c5) ?_
  show GO S0 0 1585 [vR 1000, vR 0, vR 237, vI x3] [vI (x3 + 3), vR 1000, vI (I7 1000 (x3 + 2).toNat), vI (I7 1000 (x3 + 1).toNat), vR 237, vI y8] I7 K
  obtain ⟨c11, h⟩ := h
  refine G_sld rc_0_1585 (by omega) (by omega) ?_
  show GO S0 0 1586 [vR 1000, vR 0, vR 237, vI x3] [vI (I7 1000 (x3 + 3).toNat), vI (I7 1000 (x3 + 2).toNat), vI (I7 1000 (x3 + 1).toNat), vR 237, vI y8] I7 K
  refine G_call (as := [vR 237, vI (I7 1000 (x3 + 1).toNat), vI (I7 1000 (x3 + 2).toNat), vI (I7 1000 (x3 + 3).toNat)]) (rest := [vI y8]) rc_0_1586 rfl rfl rfl (Nat.le_of_ble_eq_true rfl) (g_recv s0_237 rfl) ?_
  refine GO.imp h (fun v I12 h => ?_)
  obtain ⟨y13, rfl, h⟩ := h
  show GO S0 0 1589 [vR 1000, vR 0, vR 237, vI x3] [vI y13, vI y8] I12 K
  refine G_i2 (C := y8 = y13) rc_0_1589 rfl (fun c14 => ?_) (fun c14 => ?_)
  · rw [if_pos c14] at h
    show GO S0 0 1720 [vR 1000, vR 0, vR 237, vI x3] [] I12 K
    exact g0_1720 x3 I12 K h
  · rw [if_neg c14] at h
    show GO S0 0 1592 [vR 1000, vR 0, vR 237, vI x3] [] I12 K
    refine G_const rc_0_1592 (by decide) ?_
    exact G_retI rc_0_1593 (Or.inr (by decide)) h
def D0_1518 (x3 : Int) (I : IM) (K : Option AV → IM → Prop) : Prop :=
  (inR (x3 + 1)) ∧ (0 ≤ x3 + 1 ∧ x3 + 1 < I 1001 0) ∧ (inR (x3 + 2)) ∧ (0 ≤ x3 + 2 ∧ x3 + 2 < I 1001 0) ∧ CALL S0 116 [vR 0, vI (I 1000 (x3 + 1).toNat), vI (I 1000 (x3 + 2).toNat)] I (fun v I5 => ∃ y6 : Int, v = some (vI y6) ∧ (0 ≤ x3 + 1 ∧ x3 + 1 < I5 1001 0) ∧ (0 ≤ x3 + 2 ∧ x3 + 2 < I5 1001 0) ∧ CALL S0 242 [vR 237, vI (I5 1000 (x3 + 1).toNat), vI (I5 1000 (x3 + 2).toNat)] I5 (fun v I9 => ∃ y10 : Int, v = some (vI y10) ∧ (if y6 = y10 then (D0_1720 x3 I9 K) else (K (some (vI 0)) I9))))
set_option maxRecDepth 10000 in
theorem g0_1518 (x3 : Int) (I : IM) (K : Option AV → IM → Prop) (h : D0_1518 x3 I K) : GO S0 0 1518 [vR 1000, vR 0, vR 237, vI x3] [] I K := by
  unfold D0_1518 at h
  refine G_loadR rc_0_1518 rfl ?_
  refine G_loadR rc_0_1519 rfl ?_
  refine G_loadI rc_0_1520 rfl ?_
  refine G_const rc_0_1521 (by decide) ?_
  obtain ⟨c1, h⟩ := h
  refine G_bop (z := x3 + 1) rc_0_1522 (if_pos c1) ?_
  show GO S0 0 1523 [vR 1000, vR 0, vR 237, vI x3] [vI (x3 + 1), vR 1000, vR 0] I K
  obtain ⟨c2, h⟩ := h
  refine G_sld rc_0_1523 (by omega) (by omega) ?_
  show GO S0 0 1524 [vR 1000, vR 0, vR 237, vI x3] [vI (I 1000 (x3 + 1).toNat), vR 0] I K
  refine G_loadR rc_0_1524 rfl ?_
  refine G_loadI rc_0_1525 rfl ?_
  refine G_const rc_0_1526 (by decide) ?_
  obtain ⟨c3, h⟩ := h
  refine G_bop (z := x3 + 2) rc_0_1527 (if_pos c3) ?_
  show GO S0 0 1528 [vR 1000, vR 0, vR 237, vI x3] [vI (x3 + 2), vR 1000, vI (I 1000 (x3 + 1).toNat), vR 0] I K
  obtain ⟨c4, h⟩ := h
  refine G_sld rc_0_1528 (by omega) (by omega) ?_
  show GO S0 0 1529 [vR 1000, vR 0, vR 237, vI x3] [vI (I 1000 (x3 + 2).toNat), vI (I 1000 (x3 + 1).toNat), vR 0] I K
  refine G_call (as := [vR 0, vI (I 1000 (x3 + 1).toNat), vI (I 1000 (x3 + 2).toNat)]) (rest := []) rc_0_1529 rfl rfl rfl (Nat.le_of_ble_eq_true rfl) (g_recv s0_0 rfl) ?_
  refine GO.imp h (fun v I5 h => ?_)
  obtain ⟨y6, rfl, h⟩ := h
  show GO S0 0 1532 [vR 1000, vR 0, vR 237, vI x3] [vI y6] I5 K
  refine G_loadR rc_0_1532 rfl ?_
  refine G_loadR rc_0_1533 rfl ?_
  refine G_loadI rc_0_1534 rfl ?_
  refine G_const rc_0_1535 (by decide) ?_
  refine G_bop (z := x3 + 1) rc_0_1536 (if_pos c1) ?_
  show GO S0 0 1537 [vR 1000, vR 0, vR 237, vI x3] [vI (x3 + 1), vR 1000, vR 237, vI y6] I5 K
  obtain ⟨c7, h⟩ := h
  refine G_sld rc_0_1537 (by omega) (by omega) ?_
  show GO S0 0 1538 [vR 1000, vR 0, vR 237, vI x3] [vI (I5 1000 (x3 + 1).toNat), vR 237, vI y6] I5 K
  refine G_loadR rc_0_1538 rfl ?_
  refine G_loadI rc_0_1539 rfl ?_
  refine G_const rc_0_1540 (by decide) ?_
  refine G_bop (z := x3 + 2) rc_0_1541 (if_pos c3) ?_
  show GO S0 0 1542 [vR 1000, vR 0, vR 237, vI x3] [vI (x3 + 2), vR 1000, vI (I5 1000 (x3 + 1).toNat), vR 237, vI y6] I5 K
  obtain ⟨c8, h⟩ := h
  refine G_sld rc_0_1542 (by omega) (by omega) ?_
  show GO S0 0 1543 [vR 1000, vR 0, vR 237, vI x3] [vI (I5 1000 (x3 + 2).toNat), vI (I5 1000 (x3 + 1).toNat), vR 237, vI y6] I5 K
  refine G_call (as := [vR 237, vI (I5 1000 (x3 + 1).toNat), vI (I5 1000 (x3 + 2).toNat)]) (rest := [vI y6]) rc_0_1543 rfl rfl rfl (Nat.le_of_ble_eq_true rfl) (g_recv s0_237 rfl) ?_
  refine GO.imp h (fun v I9 h => ?_)
  obtain ⟨y10, rfl, h⟩ := h
  show GO S0 0 1546 [vR 1000, vR 0, vR 237, vI x3] [vI y10, vI y6] I9 K
  refine G_i2 (C := y6 = y10) rc_0_1546 rfl (fun c11 => ?_) (fun c11 => ?_)
  · rw [if_pos c11] at h
    show GO S0 0 1720 [vR 1000, vR 0, vR 237, vI x3] [] I9 K
    exact g0_1720 x3 I9 K h
  · rw [if_neg c11] at h
    show GO S0 0 1549 [vR 1000, vR 0, vR 237, vI x3] [] I9 K
    refine G_const rc_0_1549 (by decide) ?_
    exact G_retI rc_0_1550 (Or.inr (by decide)) h
def D0_1495 (x3 : Int) (I : IM) (K : Option AV → IM → Prop) : Prop :=
  (inR (x3 + 1)) ∧ (0 ≤ x3 + 1 ∧ x3 + 1 < I 1001 0) ∧ CALL S0 114 [vR 0, vI (I 1000 (x3 + 1).toNat)] I (fun v I3 => ∃ y4 : Int, v = some (vI y4) ∧ (0 ≤ x3 + 1 ∧ x3 + 1 < I3 1001 0) ∧ CALL S0 240 [vR 237, vI (I3 1000 (x3 + 1).toNat)] I3 (fun v I6 => ∃ y7 : Int, v = some (vI y7) ∧ (if y4 = y7 then (D0_1720 x3 I6 K) else (K (some (vI 0)) I6))))
set_option maxRecDepth 10000 in
theorem g0_1495 (x3 : Int) (I : IM) (K : Option AV → IM → Prop) (h : D0_1495 x3 I K) : GO S0 0 1495 [vR 1000, vR 0, vR 237, vI x3] [] I K := by
  unfold D0_1495 at h
  refine G_loadR rc_0_1495 rfl ?_
  refine G_loadR rc_0_1496 rfl ?_
  refine G_loadI rc_0_1497 rfl ?_
  refine G_const rc_0_1498 (by decide) ?_
  obtain ⟨c1, h⟩ := h
  refine G_bop (z := x3 + 1) rc_0_1499 (if_pos c1) ?_
  show GO S0 0 1500 [vR 1000, vR 0, vR 237, vI x3] [vI (x3 + 1), vR 1000, vR 0] I K
  obtain ⟨c2, h⟩ := h
  refine G_sld rc_0_1500 (by omega) (by omega) ?_
  show GO S0 0 1501 [vR 1000, vR 0, vR 237, vI x3] [vI (I 1000 (x3 + 1).toNat), vR 0] I K
  refine G_call (as := [vR 0, vI (I 1000 (x3 + 1).toNat)]) (rest := []) rc_0_1501 rfl rfl rfl (Nat.le_of_ble_eq_true rfl) (g_recv s0_0 rfl) ?_
  refine GO.imp h (fun v I3 h => ?_)
  obtain ⟨y4, rfl, h⟩ := h
  show GO S0 0 1504 [vR 1000, vR 0, vR 237, vI x3] [vI y4] I3 K
  refine G_loadR rc_0_1504 rfl ?_
  refine G_loadR rc_0_1505 rfl ?_
  refine G_loadI rc_0_1506 rfl ?_
  refine G_const rc_0_1507 (by decide) ?_
  refine G_bop (z := x3 + 1) rc_0_1508 (if_pos c1) ?_
  show GO S0 0 1509 [vR 1000, vR 0, vR 237, vI x3] [vI (x3 + 1), vR 1000, vR 237, vI y4] I3 K
  obtain ⟨c5, h⟩ := h
  refine G_sld rc_0_1509 (by omega) (by omega) ?_
  show GO S0 0 1510 [vR 1000, vR 0, vR 237, vI x3] [vI (I3 1000 (x3 + 1).toNat), vR 237, vI y4] I3 K
  refine G_call (as := [vR 237, vI (I3 1000 (x3 + 1).toNat)]) (rest := [vI y4]) rc_0_1510 rfl rfl rfl (Nat.le_of_ble_eq_true rfl) (g_recv s0_237 rfl) ?_
  refine GO.imp h (fun v I6 h => ?_)
  obtain ⟨y7, rfl, h⟩ := h
  show GO S0 0 1513 [vR 1000, vR 0, vR 237, vI x3] [vI y7, vI y4] I6 K
  refine G_i2 (C := y4 = y7) rc_0_1513 rfl (fun c8 => ?_) (fun c8 => ?_)
  · rw [if_pos c8] at h
    show GO S0 0 1720 [vR 1000, vR 0, vR 237, vI x3] [] I6 K
    exact g0_1720 x3 I6 K h
  · rw [if_neg c8] at h
    show GO S0 0 1516 [vR 1000, vR 0, vR 237, vI x3] [] I6 K
    refine G_const rc_0_1516 (by decide) ?_
    exact G_retI rc_0_1517 (Or.inr (by decide)) h
def D0_1482 (x3 : Int) (I : IM) (K : Option AV → IM → Prop) : Prop :=
  CALL S0 112 [vR 0] I (fun v I1 => ∃ y2 : Int, v = some (vI y2) ∧ CALL S0 197 [vR 237] I1 (fun v I3 => ∃ y4 : Int, v = some (vI y4) ∧ (if y2 = y4 then (D0_1720 x3 I3 K) else (K (some (vI 0)) I3))))
set_option maxRecDepth 10000 in
theorem g0_1482 (x3 : Int) (I : IM) (K : Option AV → IM → Prop) (h : D0_1482 x3 I K) : GO S0 0 1482 [vR 1000, vR 0, vR 237, vI x3] [] I K := by
  unfold D0_1482 at h
  refine G_loadR rc_0_1482 rfl ?_
  refine G_call (as := [vR 0]) (rest := []) rc_0_1483 rfl rfl rfl (Nat.le_of_ble_eq_true rfl) (g_recv s0_0 rfl) ?_
  refine GO.imp h (fun v I1 h => ?_)
  obtain ⟨y2, rfl, h⟩ := h
  show GO S0 0 1486 [vR 1000, vR 0, vR 237, vI x3] [vI y2] I1 K
  refine G_loadR rc_0_1486 rfl ?_
  refine G_call (as := [vR 237]) (rest := [vI y2]) rc_0_1487 rfl rfl rfl (Nat.le_of_ble_eq_true rfl) (g_recv s0_237 rfl) ?_
  refine GO.imp h (fun v I3 h => ?_)
  obtain ⟨y4, rfl, h⟩ := h
  show GO S0 0 1490 [vR 1000, vR 0, vR 237, vI x3] [vI y4, vI y2] I3 K
  refine G_i2 (C := y2 = y4) rc_0_1490 rfl (fun c5 => ?_) (fun c5 => ?_)
  · rw [if_pos c5] at h
    show GO S0 0 1720 [vR 1000, vR 0, vR 237, vI x3] [] I3 K
    exact g0_1720 x3 I3 K h
  · rw [if_neg c5] at h
    show GO S0 0 1493 [vR 1000, vR 0, vR 237, vI x3] [] I3 K
    refine G_const rc_0_1493 (by decide) ?_
    exact G_retI rc_0_1494 (Or.inr (by decide)) h
def D0_1439 (x3 : Int) (I : IM) (K : Option AV → IM → Prop) : Prop :=
  (inR (x3 + 1)) ∧ (0 ≤ x3 + 1 ∧ x3 + 1 < I 1001 0) ∧ (inR (x3 + 2)) ∧ (0 ≤ x3 + 2 ∧ x3 + 2 < I 1001 0) ∧ (inR (x3 + 3)) ∧ (0 ≤ x3 + 3 ∧ x3 + 3 < I 1001 0) ∧ CALL S0 111 [vR 0, vI (I 1000 (x3 + 1).toNat), vI (I 1000 (x3 + 2).toNat), vI (I 1000 (x3 + 3).toNat)] I (fun v I7 => ∃ y8 : Int, v = some (vI y8) ∧ (0 ≤ x3 + 1 ∧ x3 + 1 < I7 1001 0) ∧ (0 ≤ x3 + 2 ∧ x3 + 2 < I7 1001 0) ∧ (0 ≤ x3 + 3 ∧ x3 + 3 < I7 1001 0) ∧ CALL S0 238 [vR 237, vI (I7 1000 (x3 + 1).toNat), vI (I7 1000 (x3 + 2).toNat), vI (I7 1000 (x3 + 3).toNat)] I7 (fun v I12 => ∃ y13 : Int, v = some (vI y13) ∧ (if y8 = y13 then (D0_1720 x3 I12 K) else (K (some (vI 0)) I12))))
set_option maxRecDepth 10000 in
theorem g0_1439 (x3 : Int) (I : IM) (K : Option AV → IM → Prop) (h : D0_1439 x3 I K) : GO S0 0 1439 [vR 1000, vR 0, vR 237, vI x3] [] I K := by
  unfold D0_1439 at h
  refine G_loadR rc_0_1439 rfl ?_
  refine G_loadR rc_0_1440 rfl ?_
  refine G_loadI rc_0_1441 rfl ?_
  refine G_const rc_0_1442 (by decide) ?_
  obtain ⟨c1, h⟩ := h
  refine G_bop (z := x3 + 1) rc_0_1443 (if_pos c1) ?_
  show GO S0 0 1444 [vR 1000, vR 0, vR 237, vI x3] [vI (x3 + 1), vR 1000, vR 0] I K
  obtain ⟨c2, h⟩ := h
  refine G_sld rc_0_1444 (by omega) (by omega) ?_
  show GO S0 0 1445 [vR 1000, vR 0, vR 237, vI x3] [vI (I 1000 (x3 + 1).toNat), vR 0] I K
  refine G_loadR rc_0_1445 rfl ?_
  refine G_loadI rc_0_1446 rfl ?_
  refine G_const rc_0_1447 (by decide) ?_
  obtain ⟨c3, h⟩ := h
  refine G_bop (z := x3 + 2) rc_0_1448 (if_pos c3) ?_
  show GO S0 0 1449 [vR 1000, vR 0, vR 237, vI x3] [vI (x3 + 2), vR 1000, vI (I 1000 (x3 + 1).toNat), vR 0] I K
  obtain ⟨c4, h⟩ := h
  refine G_sld rc_0_1449 (by omega) (by omega) ?_
  show GO S0 0 1450 [vR 1000, vR 0, vR 237, vI x3] [vI (I 1000 (x3 + 2).toNat), vI (I 1000 (x3 + 1).toNat), vR 0] I K
  refine G_loadR rc_0_1450 rfl ?_
  refine G_loadI rc_0_1451 rfl ?_
  refine G_const rc_0_1452 (by decide) ?_
  obtain ⟨c5, h⟩ := h
  refine G_bop (z := x3 + 3) rc_0_1453 (if_pos c5) ?_
  show GO S0 0 1454 [vR 1000, vR 0, vR 237, vI x3] [vI (x3 + 3), vR 1000, vI (I 1000 (x3 + 2).toNat), vI (I 1000 (x3 + 1).toNat), vR 0] I K
  obtain ⟨c6, h⟩ := h
  refine G_sld rc_0_1454 (by omega) (by omega) ?_
  show GO S0 0 1455 [vR 1000, vR 0, vR 237, vI x3] [vI (I 1000 (x3 + 3).toNat), vI (I 1000 (x3 + 2).toNat), vI (I 1000 (x3 + 1).toNat), vR 0] I K
  refine G_call (as := [vR 0, vI (I 1000 (x3 + 1).toNat), vI (I 1000 (x3 + 2).toNat), vI (I 1000 (x3 + 3).toNat)]) (rest := []) rc_0_1455 rfl rfl rfl (Nat.le_of_ble_eq_true rfl) (g_recv s0_0 rfl) ?_
  refine GO.imp h (fun v I7 h => ?_)
  obtain ⟨y8, rfl, h⟩ := h
  show GO S0 0 1458 [vR 1000, vR 0, vR 237, vI x3] [vI y8] I7 K
  refine G_loadR rc_0_1458 rfl ?_
  refine G_loadR rc_0_1459 rfl ?_
  refine G_loadI rc_0_1460 rfl ?_
  refine G_const rc_0_1461 (by decide) ?_
  refine G_bop (z := x3 + 1) rc_0_1462 (if_pos c1) ?_
  show GO S0 0 1463 [vR 1000, vR 0, vR 237, vI x3] [vI (x3 + 1), vR 1000, vR 237, vI y8] I7 K
  obtain ⟨c9, h⟩ := h
  refine G_sld rc_0_1463 (by omega) (by omega) ?_
  show GO S0 0 1464 [vR 1000, vR 0, vR 237, vI x3] [vI (I7 1000 (x3 + 1).toNat), vR 237, vI y8] I7 K
  refine G_loadR rc_0_1464 rfl ?_
  refine G_loadI rc_0_1465 rfl ?_
  refine G_const rc_0_1466 (by decide) ?_
  refine G_bop (z := x3 + 2) rc_0_1467 (if_pos c3) ?_
  show GO S0 0 1468 [vR 1000, vR 0, vR 237, vI x3] [vI (x3 + 2), vR 1000, vI (I7 1000 (x3 + 1).toNat), vR 237, vI y8] I7 K
  obtain ⟨c10, h⟩ := h
  refine G_sld rc_0_1468 (by omega) (by omega) ?_
  show GO S0 0 1469 [vR 1000, vR 0, vR 237, vI x3] [vI (I7 1000 (x3 + 2).toNat), vI (I7 1000 (x3 + 1).toNat), vR 237, vI y8] I7 K
  refine G_loadR rc_0_1469 rfl ?_
  refine G_loadI rc_0_1470 rfl ?_
  refine G_const rc_0_1471 (by decide) ?_
  refine G_bop (z := x3 + 3) rc_0_1472 (if_pos c5) ?_
  show GO S0 0 1473 [vR 1000, vR 0, vR 237, vI x3] [vI (x3 + 3), vR 1000, vI (I7 1000 (x3 + 2).toNat), vI (I7 1000 (x3 + 1).toNat), vR 237, vI y8] I7 K
  obtain ⟨c11, h⟩ := h
  refine G_sld rc_0_1473 (by omega) (by omega) ?_
  show GO S0 0 1474 [vR 1000, vR 0, vR 237, vI x3] [vI (I7 1000 (x3 + 3).toNat), vI (I7 1000 (x3 + 2).toNat), vI (I7 1000 (x3 + 1).toNat), vR 237, vI y8] I7 K
  refine G_call (as := [vR 237, vI (I7 1000 (x3 + 1).toNat), vI (I7 1000 (x3 + 2).toNat), vI (I7 1000 (x3 + 3).toNat)]) (rest := [vI y8]) rc_0_1474 rfl rfl rfl (Nat.le_of_ble_eq_true rfl) (g_recv s0_237 rfl) ?_
  refine GO.imp h (fun v I12 h => ?_)
  obtain ⟨y13, rfl, h⟩ := h
  show GO S0 0 1477 [vR 1000, vR 0, vR 237, vI x3] [vI y13, vI y8] I12 K
  refine G_i2 (C := y8 = y13) rc_0_1477 rfl (fun c14 => ?_) (fun c14 => ?_)
  · rw [if_pos c14] at h
    show GO S0 0 1720 [vR 1000, vR 0, vR 237, vI x3] [] I12 K
    exact g0_1720 x3 I12 K h
  · rw [if_neg c14] at h
    show GO S0 0 1480 [vR 1000, vR 0, vR 237, vI x3] [] I12 K
    refine G_const rc_0_1480 (by decide) ?_
    exact G_retI rc_0_1481 (Or.inr (by decide)) h
def D0_1406 (x3 : Int) (I : IM) (K : Option AV → IM → Prop) : Prop :=
  (inR (x3 + 1)) ∧ (0 ≤ x3 + 1 ∧ x3 + 1 < I 1001 0) ∧ (inR (x3 + 2)) ∧ (0 ≤ x3 + 2 ∧ x3 + 2 < I 1001 0) ∧ CALL S0 108 [vR 0, vI (I 1000 (x3 + 1).toNat), vI (I 1000 (x3 + 2).toNat)] I (fun v I5 => ∃ y6 : Int, v = some (vI y6) ∧ (0 ≤ x3 + 1 ∧ x3 + 1 < I5 1001 0) ∧ (0 ≤ x3 + 2 ∧ x3 + 2 < I5 1001 0) ∧ CALL S0 235 [vR 237, vI (I5 1000 (x3 + 1).toNat), vI (I5 1000 (x3 + 2).toNat)] I5 (fun v I9 => ∃ y10 : Int, v = some (vI y10) ∧ (if y6 = y10 then (D0_1720 x3 I9 K) else (K (some (vI 0)) I9))))
set_option maxRecDepth 10000 in
theorem g0_1406 (x3 : Int) (I : IM) (K : Option AV → IM → Prop) (h : D0_1406 x3 I K) : GO S0 0 1406 [vR 1000, vR 0, vR 237, vI x3] [] I K := by
  unfold D0_1406 at h
  refine G_loadR rc_0_1406 rfl ?_
  refine G_loadR rc_0_1407 rfl ?_
  refine G_loadI rc_0_1408 rfl ?_
  refine G_const rc_0_1409 (by decide) ?_
  obtain ⟨c1, h⟩ := h
  refine G_bop (z := x3 + 1) rc_0_1410 (if_pos c1) ?_
  show GO S0 0 1411 [vR 1000, vR 0, vR 237, vI x3] [vI (x3 + 1), vR 1000, vR 0] I K
  obtain ⟨c2, h⟩ := h
  refine G_sld rc_0_1411 (by omega) (by omega) ?_
  show GO S0 0 1412 [vR 1000, vR 0, vR 237, vI x3] [vI (I 1000 (x3 + 1).toNat), vR 0] I K
  refine G_loadR rc_0_1412 rfl ?_
  refine G_loadI rc_0_1413 rfl ?_
  refine G_const rc_0_1414 (by decide) ?_
  obtain ⟨c3, h⟩ := h
  refine G_bop (z := x3 + 2) rc_0_1415 (if_pos c3) ?_
  show GO S0 0 1416 [vR 1000, vR 0, vR 237, vI x3] [vI (x3 + 2), vR 1000, vI (I 1000 (x3 + 1).toNat), vR 0] I K
  obtain ⟨c4, h⟩ := h
  refine G_sld rc_0_1416 (by omega) (by omega) ?_
  show GO S0 0 1417 [vR 1000, vR 0, vR 237, vI x3] [vI (I 1000 (x3 + 2).toNat), vI (I 1000 (x3 + 1).toNat), vR 0] I K
  refine G_call (as := [vR 0, vI (I 1000 (x3 + 1).toNat), vI (I 1000 (x3 + 2).toNat)]) (rest := []) rc_0_1417 rfl rfl rfl (Nat.le_of_ble_eq_true rfl) (g_recv s0_0 rfl) ?_
  refine GO.imp h (fun v I5 h => ?_)
  obtain ⟨y6, rfl, h⟩ := h
  show GO S0 0 1420 [vR 1000, vR 0, vR 237, vI x3] [vI y6] I5 K
  refine G_loadR rc_0_1420 rfl ?_
  refine G_loadR rc_0_1421 rfl ?_
  refine G_loadI rc_0_1422 rfl ?_
  refine G_const rc_0_1423 (by decide) ?_
  refine G_bop (z := x3 + 1) rc_0_1424 (if_pos c1) ?_
  show GO S0 0 1425 [vR 1000, vR 0, vR 237, vI x3] [vI (x3 + 1), vR 1000, vR 237, vI y6] I5 K
  obtain ⟨c7, h⟩ := h
  refine G_sld rc_0_1425 (by omega) (by omega) ?_
  show GO S0 0 1426 [vR 1000, vR 0, vR 237, vI x3] [vI (I5 1000 (x3 + 1).toNat), vR 237, vI y6] I5 K
  refine G_loadR rc_0_1426 rfl ?_
  refine G_loadI rc_0_1427 rfl ?_
  refine G_const rc_0_1428 (by decide) ?_
  refine G_bop (z := x3 + 2) rc_0_1429 (if_pos c3) ?_
  show GO S0 0 1430 [vR 1000, vR 0, vR 237, vI x3] [vI (x3 + 2), vR 1000, vI (I5 1000 (x3 + 1).toNat), vR 237, vI y6] I5 K
  obtain ⟨c8, h⟩ := h
  refine G_sld rc_0_1430 (by omega) (by omega) ?_
  show GO S0 0 1431 [vR 1000, vR 0, vR 237, vI x3] [vI (I5 1000 (x3 + 2).toNat), vI (I5 1000 (x3 + 1).toNat), vR 237, vI y6] I5 K
  refine G_call (as := [vR 237, vI (I5 1000 (x3 + 1).toNat), vI (I5 1000 (x3 + 2).toNat)]) (rest := [vI y6]) rc_0_1431 rfl rfl rfl (Nat.le_of_ble_eq_true rfl) (g_recv s0_237 rfl) ?_
  refine GO.imp h (fun v I9 h => ?_)
  obtain ⟨y10, rfl, h⟩ := h
  show GO S0 0 1434 [vR 1000, vR 0, vR 237, vI x3] [vI y10, vI y6] I9 K
  refine G_i2 (C := y6 = y10) rc_0_1434 rfl (fun c11 => ?_) (fun c11 => ?_)
  · rw [if_pos c11] at h
    show GO S0 0 1720 [vR 1000, vR 0, vR 237, vI x3] [] I9 K
    exact g0_1720 x3 I9 K h
  · rw [if_neg c11] at h
    show GO S0 0 1437 [vR 1000, vR 0, vR 237, vI x3] [] I9 K
    refine G_const rc_0_1437 (by decide) ?_
    exact G_retI rc_0_1438 (Or.inr (by decide)) h
def D0_1383 (x3 : Int) (I : IM) (K : Option AV → IM → Prop) : Prop :=
  (inR (x3 + 1)) ∧ (0 ≤ x3 + 1 ∧ x3 + 1 < I 1001 0) ∧ CALL S0 106 [vR 0, vI (I 1000 (x3 + 1).toNat)] I (fun v I3 => ∃ y4 : Int, v = some (vI y4) ∧ (0 ≤ x3 + 1 ∧ x3 + 1 < I3 1001 0) ∧ CALL S0 233 [vR 237, vI (I3 1000 (x3 + 1).toNat)] I3 (fun v I6 => ∃ y7 : Int, v = some (vI y7) ∧ (if y4 = y7 then (D0_1720 x3 I6 K) else (K (some (vI 0)) I6))))
set_option maxRecDepth 10000 in
theorem g0_1383 (x3 : Int) (I : IM) (K : Option AV → IM → Prop) (h : D0_1383 x3 I K) : GO S0 0 1383 [vR 1000, vR 0, vR 237, vI x3] [] I K := by
  unfold D0_1383 at h
  refine G_loadR rc_0_1383 rfl ?_
  refine G_loadR rc_0_1384 rfl ?_
  refine G_loadI rc_0_1385 rfl ?_
  refine G_const rc_0_1386 (by decide) ?_
  obtain ⟨c1, h⟩ := h
  refine G_bop (z := x3 + 1) rc_0_1387 (if_pos c1) ?_
  show GO S0 0 1388 [vR 1000, vR 0, vR 237, vI x3] [vI (x3 + 1), vR 1000, vR 0] I K
  obtain ⟨c2, h⟩ := h
  refine G_sld rc_0_1388 (by omega) (by omega) ?_
  show GO S0 0 1389 [vR 1000, vR 0, vR 237, vI x3] [vI (I 1000 (x3 + 1).toNat), vR 0] I K
  refine G_call (as := [vR 0, vI (I 1000 (x3 + 1).toNat)]) (rest := []) rc_0_1389 rfl rfl rfl (Nat.le_of_ble_eq_true rfl) (g_recv s0_0 rfl) ?_
  refine GO.imp h (fun v I3 h => ?_)
  obtain ⟨y4, rfl, h⟩ := h
  show GO S0 0 1392 [vR 1000, vR 0, vR 237, vI x3] [vI y4] I3 K
  refine G_loadR rc_0_1392 rfl ?_
  refine G_loadR rc_0_1393 rfl ?_
  refine G_loadI rc_0_1394 rfl ?_
  refine G_const rc_0_1395 (by decide) ?_
  refine G_bop (z := x3 + 1) rc_0_1396 (if_pos c1) ?_
  show GO S0 0 1397 [vR 1000, vR 0, vR 237, vI x3] [vI (x3 + 1), vR 1000, vR 237, vI y4] I3 K
  obtain ⟨c5, h⟩ := h
  refine G_sld rc_0_1397 (by omega) (by omega) ?_
  show GO S0 0 1398 [vR 1000, vR 0, vR 237, vI x3] [vI (I3 1000 (x3 + 1).toNat), vR 237, vI y4] I3 K
  refine G_call (as := [vR 237, vI (I3 1000 (x3 + 1).toNat)]) (rest := [vI y4]) rc_0_1398 rfl rfl rfl (Nat.le_of_ble_eq_true rfl) (g_recv s0_237 rfl) ?_
  refine GO.imp h (fun v I6 h => ?_)
  obtain ⟨y7, rfl, h⟩ := h
  show GO S0 0 1401 [vR 1000, vR 0, vR 237, vI x3] [vI y7, vI y4] I6 K
  refine G_i2 (C := y4 = y7) rc_0_1401 rfl (fun c8 => ?_) (fun c8 => ?_)
  · rw [if_pos c8] at h
    show GO S0 0 1720 [vR 1000, vR 0, vR 237, vI x3] [] I6 K
    exact g0_1720 x3 I6 K h
  · rw [if_neg c8] at h
    show GO S0 0 1404 [vR 1000, vR 0, vR 237, vI x3] [] I6 K
    refine G_const rc_0_1404 (by decide) ?_
    exact G_retI rc_0_1405 (Or.inr (by decide)) h
def D0_1360 (x3 : Int) (I : IM) (K : Option AV → IM → Prop) : Prop :=
  (inR (x3 + 1)) ∧ (0 ≤ x3 + 1 ∧ x3 + 1 < I 1001 0) ∧ CALL S0 103 [vR 0, vI (I 1000 (x3 + 1).toNat)] I (fun v I3 => ∃ y4 : Int, v = some (vI y4) ∧ (0 ≤ x3 + 1 ∧ x3 + 1 < I3 1001 0) ∧ CALL S0 231 [vR 237, vI (I3 1000 (x3 + 1).toNat)] I3 (fun v I6 => ∃ y7 : Int, v = some (vI y7) ∧ (if y4 = y7 then (D0_1720 x3 I6 K) else (K (some (vI 0)) I6))))
set_option maxRecDepth 10000 in
theorem g0_1360 (x3 : Int) (I : IM) (K : Option AV → IM → Prop) (h : D0_1360 x3 I K) : GO S0 0 1360 [vR 1000, vR 0, vR 237, vI x3] [] I K := by
  unfold D0_1360 at h
  refine G_loadR rc_0_1360 rfl ?_
  refine G_loadR rc_0_1361 rfl ?_
  refine G_loadI rc_0_1362 rfl ?_
  refine G_const rc_0_1363 (by decide) ?_
  obtain ⟨c1, h⟩ := h
  refine G_bop (z := x3 + 1) rc_0_1364 (if_pos c1) ?_
  show GO S0 0 1365 [vR 1000, vR 0, vR 237, vI x3] [vI (x3 + 1), vR 1000, vR 0] I K
  obtain ⟨c2, h⟩ := h
  refine G_sld rc_0_1365 (by omega) (by omega) ?_
  show GO S0 0 1366 [vR 1000, vR 0, vR 237, vI x3] [vI (I 1000 (x3 + 1).toNat), vR 0] I K
  refine G_call (as := [vR 0, vI (I 1000 (x3 + 1).toNat)]) (rest := []) rc_0_1366 rfl rfl rfl (Nat.le_of_ble_eq_true rfl) (g_recv s0_0 rfl) ?_
  refine GO.imp h (fun v I3 h => ?_)
  obtain ⟨y4, rfl, h⟩ := h
  show GO S0 0 1369 [vR 1000, vR 0, vR 237, vI x3] [vI y4] I3 K
  refine G_loadR rc_0_1369 rfl ?_
  refine G_loadR rc_0_1370 rfl ?_
  refine G_loadI rc_0_1371 rfl ?_
  refine G_const rc_0_1372 (by decide) ?_
  refine G_bop (z := x3 + 1) rc_0_1373 (if_pos c1) ?_
  show GO S0 0 1374 [vR 1000, vR 0, vR 237, vI x3] [vI (x3 + 1), vR 1000, vR 237, vI y4] I3 K
  obtain ⟨c5, h⟩ := h
  refine G_sld rc_0_1374 (by omega) (by omega) ?_
  show GO S0 0 1375 [vR 1000, vR 0, vR 237, vI x3] [vI (I3 1000 (x3 + 1).toNat), vR 237, vI y4] I3 K
  refine G_call (as := [vR 237, vI (I3 1000 (x3 + 1).toNat)]) (rest := [vI y4]) rc_0_1375 rfl rfl rfl (Nat.le_of_ble_eq_true rfl) (g_recv s0_237 rfl) ?_
  refine GO.imp h (fun v I6 h => ?_)
  obtain ⟨y7, rfl, h⟩ := h
  show GO S0 0 1378 [vR 1000, vR 0, vR 237, vI x3] [vI y7, vI y4] I6 K
  refine G_i2 (C := y4 = y7) rc_0_1378 rfl (fun c8 => ?_) (fun c8 => ?_)
  · rw [if_pos c8] at h
    show GO S0 0 1720 [vR 1000, vR 0, vR 237, vI x3] [] I6 K
    exact g0_1720 x3 I6 K h
  · rw [if_neg c8] at h
    show GO S0 0 1381 [vR 1000, vR 0, vR 237, vI x3] [] I6 K
    refine G_const rc_0_1381 (by decide) ?_
    exact G_retI rc_0_1382 (Or.inr (by decide)) h
def D0_1327 (x3 : Int) (I : IM) (K : Option AV → IM → Prop) : Prop :=
  (inR (x3 + 1)) ∧ (0 ≤ x3 + 1 ∧ x3 + 1 < I 1001 0) ∧ (inR (x3 + 2)) ∧ (0 ≤ x3 + 2 ∧ x3 + 2 < I 1001 0) ∧ CALL S0 101 [vR 0, vI (I 1000 (x3 + 1).toNat), vI (I 1000 (x3 + 2).toNat)] I (fun v I5 => ∃ y6 : Int, v = some (vI y6) ∧ (0 ≤ x3 + 1 ∧ x3 + 1 < I5 1001 0) ∧ (0 ≤ x3 + 2 ∧ x3 + 2 < I5 1001 0) ∧ CALL S0 228 [vR 237, vI (I5 1000 (x3 + 1).toNat), vI (I5 1000 (x3 + 2).toNat)] I5 (fun v I9 => ∃ y10 : Int, v = some (vI y10) ∧ (if y6 = y10 then (D0_1720 x3 I9 K) else (K (some (vI 0)) I9))))
set_option maxRecDepth 10000 in
theorem g0_1327 (x3 : Int) (I : IM) (K : Option AV → IM → Prop) (h : D0_1327 x3 I K) : GO S0 0 1327 [vR 1000, vR 0, vR 237, vI x3] [] I K := by
  unfold D0_1327 at h
  refine G_loadR rc_0_1327 rfl ?_
  refine G_loadR rc_0_1328 rfl ?_
  refine G_loadI rc_0_1329 rfl ?_
  refine G_const rc_0_1330 (by decide) ?_
  obtain ⟨c1, h⟩ := h
  refine G_bop (z := x3 + 1) rc_0_1331 (if_pos c1) ?_
  show GO S0 0 1332 [vR 1000, vR 0, vR 237, vI x3] [vI (x3 + 1), vR 1000, vR 0] I K
  obtain ⟨c2, h⟩ := h
  refine G_sld rc_0_1332 (by omega) (by omega) ?_
  show GO S0 0 1333 [vR 1000, vR 0, vR 237, vI x3] [vI (I 1000 (x3 + 1).toNat), vR 0] I K
  refine G_loadR rc_0_1333 rfl ?_
  refine G_loadI rc_0_1334 rfl ?_
  refine G_const rc_0_1335 (by decide) ?_
  obtain ⟨c3, h⟩ := h
  refine G_bop (z := x3 + 2) rc_0_1336 (if_pos c3) ?_
  show GO S0 0 1337 [vR 1000, vR 0, vR 237, vI x3] [vI (x3 + 2), vR 1000, vI (I 1000 (x3 + 1).toNat), vR 0] I K
  obtain ⟨c4, h⟩ := h
  refine G_sld rc_0_1337 (by omega) (by omega) ?_
  show GO S0 0 1338 [vR 1000, vR 0, vR 237, vI x3] [vI (I 1000 (x3 + 2).toNat), vI (I 1000 (x3 + 1).toNat), vR 0] I K
  refine G_call (as := [vR 0, vI (I 1000 (x3 + 1).toNat), vI (I 1000 (x3 + 2).toNat)]) (rest := []) rc_0_1338 rfl rfl rfl (Nat.le_of_ble_eq_true rfl) (g_recv s0_0 rfl) ?_
  refine GO.imp h (fun v I5 h => ?_)
  obtain ⟨y6, rfl, h⟩ := h
  show GO S0 0 1341 [vR 1000, vR 0, vR 237, vI x3] [vI y6] I5 K
  refine G_loadR rc_0_1341 rfl ?_
  refine G_loadR rc_0_1342 rfl ?_
  refine G_loadI rc_0_1343 rfl ?_
  refine G_const rc_0_1344 (by decide) ?_
  refine G_bop (z := x3 + 1) rc_0_1345 (if_pos c1) ?_
  show GO S0 0 1346 [vR 1000, vR 0, vR 237, vI x3] [vI (x3 + 1), vR 1000, vR 237, vI y6] I5 K
  obtain ⟨c7, h⟩ := h
  refine G_sld rc_0_1346 (by omega) (by omega) ?_
  show GO S0 0 1347 [vR 1000, vR 0, vR 237, vI x3] [vI (I5 1000 (x3 + 1).toNat), vR 237, vI y6] I5 K
  refine G_loadR rc_0_1347 rfl ?_
  refine G_loadI rc_0_1348 rfl ?_
  refine G_const rc_0_1349 (by decide) ?_
  refine G_bop (z := x3 + 2) rc_0_1350 (if_pos c3) ?_
  show GO S0 0 1351 [vR 1000, vR 0, vR 237, vI x3] [vI (x3 + 2), vR 1000, vI (I5 1000 (x3 + 1).toNat), vR 237, vI y6] I5 K
  obtain ⟨c8, h⟩ := h
  refine G_sld rc_0_1351 (by omega) (by omega) ?_
  show GO S0 0 1352 [vR 1000, vR 0, vR 237, vI x3] [vI (I5 1000 (x3 + 2).toNat), vI (I5 1000 (x3 + 1).toNat), vR 237, vI y6] I5 K
  refine G_call (as := [vR 237, vI (I5 1000 (x3 + 1).toNat), vI (I5 1000 (x3 + 2).toNat)]) (rest := [vI y6]) rc_0_1352 rfl rfl rfl (Nat.le_of_ble_eq_true rfl) (g_recv s0_237 rfl) ?_
  refine GO.imp h (fun v I9 h => ?_)
  obtain ⟨y10, rfl, h⟩ := h
  show GO S0 0 1355 [vR 1000, vR 0, vR 237, vI x3] [vI y10, vI y6] I9 K
  refine G_i2 (C := y6 = y10) rc_0_1355 rfl (fun c11 => ?_) (fun c11 => ?_)
  · rw [if_pos c11] at h
    show GO S0 0 1720 [vR 1000, vR 0, vR 237, vI x3] [] I9 K
    exact g0_1720 x3 I9 K h
  · rw [if_neg c11] at h
    show GO S0 0 1358 [vR 1000, vR 0, vR 237, vI x3] [] I9 K
    refine G_const rc_0_1358 (by decide) ?_
    exact G_retI rc_0_1359 (Or.inr (by decide)) h
def D0_1294 (x3 : Int) (I : IM) (K : Option AV → IM → Prop) : Prop :=
  (inR (x3 + 1)) ∧ (0 ≤ x3 + 1 ∧ x3 + 1 < I 1001 0) ∧ (inR (x3 + 2)) ∧ (0 ≤ x3 + 2 ∧ x3 + 2 < I 1001 0) ∧ CALL S0 100 [vR 0, vI (I 1000 (x3 + 1).toNat), vI (I 1000 (x3 + 2).toNat)] I (fun v I5 => ∃ y6 : Int, v = some (vI y6) ∧ (0 ≤ x3 + 1 ∧ x3 + 1 < I5 1001 0) ∧ (0 ≤ x3 + 2 ∧ x3 + 2 < I5 1001 0) ∧ CALL S0 227 [vR 237, vI (I5 1000 (x3 + 1).toNat), vI (I5 1000 (x3 + 2).toNat)] I5 (fun v I9 => ∃ y10 : Int, v = some (vI y10) ∧ (if y6 = y10 then (D0_1720 x3 I9 K) else (K (some (vI 0)) I9))))
set_option maxRecDepth 10000 in
theorem g0_1294 (x3 : Int) (I : IM) (K : Option AV → IM → Prop) (h : D0_1294 x3 I K) : GO S0 0 1294 [vR 1000, vR 0, vR 237, vI x3] [] I K := by
  unfold D0_1294 at h
  refine G_loadR rc_0_1294 rfl ?_
  refine G_loadR rc_0_1295 rfl ?_
  refine G_loadI rc_0_1296 rfl ?_
  refine G_const rc_0_1297 (by decide) ?_
  obtain ⟨c1, h⟩ := h
  refine G_bop (z := x3 + 1) rc_0_1298 (if_pos c1) ?_
  show GO S0 0 1299 [vR 1000, vR 0, vR 237, vI x3] [vI (x3 + 1), vR 1000, vR 0] I K
  obtain ⟨c2, h⟩ := h
  refine G_sld rc_0_1299 (by omega) (by omega) ?_
  show GO S0 0 1300 [vR 1000, vR 0, vR 237, vI x3] [vI (I 1000 (x3 + 1).toNat), vR 0] I K
  refine G_loadR rc_0_1300 rfl ?_
  refine G_loadI rc_0_1301 rfl ?_
  refine G_const rc_0_1302 (by decide) ?_
  obtain ⟨c3, h⟩ := h
  refine G_bop (z := x3 + 2) rc_0_1303 (if_pos c3) ?_
  show GO S0 0 1304 [vR 1000, vR 0, vR 237, vI x3] [vI (x3 + 2), vR 1000, vI (I 1000 (x3 + 1).toNat), vR 0] I K
  obtain ⟨c4, h⟩ := h
  refine G_sld rc_0_1304 (by omega) (by omega) ?_
  show GO S0 0 1305 [vR 1000, vR 0, vR 237, vI x3] [vI (I 1000 (x3 + 2).toNat), vI (I 1000 (x3 + 1).toNat), vR 0] I K
  refine G_call (as := [vR 0, vI (I 1000 (x3 + 1).toNat), vI (I 1000 (x3 + 2).toNat)]) (rest := []) rc_0_1305 rfl rfl rfl (Nat.le_of_ble_eq_true rfl) (g_recv s0_0 rfl) ?_
  refine GO.imp h (fun v I5 h => ?_)
  obtain ⟨y6, rfl, h⟩ := h
  show GO S0 0 1308 [vR 1000, vR 0, vR 237, vI x3] [vI y6] I5 K
  refine G_loadR rc_0_1308 rfl ?_
  refine G_loadR rc_0_1309 rfl ?_
  refine G_loadI rc_0_1310 rfl ?_
  refine G_const rc_0_1311 (by decide) ?_
  refine G_bop (z := x3 + 1) rc_0_1312 (if_pos c1) ?_
  show GO S0 0 1313 [vR 1000, vR 0, vR 237, vI x3] [vI (x3 + 1), vR 1000, vR 237, vI y6] I5 K
  obtain ⟨c7, h⟩ := h
  refine G_sld rc_0_1313 (by omega) (by omega) ?_
  show GO S0 0 1314 [vR 1000, vR 0, vR 237, vI x3] [vI (I5 1000 (x3 + 1).toNat), vR 237, vI y6] I5 K
  refine G_loadR rc_0_1314 rfl ?_
  refine G_loadI rc_0_1315 rfl ?_
  refine G_const rc_0_1316 (by decide) ?_
  refine G_bop (z := x3 + 2) rc_0_1317 (if_pos c3) ?_
  show GO S0 0 1318 [vR 1000, vR 0, vR 237, vI x3] [vI (x3 + 2), vR 1000, vI (I5 1000 (x3 + 1).toNat), vR 237, vI y6] I5 K
  obtain ⟨c8, h⟩ := h
  refine G_sld rc_0_1318 (by omega) (by omega) ?_
  show GO S0 0 1319 [vR 1000, vR 0, vR 237, vI x3] [vI (I5 1000 (x3 + 2).toNat), vI (I5 1000 (x3 + 1).toNat), vR 237, vI y6] I5 K
  refine G_call (as := [vR 237, vI (I5 1000 (x3 + 1).toNat), vI (I5 1000 (x3 + 2).toNat)]) (rest := [vI y6]) rc_0_1319 rfl rfl rfl (Nat.le_of_ble_eq_true rfl) (g_recv s0_237 rfl) ?_
  refine GO.imp h (fun v I9 h => ?_)
  obtain ⟨y10, rfl, h⟩ := h
  show GO S0 0 1322 [vR 1000, vR 0, vR 237, vI x3] [vI y10, vI y6] I9 K
  refine G_i2 (C := y6 = y10) rc_0_1322 rfl (fun c11 => ?_) (fun c11 => ?_)
  · rw [if_pos c11] at h
    show GO S0 0 1720 [vR 1000, vR 0, vR 237, vI x3] [] I9 K
    exact g0_1720 x3 I9 K h
  · rw [if_neg c11] at h
    show GO S0 0 1325 [vR 1000, vR 0, vR 237, vI x3] [] I9 K
    refine G_const rc_0_1325 (by decide) ?_
    exact G_retI rc_0_1326 (Or.inr (by decide)) h
def D0_1261 (x3 : Int) (I : IM) (K : Option AV → IM → Prop) : Prop :=
  (inR (x3 + 1)) ∧ (0 ≤ x3 + 1 ∧ x3 + 1 < I 1001 0) ∧ (inR (x3 + 2)) ∧ (0 ≤ x3 + 2 ∧ x3 + 2 < I 1001 0) ∧ CALL S0 98 [vR 0, vI (I 1000 (x3 + 1).toNat), vI (I 1000 (x3 + 2).toNat)] I (fun v I5 => ∃ y6 : Int, v = some (vI y6) ∧ (0 ≤ x3 + 1 ∧ x3 + 1 < I5 1001 0) ∧ (0 ≤ x3 + 2 ∧ x3 + 2 < I5 1001 0) ∧ CALL S0 225 [vR 237, vI (I5 1000 (x3 + 1).toNat), vI (I5 1000 (x3 + 2).toNat)] I5 (fun v I9 => ∃ y10 : Int, v = some (vI y10) ∧ (if y6 = y10 then (D0_1720 x3 I9 K) else (K (some (vI 0)) I9))))
set_option maxRecDepth 10000 in
theorem g0_1261 (x3 : Int) (I : IM) (K : Option AV → IM → Prop) (h : D0_1261 x3 I K) : GO S0 0 1261 [vR 1000, vR 0, vR 237, vI x3] [] I K := by
  unfold D0_1261 at h
  refine G_loadR rc_0_1261 rfl ?_
  refine G_loadR rc_0_1262 rfl ?_
  refine G_loadI rc_0_1263 rfl ?_
  refine G_const rc_0_1264 (by decide) ?_
  obtain ⟨c1, h⟩ := h
  refine G_bop (z := x3 + 1) rc_0_1265 (if_pos c1) ?_
  show GO S0 0 1266 [vR 1000, vR 0, vR 237, vI x3] [vI (x3 + 1), vR 1000, vR 0] I K
  obtain ⟨c2, h⟩ := h
  refine G_sld rc_0_1266 (by omega) (by omega) ?_
  show GO S0 0 1267 [vR 1000, vR 0, vR 237, vI x3] [vI (I 1000 (x3 + 1).toNat), vR 0] I K
  refine G_loadR rc_0_1267 rfl ?_
  refine G_loadI rc_0_1268 rfl ?_
  refine G_const rc_0_1269 (by decide) ?_
  obtain ⟨c3, h⟩ := h
  refine G_bop (z := x3 + 2) rc_0_1270 (if_pos c3) ?_
  show GO S0 0 1271 [vR 1000, vR 0, vR 237, vI x3] [vI (x3 + 2), vR 1000, vI (I 1000 (x3 + 1).toNat), vR 0] I K
  obtain ⟨c4, h⟩ := h
  refine G_sld rc_0_1271 (by omega) (by omega) ?_
  show GO S0 0 1272 [vR 1000, vR 0, vR 237, vI x3] [vI (I 1000 (x3 + 2).toNat), vI (I 1000 (x3 + 1).toNat), vR 0] I K
  refine G_call (as := [vR 0, vI (I 1000 (x3 + 1).toNat), vI (I 1000 (x3 + 2).toNat)]) (rest := []) rc_0_1272 rfl rfl rfl (Nat.le_of_ble_eq_true rfl) (g_recv s0_0 rfl) ?_
  refine GO.imp h (fun v I5 h => ?_)
  obtain ⟨y6, rfl, h⟩ := h
  show GO S0 0 1275 [vR 1000, vR 0, vR 237, vI x3] [vI y6] I5 K
  refine G_loadR rc_0_1275 rfl ?_
  refine G_loadR rc_0_1276 rfl ?_
  refine G_loadI rc_0_1277 rfl ?_
  refine G_const rc_0_1278 (by decide) ?_
  refine G_bop (z := x3 + 1) rc_0_1279 (if_pos c1) ?_
  show GO S0 0 1280 [vR 1000, vR 0, vR 237, vI x3] [vI (x3 + 1), vR 1000, vR 237, vI y6] I5 K
  obtain ⟨c7, h⟩ := h
  refine G_sld rc_0_1280 (by omega) (by omega) ?_
  show GO S0 0 1281 [vR 1000, vR 0, vR 237, vI x3] [vI (I5 1000 (x3 + 1).toNat), vR 237, vI y6] I5 K
  refine G_loadR rc_0_1281 rfl ?_
  refine G_loadI rc_0_1282 rfl ?_
  refine G_const rc_0_1283 (by decide) ?_
  refine G_bop (z := x3 + 2) rc_0_1284 (if_pos c3) ?_
  show GO S0 0 1285 [vR 1000, vR 0, vR 237, vI x3] [vI (x3 + 2), vR 1000, vI (I5 1000 (x3 + 1).toNat), vR 237, vI y6] I5 K
  obtain ⟨c8, h⟩ := h
  refine G_sld rc_0_1285 (by omega) (by omega) ?_
  show GO S0 0 1286 [vR 1000, vR 0, vR 237, vI x3] [vI (I5 1000 (x3 + 2).toNat), vI (I5 1000 (x3 + 1).toNat), vR 237, vI y6] I5 K
  refine G_call (as := [vR 237, vI (I5 1000 (x3 + 1).toNat), vI (I5 1000 (x3 + 2).toNat)]) (rest := [vI y6]) rc_0_1286 rfl rfl rfl (Nat.le_of_ble_eq_true rfl) (g_recv s0_237 rfl) ?_
  refine GO.imp h (fun v I9 h => ?_)
  obtain ⟨y10, rfl, h⟩ := h
  show GO S0 0 1289 [vR 1000, vR 0, vR 237, vI x3] [vI y10, vI y6] I9 K
  refine G_i2 (C := y6 = y10) rc_0_1289 rfl (fun c11 => ?_) (fun c11 => ?_)
  · rw [if_pos c11] at h
    show GO S0 0 1720 [vR 1000, vR 0, vR 237, vI x3] [] I9 K
    exact g0_1720 x3 I9 K h
  · rw [if_neg c11] at h
    show GO S0 0 1292 [vR 1000, vR 0, vR 237, vI x3] [] I9 K
    refine G_const rc_0_1292 (by decide) ?_
    exact G_retI rc_0_1293 (Or.inr (by decide)) h
def D0_1238 (x3 : Int) (I : IM) (K : Option AV → IM → Prop) : Prop :=
  (inR (x3 + 1)) ∧ (0 ≤ x3 + 1 ∧ x3 + 1 < I 1001 0) ∧ CALL S0 97 [vR 0, vI (I 1000 (x3 + 1).toNat)] I (fun v I3 => ∃ y4 : Int, v = some (vI y4) ∧ (0 ≤ x3 + 1 ∧ x3 + 1 < I3 1001 0) ∧ CALL S0 222 [vR 237, vI (I3 1000 (x3 + 1).toNat)] I3 (fun v I6 => ∃ y7 : Int, v = some (vI y7) ∧ (if y4 = y7 then (D0_1720 x3 I6 K) else (K (some (vI 0)) I6))))
set_option maxRecDepth 10000 in
theorem g0_1238 (x3 : Int) (I : IM) (K : Option AV → IM → Prop) (h : D0_1238 x3 I K) : GO S0 0 1238 [vR 1000, vR 0, vR 237, vI x3] [] I K := by
  unfold D0_1238 at h
  refine G_loadR rc_0_1238 rfl ?_
  refine G_loadR rc_0_1239 rfl ?_
  refine G_loadI rc_0_1240 rfl ?_
  refine G_const rc_0_1241 (by decide) ?_
  obtain ⟨c1, h⟩ := h
  refine G_bop (z := x3 + 1) rc_0_1242 (if_pos c1) ?_
  show GO S0 0 1243 [vR 1000, vR 0, vR 237, vI x3] [vI (x3 + 1), vR 1000, vR 0] I K
  obtain ⟨c2, h⟩ := h
  refine G_sld rc_0_1243 (by omega) (by omega) ?_
  show GO S0 0 1244 [vR 1000, vR 0, vR 237, vI x3] [vI (I 1000 (x3 + 1).toNat), vR 0] I K
  refine G_call (as := [vR 0, vI (I 1000 (x3 + 1).toNat)]) (rest := []) rc_0_1244 rfl rfl rfl (Nat.le_of_ble_eq_true rfl) (g_recv s0_0 rfl) ?_
  refine GO.imp h (fun v I3 h => ?_)
  obtain ⟨y4, rfl, h⟩ := h
  show GO S0 0 1247 [vR 1000, vR 0, vR 237, vI x3] [vI y4] I3 K
  refine G_loadR rc_0_1247 rfl ?_
  refine G_loadR rc_0_1248 rfl ?_
  refine G_loadI rc_0_1249 rfl ?_
  refine G_const rc_0_1250 (by decide) ?_
  refine G_bop (z := x3 + 1) rc_0_1251 (if_pos c1) ?_
  show GO S0 0 1252 [vR 1000, vR 0, vR 237, vI x3] [vI (x3 + 1), vR 1000, vR 237, vI y4] I3 K
  obtain ⟨c5, h⟩ := h
  refine G_sld rc_0_1252 (by omega) (by omega) ?_
  show GO S0 0 1253 [vR 1000, vR 0, vR 237, vI x3] [vI (I3 1000 (x3 + 1).toNat), vR 237, vI y4] I3 K
  refine G_call (as := [vR 237, vI (I3 1000 (x3 + 1).toNat)]) (rest := [vI y4]) rc_0_1253 rfl rfl rfl (Nat.le_of_ble_eq_true rfl) (g_recv s0_237 rfl) ?_
  refine GO.imp h (fun v I6 h => ?_)
  obtain ⟨y7, rfl, h⟩ := h
  show GO S0 0 1256 [vR 1000, vR 0, vR 237, vI x3] [vI y7, vI y4] I6 K
  refine G_i2 (C := y4 = y7) rc_0_1256 rfl (fun c8 => ?_) (fun c8 => ?_)
  · rw [if_pos c8] at h
    show GO S0 0 1720 [vR 1000, vR 0, vR 237, vI x3] [] I6 K
    exact g0_1720 x3 I6 K h
  · rw [if_neg c8] at h
    show GO S0 0 1259 [vR 1000, vR 0, vR 237, vI x3] [] I6 K
    refine G_const rc_0_1259 (by decide) ?_
    exact G_retI rc_0_1260 (Or.inr (by decide)) h
def D0_1215 (x3 : Int) (I : IM) (K : Option AV → IM → Prop) : Prop :=
  (inR (x3 + 1)) ∧ (0 ≤ x3 + 1 ∧ x3 + 1 < I 1001 0) ∧ CALL S0 95 [vR 0, vI (I 1000 (x3 + 1).toNat)] I (fun v I3 => ∃ y4 : Int, v = some (vI y4) ∧ (0 ≤ x3 + 1 ∧ x3 + 1 < I3 1001 0) ∧ CALL S0 223 [vR 237, vI (I3 1000 (x3 + 1).toNat)] I3 (fun v I6 => ∃ y7 : Int, v = some (vI y7) ∧ (if y4 = y7 then (D0_1720 x3 I6 K) else (K (some (vI 0)) I6))))
set_option maxRecDepth 10000 in
theorem g0_1215 (x3 : Int) (I : IM) (K : Option AV → IM → Prop) (h : D0_1215 x3 I K) : GO S0 0 1215 [vR 1000, vR 0, vR 237, vI x3] [] I K := by
  unfold D0_1215 at h
  refine G_loadR rc_0_1215 rfl ?_
  refine G_loadR rc_0_1216 rfl ?_
  refine G_loadI rc_0_1217 rfl ?_
  refine G_const rc_0_1218 (by decide) ?_
  obtain ⟨c1, h⟩ := h
  refine G_bop (z := x3 + 1) rc_0_1219 (if_pos c1) ?_
  show GO S0 0 1220 [vR 1000, vR 0, vR 237, vI x3] [vI (x3 + 1), vR 1000, vR 0] I K
  obtain ⟨c2, h⟩ := h
  refine G_sld rc_0_1220 (by omega) (by omega) ?_
  show GO S0 0 1221 [vR 1000, vR 0, vR 237, vI x3] [vI (I 1000 (x3 + 1).toNat), vR 0] I K
  refine G_call (as := [vR 0, vI (I 1000 (x3 + 1).toNat)]) (rest := []) rc_0_1221 rfl rfl rfl (Nat.le_of_ble_eq_true rfl) (g_recv s0_0 rfl) ?_
  refine GO.imp h (fun v I3 h => ?_)
  obtain ⟨y4, rfl, h⟩ := h
  show GO S0 0 1224 [vR 1000, vR 0, vR 237, vI x3] [vI y4] I3 K
  refine G_loadR rc_0_1224 rfl ?_
  refine G_loadR rc_0_1225 rfl ?_
  refine G_loadI rc_0_1226 rfl ?_
  refine G_const rc_0_1227 (by decide) ?_
  refine G_bop (z := x3 + 1) rc_0_1228 (if_pos c1) ?_
  show GO S0 0 1229 [vR 1000, vR 0, vR 237, vI x3] [vI (x3 + 1), vR 1000, vR 237, vI y4] I3 K
  obtain ⟨c5, h⟩ := h
  refine G_sld rc_0_1229 (by omega) (by omega) ?_
  show GO S0 0 1230 [vR 1000, vR 0, vR 237, vI x3] [vI (I3 1000 (x3 + 1).toNat), vR 237, vI y4] I3 K
  refine G_call (as := [vR 237, vI (I3 1000 (x3 + 1).toNat)]) (rest := [vI y4]) rc_0_1230 rfl rfl rfl (Nat.le_of_ble_eq_true rfl) (g_recv s0_237 rfl) ?_
  refine GO.imp h (fun v I6 h => ?_)
  obtain ⟨y7, rfl, h⟩ := h
  show GO S0 0 1233 [vR 1000, vR 0, vR 237, vI x3] [vI y7, vI y4] I6 K
  refine G_i2 (C := y4 = y7) rc_0_1233 rfl (fun c8 => ?_) (fun c8 => ?_)
  · rw [if_pos c8] at h
    show GO S0 0 1720 [vR 1000, vR 0, vR 237, vI x3] [] I6 K
    exact g0_1720 x3 I6 K h
  · rw [if_neg c8] at h
    show GO S0 0 1236 [vR 1000, vR 0, vR 237, vI x3] [] I6 K
    refine G_const rc_0_1236 (by decide) ?_
    exact G_retI rc_0_1237 (Or.inr (by decide)) h
def D0_1182 (x3 : Int) (I : IM) (K : Option AV → IM → Prop) : Prop :=
  (inR (x3 + 1)) ∧ (0 ≤ x3 + 1 ∧ x3 + 1 < I 1001 0) ∧ (inR (x3 + 2)) ∧ (0 ≤ x3 + 2 ∧ x3 + 2 < I 1001 0) ∧ CALL S0 91 [vR 0, vI (I 1000 (x3 + 1).toNat), vI (I 1000 (x3 + 2).toNat)] I (fun v I5 => ∃ y6 : Int, v = some (vI y6) ∧ (0 ≤ x3 + 1 ∧ x3 + 1 < I5 1001 0) ∧ (0 ≤ x3 + 2 ∧ x3 + 2 < I5 1001 0) ∧ CALL S0 219 [vR 237, vI (I5 1000 (x3 + 1).toNat), vI (I5 1000 (x3 + 2).toNat)] I5 (fun v I9 => ∃ y10 : Int, v = some (vI y10) ∧ (if y6 = y10 then (D0_1720 x3 I9 K) else (K (some (vI 0)) I9))))
set_option maxRecDepth 10000 in
theorem g0_1182 (x3 : Int) (I : IM) (K : Option AV → IM → Prop) (h : D0_1182 x3 I K) : GO S0 0 1182 [vR 1000, vR 0, vR 237, vI x3] [] I K := by
  unfold D0_1182 at h
  refine G_loadR rc_0_1182 rfl ?_
  refine G_loadR rc_0_1183 rfl ?_
  refine G_loadI rc_0_1184 rfl ?_
  refine G_const rc_0_1185 (by decide) ?_
  obtain ⟨c1, h⟩ := h
  refine G_bop (z := x3 + 1) rc_0_1186 (if_pos c1) ?_
  show GO S0 0 1187 [vR 1000, vR 0, vR 237, vI x3] [vI (x3 + 1), vR 1000, vR 0] I K
  obtain ⟨c2, h⟩ := h
  refine G_sld rc_0_1187 (by omega) (by omega) ?_
  show GO S0 0 1188 [vR 1000, vR 0, vR 237, vI x3] [vI (I 1000 (x3 + 1).toNat), vR 0] I K
  refine G_loadR rc_0_1188 rfl ?_
  refine G_loadI rc_0_1189 rfl ?_
  refine G_const rc_0_1190 (by decide) ?_
  obtain ⟨c3, h⟩ := h
  refine G_bop (z := x3 + 2) rc_0_1191 (if_pos c3) ?_
  show GO S0 0 1192 [vR 1000, vR 0, vR 237, vI x3] [vI (x3 + 2), vR 1000, vI (I 1000 (x3 + 1).toNat), vR 0] I K
  obtain ⟨c4, h⟩ := h
  refine G_sld rc_0_1192 (by omega) (by omega) ?_
  show GO S0 0 1193 [vR 1000, vR 0, vR 237, vI x3] [vI (I 1000 (x3 + 2).toNat), vI (I 1000 (x3 + 1).toNat), vR 0] I K
  refine G_call (as := [vR 0, vI (I 1000 (x3 + 1).toNat), vI (I 1000 (x3 + 2).toNat)]) (rest := []) rc_0_1193 rfl rfl rfl (Nat.le_of_ble_eq_true rfl) (g_recv s0_0 rfl) ?_
  refine GO.imp h (fun v I5 h => ?_)
  obtain ⟨y6, rfl, h⟩ := h
  show GO S0 0 1196 [vR 1000, vR 0, vR 237, vI x3] [vI y6] I5 K
  refine G_loadR rc_0_1196 rfl ?_
  refine G_loadR rc_0_1197 rfl ?_
  refine G_loadI rc_0_1198 rfl ?_
  refine G_const rc_0_1199 (by decide) ?_
  refine G_bop (z := x3 + 1) rc_0_1200 (if_pos c1) ?_
  show GO S0 0 1201 [vR 1000, vR 0, vR 237, vI x3] [vI (x3 + 1), vR 1000, vR 237, vI y6] I5 K
  obtain ⟨c7, h⟩ := h
  refine G_sld rc_0_1201 (by omega) (by omega) ?_
  show GO S0 0 1202 [vR 1000, vR 0, vR 237, vI x3] [vI (I5 1000 (x3 + 1).toNat), vR 237, vI y6] I5 K
  refine G_loadR rc_0_1202 rfl ?_
  refine G_loadI rc_0_1203 rfl ?_
  refine G_const rc_0_1204 (by decide) ?_
  refine G_bop (z := x3 + 2) rc_0_1205 (if_pos c3) ?_
  show GO S0 0 1206 [vR 1000, vR 0, vR 237, vI x3] [vI (x3 + 2), vR 1000, vI (I5 1000 (x3 + 1).toNat), vR 237, vI y6] I5 K
  obtain ⟨c8, h⟩ := h
  refine G_sld rc_0_1206 (by omega) (by omega) ?_
  show GO S0 0 1207 [vR 1000, vR 0, vR 237, vI x3] [vI (I5 1000 (x3 + 2).toNat), vI (I5 1000 (x3 + 1).toNat), vR 237, vI y6] I5 K
  refine G_call (as := [vR 237, vI (I5 1000 (x3 + 1).toNat), vI (I5 1000 (x3 + 2).toNat)]) (rest := [vI y6]) rc_0_1207 rfl rfl rfl (Nat.le_of_ble_eq_true rfl) (g_recv s0_237 rfl) ?_
  refine GO.imp h (fun v I9 h => ?_)
  obtain ⟨y10, rfl, h⟩ := h
  show GO S0 0 1210 [vR 1000, vR 0, vR 237, vI x3] [vI y10, vI y6] I9 K
  refine G_i2 (C := y6 = y10) rc_0_1210 rfl (fun c11 => ?_) (fun c11 => ?_)
  · rw [if_pos c11] at h
    show GO S0 0 1720 [vR 1000, vR 0, vR 237, vI x3] [] I9 K
    exact g0_1720 x3 I9 K h
  · rw [if_neg c11] at h
    show GO S0 0 1213 [vR 1000, vR 0, vR 237, vI x3] [] I9 K
    refine G_const rc_0_1213 (by decide) ?_
    exact G_retI rc_0_1214 (Or.inr (by decide)) h
def D0_1129 (x3 : Int) (I : IM) (K : Option AV → IM → Prop) : Prop :=
  (inR (x3 + 1)) ∧ (0 ≤ x3 + 1 ∧ x3 + 1 < I 1001 0) ∧ (inR (x3 + 2)) ∧ (0 ≤ x3 + 2 ∧ x3 + 2 < I 1001 0) ∧ (inR (x3 + 3)) ∧ (0 ≤ x3 + 3 ∧ x3 + 3 < I 1001 0) ∧ (inR (x3 + 4)) ∧ (0 ≤ x3 + 4 ∧ x3 + 4 < I 1001 0) ∧ CALL S0 90 [vR 0, vI (I 1000 (x3 + 1).toNat), vI (I 1000 (x3 + 2).toNat), vI (I 1000 (x3 + 3).toNat), vI (I 1000 (x3 + 4).toNat)] I (fun v I9 => ∃ y10 : Int, v = some (vI y10) ∧ (0 ≤ x3 + 1 ∧ x3 + 1 < I9 1001 0) ∧ (0 ≤ x3 + 2 ∧ x3 + 2 < I9 1001 0) ∧ (0 ≤ x3 + 3 ∧ x3 + 3 < I9 1001 0) ∧ (0 ≤ x3 + 4 ∧ x3 + 4 < I9 1001 0) ∧ CALL S0 218 [vR 237, vI (I9 1000 (x3 + 1).toNat), vI (I9 1000 (x3 + 2).toNat), vI (I9 1000 (x3 + 3).toNat), vI (I9 1000 (x3 + 4).toNat)] I9 (fun v I15 => ∃ y16 : Int, v = some (vI y16) ∧ (if y10 = y16 then (D0_1720 x3 I15 K) else (K (some (vI 0)) I15))))
set_option maxRecDepth 10000 in
theorem g0_1129 (x3 : Int) (I : IM) (K : Option AV → IM → Prop) (h : D0_1129 x3 I K) : GO S0 0 1129 [vR 1000, vR 0, vR 237, vI x3] [] I K := by
  unfold D0_1129 at h
  refine G_loadR rc_0_1129 rfl ?_
  refine G_loadR rc_0_1130 rfl ?_
  refine G_loadI rc_0_1131 rfl ?_
  refine G_const rc_0_1132 (by decide) ?_
  obtain ⟨c1, h⟩ := h
  refine G_bop (z := x3 + 1) rc_0_1133 (if_pos c1) ?_
  show GO S0 0 1134 [vR 1000, vR 0, vR 237, vI x3] [vI (x3 + 1), vR 1000, vR 0] I K
  obtain ⟨c2, h⟩ := h
  refine G_sld rc_0_1134 (by omega) (by omega) ?_
  show GO S0 0 1135 [vR 1000, vR 0, vR 237, vI x3] [vI (I 1000 (x3 + 1).toNat), vR 0] I K
  refine G_loadR rc_0_1135 rfl ?_
  refine G_loadI rc_0_1136 rfl ?_
  refine G_const rc_0_1137 (by decide) ?_
  obtain ⟨c3, h⟩ := h
  refine G_bop (z := x3 + 2) rc_0_1138 (if_pos c3) ?_
  show GO S0 0 1139 [vR 1000, vR 0, vR 237, vI x3] [vI (x3 + 2), vR 1000, vI (I 1000 (x3 + 1).toNat), vR 0] I K
  obtain ⟨c4, h⟩ := h
  refine G_sld rc_0_1139 (by omega) (by omega) ?_
  show GO S0 0 1140 [vR 1000, vR 0, vR 237, vI x3] [vI (I 1000 (x3 + 2).toNat), vI (I 1000 (x3 + 1).toNat), vR 0] I K
  refine G_loadR rc_0_1140 rfl ?_
  refine G_loadI rc_0_1141 rfl ?_
  refine G_const rc_0_1142 (by decide) ?_
  obtain ⟨c5, h⟩ := h
  refine G_bop (z := x3 + 3) rc_0_1143 (if_pos c5) ?_
  show GO S0 0 1144 [vR 1000, vR 0, vR 237, vI x3] [vI (x3 + 3), vR 1000, vI (I 1000 (x3 + 2).toNat), vI (I 1000 (x3 + 1).toNat), vR 0] I K
  obtain ⟨c6, h⟩ := h
  refine G_sld rc_0_1144 (by omega) (by omega) ?_
  show GO S0 0 1145 [vR 1000, vR 0, vR 237, vI x3] [vI (I 1000 (x3 + 3).toNat), vI (I 1000 (x3 + 2).toNat), vI (I 1000 (x3 + 1).toNat), vR 0] I K
  refine G_loadR rc_0_1145 rfl ?_
  refine G_loadI rc_0_1146 rfl ?_
  refine G_const rc_0_1147 (by decide) ?_
  obtain ⟨c7, h⟩ := h
  refine G_bop (z := x3 + 4) rc_0_1148 (if_pos c7) ?_
  show GO S0 0 1149 [vR 1000, vR 0, vR 237, vI x3] [vI (x3 + 4), vR 1000, vI (I 1000 (x3 + 3).toNat), vI (I 1000 (x3 + 2).toNat), vI (I 1000 (x3 + 1).toNat), vR 0] I K
  obtain ⟨c8, h⟩ := h
  refine G_sld rc_0_1149 (by omega) (by omega) ?_
  show GO S0 0 1150 [vR 1000, vR 0, vR 237, vI x3] [vI (I 1000 (x3 + 4).toNat), vI (I 1000 (x3 + 3).toNat), vI (I 1000 (x3 + 2).toNat), vI (I 1000 (x3 + 1).toNat), vR 0] I K
  refine G_call (as := [vR 0, vI (I 1000 (x3 + 1).toNat), vI (I 1000 (x3 + 2).toNat), vI (I 1000 (x3 + 3).toNat), vI (I 1000 (x3 + 4).toNat)]) (rest := []) rc_0_1150 rfl rfl rfl (Nat.le_of_ble_eq_true rfl) (g_recv s0_0 rfl) ?_
  refine GO.imp h (fun v I9 h => ?_)
  obtain ⟨y10, rfl, h⟩ := h
  show GO S0 0 1153 [vR 1000, vR 0, vR 237, vI x3] [vI y10] I9 K
  refine G_loadR rc_0_1153 rfl ?_
  refine G_loadR rc_0_1154 rfl ?_
  refine G_loadI rc_0_1155 rfl ?_
  refine G_const rc_0_1156 (by decide) ?_
  refine G_bop (z := x3 + 1) rc_0_1157 (if_pos c1) ?_
  show GO S0 0 1158 [vR 1000, vR 0, vR 237, vI x3] [vI (x3 + 1), vR 1000, vR 237, vI y10] I9 K
  obtain ⟨c11, h⟩ := h
  refine G_sld rc_0_1158 (by omega) (by omega) ?_
  show GO S0 0 1159 [vR 1000, vR 0, vR 237, vI x3] [vI (I9 1000 (x3 + 1).toNat), vR 237, vI y10] I9 K
  refine G_loadR rc_0_1159 rfl ?_
  refine G_loadI rc_0_1160 rfl ?_
  refine G_const rc_0_1161 (by decide) ?_
  refine G_bop (z := x3 + 2) rc_0_1162 (if_pos c3) ?_
  show GO S0 0 1163 [vR 1000, vR 0, vR 237, vI x3] [vI (x3 + 2), vR 1000, vI (I9 1000 (x3 + 1).toNat), vR 237, vI y10] I9 K
  obtain ⟨c12, h⟩ := h
  refine G_sld rc_0_1163 (by omega) (by omega) ?_
  show GO S0 0 1164 [vR 1000, vR 0, vR 237, vI x3] [vI (I9 1000 (x3 + 2).toNat), vI (I9 1000 (x3 + 1).toNat), vR 237, vI y10] I9 K
  refine G_loadR rc_0_1164 rfl ?_
  refine G_loadI rc_0_1165 rfl ?_
  refine G_const rc_0_1166 (by decide) ?_
  refine G_bop (z := x3 + 3) rc_0_1167 (if_pos c5) ?_
  show GO S0 0 1168 [vR 1000, vR 0, vR 237, vI x3] [vI (x3 + 3), vR 1000, vI (I9 1000 (x3 + 2).toNat), vI (I9 1000 (x3 + 1).toNat), vR 237, vI y10] I9 K
  obtain ⟨c13, h⟩ := h
  refine G_sld rc_0_1168 (by omega) (by omega) ?_
  show GO S0 0 1169 [vR 1000, vR 0, vR 237, vI x3] [vI (I9 1000 (x3 + 3).toNat), vI (I9 1000 (x3 + 2).toNat), vI (I9 1000 (x3 + 1).toNat), vR 237, vI y10] I9 K
  refine G_loadR rc_0_1169 rfl ?_
  refine G_loadI rc_0_1170 rfl ?_
  refine G_const rc_0_1171 (by decide) ?_
  refine G_bop (z := x3 + 4) rc_0_1172 (if_pos c7) ?_
  show GO S0 0 1173 [vR 1000, vR 0, vR 237, vI x3] [vI (x3 + 4), vR 1000, vI (I9 1000 (x3 + 3).toNat), vI (I9 1000 (x3 + 2).toNat), vI (I9 1000 (x3 + 1).toNat), vR 237, vI y10] I9 K
  obtain ⟨c14, h⟩ := h
  refine G_sld rc_0_1173 (by omega) (by omega) ?_
  show GO S0 0 1174 [vR 1000, vR 0, vR 237, vI x3] [vI (I9 1000 (x3 + 4).toNat), vI (I9 1000 (x3 + 3).toNat), vI (I9 1000 (x3 + 2).toNat), vI (I9 1000 (x3 + 1).toNat), vR 237, vI y10] I9 K
  refine G_call (as := [vR 237, vI (I9 1000 (x3 + 1).toNat), vI (I9 1000 (x3 + 2).toNat), vI (I9 1000 (x3 + 3).toNat), vI (I9 1000 (x3 + 4).toNat)]) (rest := [vI y10]) rc_0_1174 rfl rfl rfl (Nat.le_of_ble_eq_true rfl) (g_recv s0_237 rfl) ?_
  refine GO.imp h (fun v I15 h => ?_)
  obtain ⟨y16, rfl, h⟩ := h
  show GO S0 0 1177 [vR 1000, vR 0, vR 237, vI x3] [vI y16, vI y10] I15 K
  refine G_i2 (C := y10 = y16) rc_0_1177 rfl (fun c17 => ?_) (fun c17 => ?_)
  · rw [if_pos c17] at h
    show GO S0 0 1720 [vR 1000, vR 0, vR 237, vI x3] [] I15 K
    exact g0_1720 x3 I15 K h
  · rw [if_neg c17] at h
    show GO S0 0 1180 [vR 1000, vR 0, vR 237, vI x3] [] I15 K
    refine G_const rc_0_1180 (by decide) ?_
    exact G_retI rc_0_1181 (Or.inr (by decide)) h
def D0_1075 (x3 : Int) (I : IM) (K : Option AV → IM → Prop) : Prop :=
  (inR (x3 + 1)) ∧ (0 ≤ x3 + 1 ∧ x3 + 1 < I 1001 0) ∧ (inR (x3 + 2)) ∧ (0 ≤ x3 + 2 ∧ x3 + 2 < I 1001 0) ∧ (inR (x3 + 3)) ∧ (0 ≤ x3 + 3 ∧ x3 + 3 < I 1001 0) ∧ (inR (x3 + 4)) ∧ (0 ≤ x3 + 4 ∧ x3 + 4 < I 1001 0) ∧ CALL S0 89 [vR 0, vI (I 1000 (x3 + 1).toNat), vI (I 1000 (x3 + 2).toNat), vI (I 1000 (x3 + 3).toNat), vI (I 1000 (x3 + 4).toNat)] I (fun v I9 => ∃ y10 : Int, v = some (vL y10) ∧ (0 ≤ x3 + 1 ∧ x3 + 1 < I9 1001 0) ∧ (0 ≤ x3 + 2 ∧ x3 + 2 < I9 1001 0) ∧ (0 ≤ x3 + 3 ∧ x3 + 3 < I9 1001 0) ∧ (0 ≤ x3 + 4 ∧ x3 + 4 < I9 1001 0) ∧ CALL S0 216 [vR 237, vI (I9 1000 (x3 + 1).toNat), vI (I9 1000 (x3 + 2).toNat), vI (I9 1000 (x3 + 3).toNat), vI (I9 1000 (x3 + 4).toNat)] I9 (fun v I15 => ∃ y16 : Int, v = some (vL y16) ∧ (if (if y16 < y10 then 1 else if y10 = y16 then 0 else -1) = 0 then (D0_1720 x3 I15 K) else (K (some (vI 0)) I15))))
set_option maxRecDepth 10000 in
theorem g0_1075 (x3 : Int) (I : IM) (K : Option AV → IM → Prop) (h : D0_1075 x3 I K) : GO S0 0 1075 [vR 1000, vR 0, vR 237, vI x3] [] I K := by
  unfold D0_1075 at h
  refine G_loadR rc_0_1075 rfl ?_
  refine G_loadR rc_0_1076 rfl ?_
  refine G_loadI rc_0_1077 rfl ?_
  refine G_const rc_0_1078 (by decide) ?_
  obtain ⟨c1, h⟩ := h
  refine G_bop (z := x3 + 1) rc_0_1079 (if_pos c1) ?_
  show GO S0 0 1080 [vR 1000, vR 0, vR 237, vI x3] [vI (x3 + 1), vR 1000, vR 0] I K
  obtain ⟨c2, h⟩ := h
  refine G_sld rc_0_1080 (by omega) (by omega) ?_
  show GO S0 0 1081 [vR 1000, vR 0, vR 237, vI x3] [vI (I 1000 (x3 + 1).toNat), vR 0] I K
  refine G_loadR rc_0_1081 rfl ?_
  refine G_loadI rc_0_1082 rfl ?_
  refine G_const rc_0_1083 (by decide) ?_
  obtain ⟨c3, h⟩ := h
  refine G_bop (z := x3 + 2) rc_0_1084 (if_pos c3) ?_
  show GO S0 0 1085 [vR 1000, vR 0, vR 237, vI x3] [vI (x3 + 2), vR 1000, vI (I 1000 (x3 + 1).toNat), vR 0] I K
  obtain ⟨c4, h⟩ := h
  refine G_sld rc_0_1085 (by omega) (by omega) ?_
  show GO S0 0 1086 [vR 1000, vR 0, vR 237, vI x3] [vI (I 1000 (x3 + 2).toNat), vI (I 1000 (x3 + 1).toNat), vR 0] I K
  refine G_loadR rc_0_1086 rfl ?_
  refine G_loadI rc_0_1087 rfl ?_
  refine G_const rc_0_1088 (by decide) ?_
  obtain ⟨c5, h⟩ := h
  refine G_bop (z := x3 + 3) rc_0_1089 (if_pos c5) ?_
  show GO S0 0 1090 [vR 1000, vR 0, vR 237, vI x3] [vI (x3 + 3), vR 1000, vI (I 1000 (x3 + 2).toNat), vI (I 1000 (x3 + 1).toNat), vR 0] I K
  obtain ⟨c6, h⟩ := h
  refine G_sld rc_0_1090 (by omega) (by omega) ?_
  show GO S0 0 1091 [vR 1000, vR 0, vR 237, vI x3] [vI (I 1000 (x3 + 3).toNat), vI (I 1000 (x3 + 2).toNat), vI (I 1000 (x3 + 1).toNat), vR 0] I K
  refine G_loadR rc_0_1091 rfl ?_
  refine G_loadI rc_0_1092 rfl ?_
  refine G_const rc_0_1093 (by decide) ?_
  obtain ⟨c7, h⟩ := h
  refine G_bop (z := x3 + 4) rc_0_1094 (if_pos c7) ?_
  show GO S0 0 1095 [vR 1000, vR 0, vR 237, vI x3] [vI (x3 + 4), vR 1000, vI (I 1000 (x3 + 3).toNat), vI (I 1000 (x3 + 2).toNat), vI (I 1000 (x3 + 1).toNat), vR 0] I K
  obtain ⟨c8, h⟩ := h
  refine G_sld rc_0_1095 (by omega) (by omega) ?_
  show GO S0 0 1096 [vR 1000, vR 0, vR 237, vI x3] [vI (I 1000 (x3 + 4).toNat), vI (I 1000 (x3 + 3).toNat), vI (I 1000 (x3 + 2).toNat), vI (I 1000 (x3 + 1).toNat), vR 0] I K
  refine G_call (as := [vR 0, vI (I 1000 (x3 + 1).toNat), vI (I 1000 (x3 + 2).toNat), vI (I 1000 (x3 + 3).toNat), vI (I 1000 (x3 + 4).toNat)]) (rest := []) rc_0_1096 rfl rfl rfl (Nat.le_of_ble_eq_true rfl) (g_recv s0_0 rfl) ?_
  refine GO.imp h (fun v I9 h => ?_)
  obtain ⟨y10, rfl, h⟩ := h
  show GO S0 0 1099 [vR 1000, vR 0, vR 237, vI x3] [vL y10] I9 K
  refine G_loadR rc_0_1099 rfl ?_
  refine G_loadR rc_0_1100 rfl ?_
  refine G_loadI rc_0_1101 rfl ?_
  refine G_const rc_0_1102 (by decide) ?_
  refine G_bop (z := x3 + 1) rc_0_1103 (if_pos c1) ?_
  show GO S0 0 1104 [vR 1000, vR 0, vR 237, vI x3] [vI (x3 + 1), vR 1000, vR 237, vL y10] I9 K
  obtain ⟨c11, h⟩ := h
  refine G_sld rc_0_1104 (by omega) (by omega) ?_
  show GO S0 0 1105 [vR 1000, vR 0, vR 237, vI x3] [vI (I9 1000 (x3 + 1).toNat), vR 237, vL y10] I9 K
  refine G_loadR rc_0_1105 rfl ?_
  refine G_loadI rc_0_1106 rfl ?_
  refine G_const rc_0_1107 (by decide) ?_
  refine G_bop (z := x3 + 2) rc_0_1108 (if_pos c3) ?_
  show GO S0 0 1109 [vR 1000, vR 0, vR 237, vI x3] [vI (x3 + 2), vR 1000, vI (I9 1000 (x3 + 1).toNat), vR 237, vL y10] I9 K
  obtain ⟨c12, h⟩ := h
  refine G_sld rc_0_1109 (by omega) (by omega) ?_
  show GO S0 0 1110 [vR 1000, vR 0, vR 237, vI x3] [vI (I9 1000 (x3 + 2).toNat), vI (I9 1000 (x3 + 1).toNat), vR 237, vL y10] I9 K
  refine G_loadR rc_0_1110 rfl ?_
  refine G_loadI rc_0_1111 rfl ?_
  refine G_const rc_0_1112 (by decide) ?_
  refine G_bop (z := x3 + 3) rc_0_1113 (if_pos c5) ?_
  show GO S0 0 1114 [vR 1000, vR 0, vR 237, vI x3] [vI (x3 + 3), vR 1000, vI (I9 1000 (x3 + 2).toNat), vI (I9 1000 (x3 + 1).toNat), vR 237, vL y10] I9 K
  obtain ⟨c13, h⟩ := h
  refine G_sld rc_0_1114 (by omega) (by omega) ?_
  show GO S0 0 1115 [vR 1000, vR 0, vR 237, vI x3] [vI (I9 1000 (x3 + 3).toNat), vI (I9 1000 (x3 + 2).toNat), vI (I9 1000 (x3 + 1).toNat), vR 237, vL y10] I9 K
  refine G_loadR rc_0_1115 rfl ?_
  refine G_loadI rc_0_1116 rfl ?_
  refine G_const rc_0_1117 (by decide) ?_
  refine G_bop (z := x3 + 4) rc_0_1118 (if_pos c7) ?_
  show GO S0 0 1119 [vR 1000, vR 0, vR 237, vI x3] [vI (x3 + 4), vR 1000, vI (I9 1000 (x3 + 3).toNat), vI (I9 1000 (x3 + 2).toNat), vI (I9 1000 (x3 + 1).toNat), vR 237, vL y10] I9 K
  obtain ⟨c14, h⟩ := h
  refine G_sld rc_0_1119 (by omega) (by omega) ?_
  show GO S0 0 1120 [vR 1000, vR 0, vR 237, vI x3] [vI (I9 1000 (x3 + 4).toNat), vI (I9 1000 (x3 + 3).toNat), vI (I9 1000 (x3 + 2).toNat), vI (I9 1000 (x3 + 1).toNat), vR 237, vL y10] I9 K
  refine G_call (as := [vR 237, vI (I9 1000 (x3 + 1).toNat), vI (I9 1000 (x3 + 2).toNat), vI (I9 1000 (x3 + 3).toNat), vI (I9 1000 (x3 + 4).toNat)]) (rest := [vL y10]) rc_0_1120 rfl rfl rfl (Nat.le_of_ble_eq_true rfl) (g_recv s0_237 rfl) ?_
  refine GO.imp h (fun v I15 h => ?_)
  obtain ⟨y16, rfl, h⟩ := h
  show GO S0 0 1123 [vR 1000, vR 0, vR 237, vI x3] [vL y16, vL y10] I15 K
  refine G_lcmp rc_0_1123 ?_
  show GO S0 0 1124 [vR 1000, vR 0, vR 237, vI x3] [vI ((if y16 < y10 then 1 else if y10 = y16 then 0 else -1))] I15 K
  refine G_i1 (C := (if y16 < y10 then 1 else if y10 = y16 then 0 else -1) = 0) rc_0_1124 rfl (fun c17 => ?_) (fun c17 => ?_)
  · rw [if_pos c17] at h
    show GO S0 0 1720 [vR 1000, vR 0, vR 237, vI x3] [] I15 K
    exact g0_1720 x3 I15 K h
  · rw [if_neg c17] at h
    show GO S0 0 1127 [vR 1000, vR 0, vR 237, vI x3] [] I15 K
    refine G_const rc_0_1127 (by decide) ?_
    exact G_retI rc_0_1128 (Or.inr (by decide)) h
def D0_1022 (x3 : Int) (I : IM) (K : Option AV → IM → Prop) : Prop :=
  (inR (x3 + 1)) ∧ (0 ≤ x3 + 1 ∧ x3 + 1 < I 1001 0) ∧ (inR (x3 + 2)) ∧ (0 ≤ x3 + 2 ∧ x3 + 2 < I 1001 0) ∧ (inR (x3 + 3)) ∧ (0 ≤ x3 + 3 ∧ x3 + 3 < I 1001 0) ∧ (inR (x3 + 4)) ∧ (0 ≤ x3 + 4 ∧ x3 + 4 < I 1001 0) ∧ CALL S0 81 [vR 0, vI (I 1000 (x3 + 1).toNat), vI (I 1000 (x3 + 2).toNat), vI (I 1000 (x3 + 3).toNat), vI (I 1000 (x3 + 4).toNat)] I (fun v I9 => ∃ y10 : Int, v = some (vI y10) ∧ (0 ≤ x3 + 1 ∧ x3 + 1 < I9 1001 0) ∧ (0 ≤ x3 + 2 ∧ x3 + 2 < I9 1001 0) ∧ (0 ≤ x3 + 3 ∧ x3 + 3 < I9 1001 0) ∧ (0 ≤ x3 + 4 ∧ x3 + 4 < I9 1001 0) ∧ CALL S0 208 [vR 237, vI (I9 1000 (x3 + 1).toNat), vI (I9 1000 (x3 + 2).toNat), vI (I9 1000 (x3 + 3).toNat), vI (I9 1000 (x3 + 4).toNat)] I9 (fun v I15 => ∃ y16 : Int, v = some (vI y16) ∧ (if y10 = y16 then (D0_1720 x3 I15 K) else (K (some (vI 0)) I15))))
set_option maxRecDepth 10000 in
theorem g0_1022 (x3 : Int) (I : IM) (K : Option AV → IM → Prop) (h : D0_1022 x3 I K) : GO S0 0 1022 [vR 1000, vR 0, vR 237, vI x3] [] I K := by
  unfold D0_1022 at h
  refine G_loadR rc_0_1022 rfl ?_
  refine G_loadR rc_0_1023 rfl ?_
  refine G_loadI rc_0_1024 rfl ?_
  refine G_const rc_0_1025 (by decide) ?_
  obtain ⟨c1, h⟩ := h
  refine G_bop (z := x3 + 1) rc_0_1026 (if_pos c1) ?_
  show GO S0 0 1027 [vR 1000, vR 0, vR 237, vI x3] [vI (x3 + 1), vR 1000, vR 0] I K
  obtain ⟨c2, h⟩ := h
  refine G_sld rc_0_1027 (by omega) (by omega) ?_
  show GO S0 0 1028 [vR 1000, vR 0, vR 237, vI x3] [vI (I 1000 (x3 + 1).toNat), vR 0] I K
  refine G_loadR rc_0_1028 rfl ?_
  refine G_loadI rc_0_1029 rfl ?_
  refine G_const rc_0_1030 (by decide) ?_
  obtain ⟨c3, h⟩ := h
  refine G_bop (z := x3 + 2) rc_0_1031 (if_pos c3) ?_
  show GO S0 0 1032 [vR 1000, vR 0, vR 237, vI x3] [vI (x3 + 2), vR 1000, vI (I 1000 (x3 + 1).toNat), vR 0] I K
  obtain ⟨c4, h⟩ := h
  refine G_sld rc_0_1032 (by omega) (by omega) ?_
  show GO S0 0 1033 [vR 1000, vR 0, vR 237, vI x3] [vI (I 1000 (x3 + 2).toNat), vI (I 1000 (x3 + 1).toNat), vR 0] I K
  refine G_loadR rc_0_1033 rfl ?_
  refine G_loadI rc_0_1034 rfl ?_
  refine G_const rc_0_1035 (by decide) ?_
  obtain ⟨c5, h⟩ := h
  refine G_bop (z := x3 + 3) rc_0_1036 (if_pos c5) ?_
  show GO S0 0 1037 [vR 1000, vR 0, vR 237, vI x3] [vI (x3 + 3), vR 1000, vI (I 1000 (x3 + 2).toNat), vI (I 1000 (x3 + 1).toNat), vR 0] I K
  obtain ⟨c6, h⟩ := h
  refine G_sld rc_0_1037 (by omega) (by omega) ?_
  show GO S0 0 1038 [vR 1000, vR 0, vR 237, vI x3] [vI (I 1000 (x3 + 3).toNat), vI (I 1000 (x3 + 2).toNat), vI (I 1000 (x3 + 1).toNat), vR 0] I K
  refine G_loadR rc_0_1038 rfl ?_
  refine G_loadI rc_0_1039 rfl ?_
  refine G_const rc_0_1040 (by decide) ?_
  obtain ⟨c7, h⟩ := h
  refine G_bop (z := x3 + 4) rc_0_1041 (if_pos c7) ?_
  show GO S0 0 1042 [vR 1000, vR 0, vR 237, vI x3] [vI (x3 + 4), vR 1000, vI (I 1000 (x3 + 3).toNat), vI (I 1000 (x3 + 2).toNat), vI (I 1000 (x3 + 1).toNat), vR 0] I K
  obtain ⟨c8, h⟩ := h
  refine G_sld rc_0_1042 (by omega) (by omega) ?_
  show GO S0 0 1043 [vR 1000, vR 0, vR 237, vI x3] [vI (I 1000 (x3 + 4).toNat), vI (I 1000 (x3 + 3).toNat), vI (I 1000 (x3 + 2).toNat), vI (I 1000 (x3 + 1).toNat), vR 0] I K
  refine G_call (as := [vR 0, vI (I 1000 (x3 + 1).toNat), vI (I 1000 (x3 + 2).toNat), vI (I 1000 (x3 + 3).toNat), vI (I 1000 (x3 + 4).toNat)]) (rest := []) rc_0_1043 rfl rfl rfl (Nat.le_of_ble_eq_true rfl) (g_recv s0_0 rfl) ?_
  refine GO.imp h (fun v I9 h => ?_)
  obtain ⟨y10, rfl, h⟩ := h
  show GO S0 0 1046 [vR 1000, vR 0, vR 237, vI x3] [vI y10] I9 K
  refine G_loadR rc_0_1046 rfl ?_
  refine G_loadR rc_0_1047 rfl ?_
  refine G_loadI rc_0_1048 rfl ?_
  refine G_const rc_0_1049 (by decide) ?_
  refine G_bop (z := x3 + 1) rc_0_1050 (if_pos c1) ?_
  show GO S0 0 1051 [vR 1000, vR 0, vR 237, vI x3] [vI (x3 + 1), vR 1000, vR 237, vI y10] I9 K
  obtain ⟨c11, h⟩ := h
  refine G_sld rc_0_1051 (by omega) (by omega) ?_
  show GO S0 0 1052 [vR 1000, vR 0, vR 237, vI x3] [vI (I9 1000 (x3 + 1).toNat), vR 237, vI y10] I9 K
  refine G_loadR rc_0_1052 rfl ?_
  refine G_loadI rc_0_1053 rfl ?_
  refine G_const rc_0_1054 (by decide) ?_
  refine G_bop (z := x3 + 2) rc_0_1055 (if_pos c3) ?_
  show GO S0 0 1056 [vR 1000, vR 0, vR 237, vI x3] [vI (x3 + 2), vR 1000, vI (I9 1000 (x3 + 1).toNat), vR 237, vI y10] I9 K
  obtain ⟨c12, h⟩ := h
  refine G_sld rc_0_1056 (by omega) (by omega) ?_
  show GO S0 0 1057 [vR 1000, vR 0, vR 237, vI x3] [vI (I9 1000 (x3 + 2).toNat), vI (I9 1000 (x3 + 1).toNat), vR 237, vI y10] I9 K
  refine G_loadR rc_0_1057 rfl ?_
  refine G_loadI rc_0_1058 rfl ?_
  refine G_const rc_0_1059 (by decide) ?_
  refine G_bop (z := x3 + 3) rc_0_1060 (if_pos c5) ?_
  show GO S0 0 1061 [vR 1000, vR 0, vR 237, vI x3] [vI (x3 + 3), vR 1000, vI (I9 1000 (x3 + 2).toNat), vI (I9 1000 (x3 + 1).toNat), vR 237, vI y10] I9 K
  obtain ⟨c13, h⟩ := h
  refine G_sld rc_0_1061 (by omega) (by omega) ?_
  show GO S0 0 1062 [vR 1000, vR 0, vR 237, vI x3] [vI (I9 1000 (x3 + 3).toNat), vI (I9 1000 (x3 + 2).toNat), vI (I9 1000 (x3 + 1).toNat), vR 237, vI y10] I9 K
  refine G_loadR rc_0_1062 rfl ?_
  refine G_loadI rc_0_1063 rfl ?_
  refine G_const rc_0_1064 (by decide) ?_
  refine G_bop (z := x3 + 4) rc_0_1065 (if_pos c7) ?_
  show GO S0 0 1066 [vR 1000, vR 0, vR 237, vI x3] [vI (x3 + 4), vR 1000, vI (I9 1000 (x3 + 3).toNat), vI (I9 1000 (x3 + 2).toNat), vI (I9 1000 (x3 + 1).toNat), vR 237, vI y10] I9 K
  obtain ⟨c14, h⟩ := h
  refine G_sld rc_0_1066 (by omega) (by omega) ?_
  show GO S0 0 1067 [vR 1000, vR 0, vR 237, vI x3] [vI (I9 1000 (x3 + 4).toNat), vI (I9 1000 (x3 + 3).toNat), vI (I9 1000 (x3 + 2).toNat), vI (I9 1000 (x3 + 1).toNat), vR 237, vI y10] I9 K
  refine G_call (as := [vR 237, vI (I9 1000 (x3 + 1).toNat), vI (I9 1000 (x3 + 2).toNat), vI (I9 1000 (x3 + 3).toNat), vI (I9 1000 (x3 + 4).toNat)]) (rest := [vI y10]) rc_0_1067 rfl rfl rfl (Nat.le_of_ble_eq_true rfl) (g_recv s0_237 rfl) ?_
  refine GO.imp h (fun v I15 h => ?_)
  obtain ⟨y16, rfl, h⟩ := h
  show GO S0 0 1070 [vR 1000, vR 0, vR 237, vI x3] [vI y16, vI y10] I15 K
  refine G_i2 (C := y10 = y16) rc_0_1070 rfl (fun c17 => ?_) (fun c17 => ?_)
  · rw [if_pos c17] at h
    show GO S0 0 1720 [vR 1000, vR 0, vR 237, vI x3] [] I15 K
    exact g0_1720 x3 I15 K h
  · rw [if_neg c17] at h
    show GO S0 0 1073 [vR 1000, vR 0, vR 237, vI x3] [] I15 K
    refine G_const rc_0_1073 (by decide) ?_
    exact G_retI rc_0_1074 (Or.inr (by decide)) h
def D0_999 (x3 : Int) (I : IM) (K : Option AV → IM → Prop) : Prop :=
  (inR (x3 + 1)) ∧ (0 ≤ x3 + 1 ∧ x3 + 1 < I 1001 0) ∧ CALL S0 79 [vR 0, vI (I 1000 (x3 + 1).toNat)] I (fun v I3 => ∃ y4 : Int, v = some (vI y4) ∧ (0 ≤ x3 + 1 ∧ x3 + 1 < I3 1001 0) ∧ CALL S0 206 [vR 237, vI (I3 1000 (x3 + 1).toNat)] I3 (fun v I6 => ∃ y7 : Int, v = some (vI y7) ∧ (if y4 = y7 then (D0_1720 x3 I6 K) else (K (some (vI 0)) I6))))
set_option maxRecDepth 10000 in
theorem g0_999 (x3 : Int) (I : IM) (K : Option AV → IM → Prop) (h : D0_999 x3 I K) : GO S0 0 999 [vR 1000, vR 0, vR 237, vI x3] [] I K := by
  unfold D0_999 at h
  refine G_loadR rc_0_999 rfl ?_
  refine G_loadR rc_0_1000 rfl ?_
  refine G_loadI rc_0_1001 rfl ?_
  refine G_const rc_0_1002 (by decide) ?_
  obtain ⟨c1, h⟩ := h
  refine G_bop (z := x3 + 1) rc_0_1003 (if_pos c1) ?_
  show GO S0 0 1004 [vR 1000, vR 0, vR 237, vI x3] [vI (x3 + 1), vR 1000, vR 0] I K
  obtain ⟨c2, h⟩ := h
  refine G_sld rc_0_1004 (by omega) (by omega) ?_
  show GO S0 0 1005 [vR 1000, vR 0, vR 237, vI x3] [vI (I 1000 (x3 + 1).toNat), vR 0] I K
  refine G_call (as := [vR 0, vI (I 1000 (x3 + 1).toNat)]) (rest := []) rc_0_1005 rfl rfl rfl (Nat.le_of_ble_eq_true rfl) (g_recv s0_0 rfl) ?_
  refine GO.imp h (fun v I3 h => ?_)
  obtain ⟨y4, rfl, h⟩ := h
  show GO S0 0 1008 [vR 1000, vR 0, vR 237, vI x3] [vI y4] I3 K
  refine G_loadR rc_0_1008 rfl ?_
  refine G_loadR rc_0_1009 rfl ?_
  refine G_loadI rc_0_1010 rfl ?_
  refine G_const rc_0_1011 (by decide) ?_
  refine G_bop (z := x3 + 1) rc_0_1012 (if_pos c1) ?_
  show GO S0 0 1013 [vR 1000, vR 0, vR 237, vI x3] [vI (x3 + 1), vR 1000, vR 237, vI y4] I3 K
  obtain ⟨c5, h⟩ := h
  refine G_sld rc_0_1013 (by omega) (by omega) ?_
  show GO S0 0 1014 [vR 1000, vR 0, vR 237, vI x3] [vI (I3 1000 (x3 + 1).toNat), vR 237, vI y4] I3 K
  refine G_call (as := [vR 237, vI (I3 1000 (x3 + 1).toNat)]) (rest := [vI y4]) rc_0_1014 rfl rfl rfl (Nat.le_of_ble_eq_true rfl) (g_recv s0_237 rfl) ?_
  refine GO.imp h (fun v I6 h => ?_)
  obtain ⟨y7, rfl, h⟩ := h
  show GO S0 0 1017 [vR 1000, vR 0, vR 237, vI x3] [vI y7, vI y4] I6 K
  refine G_i2 (C := y4 = y7) rc_0_1017 rfl (fun c8 => ?_) (fun c8 => ?_)
  · rw [if_pos c8] at h
    show GO S0 0 1720 [vR 1000, vR 0, vR 237, vI x3] [] I6 K
    exact g0_1720 x3 I6 K h
  · rw [if_neg c8] at h
    show GO S0 0 1020 [vR 1000, vR 0, vR 237, vI x3] [] I6 K
    refine G_const rc_0_1020 (by decide) ?_
    exact G_retI rc_0_1021 (Or.inr (by decide)) h
def D0_955 (x3 : Int) (I : IM) (K : Option AV → IM → Prop) : Prop :=
  (inR (x3 + 1)) ∧ (0 ≤ x3 + 1 ∧ x3 + 1 < I 1001 0) ∧ (inR (x3 + 2)) ∧ (0 ≤ x3 + 2 ∧ x3 + 2 < I 1001 0) ∧ (inR (x3 + 3)) ∧ (0 ≤ x3 + 3 ∧ x3 + 3 < I 1001 0) ∧ CALL S0 78 [vR 0, vI (I 1000 (x3 + 1).toNat), vI (I 1000 (x3 + 2).toNat), vI (I 1000 (x3 + 3).toNat)] I (fun v I7 => ∃ y8 : Int, v = some (vL y8) ∧ (0 ≤ x3 + 1 ∧ x3 + 1 < I7 1001 0) ∧ (0 ≤ x3 + 2 ∧ x3 + 2 < I7 1001 0) ∧ (0 ≤ x3 + 3 ∧ x3 + 3 < I7 1001 0) ∧ CALL S0 204 [vR 237, vI (I7 1000 (x3 + 1).toNat), vI (I7 1000 (x3 + 2).toNat), vI (I7 1000 (x3 + 3).toNat)] I7 (fun v I12 => ∃ y13 : Int, v = some (vL y13) ∧ (if (if y13 < y8 then 1 else if y8 = y13 then 0 else -1) = 0 then (D0_1720 x3 I12 K) else (K (some (vI 0)) I12))))
set_option maxRecDepth 10000 in
theorem g0_955 (x3 : Int) (I : IM) (K : Option AV → IM → Prop) (h : D0_955 x3 I K) : GO S0 0 955 [vR 1000, vR 0, vR 237, vI x3] [] I K := by
  unfold D0_955 at h
  refine G_loadR rc_0_955 rfl ?_
  refine G_loadR rc_0_956 rfl ?_
  refine G_loadI rc_0_957 rfl ?_
  refine G_const rc_0_958 (by decide) ?_
  obtain ⟨c1, h⟩ := h
  refine G_bop (z := x3 + 1) rc_0_959 (if_pos c1) ?_
  show GO S0 0 960 [vR 1000, vR 0, vR 237, vI x3] [vI (x3 + 1), vR 1000, vR 0] I K
  obtain ⟨c2, h⟩ := h
  refine G_sld rc_0_960 (by omega) (by omega) ?_
  show GO S0 0 961 [vR 1000, vR 0, vR 237, vI x3] [vI (I 1000 (x3 + 1).toNat), vR 0] I K
  refine G_loadR rc_0_961 rfl ?_
  refine G_loadI rc_0_962 rfl ?_
  refine G_const rc_0_963 (by decide) ?_
  obtain ⟨c3, h⟩ := h
  refine G_bop (z := x3 + 2) rc_0_964 (if_pos c3) ?_
  show GO S0 0 965 [vR 1000, vR 0, vR 237, vI x3] [vI (x3 + 2), vR 1000, vI (I 1000 (x3 + 1).toNat), vR 0] I K
  obtain ⟨c4, h⟩ := h
  refine G_sld rc_0_965 (by omega) (by omega) ?_
  show GO S0 0 966 [vR 1000, vR 0, vR 237, vI x3] [vI (I 1000 (x3 + 2).toNat), vI (I 1000 (x3 + 1).toNat), vR 0] I K
  refine G_loadR rc_0_966 rfl ?_
  refine G_loadI rc_0_967 rfl ?_
  refine G_const rc_0_968 (by decide) ?_
  obtain ⟨c5, h⟩ := h
  refine G_bop (z := x3 + 3) rc_0_969 (if_pos c5) ?_
  show GO S0 0 970 [vR 1000, vR 0, vR 237, vI x3] [vI (x3 + 3), vR 1000, vI (I 1000 (x3 + 2).toNat), vI (I 1000 (x3 + 1).toNat), vR 0] I K
  obtain ⟨c6, h⟩ := h
  refine G_sld rc_0_970 (by omega) (by omega) ?_
  show GO S0 0 971 [vR 1000, vR 0, vR 237, vI x3] [vI (I 1000 (x3 + 3).toNat), vI (I 1000 (x3 + 2).toNat), vI (I 1000 (x3 + 1).toNat), vR 0] I K
  refine G_call (as := [vR 0, vI (I 1000 (x3 + 1).toNat), vI (I 1000 (x3 + 2).toNat), vI (I 1000 (x3 + 3).toNat)]) (rest := []) rc_0_971 rfl rfl rfl (Nat.le_of_ble_eq_true rfl) (g_recv s0_0 rfl) ?_
  refine GO.imp h (fun v I7 h => ?_)
  obtain ⟨y8, rfl, h⟩ := h
  show GO S0 0 974 [vR 1000, vR 0, vR 237, vI x3] [vL y8] I7 K
  refine G_loadR rc_0_974 rfl ?_
  refine G_loadR rc_0_975 rfl ?_
  refine G_loadI rc_0_976 rfl ?_
  refine G_const rc_0_977 (by decide) ?_
  refine G_bop (z := x3 + 1) rc_0_978 (if_pos c1) ?_
  show GO S0 0 979 [vR 1000, vR 0, vR 237, vI x3] [vI (x3 + 1), vR 1000, vR 237, vL y8] I7 K
  obtain ⟨c9, h⟩ := h
  refine G_sld rc_0_979 (by omega) (by omega) ?_
  show GO S0 0 980 [vR 1000, vR 0, vR 237, vI x3] [vI (I7 1000 (x3 + 1).toNat), vR 237, vL y8] I7 K
  refine G_loadR rc_0_980 rfl ?_
  refine G_loadI rc_0_981 rfl ?_
  refine G_const rc_0_982 (by decide) ?_
  refine G_bop (z := x3 + 2) rc_0_983 (if_pos c3) ?_
  show GO S0 0 984 [vR 1000, vR 0, vR 237, vI x3] [vI (x3 + 2), vR 1000, vI (I7 1000 (x3 + 1).toNat), vR 237, vL y8] I7 K
  obtain ⟨c10, h⟩ := h
  refine G_sld rc_0_984 (by omega) (by omega) ?_
  show GO S0 0 985 [vR 1000, vR 0, vR 237, vI x3] [vI (I7 1000 (x3 + 2).toNat), vI (I7 1000 (x3 + 1).toNat), vR 237, vL y8] I7 K
  refine G_loadR rc_0_985 rfl ?_
  refine G_loadI rc_0_986 rfl ?_
  refine G_const rc_0_987 (by decide) ?_
  refine G_bop (z := x3 + 3) rc_0_988 (if_pos c5) ?_
  show GO S0 0 989 [vR 1000, vR 0, vR 237, vI x3] [vI (x3 + 3), vR 1000, vI (I7 1000 (x3 + 2).toNat), vI (I7 1000 (x3 + 1).toNat), vR 237, vL y8] I7 K
  obtain ⟨c11, h⟩ := h
  refine G_sld rc_0_989 (by omega) (by omega) ?_
  show GO S0 0 990 [vR 1000, vR 0, vR 237, vI x3] [vI (I7 1000 (x3 + 3).toNat), vI (I7 1000 (x3 + 2).toNat), vI (I7 1000 (x3 + 1).toNat), vR 237, vL y8] I7 K
  refine G_call (as := [vR 237, vI (I7 1000 (x3 + 1).toNat), vI (I7 1000 (x3 + 2).toNat), vI (I7 1000 (x3 + 3).toNat)]) (rest := [vL y8]) rc_0_990 rfl rfl rfl (Nat.le_of_ble_eq_true rfl) (g_recv s0_237 rfl) ?_
  refine GO.imp h (fun v I12 h => ?_)
  obtain ⟨y13, rfl, h⟩ := h
  show GO S0 0 993 [vR 1000, vR 0, vR 237, vI x3] [vL y13, vL y8] I12 K
  refine G_lcmp rc_0_993 ?_
  show GO S0 0 994 [vR 1000, vR 0, vR 237, vI x3] [vI ((if y13 < y8 then 1 else if y8 = y13 then 0 else -1))] I12 K
  refine G_i1 (C := (if y13 < y8 then 1 else if y8 = y13 then 0 else -1) = 0) rc_0_994 rfl (fun c14 => ?_) (fun c14 => ?_)
  · rw [if_pos c14] at h
    show GO S0 0 1720 [vR 1000, vR 0, vR 237, vI x3] [] I12 K
    exact g0_1720 x3 I12 K h
  · rw [if_neg c14] at h
    show GO S0 0 997 [vR 1000, vR 0, vR 237, vI x3] [] I12 K
    refine G_const rc_0_997 (by decide) ?_
    exact G_retI rc_0_998 (Or.inr (by decide)) h
def D0_912 (x3 : Int) (I : IM) (K : Option AV → IM → Prop) : Prop :=
  (inR (x3 + 1)) ∧ (0 ≤ x3 + 1 ∧ x3 + 1 < I 1001 0) ∧ (inR (x3 + 2)) ∧ (0 ≤ x3 + 2 ∧ x3 + 2 < I 1001 0) ∧ (inR (x3 + 3)) ∧ (0 ≤ x3 + 3 ∧ x3 + 3 < I 1001 0) ∧ CALL S0 75 [vR 0, vI (I 1000 (x3 + 1).toNat), vI (I 1000 (x3 + 2).toNat), vI (I 1000 (x3 + 3).toNat)] I (fun v I7 => ∃ y8 : Int, v = some (vI y8) ∧ (0 ≤ x3 + 1 ∧ x3 + 1 < I7 1001 0) ∧ (0 ≤ x3 + 2 ∧ x3 + 2 < I7 1001 0) ∧ (0 ≤ x3 + 3 ∧ x3 + 3 < I7 1001 0) ∧ CALL S0 198 [vR 237, vI (I7 1000 (x3 + 1).toNat), vI (I7 1000 (x3 + 2).toNat), vI (I7 1000 (x3 + 3).toNat)] I7 (fun v I12 => ∃ y13 : Int, v = some (vI y13) ∧ (if y8 = y13 then (D0_1720 x3 I12 K) else (K (some (vI 0)) I12))))
set_option maxRecDepth 10000 in
theorem g0_912 (x3 : Int) (I : IM) (K : Option AV → IM → Prop) (h : D0_912 x3 I K) : GO S0 0 912 [vR 1000, vR 0, vR 237, vI x3] [] I K := by
  unfold D0_912 at h
  refine G_loadR rc_0_912 rfl ?_
  refine G_loadR rc_0_913 rfl ?_
  refine G_loadI rc_0_914 rfl ?_
  refine G_const rc_0_915 (by decide) ?_
  obtain ⟨c1, h⟩ := h
  refine G_bop (z := x3 + 1) rc_0_916 (if_pos c1) ?_
  show GO S0 0 917 [vR 1000, vR 0, vR 237, vI x3] [vI (x3 + 1), vR 1000, vR 0] I K
  obtain ⟨c2, h⟩ := h
  refine G_sld rc_0_917 (by omega) (by omega) ?_
  show GO S0 0 918 [vR 1000, vR 0, vR 237, vI x3] [vI (I 1000 (x3 + 1).toNat), vR 0] I K
  refine G_loadR rc_0_918 rfl ?_
  refine G_loadI rc_0_919 rfl ?_
  refine G_const rc_0_920 (by decide) ?_
  obtain ⟨c3, h⟩ := h
  refine G_bop (z := x3 + 2) rc_0_921 (if_pos c3) ?_
  show GO S0 0 922 [vR 1000, vR 0, vR 237, vI x3] [vI (x3 + 2), vR 1000, vI (I 1000 (x3 + 1).toNat), vR 0] I K
  obtain ⟨c4, h⟩ := h
  refine G_sld rc_0_922 (by omega) (by omega) ?_
  show GO S0 0 923 [vR 1000, vR 0, vR 237, vI x3] [vI (I 1000 (x3 + 2).toNat), vI (I 1000 (x3 + 1).toNat), vR 0] I K
  refine G_loadR rc_0_923 rfl ?_
  refine G_loadI rc_0_924 rfl ?_
  refine G_const rc_0_925 (by decide) ?_
  obtain ⟨c5, h⟩ := h
  refine G_bop (z := x3 + 3) rc_0_926 (if_pos c5) ?_
  show GO S0 0 927 [vR 1000, vR 0, vR 237, vI x3] [vI (x3 + 3), vR 1000, vI (I 1000 (x3 + 2).toNat), vI (I 1000 (x3 + 1).toNat), vR 0] I K
  obtain ⟨c6, h⟩ := h
  refine G_sld rc_0_927 (by omega) (by omega) ?_
  show GO S0 0 928 [vR 1000, vR 0, vR 237, vI x3] [vI (I 1000 (x3 + 3).toNat), vI (I 1000 (x3 + 2).toNat), vI (I 1000 (x3 + 1).toNat), vR 0] I K
  refine G_call (as := [vR 0, vI (I 1000 (x3 + 1).toNat), vI (I 1000 (x3 + 2).toNat), vI (I 1000 (x3 + 3).toNat)]) (rest := []) rc_0_928 rfl rfl rfl (Nat.le_of_ble_eq_true rfl) (g_recv s0_0 rfl) ?_
  refine GO.imp h (fun v I7 h => ?_)
  obtain ⟨y8, rfl, h⟩ := h
  show GO S0 0 931 [vR 1000, vR 0, vR 237, vI x3] [vI y8] I7 K
  refine G_loadR rc_0_931 rfl ?_
  refine G_loadR rc_0_932 rfl ?_
  refine G_loadI rc_0_933 rfl ?_
  refine G_const rc_0_934 (by decide) ?_
  refine G_bop (z := x3 + 1) rc_0_935 (if_pos c1) ?_
  show GO S0 0 936 [vR 1000, vR 0, vR 237, vI x3] [vI (x3 + 1), vR 1000, vR 237, vI y8] I7 K
  obtain ⟨c9, h⟩ := h
  refine G_sld rc_0_936 (by omega) (by omega) ?_
  show GO S0 0 937 [vR 1000, vR 0, vR 237, vI x3] [vI (I7 1000 (x3 + 1).toNat), vR 237, vI y8] I7 K
  refine G_loadR rc_0_937 rfl ?_
  refine G_loadI rc_0_938 rfl ?_
  refine G_const rc_0_939 (by decide) ?_
  refine G_bop (z := x3 + 2) rc_0_940 (if_pos c3) ?_
  show GO S0 0 941 [vR 1000, vR 0, vR 237, vI x3] [vI (x3 + 2), vR 1000, vI (I7 1000 (x3 + 1).toNat), vR 237, vI y8] I7 K
  obtain ⟨c10, h⟩ := h
  refine G_sld rc_0_941 (by omega) (by omega) ?_
  show GO S0 0 942 [vR 1000, vR 0, vR 237, vI x3] [vI (I7 1000 (x3 + 2).toNat), vI (I7 1000 (x3 + 1).toNat), vR 237, vI y8] I7 K
  refine G_loadR rc_0_942 rfl ?_
  refine G_loadI rc_0_943 rfl ?_
  refine G_const rc_0_944 (by decide) ?_
  refine G_bop (z := x3 + 3) rc_0_945 (if_pos c5) ?_
  show GO S0 0 946 [vR 1000, vR 0, vR 237, vI x3] [vI (x3 + 3), vR 1000, vI (I7 1000 (x3 + 2).toNat), vI (I7 1000 (x3 + 1).toNat), vR 237, vI y8] I7 K
  obtain ⟨c11, h⟩ := h
  refine G_sld rc_0_946 (by omega) (by omega) ?_
  show GO S0 0 947 [vR 1000, vR 0, vR 237, vI x3] [vI (I7 1000 (x3 + 3).toNat), vI (I7 1000 (x3 + 2).toNat), vI (I7 1000 (x3 + 1).toNat), vR 237, vI y8] I7 K
  refine G_call (as := [vR 237, vI (I7 1000 (x3 + 1).toNat), vI (I7 1000 (x3 + 2).toNat), vI (I7 1000 (x3 + 3).toNat)]) (rest := [vI y8]) rc_0_947 rfl rfl rfl (Nat.le_of_ble_eq_true rfl) (g_recv s0_237 rfl) ?_
  refine GO.imp h (fun v I12 h => ?_)
  obtain ⟨y13, rfl, h⟩ := h
  show GO S0 0 950 [vR 1000, vR 0, vR 237, vI x3] [vI y13, vI y8] I12 K
  refine G_i2 (C := y8 = y13) rc_0_950 rfl (fun c14 => ?_) (fun c14 => ?_)
  · rw [if_pos c14] at h
    show GO S0 0 1720 [vR 1000, vR 0, vR 237, vI x3] [] I12 K
    exact g0_1720 x3 I12 K h
  · rw [if_neg c14] at h
    show GO S0 0 953 [vR 1000, vR 0, vR 237, vI x3] [] I12 K
    refine G_const rc_0_953 (by decide) ?_
    exact G_retI rc_0_954 (Or.inr (by decide)) h
def D0_899 (x3 : Int) (I : IM) (K : Option AV → IM → Prop) : Prop :=
  CALL S0 74 [vR 0] I (fun v I1 => ∃ y2 : Int, v = some (vI y2) ∧ CALL S0 196 [vR 237] I1 (fun v I3 => ∃ y4 : Int, v = some (vI y4) ∧ (if y2 = y4 then (D0_1720 x3 I3 K) else (K (some (vI 0)) I3))))
set_option maxRecDepth 10000 in
theorem g0_899 (x3 : Int) (I : IM) (K : Option AV → IM → Prop) (h : D0_899 x3 I K) : GO S0 0 899 [vR 1000, vR 0, vR 237, vI x3] [] I K := by
  unfold D0_899 at h
  refine G_loadR rc_0_899 rfl ?_
  refine G_call (as := [vR 0]) (rest := []) rc_0_900 rfl rfl rfl (Nat.le_of_ble_eq_true rfl) (g_recv s0_0 rfl) ?_
  refine GO.imp h (fun v I1 h => ?_)
  obtain ⟨y2, rfl, h⟩ := h
  show GO S0 0 903 [vR 1000, vR 0, vR 237, vI x3] [vI y2] I1 K
  refine G_loadR rc_0_903 rfl ?_
  refine G_call (as := [vR 237]) (rest := [vI y2]) rc_0_904 rfl rfl rfl (Nat.le_of_ble_eq_true rfl) (g_recv s0_237 rfl) ?_
  refine GO.imp h (fun v I3 h => ?_)
  obtain ⟨y4, rfl, h⟩ := h
  show GO S0 0 907 [vR 1000, vR 0, vR 237, vI x3] [vI y4, vI y2] I3 K
  refine G_i2 (C := y2 = y4) rc_0_907 rfl (fun c5 => ?_) (fun c5 => ?_)
  · rw [if_pos c5] at h
    show GO S0 0 1720 [vR 1000, vR 0, vR 237, vI x3] [] I3 K
    exact g0_1720 x3 I3 K h
  · rw [if_neg c5] at h
    show GO S0 0 910 [vR 1000, vR 0, vR 237, vI x3] [] I3 K
    refine G_const rc_0_910 (by decide) ?_
    exact G_retI rc_0_911 (Or.inr (by decide)) h
def D0_876 (x3 : Int) (I : IM) (K : Option AV → IM → Prop) : Prop :=
  (inR (x3 + 1)) ∧ (0 ≤ x3 + 1 ∧ x3 + 1 < I 1001 0) ∧ CALL S0 73 [vR 0, vI (I 1000 (x3 + 1).toNat)] I (fun v I3 => ∃ y4 : Int, v = some (vI y4) ∧ (0 ≤ x3 + 1 ∧ x3 + 1 < I3 1001 0) ∧ CALL S0 193 [vR 237, vI (I3 1000 (x3 + 1).toNat)] I3 (fun v I6 => ∃ y7 : Int, v = some (vI y7) ∧ (if y4 = y7 then (D0_1720 x3 I6 K) else (K (some (vI 0)) I6))))
set_option maxRecDepth 10000 in
theorem g0_876 (x3 : Int) (I : IM) (K : Option AV → IM → Prop) (h : D0_876 x3 I K) : GO S0 0 876 [vR 1000, vR 0, vR 237, vI x3] [] I K := by
  unfold D0_876 at h
  refine G_loadR rc_0_876 rfl ?_
  refine G_loadR rc_0_877 rfl ?_
  refine G_loadI rc_0_878 rfl ?_
  refine G_const rc_0_879 (by decide) ?_
  obtain ⟨c1, h⟩ := h
  refine G_bop (z := x3 + 1) rc_0_880 (if_pos c1) ?_
  show GO S0 0 881 [vR 1000, vR 0, vR 237, vI x3] [vI (x3 + 1), vR 1000, vR 0] I K
  obtain ⟨c2, h⟩ := h
  refine G_sld rc_0_881 (by omega) (by omega) ?_
  show GO S0 0 882 [vR 1000, vR 0, vR 237, vI x3] [vI (I 1000 (x3 + 1).toNat), vR 0] I K
  refine G_call (as := [vR 0, vI (I 1000 (x3 + 1).toNat)]) (rest := []) rc_0_882 rfl rfl rfl (Nat.le_of_ble_eq_true rfl) (g_recv s0_0 rfl) ?_
  refine GO.imp h (fun v I3 h => ?_)
  obtain ⟨y4, rfl, h⟩ := h
  show GO S0 0 885 [vR 1000, vR 0, vR 237, vI x3] [vI y4] I3 K
  refine G_loadR rc_0_885 rfl ?_
  refine G_loadR rc_0_886 rfl ?_
  refine G_loadI rc_0_887 rfl ?_
  refine G_const rc_0_888 (by decide) ?_
  refine G_bop (z := x3 + 1) rc_0_889 (if_pos c1) ?_
  show GO S0 0 890 [vR 1000, vR 0, vR 237, vI x3] [vI (x3 + 1), vR 1000, vR 237, vI y4] I3 K
  obtain ⟨c5, h⟩ := h
  refine G_sld rc_0_890 (by omega) (by omega) ?_
  show GO S0 0 891 [vR 1000, vR 0, vR 237, vI x3] [vI (I3 1000 (x3 + 1).toNat), vR 237, vI y4] I3 K
  refine G_call (as := [vR 237, vI (I3 1000 (x3 + 1).toNat)]) (rest := [vI y4]) rc_0_891 rfl rfl rfl (Nat.le_of_ble_eq_true rfl) (g_recv s0_237 rfl) ?_
  refine GO.imp h (fun v I6 h => ?_)
  obtain ⟨y7, rfl, h⟩ := h
  show GO S0 0 894 [vR 1000, vR 0, vR 237, vI x3] [vI y7, vI y4] I6 K
  refine G_i2 (C := y4 = y7) rc_0_894 rfl (fun c8 => ?_) (fun c8 => ?_)
  · rw [if_pos c8] at h
    show GO S0 0 1720 [vR 1000, vR 0, vR 237, vI x3] [] I6 K
    exact g0_1720 x3 I6 K h
  · rw [if_neg c8] at h
    show GO S0 0 897 [vR 1000, vR 0, vR 237, vI x3] [] I6 K
    refine G_const rc_0_897 (by decide) ?_
    exact G_retI rc_0_898 (Or.inr (by decide)) h
def D0_843 (x3 : Int) (I : IM) (K : Option AV → IM → Prop) : Prop :=
  (inR (x3 + 1)) ∧ (0 ≤ x3 + 1 ∧ x3 + 1 < I 1001 0) ∧ (inR (x3 + 2)) ∧ (0 ≤ x3 + 2 ∧ x3 + 2 < I 1001 0) ∧ CALL S0 72 [vR 0, vI (I 1000 (x3 + 1).toNat), vI (I 1000 (x3 + 2).toNat)] I (fun v I5 => ∃ y6 : Int, v = some (vI y6) ∧ (0 ≤ x3 + 1 ∧ x3 + 1 < I5 1001 0) ∧ (0 ≤ x3 + 2 ∧ x3 + 2 < I5 1001 0) ∧ CALL S0 192 [vR 237, vI (I5 1000 (x3 + 1).toNat), vI (I5 1000 (x3 + 2).toNat)] I5 (fun v I9 => ∃ y10 : Int, v = some (vI y10) ∧ (if y6 = y10 then (D0_1720 x3 I9 K) else (K (some (vI 0)) I9))))
set_option maxRecDepth 10000 in
theorem g0_843 (x3 : Int) (I : IM) (K : Option AV → IM → Prop) (h : D0_843 x3 I K) : GO S0 0 843 [vR 1000, vR 0, vR 237, vI x3] [] I K := by
  unfold D0_843 at h
  refine G_loadR rc_0_843 rfl ?_
  refine G_loadR rc_0_844 rfl ?_
  refine G_loadI rc_0_845 rfl ?_
  refine G_const rc_0_846 (by decide) ?_
  obtain ⟨c1, h⟩ := h
  refine G_bop (z := x3 + 1) rc_0_847 (if_pos c1) ?_
  show GO S0 0 848 [vR 1000, vR 0, vR 237, vI x3] [vI (x3 + 1), vR 1000, vR 0] I K
  obtain ⟨c2, h⟩ := h
  refine G_sld rc_0_848 (by omega) (by omega) ?_
  show GO S0 0 849 [vR 1000, vR 0, vR 237, vI x3] [vI (I 1000 (x3 + 1).toNat), vR 0] I K
  refine G_loadR rc_0_849 rfl ?_
  refine G_loadI rc_0_850 rfl ?_
  refine G_const rc_0_851 (by decide) ?_
  obtain ⟨c3, h⟩ := h
  refine G_bop (z := x3 + 2) rc_0_852 (if_pos c3) ?_
  show GO S0 0 853 [vR 1000, vR 0, vR 237, vI x3] [vI (x3 + 2), vR 1000, vI (I 1000 (x3 + 1).toNat), vR 0] I K
  obtain ⟨c4, h⟩ := h
  refine G_sld rc_0_853 (by omega) (by omega) ?_
  show GO S0 0 854 [vR 1000, vR 0, vR 237, vI x3] [vI (I 1000 (x3 + 2).toNat), vI (I 1000 (x3 + 1).toNat), vR 0] I K
  refine G_call (as := [vR 0, vI (I 1000 (x3 + 1).toNat), vI (I 1000 (x3 + 2).toNat)]) (rest := []) rc_0_854 rfl rfl rfl (Nat.le_of_ble_eq_true rfl) (g_recv s0_0 rfl) ?_
  refine GO.imp h (fun v I5 h => ?_)
  obtain ⟨y6, rfl, h⟩ := h
  show GO S0 0 857 [vR 1000, vR 0, vR 237, vI x3] [vI y6] I5 K
  refine G_loadR rc_0_857 rfl ?_
  refine G_loadR rc_0_858 rfl ?_
  refine G_loadI rc_0_859 rfl ?_
  refine G_const rc_0_860 (by decide) ?_
  refine G_bop (z := x3 + 1) rc_0_861 (if_pos c1) ?_
  show GO S0 0 862 [vR 1000, vR 0, vR 237, vI x3] [vI (x3 + 1), vR 1000, vR 237, vI y6] I5 K
  obtain ⟨c7, h⟩ := h
  refine G_sld rc_0_862 (by omega) (by omega) ?_
  show GO S0 0 863 [vR 1000, vR 0, vR 237, vI x3] [vI (I5 1000 (x3 + 1).toNat), vR 237, vI y6] I5 K
  refine G_loadR rc_0_863 rfl ?_
  refine G_loadI rc_0_864 rfl ?_
  refine G_const rc_0_865 (by decide) ?_
  refine G_bop (z := x3 + 2) rc_0_866 (if_pos c3) ?_
  show GO S0 0 867 [vR 1000, vR 0, vR 237, vI x3] [vI (x3 + 2), vR 1000, vI (I5 1000 (x3 + 1).toNat), vR 237, vI y6] I5 K
  obtain ⟨c8, h⟩ := h
  refine G_sld rc_0_867 (by omega) (by omega) ?_
  show GO S0 0 868 [vR 1000, vR 0, vR 237, vI x3] [vI (I5 1000 (x3 + 2).toNat), vI (I5 1000 (x3 + 1).toNat), vR 237, vI y6] I5 K
  refine G_call (as := [vR 237, vI (I5 1000 (x3 + 1).toNat), vI (I5 1000 (x3 + 2).toNat)]) (rest := [vI y6]) rc_0_868 rfl rfl rfl (Nat.le_of_ble_eq_true rfl) (g_recv s0_237 rfl) ?_
  refine GO.imp h (fun v I9 h => ?_)
  obtain ⟨y10, rfl, h⟩ := h
  show GO S0 0 871 [vR 1000, vR 0, vR 237, vI x3] [vI y10, vI y6] I9 K
  refine G_i2 (C := y6 = y10) rc_0_871 rfl (fun c11 => ?_) (fun c11 => ?_)
  · rw [if_pos c11] at h
    show GO S0 0 1720 [vR 1000, vR 0, vR 237, vI x3] [] I9 K
    exact g0_1720 x3 I9 K h
  · rw [if_neg c11] at h
    show GO S0 0 874 [vR 1000, vR 0, vR 237, vI x3] [] I9 K
    refine G_const rc_0_874 (by decide) ?_
    exact G_retI rc_0_875 (Or.inr (by decide)) h
def D0_790 (x3 : Int) (I : IM) (K : Option AV → IM → Prop) : Prop :=
  (inR (x3 + 1)) ∧ (0 ≤ x3 + 1 ∧ x3 + 1 < I 1001 0) ∧ (inR (x3 + 2)) ∧ (0 ≤ x3 + 2 ∧ x3 + 2 < I 1001 0) ∧ (inR (x3 + 3)) ∧ (0 ≤ x3 + 3 ∧ x3 + 3 < I 1001 0) ∧ (inR (x3 + 4)) ∧ (0 ≤ x3 + 4 ∧ x3 + 4 < I 1001 0) ∧ CALL S0 70 [vR 0, vI (I 1000 (x3 + 1).toNat), vI (I 1000 (x3 + 2).toNat), vI (I 1000 (x3 + 3).toNat), vI (I 1000 (x3 + 4).toNat)] I (fun v I9 => ∃ y10 : Int, v = some (vI y10) ∧ (0 ≤ x3 + 1 ∧ x3 + 1 < I9 1001 0) ∧ (0 ≤ x3 + 2 ∧ x3 + 2 < I9 1001 0) ∧ (0 ≤ x3 + 3 ∧ x3 + 3 < I9 1001 0) ∧ (0 ≤ x3 + 4 ∧ x3 + 4 < I9 1001 0) ∧ CALL S0 188 [vR 237, vI (I9 1000 (x3 + 1).toNat), vI (I9 1000 (x3 + 2).toNat), vI (I9 1000 (x3 + 3).toNat), vI (I9 1000 (x3 + 4).toNat)] I9 (fun v I15 => ∃ y16 : Int, v = some (vI y16) ∧ (if y10 = y16 then (D0_1720 x3 I15 K) else (K (some (vI 0)) I15))))
set_option maxRecDepth 10000 in
theorem g0_790 (x3 : Int) (I : IM) (K : Option AV → IM → Prop) (h : D0_790 x3 I K) : GO S0 0 790 [vR 1000, vR 0, vR 237, vI x3] [] I K := by
  unfold D0_790 at h
  refine G_loadR rc_0_790 rfl ?_
  refine G_loadR rc_0_791 rfl ?_
  refine G_loadI rc_0_792 rfl ?_
  refine G_const rc_0_793 (by decide) ?_
  obtain ⟨c1, h⟩ := h
  refine G_bop (z := x3 + 1) rc_0_794 (if_pos c1) ?_
  show GO S0 0 795 [vR 1000, vR 0, vR 237, vI x3] [vI (x3 + 1), vR 1000, vR 0] I K
  obtain ⟨c2, h⟩ := h
  refine G_sld rc_0_795 (by omega) (by omega) ?_
  show GO S0 0 796 [vR 1000, vR 0, vR 237, vI x3] [vI (I 1000 (x3 + 1).toNat), vR 0] I K
  refine G_loadR rc_0_796 rfl ?_
  refine G_loadI rc_0_797 rfl ?_
  refine G_const rc_0_798 (by decide) ?_
  obtain ⟨c3, h⟩ := h
  refine G_bop (z := x3 + 2) rc_0_799 (if_pos c3) ?_
  show GO S0 0 800 [vR 1000, vR 0, vR 237, vI x3] [vI (x3 + 2), vR 1000, vI (I 1000 (x3 + 1).toNat), vR 0] I K
  obtain ⟨c4, h⟩ := h
  refine G_sld rc_0_800 (by omega) (by omega) ?_
  show GO S0 0 801 [vR 1000, vR 0, vR 237, vI x3] [vI (I 1000 (x3 + 2).toNat), vI (I 1000 (x3 + 1).toNat), vR 0] I K
  refine G_loadR rc_0_801 rfl ?_
  refine G_loadI rc_0_802 rfl ?_
  refine G_const rc_0_803 (by decide) ?_
  obtain ⟨c5, h⟩ := h
  refine G_bop (z := x3 + 3) rc_0_804 (if_pos c5) ?_
  show GO S0 0 805 [vR 1000, vR 0, vR 237, vI x3] [vI (x3 + 3), vR 1000, vI (I 1000 (x3 + 2).toNat), vI (I 1000 (x3 + 1).toNat), vR 0] I K
  obtain ⟨c6, h⟩ := h
  refine G_sld rc_0_805 (by omega) (by omega) ?_
  show GO S0 0 806 [vR 1000, vR 0, vR 237, vI x3] [vI (I 1000 (x3 + 3).toNat), vI (I 1000 (x3 + 2).toNat), vI (I 1000 (x3 + 1).toNat), vR 0] I K
  refine G_loadR rc_0_806 rfl ?_
  refine G_loadI rc_0_807 rfl ?_
  refine G_const rc_0_808 (by decide) ?_
  obtain ⟨c7, h⟩ := h
  refine G_bop (z := x3 + 4) rc_0_809 (if_pos c7) ?_
  show GO S0 0 810 [vR 1000, vR 0, vR 237, vI x3] [vI (x3 + 4), vR 1000, vI (I 1000 (x3 + 3).toNat), vI (I 1000 (x3 + 2).toNat), vI (I 1000 (x3 + 1).toNat), vR 0] I K
  obtain ⟨c8, h⟩ := h
  refine G_sld rc_0_810 (by omega) (by omega) ?_
  show GO S0 0 811 [vR 1000, vR 0, vR 237, vI x3] [vI (I 1000 (x3 + 4).toNat), vI (I 1000 (x3 + 3).toNat), vI (I 1000 (x3 + 2).toNat), vI (I 1000 (x3 + 1).toNat), vR 0] I K
  refine G_call (as := [vR 0, vI (I 1000 (x3 + 1).toNat), vI (I 1000 (x3 + 2).toNat), vI (I 1000 (x3 + 3).toNat), vI (I 1000 (x3 + 4).toNat)]) (rest := []) rc_0_811 rfl rfl rfl (Nat.le_of_ble_eq_true rfl) (g_recv s0_0 rfl) ?_
  refine GO.imp h (fun v I9 h => ?_)
  obtain ⟨y10, rfl, h⟩ := h
  show GO S0 0 814 [vR 1000, vR 0, vR 237, vI x3] [vI y10] I9 K
  refine G_loadR rc_0_814 rfl ?_
  refine G_loadR rc_0_815 rfl ?_
  refine G_loadI rc_0_816 rfl ?_
  refine G_const rc_0_817 (by decide) ?_
  refine G_bop (z := x3 + 1) rc_0_818 (if_pos c1) ?_
  show GO S0 0 819 [vR 1000, vR 0, vR 237, vI x3] [vI (x3 + 1), vR 1000, vR 237, vI y10] I9 K
  obtain ⟨c11, h⟩ := h
  refine G_sld rc_0_819 (by omega) (by omega) ?_
  show GO S0 0 820 [vR 1000, vR 0, vR 237, vI x3] [vI (I9 1000 (x3 + 1).toNat), vR 237, vI y10] I9 K
  refine G_loadR rc_0_820 rfl ?_
  refine G_loadI rc_0_821 rfl ?_
  refine G_const rc_0_822 (by decide) ?_
  refine G_bop (z := x3 + 2) rc_0_823 (if_pos c3) ?_
  show GO S0 0 824 [vR 1000, vR 0, vR 237, vI x3] [vI (x3 + 2), vR 1000, vI (I9 1000 (x3 + 1).toNat), vR 237, vI y10] I9 K
  obtain ⟨c12, h⟩ := h
  refine G_sld rc_0_824 (by omega) (by omega) ?_
  show GO S0 0 825 [vR 1000, vR 0, vR 237, vI x3] [vI (I9 1000 (x3 + 2).toNat), vI (I9 1000 (x3 + 1).toNat), vR 237, vI y10] I9 K
  refine G_loadR rc_0_825 rfl ?_
  refine G_loadI rc_0_826 rfl ?_
  refine G_const rc_0_827 (by decide) ?_
  refine G_bop (z := x3 + 3) rc_0_828 (if_pos c5) ?_
  show GO S0 0 829 [vR 1000, vR 0, vR 237, vI x3] [vI (x3 + 3), vR 1000, vI (I9 1000 (x3 + 2).toNat), vI (I9 1000 (x3 + 1).toNat), vR 237, vI y10] I9 K
  obtain ⟨c13, h⟩ := h
  refine G_sld rc_0_829 (by omega) (by omega) ?_
  show GO S0 0 830 [vR 1000, vR 0, vR 237, vI x3] [vI (I9 1000 (x3 + 3).toNat), vI (I9 1000 (x3 + 2).toNat), vI (I9 1000 (x3 + 1).toNat), vR 237, vI y10] I9 K
  refine G_loadR rc_0_830 rfl ?_
  refine G_loadI rc_0_831 rfl ?_
  refine G_const rc_0_832 (by decide) ?_
  refine G_bop (z := x3 + 4) rc_0_833 (if_pos c7) ?_
  show GO S0 0 834 [vR 1000, vR 0, vR 237, vI x3] [vI (x3 + 4), vR 1000, vI (I9 1000 (x3 + 3).toNat), vI (I9 1000 (x3 + 2).toNat), vI (I9 1000 (x3 + 1).toNat), vR 237, vI y10] I9 K
  obtain ⟨c14, h⟩ := h
  refine G_sld rc_0_834 (by omega) (by omega) ?_
  show GO S0 0 835 [vR 1000, vR 0, vR 237, vI x3] [vI (I9 1000 (x3 + 4).toNat), vI (I9 1000 (x3 + 3).toNat), vI (I9 1000 (x3 + 2).toNat), vI (I9 1000 (x3 + 1).toNat), vR 237, vI y10] I9 K
  refine G_call (as := [vR 237, vI (I9 1000 (x3 + 1).toNat), vI (I9 1000 (x3 + 2).toNat), vI (I9 1000 (x3 + 3).toNat), vI (I9 1000 (x3 + 4).toNat)]) (rest := [vI y10]) rc_0_835 rfl rfl rfl (Nat.le_of_ble_eq_true rfl) (g_recv s0_237 rfl) ?_
  refine GO.imp h (fun v I15 h => ?_)
  obtain ⟨y16, rfl, h⟩ := h
  show GO S0 0 838 [vR 1000, vR 0, vR 237, vI x3] [vI y16, vI y10] I15 K
  refine G_i2 (C := y10 = y16) rc_0_838 rfl (fun c17 => ?_) (fun c17 => ?_)
  · rw [if_pos c17] at h
    show GO S0 0 1720 [vR 1000, vR 0, vR 237, vI x3] [] I15 K
    exact g0_1720 x3 I15 K h
  · rw [if_neg c17] at h
    show GO S0 0 841 [vR 1000, vR 0, vR 237, vI x3] [] I15 K
    refine G_const rc_0_841 (by decide) ?_
    exact G_retI rc_0_842 (Or.inr (by decide)) h
def D0_757 (x3 : Int) (I : IM) (K : Option AV → IM → Prop) : Prop :=
  (inR (x3 + 1)) ∧ (0 ≤ x3 + 1 ∧ x3 + 1 < I 1001 0) ∧ (inR (x3 + 2)) ∧ (0 ≤ x3 + 2 ∧ x3 + 2 < I 1001 0) ∧ CALL S0 69 [vR 0, vI (I 1000 (x3 + 1).toNat), vI (I 1000 (x3 + 2).toNat)] I (fun v I5 => ∃ y6 : Int, v = some (vI y6) ∧ (0 ≤ x3 + 1 ∧ x3 + 1 < I5 1001 0) ∧ (0 ≤ x3 + 2 ∧ x3 + 2 < I5 1001 0) ∧ CALL S0 187 [vR 237, vI (I5 1000 (x3 + 1).toNat), vI (I5 1000 (x3 + 2).toNat)] I5 (fun v I9 => ∃ y10 : Int, v = some (vI y10) ∧ (if y6 = y10 then (D0_1720 x3 I9 K) else (K (some (vI 0)) I9))))
set_option maxRecDepth 10000 in
theorem g0_757 (x3 : Int) (I : IM) (K : Option AV → IM → Prop) (h : D0_757 x3 I K) : GO S0 0 757 [vR 1000, vR 0, vR 237, vI x3] [] I K := by
  unfold D0_757 at h
  refine G_loadR rc_0_757 rfl ?_
  refine G_loadR rc_0_758 rfl ?_
  refine G_loadI rc_0_759 rfl ?_
  refine G_const rc_0_760 (by decide) ?_
  obtain ⟨c1, h⟩ := h
  refine G_bop (z := x3 + 1) rc_0_761 (if_pos c1) ?_
  show GO S0 0 762 [vR 1000, vR 0, vR 237, vI x3] [vI (x3 + 1), vR 1000, vR 0] I K
  obtain ⟨c2, h⟩ := h
  refine G_sld rc_0_762 (by omega) (by omega) ?_
  show GO S0 0 763 [vR 1000, vR 0, vR 237, vI x3] [vI (I 1000 (x3 + 1).toNat), vR 0] I K
  refine G_loadR rc_0_763 rfl ?_
  refine G_loadI rc_0_764 rfl ?_
  refine G_const rc_0_765 (by decide) ?_
  obtain ⟨c3, h⟩ := h
  refine G_bop (z := x3 + 2) rc_0_766 (if_pos c3) ?_
  show GO S0 0 767 [vR 1000, vR 0, vR 237, vI x3] [vI (x3 + 2), vR 1000, vI (I 1000 (x3 + 1).toNat), vR 0] I K
  obtain ⟨c4, h⟩ := h
  refine G_sld rc_0_767 (by omega) (by omega) ?_
  show GO S0 0 768 [vR 1000, vR 0, vR 237, vI x3] [vI (I 1000 (x3 + 2).toNat), vI (I 1000 (x3 + 1).toNat), vR 0] I K
  refine G_call (as := [vR 0, vI (I 1000 (x3 + 1).toNat), vI (I 1000 (x3 + 2).toNat)]) (rest := []) rc_0_768 rfl rfl rfl (Nat.le_of_ble_eq_true rfl) (g_recv s0_0 rfl) ?_
  refine GO.imp h (fun v I5 h => ?_)
  obtain ⟨y6, rfl, h⟩ := h
  show GO S0 0 771 [vR 1000, vR 0, vR 237, vI x3] [vI y6] I5 K
  refine G_loadR rc_0_771 rfl ?_
  refine G_loadR rc_0_772 rfl ?_
  refine G_loadI rc_0_773 rfl ?_
  refine G_const rc_0_774 (by decide) ?_
  refine G_bop (z := x3 + 1) rc_0_775 (if_pos c1) ?_
  show GO S0 0 776 [vR 1000, vR 0, vR 237, vI x3] [vI (x3 + 1), vR 1000, vR 237, vI y6] I5 K
  obtain ⟨c7, h⟩ := h
  refine G_sld rc_0_776 (by omega) (by omega) ?_
  show GO S0 0 777 [vR 1000, vR 0, vR 237, vI x3] [vI (I5 1000 (x3 + 1).toNat), vR 237, vI y6] I5 K
  refine G_loadR rc_0_777 rfl ?_
  refine G_loadI rc_0_778 rfl ?_
  refine G_const rc_0_779 (by decide) ?_
  refine G_bop (z := x3 + 2) rc_0_780 (if_pos c3) ?_
  show GO S0 0 781 [vR 1000, vR 0, vR 237, vI x3] [vI (x3 + 2), vR 1000, vI (I5 1000 (x3 + 1).toNat), vR 237, vI y6] I5 K
  obtain ⟨c8, h⟩ := h
  refine G_sld rc_0_781 (by omega) (by omega) ?_
  show GO S0 0 782 [vR 1000, vR 0, vR 237, vI x3] [vI (I5 1000 (x3 + 2).toNat), vI (I5 1000 (x3 + 1).toNat), vR 237, vI y6] I5 K
  refine G_call (as := [vR 237, vI (I5 1000 (x3 + 1).toNat), vI (I5 1000 (x3 + 2).toNat)]) (rest := [vI y6]) rc_0_782 rfl rfl rfl (Nat.le_of_ble_eq_true rfl) (g_recv s0_237 rfl) ?_
  refine GO.imp h (fun v I9 h => ?_)
  obtain ⟨y10, rfl, h⟩ := h
  show GO S0 0 785 [vR 1000, vR 0, vR 237, vI x3] [vI y10, vI y6] I9 K
  refine G_i2 (C := y6 = y10) rc_0_785 rfl (fun c11 => ?_) (fun c11 => ?_)
  · rw [if_pos c11] at h
    show GO S0 0 1720 [vR 1000, vR 0, vR 237, vI x3] [] I9 K
    exact g0_1720 x3 I9 K h
  · rw [if_neg c11] at h
    show GO S0 0 788 [vR 1000, vR 0, vR 237, vI x3] [] I9 K
    refine G_const rc_0_788 (by decide) ?_
    exact G_retI rc_0_789 (Or.inr (by decide)) h
def D0_724 (x3 : Int) (I : IM) (K : Option AV → IM → Prop) : Prop :=
  (inR (x3 + 1)) ∧ (0 ≤ x3 + 1 ∧ x3 + 1 < I 1001 0) ∧ (inR (x3 + 2)) ∧ (0 ≤ x3 + 2 ∧ x3 + 2 < I 1001 0) ∧ CALL S0 67 [vR 0, vI (I 1000 (x3 + 1).toNat), vI (I 1000 (x3 + 2).toNat)] I (fun v I5 => ∃ y6 : Int, v = some (vI y6) ∧ (0 ≤ x3 + 1 ∧ x3 + 1 < I5 1001 0) ∧ (0 ≤ x3 + 2 ∧ x3 + 2 < I5 1001 0) ∧ CALL S0 185 [vR 237, vI (I5 1000 (x3 + 1).toNat), vI (I5 1000 (x3 + 2).toNat)] I5 (fun v I9 => ∃ y10 : Int, v = some (vI y10) ∧ (if y6 = y10 then (D0_1720 x3 I9 K) else (K (some (vI 0)) I9))))
set_option maxRecDepth 10000 in
theorem g0_724 (x3 : Int) (I : IM) (K : Option AV → IM → Prop) (h : D0_724 x3 I K) : GO S0 0 724 [vR 1000, vR 0, vR 237, vI x3] [] I K := by
  unfold D0_724 at h
  refine G_loadR rc_0_724 rfl ?_
  refine G_loadR rc_0_725 rfl ?_
  refine G_loadI rc_0_726 rfl ?_
  refine G_const rc_0_727 (by decide) ?_
  obtain ⟨c1, h⟩ := h
  refine G_bop (z := x3 + 1) rc_0_728 (if_pos c1) ?_
  show GO S0 0 729 [vR 1000, vR 0, vR 237, vI x3] [vI (x3 + 1), vR 1000, vR 0] I K
  obtain ⟨c2, h⟩ := h
  refine G_sld rc_0_729 (by omega) (by omega) ?_
  show GO S0 0 730 [vR 1000, vR 0, vR 237, vI x3] [vI (I 1000 (x3 + 1).toNat), vR 0] I K
  refine G_loadR rc_0_730 rfl ?_
  refine G_loadI rc_0_731 rfl ?_
  refine G_const rc_0_732 (by decide) ?_
  obtain ⟨c3, h⟩ := h
  refine G_bop (z := x3 + 2) rc_0_733 (if_pos c3) ?_
  show GO S0 0 734 [vR 1000, vR 0, vR 237, vI x3] [vI (x3 + 2), vR 1000, vI (I 1000 (x3 + 1).toNat), vR 0] I K
  obtain ⟨c4, h⟩ := h
  refine G_sld rc_0_734 (by omega) (by omega) ?_
  show GO S0 0 735 [vR 1000, vR 0, vR 237, vI x3] [vI (I 1000 (x3 + 2).toNat), vI (I 1000 (x3 + 1).toNat), vR 0] I K
  refine G_call (as := [vR 0, vI (I 1000 (x3 + 1).toNat), vI (I 1000 (x3 + 2).toNat)]) (rest := []) rc_0_735 rfl rfl rfl (Nat.le_of_ble_eq_true rfl) (g_recv s0_0 rfl) ?_
  refine GO.imp h (fun v I5 h => ?_)
  obtain ⟨y6, rfl, h⟩ := h
  show GO S0 0 738 [vR 1000, vR 0, vR 237, vI x3] [vI y6] I5 K
  refine G_loadR rc_0_738 rfl ?_
  refine G_loadR rc_0_739 rfl ?_
  refine G_loadI rc_0_740 rfl ?_
  refine G_const rc_0_741 (by decide) ?_
  refine G_bop (z := x3 + 1) rc_0_742 (if_pos c1) ?_
  show GO S0 0 743 [vR 1000, vR 0, vR 237, vI x3] [vI (x3 + 1), vR 1000, vR 237, vI y6] I5 K
  obtain ⟨c7, h⟩ := h
  refine G_sld rc_0_743 (by omega) (by omega) ?_
  show GO S0 0 744 [vR 1000, vR 0, vR 237, vI x3] [vI (I5 1000 (x3 + 1).toNat), vR 237, vI y6] I5 K
  refine G_loadR rc_0_744 rfl ?_
  refine G_loadI rc_0_745 rfl ?_
  refine G_const rc_0_746 (by decide) ?_
  refine G_bop (z := x3 + 2) rc_0_747 (if_pos c3) ?_
  show GO S0 0 748 [vR 1000, vR 0, vR 237, vI x3] [vI (x3 + 2), vR 1000, vI (I5 1000 (x3 + 1).toNat), vR 237, vI y6] I5 K
  obtain ⟨c8, h⟩ := h
  refine G_sld rc_0_748 (by omega) (by omega) ?_
  show GO S0 0 749 [vR 1000, vR 0, vR 237, vI x3] [vI (I5 1000 (x3 + 2).toNat), vI (I5 1000 (x3 + 1).toNat), vR 237, vI y6] I5 K
  refine G_call (as := [vR 237, vI (I5 1000 (x3 + 1).toNat), vI (I5 1000 (x3 + 2).toNat)]) (rest := [vI y6]) rc_0_749 rfl rfl rfl (Nat.le_of_ble_eq_true rfl) (g_recv s0_237 rfl) ?_
  refine GO.imp h (fun v I9 h => ?_)
  obtain ⟨y10, rfl, h⟩ := h
  show GO S0 0 752 [vR 1000, vR 0, vR 237, vI x3] [vI y10, vI y6] I9 K
  refine G_i2 (C := y6 = y10) rc_0_752 rfl (fun c11 => ?_) (fun c11 => ?_)
  · rw [if_pos c11] at h
    show GO S0 0 1720 [vR 1000, vR 0, vR 237, vI x3] [] I9 K
    exact g0_1720 x3 I9 K h
  · rw [if_neg c11] at h
    show GO S0 0 755 [vR 1000, vR 0, vR 237, vI x3] [] I9 K
    refine G_const rc_0_755 (by decide) ?_
    exact G_retI rc_0_756 (Or.inr (by decide)) h
def D0_681 (x3 : Int) (I : IM) (K : Option AV → IM → Prop) : Prop :=
  (inR (x3 + 1)) ∧ (0 ≤ x3 + 1 ∧ x3 + 1 < I 1001 0) ∧ (inR (x3 + 2)) ∧ (0 ≤ x3 + 2 ∧ x3 + 2 < I 1001 0) ∧ (inR (x3 + 3)) ∧ (0 ≤ x3 + 3 ∧ x3 + 3 < I 1001 0) ∧ CALL S0 63 [vR 0, vI (I 1000 (x3 + 1).toNat), vI (I 1000 (x3 + 2).toNat), vI (I 1000 (x3 + 3).toNat)] I (fun v I7 => ∃ y8 : Int, v = some (vI y8) ∧ (0 ≤ x3 + 1 ∧ x3 + 1 < I7 1001 0) ∧ (0 ≤ x3 + 2 ∧ x3 + 2 < I7 1001 0) ∧ (0 ≤ x3 + 3 ∧ x3 + 3 < I7 1001 0) ∧ CALL S0 180 [vR 237, vI (I7 1000 (x3 + 1).toNat), vI (I7 1000 (x3 + 2).toNat), vI (I7 1000 (x3 + 3).toNat)] I7 (fun v I12 => ∃ y13 : Int, v = some (vI y13) ∧ (if y8 = y13 then (D0_1720 x3 I12 K) else (K (some (vI 0)) I12))))
set_option maxRecDepth 10000 in
theorem g0_681 (x3 : Int) (I : IM) (K : Option AV → IM → Prop) (h : D0_681 x3 I K) : GO S0 0 681 [vR 1000, vR 0, vR 237, vI x3] [] I K := by
  unfold D0_681 at h
  refine G_loadR rc_0_681 rfl ?_
  refine G_loadR rc_0_682 rfl ?_
  refine G_loadI rc_0_683 rfl ?_
  refine G_const rc_0_684 (by decide) ?_
  obtain ⟨c1, h⟩ := h
  refine G_bop (z := x3 + 1) rc_0_685 (if_pos c1) ?_
  show GO S0 0 686 [vR 1000, vR 0, vR 237, vI x3] [vI (x3 + 1), vR 1000, vR 0] I K
  obtain ⟨c2, h⟩ := h
  refine G_sld rc_0_686 (by omega) (by omega) ?_
  show GO S0 0 687 [vR 1000, vR 0, vR 237, vI x3] [vI (I 1000 (x3 + 1).toNat), vR 0] I K
  refine G_loadR rc_0_687 rfl ?_
  refine G_loadI rc_0_688 rfl ?_
  refine G_const rc_0_689 (by decide) ?_
  obtain ⟨c3, h⟩ := h
  refine G_bop (z := x3 + 2) rc_0_690 (if_pos c3) ?_
  show GO S0 0 691 [vR 1000, vR 0, vR 237, vI x3] [vI (x3 + 2), vR 1000, vI (I 1000 (x3 + 1).toNat), vR 0] I K
  obtain ⟨c4, h⟩ := h
  refine G_sld rc_0_691 (by omega) (by omega) ?_
  show GO S0 0 692 [vR 1000, vR 0, vR 237, vI x3] [vI (I 1000 (x3 + 2).toNat), vI (I 1000 (x3 + 1).toNat), vR 0] I K
  refine G_loadR rc_0_692 rfl ?_
  refine G_loadI rc_0_693 rfl ?_
  refine G_const rc_0_694 (by decide) ?_
  obtain ⟨c5, h⟩ := h
  refine G_bop (z := x3 + 3) rc_0_695 (if_pos c5) ?_
  show GO S0 0 696 [vR 1000, vR 0, vR 237, vI x3] [vI (x3 + 3), vR 1000, vI (I 1000 (x3 + 2).toNat), vI (I 1000 (x3 + 1).toNat), vR 0] I K
  obtain ⟨c6, h⟩ := h
  refine G_sld rc_0_696 (by omega) (by omega) ?_
  show GO S0 0 697 [vR 1000, vR 0, vR 237, vI x3] [vI (I 1000 (x3 + 3).toNat), vI (I 1000 (x3 + 2).toNat), vI (I 1000 (x3 + 1).toNat), vR 0] I K
  refine G_call (as := [vR 0, vI (I 1000 (x3 + 1).toNat), vI (I 1000 (x3 + 2).toNat), vI (I 1000 (x3 + 3).toNat)]) (rest := []) rc_0_697 rfl rfl rfl (Nat.le_of_ble_eq_true rfl) (g_recv s0_0 rfl) ?_
  refine GO.imp h (fun v I7 h => ?_)
  obtain ⟨y8, rfl, h⟩ := h
  show GO S0 0 700 [vR 1000, vR 0, vR 237, vI x3] [vI y8] I7 K
  refine G_loadR rc_0_700 rfl ?_
  refine G_loadR rc_0_701 rfl ?_
  refine G_loadI rc_0_702 rfl ?_
  refine G_const rc_0_703 (by decide) ?_
  refine G_bop (z := x3 + 1) rc_0_704 (if_pos c1) ?_
  show GO S0 0 705 [vR 1000, vR 0, vR 237, vI x3] [vI (x3 + 1), vR 1000, vR 237, vI y8] I7 K
  obtain ⟨c9, h⟩ := h
  refine G_sld rc_0_705 (by omega) (by omega) ?_
  show GO S0 0 706 [vR 1000, vR 0, vR 237, vI x3] [vI (I7 1000 (x3 + 1).toNat), vR 237, vI y8] I7 K
  refine G_loadR rc_0_706 rfl ?_
  refine G_loadI rc_0_707 rfl ?_
  refine G_const rc_0_708 (by decide) ?_
  refine G_bop (z := x3 + 2) rc_0_709 (if_pos c3) ?_
  show GO S0 0 710 [vR 1000, vR 0, vR 237, vI x3] [vI (x3 + 2), vR 1000, vI (I7 1000 (x3 + 1).toNat), vR 237, vI y8] I7 K
  obtain ⟨c10, h⟩ := h
  refine G_sld rc_0_710 (by omega) (by omega) ?_
  show GO S0 0 711 [vR 1000, vR 0, vR 237, vI x3] [vI (I7 1000 (x3 + 2).toNat), vI (I7 1000 (x3 + 1).toNat), vR 237, vI y8] I7 K
  refine G_loadR rc_0_711 rfl ?_
  refine G_loadI rc_0_712 rfl ?_
  refine G_const rc_0_713 (by decide) ?_
  refine G_bop (z := x3 + 3) rc_0_714 (if_pos c5) ?_
  show GO S0 0 715 [vR 1000, vR 0, vR 237, vI x3] [vI (x3 + 3), vR 1000, vI (I7 1000 (x3 + 2).toNat), vI (I7 1000 (x3 + 1).toNat), vR 237, vI y8] I7 K
  obtain ⟨c11, h⟩ := h
  refine G_sld rc_0_715 (by omega) (by omega) ?_
  show GO S0 0 716 [vR 1000, vR 0, vR 237, vI x3] [vI (I7 1000 (x3 + 3).toNat), vI (I7 1000 (x3 + 2).toNat), vI (I7 1000 (x3 + 1).toNat), vR 237, vI y8] I7 K
  refine G_call (as := [vR 237, vI (I7 1000 (x3 + 1).toNat), vI (I7 1000 (x3 + 2).toNat), vI (I7 1000 (x3 + 3).toNat)]) (rest := [vI y8]) rc_0_716 rfl rfl rfl (Nat.le_of_ble_eq_true rfl) (g_recv s0_237 rfl) ?_
  refine GO.imp h (fun v I12 h => ?_)
  obtain ⟨y13, rfl, h⟩ := h
  show GO S0 0 719 [vR 1000, vR 0, vR 237, vI x3] [vI y13, vI y8] I12 K
  refine G_i2 (C := y8 = y13) rc_0_719 rfl (fun c14 => ?_) (fun c14 => ?_)
  · rw [if_pos c14] at h
    show GO S0 0 1720 [vR 1000, vR 0, vR 237, vI x3] [] I12 K
    exact g0_1720 x3 I12 K h
  · rw [if_neg c14] at h
    show GO S0 0 722 [vR 1000, vR 0, vR 237, vI x3] [] I12 K
    refine G_const rc_0_722 (by decide) ?_
    exact G_retI rc_0_723 (Or.inr (by decide)) h
def D0_648 (x3 : Int) (I : IM) (K : Option AV → IM → Prop) : Prop :=
  (inR (x3 + 1)) ∧ (0 ≤ x3 + 1 ∧ x3 + 1 < I 1001 0) ∧ (inR (x3 + 2)) ∧ (0 ≤ x3 + 2 ∧ x3 + 2 < I 1001 0) ∧ CALL S0 62 [vR 0, vI (I 1000 (x3 + 1).toNat), vI (I 1000 (x3 + 2).toNat)] I (fun v I5 => ∃ y6 : Int, v = some (vI y6) ∧ (0 ≤ x3 + 1 ∧ x3 + 1 < I5 1001 0) ∧ (0 ≤ x3 + 2 ∧ x3 + 2 < I5 1001 0) ∧ CALL S0 179 [vR 237, vI (I5 1000 (x3 + 1).toNat), vI (I5 1000 (x3 + 2).toNat)] I5 (fun v I9 => ∃ y10 : Int, v = some (vI y10) ∧ (if y6 = y10 then (D0_1720 x3 I9 K) else (K (some (vI 0)) I9))))
set_option maxRecDepth 10000 in
theorem g0_648 (x3 : Int) (I : IM) (K : Option AV → IM → Prop) (h : D0_648 x3 I K) : GO S0 0 648 [vR 1000, vR 0, vR 237, vI x3] [] I K := by
  unfold D0_648 at h
  refine G_loadR rc_0_648 rfl ?_
  refine G_loadR rc_0_649 rfl ?_
  refine G_loadI rc_0_650 rfl ?_
  refine G_const rc_0_651 (by decide) ?_
  obtain ⟨c1, h⟩ := h
  refine G_bop (z := x3 + 1) rc_0_652 (if_pos c1) ?_
  show GO S0 0 653 [vR 1000, vR 0, vR 237, vI x3] [vI (x3 + 1), vR 1000, vR 0] I K
  obtain ⟨c2, h⟩ := h
  refine G_sld rc_0_653 (by omega) (by omega) ?_
  show GO S0 0 654 [vR 1000, vR 0, vR 237, vI x3] [vI (I 1000 (x3 + 1).toNat), vR 0] I K
  refine G_loadR rc_0_654 rfl ?_
  refine G_loadI rc_0_655 rfl ?_
  refine G_const rc_0_656 (by decide) ?_
  obtain ⟨c3, h⟩ := h
  refine G_bop (z := x3 + 2) rc_0_657 (if_pos c3) ?_
  show GO S0 0 658 [vR 1000, vR 0, vR 237, vI x3] [vI (x3 + 2), vR 1000, vI (I 1000 (x3 + 1).toNat), vR 0] I K
  obtain ⟨c4, h⟩ := h
  refine G_sld rc_0_658 (by omega) (by omega) ?_
  show GO S0 0 659 [vR 1000, vR 0, vR 237, vI x3] [vI (I 1000 (x3 + 2).toNat), vI (I 1000 (x3 + 1).toNat), vR 0] I K
  refine G_call (as := [vR 0, vI (I 1000 (x3 + 1).toNat), vI (I 1000 (x3 + 2).toNat)]) (rest := []) rc_0_659 rfl rfl rfl (Nat.le_of_ble_eq_true rfl) (g_recv s0_0 rfl) ?_
  refine GO.imp h (fun v I5 h => ?_)
  obtain ⟨y6, rfl, h⟩ := h
  show GO S0 0 662 [vR 1000, vR 0, vR 237, vI x3] [vI y6] I5 K
  refine G_loadR rc_0_662 rfl ?_
  refine G_loadR rc_0_663 rfl ?_
  refine G_loadI rc_0_664 rfl ?_
  refine G_const rc_0_665 (by decide) ?_
  refine G_bop (z := x3 + 1) rc_0_666 (if_pos c1) ?_
  show GO S0 0 667 [vR 1000, vR 0, vR 237, vI x3] [vI (x3 + 1), vR 1000, vR 237, vI y6] I5 K
  obtain ⟨c7, h⟩ := h
  refine G_sld rc_0_667 (by omega) (by omega) ?_
  show GO S0 0 668 [vR 1000, vR 0, vR 237, vI x3] [vI (I5 1000 (x3 + 1).toNat), vR 237, vI y6] I5 K
  refine G_loadR rc_0_668 rfl ?_
  refine G_loadI rc_0_669 rfl ?_
  refine G_const rc_0_670 (by decide) ?_
  refine G_bop (z := x3 + 2) rc_0_671 (if_pos c3) ?_
  show GO S0 0 672 [vR 1000, vR 0, vR 237, vI x3] [vI (x3 + 2), vR 1000, vI (I5 1000 (x3 + 1).toNat), vR 237, vI y6] I5 K
  obtain ⟨c8, h⟩ := h
  refine G_sld rc_0_672 (by omega) (by omega) ?_
  show GO S0 0 673 [vR 1000, vR 0, vR 237, vI x3] [vI (I5 1000 (x3 + 2).toNat), vI (I5 1000 (x3 + 1).toNat), vR 237, vI y6] I5 K
  refine G_call (as := [vR 237, vI (I5 1000 (x3 + 1).toNat), vI (I5 1000 (x3 + 2).toNat)]) (rest := [vI y6]) rc_0_673 rfl rfl rfl (Nat.le_of_ble_eq_true rfl) (g_recv s0_237 rfl) ?_
  refine GO.imp h (fun v I9 h => ?_)
  obtain ⟨y10, rfl, h⟩ := h
  show GO S0 0 676 [vR 1000, vR 0, vR 237, vI x3] [vI y10, vI y6] I9 K
  refine G_i2 (C := y6 = y10) rc_0_676 rfl (fun c11 => ?_) (fun c11 => ?_)
  · rw [if_pos c11] at h
    show GO S0 0 1720 [vR 1000, vR 0, vR 237, vI x3] [] I9 K
    exact g0_1720 x3 I9 K h
  · rw [if_neg c11] at h
    show GO S0 0 679 [vR 1000, vR 0, vR 237, vI x3] [] I9 K
    refine G_const rc_0_679 (by decide) ?_
    exact G_retI rc_0_680 (Or.inr (by decide)) h
def D0_625 (x3 : Int) (I : IM) (K : Option AV → IM → Prop) : Prop :=
  (inR (x3 + 1)) ∧ (0 ≤ x3 + 1 ∧ x3 + 1 < I 1001 0) ∧ CALL S0 61 [vR 0, vI (I 1000 (x3 + 1).toNat)] I (fun v I3 => ∃ y4 : Int, v = some (vI y4) ∧ (0 ≤ x3 + 1 ∧ x3 + 1 < I3 1001 0) ∧ CALL S0 178 [vR 237, vI (I3 1000 (x3 + 1).toNat)] I3 (fun v I6 => ∃ y7 : Int, v = some (vI y7) ∧ (if y4 = y7 then (D0_1720 x3 I6 K) else (K (some (vI 0)) I6))))
set_option maxRecDepth 10000 in
theorem g0_625 (x3 : Int) (I : IM) (K : Option AV → IM → Prop) (h : D0_625 x3 I K) : GO S0 0 625 [vR 1000, vR 0, vR 237, vI x3] [] I K := by
  unfold D0_625 at h
  refine G_loadR rc_0_625 rfl ?_
  refine G_loadR rc_0_626 rfl ?_
  refine G_loadI rc_0_627 rfl ?_
  refine G_const rc_0_628 (by decide) ?_
  obtain ⟨c1, h⟩ := h
  refine G_bop (z := x3 + 1) rc_0_629 (if_pos c1) ?_
  show GO S0 0 630 [vR 1000, vR 0, vR 237, vI x3] [vI (x3 + 1), vR 1000, vR 0] I K
  obtain ⟨c2, h⟩ := h
  refine G_sld rc_0_630 (by omega) (by omega) ?_
  show GO S0 0 631 [vR 1000, vR 0, vR 237, vI x3] [vI (I 1000 (x3 + 1).toNat), vR 0] I K
  refine G_call (as := [vR 0, vI (I 1000 (x3 + 1).toNat)]) (rest := []) rc_0_631 rfl rfl rfl (Nat.le_of_ble_eq_true rfl) (g_recv s0_0 rfl) ?_
  refine GO.imp h (fun v I3 h => ?_)
  obtain ⟨y4, rfl, h⟩ := h
  show GO S0 0 634 [vR 1000, vR 0, vR 237, vI x3] [vI y4] I3 K
  refine G_loadR rc_0_634 rfl ?_
  refine G_loadR rc_0_635 rfl ?_
  refine G_loadI rc_0_636 rfl ?_
  refine G_const rc_0_637 (by decide) ?_
  refine G_bop (z := x3 + 1) rc_0_638 (if_pos c1) ?_
  show GO S0 0 639 [vR 1000, vR 0, vR 237, vI x3] [vI (x3 + 1), vR 1000, vR 237, vI y4] I3 K
  obtain ⟨c5, h⟩ := h
  refine G_sld rc_0_639 (by omega) (by omega) ?_
  show GO S0 0 640 [vR 1000, vR 0, vR 237, vI x3] [vI (I3 1000 (x3 + 1).toNat), vR 237, vI y4] I3 K
  refine G_call (as := [vR 237, vI (I3 1000 (x3 + 1).toNat)]) (rest := [vI y4]) rc_0_640 rfl rfl rfl (Nat.le_of_ble_eq_true rfl) (g_recv s0_237 rfl) ?_
  refine GO.imp h (fun v I6 h => ?_)
  obtain ⟨y7, rfl, h⟩ := h
  show GO S0 0 643 [vR 1000, vR 0, vR 237, vI x3] [vI y7, vI y4] I6 K
  refine G_i2 (C := y4 = y7) rc_0_643 rfl (fun c8 => ?_) (fun c8 => ?_)
  · rw [if_pos c8] at h
    show GO S0 0 1720 [vR 1000, vR 0, vR 237, vI x3] [] I6 K
    exact g0_1720 x3 I6 K h
  · rw [if_neg c8] at h
    show GO S0 0 646 [vR 1000, vR 0, vR 237, vI x3] [] I6 K
    refine G_const rc_0_646 (by decide) ?_
    exact G_retI rc_0_647 (Or.inr (by decide)) h
def D0_592 (x3 : Int) (I : IM) (K : Option AV → IM → Prop) : Prop :=
  (inR (x3 + 1)) ∧ (0 ≤ x3 + 1 ∧ x3 + 1 < I 1001 0) ∧ (inR (x3 + 2)) ∧ (0 ≤ x3 + 2 ∧ x3 + 2 < I 1001 0) ∧ CALL S0 58 [vR 0, vI (I 1000 (x3 + 1).toNat), vI (I 1000 (x3 + 2).toNat)] I (fun v I5 => ∃ y6 : Int, v = some (vI y6) ∧ (0 ≤ x3 + 1 ∧ x3 + 1 < I5 1001 0) ∧ (0 ≤ x3 + 2 ∧ x3 + 2 < I5 1001 0) ∧ CALL S0 176 [vR 237, vI (I5 1000 (x3 + 1).toNat), vI (I5 1000 (x3 + 2).toNat)] I5 (fun v I9 => ∃ y10 : Int, v = some (vI y10) ∧ (if y6 = y10 then (D0_1720 x3 I9 K) else (K (some (vI 0)) I9))))
set_option maxRecDepth 10000 in
theorem g0_592 (x3 : Int) (I : IM) (K : Option AV → IM → Prop) (h : D0_592 x3 I K) : GO S0 0 592 [vR 1000, vR 0, vR 237, vI x3] [] I K := by
  unfold D0_592 at h
  refine G_loadR rc_0_592 rfl ?_
  refine G_loadR rc_0_593 rfl ?_
  refine G_loadI rc_0_594 rfl ?_
  refine G_const rc_0_595 (by decide) ?_
  obtain ⟨c1, h⟩ := h
  refine G_bop (z := x3 + 1) rc_0_596 (if_pos c1) ?_
  show GO S0 0 597 [vR 1000, vR 0, vR 237, vI x3] [vI (x3 + 1), vR 1000, vR 0] I K
  obtain ⟨c2, h⟩ := h
  refine G_sld rc_0_597 (by omega) (by omega) ?_
  show GO S0 0 598 [vR 1000, vR 0, vR 237, vI x3] [vI (I 1000 (x3 + 1).toNat), vR 0] I K
  refine G_loadR rc_0_598 rfl ?_
  refine G_loadI rc_0_599 rfl ?_
  refine G_const rc_0_600 (by decide) ?_
  obtain ⟨c3, h⟩ := h
  refine G_bop (z := x3 + 2) rc_0_601 (if_pos c3) ?_
  show GO S0 0 602 [vR 1000, vR 0, vR 237, vI x3] [vI (x3 + 2), vR 1000, vI (I 1000 (x3 + 1).toNat), vR 0] I K
  obtain ⟨c4, h⟩ := h
  refine G_sld rc_0_602 (by omega) (by omega) ?_
  show GO S0 0 603 [vR 1000, vR 0, vR 237, vI x3] [vI (I 1000 (x3 + 2).toNat), vI (I 1000 (x3 + 1).toNat), vR 0] I K
  refine G_call (as := [vR 0, vI (I 1000 (x3 + 1).toNat), vI (I 1000 (x3 + 2).toNat)]) (rest := []) rc_0_603 rfl rfl rfl (Nat.le_of_ble_eq_true rfl) (g_recv s0_0 rfl) ?_
  refine GO.imp h (fun v I5 h => ?_)
  obtain ⟨y6, rfl, h⟩ := h
  show GO S0 0 606 [vR 1000, vR 0, vR 237, vI x3] [vI y6] I5 K
  refine G_loadR rc_0_606 rfl ?_
  refine G_loadR rc_0_607 rfl ?_
  refine G_loadI rc_0_608 rfl ?_
  refine G_const rc_0_609 (by decide) ?_
  refine G_bop (z := x3 + 1) rc_0_610 (if_pos c1) ?_
  show GO S0 0 611 [vR 1000, vR 0, vR 237, vI x3] [vI (x3 + 1), vR 1000, vR 237, vI y6] I5 K
  obtain ⟨c7, h⟩ := h
  refine G_sld rc_0_611 (by omega) (by omega) ?_
  show GO S0 0 612 [vR 1000, vR 0, vR 237, vI x3] [vI (I5 1000 (x3 + 1).toNat), vR 237, vI y6] I5 K
  refine G_loadR rc_0_612 rfl ?_
  refine G_loadI rc_0_613 rfl ?_
  refine G_const rc_0_614 (by decide) ?_
  refine G_bop (z := x3 + 2) rc_0_615 (if_pos c3) ?_
  show GO S0 0 616 [vR 1000, vR 0, vR 237, vI x3] [vI (x3 + 2), vR 1000, vI (I5 1000 (x3 + 1).toNat), vR 237, vI y6] I5 K
  obtain ⟨c8, h⟩ := h
  refine G_sld rc_0_616 (by omega) (by omega) ?_
  show GO S0 0 617 [vR 1000, vR 0, vR 237, vI x3] [vI (I5 1000 (x3 + 2).toNat), vI (I5 1000 (x3 + 1).toNat), vR 237, vI y6] I5 K
  refine G_call (as := [vR 237, vI (I5 1000 (x3 + 1).toNat), vI (I5 1000 (x3 + 2).toNat)]) (rest := [vI y6]) rc_0_617 rfl rfl rfl (Nat.le_of_ble_eq_true rfl) (g_recv s0_237 rfl) ?_
  refine GO.imp h (fun v I9 h => ?_)
  obtain ⟨y10, rfl, h⟩ := h
  show GO S0 0 620 [vR 1000, vR 0, vR 237, vI x3] [vI y10, vI y6] I9 K
  refine G_i2 (C := y6 = y10) rc_0_620 rfl (fun c11 => ?_) (fun c11 => ?_)
  · rw [if_pos c11] at h
    show GO S0 0 1720 [vR 1000, vR 0, vR 237, vI x3] [] I9 K
    exact g0_1720 x3 I9 K h
  · rw [if_neg c11] at h
    show GO S0 0 623 [vR 1000, vR 0, vR 237, vI x3] [] I9 K
    refine G_const rc_0_623 (by decide) ?_
    exact G_retI rc_0_624 (Or.inr (by decide)) h
def D0_559 (x3 : Int) (I : IM) (K : Option AV → IM → Prop) : Prop :=
  (inR (x3 + 1)) ∧ (0 ≤ x3 + 1 ∧ x3 + 1 < I 1001 0) ∧ (inR (x3 + 2)) ∧ (0 ≤ x3 + 2 ∧ x3 + 2 < I 1001 0) ∧ CALL S0 57 [vR 0, vI (I 1000 (x3 + 1).toNat), vI (I 1000 (x3 + 2).toNat)] I (fun v I5 => ∃ y6 : Int, v = some (vI y6) ∧ (0 ≤ x3 + 1 ∧ x3 + 1 < I5 1001 0) ∧ (0 ≤ x3 + 2 ∧ x3 + 2 < I5 1001 0) ∧ CALL S0 175 [vR 237, vI (I5 1000 (x3 + 1).toNat), vI (I5 1000 (x3 + 2).toNat)] I5 (fun v I9 => ∃ y10 : Int, v = some (vI y10) ∧ (if y6 = y10 then (D0_1720 x3 I9 K) else (K (some (vI 0)) I9))))
set_option maxRecDepth 10000 in
theorem g0_559 (x3 : Int) (I : IM) (K : Option AV → IM → Prop) (h : D0_559 x3 I K) : GO S0 0 559 [vR 1000, vR 0, vR 237, vI x3] [] I K := by
  unfold D0_559 at h
  refine G_loadR rc_0_559 rfl ?_
  refine G_loadR rc_0_560 rfl ?_
  refine G_loadI rc_0_561 rfl ?_
  refine G_const rc_0_562 (by decide) ?_
  obtain ⟨c1, h⟩ := h
  refine G_bop (z := x3 + 1) rc_0_563 (if_pos c1) ?_
  show GO S0 0 564 [vR 1000, vR 0, vR 237, vI x3] [vI (x3 + 1), vR 1000, vR 0] I K
  obtain ⟨c2, h⟩ := h
  refine G_sld rc_0_564 (by omega) (by omega) ?_
  show GO S0 0 565 [vR 1000, vR 0, vR 237, vI x3] [vI (I 1000 (x3 + 1).toNat), vR 0] I K
  refine G_loadR rc_0_565 rfl ?_
  refine G_loadI rc_0_566 rfl ?_
  refine G_const rc_0_567 (by decide) ?_
  obtain ⟨c3, h⟩ := h
  refine G_bop (z := x3 + 2) rc_0_568 (if_pos c3) ?_
  show GO S0 0 569 [vR 1000, vR 0, vR 237, vI x3] [vI (x3 + 2), vR 1000, vI (I 1000 (x3 + 1).toNat), vR 0] I K
  obtain ⟨c4, h⟩ := h
  refine G_sld rc_0_569 (by omega) (by omega) ?_
  show GO S0 0 570 [vR 1000, vR 0, vR 237, vI x3] [vI (I 1000 (x3 + 2).toNat), vI (I 1000 (x3 + 1).toNat), vR 0] I K
  refine G_call (as := [vR 0, vI (I 1000 (x3 + 1).toNat), vI (I 1000 (x3 + 2).toNat)]) (rest := []) rc_0_570 rfl rfl rfl (Nat.le_of_ble_eq_true rfl) (g_recv s0_0 rfl) ?_
  refine GO.imp h (fun v I5 h => ?_)
  obtain ⟨y6, rfl, h⟩ := h
  show GO S0 0 573 [vR 1000, vR 0, vR 237, vI x3] [vI y6] I5 K
  refine G_loadR rc_0_573 rfl ?_
  refine G_loadR rc_0_574 rfl ?_
  refine G_loadI rc_0_575 rfl ?_
  refine G_const rc_0_576 (by decide) ?_
  refine G_bop (z := x3 + 1) rc_0_577 (if_pos c1) ?_
  show GO S0 0 578 [vR 1000, vR 0, vR 237, vI x3] [vI (x3 + 1), vR 1000, vR 237, vI y6] I5 K
  obtain ⟨c7, h⟩ := h
  refine G_sld rc_0_578 (by omega) (by omega) ?_
  show GO S0 0 579 [vR 1000, vR 0, vR 237, vI x3] [vI (I5 1000 (x3 + 1).toNat), vR 237, vI y6] I5 K
  refine G_loadR rc_0_579 rfl ?_
  refine G_loadI rc_0_580 rfl ?_
  refine G_const rc_0_581 (by decide) ?_
  refine G_bop (z := x3 + 2) rc_0_582 (if_pos c3) ?_
  show GO S0 0 583 [vR 1000, vR 0, vR 237, vI x3] [vI (x3 + 2), vR 1000, vI (I5 1000 (x3 + 1).toNat), vR 237, vI y6] I5 K
  obtain ⟨c8, h⟩ := h
  refine G_sld rc_0_583 (by omega) (by omega) ?_
  show GO S0 0 584 [vR 1000, vR 0, vR 237, vI x3] [vI (I5 1000 (x3 + 2).toNat), vI (I5 1000 (x3 + 1).toNat), vR 237, vI y6] I5 K
  refine G_call (as := [vR 237, vI (I5 1000 (x3 + 1).toNat), vI (I5 1000 (x3 + 2).toNat)]) (rest := [vI y6]) rc_0_584 rfl rfl rfl (Nat.le_of_ble_eq_true rfl) (g_recv s0_237 rfl) ?_
  refine GO.imp h (fun v I9 h => ?_)
  obtain ⟨y10, rfl, h⟩ := h
  show GO S0 0 587 [vR 1000, vR 0, vR 237, vI x3] [vI y10, vI y6] I9 K
  refine G_i2 (C := y6 = y10) rc_0_587 rfl (fun c11 => ?_) (fun c11 => ?_)
  · rw [if_pos c11] at h
    show GO S0 0 1720 [vR 1000, vR 0, vR 237, vI x3] [] I9 K
    exact g0_1720 x3 I9 K h
  · rw [if_neg c11] at h
    show GO S0 0 590 [vR 1000, vR 0, vR 237, vI x3] [] I9 K
    refine G_const rc_0_590 (by decide) ?_
    exact G_retI rc_0_591 (Or.inr (by decide)) h
def D0_536 (x3 : Int) (I : IM) (K : Option AV → IM → Prop) : Prop :=
  (inR (x3 + 1)) ∧ (0 ≤ x3 + 1 ∧ x3 + 1 < I 1001 0) ∧ CALL S0 56 [vR 0, vI (I 1000 (x3 + 1).toNat)] I (fun v I3 => ∃ y4 : Int, v = some (vI y4) ∧ (0 ≤ x3 + 1 ∧ x3 + 1 < I3 1001 0) ∧ CALL S0 174 [vR 237, vI (I3 1000 (x3 + 1).toNat)] I3 (fun v I6 => ∃ y7 : Int, v = some (vI y7) ∧ (if y4 = y7 then (D0_1720 x3 I6 K) else (K (some (vI 0)) I6))))
set_option maxRecDepth 10000 in
theorem g0_536 (x3 : Int) (I : IM) (K : Option AV → IM → Prop) (h : D0_536 x3 I K) : GO S0 0 536 [vR 1000, vR 0, vR 237, vI x3] [] I K := by
  unfold D0_536 at h
  refine G_loadR rc_0_536 rfl ?_
  refine G_loadR rc_0_537 rfl ?_
  refine G_loadI rc_0_538 rfl ?_
  refine G_const rc_0_539 (by decide) ?_
  obtain ⟨c1, h⟩ := h
  refine G_bop (z := x3 + 1) rc_0_540 (if_pos c1) ?_
  show GO S0 0 541 [vR 1000, vR 0, vR 237, vI x3] [vI (x3 + 1), vR 1000, vR 0] I K
  obtain ⟨c2, h⟩ := h
  refine G_sld rc_0_541 (by omega) (by omega) ?_
  show GO S0 0 542 [vR 1000, vR 0, vR 237, vI x3] [vI (I 1000 (x3 + 1).toNat), vR 0] I K
  refine G_call (as := [vR 0, vI (I 1000 (x3 + 1).toNat)]) (rest := []) rc_0_542 rfl rfl rfl (Nat.le_of_ble_eq_true rfl) (g_recv s0_0 rfl) ?_
  refine GO.imp h (fun v I3 h => ?_)
  obtain ⟨y4, rfl, h⟩ := h
  show GO S0 0 545 [vR 1000, vR 0, vR 237, vI x3] [vI y4] I3 K
  refine G_loadR rc_0_545 rfl ?_
  refine G_loadR rc_0_546 rfl ?_
  refine G_loadI rc_0_547 rfl ?_
  refine G_const rc_0_548 (by decide) ?_
  refine G_bop (z := x3 + 1) rc_0_549 (if_pos c1) ?_
  show GO S0 0 550 [vR 1000, vR 0, vR 237, vI x3] [vI (x3 + 1), vR 1000, vR 237, vI y4] I3 K
  obtain ⟨c5, h⟩ := h
  refine G_sld rc_0_550 (by omega) (by omega) ?_
  show GO S0 0 551 [vR 1000, vR 0, vR 237, vI x3] [vI (I3 1000 (x3 + 1).toNat), vR 237, vI y4] I3 K
  refine G_call (as := [vR 237, vI (I3 1000 (x3 + 1).toNat)]) (rest := [vI y4]) rc_0_551 rfl rfl rfl (Nat.le_of_ble_eq_true rfl) (g_recv s0_237 rfl) ?_
  refine GO.imp h (fun v I6 h => ?_)
  obtain ⟨y7, rfl, h⟩ := h
  show GO S0 0 554 [vR 1000, vR 0, vR 237, vI x3] [vI y7, vI y4] I6 K
  refine G_i2 (C := y4 = y7) rc_0_554 rfl (fun c8 => ?_) (fun c8 => ?_)
  · rw [if_pos c8] at h
    show GO S0 0 1720 [vR 1000, vR 0, vR 237, vI x3] [] I6 K
    exact g0_1720 x3 I6 K h
  · rw [if_neg c8] at h
    show GO S0 0 557 [vR 1000, vR 0, vR 237, vI x3] [] I6 K
    refine G_const rc_0_557 (by decide) ?_
    exact G_retI rc_0_558 (Or.inr (by decide)) h
def D0_523 (x3 : Int) (I : IM) (K : Option AV → IM → Prop) : Prop :=
  CALL S0 54 [vR 0] I (fun v I1 => ∃ y2 : Int, v = some (vI y2) ∧ CALL S0 172 [vR 237] I1 (fun v I3 => ∃ y4 : Int, v = some (vI y4) ∧ (if y2 = y4 then (D0_1720 x3 I3 K) else (K (some (vI 0)) I3))))
set_option maxRecDepth 10000 in
theorem g0_523 (x3 : Int) (I : IM) (K : Option AV → IM → Prop) (h : D0_523 x3 I K) : GO S0 0 523 [vR 1000, vR 0, vR 237, vI x3] [] I K := by
  unfold D0_523 at h
  refine G_loadR rc_0_523 rfl ?_
  refine G_call (as := [vR 0]) (rest := []) rc_0_524 rfl rfl rfl (Nat.le_of_ble_eq_true rfl) (g_recv s0_0 rfl) ?_
  refine GO.imp h (fun v I1 h => ?_)
  obtain ⟨y2, rfl, h⟩ := h
  show GO S0 0 527 [vR 1000, vR 0, vR 237, vI x3] [vI y2] I1 K
  refine G_loadR rc_0_527 rfl ?_
  refine G_call (as := [vR 237]) (rest := [vI y2]) rc_0_528 rfl rfl rfl (Nat.le_of_ble_eq_true rfl) (g_recv s0_237 rfl) ?_
  refine GO.imp h (fun v I3 h => ?_)
  obtain ⟨y4, rfl, h⟩ := h
  show GO S0 0 531 [vR 1000, vR 0, vR 237, vI x3] [vI y4, vI y2] I3 K
  refine G_i2 (C := y2 = y4) rc_0_531 rfl (fun c5 => ?_) (fun c5 => ?_)
  · rw [if_pos c5] at h
    show GO S0 0 1720 [vR 1000, vR 0, vR 237, vI x3] [] I3 K
    exact g0_1720 x3 I3 K h
  · rw [if_neg c5] at h
    show GO S0 0 534 [vR 1000, vR 0, vR 237, vI x3] [] I3 K
    refine G_const rc_0_534 (by decide) ?_
    exact G_retI rc_0_535 (Or.inr (by decide)) h
def D0_510 (x3 : Int) (I : IM) (K : Option AV → IM → Prop) : Prop :=
  CALL S0 41 [vR 0] I (fun v I1 => ∃ y2 : Int, v = some (vI y2) ∧ CALL S0 152 [vR 237] I1 (fun v I3 => ∃ y4 : Int, v = some (vI y4) ∧ (if y2 = y4 then (D0_1720 x3 I3 K) else (K (some (vI 0)) I3))))
set_option maxRecDepth 10000 in
theorem g0_510 (x3 : Int) (I : IM) (K : Option AV → IM → Prop) (h : D0_510 x3 I K) : GO S0 0 510 [vR 1000, vR 0, vR 237, vI x3] [] I K := by
  unfold D0_510 at h
  refine G_loadR rc_0_510 rfl ?_
  refine G_call (as := [vR 0]) (rest := []) rc_0_511 rfl rfl rfl (Nat.le_of_ble_eq_true rfl) (g_recv s0_0 rfl) ?_
  refine GO.imp h (fun v I1 h => ?_)
  obtain ⟨y2, rfl, h⟩ := h
  show GO S0 0 514 [vR 1000, vR 0, vR 237, vI x3] [vI y2] I1 K
  refine G_loadR rc_0_514 rfl ?_
  refine G_call (as := [vR 237]) (rest := [vI y2]) rc_0_515 rfl rfl rfl (Nat.le_of_ble_eq_true rfl) (g_recv s0_237 rfl) ?_
  refine GO.imp h (fun v I3 h => ?_)
  obtain ⟨y4, rfl, h⟩ := h
  show GO S0 0 518 [vR 1000, vR 0, vR 237, vI x3] [vI y4, vI y2] I3 K
  refine G_i2 (C := y2 = y4) rc_0_518 rfl (fun c5 => ?_) (fun c5 => ?_)
  · rw [if_pos c5] at h
    show GO S0 0 1720 [vR 1000, vR 0, vR 237, vI x3] [] I3 K
    exact g0_1720 x3 I3 K h
  · rw [if_neg c5] at h
    show GO S0 0 521 [vR 1000, vR 0, vR 237, vI x3] [] I3 K
    refine G_const rc_0_521 (by decide) ?_
    exact G_retI rc_0_522 (Or.inr (by decide)) h
def D0_497 (x3 : Int) (I : IM) (K : Option AV → IM → Prop) : Prop :=
  CALL S0 29 [vR 0] I (fun v I1 => ∃ y2 : Int, v = some (vI y2) ∧ CALL S0 146 [vR 237] I1 (fun v I3 => ∃ y4 : Int, v = some (vI y4) ∧ (if y2 = y4 then (D0_1720 x3 I3 K) else (K (some (vI 0)) I3))))
set_option maxRecDepth 10000 in
theorem g0_497 (x3 : Int) (I : IM) (K : Option AV → IM → Prop) (h : D0_497 x3 I K) : GO S0 0 497 [vR 1000, vR 0, vR 237, vI x3] [] I K := by
  unfold D0_497 at h
  refine G_loadR rc_0_497 rfl ?_
  refine G_call (as := [vR 0]) (rest := []) rc_0_498 rfl rfl rfl (Nat.le_of_ble_eq_true rfl) (g_recv s0_0 rfl) ?_
  refine GO.imp h (fun v I1 h => ?_)
  obtain ⟨y2, rfl, h⟩ := h
  show GO S0 0 501 [vR 1000, vR 0, vR 237, vI x3] [vI y2] I1 K
  refine G_loadR rc_0_501 rfl ?_
  refine G_call (as := [vR 237]) (rest := [vI y2]) rc_0_502 rfl rfl rfl (Nat.le_of_ble_eq_true rfl) (g_recv s0_237 rfl) ?_
  refine GO.imp h (fun v I3 h => ?_)
  obtain ⟨y4, rfl, h⟩ := h
  show GO S0 0 505 [vR 1000, vR 0, vR 237, vI x3] [vI y4, vI y2] I3 K
  refine G_i2 (C := y2 = y4) rc_0_505 rfl (fun c5 => ?_) (fun c5 => ?_)
  · rw [if_pos c5] at h
    show GO S0 0 1720 [vR 1000, vR 0, vR 237, vI x3] [] I3 K
    exact g0_1720 x3 I3 K h
  · rw [if_neg c5] at h
    show GO S0 0 508 [vR 1000, vR 0, vR 237, vI x3] [] I3 K
    refine G_const rc_0_508 (by decide) ?_
    exact G_retI rc_0_509 (Or.inr (by decide)) h
def D0_484 (x3 : Int) (I : IM) (K : Option AV → IM → Prop) : Prop :=
  CALL S0 28 [vR 0] I (fun v I1 => ∃ y2 : Int, v = some (vI y2) ∧ CALL S0 145 [vR 237] I1 (fun v I3 => ∃ y4 : Int, v = some (vI y4) ∧ (if y2 = y4 then (D0_1720 x3 I3 K) else (K (some (vI 0)) I3))))
set_option maxRecDepth 10000 in
theorem g0_484 (x3 : Int) (I : IM) (K : Option AV → IM → Prop) (h : D0_484 x3 I K) : GO S0 0 484 [vR 1000, vR 0, vR 237, vI x3] [] I K := by
  unfold D0_484 at h
  refine G_loadR rc_0_484 rfl ?_
  refine G_call (as := [vR 0]) (rest := []) rc_0_485 rfl rfl rfl (Nat.le_of_ble_eq_true rfl) (g_recv s0_0 rfl) ?_
  refine GO.imp h (fun v I1 h => ?_)
  obtain ⟨y2, rfl, h⟩ := h
  show GO S0 0 488 [vR 1000, vR 0, vR 237, vI x3] [vI y2] I1 K
  refine G_loadR rc_0_488 rfl ?_
  refine G_call (as := [vR 237]) (rest := [vI y2]) rc_0_489 rfl rfl rfl (Nat.le_of_ble_eq_true rfl) (g_recv s0_237 rfl) ?_
  refine GO.imp h (fun v I3 h => ?_)
  obtain ⟨y4, rfl, h⟩ := h
  show GO S0 0 492 [vR 1000, vR 0, vR 237, vI x3] [vI y4, vI y2] I3 K
  refine G_i2 (C := y2 = y4) rc_0_492 rfl (fun c5 => ?_) (fun c5 => ?_)
  · rw [if_pos c5] at h
    show GO S0 0 1720 [vR 1000, vR 0, vR 237, vI x3] [] I3 K
    exact g0_1720 x3 I3 K h
  · rw [if_neg c5] at h
    show GO S0 0 495 [vR 1000, vR 0, vR 237, vI x3] [] I3 K
    refine G_const rc_0_495 (by decide) ?_
    exact G_retI rc_0_496 (Or.inr (by decide)) h
def D0_461 (x3 : Int) (I : IM) (K : Option AV → IM → Prop) : Prop :=
  (inR (x3 + 1)) ∧ (0 ≤ x3 + 1 ∧ x3 + 1 < I 1001 0) ∧ CALL S0 26 [vR 0, vI (I 1000 (x3 + 1).toNat)] I (fun v I3 => ∃ y4 : Int, v = some (vI y4) ∧ (0 ≤ x3 + 1 ∧ x3 + 1 < I3 1001 0) ∧ CALL S0 144 [vR 237, vI (I3 1000 (x3 + 1).toNat)] I3 (fun v I6 => ∃ y7 : Int, v = some (vI y7) ∧ (if y4 = y7 then (D0_1720 x3 I6 K) else (K (some (vI 0)) I6))))
set_option maxRecDepth 10000 in
theorem g0_461 (x3 : Int) (I : IM) (K : Option AV → IM → Prop) (h : D0_461 x3 I K) : GO S0 0 461 [vR 1000, vR 0, vR 237, vI x3] [] I K := by
  unfold D0_461 at h
  refine G_loadR rc_0_461 rfl ?_
  refine G_loadR rc_0_462 rfl ?_
  refine G_loadI rc_0_463 rfl ?_
  refine G_const rc_0_464 (by decide) ?_
  obtain ⟨c1, h⟩ := h
  refine G_bop (z := x3 + 1) rc_0_465 (if_pos c1) ?_
  show GO S0 0 466 [vR 1000, vR 0, vR 237, vI x3] [vI (x3 + 1), vR 1000, vR 0] I K
  obtain ⟨c2, h⟩ := h
  refine G_sld rc_0_466 (by omega) (by omega) ?_
  show GO S0 0 467 [vR 1000, vR 0, vR 237, vI x3] [vI (I 1000 (x3 + 1).toNat), vR 0] I K
  refine G_call (as := [vR 0, vI (I 1000 (x3 + 1).toNat)]) (rest := []) rc_0_467 rfl rfl rfl (Nat.le_of_ble_eq_true rfl) (g_recv s0_0 rfl) ?_
  refine GO.imp h (fun v I3 h => ?_)
  obtain ⟨y4, rfl, h⟩ := h
  show GO S0 0 470 [vR 1000, vR 0, vR 237, vI x3] [vI y4] I3 K
  refine G_loadR rc_0_470 rfl ?_
  refine G_loadR rc_0_471 rfl ?_
  refine G_loadI rc_0_472 rfl ?_
  refine G_const rc_0_473 (by decide) ?_
  refine G_bop (z := x3 + 1) rc_0_474 (if_pos c1) ?_
  show GO S0 0 475 [vR 1000, vR 0, vR 237, vI x3] [vI (x3 + 1), vR 1000, vR 237, vI y4] I3 K
  obtain ⟨c5, h⟩ := h
  refine G_sld rc_0_475 (by omega) (by omega) ?_
  show GO S0 0 476 [vR 1000, vR 0, vR 237, vI x3] [vI (I3 1000 (x3 + 1).toNat), vR 237, vI y4] I3 K
  refine G_call (as := [vR 237, vI (I3 1000 (x3 + 1).toNat)]) (rest := [vI y4]) rc_0_476 rfl rfl rfl (Nat.le_of_ble_eq_true rfl) (g_recv s0_237 rfl) ?_
  refine GO.imp h (fun v I6 h => ?_)
  obtain ⟨y7, rfl, h⟩ := h
  show GO S0 0 479 [vR 1000, vR 0, vR 237, vI x3] [vI y7, vI y4] I6 K
  refine G_i2 (C := y4 = y7) rc_0_479 rfl (fun c8 => ?_) (fun c8 => ?_)
  · rw [if_pos c8] at h
    show GO S0 0 1720 [vR 1000, vR 0, vR 237, vI x3] [] I6 K
    exact g0_1720 x3 I6 K h
  · rw [if_neg c8] at h
    show GO S0 0 482 [vR 1000, vR 0, vR 237, vI x3] [] I6 K
    refine G_const rc_0_482 (by decide) ?_
    exact G_retI rc_0_483 (Or.inr (by decide)) h
def D0_428 (x3 : Int) (I : IM) (K : Option AV → IM → Prop) : Prop :=
  (inR (x3 + 1)) ∧ (0 ≤ x3 + 1 ∧ x3 + 1 < I 1001 0) ∧ (inR (x3 + 2)) ∧ (0 ≤ x3 + 2 ∧ x3 + 2 < I 1001 0) ∧ CALL S0 25 [vR 0, vI (I 1000 (x3 + 1).toNat), vI (I 1000 (x3 + 2).toNat)] I (fun v I5 => ∃ y6 : Int, v = some (vI y6) ∧ (0 ≤ x3 + 1 ∧ x3 + 1 < I5 1001 0) ∧ (0 ≤ x3 + 2 ∧ x3 + 2 < I5 1001 0) ∧ CALL S0 143 [vR 237, vI (I5 1000 (x3 + 1).toNat), vI (I5 1000 (x3 + 2).toNat)] I5 (fun v I9 => ∃ y10 : Int, v = some (vI y10) ∧ (if y6 = y10 then (D0_1720 x3 I9 K) else (K (some (vI 0)) I9))))
set_option maxRecDepth 10000 in
theorem g0_428 (x3 : Int) (I : IM) (K : Option AV → IM → Prop) (h : D0_428 x3 I K) : GO S0 0 428 [vR 1000, vR 0, vR 237, vI x3] [] I K := by
  unfold D0_428 at h
  refine G_loadR rc_0_428 rfl ?_
  refine G_loadR rc_0_429 rfl ?_
  refine G_loadI rc_0_430 rfl ?_
  refine G_const rc_0_431 (by decide) ?_
  obtain ⟨c1, h⟩ := h
  refine G_bop (z := x3 + 1) rc_0_432 (if_pos c1) ?_
  show GO S0 0 433 [vR 1000, vR 0, vR 237, vI x3] [vI (x3 + 1), vR 1000, vR 0] I K
  obtain ⟨c2, h⟩ := h
  refine G_sld rc_0_433 (by omega) (by omega) ?_
  show GO S0 0 434 [vR 1000, vR 0, vR 237, vI x3] [vI (I 1000 (x3 + 1).toNat), vR 0] I K
  refine G_loadR rc_0_434 rfl ?_
  refine G_loadI rc_0_435 rfl ?_
  refine G_const rc_0_436 (by decide) ?_
  obtain ⟨c3, h⟩ := h
  refine G_bop (z := x3 + 2) rc_0_437 (if_pos c3) ?_
  show GO S0 0 438 [vR 1000, vR 0, vR 237, vI x3] [vI (x3 + 2), vR 1000, vI (I 1000 (x3 + 1).toNat), vR 0] I K
  obtain ⟨c4, h⟩ := h
  refine G_sld rc_0_438 (by omega) (by omega) ?_
  show GO S0 0 439 [vR 1000, vR 0, vR 237, vI x3] [vI (I 1000 (x3 + 2).toNat), vI (I 1000 (x3 + 1).toNat), vR 0] I K
  refine G_call (as := [vR 0, vI (I 1000 (x3 + 1).toNat), vI (I 1000 (x3 + 2).toNat)]) (rest := []) rc_0_439 rfl rfl rfl (Nat.le_of_ble_eq_true rfl) (g_recv s0_0 rfl) ?_
  refine GO.imp h (fun v I5 h => ?_)
  obtain ⟨y6, rfl, h⟩ := h
  show GO S0 0 442 [vR 1000, vR 0, vR 237, vI x3] [vI y6] I5 K
  refine G_loadR rc_0_442 rfl ?_
  refine G_loadR rc_0_443 rfl ?_
  refine G_loadI rc_0_444 rfl ?_
  refine G_const rc_0_445 (by decide) ?_
  refine G_bop (z := x3 + 1) rc_0_446 (if_pos c1) ?_
  show GO S0 0 447 [vR 1000, vR 0, vR 237, vI x3] [vI (x3 + 1), vR 1000, vR 237, vI y6] I5 K
  obtain ⟨c7, h⟩ := h
  refine G_sld rc_0_447 (by omega) (by omega) ?_
  show GO S0 0 448 [vR 1000, vR 0, vR 237, vI x3] [vI (I5 1000 (x3 + 1).toNat), vR 237, vI y6] I5 K
  refine G_loadR rc_0_448 rfl ?_
  refine G_loadI rc_0_449 rfl ?_
  refine G_const rc_0_450 (by decide) ?_
  refine G_bop (z := x3 + 2) rc_0_451 (if_pos c3) ?_
  show GO S0 0 452 [vR 1000, vR 0, vR 237, vI x3] [vI (x3 + 2), vR 1000, vI (I5 1000 (x3 + 1).toNat), vR 237, vI y6] I5 K
  obtain ⟨c8, h⟩ := h
  refine G_sld rc_0_452 (by omega) (by omega) ?_
  show GO S0 0 453 [vR 1000, vR 0, vR 237, vI x3] [vI (I5 1000 (x3 + 2).toNat), vI (I5 1000 (x3 + 1).toNat), vR 237, vI y6] I5 K
  refine G_call (as := [vR 237, vI (I5 1000 (x3 + 1).toNat), vI (I5 1000 (x3 + 2).toNat)]) (rest := [vI y6]) rc_0_453 rfl rfl rfl (Nat.le_of_ble_eq_true rfl) (g_recv s0_237 rfl) ?_
  refine GO.imp h (fun v I9 h => ?_)
  obtain ⟨y10, rfl, h⟩ := h
  show GO S0 0 456 [vR 1000, vR 0, vR 237, vI x3] [vI y10, vI y6] I9 K
  refine G_i2 (C := y6 = y10) rc_0_456 rfl (fun c11 => ?_) (fun c11 => ?_)
  · rw [if_pos c11] at h
    show GO S0 0 1720 [vR 1000, vR 0, vR 237, vI x3] [] I9 K
    exact g0_1720 x3 I9 K h
  · rw [if_neg c11] at h
    show GO S0 0 459 [vR 1000, vR 0, vR 237, vI x3] [] I9 K
    refine G_const rc_0_459 (by decide) ?_
    exact G_retI rc_0_460 (Or.inr (by decide)) h
def D0_375 (x3 : Int) (I : IM) (K : Option AV → IM → Prop) : Prop :=
  (inR (x3 + 1)) ∧ (0 ≤ x3 + 1 ∧ x3 + 1 < I 1001 0) ∧ (inR (x3 + 2)) ∧ (0 ≤ x3 + 2 ∧ x3 + 2 < I 1001 0) ∧ (inR (x3 + 3)) ∧ (0 ≤ x3 + 3 ∧ x3 + 3 < I 1001 0) ∧ (inR (x3 + 4)) ∧ (0 ≤ x3 + 4 ∧ x3 + 4 < I 1001 0) ∧ CALL S0 23 [vR 0, vI (I 1000 (x3 + 1).toNat), vI (I 1000 (x3 + 2).toNat), vI (I 1000 (x3 + 3).toNat), vI (I 1000 (x3 + 4).toNat)] I (fun v I9 => ∃ y10 : Int, v = some (vI y10) ∧ (0 ≤ x3 + 1 ∧ x3 + 1 < I9 1001 0) ∧ (0 ≤ x3 + 2 ∧ x3 + 2 < I9 1001 0) ∧ (0 ≤ x3 + 3 ∧ x3 + 3 < I9 1001 0) ∧ (0 ≤ x3 + 4 ∧ x3 + 4 < I9 1001 0) ∧ CALL S0 141 [vR 237, vI (I9 1000 (x3 + 1).toNat), vI (I9 1000 (x3 + 2).toNat), vI (I9 1000 (x3 + 3).toNat), vI (I9 1000 (x3 + 4).toNat)] I9 (fun v I15 => ∃ y16 : Int, v = some (vI y16) ∧ (if y10 = y16 then (D0_1720 x3 I15 K) else (K (some (vI 0)) I15))))
set_option maxRecDepth 10000 in
theorem g0_375 (x3 : Int) (I : IM) (K : Option AV → IM → Prop) (h : D0_375 x3 I K) : GO S0 0 375 [vR 1000, vR 0, vR 237, vI x3] [] I K := by
  unfold D0_375 at h
  refine G_loadR rc_0_375 rfl ?_
  refine G_loadR rc_0_376 rfl ?_
  refine G_loadI rc_0_377 rfl ?_
  refine G_const rc_0_378 (by decide) ?_
  obtain ⟨c1, h⟩ := h
  refine G_bop (z := x3 + 1) rc_0_379 (if_pos c1) ?_
  show GO S0 0 380 [vR 1000, vR 0, vR 237, vI x3] [vI (x3 + 1), vR 1000, vR 0] I K
  obtain ⟨c2, h⟩ := h
  refine G_sld rc_0_380 (by omega) (by omega) ?_
  show GO S0 0 381 [vR 1000, vR 0, vR 237, vI x3] [vI (I 1000 (x3 + 1).toNat), vR 0] I K
  refine G_loadR rc_0_381 rfl ?_
  refine G_loadI rc_0_382 rfl ?_
  refine G_const rc_0_383 (by decide) ?_
  obtain ⟨c3, h⟩ := h
  refine G_bop (z := x3 + 2) rc_0_384 (if_pos c3) ?_
  show GO S0 0 385 [vR 1000, vR 0, vR 237, vI x3] [vI (x3 + 2), vR 1000, vI (I 1000 (x3 + 1).toNat), vR 0] I K
  obtain ⟨c4, h⟩ := h
  refine G_sld rc_0_385 (by omega) (by omega) ?_
  show GO S0 0 386 [vR 1000, vR 0, vR 237, vI x3] [vI (I 1000 (x3 + 2).toNat), vI (I 1000 (x3 + 1).toNat), vR 0] I K
  refine G_loadR rc_0_386 rfl ?_
  refine G_loadI rc_0_387 rfl ?_
  refine G_const rc_0_388 (by decide) ?_
  obtain ⟨c5, h⟩ := h
  refine G_bop (z := x3 + 3) rc_0_389 (if_pos c5) ?_
  show GO S0 0 390 [vR 1000, vR 0, vR 237, vI x3] [vI (x3 + 3), vR 1000, vI (I 1000 (x3 + 2).toNat), vI (I 1000 (x3 + 1).toNat), vR 0] I K
  obtain ⟨c6, h⟩ := h
  refine G_sld rc_0_390 (by omega) (by omega) ?_
  show GO S0 0 391 [vR 1000, vR 0, vR 237, vI x3] [vI (I 1000 (x3 + 3).toNat), vI (I 1000 (x3 + 2).toNat), vI (I 1000 (x3 + 1).toNat), vR 0] I K
  refine G_loadR rc_0_391 rfl ?_
  refine G_loadI rc_0_392 rfl ?_
  refine G_const rc_0_393 (by decide) ?_
  obtain ⟨c7, h⟩ := h
  refine G_bop (z := x3 + 4) rc_0_394 (if_pos c7) ?_
  show GO S0 0 395 [vR 1000, vR 0, vR 237, vI x3] [vI (x3 + 4), vR 1000, vI (I 1000 (x3 + 3).toNat), vI (I 1000 (x3 + 2).toNat), vI (I 1000 (x3 + 1).toNat), vR 0] I K
  obtain ⟨c8, h⟩ := h
  refine G_sld rc_0_395 (by omega) (by omega) ?_
  show GO S0 0 396 [vR 1000, vR 0, vR 237, vI x3] [vI (I 1000 (x3 + 4).toNat), vI (I 1000 (x3 + 3).toNat), vI (I 1000 (x3 + 2).toNat), vI (I 1000 (x3 + 1).toNat), vR 0] I K
  refine G_call (as := [vR 0, vI (I 1000 (x3 + 1).toNat), vI (I 1000 (x3 + 2).toNat), vI (I 1000 (x3 + 3).toNat), vI (I 1000 (x3 + 4).toNat)]) (rest := []) rc_0_396 rfl rfl rfl (Nat.le_of_ble_eq_true rfl) (g_recv s0_0 rfl) ?_
  refine GO.imp h (fun v I9 h => ?_)
  obtain ⟨y10, rfl, h⟩ := h
  show GO S0 0 399 [vR 1000, vR 0, vR 237, vI x3] [vI y10] I9 K
  refine G_loadR rc_0_399 rfl ?_
  refine G_loadR rc_0_400 rfl ?_
  refine G_loadI rc_0_401 rfl ?_
  refine G_const rc_0_402 (by decide) ?_
  refine G_bop (z := x3 + 1) rc_0_403 (if_pos c1) ?_
  show GO S0 0 404 [vR 1000, vR 0, vR 237, vI x3] [vI (x3 + 1), vR 1000, vR 237, vI y10] I9 K
  obtain ⟨c11, h⟩ := h
  refine G_sld rc_0_404 (by omega) (by omega) ?_
  show GO S0 0 405 [vR 1000, vR 0, vR 237, vI x3] [vI (I9 1000 (x3 + 1).toNat), vR 237, vI y10] I9 K
  refine G_loadR rc_0_405 rfl ?_
  refine G_loadI rc_0_406 rfl ?_
  refine G_const rc_0_407 (by decide) ?_
  refine G_bop (z := x3 + 2) rc_0_408 (if_pos c3) ?_
  show GO S0 0 409 [vR 1000, vR 0, vR 237, vI x3] [vI (x3 + 2), vR 1000, vI (I9 1000 (x3 + 1).toNat), vR 237, vI y10] I9 K
  obtain ⟨c12, h⟩ := h
  refine G_sld rc_0_409 (by omega) (by omega) ?_
  show GO S0 0 410 [vR 1000, vR 0, vR 237, vI x3] [vI (I9 1000 (x3 + 2).toNat), vI (I9 1000 (x3 + 1).toNat), vR 237, vI y10] I9 K
  refine G_loadR rc_0_410 rfl ?_
  refine G_loadI rc_0_411 rfl ?_
  refine G_const rc_0_412 (by decide) ?_
  refine G_bop (z := x3 + 3) rc_0_413 (if_pos c5) ?_
  show GO S0 0 414 [vR 1000, vR 0, vR 237, vI x3] [vI (x3 + 3), vR 1000, vI (I9 1000 (x3 + 2).toNat), vI (I9 1000 (x3 + 1).toNat), vR 237, vI y10] I9 K
  obtain ⟨c13, h⟩ := h
  refine G_sld rc_0_414 (by omega) (by omega) ?_
  show GO S0 0 415 [vR 1000, vR 0, vR 237, vI x3] [vI (I9 1000 (x3 + 3).toNat), vI (I9 1000 (x3 + 2).toNat), vI (I9 1000 (x3 + 1).toNat), vR 237, vI y10] I9 K
  refine G_loadR rc_0_415 rfl ?_
  refine G_loadI rc_0_416 rfl ?_
  refine G_const rc_0_417 (by decide) ?_
  refine G_bop (z := x3 + 4) rc_0_418 (if_pos c7) ?_
  show GO S0 0 419 [vR 1000, vR 0, vR 237, vI x3] [vI (x3 + 4), vR 1000, vI (I9 1000 (x3 + 3).toNat), vI (I9 1000 (x3 + 2).toNat), vI (I9 1000 (x3 + 1).toNat), vR 237, vI y10] I9 K
  obtain ⟨c14, h⟩ := h
  refine G_sld rc_0_419 (by omega) (by omega) ?_
  show GO S0 0 420 [vR 1000, vR 0, vR 237, vI x3] [vI (I9 1000 (x3 + 4).toNat), vI (I9 1000 (x3 + 3).toNat), vI (I9 1000 (x3 + 2).toNat), vI (I9 1000 (x3 + 1).toNat), vR 237, vI y10] I9 K
  refine G_call (as := [vR 237, vI (I9 1000 (x3 + 1).toNat), vI (I9 1000 (x3 + 2).toNat), vI (I9 1000 (x3 + 3).toNat), vI (I9 1000 (x3 + 4).toNat)]) (rest := [vI y10]) rc_0_420 rfl rfl rfl (Nat.le_of_ble_eq_true rfl) (g_recv s0_237 rfl) ?_
  refine GO.imp h (fun v I15 h => ?_)
  obtain ⟨y16, rfl, h⟩ := h
  show GO S0 0 423 [vR 1000, vR 0, vR 237, vI x3] [vI y16, vI y10] I15 K
  refine G_i2 (C := y10 = y16) rc_0_423 rfl (fun c17 => ?_) (fun c17 => ?_)
  · rw [if_pos c17] at h
    show GO S0 0 1720 [vR 1000, vR 0, vR 237, vI x3] [] I15 K
    exact g0_1720 x3 I15 K h
  · rw [if_neg c17] at h
    show GO S0 0 426 [vR 1000, vR 0, vR 237, vI x3] [] I15 K
    refine G_const rc_0_426 (by decide) ?_
    exact G_retI rc_0_427 (Or.inr (by decide)) h
def D0_332 (x3 : Int) (I : IM) (K : Option AV → IM → Prop) : Prop :=
  (inR (x3 + 1)) ∧ (0 ≤ x3 + 1 ∧ x3 + 1 < I 1001 0) ∧ (inR (x3 + 2)) ∧ (0 ≤ x3 + 2 ∧ x3 + 2 < I 1001 0) ∧ (inR (x3 + 3)) ∧ (0 ≤ x3 + 3 ∧ x3 + 3 < I 1001 0) ∧ CALL S0 20 [vR 0, vI (I 1000 (x3 + 1).toNat), vI (I 1000 (x3 + 2).toNat), vI (I 1000 (x3 + 3).toNat)] I (fun v I7 => ∃ y8 : Int, v = some (vI y8) ∧ (0 ≤ x3 + 1 ∧ x3 + 1 < I7 1001 0) ∧ (0 ≤ x3 + 2 ∧ x3 + 2 < I7 1001 0) ∧ (0 ≤ x3 + 3 ∧ x3 + 3 < I7 1001 0) ∧ CALL S0 136 [vR 237, vI (I7 1000 (x3 + 1).toNat), vI (I7 1000 (x3 + 2).toNat), vI (I7 1000 (x3 + 3).toNat)] I7 (fun v I12 => ∃ y13 : Int, v = some (vI y13) ∧ (if y8 = y13 then (D0_1720 x3 I12 K) else (K (some (vI 0)) I12))))
set_option maxRecDepth 10000 in
theorem g0_332 (x3 : Int) (I : IM) (K : Option AV → IM → Prop) (h : D0_332 x3 I K) : GO S0 0 332 [vR 1000, vR 0, vR 237, vI x3] [] I K := by
  unfold D0_332 at h
  refine G_loadR rc_0_332 rfl ?_
  refine G_loadR rc_0_333 rfl ?_
  refine G_loadI rc_0_334 rfl ?_
  refine G_const rc_0_335 (by decide) ?_
  obtain ⟨c1, h⟩ := h
  refine G_bop (z := x3 + 1) rc_0_336 (if_pos c1) ?_
  show GO S0 0 337 [vR 1000, vR 0, vR 237, vI x3] [vI (x3 + 1), vR 1000, vR 0] I K
  obtain ⟨c2, h⟩ := h
  refine G_sld rc_0_337 (by omega) (by omega) ?_
  show GO S0 0 338 [vR 1000, vR 0, vR 237, vI x3] [vI (I 1000 (x3 + 1).toNat), vR 0] I K
  refine G_loadR rc_0_338 rfl ?_
  refine G_loadI rc_0_339 rfl ?_
  refine G_const rc_0_340 (by decide) ?_
  obtain ⟨c3, h⟩ := h
  refine G_bop (z := x3 + 2) rc_0_341 (if_pos c3) ?_
  show GO S0 0 342 [vR 1000, vR 0, vR 237, vI x3] [vI (x3 + 2), vR 1000, vI (I 1000 (x3 + 1).toNat), vR 0] I K
  obtain ⟨c4, h⟩ := h
  refine G_sld rc_0_342 (by omega) (by omega) ?_
  show GO S0 0 343 [vR 1000, vR 0, vR 237, vI x3] [vI (I 1000 (x3 + 2).toNat), vI (I 1000 (x3 + 1).toNat), vR 0] I K
  refine G_loadR rc_0_343 rfl ?_
  refine G_loadI rc_0_344 rfl ?_
  refine G_const rc_0_345 (by decide) ?_
  obtain ⟨c5, h⟩ := h
  refine G_bop (z := x3 + 3) rc_0_346 (if_pos c5) ?_
  show GO S0 0 347 [vR 1000, vR 0, vR 237, vI x3] [vI (x3 + 3), vR 1000, vI (I 1000 (x3 + 2).toNat), vI (I 1000 (x3 + 1).toNat), vR 0] I K
  obtain ⟨c6, h⟩ := h
  refine G_sld rc_0_347 (by omega) (by omega) ?_
  show GO S0 0 348 [vR 1000, vR 0, vR 237, vI x3] [vI (I 1000 (x3 + 3).toNat), vI (I 1000 (x3 + 2).toNat), vI (I 1000 (x3 + 1).toNat), vR 0] I K
  refine G_call (as := [vR 0, vI (I 1000 (x3 + 1).toNat), vI (I 1000 (x3 + 2).toNat), vI (I 1000 (x3 + 3).toNat)]) (rest := []) rc_0_348 rfl rfl rfl (Nat.le_of_ble_eq_true rfl) (g_recv s0_0 rfl) ?_
  refine GO.imp h (fun v I7 h => ?_)
  obtain ⟨y8, rfl, h⟩ := h
  show GO S0 0 351 [vR 1000, vR 0, vR 237, vI x3] [vI y8] I7 K
  refine G_loadR rc_0_351 rfl ?_
  refine G_loadR rc_0_352 rfl ?_
  refine G_loadI rc_0_353 rfl ?_
  refine G_const rc_0_354 (by decide) ?_
  refine G_bop (z := x3 + 1) rc_0_355 (if_pos c1) ?_
  show GO S0 0 356 [vR 1000, vR 0, vR 237, vI x3] [vI (x3 + 1), vR 1000, vR 237, vI y8] I7 K
  obtain ⟨c9, h⟩ := h
  refine G_sld rc_0_356 (by omega) (by omega) ?_
  show GO S0 0 357 [vR 1000, vR 0, vR 237, vI x3] [vI (I7 1000 (x3 + 1).toNat), vR 237, vI y8] I7 K
  refine G_loadR rc_0_357 rfl ?_
  refine G_loadI rc_0_358 rfl ?_
  refine G_const rc_0_359 (by decide) ?_
  refine G_bop (z := x3 + 2) rc_0_360 (if_pos c3) ?_
  show GO S0 0 361 [vR 1000, vR 0, vR 237, vI x3] [vI (x3 + 2), vR 1000, vI (I7 1000 (x3 + 1).toNat), vR 237, vI y8] I7 K
  obtain ⟨c10, h⟩ := h
  refine G_sld rc_0_361 (by omega) (by omega) ?_
  show GO S0 0 362 [vR 1000, vR 0, vR 237, vI x3] [vI (I7 1000 (x3 + 2).toNat), vI (I7 1000 (x3 + 1).toNat), vR 237, vI y8] I7 K
  refine G_loadR rc_0_362 rfl ?_
  refine G_loadI rc_0_363 rfl ?_
  refine G_const rc_0_364 (by decide) ?_
  refine G_bop (z := x3 + 3) rc_0_365 (if_pos c5) ?_
  show GO S0 0 366 [vR 1000, vR 0, vR 237, vI x3] [vI (x3 + 3), vR 1000, vI (I7 1000 (x3 + 2).toNat), vI (I7 1000 (x3 + 1).toNat), vR 237, vI y8] I7 K
  obtain ⟨c11, h⟩ := h
  refine G_sld rc_0_366 (by omega) (by omega) ?_
  show GO S0 0 367 [vR 1000, vR 0, vR 237, vI x3] [vI (I7 1000 (x3 + 3).toNat), vI (I7 1000 (x3 + 2).toNat), vI (I7 1000 (x3 + 1).toNat), vR 237, vI y8] I7 K
  refine G_call (as := [vR 237, vI (I7 1000 (x3 + 1).toNat), vI (I7 1000 (x3 + 2).toNat), vI (I7 1000 (x3 + 3).toNat)]) (rest := [vI y8]) rc_0_367 rfl rfl rfl (Nat.le_of_ble_eq_true rfl) (g_recv s0_237 rfl) ?_
  refine GO.imp h (fun v I12 h => ?_)
  obtain ⟨y13, rfl, h⟩ := h
  show GO S0 0 370 [vR 1000, vR 0, vR 237, vI x3] [vI y13, vI y8] I12 K
  refine G_i2 (C := y8 = y13) rc_0_370 rfl (fun c14 => ?_) (fun c14 => ?_)
  · rw [if_pos c14] at h
    show GO S0 0 1720 [vR 1000, vR 0, vR 237, vI x3] [] I12 K
    exact g0_1720 x3 I12 K h
  · rw [if_neg c14] at h
    show GO S0 0 373 [vR 1000, vR 0, vR 237, vI x3] [] I12 K
    refine G_const rc_0_373 (by decide) ?_
    exact G_retI rc_0_374 (Or.inr (by decide)) h
def D0_269 (x3 : Int) (I : IM) (K : Option AV → IM → Prop) : Prop :=
  (inR (x3 + 1)) ∧ (0 ≤ x3 + 1 ∧ x3 + 1 < I 1001 0) ∧ (inR (x3 + 2)) ∧ (0 ≤ x3 + 2 ∧ x3 + 2 < I 1001 0) ∧ (inR (x3 + 3)) ∧ (0 ≤ x3 + 3 ∧ x3 + 3 < I 1001 0) ∧ (inR (x3 + 4)) ∧ (0 ≤ x3 + 4 ∧ x3 + 4 < I 1001 0) ∧ (inR (x3 + 5)) ∧ (0 ≤ x3 + 5 ∧ x3 + 5 < I 1001 0) ∧ CALL S0 18 [vR 0, vI (I 1000 (x3 + 1).toNat), vI (I 1000 (x3 + 2).toNat), vI (I 1000 (x3 + 3).toNat), vI (I 1000 (x3 + 4).toNat), vI (I 1000 (x3 + 5).toNat)] I (fun v I11 => ∃ y12 : Int, v = some (vI y12) ∧ (0 ≤ x3 + 1 ∧ x3 + 1 < I11 1001 0) ∧ (0 ≤ x3 + 2 ∧ x3 + 2 < I11 1001 0) ∧ (0 ≤ x3 + 3 ∧ x3 + 3 < I11 1001 0) ∧ (0 ≤ x3 + 4 ∧ x3 + 4 < I11 1001 0) ∧ (0 ≤ x3 + 5 ∧ x3 + 5 < I11 1001 0) ∧ CALL S0 134 [vR 237, vI (I11 1000 (x3 + 1).toNat), vI (I11 1000 (x3 + 2).toNat), vI (I11 1000 (x3 + 3).toNat), vI (I11 1000 (x3 + 4).toNat), vI (I11 1000 (x3 + 5).toNat)] I11 (fun v I18 => ∃ y19 : Int, v = some (vI y19) ∧ (if y12 = y19 then (D0_1720 x3 I18 K) else (K (some (vI 0)) I18))))
set_option maxRecDepth 10000 in
theorem g0_269 (x3 : Int) (I : IM) (K : Option AV → IM → Prop) (h : D0_269 x3 I K) : GO S0 0 269 [vR 1000, vR 0, vR 237, vI x3] [] I K := by
  unfold D0_269 at h
  refine G_loadR rc_0_269 rfl ?_
  refine G_loadR rc_0_270 rfl ?_
  refine G_loadI rc_0_271 rfl ?_
  refine G_const rc_0_272 (by decide) ?_
  obtain ⟨c1, h⟩ := h
  refine G_bop (z := x3 + 1) rc_0_273 (if_pos c1) ?_
  show GO S0 0 274 [vR 1000, vR 0, vR 237, vI x3] [vI (x3 + 1), vR 1000, vR 0] I K
  obtain ⟨c2, h⟩ := h
  refine G_sld rc_0_274 (by omega) (by omega) ?_
  show GO S0 0 275 [vR 1000, vR 0, vR 237, vI x3] [vI (I 1000 (x3 + 1).toNat), vR 0] I K
  refine G_loadR rc_0_275 rfl ?_
  refine G_loadI rc_0_276 rfl ?_
  refine G_const rc_0_277 (by decide) ?_
  obtain ⟨c3, h⟩ := h
  refine G_bop (z := x3 + 2) rc_0_278 (if_pos c3) ?_
  show GO S0 0 279 [vR 1000, vR 0, vR 237, vI x3] [vI (x3 + 2), vR 1000, vI (I 1000 (x3 + 1).toNat), vR 0] I K
  obtain ⟨c4, h⟩ := h
  refine G_sld rc_0_279 (by omega) (by omega) ?_
  show GO S0 0 280 [vR 1000, vR 0, vR 237, vI x3] [vI (I 1000 (x3 + 2).toNat), vI (I 1000 (x3 + 1).toNat), vR 0] I K
  refine G_loadR rc_0_280 rfl ?_
  refine G_loadI rc_0_281 rfl ?_
  refine G_const rc_0_282 (by decide) ?_
  obtain ⟨c5, h⟩ := h
  refine G_bop (z := x3 + 3) rc_0_283 (if_pos c5) ?_
  show GO S0 0 284 [vR 1000, vR 0, vR 237, vI x3] [vI (x3 + 3), vR 1000, vI (I 1000 (x3 + 2).toNat), vI (I 1000 (x3 + 1).toNat), vR 0] I K
  obtain ⟨c6, h⟩ := h
  refine G_sld rc_0_284 (by omega) (by omega) ?_
  show GO S0 0 285 [vR 1000, vR 0, vR 237, vI x3] [vI (I 1000 (x3 + 3).toNat), vI (I 1000 (x3 + 2).toNat), vI (I 1000 (x3 + 1).toNat), vR 0] I K
  refine G_loadR rc_0_285 rfl ?_
  refine G_loadI rc_0_286 rfl ?_
  refine G_const rc_0_287 (by decide) ?_
  obtain ⟨c7, h⟩ := h
  refine G_bop (z := x3 + 4) rc_0_288 (if_pos c7) ?_
  show GO S0 0 289 [vR 1000, vR 0, vR 237, vI x3] [vI (x3 + 4), vR 1000, vI (I 1000 (x3 + 3).toNat), vI (I 1000 (x3 + 2).toNat), vI (I 1000 (x3 + 1).toNat), vR 0] I K
  obtain ⟨c8, h⟩ := h
  refine G_sld rc_0_289 (by omega) (by omega) ?_
  show GO S0 0 290 [vR 1000, vR 0, vR 237, vI x3] [vI (I 1000 (x3 + 4).toNat), vI (I 1000 (x3 + 3).toNat), vI (I 1000 (x3 + 2).toNat), vI (I 1000 (x3 + 1).toNat), vR 0] I K
  refine G_loadR rc_0_290 rfl ?_
  refine G_loadI rc_0_291 rfl ?_
  refine G_const rc_0_292 (by decide) ?_
  obtain ⟨c9, h⟩ := h
  refine G_bop (z := x3 + 5) rc_0_293 (if_pos c9) ?_
  show GO S0 0 294 [vR 1000, vR 0, vR 237, vI x3] [vI (x3 + 5), vR 1000, vI (I 1000 (x3 + 4).toNat), vI (I 1000 (x3 + 3).toNat), vI (I 1000 (x3 + 2).toNat), vI (I 1000 (x3 + 1).toNat), vR 0] I K
  obtain ⟨c10, h⟩ := h
  refine G_sld rc_0_294 (by omega) (by omega) ?_
  show GO S0 0 295 [vR 1000, vR 0, vR 237, vI x3] [vI (I 1000 (x3 + 5).toNat), vI (I 1000 (x3 + 4).toNat), vI (I 1000 (x3 + 3).toNat), vI (I 1000 (x3 + 2).toNat), vI (I 1000 (x3 + 1).toNat), vR 0] I K
  refine G_call (as := [vR 0, vI (I 1000 (x3 + 1).toNat), vI (I 1000 (x3 + 2).toNat), vI (I 1000 (x3 + 3).toNat), vI (I 1000 (x3 + 4).toNat), vI (I 1000 (x3 + 5).toNat)]) (rest := []) rc_0_295 rfl rfl rfl (Nat.le_of_ble_eq_true rfl) (g_recv s0_0 rfl) ?_
  refine GO.imp h (fun v I11 h => ?_)
  obtain ⟨y12, rfl, h⟩ := h
  show GO S0 0 298 [vR 1000, vR 0, vR 237, vI x3] [vI y12] I11 K
  refine G_loadR rc_0_298 rfl ?_
  refine G_loadR rc_0_299 rfl ?_
  refine G_loadI rc_0_300 rfl ?_
  refine G_const rc_0_301 (by decide) ?_
  refine G_bop (z := x3 + 1) rc_0_302 (if_pos c1) ?_
  show GO S0 0 303 [vR 1000, vR 0, vR 237, vI x3] [vI (x3 + 1), vR 1000, vR 237, vI y12] I11 K
  obtain ⟨c13, h⟩ := h
  refine G_sld rc_0_303 (by omega) (by omega) ?_
  show GO S0 0 304 [vR 1000, vR 0, vR 237, vI x3] [vI (I11 1000 (x3 + 1).toNat), vR 237, vI y12] I11 K
  refine G_loadR rc_0_304 rfl ?_
  refine G_loadI rc_0_305 rfl ?_
  refine G_const rc_0_306 (by decide) ?_
  refine G_bop (z := x3 + 2) rc_0_307 (if_pos c3) ?_
  show GO S0 0 308 [vR 1000, vR 0, vR 237, vI x3] [vI (x3 + 2), vR 1000, vI (I11 1000 (x3 + 1).toNat), vR 237, vI y12] I11 K
  obtain ⟨c14, h⟩ := h
  refine G_sld rc_0_308 (by omega) (by omega) ?_
  show GO S0 0 309 [vR 1000, vR 0, vR 237, vI x3] [vI (I11 1000 (x3 + 2).toNat), vI (I11 1000 (x3 + 1).toNat), vR 237, vI y12] I11 K
  refine G_loadR rc_0_309 rfl ?_
  refine G_loadI rc_0_310 rfl ?_
  refine G_const rc_0_311 (by decide) ?_
  refine G_bop (z := x3 + 3) rc_0_312 (if_pos c5) ?_
  show GO S0 0 313 [vR 1000, vR 0, vR 237, vI x3] [vI (x3 + 3), vR 1000, vI (I11 1000 (x3 + 2).toNat), vI (I11 1000 (x3 + 1).toNat), vR 237, vI y12] I11 K
  obtain ⟨c15, h⟩ := h
  refine G_sld rc_0_313 (by omega) (by omega) ?_
  show GO S0 0 314 [vR 1000, vR 0, vR 237, vI x3] [vI (I11 1000 (x3 + 3).toNat), vI (I11 1000 (x3 + 2).toNat), vI (I11 1000 (x3 + 1).toNat), vR 237, vI y12] I11 K
  refine G_loadR rc_0_314 rfl ?_
  refine G_loadI rc_0_315 rfl ?_
  refine G_const rc_0_316 (by decide) ?_
  refine G_bop (z := x3 + 4) rc_0_317 (if_pos c7) ?_
  show GO S0 0 318 [vR 1000, vR 0, vR 237, vI x3] [vI (x3 + 4), vR 1000, vI (I11 1000 (x3 + 3).toNat), vI (I11 1000 (x3 + 2).toNat), vI (I11 1000 (x3 + 1).toNat), vR 237, vI y12] I11 K
  obtain ⟨c16, h⟩ := h
  refine G_sld rc_0_318 (by omega) (by omega) ?_
  show GO S0 0 319 [vR 1000, vR 0, vR 237, vI x3] [vI (I11 1000 (x3 + 4).toNat), vI (I11 1000 (x3 + 3).toNat), vI (I11 1000 (x3 + 2).toNat), vI (I11 1000 (x3 + 1).toNat), vR 237, vI y12] I11 K
  refine G_loadR rc_0_319 rfl ?_
  refine G_loadI rc_0_320 rfl ?_
  refine G_const rc_0_321 (by decide) ?_
  refine G_bop (z := x3 + 5) rc_0_322 (if_pos c9) ?_
  show GO S0 0 323 [vR 1000, vR 0, vR 237, vI x3] [vI (x3 + 5), vR 1000, vI (I11 1000 (x3 + 4).toNat), vI (I11 1000 (x3 + 3).toNat), vI (I11 1000 (x3 + 2).toNat), vI (I11 1000 (x3 + 1).toNat), vR 237, vI y12] I11 K
  obtain ⟨c17, h⟩ := h
  refine G_sld rc_0_323 (by omega) (by omega) ?_
  show GO S0 0 324 [vR 1000, vR 0, vR 237, vI x3] [vI (I11 1000 (x3 + 5).toNat), vI (I11 1000 (x3 + 4).toNat), vI (I11 1000 (x3 + 3).toNat), vI (I11 1000 (x3 + 2).toNat), vI (I11 1000 (x3 + 1).toNat), vR 237, vI y12] I11 K
  refine G_call (as := [vR 237, vI (I11 1000 (x3 + 1).toNat), vI (I11 1000 (x3 + 2).toNat), vI (I11 1000 (x3 + 3).toNat), vI (I11 1000 (x3 + 4).toNat), vI (I11 1000 (x3 + 5).toNat)]) (rest := [vI y12]) rc_0_324 rfl rfl rfl (Nat.le_of_ble_eq_true rfl) (g_recv s0_237 rfl) ?_
  refine GO.imp h (fun v I18 h => ?_)
  obtain ⟨y19, rfl, h⟩ := h
  show GO S0 0 327 [vR 1000, vR 0, vR 237, vI x3] [vI y19, vI y12] I18 K
  refine G_i2 (C := y12 = y19) rc_0_327 rfl (fun c20 => ?_) (fun c20 => ?_)
  · rw [if_pos c20] at h
    show GO S0 0 1720 [vR 1000, vR 0, vR 237, vI x3] [] I18 K
    exact g0_1720 x3 I18 K h
  · rw [if_neg c20] at h
    show GO S0 0 330 [vR 1000, vR 0, vR 237, vI x3] [] I18 K
    refine G_const rc_0_330 (by decide) ?_
    exact G_retI rc_0_331 (Or.inr (by decide)) h
def D0_236 (x3 : Int) (I : IM) (K : Option AV → IM → Prop) : Prop :=
  (inR (x3 + 1)) ∧ (0 ≤ x3 + 1 ∧ x3 + 1 < I 1001 0) ∧ (inR (x3 + 2)) ∧ (0 ≤ x3 + 2 ∧ x3 + 2 < I 1001 0) ∧ CALL S0 13 [vR 0, vI (I 1000 (x3 + 1).toNat), vI (I 1000 (x3 + 2).toNat)] I (fun v I5 => ∃ y6 : Int, v = some (vI y6) ∧ (0 ≤ x3 + 1 ∧ x3 + 1 < I5 1001 0) ∧ (0 ≤ x3 + 2 ∧ x3 + 2 < I5 1001 0) ∧ CALL S0 129 [vR 237, vI (I5 1000 (x3 + 1).toNat), vI (I5 1000 (x3 + 2).toNat)] I5 (fun v I9 => ∃ y10 : Int, v = some (vI y10) ∧ (if y6 = y10 then (D0_1720 x3 I9 K) else (K (some (vI 0)) I9))))
set_option maxRecDepth 10000 in
theorem g0_236 (x3 : Int) (I : IM) (K : Option AV → IM → Prop) (h : D0_236 x3 I K) : GO S0 0 236 [vR 1000, vR 0, vR 237, vI x3] [] I K := by
  unfold D0_236 at h
  refine G_loadR rc_0_236 rfl ?_
  refine G_loadR rc_0_237 rfl ?_
  refine G_loadI rc_0_238 rfl ?_
  refine G_const rc_0_239 (by decide) ?_
  obtain ⟨c1, h⟩ := h
  refine G_bop (z := x3 + 1) rc_0_240 (if_pos c1) ?_
  show GO S0 0 241 [vR 1000, vR 0, vR 237, vI x3] [vI (x3 + 1), vR 1000, vR 0] I K
  obtain ⟨c2, h⟩ := h
  refine G_sld rc_0_241 (by omega) (by omega) ?_
  show GO S0 0 242 [vR 1000, vR 0, vR 237, vI x3] [vI (I 1000 (x3 + 1).toNat), vR 0] I K
  refine G_loadR rc_0_242 rfl ?_
  refine G_loadI rc_0_243 rfl ?_
  refine G_const rc_0_244 (by decide) ?_
  obtain ⟨c3, h⟩ := h
  refine G_bop (z := x3 + 2) rc_0_245 (if_pos c3) ?_
  show GO S0 0 246 [vR 1000, vR 0, vR 237, vI x3] [vI (x3 + 2), vR 1000, vI (I 1000 (x3 + 1).toNat), vR 0] I K
  obtain ⟨c4, h⟩ := h
  refine G_sld rc_0_246 (by omega) (by omega) ?_
  show GO S0 0 247 [vR 1000, vR 0, vR 237, vI x3] [vI (I 1000 (x3 + 2).toNat), vI (I 1000 (x3 + 1).toNat), vR 0] I K
  refine G_call (as := [vR 0, vI (I 1000 (x3 + 1).toNat), vI (I 1000 (x3 + 2).toNat)]) (rest := []) rc_0_247 rfl rfl rfl (Nat.le_of_ble_eq_true rfl) (g_recv s0_0 rfl) ?_
  refine GO.imp h (fun v I5 h => ?_)
  obtain ⟨y6, rfl, h⟩ := h
  show GO S0 0 250 [vR 1000, vR 0, vR 237, vI x3] [vI y6] I5 K
  refine G_loadR rc_0_250 rfl ?_
  refine G_loadR rc_0_251 rfl ?_
  refine G_loadI rc_0_252 rfl ?_
  refine G_const rc_0_253 (by decide) ?_
  refine G_bop (z := x3 + 1) rc_0_254 (if_pos c1) ?_
  show GO S0 0 255 [vR 1000, vR 0, vR 237, vI x3] [vI (x3 + 1), vR 1000, vR 237, vI y6] I5 K
  obtain ⟨c7, h⟩ := h
  refine G_sld rc_0_255 (by omega) (by omega) ?_
  show GO S0 0 256 [vR 1000, vR 0, vR 237, vI x3] [vI (I5 1000 (x3 + 1).toNat), vR 237, vI y6] I5 K
  refine G_loadR rc_0_256 rfl ?_
  refine G_loadI rc_0_257 rfl ?_
  refine G_const rc_0_258 (by decide) ?_
  refine G_bop (z := x3 + 2) rc_0_259 (if_pos c3) ?_
  show GO S0 0 260 [vR 1000, vR 0, vR 237, vI x3] [vI (x3 + 2), vR 1000, vI (I5 1000 (x3 + 1).toNat), vR 237, vI y6] I5 K
  obtain ⟨c8, h⟩ := h
  refine G_sld rc_0_260 (by omega) (by omega) ?_
  show GO S0 0 261 [vR 1000, vR 0, vR 237, vI x3] [vI (I5 1000 (x3 + 2).toNat), vI (I5 1000 (x3 + 1).toNat), vR 237, vI y6] I5 K
  refine G_call (as := [vR 237, vI (I5 1000 (x3 + 1).toNat), vI (I5 1000 (x3 + 2).toNat)]) (rest := [vI y6]) rc_0_261 rfl rfl rfl (Nat.le_of_ble_eq_true rfl) (g_recv s0_237 rfl) ?_
  refine GO.imp h (fun v I9 h => ?_)
  obtain ⟨y10, rfl, h⟩ := h
  show GO S0 0 264 [vR 1000, vR 0, vR 237, vI x3] [vI y10, vI y6] I9 K
  refine G_i2 (C := y6 = y10) rc_0_264 rfl (fun c11 => ?_) (fun c11 => ?_)
  · rw [if_pos c11] at h
    show GO S0 0 1720 [vR 1000, vR 0, vR 237, vI x3] [] I9 K
    exact g0_1720 x3 I9 K h
  · rw [if_neg c11] at h
    show GO S0 0 267 [vR 1000, vR 0, vR 237, vI x3] [] I9 K
    refine G_const rc_0_267 (by decide) ?_
    exact G_retI rc_0_268 (Or.inr (by decide)) h
def D0_18 (x3 : Int) (I : IM) (K : Option AV → IM → Prop) : Prop :=
  (inR ((I 1001 0) - 6)) ∧ (if (I 1001 0) - 6 < x3 then (K (some (vI 1)) I) else ((0 ≤ x3 ∧ x3 < I 1001 0) ∧ (if iandF (I 1000 (x3).toNat) 63 = 0 then (D0_236 x3 I K) else (if iandF (I 1000 (x3).toNat) 63 = 1 then (D0_269 x3 I K) else (if iandF (I 1000 (x3).toNat) 63 = 2 then (D0_332 x3 I K) else (if iandF (I 1000 (x3).toNat) 63 = 3 then (D0_375 x3 I K) else (if iandF (I 1000 (x3).toNat) 63 = 4 then (D0_428 x3 I K) else (if iandF (I 1000 (x3).toNat) 63 = 5 then (D0_461 x3 I K) else (if iandF (I 1000 (x3).toNat) 63 = 6 then (D0_484 x3 I K) else (if iandF (I 1000 (x3).toNat) 63 = 7 then (D0_497 x3 I K) else (if iandF (I 1000 (x3).toNat) 63 = 8 then (D0_510 x3 I K) else (if iandF (I 1000 (x3).toNat) 63 = 9 then (D0_523 x3 I K) else (if iandF (I 1000 (x3).toNat) 63 = 10 then (D0_536 x3 I K) else (if iandF (I 1000 (x3).toNat) 63 = 11 then (D0_559 x3 I K) else (if iandF (I 1000 (x3).toNat) 63 = 12 then (D0_592 x3 I K) else (if iandF (I 1000 (x3).toNat) 63 = 13 then (D0_625 x3 I K) else (if iandF (I 1000 (x3).toNat) 63 = 14 then (D0_648 x3 I K) else (if iandF (I 1000 (x3).toNat) 63 = 15 then (D0_681 x3 I K) else (if iandF (I 1000 (x3).toNat) 63 = 16 then (D0_724 x3 I K) else (if iandF (I 1000 (x3).toNat) 63 = 17 then (D0_757 x3 I K) else (if iandF (I 1000 (x3).toNat) 63 = 18 then (D0_790 x3 I K) else (if iandF (I 1000 (x3).toNat) 63 = 19 then (D0_843 x3 I K) else (if iandF (I 1000 (x3).toNat) 63 = 20 then (D0_876 x3 I K) else (if iandF (I 1000 (x3).toNat) 63 = 21 then (D0_899 x3 I K) else (if iandF (I 1000 (x3).toNat) 63 = 22 then (D0_912 x3 I K) else (if iandF (I 1000 (x3).toNat) 63 = 23 then (D0_955 x3 I K) else (if iandF (I 1000 (x3).toNat) 63 = 24 then (D0_999 x3 I K) else (if iandF (I 1000 (x3).toNat) 63 = 25 then (D0_1022 x3 I K) else (if iandF (I 1000 (x3).toNat) 63 = 26 then (D0_1075 x3 I K) else (if iandF (I 1000 (x3).toNat) 63 = 27 then (D0_1129 x3 I K) else (if iandF (I 1000 (x3).toNat) 63 = 28 then (D0_1182 x3 I K) else (if iandF (I 1000 (x3).toNat) 63 = 29 then (D0_1215 x3 I K) else (if iandF (I 1000 (x3).toNat) 63 = 30 then (D0_1238 x3 I K) else (if iandF (I 1000 (x3).toNat) 63 = 31 then (D0_1261 x3 I K) else (if iandF (I 1000 (x3).toNat) 63 = 32 then (D0_1294 x3 I K) else (if iandF (I 1000 (x3).toNat) 63 = 33 then (D0_1327 x3 I K) else (if iandF (I 1000 (x3).toNat) 63 = 34 then (D0_1360 x3 I K) else (if iandF (I 1000 (x3).toNat) 63 = 35 then (D0_1383 x3 I K) else (if iandF (I 1000 (x3).toNat) 63 = 36 then (D0_1406 x3 I K) else (if iandF (I 1000 (x3).toNat) 63 = 37 then (D0_1439 x3 I K) else (if iandF (I 1000 (x3).toNat) 63 = 38 then (D0_1482 x3 I K) else (if iandF (I 1000 (x3).toNat) 63 = 39 then (D0_1495 x3 I K) else (if iandF (I 1000 (x3).toNat) 63 = 40 then (D0_1518 x3 I K) else (if iandF (I 1000 (x3).toNat) 63 = 41 then (D0_1551 x3 I K) else (if iandF (I 1000 (x3).toNat) 63 = 42 then (D0_1594 x3 I K) else (if iandF (I 1000 (x3).toNat) 63 = 43 then (D0_1628 x3 I K) else (if iandF (I 1000 (x3).toNat) 63 = 44 then (D0_1661 x3 I K) else (if iandF (I 1000 (x3).toNat) 63 = 45 then (D0_1694 x3 I K) else (if iandF (I 1000 (x3).toNat) 63 = 46 then (D0_1707 x3 I K) else (D0_1720 x3 I K))))))))))))))))))))))))))))))))))))))))))))))))))
set_option maxRecDepth 10000 in
theorem g0_18 (x3 : Int) (I : IM) (K : Option AV → IM → Prop) (h : D0_18 x3 I K) : GO S0 0 18 [vR 1000, vR 0, vR 237, vI x3] [] I K := by
  unfold D0_18 at h
  refine G_loadI rc_0_18 rfl ?_
  refine G_loadR rc_0_19 rfl ?_
  refine G_slen rc_0_20 ?_
  show GO S0 0 21 [vR 1000, vR 0, vR 237, vI x3] [vI (I 1001 0), vI x3] I K
  refine G_const rc_0_21 (by decide) ?_
  obtain ⟨c1, h⟩ := h
  refine G_bop (z := (I 1001 0) - 6) rc_0_23 (if_pos c1) ?_
  show GO S0 0 24 [vR 1000, vR 0, vR 237, vI x3] [vI ((I 1001 0) - 6), vI x3] I K
  refine G_i2 (C := (I 1001 0) - 6 < x3) rc_0_24 rfl (fun c2 => ?_) (fun c2 => ?_)
  · rw [if_pos c2] at h
    show GO S0 0 1726 [vR 1000, vR 0, vR 237, vI x3] [] I K
    refine G_const rc_0_1726 (by decide) ?_
    exact G_retI rc_0_1727 (Or.inr (by decide)) h
  · rw [if_neg c2] at h
    show GO S0 0 27 [vR 1000, vR 0, vR 237, vI x3] [] I K
    refine G_loadR rc_0_27 rfl ?_
    refine G_loadI rc_0_28 rfl ?_
    obtain ⟨c3, h⟩ := h
    refine G_sld rc_0_29 (by omega) (by omega) ?_
    show GO S0 0 30 [vR 1000, vR 0, vR 237, vI x3] [vI (I 1000 (x3).toNat)] I K
    refine G_const rc_0_30 (by decide) ?_
    refine G_bop (z := iandF (I 1000 (x3).toNat) 63) rc_0_32 rfl ?_
    show GO S0 0 33 [vR 1000, vR 0, vR 237, vI x3] [vI (iandF (I 1000 (x3).toNat) 63)] I K
    refine G_switch rc_0_33 ?_
    show GO S0 0 (if iandF (I 1000 (x3).toNat) 63 = 0 then 236 else if iandF (I 1000 (x3).toNat) 63 = 1 then 269 else if iandF (I 1000 (x3).toNat) 63 = 2 then 332 else if iandF (I 1000 (x3).toNat) 63 = 3 then 375 else if iandF (I 1000 (x3).toNat) 63 = 4 then 428 else if iandF (I 1000 (x3).toNat) 63 = 5 then 461 else if iandF (I 1000 (x3).toNat) 63 = 6 then 484 else if iandF (I 1000 (x3).toNat) 63 = 7 then 497 else if iandF (I 1000 (x3).toNat) 63 = 8 then 510 else if iandF (I 1000 (x3).toNat) 63 = 9 then 523 else if iandF (I 1000 (x3).toNat) 63 = 10 then 536 else if iandF (I 1000 (x3).toNat) 63 = 11 then 559 else if iandF (I 1000 (x3).toNat) 63 = 12 then 592 else if iandF (I 1000 (x3).toNat) 63 = 13 then 625 else if iandF (I 1000 (x3).toNat) 63 = 14 then 648 else if iandF (I 1000 (x3).toNat) 63 = 15 then 681 else if iandF (I 1000 (x3).toNat) 63 = 16 then 724 else if iandF (I 1000 (x3).toNat) 63 = 17 then 757 else if iandF (I 1000 (x3).toNat) 63 = 18 then 790 else if iandF (I 1000 (x3).toNat) 63 = 19 then 843 else if iandF (I 1000 (x3).toNat) 63 = 20 then 876 else if iandF (I 1000 (x3).toNat) 63 = 21 then 899 else if iandF (I 1000 (x3).toNat) 63 = 22 then 912 else if iandF (I 1000 (x3).toNat) 63 = 23 then 955 else if iandF (I 1000 (x3).toNat) 63 = 24 then 999 else if iandF (I 1000 (x3).toNat) 63 = 25 then 1022 else if iandF (I 1000 (x3).toNat) 63 = 26 then 1075 else if iandF (I 1000 (x3).toNat) 63 = 27 then 1129 else if iandF (I 1000 (x3).toNat) 63 = 28 then 1182 else if iandF (I 1000 (x3).toNat) 63 = 29 then 1215 else if iandF (I 1000 (x3).toNat) 63 = 30 then 1238 else if iandF (I 1000 (x3).toNat) 63 = 31 then 1261 else if iandF (I 1000 (x3).toNat) 63 = 32 then 1294 else if iandF (I 1000 (x3).toNat) 63 = 33 then 1327 else if iandF (I 1000 (x3).toNat) 63 = 34 then 1360 else if iandF (I 1000 (x3).toNat) 63 = 35 then 1383 else if iandF (I 1000 (x3).toNat) 63 = 36 then 1406 else if iandF (I 1000 (x3).toNat) 63 = 37 then 1439 else if iandF (I 1000 (x3).toNat) 63 = 38 then 1482 else if iandF (I 1000 (x3).toNat) 63 = 39 then 1495 else if iandF (I 1000 (x3).toNat) 63 = 40 then 1518 else if iandF (I 1000 (x3).toNat) 63 = 41 then 1551 else if iandF (I 1000 (x3).toNat) 63 = 42 then 1594 else if iandF (I 1000 (x3).toNat) 63 = 43 then 1628 else if iandF (I 1000 (x3).toNat) 63 = 44 then 1661 else if iandF (I 1000 (x3).toNat) 63 = 45 then 1694 else if iandF (I 1000 (x3).toNat) 63 = 46 then 1707 else 1720) [vR 1000, vR 0, vR 237, vI x3] [] I K
    by_cases c4 : iandF (I 1000 (x3).toNat) 63 = 0
    · rw [if_pos c4] at h
      rw [if_pos c4]
      show GO S0 0 236 [vR 1000, vR 0, vR 237, vI x3] [] I K
      exact g0_236 x3 I K h
    · rw [if_neg c4] at h
      rw [if_neg c4]
      by_cases c5 : iandF (I 1000 (x3).toNat) 63 = 1
      · rw [if_pos c5] at h
        rw [if_pos c5]
        show GO S0 0 269 [vR 1000, vR 0, vR 237, vI x3] [] I K
        exact g0_269 x3 I K h
      · rw [if_neg c5] at h
        rw [if_neg c5]
        by_cases c6 : iandF (I 1000 (x3).toNat) 63 = 2
        · rw [if_pos c6] at h
          rw [if_pos c6]
          show GO S0 0 332 [vR 1000, vR 0, vR 237, vI x3] [] I K
          exact g0_332 x3 I K h
        · rw [if_neg c6] at h
          rw [if_neg c6]
          by_cases c7 : iandF (I 1000 (x3).toNat) 63 = 3
          · rw [if_pos c7] at h
            rw [if_pos c7]
            show GO S0 0 375 [vR 1000, vR 0, vR 237, vI x3] [] I K
            exact g0_375 x3 I K h
          · rw [if_neg c7] at h
            rw [if_neg c7]
            by_cases c8 : iandF (I 1000 (x3).toNat) 63 = 4
            · rw [if_pos c8] at h
              rw [if_pos c8]
              show GO S0 0 428 [vR 1000, vR 0, vR 237, vI x3] [] I K
              exact g0_428 x3 I K h
            · rw [if_neg c8] at h
              rw [if_neg c8]
              by_cases c9 : iandF (I 1000 (x3).toNat) 63 = 5
              · rw [if_pos c9] at h
                rw [if_pos c9]
                show GO S0 0 461 [vR 1000, vR 0, vR 237, vI x3] [] I K
                exact g0_461 x3 I K h
              · rw [if_neg c9] at h
                rw [if_neg c9]
                by_cases c10 : iandF (I 1000 (x3).toNat) 63 = 6
                · rw [if_pos c10] at h
                  rw [if_pos c10]
                  show GO S0 0 484 [vR 1000, vR 0, vR 237, vI x3] [] I K
                  exact g0_484 x3 I K h
                · rw [if_neg c10] at h
                  rw [if_neg c10]
                  by_cases c11 : iandF (I 1000 (x3).toNat) 63 = 7
                  · rw [if_pos c11] at h
                    rw [if_pos c11]
                    show GO S0 0 497 [vR 1000, vR 0, vR 237, vI x3] [] I K
                    exact g0_497 x3 I K h
                  · rw [if_neg c11] at h
                    rw [if_neg c11]
                    by_cases c12 : iandF (I 1000 (x3).toNat) 63 = 8
                    · rw [if_pos c12] at h
                      rw [if_pos c12]
                      show GO S0 0 510 [vR 1000, vR 0, vR 237, vI x3] [] I K
                      exact g0_510 x3 I K h
                    · rw [if_neg c12] at h
                      rw [if_neg c12]
                      by_cases c13 : iandF (I 1000 (x3).toNat) 63 = 9
                      · rw [if_pos c13] at h
                        rw [if_pos c13]
                        show GO S0 0 523 [vR 1000, vR 0, vR 237, vI x3] [] I K
                        exact g0_523 x3 I K h
                      · rw [if_neg c13] at h
                        rw [if_neg c13]
                        by_cases c14 : iandF (I 1000 (x3).toNat) 63 = 10
                        · rw [if_pos c14] at h
                          rw [if_pos c14]
                          show GO S0 0 536 [vR 1000, vR 0, vR 237, vI x3] [] I K
                          exact g0_536 x3 I K h
                        · rw [if_neg c14] at h
                          rw [if_neg c14]
                          by_cases c15 : iandF (I 1000 (x3).toNat) 63 = 11
                          · rw [if_pos c15] at h
                            rw [if_pos c15]
                            show GO S0 0 559 [vR 1000, vR 0, vR 237, vI x3] [] I K
                            exact g0_559 x3 I K h
                          · rw [if_neg c15] at h
                            rw [if_neg c15]
                            by_cases c16 : iandF (I 1000 (x3).toNat) 63 = 12
                            · rw [if_pos c16] at h
                              rw [if_pos c16]
                              show GO S0 0 592 [vR 1000, vR 0, vR 237, vI x3] [] I K
                              exact g0_592 x3 I K h
                            · rw [if_neg c16] at h
                              rw [if_neg c16]
                              by_cases c17 : iandF (I 1000 (x3).toNat) 63 = 13
                              · rw [if_pos c17] at h
                                rw [if_pos c17]
                                show GO S0 0 625 [vR 1000, vR 0, vR 237, vI x3] [] I K
                                exact g0_625 x3 I K h
                              · rw [if_neg c17] at h
                                rw [if_neg c17]
                                by_cases c18 : iandF (I 1000 (x3).toNat) 63 = 14
                                · rw [if_pos c18] at h
                                  rw [if_pos c18]
                                  show GO S0 0 648 [vR 1000, vR 0, vR 237, vI x3] [] I K
                                  exact g0_648 x3 I K h
                                · rw [if_neg c18] at h
                                  rw [if_neg c18]
                                  by_cases c19 : iandF (I 1000 (x3).toNat) 63 = 15
                                  · rw [if_pos c19] at h
                                    rw [if_pos c19]
                                    show GO S0 0 681 [vR 1000, vR 0, vR 237, vI x3] [] I K
                                    exact g0_681 x3 I K h
                                  · rw [if_neg c19] at h
                                    rw [if_neg c19]
                                    by_cases c20 : iandF (I 1000 (x3).toNat) 63 = 16
                                    · rw [if_pos c20] at h
                                      rw [if_pos c20]
                                      show GO S0 0 724 [vR 1000, vR 0, vR 237, vI x3] [] I K
                                      exact g0_724 x3 I K h
                                    · rw [if_neg c20] at h
                                      rw [if_neg c20]
                                      by_cases c21 : iandF (I 1000 (x3).toNat) 63 = 17
                                      · rw [if_pos c21] at h
                                        rw [if_pos c21]
                                        show GO S0 0 757 [vR 1000, vR 0, vR 237, vI x3] [] I K
                                        exact g0_757 x3 I K h
                                      · rw [if_neg c21] at h
                                        rw [if_neg c21]
                                        by_cases c22 : iandF (I 1000 (x3).toNat) 63 = 18
                                        · rw [if_pos c22] at h
                                          rw [if_pos c22]
                                          show GO S0 0 790 [vR 1000, vR 0, vR 237, vI x3] [] I K
                                          exact g0_790 x3 I K h
                                        · rw [if_neg c22] at h
                                          rw [if_neg c22]
                                          by_cases c23 : iandF (I 1000 (x3).toNat) 63 = 19
                                          · rw [if_pos c23] at h
                                            rw [if_pos c23]
                                            show GO S0 0 843 [vR 1000, vR 0, vR 237, vI x3] [] I K
                                            exact g0_843 x3 I K h
                                          · rw [if_neg c23] at h
                                            rw [if_neg c23]
                                            by_cases c24 : iandF (I 1000 (x3).toNat) 63 = 20
                                            · rw [if_pos c24] at h
                                              rw [if_pos c24]
                                              show GO S0 0 876 [vR 1000, vR 0, vR 237, vI x3] [] I K
                                              exact g0_876 x3 I K h
                                            · rw [if_neg c24] at h
                                              rw [if_neg c24]
                                              by_cases c25 : iandF (I 1000 (x3).toNat) 63 = 21
                                              · rw [if_pos c25] at h
                                                rw [if_pos c25]
                                                show GO S0 0 899 [vR 1000, vR 0, vR 237, vI x3] [] I K
                                                exact g0_899 x3 I K h
                                              · rw [if_neg c25] at h
                                                rw [if_neg c25]
                                                by_cases c26 : iandF (I 1000 (x3).toNat) 63 = 22
                                                · rw [if_pos c26] at h
                                                  rw [if_pos c26]
                                                  show GO S0 0 912 [vR 1000, vR 0, vR 237, vI x3] [] I K
                                                  exact g0_912 x3 I K h
                                                · rw [if_neg c26] at h
                                                  rw [if_neg c26]
                                                  by_cases c27 : iandF (I 1000 (x3).toNat) 63 = 23
                                                  · rw [if_pos c27] at h
                                                    rw [if_pos c27]
                                                    show GO S0 0 955 [vR 1000, vR 0, vR 237, vI x3] [] I K
                                                    exact g0_955 x3 I K h
                                                  · rw [if_neg c27] at h
                                                    rw [if_neg c27]
                                                    by_cases c28 : iandF (I 1000 (x3).toNat) 63 = 24
                                                    · rw [if_pos c28] at h
                                                      rw [if_pos c28]
                                                      show GO S0 0 999 [vR 1000, vR 0, vR 237, vI x3] [] I K
                                                      exact g0_999 x3 I K h
                                                    · rw [if_neg c28] at h
                                                      rw [if_neg c28]
                                                      by_cases c29 : iandF (I 1000 (x3).toNat) 63 = 25
                                                      · rw [if_pos c29] at h
                                                        rw [if_pos c29]
                                                        show GO S0 0 1022 [vR 1000, vR 0, vR 237, vI x3] [] I K
                                                        exact g0_1022 x3 I K h
                                                      · rw [if_neg c29] at h
                                                        rw [if_neg c29]
                                                        by_cases c30 : iandF (I 1000 (x3).toNat) 63 = 26
                                                        · rw [if_pos c30] at h
                                                          rw [if_pos c30]
                                                          show GO S0 0 1075 [vR 1000, vR 0, vR 237, vI x3] [] I K
                                                          exact g0_1075 x3 I K h
                                                        · rw [if_neg c30] at h
                                                          rw [if_neg c30]
                                                          by_cases c31 : iandF (I 1000 (x3).toNat) 63 = 27
                                                          · rw [if_pos c31] at h
                                                            rw [if_pos c31]
                                                            show GO S0 0 1129 [vR 1000, vR 0, vR 237, vI x3] [] I K
                                                            exact g0_1129 x3 I K h
                                                          · rw [if_neg c31] at h
                                                            rw [if_neg c31]
                                                            by_cases c32 : iandF (I 1000 (x3).toNat) 63 = 28
                                                            · rw [if_pos c32] at h
                                                              rw [if_pos c32]
                                                              show GO S0 0 1182 [vR 1000, vR 0, vR 237, vI x3] [] I K
                                                              exact g0_1182 x3 I K h
                                                            · rw [if_neg c32] at h
                                                              rw [if_neg c32]
                                                              by_cases c33 : iandF (I 1000 (x3).toNat) 63 = 29
                                                              · rw [if_pos c33] at h
                                                                rw [if_pos c33]
                                                                show GO S0 0 1215 [vR 1000, vR 0, vR 237, vI x3] [] I K
                                                                exact g0_1215 x3 I K h
                                                              · rw [if_neg c33] at h
                                                                rw [if_neg c33]
                                                                by_cases c34 : iandF (I 1000 (x3).toNat) 63 = 30
                                                                · rw [if_pos c34] at h
                                                                  rw [if_pos c34]
                                                                  show GO S0 0 1238 [vR 1000, vR 0, vR 237, vI x3] [] I K
                                                                  exact g0_1238 x3 I K h
                                                                · rw [if_neg c34] at h
                                                                  rw [if_neg c34]
                                                                  by_cases c35 : iandF (I 1000 (x3).toNat) 63 = 31
                                                                  · rw [if_pos c35] at h
                                                                    rw [if_pos c35]
                                                                    show GO S0 0 1261 [vR 1000, vR 0, vR 237, vI x3] [] I K
                                                                    exact g0_1261 x3 I K h
                                                                  · rw [if_neg c35] at h
                                                                    rw [if_neg c35]
                                                                    by_cases c36 : iandF (I 1000 (x3).toNat) 63 = 32
                                                                    · rw [if_pos c36] at h
                                                                      rw [if_pos c36]
                                                                      show GO S0 0 1294 [vR 1000, vR 0, vR 237, vI x3] [] I K
                                                                      exact g0_1294 x3 I K h
                                                                    · rw [if_neg c36] at h
                                                                      rw [if_neg c36]
                                                                      by_cases c37 : iandF (I 1000 (x3).toNat) 63 = 33
                                                                      · rw [if_pos c37] at h
                                                                        rw [if_pos c37]
                                                                        show GO S0 0 1327 [vR 1000, vR 0, vR 237, vI x3] [] I K
                                                                        exact g0_1327 x3 I K h
                                                                      · rw [if_neg c37] at h
                                                                        rw [if_neg c37]
                                                                        by_cases c38 : iandF (I 1000 (x3).toNat) 63 = 34
                                                                        · rw [if_pos c38] at h
                                                                          rw [if_pos c38]
                                                                          show GO S0 0 1360 [vR 1000, vR 0, vR 237, vI x3] [] I K
                                                                          exact g0_1360 x3 I K h
                                                                        · rw [if_neg c38] at h
                                                                          rw [if_neg c38]
                                                                          by_cases c39 : iandF (I 1000 (x3).toNat) 63 = 35
                                                                          · rw [if_pos c39] at h
                                                                            rw [if_pos c39]
                                                                            show GO S0 0 1383 [vR 1000, vR 0, vR 237, vI x3] [] I K
                                                                            exact g0_1383 x3 I K h
                                                                          · rw [if_neg c39] at h
                                                                            rw [if_neg c39]
                                                                            by_cases c40 : iandF (I 1000 (x3).toNat) 63 = 36
                                                                            · rw [if_pos c40] at h
                                                                              rw [if_pos c40]
                                                                              show GO S0 0 1406 [vR 1000, vR 0, vR 237, vI x3] [] I K
                                                                              exact g0_1406 x3 I K h
                                                                            · rw [if_neg c40] at h
                                                                              rw [if_neg c40]
                                                                              by_cases c41 : iandF (I 1000 (x3).toNat) 63 = 37
                                                                              · rw [if_pos c41] at h
                                                                                rw [if_pos c41]
                                                                                show GO S0 0 1439 [vR 1000, vR 0, vR 237, vI x3] [] I K
                                                                                exact g0_1439 x3 I K h
                                                                              · rw [if_neg c41] at h
                                                                                rw [if_neg c41]
                                                                                by_cases c42 : iandF (I 1000 (x3).toNat) 63 = 38
                                                                                · rw [if_pos c42] at h
                                                                                  rw [if_pos c42]
                                                                                  show GO S0 0 1482 [vR 1000, vR 0, vR 237, vI x3] [] I K
                                                                                  exact g0_1482 x3 I K h
                                                                                · rw [if_neg c42] at h
                                                                                  rw [if_neg c42]
                                                                                  by_cases c43 : iandF (I 1000 (x3).toNat) 63 = 39
                                                                                  · rw [if_pos c43] at h
                                                                                    rw [if_pos c43]
                                                                                    show GO S0 0 1495 [vR 1000, vR 0, vR 237, vI x3] [] I K
                                                                                    exact g0_1495 x3 I K h
                                                                                  · rw [if_neg c43] at h
                                                                                    rw [if_neg c43]
                                                                                    by_cases c44 : iandF (I 1000 (x3).toNat) 63 = 40
                                                                                    · rw [if_pos c44] at h
                                                                                      rw [if_pos c44]
                                                                                      show GO S0 0 1518 [vR 1000, vR 0, vR 237, vI x3] [] I K
                                                                                      exact g0_1518 x3 I K h
                                                                                    · rw [if_neg c44] at h
                                                                                      rw [if_neg c44]
                                                                                      by_cases c45 : iandF (I 1000 (x3).toNat) 63 = 41
                                                                                      · rw [if_pos c45] at h
                                                                                        rw [if_pos c45]
                                                                                        show GO S0 0 1551 [vR 1000, vR 0, vR 237, vI x3] [] I K
                                                                                        exact g0_1551 x3 I K h
                                                                                      · rw [if_neg c45] at h
                                                                                        rw [if_neg c45]
                                                                                        by_cases c46 : iandF (I 1000 (x3).toNat) 63 = 42
                                                                                        · rw [if_pos c46] at h
                                                                                          rw [if_pos c46]
                                                                                          show GO S0 0 1594 [vR 1000, vR 0, vR 237, vI x3] [] I K
                                                                                          exact g0_1594 x3 I K h
                                                                                        · rw [if_neg c46] at h
                                                                                          rw [if_neg c46]
                                                                                          by_cases c47 : iandF (I 1000 (x3).toNat) 63 = 43
                                                                                          · rw [if_pos c47] at h
                                                                                            rw [if_pos c47]
                                                                                            show GO S0 0 1628 [vR 1000, vR 0, vR 237, vI x3] [] I K
                                                                                            exact g0_1628 x3 I K h
                                                                                          · rw [if_neg c47] at h
                                                                                            rw [if_neg c47]
                                                                                            by_cases c48 : iandF (I 1000 (x3).toNat) 63 = 44
                                                                                            · rw [if_pos c48] at h
                                                                                              rw [if_pos c48]
                                                                                              show GO S0 0 1661 [vR 1000, vR 0, vR 237, vI x3] [] I K
                                                                                              exact g0_1661 x3 I K h
                                                                                            · rw [if_neg c48] at h
                                                                                              rw [if_neg c48]
                                                                                              by_cases c49 : iandF (I 1000 (x3).toNat) 63 = 45
                                                                                              · rw [if_pos c49] at h
                                                                                                rw [if_pos c49]
                                                                                                show GO S0 0 1694 [vR 1000, vR 0, vR 237, vI x3] [] I K
                                                                                                exact g0_1694 x3 I K h
                                                                                              · rw [if_neg c49] at h
                                                                                                rw [if_neg c49]
                                                                                                by_cases c50 : iandF (I 1000 (x3).toNat) 63 = 46
                                                                                                · rw [if_pos c50] at h
                                                                                                  rw [if_pos c50]
                                                                                                  show GO S0 0 1707 [vR 1000, vR 0, vR 237, vI x3] [] I K
                                                                                                  exact g0_1707 x3 I K h
                                                                                                · rw [if_neg c50] at h
                                                                                                  rw [if_neg c50]
                                                                                                  show GO S0 0 1720 [vR 1000, vR 0, vR 237, vI x3] [] I K
                                                                                                  exact g0_1720 x3 I K h
