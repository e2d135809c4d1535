/-! level 2: class and model call by call: may, gain, move, best, many, descent, again -/
theorem fs_fk {I J : IM} (h : FK I J) : FS I J := fun o k a => by
  unfold SCR at a
  exact h o k (by omega) (by omega)
theorem fs_fy {I J : IM} (h : FY I J) : FS I J := fun o k a => by
  unfold SCR at a
  exact h o k (by omega) (by omega) (by omega) (by omega) (by omega)
theorem fs_fz {I J : IM} (h : FZ I J) : FS I J := fun o k a => by
  unfold SCR at a
  exact h o k (by omega) (by omega) (by omega) (by omega) (by omega)
/-- isMove, weighNow, weigh, as three calls of the class share them -/
theorem c_try {kind a b c : Int} {G : Nat → Int} {R : Nat → List Int} {J : IM} {K : Option AV → IM → Prop} (hG : GR G) (hV : VR G R) (hC : CF G R J) (hm : mvB R kind a b c = 1) (h : ∀ J', FK J J' → (chB R kind a b c = 0 → K (some (vI (-3))) J') ∧ (chB R kind a b c = 1 → maB G R kind a b c = 1 → J' 195 6 = gnF G R kind a b c → TF (mkR R kind a b c) J' → K (some (vI 1)) J') ∧ (chB R kind a b c = 1 → ¬ maB G R kind a b c = 1 → K (some (vI (-7))) J')) : CALL S0 84 [vR 195] J (fun v I4 => v = none ∧ CALL S0 85 [vR 195, vI kind, vI a, vI b, vI c] I4 K) :=
  c_weighNow hG hV hC fun J1 f1 w1 => ⟨rfl, c_wm hG hV (CF_fr hC (fun o k a => f1 o k (by omega) (by omega))) hm w1 fun J2 f2 => h J2 (fun p j a b => by rw [f2 p j a (by omega) (by omega) (by omega), f1 p j a (by omega)])⟩
theorem s_may {x1 x2 x3 x4 : Int} {I : IM} (h : REL I) (h4 : inR x4) : BOTH 81 208 [vI x1, vI x2, vI x3, vI x4] I := by
  have hG := h.1.1
  have hV := rel_VR h
  have hC := rel_CF h
  rcases @mv_01 (LM I 238 114) x1 x2 x3 x4 with mv | mv
  · refine both_q (-1) h (fun K hK => ?_) (fun J f hJ K hK => ?_)
    · refine e81 ?_
      unfold D81_0
      refine c_isMove hC hV.1 h4 ⟨_, rfl, ?_⟩
      rw [mv, if_pos rfl]
      exact hK I FS_refl
    · have mJ : MF (I 238) (LM I 238 114) J := MF_238 (rel_MF h) (fs238 f)
      refine e208 ?_
      unfold D208_0
      refine n_isMove hG hV mJ h4 ⟨_, rfl, ?_⟩
      rw [mv, if_pos rfl]
      exact hK J FS_refl
  · have m01 : maB (I 238) (LM I 238 114) x1 x2 x3 x4 = 0 ∨ maB (I 238) (LM I 238 114) x1 x2 x3 x4 = 1 := ite01
    refine both_q (maB (I 238) (LM I 238 114) x1 x2 x3 x4) h (fun K hK => ?_) (fun J f hJ K hK => ?_)
    · refine e81 ?_
      unfold D81_0
      refine c_isMove hC hV.1 h4 ⟨_, rfl, ?_⟩
      rw [mv, if_neg (by decide)]
      refine c_try hG hV hC mv fun J1 f1 => ⟨fun z => ⟨_, rfl, ?_⟩, fun z ma x6 T => ⟨_, rfl, ?_⟩, fun z ma => ⟨_, rfl, ?_⟩⟩
      · rw [if_neg (by decide)]
        have : maB (I 238) (LM I 238 114) x1 x2 x3 x4 = 0 := m01.elim id (fun y => by have := (if1 y).1; omega)
        rw [this] at hK
        exact hK J1 (fs_fk f1)
      · rw [if_pos rfl]
        rw [ma] at hK
        exact hK J1 (fs_fk f1)
      · rw [if_neg (by decide)]
        rw [m01.elim id (fun y => absurd y ma)] at hK
        exact hK J1 (fs_fk f1)
    · have mJ : MF (I 238) (LM I 238 114) J := MF_238 (rel_MF h) (fs238 f)
      refine e208 ?_
      unfold D208_0
      refine n_isMove hG hV mJ h4 ⟨_, rfl, ?_⟩
      rw [mv, if_neg (by decide)]
      refine n_mayBe hG hV mJ mv fun J1 f1 T1 => ⟨fun ma => ⟨_, rfl, ?_⟩, fun ma => ⟨_, rfl, ?_⟩⟩
      · rw [if_neg (by decide)]
        rw [ma] at hK
        exact hK J1 (fs_fy f1)
      · rw [if_pos rfl]
        rw [m01.elim id (fun y => absurd y ma)] at hK
        exact hK J1 (fs_fy f1)
theorem s_gain {x1 x2 x3 x4 : Int} {I : IM} (h : REL I) (h4 : inR x4) : BOTHL 89 216 [vI x1, vI x2, vI x3, vI x4] I := by
  have hG := h.1.1
  have hV := rel_VR h
  have hC := rel_CF h
  rcases @mv_01 (LM I 238 114) x1 x2 x3 x4 with mv | mv
  · refine both_ql (-9223372036854775808) h (fun K hK => ?_) (fun J f hJ K hK => ?_)
    · refine e89 ?_
      unfold D89_0
      refine c_isMove hC hV.1 h4 ⟨_, rfl, ?_⟩
      rw [mv, if_pos rfl]
      exact hK I FS_refl
    · have mJ : MF (I 238) (LM I 238 114) J := MF_238 (rel_MF h) (fs238 f)
      refine e216 ?_
      unfold D216_0
      refine n_isMove hG hV mJ h4 ⟨_, rfl, ?_⟩
      rw [mv, if_pos rfl]
      exact hK J FS_refl
  · obtain ⟨v0, _⟩ := mk_V0 hG (VR_V0 hV) mv
    by_cases ma : maB (I 238) (LM I 238 114) x1 x2 x3 x4 = 1
    · refine both_ql (gnF (I 238) (LM I 238 114) x1 x2 x3 x4) h (fun K hK => ?_) (fun J f hJ K hK => ?_)
      · refine e89 ?_
        unfold D89_0
        refine c_isMove hC hV.1 h4 ⟨_, rfl, ?_⟩
        rw [mv, if_neg (by decide)]
        refine c_try hG hV hC mv fun J1 f1 => ⟨fun z => by have := (if1 ma).1; omega, fun z _ x6 T => ⟨_, rfl, ?_⟩, fun z ma' => absurd ma ma'⟩
        rw [if_pos rfl, x6]
        exact hK J1 (fs_fk f1)
      · have mJ : MF (I 238) (LM I 238 114) J := MF_238 (rel_MF h) (fs238 f)
        refine e216 ?_
        unfold D216_0
        refine n_isMove hG hV mJ h4 ⟨_, rfl, ?_⟩
        rw [mv, if_neg (by decide)]
        refine n_mayBe hG hV mJ mv fun J1 f1 T1 => ⟨fun _ => ⟨_, rfl, ?_⟩, fun z => absurd ma z⟩
        rw [if_neg (by decide)]
        exact n_gained hG (MF_fz mJ (FZ_fy f1)) hV.1 (VR_R12 hG hV) v0.1 (V0_R12 hG v0) T1 fun J2 f2 _ => ⟨_, rfl, hK J2 (fs_fy (FY_trans f1 f2))⟩
    · refine both_ql (-9223372036854775808) h (fun K hK => ?_) (fun J f hJ K hK => ?_)
      · refine e89 ?_
        unfold D89_0
        refine c_isMove hC hV.1 h4 ⟨_, rfl, ?_⟩
        rw [mv, if_neg (by decide)]
        refine c_try hG hV hC mv fun J1 f1 => ⟨fun z => ⟨_, rfl, ?_⟩, fun z ma' _ _ => absurd ma' ma, fun z _ => ⟨_, rfl, ?_⟩⟩
        · rw [if_neg (by decide)]
          exact hK J1 (fs_fk f1)
        · rw [if_neg (by decide)]
          exact hK J1 (fs_fk f1)
      · have mJ : MF (I 238) (LM I 238 114) J := MF_238 (rel_MF h) (fs238 f)
        refine e216 ?_
        unfold D216_0
        refine n_isMove hG hV mJ h4 ⟨_, rfl, ?_⟩
        rw [mv, if_neg (by decide)]
        refine n_mayBe hG hV mJ mv fun J1 f1 T1 => ⟨fun z => absurd z ma, fun _ => ⟨_, rfl, ?_⟩⟩
        rw [if_pos rfl]
        exact hK J1 (fs_fy f1)
theorem s_move {x1 x2 x3 x4 : Int} {I : IM} (h : REL I) (h4 : inR x4) : BOTH 90 218 [vI x1, vI x2, vI x3, vI x4] I := by
  have hG := h.1.1
  have hV := rel_VR h
  have hC := rel_CF h
  rcases @mv_01 (LM I 238 114) x1 x2 x3 x4 with mv | mv
  · refine both_q (-1) h (fun K hK => ?_) (fun J f hJ K hK => ?_)
    · refine e90 ?_
      unfold D90_0
      refine c_isMove hC hV.1 h4 ⟨_, rfl, ?_⟩
      rw [mv, if_pos rfl]
      exact hK I FS_refl
    · have mJ : MF (I 238) (LM I 238 114) J := MF_238 (rel_MF h) (fs238 f)
      refine e218 ?_
      unfold D218_0
      refine n_isMove hG hV mJ h4 ⟨_, rfl, ?_⟩
      rw [mv, if_pos rfl]
      exact hK J FS_refl
  · have v0 := (mk_V0 hG (VR_V0 hV) mv).1
    have hs := mk_same hG hV mv
    have hg := mk_good hG hV mv
    rcases @ch_01 (LM I 238 114) x1 x2 x3 x4 with ch | ch
    · refine both_q (-3) h (fun K hK => ?_) (fun J f hJ K hK => ?_)
      · refine e90 ?_
        unfold D90_0
        refine c_isMove hC hV.1 h4 ⟨_, rfl, ?_⟩
        rw [mv, if_neg (by decide)]
        refine c_try hG hV hC mv fun J1 f1 => ⟨fun z => ⟨_, rfl, ?_⟩, fun z _ _ _ => by omega, fun z _ => by omega⟩
        rw [if_neg (by decide)]
        exact hK J1 (fs_fk f1)
      · have mJ : MF (I 238) (LM I 238 114) J := MF_238 (rel_MF h) (fs238 f)
        refine e218 ?_
        unfold D218_0
        refine n_isMove hG hV mJ h4 ⟨_, rfl, ?_⟩
        rw [mv, if_neg (by decide)]
        refine n_makes hG hV mJ mv fun J1 f1 T1 => ⟨rfl, ?_⟩
        have M1 := MF_238 mJ (J' := J1) (funext fun j => f1 238 j (by decide) (by decide))
        refine n_isOther M1 T1 (fun z => ⟨_, rfl, ?_⟩) (fun z => absurd (hs.mp ch) z)
        rw [if_pos rfl]
        exact hK J1 (fs_fy (fun p j _ b _ d _ => f1 p j b d))
    · by_cases ma : maB (I 238) (LM I 238 114) x1 x2 x3 x4 = 1
      · have V' := ma_VR hG hV mv ma
        refine both_r 1 (mkR (LM I 238 114) x1 x2 x3 x4) true h V' (fun K hK => ?_) (fun J hJ eJ K hK => ?_)
        · refine e90 ?_
          unfold D90_0
          refine c_isMove hC hV.1 h4 ⟨_, rfl, ?_⟩
          rw [mv, if_neg (by decide)]
          refine c_try hG hV hC mv fun J1 f1 => ⟨fun z => by omega, fun z _ x6 T => ⟨_, rfl, ?_⟩, fun z ma' => absurd ma ma'⟩
          rw [if_pos rfl]
          have C1 := CF_fk hC f1
          refine c_keep (I := I) h rd29 (Or.inl rfl) C1.2.1 (fun w hw => (C1.2.2 w hw).trans (rl_eq h hw).symm) (fun o k a b => f1 o k (by omega) (by omega)) fun J2 f2 ck => ⟨rfl, ?_⟩
          have T2 := TF_fr T (J' := J2) (fun p j a => f2 p j (by omega))
          refine k_copy rd29 rd197 (by decide) T2.1 fun J3 f3 s3 l3 => ⟨rfl, hK J3 ⟨fun o k a1 a2 a3 => ?_, s3, fun v hv => (l3 v hv).trans (T2.2 v hv), ?_⟩⟩
          · unfold SCR at a1
            rw [f3 o k (by omega), f2 o k (by omega), f1 o k (by omega) (by omega)]
          · obtain ⟨n', c', b1, b2, b3, b4, b5, b6, b7, b8⟩ := ck
            exact ⟨n', c', b1, b2, b3, by rw [f3 _ _ (by omega)]; exact b4, by rw [f3 _ _ (by omega)]; exact b5, fun o k d1 d2 d3 => by rw [f3 _ _ (by omega)]; exact b6 o k d1 d2 d3, fun w hw => by rw [f3 _ _ (by omega)]; exact b7 w hw, fun w hw => (LC_cg (f3 _ _ (by omega)) (fun k => f3 _ _ (by omega))).trans (b8 w hw)⟩
        · have mJ : MF (I 238) (LM I 238 114) J := MF_238 (rel_MF h) eJ
          have q := if1 ma
          refine e218 ?_
          unfold D218_0
          refine n_isMove hG hV mJ h4 ⟨_, rfl, ?_⟩
          rw [mv, if_neg (by decide)]
          refine n_makes hG hV mJ mv fun J1 f1 T1 => ⟨rfl, ?_⟩
          have M1 := MF_238 mJ (J' := J1) (funext fun j => f1 238 j (by decide) (by decide))
          refine n_isOther M1 T1 (fun z => by have := hs.mpr z; omega) (fun z => ⟨_, rfl, ?_⟩)
          rw [if_neg (by decide)]
          refine n_isGood hG M1.1 T1.1 (V0_R12 hG v0) T1.2 fun J2 f2 => ⟨fun g => ⟨_, rfl, ?_⟩, fun g => absurd (hg.mpr ⟨gz_1.mp q.2.1, gz_1.mp q.2.2⟩) g⟩
          rw [if_neg (by decide)]
          have F2 : ∀ o k, (o < 237 ∨ (o = 237 ∧ k < 8) ∨ o = 237 ∧ 12 < k ∨ (238 ≤ o ∧ o ≤ 240) ∨ 249 ≤ o ∨ (244 ≤ o ∧ o ≤ 247)) → J2 o k = J o k := fun o k a => by rw [f2 o k (by omega) (by omega), f1 o k (by omega) (by omega)]
          have T2 := TQ_o T1 (J' := J2) (FD_o f2 (by decide) (by decide))
          refine n_marks fun J3 f3 k3 => ⟨rfl, ?_⟩
          have T3 := TQ_o T2 (J' := J3) (funext fun k => f3 242 k (by decide))
          refine n_becomes (G := I 238) (R := mkR (LM I 238 114) x1 x2 x3 x4) (fun k hk => by rw [f3 238 k (by decide), F2 238 k (by omega)]; exact mJ.1 k hk) T3.1 T3.2 fun J4 f4 M4 => ⟨rfl, ?_⟩
          have F4 : ∀ o k, (o < 237 ∨ (o = 237 ∧ k < 8) ∨ o = 237 ∧ 12 < k ∨ (o = 238 ∧ k < 114) ∨ o = 239 ∨ o = 240 ∨ 249 ≤ o ∨ (244 ≤ o ∧ o ≤ 246)) → J4 o k = J o k := fun o k a => by rw [f4 o k (by omega), f3 o k (by omega)]; exact F2 o k (by omega)
          refine n_steps (I := J) (jst h (hJ.1 237 4 (by unfold SCR; omega) (by omega) (by omega))) (F4 237 4 (by omega)) (funext fun k => F4 240 k (by omega)) (fun k hk => by rw [f4 247 k (by omega), k3 k hk]; exact F2 238 _ (by omega)) fun J5 f5 mk => ⟨rfl, hK J5 ⟨fun o k a1 a2 a3 a4 => ?_, ?_, ?_, mk⟩⟩
          · rw [f5 o k a3 a4]
            unfold SCR at a1
            exact F4 o k (by omega)
          · exact (MF_238 M4 (funext fun k => f5 238 k (by decide) (by omega))).2.1
          · exact (MF_238 M4 (funext fun k => f5 238 k (by decide) (by omega))).2.2
      · refine both_q (-7) h (fun K hK => ?_) (fun J f hJ K hK => ?_)
        · refine e90 ?_
          unfold D90_0
          refine c_isMove hC hV.1 h4 ⟨_, rfl, ?_⟩
          rw [mv, if_neg (by decide)]
          refine c_try hG hV hC mv fun J1 f1 => ⟨fun z => by omega, fun z ma' _ _ => absurd ma' ma, fun z _ => ⟨_, rfl, ?_⟩⟩
          rw [if_neg (by decide)]
          exact hK J1 (fs_fk f1)
        · have mJ : MF (I 238) (LM I 238 114) J := MF_238 (rel_MF h) (fs238 f)
          refine e218 ?_
          unfold D218_0
          refine n_isMove hG hV mJ h4 ⟨_, rfl, ?_⟩
          rw [mv, if_neg (by decide)]
          refine n_makes hG hV mJ mv fun J1 f1 T1 => ⟨rfl, ?_⟩
          have M1 := MF_238 mJ (J' := J1) (funext fun j => f1 238 j (by decide) (by decide))
          have F1 : FY J J1 := fun p j _ b _ d _ => f1 p j b d
          refine n_isOther M1 T1 (fun z => by have := hs.mpr z; omega) (fun z => ⟨_, rfl, ?_⟩)
          rw [if_neg (by decide)]
          refine n_isGood hG M1.1 T1.1 (V0_R12 hG v0) T1.2 fun J2 f2 => ⟨fun g => absurd ?_ ma, fun g => ⟨_, rfl, ?_⟩⟩
          · have := hg.mp g
            unfold maB
            rw [if_pos ⟨ch, gz_1.mpr this.1, gz_1.mpr this.2⟩]
          · rw [if_pos rfl]
            exact hK J2 (fs_fy (FY_trans F1 (FY_fd f2)))
theorem s_best {x1 x2 : Int} {I : IM} (h : REL I) : BOTH 91 219 [vI x1, vI x2] I := by
  have hG := h.1.1
  have hV := rel_VR h
  have hC := rel_CF h
  by_cases c0 : 0 ≤ x1 ∧ x1 ≤ 3
  · by_cases c1 : 0 ≤ x2 ∧ x2 ≤ 3
    · have sI := scn_I (kind := x1) hG hV
      refine both_q (if (scn (I 238) (LM I 238 114) x1).2.2.2.2 = 0 then -5 else if x2 = 0 then (scn (I 238) (LM I 238 114) x1).2.1 else if x2 = 1 then (scn (I 238) (LM I 238 114) x1).2.2.1 else if x2 = 2 then (scn (I 238) (LM I 238 114) x1).2.2.2.1 else (scn (I 238) (LM I 238 114) x1).2.2.2.2) h (fun K hK => ?_) (fun J f hJ K hK => ?_)
      · refine e91 ?_
        unfold D91_0
        refine k_within ⟨_, rfl, ?_⟩
        rw [b2i_t c0, if_neg (by decide)]
        refine k_within ⟨_, rfl, ?_⟩
        rw [b2i_t c1, if_neg (by decide)]
        refine c_scan hG hV hC c0 fun J1 f1 s1 _ => ⟨rfl, ?_⟩
        have hh := hK J1 (fs_fk f1)
        rw [s1.2.1]
        by_cases z : (scn (I 238) (LM I 238 114) x1).2.2.2.2 = 0
        · rw [if_pos z] at hh ⊢
          exact hh
        · rw [if_neg z] at hh ⊢
          have sx := s1.2.2 (by have := sI.2.1; omega)
          rw [sx.1, sx.2.1, sx.2.2]
          split
          · rename_i y; rw [if_pos y] at hh; exact hh
          · rename_i y; rw [if_neg y] at hh
            split
            · rename_i y; rw [if_pos y] at hh; exact hh
            · rename_i y; rw [if_neg y] at hh
              split
              · rename_i y; rw [if_pos y] at hh; exact hh
              · rename_i y; rw [if_neg y] at hh; exact hh
      · have mJ : MF (I 238) (LM I 238 114) J := MF_238 (rel_MF h) (fs238 f)
        refine e219 ?_
        unfold D219_0
        refine m_isIn ⟨_, rfl, ?_⟩
        rw [b2i_t c0, if_neg (by decide)]
        refine m_isIn ⟨_, rfl, ?_⟩
        rw [b2i_t c1, if_neg (by decide)]
        refine n_goesOver hG hV mJ c0 fun J1 f1 s1 => ⟨rfl, ?_⟩
        have hh := hK J1 (fs_fz f1)
        rw [s1.2.1]
        by_cases z : (scn (I 238) (LM I 238 114) x1).2.2.2.2 = 0
        · rw [if_pos z] at hh ⊢
          exact hh
        · rw [if_neg z] at hh ⊢
          have sx := s1.2.2 (by have := sI.2.1; omega)
          rw [sx.1, sx.2.1, sx.2.2]
          split
          · rename_i y; rw [if_pos y] at hh; exact hh
          · rename_i y; rw [if_neg y] at hh
            split
            · rename_i y; rw [if_pos y] at hh; exact hh
            · rename_i y; rw [if_neg y] at hh
              split
              · rename_i y; rw [if_pos y] at hh; exact hh
              · rename_i y; rw [if_neg y] at hh; exact hh
    · refine both_q (-1) h (fun K hK => ?_) (fun J f hJ K hK => ?_)
      · refine e91 ?_
        unfold D91_0
        refine k_within ⟨_, rfl, ?_⟩
        rw [b2i_t c0, if_neg (by decide)]
        refine k_within ⟨_, rfl, ?_⟩
        rw [b2i_f c1, if_pos rfl]
        exact hK I FS_refl
      · refine e219 ?_
        unfold D219_0
        refine m_isIn ⟨_, rfl, ?_⟩
        rw [b2i_t c0, if_neg (by decide)]
        refine m_isIn ⟨_, rfl, ?_⟩
        rw [b2i_f c1, if_pos rfl]
        exact hK J FS_refl
  · refine both_q (-1) h (fun K hK => ?_) (fun J f hJ K hK => ?_)
    · refine e91 ?_
      unfold D91_0
      refine k_within ⟨_, rfl, ?_⟩
      rw [b2i_f c0, if_pos rfl]
      exact hK I FS_refl
    · refine e219 ?_
      unfold D219_0
      refine m_isIn ⟨_, rfl, ?_⟩
      rw [b2i_f c0, if_pos rfl]
      exact hK J FS_refl
theorem s_many {x1 : Int} {I : IM} (h : REL I) : BOTH 97 222 [vI x1] I := by
  have hG := h.1.1
  have hV := rel_VR h
  have hC := rel_CF h
  by_cases c0 : 0 ≤ x1 ∧ x1 ≤ 3
  · refine both_q (scn (I 238) (LM I 238 114) x1).1 h (fun K hK => ?_) (fun J f hJ K hK => ?_)
    · refine e97 ?_
      unfold D97_0
      refine k_within ⟨_, rfl, ?_⟩
      rw [b2i_t c0, if_neg (by decide)]
      refine c_scan hG hV hC c0 fun J1 f1 s1 _ => ⟨rfl, ?_⟩
      rw [s1.1]
      exact hK J1 (fs_fk f1)
    · have mJ : MF (I 238) (LM I 238 114) J := MF_238 (rel_MF h) (fs238 f)
      refine e222 ?_
      unfold D222_0
      refine m_isIn ⟨_, rfl, ?_⟩
      rw [b2i_t c0, if_neg (by decide)]
      refine n_goesOver hG hV mJ c0 fun J1 f1 s1 => ⟨rfl, ?_⟩
      rw [s1.1]
      exact hK J1 (fs_fz f1)
  · refine both_q (-1) h (fun K hK => ?_) (fun J f hJ K hK => ?_)
    · refine e97 ?_
      unfold D97_0
      refine k_within ⟨_, rfl, ?_⟩
      rw [b2i_f c0, if_pos rfl]
      exact hK I FS_refl
    · refine e222 ?_
      unfold D222_0
      refine m_isIn ⟨_, rfl, ?_⟩
      rw [b2i_f c0, if_pos rfl]
      exact hK J FS_refl
theorem s_descent {x1 : Int} {I : IM} (h : REL I) : BOTH 95 223 [vI x1] I := by
  have hG := h.1.1
  have hV := rel_VR h
  have hC := rel_CF h
  by_cases c1 : 1 ≤ x1 ∧ x1 ≤ 40
  · obtain ⟨n, rfl⟩ : ∃ v : Nat, x1 = v := ⟨x1.toNat, by omega⟩
    refine both_r ((dsF (I 238) n (LM I 238 114)).2 : Nat) (dsF (I 238) n (LM I 238 114)).1 (decide (0 < (dsF (I 238) n (LM I 238 114)).2)) h (ds_VR hG n _ hV) (fun K hK => ?_) (fun J hJ eJ K hK => ?_)
    · refine e95 ?_
      unfold D95_0
      refine k_within ⟨_, rfl, ?_⟩
      rw [b2i_t c1, if_neg (by decide)]
      refine k_copy rd71 rd29 (by decide) hC.2.1 fun J1 f1 s1 l1 => ⟨rfl, ?_⟩
      have C1 := CF_fr hC (J' := J1) (fun o k a => f1 o k (by omega))
      refine c_descend hG hV C1 (by omega) fun J2 f2 c2 => ⟨_, rfl, ?_⟩
      exact c_tail h (fun o k a => f1 o k (by omega)) s1 l1 f2 c2 hK
    · have mJ : MF (I 238) (LM I 238 114) J := MF_238 (rel_MF h) eJ
      refine e223 ?_
      unfold D223_0
      refine m_isIn ⟨_, rfl, ?_⟩
      rw [b2i_t c1, if_neg (by decide)]
      refine n_marks fun J1 f1 k1 => ⟨rfl, ?_⟩
      have M1 := MF_238 mJ (J' := J1) (funext fun j => f1 238 j (by decide))
      refine n_descends hG hV M1 (by omega) fun J2 f2 m2 => ⟨_, rfl, ?_⟩
      exact n_tail (jst h (hJ.1 237 4 (by unfold SCR; omega) (by omega) (by omega))) f1 k1 f2 m2 hK
  · refine both_q (-2) h (fun K hK => ?_) (fun J f hJ K hK => ?_)
    · refine e95 ?_
      unfold D95_0
      refine k_within ⟨_, rfl, ?_⟩
      rw [b2i_f c1, if_pos rfl]
      exact hK I FS_refl
    · refine e223 ?_
      unfold D223_0
      refine m_isIn ⟨_, rfl, ?_⟩
      rw [b2i_f c1, if_pos rfl]
      exact hK J FS_refl
theorem c_costAll {r : Nat} {G : Nat → Int} {R : Nat → List Int} {J : IM} {K : Option AV → IM → Prop} (hr : isRd r) (hG : GR G) (hV : VR G R) (hB : BK J G) (hs : SZC J r) (hL : ∀ v, v < 4 → LC J r v = R v) (h : ∀ J', FP J J' → K (some (vI (csA G R))) J') : CALL S0 46 [vR 193, vR r] J K :=
  k_costOfAll hr hG hB hs (oc_of (VR_R12 hG hV) hL) fun J' f => ⟨fun _ => by rw [csA_eq hL]; exact h J' f, fun z => absurd (fun v hv => by rw [hL v hv]; exact hV.2.2.2 v hv) z⟩
theorem n_costAll {G : Nat → Int} {R : Nat → List Int} {J : IM} {K : Option AV → IM → Prop} (hG : GR G) (hV : VR G R) (hM : MF G R J) (h : ∀ J', FY J J' → K (some (vI (csA G R))) J') : CALL S0 193 [vR 237, vI (-1)] J K := by
  refine e193 ?_
  unfold D193_0
  rw [if_pos rfl]
  unfold D193_14
  refine n_looks hM fun J1 f1 s1 l1 => ⟨rfl, ?_⟩
  rw [if_neg (by decide)]
  have e1 : J1 238 = J 238 := funext fun j => f1 238 j (by decide)
  exact n_costOf (Or.inl rfl) hG (fun k hk => by rw [e1]; exact hM.1 k hk) s1 (VR_R12 hG hV) l1 fun J2 f2 => ⟨_, rfl, h J2 (FY_trans (fun p j a _ _ _ _ => f1 p j a) (FY_fd f2))⟩
theorem s_again {x1 x2 x3 : Int} {I : IM} (h : REL I) : BOTH 111 238 [vI x1, vI x2, vI x3] I := by
  have hcn : I 1 0 = I 238 5 := h.1.2.1
  have hG := h.1.1
  have hV := rel_VR h
  have hC := rel_CF h
  by_cases c0 : 0 ≤ x1 ∧ x1 < I 238 5
  · by_cases c1 : 1 ≤ x2 ∧ x2 ≤ 12
    · by_cases c2 : 1 ≤ x3 ∧ x3 ≤ 4
      · obtain ⟨n, rfl⟩ : ∃ v : Nat, x2 = v := ⟨x2.toNat, by omega⟩
        obtain ⟨k, rfl⟩ : ∃ v : Nat, x3 = v := ⟨x3.toNat, by omega⟩
        have V1 := ruF_VR (o := x1) hG n _ hV
        have V2 := fiF_VR (k := k) hG 12 _ V1
        have V3 := ds_VR hG 40 _ V2
        have b1 := csA_b hG hV.1 (VR_R12 hG hV)
        have b2 := csA_b hG V3.1 (VR_R12 hG V3)
        generalize hR3 : (dsF (I 238) 40 (fiF (I 238) k 12 (ruF (I 238) x1 n (LM I 238 114)).1).1).1 = R3 at V3 b2
        -- the class as far as its end
        have kmain : ∀ K : Option AV → IM → Prop, (∀ J1 J2, (∀ o k, ¬ (72 ≤ o ∧ o ≤ 77) → J1 o k = I o k) → SZC J1 71 → (∀ v, v < 4 → LC J1 71 v = LC I 29 v) → FC J1 J2 → CF (I 238) R3 J2 → (if (0 : Int) < csA (I 238) (LM I 238 114) - csA (I 238) R3 then CALL S0 77 [vR 78, vR 71] J2 (fun v I23 => v = none ∧ K (some (vI (csA (I 238) (LM I 238 114) - csA (I 238) R3))) I23) else CALL S0 53 [vR 29, vR 71] J2 (fun v I24 => v = none ∧ K (some (vI 0)) I24))) → CALL S0 111 [vR 0, vI x1, vI (n : Int), vI (k : Int)] I K := by
          intro K hK
          refine e111 ?_
          unfold D111_0
          refine k_isOrder ⟨_, rfl, ?_⟩
          rw [hcn, b2i_t c0, if_neg (by decide)]
          refine k_within ⟨_, rfl, ?_⟩
          rw [b2i_t c1, if_neg (by decide)]
          refine k_within ⟨_, rfl, ?_⟩
          rw [b2i_t c2, if_neg (by decide)]
          refine k_copy rd71 rd29 (by decide) hC.2.1 fun J1 f1 s1 l1 => ⟨rfl, ?_⟩
          have C1 := CF_fr hC (J' := J1) (fun o k a => f1 o k (by omega))
          refine c_costAll rd29 hG hV C1.1 C1.2.1 C1.2.2 fun J2 f2 => ⟨_, rfl, ?_⟩
          have C2 := CF_fr C1 (J' := J2) (fun o k a => f2 o k (by omega))
          refine c_ruin hG hV C2 c0 (by omega) fun J3 f3 C3 => ⟨_, rfl, ?_⟩
          refine c_fillBy hG V1 C3 (by omega) fun J4 f4 C4 => ⟨_, rfl, ?_⟩
          refine c_descend (n := 40) hG V2 C4 (by omega) fun J5 f5 C5 => ⟨_, rfl, ?_⟩
          rw [hR3] at C5
          refine c_costAll rd29 hG V3 C5.1 C5.2.1 C5.2.2 fun J6 f6 => ⟨_, rfl, ?_⟩
          have C6 := CF_fr C5 (J' := J6) (fun o k a => f6 o k (by omega))
          exact ⟨by unfold inR; omega, hK J1 J6 (fun o k a => f1 o k (by omega)) s1 l1 (FC_trans (FC_fp f2) (FC_trans f3 (FC_trans f4 (FC_trans f5 (FC_fp f6))))) C6⟩
        have fmfy : ∀ {I J : IM}, FY I J → FM I J := fun f o k a => f o k (by omega) (by omega) (by omega) (by omega) (by omega)
        have mmain : ∀ J, J 238 = I 238 → ∀ K : Option AV → IM → Prop, (∀ J1 J2, (∀ o k, o ≠ 247 → J1 o k = J o k) → (∀ k, k < 52 → J1 247 k = J 238 (114 + k)) → FM J1 J2 → MF (I 238) R3 J2 → (if csA (I 238) (LM I 238 114) - csA (I 238) R3 ≤ 0 then CALL S0 239 [vR 237] J2 (fun v I23 => v = none ∧ K (some (vI (if 0 < csA (I 238) (LM I 238 114) - csA (I 238) R3 then csA (I 238) (LM I 238 114) - csA (I 238) R3 else 0))) I23) else CALL S0 203 [vR 237] J2 (fun v I24 => v = none ∧ K (some (vI (if 0 < csA (I 238) (LM I 238 114) - csA (I 238) R3 then csA (I 238) (LM I 238 114) - csA (I 238) R3 else 0))) I24))) → CALL S0 238 [vR 237, vI x1, vI (n : Int), vI (k : Int)] J K := by
          intro J eJ K hK
          have mJ : MF (I 238) (LM I 238 114) J := MF_238 (rel_MF h) eJ
          refine e238 ?_
          unfold D238_0
          refine n_isOrder hG mJ ⟨_, rfl, ?_⟩
          rw [b2i_t c0, if_neg (by decide)]
          refine m_isIn ⟨_, rfl, ?_⟩
          rw [b2i_t c1, if_neg (by decide)]
          refine m_isIn ⟨_, rfl, ?_⟩
          rw [b2i_t c2, if_neg (by decide)]
          refine n_marks fun J1 f1 k1 => ⟨rfl, ?_⟩
          have M1 := MF_238 mJ (J' := J1) (funext fun j => f1 238 j (by decide))
          refine n_costAll hG hV M1 fun J2 f2 => ⟨_, rfl, ?_⟩
          have M2 := MF_fz M1 (FZ_fy f2)
          refine n_ruins hG hV M2 c0 (by omega) fun J3 f3 M3 => ⟨_, rfl, ?_⟩
          refine n_fills hG V1 M3 (by omega) fun J4 f4 M4 => ⟨_, rfl, ?_⟩
          refine n_descends (n := 40) hG V2 M4 (by omega) fun J5 f5 M5 => ⟨_, rfl, ?_⟩
          rw [hR3] at M5
          refine n_costAll hG V3 M5 fun J6 f6 => ⟨_, rfl, ?_⟩
          have M6 := MF_fz M5 (FZ_fy f6)
          exact ⟨by unfold inR; omega, hK J1 J6 f1 k1 (FM_trans (fmfy f2) (FM_trans f3 (FM_trans f4 (FM_trans f5 (fmfy f6))))) M6⟩
        by_cases less : 0 < csA (I 238) (LM I 238 114) - csA (I 238) R3
        · refine both_r (csA (I 238) (LM I 238 114) - csA (I 238) R3) R3 true h V3 (fun K hK => kmain K fun J1 J2 f1 s1 l1 f2 c2 => ?_) (fun J hJ eJ K hK => mmain J eJ K fun J1 J2 f1 k1 f2 m2 => ?_)
          · have := c_tail (n := 1) (K := fun v J => v = some (vI ((1 : Nat) : Int)) → K (some (vI (csA (I 238) (LM I 238 114) - csA (I 238) R3))) J) h f1 s1 l1 f2 c2 (fun J cs _ => hK J cs)
            rw [if_neg (by decide)] at this
            rw [if_pos less]
            exact call_imp this (fun v I' z => ⟨z.1, z.2 rfl⟩)
          · have := n_tail (n := 1) (K := fun v J => v = some (vI ((1 : Nat) : Int)) → K (some (vI (csA (I 238) (LM I 238 114) - csA (I 238) R3))) J) (jst h (hJ.1 237 4 (by unfold SCR; omega) (by omega) (by omega))) f1 k1 f2 m2 (fun J' ms _ => hK J' ms)
            rw [if_neg (by decide)] at this
            rw [if_neg (by omega), if_pos less]
            exact call_imp this (fun v I' z => ⟨z.1, z.2 rfl⟩)
        · refine both_r 0 (LM I 238 114) false h hV (fun K hK => kmain K fun J1 J2 f1 s1 l1 f2 c2 => ?_) (fun J hJ eJ K hK => mmain J eJ K fun J1 J2 f1 k1 f2 m2 => ?_)
          · rw [if_neg less]
            refine k_copy rd29 rd71 (by decide) (fun v hv => by rw [f2 _ _ (by omega)]; exact s1 v hv) fun J3 f3 s3 l3 => ⟨rfl, hK J3 ⟨fun o k a b c => ?_, s3, fun v hv => ?_, fun o k a b => ?_⟩⟩
            · unfold SCR at a
              rw [f3 o k (by omega), f2 o k (by omega), f1 o k (by omega)]
            · rw [l3 v hv, LC_cg (f2 _ _ (by omega)) (fun k => f2 _ _ (by omega)), l1 v hv]
              exact rl_eq h hv
            · rw [f3 o k (by omega), f2 o k (by omega), f1 o k (by omega)]
          · rw [if_pos (by omega), if_neg less]
            have q : ∀ k, k < 52 → cpd J2 247 0 238 114 52 238 (114 + k) = I 238 (114 + k) := fun k hk => by
              rw [cpd_in (by omega) (by omega), f2 247 _ (by omega), show 0 + (114 + k - 114) = k by omega, k1 k hk, eJ]
            have g : ∀ o k, (o ≠ 238 ∨ k < 114) → cpd J2 247 0 238 114 52 o k = J2 o k := fun o k a => cpd_out (by omega)
            have sz := h.2.1.2.1
            refine m_marksBack ⟨rfl, hK _ ⟨fun o k a b c d => ?_, fun v hv => ?_, fun v hv => ?_, funext fun k => ?_, ?_⟩⟩
            · unfold SCR at a
              rw [g o k b, f2 o k (by omega), f1 o k (by omega)]
            · rw [q _ (by omega)]; exact sz v hv
            · exact LM_congr (sz v hv) (fun k hk => by rw [Nat.add_assoc]; exact q _ (by omega))
            · rw [g 240 k (by omega), f2 240 k (by omega), f1 240 k (by omega)]
            · rw [g 237 4 (by omega), f2 237 4 (by omega), f1 237 4 (by omega)]
      · refine both_q (-2) h (fun K hK => ?_) (fun J f hJ K hK => ?_)
        · refine e111 ?_
          unfold D111_0
          refine k_isOrder ⟨_, rfl, ?_⟩
          rw [hcn, b2i_t c0, if_neg (by decide)]
          refine k_within ⟨_, rfl, ?_⟩
          rw [b2i_t c1, if_neg (by decide)]
          refine k_within ⟨_, rfl, ?_⟩
          rw [b2i_f c2, if_pos rfl]
          exact hK I FS_refl
        · have mJ : MF (I 238) (LM I 238 114) J := MF_238 (rel_MF h) (fs238 f)
          refine e238 ?_
          unfold D238_0
          refine n_isOrder hG mJ ⟨_, rfl, ?_⟩
          rw [b2i_t c0, if_neg (by decide)]
          refine m_isIn ⟨_, rfl, ?_⟩
          rw [b2i_t c1, if_neg (by decide)]
          refine m_isIn ⟨_, rfl, ?_⟩
          rw [b2i_f c2, if_pos rfl]
          exact hK J FS_refl
    · refine both_q (-2) h (fun K hK => ?_) (fun J f hJ K hK => ?_)
      · refine e111 ?_
        unfold D111_0
        refine k_isOrder ⟨_, rfl, ?_⟩
        rw [hcn, b2i_t c0, if_neg (by decide)]
        refine k_within ⟨_, rfl, ?_⟩
        rw [b2i_f c1, if_pos rfl]
        exact hK I FS_refl
      · have mJ : MF (I 238) (LM I 238 114) J := MF_238 (rel_MF h) (fs238 f)
        refine e238 ?_
        unfold D238_0
        refine n_isOrder hG mJ ⟨_, rfl, ?_⟩
        rw [b2i_t c0, if_neg (by decide)]
        refine m_isIn ⟨_, rfl, ?_⟩
        rw [b2i_f c1, if_pos rfl]
        exact hK J FS_refl
  · refine both_q (-1) h (fun K hK => ?_) (fun J f hJ K hK => ?_)
    · refine e111 ?_
      unfold D111_0
      refine k_isOrder ⟨_, rfl, ?_⟩
      rw [hcn, b2i_f c0, if_pos rfl]
      exact hK I FS_refl
    · have mJ : MF (I 238) (LM I 238 114) J := MF_238 (rel_MF h) (fs238 f)
      refine e238 ?_
      unfold D238_0
      refine n_isOrder hG mJ ⟨_, rfl, ?_⟩
      rw [b2i_f c0, if_pos rfl]
      exact hK J FS_refl
