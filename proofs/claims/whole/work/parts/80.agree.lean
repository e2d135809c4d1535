/-! level 2: a run that reads no script goes the same way over every script (laid by program) -/
def agI (I I' : IM) : Prop := ∀ o k, o < 1000 → I' o k = I o k
def okPA (f : PF) : Prop := ∀ {a : Nat} {b : Int} {tb : List (Int × Nat)} {np pc' : Nat} {ls st ls' st' : List AV} {I I1 I' : IM} {S S1 : List AO}, f a b tb np ls st (I, S) = some (pc', ls', st', (I1, S1)) → S.length ≤ 1000 → agI I I' → ∃ J, agI I1 J ∧ f a b tb np ls st (I', S) = some (pc', ls', st', (J, S1))
theorem agI_up {I I' : IM} {o k : Nat} {x : Int} (h : agI I I') : agI (iup I o k x) (iup I' o k x) := fun p j hp => by
  unfold iup
  split
  · rfl
  · exact h p j hp
theorem agI_clr {I I' : IM} {n : Nat} (h : agI I I') : agI (iclr I n) (iclr I' n) := fun p j hp => by
  unfold iclr
  split
  · rfl
  · exact h p j hp
theorem agI_cp {I I' : IM} {a b c d n : Nat} (h : agI I I') (ha : a < 1000) : agI (icp I a b c d n) (icp I' a b c d n) := fun p j hp => by
  unfold icp
  split
  · exact h a _ ha
  · exact h p j hp
theorem lt_S {S : List AO} {o : Nat} {q : AO} (h : S[o]? = some q) (hl : S.length ≤ 1000) : o < 1000 := by
  have := (List.getElem?_eq_some_iff.mp h).1
  omega
theorem pa_p0 : okPA p0 := by
  intro a b tb np pc' ls st ls' st' I I1 I' S S1 e hl hA
  unfold p0 at e ⊢
  (try dsimp only at e)
  (repeat' split at e)
  all_goals first
    | (cases e; done)
    | (cases e; refine ⟨I', hA, ?_⟩; first | rfl | exact if_pos (by assumption) | (simp only [*]; done) | (simp only [*]; exact if_pos (by assumption)) | (simp only [*]; rfl) | (simp_all; done) | (rw [if_pos (by assumption), if_neg (by omega)]; done) | (rw [if_pos (by assumption), if_pos (by omega)]; done))
theorem pa_p1 : okPA p1 := by
  intro a b tb np pc' ls st ls' st' I I1 I' S S1 e hl hA
  unfold p1 at e ⊢
  (try dsimp only at e)
  (repeat' split at e)
  all_goals first
    | (cases e; done)
    | (cases e; refine ⟨I', hA, ?_⟩; first | rfl | exact if_pos (by assumption) | (simp only [*]; done) | (simp only [*]; exact if_pos (by assumption)) | (simp only [*]; rfl) | (simp_all; done) | (rw [if_pos (by assumption), if_neg (by omega)]; done) | (rw [if_pos (by assumption), if_pos (by omega)]; done))
theorem pa_p2 : okPA p2 := by
  intro a b tb np pc' ls st ls' st' I I1 I' S S1 e hl hA
  unfold p2 at e ⊢
  (try dsimp only at e)
  (repeat' split at e)
  all_goals first
    | (cases e; done)
    | (cases e; refine ⟨I', hA, ?_⟩; first | rfl | exact if_pos (by assumption) | (simp only [*]; done) | (simp only [*]; exact if_pos (by assumption)) | (simp only [*]; rfl) | (simp_all; done) | (rw [if_pos (by assumption), if_neg (by omega)]; done) | (rw [if_pos (by assumption), if_pos (by omega)]; done))
theorem pa_p3 : okPA p3 := by
  intro a b tb np pc' ls st ls' st' I I1 I' S S1 e hl hA
  unfold p3 at e ⊢
  (try dsimp only at e)
  (repeat' split at e)
  all_goals first
    | (cases e; done)
    | (cases e; refine ⟨I', hA, ?_⟩; first | rfl | exact if_pos (by assumption) | (simp only [*]; done) | (simp only [*]; exact if_pos (by assumption)) | (simp only [*]; rfl) | (simp_all; done) | (rw [if_pos (by assumption), if_neg (by omega)]; done) | (rw [if_pos (by assumption), if_pos (by omega)]; done))
theorem pa_p4 : okPA p4 := by
  intro a b tb np pc' ls st ls' st' I I1 I' S S1 e hl hA
  unfold p4 at e ⊢
  (try dsimp only at e)
  (repeat' split at e)
  all_goals first
    | (cases e; done)
    | (cases e; refine ⟨I', hA, ?_⟩; first | rfl | exact if_pos (by assumption) | (simp only [*]; done) | (simp only [*]; exact if_pos (by assumption)) | (simp only [*]; rfl) | (simp_all; done) | (rw [if_pos (by assumption), if_neg (by omega)]; done) | (rw [if_pos (by assumption), if_pos (by omega)]; done))
theorem pa_p5 : okPA p5 := by
  intro a b tb np pc' ls st ls' st' I I1 I' S S1 e hl hA
  unfold p5 at e ⊢
  (try dsimp only at e)
  (repeat' split at e)
  all_goals first
    | (cases e; done)
    | (cases e; refine ⟨I', hA, ?_⟩; first | rfl | exact if_pos (by assumption) | (simp only [*]; done) | (simp only [*]; exact if_pos (by assumption)) | (simp only [*]; rfl) | (simp_all; done) | (rw [if_pos (by assumption), if_neg (by omega)]; done) | (rw [if_pos (by assumption), if_pos (by omega)]; done))
theorem pa_p6 : okPA p6 := by
  intro a b tb np pc' ls st ls' st' I I1 I' S S1 e hl hA
  unfold p6 at e ⊢
  (try dsimp only at e)
  (repeat' split at e)
  all_goals first
    | (cases e; done)
    | (cases e; refine ⟨I', hA, ?_⟩; first | rfl | exact if_pos (by assumption) | (simp only [*]; done) | (simp only [*]; exact if_pos (by assumption)) | (simp only [*]; rfl) | (simp_all; done) | (rw [if_pos (by assumption), if_neg (by omega)]; done) | (rw [if_pos (by assumption), if_pos (by omega)]; done))
theorem pa_p7 : okPA p7 := by
  intro a b tb np pc' ls st ls' st' I I1 I' S S1 e hl hA
  unfold p7 at e ⊢
  (try dsimp only at e)
  (repeat' split at e)
  all_goals first
    | (cases e; done)
    | (cases e; refine ⟨I', hA, ?_⟩; rw [← hA _ _ (lt_S (by assumption) hl)]; first | rfl | exact if_pos (by assumption) | (simp only [*]; done) | (simp only [*]; exact if_pos (by assumption)) | (simp only [*]; rfl) | (simp_all; done) | (rw [if_pos (by assumption), if_neg (by omega)]; done) | (rw [if_pos (by assumption), if_pos (by omega)]; done))
theorem pa_p8 : okPA p8 := by
  intro a b tb np pc' ls st ls' st' I I1 I' S S1 e hl hA
  unfold p8 at e ⊢
  (try dsimp only at e)
  (repeat' split at e)
  all_goals first
    | (cases e; done)
    | (cases e; refine ⟨I', hA, ?_⟩; first | rfl | exact if_pos (by assumption) | (simp only [*]; done) | (simp only [*]; exact if_pos (by assumption)) | (simp only [*]; rfl) | (simp_all; done) | (rw [if_pos (by assumption), if_neg (by omega)]; done) | (rw [if_pos (by assumption), if_pos (by omega)]; done))
theorem pa_p9 : okPA p9 := by
  intro a b tb np pc' ls st ls' st' I I1 I' S S1 e hl hA
  unfold p9 at e ⊢
  (try dsimp only at e)
  (repeat' split at e)
  all_goals first
    | (cases e; done)
    | (cases e; refine ⟨iup I' _ _ _, agI_up hA, ?_⟩; first | rfl | exact if_pos (by assumption) | (simp only [*]; done) | (simp only [*]; exact if_pos (by assumption)) | (simp only [*]; rfl) | (simp_all; done) | (rw [if_pos (by assumption), if_neg (by omega)]; done) | (rw [if_pos (by assumption), if_pos (by omega)]; done))
theorem pa_p10 : okPA p10 := by
  intro a b tb np pc' ls st ls' st' I I1 I' S S1 e hl hA
  unfold p10 at e ⊢
  (try dsimp only at e)
  (repeat' split at e)
  all_goals first
    | (cases e; done)
    | (cases e; refine ⟨I', hA, ?_⟩; first | rfl | exact if_pos (by assumption) | (simp only [*]; done) | (simp only [*]; exact if_pos (by assumption)) | (simp only [*]; rfl) | (simp_all; done) | (rw [if_pos (by assumption), if_neg (by omega)]; done) | (rw [if_pos (by assumption), if_pos (by omega)]; done))
theorem pa_p11 : okPA p11 := by
  intro a b tb np pc' ls st ls' st' I I1 I' S S1 e hl hA
  unfold p11 at e ⊢
  (try dsimp only at e)
  (repeat' split at e)
  all_goals first
    | (cases e; done)
    | (cases e; refine ⟨I', hA, ?_⟩; rw [← hA _ _ (lt_S (by assumption) hl)]; first | rfl | exact if_pos (by assumption) | (simp only [*]; done) | (simp only [*]; exact if_pos (by assumption)) | (simp only [*]; rfl) | (simp_all; done) | (rw [if_pos (by assumption), if_neg (by omega)]; done) | (rw [if_pos (by assumption), if_pos (by omega)]; done))
theorem pa_p12 : okPA p12 := by
  intro a b tb np pc' ls st ls' st' I I1 I' S S1 e hl hA
  unfold p12 at e ⊢
  (try dsimp only at e)
  (repeat' split at e)
  all_goals first
    | (cases e; done)
    | (cases e; refine ⟨I', hA, ?_⟩; first | rfl | exact if_pos (by assumption) | (simp only [*]; done) | (simp only [*]; exact if_pos (by assumption)) | (simp only [*]; rfl) | (simp_all; done) | (rw [if_pos (by assumption), if_neg (by omega)]; done) | (rw [if_pos (by assumption), if_pos (by omega)]; done))
theorem pa_p13 : okPA p13 := by
  intro a b tb np pc' ls st ls' st' I I1 I' S S1 e hl hA
  unfold p13 at e ⊢
  (try dsimp only at e)
  (repeat' split at e)
  all_goals first
    | (cases e; done)
    | (cases e; refine ⟨iup I' _ _ _, agI_up hA, ?_⟩; first | rfl | exact if_pos (by assumption) | (simp only [*]; done) | (simp only [*]; exact if_pos (by assumption)) | (simp only [*]; rfl) | (simp_all; done) | (rw [if_pos (by assumption), if_neg (by omega)]; done) | (rw [if_pos (by assumption), if_pos (by omega)]; done))
theorem pa_p14 : okPA p14 := by
  intro a b tb np pc' ls st ls' st' I I1 I' S S1 e hl hA
  unfold p14 at e ⊢
  (try dsimp only at e)
  (repeat' split at e)
  all_goals first
    | (cases e; done)
    | (cases e; refine ⟨I', hA, ?_⟩; first | rfl | exact if_pos (by assumption) | (simp only [*]; done) | (simp only [*]; exact if_pos (by assumption)) | (simp only [*]; rfl) | (simp_all; done) | (rw [if_pos (by assumption), if_neg (by omega)]; done) | (rw [if_pos (by assumption), if_pos (by omega)]; done))
theorem pa_p15 : okPA p15 := by
  intro a b tb np pc' ls st ls' st' I I1 I' S S1 e hl hA
  unfold p15 at e ⊢
  (try dsimp only at e)
  (repeat' split at e)
  all_goals first
    | (cases e; done)
    | (cases e; refine ⟨I', hA, ?_⟩; first | rfl | exact if_pos (by assumption) | (simp only [*]; done) | (simp only [*]; exact if_pos (by assumption)) | (simp only [*]; rfl) | (simp_all; done) | (rw [if_pos (by assumption), if_neg (by omega)]; done) | (rw [if_pos (by assumption), if_pos (by omega)]; done))
theorem pa_p16 : okPA p16 := by
  intro a b tb np pc' ls st ls' st' I I1 I' S S1 e hl hA
  unfold p16 at e ⊢
  (try dsimp only at e)
  (repeat' split at e)
  all_goals first
    | (cases e; done)
    | (cases e; refine ⟨I', hA, ?_⟩; first | rfl | exact if_pos (by assumption) | (simp only [*]; done) | (simp only [*]; exact if_pos (by assumption)) | (simp only [*]; rfl) | (simp_all; done) | (rw [if_pos (by assumption), if_neg (by omega)]; done) | (rw [if_pos (by assumption), if_pos (by omega)]; done))
theorem pa_p17 : okPA p17 := by
  intro a b tb np pc' ls st ls' st' I I1 I' S S1 e hl hA
  unfold p17 at e ⊢
  (try dsimp only at e)
  (repeat' split at e)
  all_goals first
    | (cases e; done)
    | (cases e; refine ⟨I', hA, ?_⟩; first | rfl | exact if_pos (by assumption) | (simp only [*]; done) | (simp only [*]; exact if_pos (by assumption)) | (simp only [*]; rfl) | (simp_all; done) | (rw [if_pos (by assumption), if_neg (by omega)]; done) | (rw [if_pos (by assumption), if_pos (by omega)]; done))
theorem pa_p18 : okPA p18 := by
  intro a b tb np pc' ls st ls' st' I I1 I' S S1 e hl hA
  unfold p18 at e ⊢
  (try dsimp only at e)
  (repeat' split at e)
  all_goals first
    | (cases e; done)
    | (cases e; refine ⟨I', hA, ?_⟩; first | rfl | exact if_pos (by assumption) | (simp only [*]; done) | (simp only [*]; exact if_pos (by assumption)) | (simp only [*]; rfl) | (simp_all; done) | (rw [if_pos (by assumption), if_neg (by omega)]; done) | (rw [if_pos (by assumption), if_pos (by omega)]; done))
theorem pa_p19 : okPA p19 := by
  intro a b tb np pc' ls st ls' st' I I1 I' S S1 e hl hA
  unfold p19 at e ⊢
  (try dsimp only at e)
  (repeat' split at e)
  all_goals first
    | (cases e; done)
    | (cases e; refine ⟨I', hA, ?_⟩; first | rfl | exact if_pos (by assumption) | (simp only [*]; done) | (simp only [*]; exact if_pos (by assumption)) | (simp only [*]; rfl) | (simp_all; done) | (rw [if_pos (by assumption), if_neg (by omega)]; done) | (rw [if_pos (by assumption), if_pos (by omega)]; done))
theorem pa_p20 : okPA p20 := by
  intro a b tb np pc' ls st ls' st' I I1 I' S S1 e hl hA
  unfold p20 at e ⊢
  (try dsimp only at e)
  (repeat' split at e)
  all_goals first
    | (cases e; done)
    | (cases e; refine ⟨I', hA, ?_⟩; first | rfl | exact if_pos (by assumption) | (simp only [*]; done) | (simp only [*]; exact if_pos (by assumption)) | (simp only [*]; rfl) | (simp_all; done) | (rw [if_pos (by assumption), if_neg (by omega)]; done) | (rw [if_pos (by assumption), if_pos (by omega)]; done))
theorem pa_p21 : okPA p21 := by
  intro a b tb np pc' ls st ls' st' I I1 I' S S1 e hl hA
  unfold p21 at e ⊢
  (try dsimp only at e)
  (repeat' split at e)
  all_goals first
    | (cases e; done)
    | (cases e; refine ⟨I', hA, ?_⟩; first | rfl | exact if_pos (by assumption) | (simp only [*]; done) | (simp only [*]; exact if_pos (by assumption)) | (simp only [*]; rfl) | (simp_all; done) | (rw [if_pos (by assumption), if_neg (by omega)]; done) | (rw [if_pos (by assumption), if_pos (by omega)]; done))
theorem pa_p22 : okPA p22 := by
  intro a b tb np pc' ls st ls' st' I I1 I' S S1 e hl hA
  unfold p22 at e ⊢
  (try dsimp only at e)
  (repeat' split at e)
  all_goals first
    | (cases e; done)
    | (cases e; refine ⟨I', hA, ?_⟩; first | rfl | exact if_pos (by assumption) | (simp only [*]; done) | (simp only [*]; exact if_pos (by assumption)) | (simp only [*]; rfl) | (simp_all; done) | (rw [if_pos (by assumption), if_neg (by omega)]; done) | (rw [if_pos (by assumption), if_pos (by omega)]; done))
theorem pa_p23 : okPA p23 := by
  intro a b tb np pc' ls st ls' st' I I1 I' S S1 e hl hA
  unfold p23 at e ⊢
  (try dsimp only at e)
  (repeat' split at e)
  all_goals first
    | (cases e; done)
    | (cases e; refine ⟨I', hA, ?_⟩; first | rfl | exact if_pos (by assumption) | (simp only [*]; done) | (simp only [*]; exact if_pos (by assumption)) | (simp only [*]; rfl) | (simp_all; done) | (rw [if_pos (by assumption), if_neg (by omega)]; done) | (rw [if_pos (by assumption), if_pos (by omega)]; done))
theorem pa_p24 : okPA p24 := by
  intro a b tb np pc' ls st ls' st' I I1 I' S S1 e hl hA
  unfold p24 at e ⊢
  (try dsimp only at e)
  (repeat' split at e)
  all_goals first
    | (cases e; done)
    | (cases e; refine ⟨I', hA, ?_⟩; first | rfl | exact if_pos (by assumption) | (simp only [*]; done) | (simp only [*]; exact if_pos (by assumption)) | (simp only [*]; rfl) | (simp_all; done) | (rw [if_pos (by assumption), if_neg (by omega)]; done) | (rw [if_pos (by assumption), if_pos (by omega)]; done))
theorem pa_p25 : okPA p25 := by
  intro a b tb np pc' ls st ls' st' I I1 I' S S1 e hl hA
  unfold p25 at e ⊢
  (try dsimp only at e)
  (repeat' split at e)
  all_goals first
    | (cases e; done)
    | (cases e; refine ⟨I', hA, ?_⟩; first | rfl | exact if_pos (by assumption) | (simp only [*]; done) | (simp only [*]; exact if_pos (by assumption)) | (simp only [*]; rfl) | (simp_all; done) | (rw [if_pos (by assumption), if_neg (by omega)]; done) | (rw [if_pos (by assumption), if_pos (by omega)]; done))
theorem pa_p26 : okPA p26 := by
  intro a b tb np pc' ls st ls' st' I I1 I' S S1 e hl hA
  unfold p26 at e ⊢
  (try dsimp only at e)
  (repeat' split at e)
  all_goals first
    | (cases e; done)
    | (cases e; refine ⟨I', hA, ?_⟩; first | rfl | exact if_pos (by assumption) | (simp only [*]; done) | (simp only [*]; exact if_pos (by assumption)) | (simp only [*]; rfl) | (simp_all; done) | (rw [if_pos (by assumption), if_neg (by omega)]; done) | (rw [if_pos (by assumption), if_pos (by omega)]; done))
theorem pa_p27 : okPA p27 := by
  intro a b tb np pc' ls st ls' st' I I1 I' S S1 e hl hA
  unfold p27 at e ⊢
  (try dsimp only at e)
  (repeat' split at e)
  all_goals first
    | (cases e; done)
    | (cases e; refine ⟨iclr I' _, agI_clr hA, ?_⟩; first | rfl | exact if_pos (by assumption) | (simp only [*]; done) | (simp only [*]; exact if_pos (by assumption)) | (simp only [*]; rfl) | (simp_all; done) | (rw [if_pos (by assumption), if_neg (by omega)]; done) | (rw [if_pos (by assumption), if_pos (by omega)]; done))
theorem pa_p28 : okPA p28 := by
  intro a b tb np pc' ls st ls' st' I I1 I' S S1 e hl hA
  unfold p28 at e ⊢
  (try dsimp only at e)
  (repeat' split at e)
  all_goals first
    | (cases e; done)
    | (cases e; refine ⟨iclr I' _, agI_clr hA, ?_⟩; first | rfl | exact if_pos (by assumption) | (simp only [*]; done) | (simp only [*]; exact if_pos (by assumption)) | (simp only [*]; rfl) | (simp_all; done) | (rw [if_pos (by assumption), if_neg (by omega)]; done) | (rw [if_pos (by assumption), if_pos (by omega)]; done))
theorem pa_p29 : okPA p29 := by
  intro a b tb np pc' ls st ls' st' I I1 I' S S1 e hl hA
  unfold p29 at e ⊢
  (try dsimp only at e)
  (repeat' split at e)
  all_goals first
    | (cases e; done)
    | (cases e; refine ⟨iclr I' _, agI_clr hA, ?_⟩; first | rfl | exact if_pos (by assumption) | (simp only [*]; done) | (simp only [*]; exact if_pos (by assumption)) | (simp only [*]; rfl) | (simp_all; done) | (rw [if_pos (by assumption), if_neg (by omega)]; done) | (rw [if_pos (by assumption), if_pos (by omega)]; done))
theorem pa_p30 : okPA p30 := by
  intro a b tb np pc' ls st ls' st' I I1 I' S S1 e hl hA
  unfold p30 at e ⊢
  (try dsimp only at e)
  (repeat' split at e)
  all_goals first
    | (cases e; done)
    | (cases e; refine ⟨iclr I' _, agI_clr hA, ?_⟩; first | rfl | exact if_pos (by assumption) | (simp only [*]; done) | (simp only [*]; exact if_pos (by assumption)) | (simp only [*]; rfl) | (simp_all; done) | (rw [if_pos (by assumption), if_neg (by omega)]; done) | (rw [if_pos (by assumption), if_pos (by omega)]; done))
theorem pa_p31 : okPA p31 := by
  intro a b tb np pc' ls st ls' st' I I1 I' S S1 e hl hA
  unfold p31 at e ⊢
  (try dsimp only at e)
  (repeat' split at e)
  all_goals first
    | (cases e; done)
    | (cases e; refine ⟨I', hA, ?_⟩; first | rfl | exact if_pos (by assumption) | (simp only [*]; done) | (simp only [*]; exact if_pos (by assumption)) | (simp only [*]; rfl) | (simp_all; done) | (rw [if_pos (by assumption), if_neg (by omega)]; done) | (rw [if_pos (by assumption), if_pos (by omega)]; done))
theorem pa_p32 : okPA p32 := by
  intro a b tb np pc' ls st ls' st' I I1 I' S S1 e hl hA
  unfold p32 at e ⊢
  (try dsimp only at e)
  (repeat' split at e)
  all_goals first
    | (cases e; done)
    | (cases e; refine ⟨I', hA, ?_⟩; first | rfl | exact if_pos (by assumption) | (simp only [*]; done) | (simp only [*]; exact if_pos (by assumption)) | (simp only [*]; rfl) | (simp_all; done) | (rw [if_pos (by assumption), if_neg (by omega)]; done) | (rw [if_pos (by assumption), if_pos (by omega)]; done))
theorem pa_p33 : okPA p33 := by
  intro a b tb np pc' ls st ls' st' I I1 I' S S1 e hl hA
  unfold p33 at e ⊢
  (try dsimp only at e)
  (repeat' split at e)
  all_goals first
    | (cases e; done)
    | (cases e; refine ⟨I', hA, ?_⟩; first | rfl | exact if_pos (by assumption) | (simp only [*]; done) | (simp only [*]; exact if_pos (by assumption)) | (simp only [*]; rfl) | (simp_all; done) | (rw [if_pos (by assumption), if_neg (by omega)]; done) | (rw [if_pos (by assumption), if_pos (by omega)]; done))
theorem pa_p34 : okPA p34 := by
  intro a b tb np pc' ls st ls' st' I I1 I' S S1 e hl hA
  unfold p34 at e ⊢
  (try dsimp only at e)
  (repeat' split at e)
  all_goals first
    | (cases e; done)
    | (cases e; refine ⟨icp I' _ _ _ _ _, agI_cp hA (lt_S (by assumption) hl), ?_⟩; first | rfl | exact if_pos (by assumption) | (simp only [*]; done) | (simp only [*]; exact if_pos (by assumption)) | (simp only [*]; rfl) | (simp_all; done) | (rw [if_pos (by assumption), if_neg (by omega)]; done) | (rw [if_pos (by assumption), if_pos (by omega)]; done))
theorem pa_p35 : okPA p35 := by
  intro a b tb np pc' ls st ls' st' I I1 I' S S1 e hl hA
  unfold p35 at e ⊢
  (try dsimp only at e)
  (repeat' split at e)
  all_goals first
    | (cases e; done)
    | (cases e; refine ⟨I', hA, ?_⟩; first | rfl | exact if_pos (by assumption) | (simp only [*]; done) | (simp only [*]; exact if_pos (by assumption)) | (simp only [*]; rfl) | (simp_all; done) | (rw [if_pos (by assumption), if_neg (by omega)]; done) | (rw [if_pos (by assumption), if_pos (by omega)]; done))
