/-! THE CLASS: piece -/
def PNewK (x : Int) (w : NS) (M : MM) (a g t b c d : Int) : Int → NS → MM → Prop := fun _ w' M' =>
  w' = (w.1 + 1, us w.2 w.1 12 60) ∧ (∀ y, y ≠ x → M' y = M y) ∧ M' x 0 = a ∧ M' x 1 = g ∧ (M' x 2 = t ∧ M' x 3 = b ∧ M' x 4 = c ∧ M' x 5 = d) ∧ M' x 6 = x + 1 ∧ M' x 7 = 0 ∧ M' x 10 = 0 ∧ M' x 11 = 0
theorem cc_X6_init {G : GP} {l : Launch} {w : NS} {M : MM} {x a g t b c d : Int} (hx : w.2 x = (7, 12)) (hw : (w.1 : Int) = x + 1) : CT_X6_init G l [(2, x), (0, a), (2, g), (0, t), (0, b), (0, c), (0, d)] w M (PNewK x w M a g t b c d) := by
  refine E_X6_init (fun _ _ _ _ _ X hX C => ?_)
  refine B_X6_init_0 (rc := 0) (rs := 0) C ⟨hx, ?_⟩
  rintro _ rfl
  refine ⟨by omega, ?_⟩
  rintro _ rfl _ rfl _ rfl _ rfl _ rfl _ rfl _ rfl _ rfl _ rfl _ rfl _ rfl M5 hM5
  have n0 : ∀ i, M5 x i = if i = 5 then d else if i = 4 then c else if i = 3 then b else if i = 2 then t else if i = 1 then g else if i = 0 then a else if i = 11 then 0 else if i = 10 then 0 else if i = 9 then 0 else if i = 8 then 0 else if i = 7 then 0 else if i = 6 then (w.1 : Int) else M x i := fun i => by
    rw [hM5]; unfold up; simp only [true_and, and_true]
  have n1 : ∀ y, y ≠ x → M5 y = M y := fun y hy => by rw [hM5, up_fn hy, up_fn hy, up_fn hy, up_fn hy, up_fn hy, up_fn hy, up_fn hy, up_fn hy, up_fn hy, up_fn hy, up_fn hy, up_fn hy]
  refine ⟨rfl, n1, ?_, ?_, ⟨?_, ?_, ?_, ?_⟩, ?_, ?_, ?_, ?_⟩
  all_goals (rw [n0]; first | rfl | (rw [← hw]; rfl))
def latB (M : MM) (x y : Int) : Bool := if M x 2 = M y 2 then decide (M y 1 < M x 1) else decide (M y 2 < M x 2)
theorem cc_isLaterThan {G : GP} {l : Launch} {w : NS} {M : MM} {x y : Int} (hx : w.2 x = (5, 5)) (hy : w.2 y = (5, 5)) : CT_X4_isLaterThan G l [(2, x), (2, y)] w M (PE (bi (latB M x y)) w M) := by
  refine E_X4_isLaterThan (fun X hX C => ?_)
  refine B_X4_isLaterThan_0 C ⟨hx, hy, ?_⟩
  have pe : ∀ z, bi (latB M x y) = z → PE (bi (latB M x y)) w M z w M := fun z hz => ⟨hz, rfl, rfl⟩
  unfold latB bi at pe ⊢
  repeat' (first | with_reducible refine And.intro ?_ ?_ | with_reducible intro _)
  all_goals (refine pe _ ?_; grind)
