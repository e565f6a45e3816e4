/-! THE CLASS: order, its makers -/
def PNewO (x : Int) (w : NS) (M : MM) (c r p f u m o : Int) : Int → NS → MM → Prop := fun _ w' M' =>
  w = w' ∧ (∀ y, y ≠ x → M' y = M y) ∧ (M' x 0 = c ∧ M' x 2 = p ∧ M' x 3 = f ∧ M' x 4 = u ∧ M' x 5 = m ∧ M' x 6 = o) ∧ M' x 1 = r
theorem cc_X3_init {G : GP} {l : Launch} {w : NS} {M : MM} {x c r p f u m o : Int} (hx : w.2 x = (4, 7)) (hob : o = 0 ∨ o = 1) : CT_X3_init G l [(2, x), (0, c), (2, r), (0, p), (0, f), (0, u), (0, m), (0, o)] w M (PNewO x w M c r p f u m o) := by
  refine E_X3_init (fun _ _ _ _ _ _ X hX C => ?_)
  refine B_X3_init_0 (rc := 0) (rs := 0) C ⟨hx, ?_⟩
  rintro _ rfl _ rfl _ rfl _ rfl _ rfl _ rfl
  refine ⟨hob, ?_⟩
  rintro M5 hM5
  have n0 : ∀ i, M5 x i = if i = 6 then o else if i = 5 then m else if i = 4 then u else if i = 3 then f else if i = 2 then p else if i = 1 then r else if i = 0 then c else M x i := fun i => by
    rw [hM5]; unfold up; simp only [true_and, and_true]
  refine ⟨rfl, fun y hy => by rw [hM5, up_fn hy, up_fn hy, up_fn hy, up_fn hy, up_fn hy, up_fn hy, up_fn hy], ⟨?_, ?_, ?_, ?_, ?_, ?_⟩, ?_⟩
  all_goals (rw [n0]; rfl)
def PNewR (x : Int) (w : NS) (M : MM) : Int → NS → MM → Prop := fun _ w' M' =>
  w' = (w.1 + 1, us w.2 w.1 12 40) ∧ (∀ y, y ≠ x → M' y = M y) ∧ M' x 0 = x + 1 ∧ M' x 1 = 0
theorem cc_X8_init {G : GP} {l : Launch} {w : NS} {M : MM} {x : Int} (hx : w.2 x = (9, 2)) (hw : (w.1 : Int) = x + 1) : CT_X8_init G l [(2, x)] w M (PNewR x w M) := by
  refine E_X8_init (fun X hX C => ?_)
  refine B_X8_init_0 (rc := 0) (rs := 0) C ⟨hx, ?_⟩
  rintro _ rfl
  refine ⟨by omega, ?_⟩
  rintro _ rfl M5 hM5
  refine ⟨rfl, fun y hy => by rw [hM5, up_fn hy, up_fn hy], ?_, ?_⟩
  · rw [hM5, up_ni (by decide), up_eq]; exact hw
  · rw [hM5, up_eq]
