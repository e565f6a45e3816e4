/-! THE MAKER of the model, and the first state -/
theorem ce_X10 {G : GP} {l : Launch} : CT_X10_init G l [(2, 41)] (wN 42) M01 (EX (wN 84) M02) := by
  refine E_X10_init (fun X hX C => ?_)
  refine B_X10_init_0 (rc := 38) (rs := 4608) C ⟨by decide +kernel, wst (by decide) (by decide +kernel) ⟨by decide +kernel, ?_⟩⟩
  rintro _ rfl
  refine wst (by decide) (by decide +kernel) ?_
  rintro _ rfl
  refine wst (by decide) (by decide +kernel) ?_
  rintro _ rfl
  refine wst (by decide) (by decide +kernel) ?_
  rintro _ rfl
  refine B_X10_init_37 (rc := 34) (rs := 4512) C (wst (by decide) (by decide +kernel) ⟨by decide +kernel, ?_⟩)
  rintro _ rfl
  refine wst (by decide) (by decide +kernel) ⟨by decide +kernel, ?_⟩
  rintro _ rfl
  refine wst (by decide) (by decide +kernel) ?_
  rintro _ rfl
  refine wst (by decide) (by decide +kernel) ?_
  rintro _ rfl
  refine B_X10_init_69 (rc := 30) (rs := 4431) C (wst (by decide) (by decide +kernel) ⟨by decide +kernel, ?_⟩)
  rintro _ rfl
  refine wst (by decide) (by decide +kernel) ⟨by decide +kernel, ?_⟩
  rintro _ rfl
  refine wst (by decide) (by decide +kernel) ?_
  rintro _ rfl
  refine wst (by decide) (by decide +kernel) ?_
  rintro _ rfl
  refine B_X10_init_101 (rc := 26) (rs := 3860) C (wst (by decide) (by decide +kernel) ⟨by decide +kernel, ?_⟩)
  rintro _ rfl
  refine wst (by decide) (by decide +kernel) ⟨by decide +kernel, ?_⟩
  rintro _ rfl
  refine wst (by decide) (by decide +kernel) ?_
  rintro _ rfl
  refine wst (by decide) (by decide +kernel) ?_
  rintro _ rfl
  refine B_X10_init_134 (rc := 22) (rs := 3820) C (wst (by decide) (by decide +kernel) ⟨by decide +kernel, ?_⟩)
  rintro _ rfl
  refine wst (by decide) (by decide +kernel) ⟨by decide +kernel, ?_⟩
  rintro _ rfl
  refine wst (by decide) (by decide +kernel) ?_
  rintro _ rfl
  refine wst (by decide) (by decide +kernel) ?_
  rintro _ rfl
  refine B_X10_init_166 (rc := 18) (rs := 3780) C (wst (by decide) (by decide +kernel) ⟨by decide +kernel, ?_⟩)
  rintro _ rfl
  refine wst (by decide) (by decide +kernel) ⟨by decide +kernel, ?_⟩
  rintro _ rfl
  refine wst (by decide) (by decide +kernel) ?_
  rintro _ rfl
  refine wst (by decide) (by decide +kernel) ?_
  rintro _ rfl
  refine B_X10_init_198 (rc := 14) (rs := 3109) C (wst (by decide) (by decide +kernel) ⟨by decide +kernel, ?_⟩)
  rintro _ rfl
  refine wst (by decide) (by decide +kernel) ⟨by decide +kernel, ?_⟩
  rintro _ rfl
  refine wst (by decide) (by decide +kernel) ?_
  rintro _ rfl
  refine wst (by decide) (by decide +kernel) ?_
  rintro _ rfl
  refine B_X10_init_231 (rc := 10) (rs := 2657) C (wst (by decide) (by decide +kernel) ⟨by decide +kernel, ?_⟩)
  rintro _ rfl
  refine wst (by decide) (by decide +kernel) ⟨by decide +kernel, ?_⟩
  rintro _ rfl
  refine wst (by decide) (by decide +kernel) ?_
  rintro _ rfl
  refine wst (by decide) (by decide +kernel) ?_
  rintro _ rfl
  refine B_X10_init_263 (rc := 6) (rs := 75) C (wst (by decide) (by decide +kernel) ⟨by decide +kernel, ?_⟩)
  rintro _ rfl
  refine wst (by decide) (by decide +kernel) ⟨by decide +kernel, ?_⟩
  rintro _ rfl
  refine wst (by decide) (by decide +kernel) ?_
  rintro _ rfl
  refine wst (by decide) (by decide +kernel) ?_
  rintro _ rfl
  refine B_X10_init_295 (rc := 2) (rs := 11) C (wst (by decide) (by decide +kernel) ⟨by decide +kernel, ?_⟩)
  rintro _ rfl
  refine wst (by decide) (by decide +kernel) ⟨by decide +kernel, ?_⟩
  rintro _ rfl
  refine wst (by decide) (by decide +kernel) ?_
  rintro _ rfl
  refine wst (by decide) (by decide +kernel) ?_
  rintro _ rfl
  refine B_X10_init_327 (rc := 0) (rs := 0) C (wst (by decide) (by decide +kernel) ⟨by decide +kernel, ?_⟩)
  rintro _ rfl
  refine wst (by decide) (by decide +kernel) ⟨by decide +kernel, ?_⟩
  rintro _ rfl
  show A_X10_init_344 G X (EX (wN 84) M02) 41 0 0 0 (wN 84) (ups M01 LA)
  have K : ∀ n : Int, n ≤ 480 → 0 ≤ n → A_X10_init_344 G X (EX (wN 84) M02) 41 n 0 0 (wN 84) (fil (ups M01 LA) n) := up_ind _ (fun n hn ih n0 => by
    have r41 : ∀ i, fil (ups M01 LA) n 41 i = ups M01 LA 41 i := fun i => by rw [fil_row (by decide)]
    have e0 : ups M01 LA 41 0 = 42 := by decide +kernel
    have e13 : ups M01 LA 41 13 = 53 := by decide +kernel
    refine B_X10_init_344 (rc := 0) (rs := 0) C ⟨fun h => ?_, fun h => ⟨by decide +kernel, by rw [r41, e0]; decide +kernel, n0, by omega, ?_⟩⟩
    · have hn2 : n = 480 := by omega
      clear ih
      subst hn2
      simp (discharger := decide) only [up_row, r41, e13]
      refine ⟨by decide +kernel, by decide +kernel, ?_⟩
      rintro _ rfl
      simp (discharger := decide) only [up_row, r41, e13]
      refine ⟨by decide +kernel, ?_⟩
      rintro _ rfl
      simp (discharger := decide) only [up_row, r41, e13]
      refine ⟨by decide +kernel, ?_⟩
      rintro _ rfl
      simp (discharger := decide) only [up_row, r41, e13]
      refine ⟨by decide +kernel, ?_⟩
      rintro _ rfl
      simp (discharger := decide) only [up_row, r41, e13]
      refine ⟨by decide +kernel, ?_⟩
      rintro _ rfl
      simp (discharger := decide) only [up_row, r41, e13]
      refine ⟨by decide +kernel, ?_⟩
      rintro _ rfl
      simp (discharger := decide) only [up_row, r41, e13]
      refine ⟨by decide +kernel, ?_⟩
      rintro _ rfl
      simp (discharger := decide) only [up_row, r41, e13]
      refine ⟨by decide +kernel, ?_⟩
      rintro _ rfl
      have e38 : ups M01 LA 41 38 = 72 := by decide +kernel
      have e45 : ups M01 LA 41 45 = 78 := by decide +kernel
      refine B_X10_init_430 (rc := 0) (rs := 0) C ⟨fun h => absurd h (by decide), fun h => ⟨by decide +kernel, ?_⟩⟩
      simp (discharger := decide) only [up_row, r41, e38]
      refine ⟨by decide +kernel, by decide, by decide, ?_⟩
      rintro _ rfl
      refine ⟨iR (by decide) (by decide), ?_⟩
      refine B_X10_init_430 (rc := 0) (rs := 0) C ⟨fun h => absurd h (by decide), fun h => ⟨by decide +kernel, ?_⟩⟩
      simp (discharger := decide) only [up_row, r41, e38]
      refine ⟨by decide +kernel, by decide, by decide, ?_⟩
      rintro _ rfl
      refine ⟨iR (by decide) (by decide), ?_⟩
      refine B_X10_init_430 (rc := 0) (rs := 0) C ⟨fun h => absurd h (by decide), fun h => ⟨by decide +kernel, ?_⟩⟩
      simp (discharger := decide) only [up_row, r41, e38]
      refine ⟨by decide +kernel, by decide, by decide, ?_⟩
      rintro _ rfl
      refine ⟨iR (by decide) (by decide), ?_⟩
      refine B_X10_init_430 (rc := 0) (rs := 0) C ⟨fun h => absurd h (by decide), fun h => ⟨by decide +kernel, ?_⟩⟩
      simp (discharger := decide) only [up_row, r41, e38]
      refine ⟨by decide +kernel, by decide, by decide, ?_⟩
      rintro _ rfl
      refine ⟨iR (by decide) (by decide), ?_⟩
      refine B_X10_init_430 (rc := 0) (rs := 0) C ⟨fun h => ?_, fun h => absurd (by decide) h⟩
      refine B_X10_init_451 (rc := 0) (rs := 0) C ⟨fun h => absurd h (by decide), fun h => ⟨by decide +kernel, iR (by decide) (by decide), ?_⟩⟩
      simp (discharger := decide) only [up_row, r41, e45]
      refine ⟨by decide +kernel, by decide, by decide, ?_⟩
      rintro _ rfl
      simp (discharger := decide) only [up_row, r41, e45]
      refine ⟨iR (by decide) (by decide), by decide +kernel, by decide, by decide, ?_⟩
      rintro _ rfl
      refine ⟨iR (by decide) (by decide), ?_⟩
      refine B_X10_init_451 (rc := 0) (rs := 0) C ⟨fun h => absurd h (by decide), fun h => ⟨by decide +kernel, iR (by decide) (by decide), ?_⟩⟩
      simp (discharger := decide) only [up_row, r41, e45]
      refine ⟨by decide +kernel, by decide, by decide, ?_⟩
      rintro _ rfl
      simp (discharger := decide) only [up_row, r41, e45]
      refine ⟨iR (by decide) (by decide), by decide +kernel, by decide, by decide, ?_⟩
      rintro _ rfl
      refine ⟨iR (by decide) (by decide), ?_⟩
      refine B_X10_init_451 (rc := 0) (rs := 0) C ⟨fun h => absurd h (by decide), fun h => ⟨by decide +kernel, iR (by decide) (by decide), ?_⟩⟩
      simp (discharger := decide) only [up_row, r41, e45]
      refine ⟨by decide +kernel, by decide, by decide, ?_⟩
      rintro _ rfl
      simp (discharger := decide) only [up_row, r41, e45]
      refine ⟨iR (by decide) (by decide), by decide +kernel, by decide, by decide, ?_⟩
      rintro _ rfl
      refine ⟨iR (by decide) (by decide), ?_⟩
      refine B_X10_init_451 (rc := 0) (rs := 0) C ⟨fun h => absurd h (by decide), fun h => ⟨by decide +kernel, iR (by decide) (by decide), ?_⟩⟩
      simp (discharger := decide) only [up_row, r41, e45]
      refine ⟨by decide +kernel, by decide, by decide, ?_⟩
      rintro _ rfl
      simp (discharger := decide) only [up_row, r41, e45]
      refine ⟨iR (by decide) (by decide), by decide +kernel, by decide, by decide, ?_⟩
      rintro _ rfl
      refine ⟨iR (by decide) (by decide), ?_⟩
      refine B_X10_init_451 (rc := 0) (rs := 0) C ⟨fun h => ?_, fun h => absurd (by decide) h⟩
      exact ⟨rfl, rfl⟩
    · rw [r41, e0]
      rintro _ rfl
      rw [fil_s n0]
      exact ⟨iR (by omega) (by omega), ih (n + 1) (by omega) (by omega) (by omega)⟩)
  have := K 0 (by decide) (by decide)
  rw [fil_0] at this
  exact this
