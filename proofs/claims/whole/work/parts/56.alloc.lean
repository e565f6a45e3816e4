/-! NEW CELLS: what the fixed part keeps, and the makers of pages -/
theorem fixD_in : ∀ e ∈ fixD, e.1 ≠ 0 ∧ e.1 ≠ 12 ∧ ∀ e' ∈ fixD, e.1 = e'.1 → e = e' := by decide +kernel
/-- an object with its row behind it, made at w.1 -/
theorem FixA.grow {w : NS} {M M' : MM} {t n k m : Nat} (hF : FixA w M) (hr : ∀ a : Int, 0 < (w.2 a).1 → 0 < a ∧ a < w.1) (he : (t, n, k, m) ∈ fixD) (hm : ∀ x : Int, x < w.1 → M' x = M x) (hk : M' (w.1 : Int) k = (w.1 : Int) + 1) : FixA (w.1 + 2, us (us w.2 w.1 t n) ((w.1 : Int) + 1) 12 m) M' := by
  obtain ⟨h1, h2, h3, h4⟩ := hF
  refine ⟨fun a ha ha2 => ?_, fun e he2 => ?_, fun e he2 a ha => ?_, by show nFix < w.1 + 2; omega⟩
  · have : (nFix : Int) < w.1 := by exact_mod_cast h4
    exact us_ne (us_ne (h1 a ha ha2) (by omega)) (by omega)
  · have hb := fixL_in e he2
    have : (nFix : Int) < w.1 := by exact_mod_cast h4
    rw [hm e.1 (by omega)]; exact h2 e he2
  · have hd := fixD_in e he2
    have ha2 : us (us w.2 w.1 t n) ((w.1 : Int) + 1) 12 m a = (e.1, e.2.1) := ha
    by_cases c1 : a = (w.1 : Int) + 1
    · rw [c1, us_new] at ha2
      exact absurd (congrArg Prod.fst ha2).symm hd.2.1
    · by_cases c2 : a = w.1
      · rw [c2, us_ne (us_new _ _ _ _) (by omega)] at ha2
        have e1 : e = (t, n, k, m) := hd.2.2 _ he (congrArg Prod.fst ha2).symm
        rw [c2, e1]
        exact ⟨hk, us_new _ _ _ _⟩
      · have ha3 : w.2 a = (e.1, e.2.1) := by
          unfold us at ha2; rw [if_neg c1, if_neg c2] at ha2; exact ha2
        obtain ⟨q1, q2⟩ := h3 e he2 a ha3
        have l1 := (hr a (by rw [ha3]; exact Nat.pos_of_ne_zero hd.1)).2
        have l2 := (hr (a + 1) (by rw [q2]; exact (by decide : 0 < 12))).2
        refine ⟨by rw [hm a l1]; exact q1, us_ne (us_ne q2 (by omega)) (by omega)⟩
def PNew (x : Int) (w : NS) (M : MM) (a b c : Int) : Int → NS → MM → Prop := fun _ w' M' =>
  w' = (w.1 + 1, us w.2 w.1 12 60) ∧ (∀ y, y ≠ x → y ≠ x + 1 → M' y = M y) ∧ M' x 0 = a ∧ M' x 1 = b ∧ M' x 2 = c ∧ M' x 3 = x + 1 ∧ M' x 4 = 0 ∧ ∀ i, 0 ≤ i → i < 60 → M' (x + 1) i = -6
theorem cc_X4_init {G : GP} {l : Launch} {w : NS} {M : MM} {x a b c : Int} (hx : w.2 x = (5, 5)) (hw : (w.1 : Int) = x + 1) : CT_X4_init G l [(2, x), (0, a), (0, b), (0, c)] w M (PNew x w M a b c) := by
  refine E_X4_init (fun _ _ _ X hX C => ?_)
  refine B_X4_init_0 (rc := 0) (rs := 0) C ⟨hx, ?_⟩
  rintro w2 hw2
  refine ⟨by omega, ?_⟩
  rintro _ rfl _ rfl _ rfl _ rfl M5 hM5
  have n0 : ∀ i, M5 x i = if i = 2 then c else if i = 1 then b else if i = 0 then a else if i = 4 then 0 else if i = 3 then (w.1 : Int) else M x i := fun i => by
    rw [hM5]; unfold up; simp only [true_and, and_true]
  have n1 : ∀ y, y ≠ x → M5 y = M y := fun y hy => by rw [hM5, up_fn hy, up_fn hy, up_fn hy, up_fn hy, up_fn hy]
  have hx2 : w2.2 x = (5, 5) := by rw [hw2]; exact us_ne hx (by omega)
  have hr2 : w2.2 (x + 1) = (12, 60) := by rw [hw2, ← hw]; exact us_new _ _ _ _
  have L := up_ind (P := fun i => ∀ M1 : MM, 0 ≤ i → (∀ y, y ≠ x + 1 → M1 y = M5 y) → (∀ j, 0 ≤ j → j < i → M1 (x + 1) j = -6) → A_X4_init_35 G X (PNew x w M a b c) x i 0 0 w2 M1) 60 (fun i hi ih M1 h0 h1 h2 => by
    refine B_X4_init_35 C ?_
    have e3 : M1 x 3 = x + 1 := by rw [h1 x (by omega), n0 3, ← hw, if_neg (by decide), if_neg (by decide), if_neg (by decide), if_neg (by decide), if_pos rfl]
    refine ⟨fun h => ⟨hw2, fun y hy hy2 => (h1 y hy2).trans (n1 y hy), ?_, ?_, ?_, e3, ?_, fun j hj hj2 => h2 j hj (by omega)⟩, fun h => ⟨hx2, by rw [e3]; exact hr2, h0, by omega, ?_⟩⟩
    · rw [h1 x (by omega), n0]; rfl
    · rw [h1 x (by omega), n0]; rfl
    · rw [h1 x (by omega), n0]; rfl
    · rw [h1 x (by omega), n0]; rfl
    · rintro _ rfl
      rw [e3]
      refine ⟨by omega, ih (i + 1) (by omega) (by omega) _ (by omega) (fun y hy => (up_fn hy).trans (h1 y hy)) (fun j hj hj2 => ?_)⟩
      by_cases ej : j = i
      · rw [ej, up_eq]
      · rw [up_ni ej]; exact h2 j hj (by omega))
  exact L 0 (by omega) M5 (by omega) (fun y _ => rfl) (fun j h1 h2 => by omega)
