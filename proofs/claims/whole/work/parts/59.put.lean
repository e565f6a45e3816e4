/-! THE CLASS: a piece is put in order -/
theorem gd_l {L K : List Int} {j : Nat} (h : j < L.length) : (L ++ K).getD j 0 = L.getD j 0 := by
  rw [List.getD_eq_getElem?_getD, List.getD_eq_getElem?_getD, List.getElem?_append_left h]
theorem gd_r {L K : List Int} {j : Nat} (h : L.length ≤ j) : (L ++ K).getD j 0 = K.getD (j - L.length) 0 := by
  rw [List.getD_eq_getElem?_getD, List.getD_eq_getElem?_getD, List.getElem?_append_right h]
def PPut (S : MM) (n : Nat) (R : List Int) (w : NS) (M : MM) : Int → NS → MM → Prop := fun _ w' M' =>
  w = w' ∧ (∀ y, y ≠ 5 → M' y = M y) ∧ ∀ j : Nat, j < n + 1 → M' 5 j = M 4 ((insR S n R).reverse.getD j 0)
theorem cc_putInOrder {G : GP} {l : Launch} {w : NS} {S M : MM} {x : Int} {n : Nat} {R : List Int} (hn : M 1 4 = n) (hn2 : n < 24) (hx : w.2 x = (7, 12)) (hx5 : x ≠ 5 ∧ M x 1 ≠ 5) (hxp : w.2 (M x 1) = (5, 5)) (hxn : M 4 n = x) (hR : R.length = n) (hl : ∀ j : Nat, j < n → M 5 j = M 4 (R.reverse.getD j 0)) (hg : ∀ e ∈ R, w.2 (M 4 e) = (7, 12) ∧ w.2 (M (M 4 e) 1) = (5, 5) ∧ M 4 e ≠ 5 ∧ M (M 4 e) 1 ≠ 5 ∧ latB M (M (M 4 e) 1) (M x 1) = pgLt S (S 46 n) (S 46 e)) : CT_X9_putInOrder G l [(2, 1), (2, x)] w M (PPut S n R w M) := by
  refine E_X9_putInOrder (fun X hX C => ?_)
  have fin : ∀ (A B : List Int) (M1 : MM) (z : Int), (∀ y, y ≠ 5 → M1 y = M y) → A.length + B.length = n → insR S n R = A ++ (n : Int) :: B → (∀ j : Nat, j < B.length → M1 5 j = M 4 (B.reverse.getD j 0)) → (∀ j : Nat, j < A.length → M1 5 ((B.length + 1 + j : Nat) : Int) = M 4 (A.reverse.getD j 0)) → PPut S n R w M z w (up M1 5 (B.length : Int) x) := fun A B M1 z h1 h2 h3 h4 h5 => by
    refine ⟨rfl, fun y hy => (up_fn hy).trans (h1 y hy), fun j hj => ?_⟩
    rw [h3, List.reverse_append, List.reverse_cons, List.append_assoc]
    by_cases c1 : j < B.length
    · rw [up_ni (by omega), gd_l (by rw [List.length_reverse]; exact c1), h4 j c1]
    · rw [gd_r (by rw [List.length_reverse]; omega), List.length_reverse]
      by_cases c2 : j = B.length
      · rw [c2, up_eq, Nat.sub_self]; exact hxn.symm
      · rw [up_ni (by omega), gd_r (by show 1 ≤ _; omega)]
        have := h5 (j - B.length - 1) (by omega)
        rw [show B.length + 1 + (j - B.length - 1) = j by omega] at this
        exact this
  have L : ∀ (B A : List Int) (M1 : MM), (∀ y, y ≠ 5 → M1 y = M y) → A.length + B.length = n → (∀ e ∈ B, e ∈ R) → insR S n R = A ++ insR S n B → (∀ j : Nat, j < B.length → M1 5 j = M 4 (B.reverse.getD j 0)) → (∀ j : Nat, j < A.length → M1 5 ((B.length + 1 + j : Nat) : Int) = M 4 (A.reverse.getD j 0)) → A_X9_putInOrder_5 G X (PPut S n R w M) x (B.length : Int) w M1 := by
    intro B
    induction B with
    | nil =>
      intro A M1 h1 h2 hm h3 h4 h5
      refine B_X9_putInOrder_5 C ?_
      refine ⟨fun _ => ⟨by simp, by simp, hx, fin A [] M1 0 h1 h2 h3 h4 h5⟩, fun h => absurd (by simp) h⟩
    | cons e B ih =>
      intro A M1 h1 h2 hm h3 h4 h5
      refine B_X9_putInOrder_5 C ?_
      obtain ⟨g1, g2, g3, g4, g5⟩ := hg e (hm e List.mem_cons_self)
      rw [List.length_cons] at h2 h4 h5 ⊢
      have e5 : M1 5 (B.length : Int) = M 4 e := by
        rw [h4 B.length (by omega), List.reverse_cons, gd_r (by simp), List.length_reverse, Nat.sub_self]; rfl
      have ei : ((B.length + 1 : Nat) : Int) - 1 = (B.length : Int) := by omega
      rw [ei, e5, h1 _ g3, h1 _ hx5.1]
      refine ⟨fun h => by omega, fun h => ⟨by omega, by omega, by omega, g1, hx, g2, _, cc_isLaterThan g2 hxp, ?_⟩⟩
      rintro _ _ _ ⟨rfl, rfl, rfl⟩
      have elat : latB M1 (M (M 4 e) 1) (M x 1) = latB M (M (M 4 e) 1) (M x 1) := by
        unfold latB; rw [h1 _ g4, h1 _ hx5.2]
      rw [elat, g5, e5]
      by_cases hc : pgLt S (S 46 n) (S 46 e) = true
      · rw [hc]
        refine ⟨fun h => absurd h (by decide), fun h => ⟨by omega, by omega, g1, by omega, ?_⟩⟩
        have e6 : ((B.length + 1 : Nat) : Int) + (-1) = (B.length : Int) := by omega
        rw [e6]
        refine ih (A ++ [e]) _ (fun y hy => (up_fn hy).trans (h1 y hy)) (by rw [List.length_append]; simp; omega) (fun q hq => hm q (List.mem_cons_of_mem _ hq)) (by rw [h3, insR, if_pos hc, List.append_assoc]; rfl) (fun j hj => ?_) (fun j hj => ?_)
        · rw [up_ni (by omega), h4 j (by omega), List.reverse_cons, gd_l (by rw [List.length_reverse]; exact hj)]
        · rw [List.length_append] at hj
          rw [List.reverse_append]
          by_cases c : j = 0
          · rw [c, Nat.add_zero, up_eq]; rfl
          · have hj2 : j < A.length + 1 := hj
            rw [up_ni (by omega), gd_r (by show 1 ≤ j; omega)]
            have := h5 (j - 1) (by omega)
            rw [show B.length + 1 + 1 + (j - 1) = B.length + 1 + j by omega] at this
            exact this
      · have hc2 : pgLt S (S 46 n) (S 46 e) = false := by simpa using hc
        rw [hc2]
        refine ⟨fun h => ⟨by omega, by omega, hx, ?_⟩, fun h => absurd rfl h⟩
        refine fin A (e :: B) M1 0 h1 (by rw [List.length_cons]; exact h2) (by rw [h3, insR, if_neg hc]) (by rw [List.length_cons]; exact h4) (by rw [List.length_cons]; exact h5)
  refine B_X9_putInOrder_0 C ?_
  rw [hn, show (n : Int) = (R.length : Int) by rw [hR]]
  exact L R [] M (fun _ _ => rfl) (by simpa using hR) (fun _ h => h) rfl (fun j hj => hl j (by omega)) (fun j hj => absurd hj (by simp))
