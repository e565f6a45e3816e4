/-! THE LINE: the pieces in order, and the rank of a piece in it -/
theorem ah_irr (S : MM) (p : Int) : aheadS S p p = false := by unfold aheadS; grind
theorem ah_tr {S : MM} {p q r : Int} (h1 : aheadS S p q = true) (h2 : aheadS S q r = true) : aheadS S p r = true := by
  unfold aheadS at *; grind
theorem ah_tot {S : MM} {p q : Int} (h : p ≠ q) : aheadS S p q = !aheadS S q p := by
  unfold aheadS; grind
/-- a new piece with the greatest number goes behind e, unless its page lies before e's -/
theorem ah_new {S : MM} {n e : Int} (h : e < n) : aheadS S n e = pgLt S (S 46 n) (S 46 e) := by
  unfold aheadS pgLt; grind
theorem ins_sorted (S : MM) (n : Int) : ∀ R : List Int, (∀ e ∈ R, e < n) → R.Pairwise (fun p q => aheadS S q p = true) → (insR S n R).Pairwise (fun p q => aheadS S q p = true)
  | [], _, _ => by simp [insR]
  | e :: R, hb, hs => by
    rw [List.pairwise_cons] at hs
    have he := ah_new (S := S) (hb e List.mem_cons_self)
    rw [insR]
    by_cases hc : pgLt S (S 46 n) (S 46 e) = true
    · rw [if_pos hc, List.pairwise_cons]
      refine ⟨fun q hq => ?_, ins_sorted S n R (fun x hx => hb x (List.mem_cons_of_mem _ hx)) hs.2⟩
      rw [insR_mem] at hq
      rcases hq with rfl | hq
      · rw [he]; exact hc
      · exact hs.1 q hq
    · rw [if_neg hc, List.pairwise_cons, List.pairwise_cons]
      have hen : aheadS S e n = true := by
        rw [ah_tot (show e ≠ n from fun q => by have := hb e List.mem_cons_self; omega), he]; simp [hc]
      refine ⟨fun q hq => ?_, hs⟩
      rcases List.mem_cons.mp hq with rfl | hq
      · exact hen
      · exact ah_tr (hs.1 q hq) hen
theorem ord_sorted (S : MM) : ∀ n : Nat, (ordR S n).Pairwise (fun p q => aheadS S q p = true)
  | 0 => List.Pairwise.nil
  | n + 1 => by
    rw [ordR]
    exact ins_sorted S n _ (fun e he => ((ordR_mem S n e).mp he).2) (ord_sorted S n)
theorem ordL_sorted (S : MM) : (ordL S).Pairwise (fun p q => aheadS S p q = true) := by
  unfold ordL; rw [List.pairwise_reverse]; exact ord_sorted S _
theorem ins_fl (S : MM) (f : Int → Bool) (n : Int) : ∀ R : List Int, ((insR S n R).filter f).length = (R.filter f).length + (if f n then 1 else 0)
  | [] => by rw [insR]; by_cases h : f n = true <;> simp [h]
  | e :: R => by
    rw [insR]
    by_cases hc : pgLt S (S 46 n) (S 46 e) = true
    · rw [if_pos hc]
      by_cases h : f e = true
      · rw [List.filter_cons_of_pos h, List.filter_cons_of_pos h, List.length_cons, List.length_cons, ins_fl S f n R]; omega
      · rw [List.filter_cons_of_neg h, List.filter_cons_of_neg h, ins_fl S f n R]
    · rw [if_neg hc]
      by_cases h : f n = true
      · rw [List.filter_cons_of_pos h, List.length_cons, if_pos h]
      · rw [List.filter_cons_of_neg h, if_neg h]; omega
theorem ord_fl (S : MM) (f : Int → Bool) : ∀ n : Nat, (((ordR S n).filter f).length : Int) = cnN f n
  | 0 => rfl
  | n + 1 => by rw [ordR, ins_fl, cnN, ← ord_fl S f n]; split <;> simp
theorem ordL_fl (S : MM) (f : Int → Bool) : (((ordL S).filter f).length : Int) = cnN f (S 41 12).toNat := by
  unfold ordL; rw [List.filter_reverse, List.length_reverse, ord_fl]
theorem ordL_mem {S : MM} (x : Int) : x ∈ ordL S ↔ isPc S x := by
  unfold ordL isPc; rw [List.mem_reverse, ordR_mem]; omega
/-- in a list laid by a strict order, as many members stand before the one at j as are ahead of it -/
theorem rank_at {R : Int → Int → Bool} (irr : ∀ p, R p p = false) (asy : ∀ p q, R p q = true → R q p = false) : ∀ (L : List Int), L.Pairwise (fun p q => R p q = true) → ∀ j : Nat, (h : j < L.length) → (L.filter (fun q => R q (L[j]'h))).length = j
  | [], _, j, h => absurd h (by simp)
  | e :: L, hs, 0, h => by
    rw [List.pairwise_cons] at hs
    simp only [List.getElem_cons_zero]
    rw [List.filter_cons_of_neg (by rw [irr]; decide), List.length_eq_zero_iff, List.filter_eq_nil_iff]
    intro q hq
    rw [asy _ _ (hs.1 q hq)]; decide
  | e :: L, hs, j + 1, h => by
    rw [List.pairwise_cons] at hs
    simp only [List.getElem_cons_succ]
    have h2 : j < L.length := by rw [List.length_cons] at h; omega
    have h3 : R e (L[j]'h2) = true := hs.1 _ (List.getElem_mem _)
    rw [List.filter_cons_of_pos (p := fun q => R q (L[j]'h2)) h3, List.length_cons, rank_at irr asy L hs.2 j h2]
theorem ah_asy {S : MM} (p q : Int) (h : aheadS S p q = true) : aheadS S q p = false := by
  cases e : aheadS S q p
  · rfl
  · exact absurd (ah_tr h e) (by rw [ah_irr]; decide)
theorem filter_rank {S : MM} (f : Int → Bool) (j : Nat) (h : j < ((ordL S).filter f).length) : cnN (fun q => f q && aheadS S q ((((ordL S).filter f)[j]'h))) (S 41 12).toNat = j := by
  have hr := rank_at (R := aheadS S) (ah_irr S) ah_asy ((ordL S).filter f) ((ordL_sorted S).filter f) j h
  rw [List.filter_filter] at hr
  rw [← ordL_fl S]
  have e : (fun q => f q && aheadS S q ((((ordL S).filter f)[j]'h))) = fun a => aheadS S a (((ordL S).filter f)[j]'h) && f a := funext fun q => Bool.and_comm _ _
  rw [e]
  exact_mod_cast hr
theorem rank_lt {S : MM} (f : Int → Bool) {p : Int} (hp : isPc S p) (hf : f p = true) : ∃ j : Nat, ∃ h : j < ((ordL S).filter f).length, ((ordL S).filter f)[j]'h = p ∧ cnN (fun q => f q && aheadS S q p) (S 41 12).toNat = j := by
  have hm : p ∈ (ordL S).filter f := List.mem_filter.mpr ⟨(ordL_mem p).mpr hp, hf⟩
  obtain ⟨j, h, e⟩ := List.mem_iff_getElem.mp hm
  exact ⟨j, h, e, by have := filter_rank f j h; rw [e] at this; exact this⟩
