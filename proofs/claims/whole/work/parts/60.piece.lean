/-! THE CLASS: piece, put together -/
theorem ordR_cg {S S' : MM} (h43 : S' 43 = S 43) (h44 : S' 44 = S 44) : ∀ n : Nat, (∀ k : Int, 0 ≤ k → k < n → S' 46 k = S 46 k) → ordR S' n = ordR S n
  | 0, _ => rfl
  | n + 1, h => by
    rw [ordR, ordR, ordR_cg h43 h44 n (fun k h1 h2 => h k h1 (by omega))]
    have hm : ∀ e ∈ ordR S n, S' 46 e = S 46 e := fun e he => by
      have := (ordR_mem S n e).mp he
      exact h e this.1 (by omega)
    have hn := h n (by omega) (by omega)
    generalize ordR S n = R at hm ⊢
    induction R with
    | nil => rfl
    | cons e R ih =>
      have he := hm e List.mem_cons_self
      have e1 : pgLt S' (S' 46 n) (S' 46 e) = pgLt S (S 46 n) (S 46 e) := by unfold pgLt; rw [hn, he, h43, h44]
      rw [insR, insR, e1, ih (fun q hq => hm q (List.mem_cons_of_mem _ hq))]
