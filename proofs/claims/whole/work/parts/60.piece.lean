/-! THE CLASS: piece, put together -/
theorem ordR_cg {S S' : MM} (h43 : S' 43 = S 43) (h44 : S' 44 = S 44) : ∀ n : Nat, (∀ k : Int, 0 ≤ k → k < n → S' 46 k = S 46 k) → ordR S' n = ordR S n
  | 0, _ => rfl
  | n + 1, h => by
    rw [ordR, ordR, ordR_cg h43 h44 n (fun k h1 h2 => h k h1 (by omega))]
    have hm : ∀ e ∈ ordR S n, S' 46 e = S 46 e := fun e he => by
      have := (ordR_mem S n e).mp he
      exact h e this.1 (by omega)
    have hn := h n (by omega) (by omega)
    generalize ordR S n = R at hm ⊢
    induction R with
    | nil => rfl
    | cons e R ih =>
      have he := hm e List.mem_cons_self
      have e1 : pgLt S' (S' 46 n) (S' 46 e) = pgLt S (S 46 n) (S 46 e) := by unfold pgLt; rw [hn, he, h43, h44]
      rw [insR, insR, e1, ih (fun q hq => hm q (List.mem_cons_of_mem _ hq))]
theorem CInv.newPiece {S S' : MM} {w w' : NS} {M M' : MM} {n : Nat} {p x : Int} (hC : CInv S w M) (hI : SInv S) (hn : S 41 12 = n) (hp : isPg S p)
    (s : ∀ y, y ≠ 41 → ¬ (46 ≤ y ∧ y ≤ 50) → S' y = S y) (s41 : ∀ i, i ≠ 12 → S' 41 i = S 41 i) (s12 : S' 41 12 = n + 1) (sk : ∀ y k : Int, 46 ≤ y → y ≤ 50 → k ≠ (n : Int) → S' y k = S y k) (s46 : S' 46 n = p)
    (wo : ∀ y t m, w.2 y = (t, m) → t ≠ 0 → y < x ∧ w'.2 y = (t, m)) (hx : 83 < x) (wx : w'.2 x = (7, 12)) (wx1 : w'.2 (x + 1) = (12, 60))
    (o : ∀ y, y < x → y ≠ 1 → y ≠ 4 → y ≠ 5 → y ≠ 9 → M' y = M y) (o1 : ∀ i, i ≠ 4 → M' 1 i = M 1 i) (o14 : M' 1 4 = n + 1) (o4 : ∀ i : Int, i ≠ (n : Int) → M' 4 i = M 4 i) (o4n : M' 4 n = x) (h9 : M' 9 0 = 0)
    (x0 : M' x 0 = n) (x1 : M' x 1 = M 3 p) (x2 : M' x 2 = S' 47 n ∧ M' x 3 = S' 48 n ∧ M' x 4 = S' 49 n ∧ M' x 5 = S' 50 n) (x3 : M' x 10 = 0 ∧ M' x 11 = 0) (x7 : M' x 7 = (wl S' n).length) (xw : AL M' (x + 1) (wl S' n))
    (hln : ∀ j : Nat, j < n + 1 → M' 5 j = M' 4 ((insR S' n (ordR S n)).reverse.getD j 0)) : CInv S' w' M' := by
  have swl : ∀ k, k ≠ (n : Int) → wl S' k = wl S k := fun k hk => wl_c (s 42 (by decide) (by decide)) (sk 46 k (by decide) (by decide) hk) (sk 47 k (by decide) (by decide) hk) (sk 48 k (by decide) (by decide) hk) (sk 49 k (by decide) (by decide) hk) (sk 50 k (by decide) (by decide) hk)
  have o3 : M' 3 = M 3 := o 3 (by omega) (by decide) (by decide) (by decide) (by decide)
  have s' : ∀ y i, y ≠ 41 → ¬ (46 ≤ y ∧ y ≤ 50) → S' y i = S y i := fun y i h1 h2 => by rw [s y h1 h2]
  refine ⟨⟨?_, ?_, ?_⟩, ⟨fun k p q => ?_, fun k p q => ?_⟩, fun g hg => ?_, fun k hk => ?_, fun od ho => ?_, ?_, fun m p q => ?_, fun r p q => ?_, fun j hj => ?_, Or.inl h9⟩
  · rw [o1 2 (by decide), s41 4 (by decide)]; exact hC.top.1
  · rw [o14, s12]
  · rw [o1 7 (by decide), s41 26 (by decide)]; exact hC.top.2.2
  · rw [o 2 (by omega) (by decide) (by decide) (by decide) (by decide), s 53 (by decide) (by decide)]; exact hC.num.1 k p q
  · rw [o 24 (by omega) (by decide) (by decide) (by decide) (by decide), s 83 (by decide) (by decide)]; exact hC.num.2 k p q
  · have hg2 : isPg S g := by unfold isPg at hg ⊢; rw [s41 4 (by decide)] at hg; exact hg
    have hQ := hC.pg g hg2
    have h83 := hQ.1
    have w1 := wo _ _ _ hQ.2.1 (by decide)
    have w2 := wo _ _ _ hQ.2.2.1 (by decide)
    exact hQ.mv o3 (o _ w1.1 (by omega) (by omega) (by omega) (by omega)) (o _ w2.1 (by omega) (by omega) (by omega) (by omega)) (s' _ _ (by decide) (by decide)) (s' _ _ (by decide) (by decide)) (s' _ _ (by decide) (by decide)) (fun i _ _ => s' _ _ (by decide) (by decide)) (w1.2.trans hQ.2.1.symm) (w2.2.trans hQ.2.2.1.symm)
  · by_cases ek : k = n
    · have hz := hI.zb n (by omega)
      unfold CPiece
      rw [ek, o4n, s46, o3, s 51 (by decide) (by decide), s 52 (by decide) (by decide), hz.1, hz.2]
      exact ⟨hx, wx, wx1, x0, x1, x2, x3, x7, xw⟩
    · have hk2 : isPc S k := by unfold isPc at hk ⊢; rw [s12] at hk; omega
      have hK := hC.pc k hk2
      have h83 := hK.1
      have w1 := wo _ _ _ hK.2.1 (by decide)
      have w2 := wo _ _ _ hK.2.2.1 (by decide)
      exact hK.mv (o4 k ek) (by rw [o3]) (fun i _ _ => by rw [o _ w1.1 (by omega) (by omega) (by omega) (by omega)]) (o _ w2.1 (by omega) (by omega) (by omega) (by omega)) (sk 46 k (by decide) (by decide) ek) (sk 47 k (by decide) (by decide) ek) (sk 48 k (by decide) (by decide) ek) (sk 49 k (by decide) (by decide) ek) (sk 50 k (by decide) (by decide) ek) (s' _ _ (by decide) (by decide)) (s' _ _ (by decide) (by decide)) (swl k ek) (w1.2.trans hK.2.1.symm) (w2.2.trans hK.2.2.1.symm)
  · have ho2 : isOr S od := by unfold isOr at ho ⊢; rw [s41 26 (by decide)] at ho; exact ho
    have hO := hC.od od ho2
    obtain ⟨r1, r2, r3, -⟩ := hO.2.2.2.1
    have h83 := hO.1
    have w1 := wo _ _ _ hO.2.1 (by decide)
    have w2 := wo _ _ _ r2 (by decide)
    have w3 := wo _ _ _ r3 (by decide)
    exact hO.mv (by rw [o 6 (by omega) (by decide) (by decide) (by decide) (by decide)]) (o _ w1.1 (by omega) (by omega) (by omega) (by omega)) (o _ w2.1 (by omega) (by omega) (by omega) (by omega)) (o _ w3.1 (by omega) (by omega) (by omega) (by omega)) (Or.inl (o1 8 (by decide))) (fun y y1 y2 => s' _ _ (by omega) (by omega)) (fun i _ _ => s' _ _ (by decide) (by decide)) (hI.sm od).2 (w1.2.trans hO.2.1.symm) (w2.2.trans r2.symm) (w3.2.trans r3.symm)
  · rw [o1 8 (by decide)]
    obtain ⟨r1, r2, r3, -⟩ := hC.sp
    have w2 := wo _ _ _ r2 (by decide)
    have w3 := wo _ _ _ r3 (by decide)
    exact hC.sp.mv (o _ w2.1 (by omega) (by omega) (by omega) (by omega)) (o _ w3.1 (by omega) (by omega) (by omega) (by omega)) (s' _ _ (by decide) (by decide)) (fun i _ _ => s' _ _ (by decide) (by decide)) (hI.sm 10).2 (w2.2.trans r2.symm) (w3.2.trans r3.symm)
  · have hm := hC.nm m p q
    exact ⟨by rw [o _ (by omega) (by omega) (by omega) (by omega) (by omega), s 72 (by decide) (by decide)]; exact hm.1, fun y p2 q2 => by rw [o _ (by omega) (by omega) (by omega) (by omega) (by omega), s 73 (by decide) (by decide)]; exact hm.2 y p2 q2⟩
  · have hr := hC.rd r p q
    rw [o (33 + 2 * r) (by omega) (by omega) (by omega) (by omega) (by omega), o (33 + 2 * r + 1) (by omega) (by omega) (by omega) (by omega) (by omega), s 77 (by decide) (by decide), s 78 (by decide) (by decide), s 79 (by decide) (by decide)]
    exact hr
  · have eo : ordL S' = (insR S' n (ordR S n)).reverse := by
      unfold ordL
      rw [s12, show ((n : Int) + 1).toNat = n + 1 by omega, ordR, ordR_cg (s 43 (by decide) (by decide)) (s 44 (by decide) (by decide)) n (fun k h1 h2 => sk 46 k (by decide) (by decide) (by omega))]
    rw [ordL_len, s12] at hj
    rw [eo]
    exact hln j (by omega)
