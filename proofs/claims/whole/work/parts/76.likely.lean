/-! LIKELY, both sides -/
theorem smN_abs {f : Int → Int} {m : Int} (h : ∀ k, -m ≤ f k ∧ f k ≤ m) : ∀ n : Nat, -(n * m) ≤ smN f n ∧ smN f n ≤ n * m
  | 0 => by simp [smN]
  | n + 1 => by
    have h1 := smN_abs h n
    have h2 := h n
    rw [smN, show ((n + 1 : Nat) : Int) * m = n * m + m by rw [Int.natCast_add, Int.add_mul]; simp]
    omega
theorem smN_z {f : Int → Int} : ∀ n : Nat, (∀ k : Int, 0 ≤ k → k < n → f k = 0) → smN f n = 0
  | 0, _ => rfl
  | n + 1, h => by rw [smN, smN_z n (fun k h1 h2 => h k h1 (by omega)), h n (by omega) (by omega)]; rfl
theorem smN_tl {f : Int → Int} {n : Nat} : ∀ m : Nat, n ≤ m → (∀ k : Int, n ≤ k → k < m → f k = 0) → smN f m = smN f n
  | 0, h, _ => by rw [show n = 0 by omega]
  | m + 1, h, hf => by
    by_cases e : n = m + 1
    · rw [e]
    · rw [smN, smN_tl m (by omega) (fun k h1 h2 => hf k h1 (by omega)), hf m (by omega) (by omega)]; omega
def smF (S : MM) (n : Int) (W : List Int) (i j : Int) : Int := if 0 < wayS i j ∧ wayS i j ≤ S 53 1 then S 73 (100 * n + W.getD j.toNat 0) else 0
def sumS (S : MM) (n : Int) (W : List Int) (i : Int) : Int := smN (smF S n W i) W.length
def lkF (S : MM) (n : Int) (W : List Int) : Nat → Int × Int
  | 0 => (-6, 0)
  | j + 1 => if W.getD j 0 = S 72 n ∧ ((lkF S n W j).1 < 0 ∨ (lkF S n W j).2 < sumS S n W j) then ((j : Int), sumS S n W j) else lkF S n W j
theorem lkF_rng (S : MM) (n : Int) (W : List Int) : ∀ j : Nat, ((lkF S n W j).1 = -6 ∧ (lkF S n W j).2 = 0) ∨ (0 ≤ (lkF S n W j).1 ∧ (lkF S n W j).1 < j ∧ (lkF S n W j).2 = sumS S n W (lkF S n W j).1)
  | 0 => Or.inl ⟨rfl, rfl⟩
  | j + 1 => by
    rw [lkF]
    split
    · right; exact ⟨by show (0 : Int) ≤ j; omega, by show (j : Int) < (j + 1 : Nat); omega, rfl⟩
    · rcases lkF_rng S n W j with h | h
      · exact Or.inl h
      · exact Or.inr ⟨h.1, by have := h.2.1; omega, h.2.2⟩
theorem smF_b {S : MM} (hI : SInv S) (n : Int) (W : List Int) (i j : Int) : -100 ≤ smF S n W i j ∧ smF S n W i j ≤ 100 := by
  unfold smF
  have := hI.ct (100 * n + W.getD j.toNat 0)
  split <;> omega
theorem smF_n {S : MM} (hI : SInv S) (n : Int) (W : List Int) (i : Int) (k : Nat) : -(k * 100 : Int) ≤ smN (smF S n W i) k ∧ smN (smF S n W i) k ≤ k * 100 := smN_abs (smF_b hI n W i) k
def op_likely (S : MM) (n p x : Int) : Int × MM :=
  (if (0 ≤ n ∧ n ≤ 3) ∧ isPc S p then (if 0 ≤ x ∧ x ≤ 2 then (if x = 1 then (lkF S n (wl S p) (wl S p).length).2 else if x = 2 then (lkF S n (wl S p) (wl S p).length).1 else if (lkF S n (wl S p) (wl S p).length).1 < 0 then 0 else if S 53 2 ≤ (lkF S n (wl S p) (wl S p).length).2 then 1 else if (lkF S n (wl S p) (wl S p).length).2 ≤ -S 53 2 then 2 else 3) else -2) else -1, S)
theorem cm_sumAt {G : GP} {l : Launch} {w : NS} {S M : MM} {n p i : Int} (hI : SInv S) (hA : Ag S M) (hn : 0 ≤ n ∧ n ≤ 3) (hi : 0 ≤ i ∧ i < 60) (h16 : M 41 16 = (wl S p).length) (hL : AL M 54 (wl S p)) : CT_X10_sumAt G l [(2, 41), (0, n), (0, i)] w M (PE (sumS S n (wl S p) i) w M) := by
  refine E_X10_sumAt (fun _ _ X hX C => ?_)
  have hla := wl_len hI p
  have hmem := wl_mem hI p
  generalize hW : wl S p = W at *
  have L : ∀ j : Int, j ≤ W.length → ∀ z, 0 ≤ j → z = smN (smF S n W i) j.toNat → A_X10_sumAt_5 G X (PE (sumS S n W i) w M) n i z j w M := up_ind _ (fun j hj ih z j0 hz => by
    refine B_X10_sumAt_5 C ?_
    rw [h16, hA.1 53 1 rfl]
    refine ⟨fun h => ⟨?_, rfl, rfl⟩, fun h => ?_⟩
    · rw [hz, show j.toNat = W.length by omega]; rfl
    · have hb := smF_n hI n W i j.toNat
      have hjt : j.toNat < W.length := by omega
      have hx := hmem (W.getD j.toNat 0) (by rw [List.getD_eq_getElem?_getD, List.getElem?_eq_getElem hjt, Option.getD_some]; exact List.getElem_mem _)
      have hct := hI.ct (100 * n + W.getD j.toNat 0)
      have ih2 := fun z hz => ih (j + 1) (by omega) (by omega) z (by omega) hz
      rw [smN_s j0] at ih2
      rw [al_at hL j0 (by omega), hA.1 73 _ rfl]
      have e : smF S n W i j = if 0 < wayS i j ∧ wayS i j ≤ S 53 1 then S 73 (100 * n + W.getD j.toNat 0) else 0 := rfl
      refine ⟨fun h1 => ⟨by omega, fun h2 => ⟨by omega, by omega, ih2 _ ?_⟩, fun h2 => ⟨fun h3 => ⟨by omega, by omega, ih2 _ ?_⟩, fun h3 => ⟨by omega, by omega, by omega, by omega, by omega, by omega, by omega, by omega, ih2 _ ?_⟩⟩⟩, fun h1 => ⟨by omega, fun h2 => ⟨by omega, by omega, ih2 _ ?_⟩, fun h2 => ⟨fun h3 => ⟨by omega, by omega, ih2 _ ?_⟩, fun h3 => ⟨by omega, by omega, by omega, by omega, by omega, by omega, by omega, by omega, ih2 _ ?_⟩⟩⟩⟩
      · rw [hz, e, if_neg (by unfold wayS; omega)]
      · rw [hz, e, if_neg (by unfold wayS; omega)]
      · rw [hz, e, if_pos (by unfold wayS; omega)]
      · rw [hz, e, if_neg (by unfold wayS; omega)]
      · rw [hz, e, if_neg (by unfold wayS; omega)]
      · rw [hz, e, if_pos (by unfold wayS; omega)])
  exact B_X10_sumAt_0 C (L 0 (by omega) 0 (by omega) rfl)
theorem cm_likely {G : GP} {l : Launch} {w : NS} {S M : MM} {n p x : Int} (hI : SInv S) (hA : Ag S M) : CT_X10_likely G l [(2, 41), (0, n), (0, p), (0, x)] w M (PM w M (op_likely S n p x)) := by
  refine E_X10_likely (fun _ _ _ X hX C => ?_)
  have hpc := hI.pc
  refine B_X10_likely_0 C ?_
  rw [hA.2 12 rfl]
  refine ⟨fun h1 => pm_s hA ?_, fun h1 => ⟨by omega, fun h2 => ⟨fun h3 => ⟨_, cm_layOne hI hA h2, ?_⟩, fun h3 => pm_s hA ?_⟩, fun h2 => pm_s hA ?_⟩⟩
  · unfold op_likely; rw [if_neg (fun q => h1 q.1)]
  · rintro z6 _ M6 ⟨rfl, k1, k2, k3⟩
    have hA6 := k3.ag FL1_wk hA
    have hla := wl_len hI p
    have hsu : 1 ≤ S 53 2 ∧ S 53 2 ≤ 1000 := hI.nm 2 (by decide) (by decide)
    have op : ∀ z, (if x = 1 then (lkF S n (wl S p) (wl S p).length).2 else if x = 2 then (lkF S n (wl S p) (wl S p).length).1 else if (lkF S n (wl S p) (wl S p).length).1 < 0 then 0 else if S 53 2 ≤ (lkF S n (wl S p) (wl S p).length).2 then 1 else if (lkF S n (wl S p) (wl S p).length).2 ≤ -S 53 2 then 2 else 3) = z → PM w M (op_likely S n p x) z w M6 := fun z hz => pm_u (S1 := S) (by unfold op_likely; rw [if_pos ⟨h1, h2⟩, if_pos h3, hz]) hA6 (k3.frm FL1_in) (k3.dk FL1_dk)
    have hsa := fun i (hi : 0 ≤ i ∧ i < 60) => cm_sumAt (G := G) (l := X.2.1) (w := w) (n := n) (p := p) hI hA6 h1 hi k1 k2
    generalize hW : wl S p = W at *
    have L : ∀ j : Int, j ≤ W.length → ∀ pl mo, 0 ≤ j → pl = (lkF S n W j.toNat).1 → mo = (lkF S n W j.toNat).2 → A_X10_likely_47 G X (PM w M (op_likely S n p x)) n x pl mo j w M6 := up_ind _ (fun j hj ih pl mo j0 hpl hmo => by
      refine B_X10_likely_47 C ?_
      rw [k1, hA6.1 53 2 rfl, hA6.1 72 n rfl]
      have hr := lkF_rng S n W j.toNat
      refine ⟨fun h => ?_, fun h => ?_⟩
      · rw [show j.toNat = W.length by omega] at hpl hmo hr
        rw [← hpl, ← hmo] at op hr
        refine ⟨fun q => ⟨fun q2 => op _ ?_, fun q2 => op _ ?_⟩, fun q => ⟨fun q2 => ⟨fun q3 => ⟨by omega, fun q4 => op _ ?_, fun q4 => op _ ?_⟩, fun q3 => op _ ?_⟩, fun q2 => ⟨fun q3 => op _ ?_, fun q3 => op _ ?_⟩⟩⟩
        · rw [if_pos (by omega)]
        · rw [if_neg (by omega), if_pos (by omega)]
        · rw [if_neg (by omega), if_neg (by omega), if_neg (by omega), if_neg (by omega), if_neg (by omega)]
        · rw [if_neg (by omega), if_neg (by omega), if_neg (by omega), if_neg (by omega), if_pos (by omega)]
        · rw [if_neg (by omega), if_neg (by omega), if_neg (by omega), if_pos (by omega)]
        · rw [if_neg (by omega), if_neg (by omega), if_pos (by omega)]; omega
        · omega
      · rw [al_at k2 j0 (by omega)]
        have hs : lkF S n W (j + 1).toNat = if W.getD j.toNat 0 = S 72 n ∧ ((lkF S n W j.toNat).1 < 0 ∨ (lkF S n W j.toNat).2 < sumS S n W j) then (j, sumS S n W j) else lkF S n W j.toNat := by
          rw [show (j + 1).toNat = j.toNat + 1 by omega, lkF, show ((j.toNat : Nat) : Int) = j by omega]
        rw [← hpl, ← hmo] at hs
        have keep : ¬ (W.getD j.toNat 0 = S 72 n ∧ (pl < 0 ∨ mo < sumS S n W j)) → A_X10_likely_47 G X (PM w M (op_likely S n p x)) n x pl mo (j + 1) w M6 := fun q => ih (j + 1) (by omega) (by omega) _ _ (by omega) (by rw [hs, if_neg q, hpl]) (by rw [hs, if_neg q, hmo])
        have take : (W.getD j.toNat 0 = S 72 n ∧ (pl < 0 ∨ mo < sumS S n W j)) → A_X10_likely_47 G X (PM w M (op_likely S n p x)) n x j (sumS S n W j) (j + 1) w M6 := fun q => ih (j + 1) (by omega) (by omega) _ _ (by omega) (by rw [hs, if_pos q]) (by rw [hs, if_pos q])
        refine ⟨by omega, by omega, by omega, by omega, fun q => ⟨by omega, keep (fun r => q r.1)⟩, fun q => ⟨fun q2 => ⟨_, hsa j (by omega), ?_⟩, fun q2 => ⟨_, hsa j (by omega), ?_⟩⟩⟩
        · rintro _ _ _ ⟨rfl, rfl, rfl⟩
          exact ⟨by omega, take ⟨Decidable.not_not.mp q, Or.inl q2⟩⟩
        · rintro _ _ _ ⟨rfl, rfl, rfl⟩
          refine ⟨fun q3 => ⟨by omega, keep (by omega)⟩, fun q3 => ⟨_, hsa j (by omega), ?_⟩⟩
          rintro _ _ _ ⟨rfl, rfl, rfl⟩
          exact ⟨by omega, take ⟨Decidable.not_not.mp q, Or.inr (by omega)⟩⟩)
    exact L 0 (by omega) _ _ (by omega) rfl rfl
  · unfold op_likely; rw [if_pos ⟨h1, h2⟩, if_neg h3]
  · unfold op_likely; rw [if_neg (fun q => h2 q.2)]
theorem cc_sumAround {G : GP} {l : Launch} {w : NS} {S M : MM} {n p i : Int} (hI : SInv S) (hC : CInv S w M) (hn : 0 ≤ n ∧ n ≤ 3) (ht : w.2 (25 + 2 * n) = (3, 2)) (hp : isPc S p) (hi : 0 ≤ i ∧ i < (wl S p).length) : CT_X2_sumAround G l [(2, 25 + 2 * n), (2, M 4 p), (0, i), (0, S 53 1)] w M (PE (sumS S n (wl S p) i) w M) := by
  refine E_X2_sumAround (fun _ _ X hX C => ?_)
  obtain ⟨a1, a2, a3, -, -, -, -, a8, a9⟩ := hC.pc p hp
  have hla := wl_len hI p
  have hmem := wl_mem hI p
  have hre : 0 ≤ S 53 1 ∧ S 53 1 ≤ 20 := hI.nm 1 (by decide) (by decide)
  have hnm := (hC.nm n hn.1 hn.2).2
  generalize hW : wl S p = W at *
  have L : ∀ j : Int, j ≤ W.length → ∀ z, 0 ≤ j → i - S 53 1 ≤ j → z = smN (smF S n W i) j.toNat → A_X2_sumAround_12 G X (PE (sumS S n W i) w M) (25 + 2 * n) (M 4 p) i (S 53 1) z j w M := up_ind _ (fun j hj ih z j0 jb hz => by
    refine B_X2_sumAround_12 C ?_
    rw [a8]
    refine ⟨a2, fun h => ⟨?_, rfl, rfl⟩, fun h => ⟨by omega, fun h2 => ⟨?_, rfl, rfl⟩, fun h2 => ?_⟩⟩
    · rw [hz, show j.toNat = W.length by omega]; rfl
    · rw [hz]; unfold sumS
      refine smN_tl _ (by omega) (fun k k0 k1 => ?_)
      unfold smF; rw [if_neg (by unfold wayS; omega)]
    · have hb := smF_n hI n W i j.toNat
      have hjt : j.toNat < W.length := by omega
      have hx := hmem (W.getD j.toNat 0) (by rw [List.getD_eq_getElem?_getD, List.getElem?_eq_getElem hjt, Option.getD_some]; exact List.getElem_mem _)
      have hct := hI.ct (100 * n + W.getD j.toNat 0)
      have ih2 := fun z hz => ih (j + 1) (by omega) (by omega) z (by omega) (by omega) hz
      rw [smN_s j0] at ih2
      rw [al_at a9 j0 (by omega), hnm _ hx.1 hx.2]
      have e : smF S n W i j = if 0 < wayS i j ∧ wayS i j ≤ S 53 1 then S 73 (100 * n + W.getD j.toNat 0) else 0 := rfl
      refine ⟨fun h3 => ⟨by omega, ih2 _ ?_⟩, fun h3 => ⟨ht, by omega, by omega, by omega, by omega, by omega, by omega, ih2 _ ?_⟩⟩
      · rw [hz, e, if_neg (by unfold wayS; omega)]; omega
      · rw [hz, e, if_pos (by unfold wayS; omega)])
  refine B_X2_sumAround_0 C ⟨by omega, ?_⟩
  refine L (max 0 (i - S 53 1)) (by omega) 0 (by omega) (by omega) ?_
  rw [smN_z _ (fun k k0 k1 => ?_)]
  unfold smF; rw [if_neg (by unfold wayS; omega)]
theorem cc_likeliestPlace {G : GP} {l : Launch} {w : NS} {S M : MM} {n p : Int} (hI : SInv S) (hC : CInv S w M) (hn : 0 ≤ n ∧ n ≤ 3) (ht : w.2 (25 + 2 * n) = (3, 2)) (hp : isPc S p) : CT_X2_likeliestPlace G l [(2, 25 + 2 * n), (2, M 4 p), (0, S 53 1)] w M (PE (lkF S n (wl S p) (wl S p).length).1 w M) := by
  refine E_X2_likeliestPlace (fun _ X hX C => ?_)
  obtain ⟨a1, a2, a3, -, -, -, -, a8, a9⟩ := hC.pc p hp
  have hla := wl_len hI p
  have hnm := (hC.nm n hn.1 hn.2).1
  have hsa := fun (i : Int) (hi : 0 ≤ i ∧ i < (wl S p).length) => cc_sumAround (G := G) (l := X.2.1) (w := w) (n := n) (p := p) hI hC hn ht hp hi
  generalize hW : wl S p = W at *
  have L : ∀ j : Int, j ≤ W.length → ∀ pl mo, 0 ≤ j → pl = (lkF S n W j.toNat).1 → mo = (lkF S n W j.toNat).2 → A_X2_likeliestPlace_9 G X (PE (lkF S n W W.length).1 w M) (25 + 2 * n) (M 4 p) (S 53 1) pl mo j w M := up_ind _ (fun j hj ih pl mo j0 hpl hmo => by
    refine B_X2_likeliestPlace_9 C ?_
    rw [a8, hnm]
    have hr := lkF_rng S n W j.toNat
    rw [← hpl, ← hmo] at hr
    refine ⟨a2, fun h => ⟨?_, rfl, rfl⟩, fun h => ?_⟩
    · rw [hpl, show j.toNat = W.length by omega]
    · rw [al_at a9 j0 (by omega)]
      have hs : lkF S n W (j + 1).toNat = if W.getD j.toNat 0 = S 72 n ∧ ((lkF S n W j.toNat).1 < 0 ∨ (lkF S n W j.toNat).2 < sumS S n W j) then (j, sumS S n W j) else lkF S n W j.toNat := by
        rw [show (j + 1).toNat = j.toNat + 1 by omega, lkF, show ((j.toNat : Nat) : Int) = j by omega]
      rw [← hpl, ← hmo] at hs
      have keep : ¬ (W.getD j.toNat 0 = S 72 n ∧ (pl < 0 ∨ mo < sumS S n W j)) → A_X2_likeliestPlace_9 G X (PE (lkF S n W W.length).1 w M) (25 + 2 * n) (M 4 p) (S 53 1) pl mo (j + 1) w M := fun q => ih (j + 1) (by omega) (by omega) _ _ (by omega) (by rw [hs, if_neg q, hpl]) (by rw [hs, if_neg q, hmo])
      have take : (W.getD j.toNat 0 = S 72 n ∧ (pl < 0 ∨ mo < sumS S n W j)) → A_X2_likeliestPlace_9 G X (PE (lkF S n W W.length).1 w M) (25 + 2 * n) (M 4 p) (S 53 1) j (sumS S n W j) (j + 1) w M := fun q => ih (j + 1) (by omega) (by omega) _ _ (by omega) (by rw [hs, if_pos q]) (by rw [hs, if_pos q])
      refine ⟨by omega, by omega, ht, fun q => ⟨by omega, keep (fun r => q r.1)⟩, fun q => ⟨_, hsa j (by omega), ?_⟩⟩
      rintro _ _ _ ⟨rfl, rfl, rfl⟩
      refine ⟨fun q2 => ⟨by omega, take ⟨Decidable.not_not.mp q, Or.inl (by omega)⟩⟩, fun q2 => ⟨fun q3 => ⟨by omega, keep (by omega)⟩, fun q3 => ⟨by omega, take ⟨Decidable.not_not.mp q, Or.inr (by omega)⟩⟩⟩⟩)
  exact B_X2_likeliestPlace_0 C (L 0 (by omega) _ _ (by omega) rfl rfl)
theorem cc_verdictOf {G : GP} {l : Launch} {w : NS} {S M : MM} {x : Int} (hI : SInv S) (hC : CInv S w M) : CT_X9_verdictOf G l [(2, 1), (0, x)] w M (PE (if S 53 2 ≤ x then 1 else if x ≤ -S 53 2 then 2 else 3) w M) := by
  refine E_X9_verdictOf (fun _ X hX C => ?_)
  refine B_X9_verdictOf_0 C ?_
  have hsu : 1 ≤ S 53 2 ∧ S 53 2 ≤ 1000 := hI.nm 2 (by decide) (by decide)
  rw [hC.num.1 2 (by decide) (by decide)]
  refine ⟨fun h => ⟨by omega, fun h2 => ⟨?_, rfl, rfl⟩, fun h2 => ⟨?_, rfl, rfl⟩⟩, fun h => ⟨?_, rfl, rfl⟩⟩
  · rw [if_neg (by omega), if_neg (by omega)]
  · rw [if_neg (by omega), if_pos (by omega)]
  · rw [if_pos (by omega)]
theorem cc_likely {G : GP} {l : Launch} {w : NS} {S M : MM} {n p x : Int} (hI : SInv S) (hC : CInv S w M) : CT_X9_likely G l [(2, 1), (0, n), (0, p), (0, x)] w M (PC M (op_likely S n p x)) := by
  refine E_X9_likely (fun _ _ _ X hX C => ?_)
  unfold A_X9_likely_0
  refine WA.fix (fun hF => ?_)
  refine B_X9_likely_0 C ?_
  have hpc := hI.pc
  rw [hC.top.2.1, hC.num.1 1 (by decide) (by decide)]
  refine ⟨by omega, by omega, fun h1 => ?_, fun h1 => ⟨fun h2 => ?_, fun h2 => ?_⟩⟩
  · exact pc_s hC (by unfold op_likely; rw [if_neg (fun q => h1 q.1)])
  · have hp : isPc S p := Decidable.not_not.mp (fun q => h2 ((pcO_ne hC).mpr q))
    obtain ⟨f1, f2⟩ := fixN hF h1.1 h1.2
    rw [pcO_in hC hp, f1]
    have op : ∀ z, (if 0 ≤ x ∧ x ≤ 2 then (if x = 1 then (lkF S n (wl S p) (wl S p).length).2 else if x = 2 then (lkF S n (wl S p) (wl S p).length).1 else if (lkF S n (wl S p) (wl S p).length).1 < 0 then 0 else if S 53 2 ≤ (lkF S n (wl S p) (wl S p).length).2 then 1 else if (lkF S n (wl S p) (wl S p).length).2 ≤ -S 53 2 then 2 else 3) else -2) = z → PC M (op_likely S n p x) z w M := fun z hz => pc_s hC (by unfold op_likely; rw [if_pos ⟨h1, hp⟩, hz])
    have hr := lkF_rng S n (wl S p) (wl S p).length
    refine ⟨h1.1, by omega, f2, _, cc_likeliestPlace hI hC h1 f2 hp, ?_⟩
    rintro _ _ _ ⟨rfl, rfl, rfl⟩
    rw [hC.num.1 1 (by decide) (by decide), f1]
    refine ⟨fun h3 => ⟨f2, _, cc_sumAround hI hC h1 f2 hp (by omega), ?_⟩, fun h3 => ⟨fun h4 => op _ ?_, fun h4 => ⟨fun h5 => absurd h5 h3, fun _ => op _ ?_⟩, fun h4 => op _ ?_, fun h4 => op _ ?_⟩⟩
    · rintro _ _ _ ⟨rfl, rfl, rfl⟩
      have hr2 := hr.resolve_left (fun q => h3 q.1)
      rw [← hr2.2.2]
      refine ⟨fun h4 => op _ ?_, fun h4 => ⟨fun _ => ⟨_, cc_verdictOf hI hC, ?_⟩, fun h5 => absurd h3 h5⟩, fun h4 => op _ ?_, fun h4 => op _ ?_⟩
      · rw [if_neg (by omega)]
      · rintro _ _ _ ⟨rfl, rfl, rfl⟩
        refine op _ ?_
        rw [if_pos (by omega), if_neg (by omega), if_neg (by omega), if_neg (by omega)]
      · rw [if_pos (by omega), if_pos h4]
      · rw [if_pos (by omega), if_neg (by omega), if_pos h4]
    · rw [if_neg (by omega)]
    · rw [if_pos (by omega), if_neg (by omega), if_neg (by omega), if_pos (by omega)]
    · rw [if_pos (by omega), if_pos h4]; omega
    · rw [if_pos (by omega), if_neg (by omega), if_pos h4]
  · exact pc_s hC (by unfold op_likely; rw [if_neg (fun q => (pcO_ne hC).mp (Decidable.not_not.mp h2) q.2)])
