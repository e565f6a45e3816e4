/-! THE CLASS: told -/
theorem popc_l (x : Int) : ∀ n : Nat, ((List.range n).map (fun i => ((x.toNat / 2 ^ i % 2 : Nat) : Int))).sum = cnN (fun o => tb x o) n
  | 0 => rfl
  | n + 1 => by
    rw [List.range_succ, List.map_append, List.sum_append, popc_l x n, cnN]
    have e : tb x n = decide (x.toNat / 2 ^ n % 2 = 1) := by
      unfold tb; rw [Nat.testBit_eq_decide_div_mod_eq]; rfl
    rw [e]
    simp only [List.map_cons, List.map_nil, List.sum_cons, List.sum_nil, decide_eq_true_eq]
    split <;> omega
theorem cnN_tail {f : Int → Bool} {n : Nat} : ∀ m : Nat, n ≤ m → (∀ k : Int, n ≤ k → f k = false) → cnN f m = cnN f n
  | 0, h, _ => by rw [show n = 0 by omega]
  | m + 1, h, hf => by
    by_cases e : n = m + 1
    · rw [e]
    · rw [cnN, cnN_tail m (by omega) hf, hf m (by omega)]; simp
theorem popc_s {S : MM} (hI : SInv S) (k : Int) : popc (S 52 k) = sentK S (-1) k (S 41 26).toNat := by
  have hs := hI.sn k
  have ho := hI.oc
  unfold popc sentK
  rw [popc_l, cnN_tail 32 (n := (S 41 26).toNat) (by omega) (fun j hj => tb_big hs.1 hs.2 hj)]
  exact cnN_congr _ (fun o _ _ => by unfold snt; simp)
theorem cc_countSent {G : GP} {l : Launch} {w : NS} {S M : MM} (hI : SInv S) (hC : CInv S w M) : CT_X9_countSent G l [(2, 1)] w M (PE (sentS S (-1)) w M) := by
  refine E_X9_countSent (fun X hX C => ?_)
  have hp := hI.pc
  have ho := hI.oc
  have L := up_ind (P := fun k => ∀ z, 0 ≤ k → z = smN (fun k => sentK S (-1) k (S 41 26).toNat) k.toNat → A_X9_countSent_4 G X (PE (sentS S (-1)) w M) z k w M) (S 41 12) (fun k hk ih z h0 hz => by
    refine B_X9_countSent_4 C ?_
    rw [hC.top.2.1]
    have b1 := smN_bnd (f := fun k => sentK S (-1) k (S 41 26).toNat) (m := 10) (fun k => by have := sentK_rng S (-1) k (S 41 26).toNat; omega) k.toNat
    have b2 := sentK_rng S (-1) k (S 41 26).toNat
    refine ⟨fun h => ⟨?_, rfl, rfl⟩, fun h => ?_⟩
    · rw [hz, show k = S 41 12 by omega]; rfl
    · have hP := hC.pc k ⟨h0, by omega⟩
      have b3 := sent_b hI k
      rw [hP.2.2.2.2.2.2.1.2, popc_s hI]
      exact ⟨h0, by omega, hP.2.1, by omega, by omega, by omega, by omega, ih (k + 1) (by omega) (by omega) _ (by omega) (by rw [smN_s h0, hz])⟩)
  exact B_X9_countSent_0 C (L 0 (by omega) 0 (by omega) rfl)
theorem cc_countMissed {G : GP} {l : Launch} {w : NS} {S M : MM} (hI : SInv S) (hC : CInv S w M) : CT_X9_countMissed G l [(2, 1)] w M (PE (missS S) w M) := by
  refine E_X9_countMissed (fun X hX C => ?_)
  have L := up_ind (P := fun i => ∀ z, 0 ≤ i → z = smN (fun c => S 83 c) i.toNat → A_X9_countMissed_4 G X (PE (missS S) w M) z i w M) 6 (fun i hi ih z h0 hz => by
    refine B_X9_countMissed_4 C ?_
    have b1 := smN_bnd (f := fun c => S 83 c) (m := 512) (fun c => hI.mm c) i.toNat
    have b2 := hI.mm i
    refine ⟨fun h => ⟨?_, rfl, rfl⟩, fun h => ?_⟩
    · rw [hz, show i = 6 by omega]; rfl
    · rw [hC.num.2 i h0 (by omega)]
      exact ⟨h0, by omega, by omega, by omega, ih (i + 1) (by omega) (by omega) _ (by omega) (by rw [smN_s h0, hz])⟩)
  exact B_X9_countMissed_0 C (L 0 (by omega) 0 (by omega) rfl)
theorem cc_told {G : GP} {l : Launch} {w : NS} {S M : MM} {a : Int} (hI : SInv S) (hC : CInv S w M) : CT_X9_told G l [(2, 1), (0, a)] w M (PC M (op_told S a)) := by
  refine E_X9_told (fun _ X hX C => ?_)
  refine B_X9_told_0 C ?_
  rw [hC.top.1, hC.top.2.1, hC.top.2.2, hC.sp.2.2.2.1]
  refine ⟨fun h => ⟨fun h1 => pc_s hC ?_, fun h1 => pc_s hC ?_, fun h1 => pc_s hC ?_, fun h1 => pc_s hC ?_, fun h1 => ⟨hC.sp.2.1, pc_s hC ?_⟩, fun h1 => ⟨_, cc_countSent hI hC, ?_⟩, fun h1 => ⟨_, cc_countMissed hI hC, ?_⟩⟩, fun h => ⟨by omega, by omega, by omega, ?_⟩⟩
  all_goals (first | (unfold op_told; grind) | skip)
  · rintro _ _ _ ⟨rfl, rfl, rfl⟩
    exact pc_s hC (by unfold op_told; grind)
  · rintro _ _ _ ⟨rfl, rfl, rfl⟩
    exact pc_s hC (by unfold op_told; grind)
  · rw [hC.num.1 _ (by omega) (by omega)]
    exact pc_s hC (by unfold op_told; grind)
