/-! THE CLASS: calls on settings, names, readers, misses -/
theorem fixN {w : NS} {M : MM} (h : FixA w M) {n : Int} (h0 : 0 ≤ n) (h1 : n ≤ 3) : M 13 n = 25 + 2 * n ∧ w.2 (25 + 2 * n) = (3, 2) := by
  rcases (show n = 0 ∨ n = 1 ∨ n = 2 ∨ n = 3 by omega) with rfl | rfl | rfl | rfl
  · exact ⟨fx_13_0 h, sh_25 h⟩
  · exact ⟨fx_13_1 h, sh_27 h⟩
  · exact ⟨fx_13_2 h, sh_29 h⟩
  · exact ⟨fx_13_3 h, sh_31 h⟩
theorem fixR {w : NS} {M : MM} (h : FixA w M) {n : Int} (h0 : 0 ≤ n) (h1 : n ≤ 3) : M 19 n = 33 + 2 * n ∧ w.2 (33 + 2 * n) = (8, 4) := by
  rcases (show n = 0 ∨ n = 1 ∨ n = 2 ∨ n = 3 by omega) with rfl | rfl | rfl | rfl
  · exact ⟨fx_19_0 h, sh_33 h⟩
  · exact ⟨fx_19_1 h, sh_35 h⟩
  · exact ⟨fx_19_2 h, sh_37 h⟩
  · exact ⟨fx_19_3 h, sh_39 h⟩
theorem up_fn {M : MM} {a i v b : Int} (h : b ≠ a) : up M a i v b = M b := funext fun _ => up_na h
theorem skp_up {S : MM} {a i v : Int} (h : a = 72 ∨ a = 73 ∨ a = 77 ∨ a = 78 ∨ a = 79 ∨ a = 83 ∨ (a = 53 ∧ i ≠ 0)) : SKp S (up S a i v) := by
  refine ⟨fun j hj => up_na (by omega), ?_, fun b hb => up_fn (by omega)⟩
  rcases h with h | h | h | h | h | h | h
  all_goals (first | exact up_na (by omega) | exact up_ni (by omega))
theorem mkp_up {M : MM} {a i v : Int} (h : a = 2 ∨ 24 ≤ a ∧ a ≤ 40) : MKp M (up M a i v) := fun b hb => up_fn (fun e => hb (e ▸ h))
theorem pc_u {M M1 S1 : MM} {w : NS} {r : Int × MM} {z : Int} (e : r = (z, S1)) (hC : CInv S1 w M1) (hF : FrC M M1) : PC M r z w M1 := by
  rw [e]; exact ⟨rfl, hC, hF⟩
theorem LSf_lst {k : Int} (h0 : 0 ≤ k) (h1 : k ≤ 8) : LSf k.toNat = lstO k ∧ GSf k.toNat = grtO k := by
  rcases (show k = 0 ∨ k = 1 ∨ k = 2 ∨ k = 3 ∨ k = 4 ∨ k = 5 ∨ k = 6 ∨ k = 7 ∨ k = 8 by omega) with rfl | rfl | rfl | rfl | rfl | rfl | rfl | rfl | rfl <;> decide
theorem cc_name {G : GP} {l : Launch} {w : NS} {S M : MM} {a b : Int} (hI : SInv S) (hC : CInv S w M) : CT_X9_name G l [(2, 1), (0, a), (0, b)] w M (PC M (op_name S a b)) := by
  refine E_X9_name (fun _ _ X hX C => ?_)
  unfold A_X9_name_0
  refine WA.fix (fun hF => ?_)
  refine B_X9_name_0 C ?_
  have key : ∀ v, 0 ≤ a → a ≤ 3 → CInv (up S 72 a v) w (up M (25 + 2 * a) 0 v) := fun v h0 h1 => by
    refine CInv.of (hC.keep hI (skp_up (by omega)) (mkp_up (by omega))) ?_ ?_ ?_
    · exact ⟨fun k p q => by rw [up_na (by omega), up_na (by omega)]; exact hC.num.1 k p q, fun k p q => by rw [up_na (by omega), up_na (by omega)]; exact hC.num.2 k p q⟩
    · intro n p q
      have hn := hC.nm n p q
      refine ⟨?_, fun x p2 q2 => by rw [up_na (by omega), up_na (by omega)]; exact hn.2 x p2 q2⟩
      by_cases e : n = a
      · rw [e, up_eq, up_eq]
      · rw [up_na (by omega), up_ni e]; exact hn.1
    · intro r p q
      have hr := hC.rd r p q
      refine ⟨?_, ?_, ?_, fun x p2 q2 => ?_⟩
      all_goals (rw [up_na (by omega), up_na (by omega)])
      · exact hr.1
      · exact hr.2.1
      · exact hr.2.2.1
      · exact hr.2.2.2 x p2 q2
  refine ⟨fun h => ⟨fun h2 => ⟨by omega, by omega, ?_, fun h3 => ?_, fun h3 => ?_⟩, fun h2 => ?_⟩, fun h => ?_⟩
  · rw [(fixN hF h.1 h.2).1]; exact (fixN hF h.1 h.2).2
  · rw [(fixN hF h.1 h.2).1, (hC.nm a h.1 h.2).1]
    exact pc_u (S1 := up S 72 a b) (by unfold op_name; grind) (key b h.1 h.2) (frc_up (FrC.rfl' M) _ (by omega))
  · rw [(fixN hF h.1 h.2).1, (hC.nm a h.1 h.2).1]
    exact pc_u (S1 := up S 72 a (-6)) (by unfold op_name; grind) (key _ h.1 h.2) (frc_up (FrC.rfl' M) _ (by omega))
  · exact pc_s hC (by unfold op_name; grind)
  · exact pc_s hC (by unfold op_name; grind)
theorem cc_counts {G : GP} {l : Launch} {w : NS} {S M : MM} {a b c : Int} (hI : SInv S) (hC : CInv S w M) : CT_X9_counts G l [(2, 1), (0, a), (0, b), (0, c)] w M (PC M (op_counts S a b c)) := by
  refine E_X9_counts (fun _ _ _ X hX C => ?_)
  unfold A_X9_counts_0
  refine WA.fix (fun hF => ?_)
  refine B_X9_counts_0 C ?_
  refine ⟨fun h => ⟨fun h2 => pc_s hC (by unfold op_counts; grind), fun h2 => ⟨fun h3 => ⟨by omega, by omega, ?_, by omega, by omega, ?_⟩, fun h3 => pc_s hC (by unfold op_counts; grind)⟩⟩, fun h => pc_s hC (by unfold op_counts; grind)⟩
  · rw [(fixN hF h.1 h.2).1]; exact (fixN hF h.1 h.2).2
  · rw [(fixN hF h.1 h.2).1, (hC.nm a h.1 h.2).2 b h2.1 h2.2]
    refine pc_u (S1 := up S 73 (100 * a + b) c) (by unfold op_counts; grind) ?_ (frc_up (FrC.rfl' M) _ (by omega))
    refine CInv.of (hC.keep hI (skp_up (by omega)) (mkp_up (by omega))) ?_ ?_ ?_
    · exact ⟨fun k p q => by rw [up_na (by omega), up_na (by omega)]; exact hC.num.1 k p q, fun k p q => by rw [up_na (by omega), up_na (by omega)]; exact hC.num.2 k p q⟩
    · intro n p q
      have hn := hC.nm n p q
      refine ⟨by rw [up_na (by omega), up_na (by omega)]; exact hn.1, fun x p2 q2 => ?_⟩
      by_cases e : n = a ∧ x = b
      · rw [e.1, e.2, up_eq, up_eq]
      · rw [up_ap, if_neg (by omega), up_ni (by omega)]; exact hn.2 x p2 q2
    · intro r p q
      have hr := hC.rd r p q
      refine ⟨?_, ?_, ?_, fun x p2 q2 => ?_⟩
      all_goals (rw [up_na (by omega), up_na (by omega)])
      · exact hr.1
      · exact hr.2.1
      · exact hr.2.2.1
      · exact hr.2.2.2 x p2 q2
