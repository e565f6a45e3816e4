/-! THE CLASS: calls on settings, names, readers, misses -/
theorem fixN {w : NS} {M : MM} (h : FixA w M) {n : Int} (h0 : 0 ≤ n) (h1 : n ≤ 3) : M 13 n = 25 + 2 * n ∧ w.2 (25 + 2 * n) = (3, 2) := by
  rcases (show n = 0 ∨ n = 1 ∨ n = 2 ∨ n = 3 by omega) with rfl | rfl | rfl | rfl
  · exact ⟨fx_13_0 h, sh_25 h⟩
  · exact ⟨fx_13_1 h, sh_27 h⟩
  · exact ⟨fx_13_2 h, sh_29 h⟩
  · exact ⟨fx_13_3 h, sh_31 h⟩
theorem fixR {w : NS} {M : MM} (h : FixA w M) {n : Int} (h0 : 0 ≤ n) (h1 : n ≤ 3) : M 19 n = 33 + 2 * n ∧ w.2 (33 + 2 * n) = (8, 4) := by
  rcases (show n = 0 ∨ n = 1 ∨ n = 2 ∨ n = 3 by omega) with rfl | rfl | rfl | rfl
  · exact ⟨fx_19_0 h, sh_33 h⟩
  · exact ⟨fx_19_1 h, sh_35 h⟩
  · exact ⟨fx_19_2 h, sh_37 h⟩
  · exact ⟨fx_19_3 h, sh_39 h⟩
theorem up_fn {M : MM} {a i v b : Int} (h : b ≠ a) : up M a i v b = M b := funext fun _ => up_na h
theorem skp_up {S : MM} {a i v : Int} (h : a = 72 ∨ a = 73 ∨ a = 77 ∨ a = 78 ∨ a = 79 ∨ a = 83 ∨ a = 53) : SKp S (up S a i v) :=
  ⟨fun j hj => up_na (by omega), trivial, fun b hb => up_fn (by omega)⟩
theorem mkp_up {M : MM} {a i v : Int} (h : a = 2 ∨ a = 9 ∨ 24 ≤ a ∧ a ≤ 40) : MKp M (up M a i v) := fun b hb => up_fn (fun e => hb (e ▸ h))
theorem mkp_up2 {M M1 : MM} {a i v : Int} (h1 : MKp M M1) (h : a = 2 ∨ a = 9 ∨ 24 ≤ a ∧ a ≤ 40) : MKp M (up M1 a i v) := fun b hb => (up_fn (M := M1) (a := a) (b := b) (fun e => hb (by rw [e]; exact h))).trans (h1 b hb)
theorem pc_u {M M1 S1 : MM} {w : NS} {r : Int × MM} {z : Int} (e : r = (z, S1)) (hC : CInv S1 w M1) (hF : FrC M M1) : PC M r z w M1 := by
  rw [e]; exact ⟨rfl, hC, hF⟩
theorem LSf_lst {k : Int} (h0 : 0 ≤ k) (h1 : k ≤ 8) : LSf k.toNat = lstO k ∧ GSf k.toNat = grtO k := by
  rcases (show k = 0 ∨ k = 1 ∨ k = 2 ∨ k = 3 ∨ k = 4 ∨ k = 5 ∨ k = 6 ∨ k = 7 ∨ k = 8 by omega) with rfl | rfl | rfl | rfl | rfl | rfl | rfl | rfl | rfl <;> decide
theorem cc_name {G : GP} {l : Launch} {w : NS} {S M : MM} {a b : Int} (hI : SInv S) (hC : CInv S w M) : CT_X9_name G l [(2, 1), (0, a), (0, b)] w M (PC M (op_name S a b)) := by
  refine E_X9_name (fun _ _ X hX C => ?_)
  unfold A_X9_name_0
  refine WA.fix (fun hF => ?_)
  refine B_X9_name_0 C ?_
  have key : ∀ v, 0 ≤ a → a ≤ 3 → CInv (up S 72 a v) w (up M (25 + 2 * a) 0 v) := fun v h0 h1 => by
    refine CInv.of (hC.keep hI (skp_up (by omega)) (mkp_up (by omega)) (Or.inl ⟨up_na (by omega), up_na (by omega)⟩)) ?_ ?_ ?_
    · exact ⟨fun k p q => by rw [up_na (by omega), up_na (by omega)]; exact hC.num.1 k p q, fun k p q => by rw [up_na (by omega), up_na (by omega)]; exact hC.num.2 k p q⟩
    · intro n p q
      have hn := hC.nm n p q
      refine ⟨?_, fun x p2 q2 => by rw [up_na (by omega), up_na (by omega)]; exact hn.2 x p2 q2⟩
      by_cases e : n = a
      · rw [e, up_eq, up_eq]
      · rw [up_na (by omega), up_ni e]; exact hn.1
    · intro r p q
      have hr := hC.rd r p q
      refine ⟨?_, ?_, ?_, fun x p2 q2 => ?_⟩
      all_goals (rw [up_na (by omega), up_na (by omega)])
      · exact hr.1
      · exact hr.2.1
      · exact hr.2.2.1
      · exact hr.2.2.2 x p2 q2
  refine ⟨fun h => ⟨fun h2 => ⟨by omega, by omega, ?_, fun h3 => ?_, fun h3 => ?_⟩, fun h2 => ?_⟩, fun h => ?_⟩
  · rw [(fixN hF h.1 h.2).1]; exact (fixN hF h.1 h.2).2
  · rw [(fixN hF h.1 h.2).1, (hC.nm a h.1 h.2).1]
    exact pc_u (S1 := up S 72 a b) (by unfold op_name; grind) (key b h.1 h.2) (frc_up (FrC.rfl' M) _ (by omega))
  · rw [(fixN hF h.1 h.2).1, (hC.nm a h.1 h.2).1]
    exact pc_u (S1 := up S 72 a (-6)) (by unfold op_name; grind) (key _ h.1 h.2) (frc_up (FrC.rfl' M) _ (by omega))
  · exact pc_s hC (by unfold op_name; grind)
  · exact pc_s hC (by unfold op_name; grind)
theorem cc_counts {G : GP} {l : Launch} {w : NS} {S M : MM} {a b c : Int} (hI : SInv S) (hC : CInv S w M) : CT_X9_counts G l [(2, 1), (0, a), (0, b), (0, c)] w M (PC M (op_counts S a b c)) := by
  refine E_X9_counts (fun _ _ _ X hX C => ?_)
  unfold A_X9_counts_0
  refine WA.fix (fun hF => ?_)
  refine B_X9_counts_0 C ?_
  refine ⟨fun h => ⟨fun h2 => pc_s hC (by unfold op_counts; grind), fun h2 => ⟨fun h3 => ⟨by omega, by omega, ?_, by omega, by omega, ?_⟩, fun h3 => pc_s hC (by unfold op_counts; grind)⟩⟩, fun h => pc_s hC (by unfold op_counts; grind)⟩
  · rw [(fixN hF h.1 h.2).1]; exact (fixN hF h.1 h.2).2
  · rw [(fixN hF h.1 h.2).1, (hC.nm a h.1 h.2).2 b h2.1 h2.2]
    refine pc_u (S1 := up S 73 (100 * a + b) c) (by unfold op_counts; grind) ?_ (frc_up (FrC.rfl' M) _ (by omega))
    refine CInv.of (hC.keep hI (skp_up (by omega)) (mkp_up (by omega)) (Or.inl ⟨up_na (by omega), up_na (by omega)⟩)) ?_ ?_ ?_
    · exact ⟨fun k p q => by rw [up_na (by omega), up_na (by omega)]; exact hC.num.1 k p q, fun k p q => by rw [up_na (by omega), up_na (by omega)]; exact hC.num.2 k p q⟩
    · intro n p q
      have hn := hC.nm n p q
      refine ⟨by rw [up_na (by omega), up_na (by omega)]; exact hn.1, fun x p2 q2 => ?_⟩
      by_cases e : n = a ∧ x = b
      · rw [e.1, e.2, up_eq, up_eq]
      · rw [up_ap, if_neg (by omega), up_ni (by omega)]; exact hn.2 x p2 q2
    · intro r p q
      have hr := hC.rd r p q
      refine ⟨?_, ?_, ?_, fun x p2 q2 => ?_⟩
      all_goals (rw [up_na (by omega), up_na (by omega)])
      · exact hr.1
      · exact hr.2.1
      · exact hr.2.2.1
      · exact hr.2.2.2 x p2 q2
theorem cc_miss {G : GP} {l : Launch} {w : NS} {S M : MM} {a : Int} (hI : SInv S) (hC : CInv S w M) : CT_X9_miss G l [(2, 1), (0, a)] w M (PC M (op_miss S a)) := by
  refine E_X9_miss (fun _ X hX C => ?_)
  refine B_X9_miss_0 C ?_
  have hp := hI.mm a
  refine ⟨fun h => ?_, fun h => pc_s hC (by unfold op_miss; grind)⟩
  rw [hC.num.2 a h.1 h.2]
  refine ⟨by omega, by omega, by omega, ?_⟩
  refine pc_u (S1 := up S 83 a (S 83 a + 1)) (by unfold op_miss; grind) ?_ (frc_up (FrC.rfl' M) _ (by omega))
  · skip
    refine CInv.of (hC.keep hI (skp_up (by omega)) (mkp_up (by omega)) (Or.inl ⟨up_na (by omega), up_na (by omega)⟩)) ?_ ?_ ?_
    · refine ⟨fun k p q => by rw [up_na (by omega), up_na (by omega)]; exact hC.num.1 k p q, fun k p q => ?_⟩
      by_cases e : k = a
      · rw [e, up_eq, up_eq]
      · rw [up_ni e, up_ni e]; exact hC.num.2 k p q
    · intro n p q
      have hn := hC.nm n p q
      exact ⟨by rw [up_na (by omega), up_na (by omega)]; exact hn.1, fun x p2 q2 => by rw [up_na (by omega), up_na (by omega)]; exact hn.2 x p2 q2⟩
    · intro r p q
      have hr := hC.rd r p q
      refine ⟨?_, ?_, ?_, fun x p2 q2 => ?_⟩
      all_goals (rw [up_na (by omega), up_na (by omega)])
      · exact hr.1
      · exact hr.2.1
      · exact hr.2.2.1
      · exact hr.2.2.2 x p2 q2
theorem cc_set {G : GP} {l : Launch} {w : NS} {S M : MM} {a b : Int} (hI : SInv S) (hC : CInv S w M) : CT_X9_set G l [(2, 1), (0, a), (0, b)] w M (PC M (op_set S a b)) := by
  refine E_X9_set (fun _ _ X hX C => ?_)
  refine B_X9_set_0 C ?_
  have key : ∀ M1, 0 ≤ a → a ≤ 8 → MKp M M1 → (∀ k, 0 ≤ k → k ≤ 8 → M1 2 k = up M 2 a b 2 k) → (∀ x i, 24 ≤ x → x ≤ 40 → M1 x i = M x i) → ((a ≠ 0 ∧ M1 9 0 = M 9 0) ∨ M1 9 0 = 0) → CInv (up S 53 a b) w M1 := fun M1 h0 h1 hM h2 h3 h4 => by
    refine CInv.of (hC.keep hI (skp_up (by omega)) hM (h4.imp (fun q => ⟨up_ni (by omega), q.2⟩) id)) ?_ ?_ ?_
    · refine ⟨fun k p q => ?_, fun k p q => by rw [h3 _ _ (by omega) (by omega), up_na (by omega)]; exact hC.num.2 k p q⟩
      rw [h2 k p q]
      by_cases e : k = a
      · rw [e, up_eq, up_eq]
      · rw [up_ni e, up_ni e]; exact hC.num.1 k p q
    · intro n p q
      have hn := hC.nm n p q
      exact ⟨by rw [h3 _ _ (by omega) (by omega), up_na (by omega)]; exact hn.1, fun x p2 q2 => by rw [h3 _ _ (by omega) (by omega), up_na (by omega)]; exact hn.2 x p2 q2⟩
    · intro r p q
      have hr := hC.rd r p q
      refine ⟨?_, ?_, ?_, fun x p2 q2 => ?_⟩
      all_goals (rw [h3 _ _ (by omega) (by omega), up_na (by omega)])
      · exact hr.1
      · exact hr.2.1
      · exact hr.2.2.1
      · exact hr.2.2.2 x p2 q2
  refine ⟨fun h => pc_s hC (by unfold op_set; grind), fun h => ?_⟩
  rw [(LSf_lst h.1 h.2).1, (LSf_lst h.1 h.2).2, hC.num.1 a h.1 h.2]
  refine ⟨by omega, by omega, fun h2 => ⟨fun h3 => ?_, fun h3 => ?_⟩, fun h2 => pc_s hC (by unfold op_set; grind)⟩
  · refine pc_u (S1 := up S 53 a b) (by unfold op_set; grind) (key _ h.1 h.2 (mkp_up (by omega)) (fun k _ _ => rfl) (fun x i _ _ => up_na (by omega)) (Or.inl ⟨h3, up_na (by omega)⟩)) (frc_up (FrC.rfl' M) _ (by omega))
  · refine pc_u (S1 := up S 53 a b) (by unfold op_set; grind) (key _ h.1 h.2 (mkp_up2 (mkp_up (by omega)) (by omega)) (fun k _ _ => up_na (by omega)) (fun x i _ _ => by rw [up_na (by omega), up_na (by omega)]) (Or.inr up_eq)) (frc_up (frc_up (FrC.rfl' M) _ (by omega)) _ (by omega))
theorem cc_slips {G : GP} {l : Launch} {w : NS} {S M : MM} {a b c : Int} (hI : SInv S) (hC : CInv S w M) : CT_X9_slips G l [(2, 1), (0, a), (0, b), (0, c)] w M (PC M (op_slips S a b c)) := by
  refine E_X9_slips (fun _ _ _ X hX C => ?_)
  unfold A_X9_slips_0
  refine WA.fix (fun hF => ?_)
  refine B_X9_slips_0 C ?_
  refine ⟨fun h => ⟨fun h2 => pc_s hC (by unfold op_slips; grind), fun h2 => ⟨fun h3 => ⟨by omega, by omega, ?_, by omega, by omega, ?_⟩, fun h3 => pc_s hC (by unfold op_slips; grind)⟩⟩, fun h => pc_s hC (by unfold op_slips; grind)⟩
  · rw [(fixR hF h.1 h.2).1]; exact (fixR hF h.1 h.2).2
  · rw [(fixR hF h.1 h.2).1, (hC.rd a h.1 h.2).2.2.2 b h2.1 h2.2]
    refine pc_u (S1 := up S 79 (10 * a + b) c) (by unfold op_slips; grind) ?_ (frc_up (FrC.rfl' M) _ (by omega))
    refine CInv.of (hC.keep hI (skp_up (by omega)) (mkp_up (by omega)) (Or.inl ⟨up_na (by omega), up_na (by omega)⟩)) ?_ ?_ ?_
    · exact ⟨fun k p q => by rw [up_na (by omega), up_na (by omega)]; exact hC.num.1 k p q, fun k p q => by rw [up_na (by omega), up_na (by omega)]; exact hC.num.2 k p q⟩
    · intro n p q
      have hn := hC.nm n p q
      exact ⟨by rw [up_na (by omega), up_na (by omega)]; exact hn.1, fun x p2 q2 => by rw [up_na (by omega), up_na (by omega)]; exact hn.2 x p2 q2⟩
    · intro r p q
      have hr := hC.rd r p q
      refine ⟨by rw [up_na (by omega), up_na (by omega)]; exact hr.1, by rw [up_na (by omega), up_na (by omega)]; exact hr.2.1, by rw [up_na (by omega), up_na (by omega)]; exact hr.2.2.1, fun x p2 q2 => ?_⟩
      by_cases e : r = a ∧ x = b
      · rw [e.1, e.2, up_eq, up_eq]
      · rw [up_ap, if_neg (by omega), up_ni (by omega)]; exact hr.2.2.2 x p2 q2
theorem cc_reader {G : GP} {l : Launch} {w : NS} {S M : MM} {a b c : Int} (hI : SInv S) (hC : CInv S w M) : CT_X9_reader G l [(2, 1), (0, a), (0, b), (0, c)] w M (PC M (op_reader S a b c)) := by
  refine E_X9_reader (fun _ _ _ X hX C => ?_)
  unfold A_X9_reader_0
  refine WA.fix (fun hF => ?_)
  refine B_X9_reader_0 C ?_
  have key : ∀ k, 0 ≤ a → a ≤ 3 → (k = 0 ∨ k = 1) → CInv (up S 78 (2 * a + k) c) w (up M (33 + 2 * a) k c) := fun k h0 h1 hk => by
    refine CInv.of (hC.keep hI (skp_up (by omega)) (mkp_up (by omega)) (Or.inl ⟨up_na (by omega), up_na (by omega)⟩)) ?_ ?_ ?_
    · exact ⟨fun k p q => by rw [up_na (by omega), up_na (by omega)]; exact hC.num.1 k p q, fun k p q => by rw [up_na (by omega), up_na (by omega)]; exact hC.num.2 k p q⟩
    · intro n p q
      have hn := hC.nm n p q
      exact ⟨by rw [up_na (by omega), up_na (by omega)]; exact hn.1, fun x p2 q2 => by rw [up_na (by omega), up_na (by omega)]; exact hn.2 x p2 q2⟩
    · intro r p q
      have hr := hC.rd r p q
      refine ⟨?_, ?_, ?_, fun x p2 q2 => by rw [up_na (by omega), up_na (by omega)]; exact hr.2.2.2 x p2 q2⟩
      · by_cases e : r = a ∧ k = 0
        · rw [e.1, e.2, up_eq, Int.add_zero, up_eq]
        · rw [up_ap, if_neg (by omega), up_ni (by omega)]; exact hr.1
      · by_cases e : r = a ∧ k = 1
        · rw [e.1, e.2, up_eq, up_eq]
        · rw [up_ap, if_neg (by omega), up_ni (by omega)]; exact hr.2.1
      · rw [up_ni (by omega), up_na (by omega)]; exact hr.2.2.1
  refine ⟨fun h => ?_, fun h => pc_s hC (by unfold op_reader; grind)⟩
  have hfr := fixR hF h.1 h.2
  have hrd := hC.rd a h.1 h.2
  rw [hfr.1, hrd.1, hrd.2.1]
  have k0 : b = 0 → PC M (op_reader S a b c) (S 78 (2 * a)) w (up M (33 + 2 * a) 0 c) ∨ ¬ (1 ≤ c ∧ c ≤ 100) := fun hb => by
    by_cases hc : 1 ≤ c ∧ c ≤ 100
    · exact Or.inl (pc_u (S1 := up S 78 (2 * a + 0) c) (by unfold op_reader; grind) (key 0 h.1 h.2 (Or.inl rfl)) (frc_up (FrC.rfl' M) _ (by omega)))
    · exact Or.inr hc
  have k1 : b = 1 → (0 ≤ c ∧ c ≤ 1000) → PC M (op_reader S a b c) (S 78 (2 * a + 1)) w (up M (33 + 2 * a) 1 c) := fun hb hc =>
    pc_u (S1 := up S 78 (2 * a + 1) c) (by unfold op_reader; grind) (key 1 h.1 h.2 (Or.inr rfl)) (frc_up (FrC.rfl' M) _ (by omega))
  repeat' (first | with_reducible refine And.intro ?_ ?_ | with_reducible intro _)
  all_goals (first | omega | exact hfr.2 | (exact pc_s hC (by unfold op_reader; grind)) | (exact k1 (by omega) (by omega)) | (exact (k0 (by omega)).resolve_right (fun q => q (by omega))))
theorem pw24 {S : MM} (hI : SInv S) : (2 : Int) ^ (S 41 12).toNat ≤ 2 ^ 24 := by
  have := Nat.pow_le_pow_right (n := 2) (by decide) (show (S 41 12).toNat ≤ 24 by have := hI.pc; omega)
  exact_mod_cast this
theorem pw10 {S : MM} (hI : SInv S) : (2 : Int) ^ (S 41 26).toNat ≤ 2 ^ 10 := by
  have := Nat.pow_le_pow_right (n := 2) (by decide) (show (S 41 26).toNat ≤ 10 by have := hI.oc; omega)
  exact_mod_cast this
theorem cc_find {G : GP} {l : Launch} {w : NS} {S M : MM} {a b c : Int} (hI : SInv S) (hC : CInv S w M) : CT_X9_find G l [(2, 1), (0, a), (0, b), (0, c)] w M (PC M (op_find S a b c)) := by
  refine E_X9_find (fun _ _ _ X hX C => ?_)
  unfold A_X9_find_0
  refine WA.fix (fun hF => ?_)
  refine B_X9_find_0 C ?_
  have hpc := hI.pc
  have h24 := pw24 hI
  have hfd := hI.fd a
  have key : ∀ v, 0 ≤ a → a ≤ 3 → CInv (up S 77 a v) w (up M (33 + 2 * a) 3 v) := fun v h0 h1 => by
    refine CInv.of (hC.keep hI (skp_up (by omega)) (mkp_up (by omega)) (Or.inl ⟨up_na (by omega), up_na (by omega)⟩)) ?_ ?_ ?_
    · exact ⟨fun k p q => by rw [up_na (by omega), up_na (by omega)]; exact hC.num.1 k p q, fun k p q => by rw [up_na (by omega), up_na (by omega)]; exact hC.num.2 k p q⟩
    · intro n p q
      have hn := hC.nm n p q
      exact ⟨by rw [up_na (by omega), up_na (by omega)]; exact hn.1, fun x p2 q2 => by rw [up_na (by omega), up_na (by omega)]; exact hn.2 x p2 q2⟩
    · intro r p q
      have hr := hC.rd r p q
      refine ⟨by rw [up_ni (by omega), up_na (by omega)]; exact hr.1, by rw [up_ni (by omega), up_na (by omega)]; exact hr.2.1, ?_, fun x p2 q2 => by rw [up_na (by omega), up_na (by omega)]; exact hr.2.2.2 x p2 q2⟩
      by_cases e : r = a
      · rw [e, up_eq, up_eq]
      · rw [up_na (by omega), up_ni e]; exact hr.2.2.1
  rw [hC.top.2.1]
  refine ⟨fun h => pc_s hC (by unfold op_find; grind), fun h => ⟨by omega, by omega, fun h2 => ?_, fun h2 => ?_⟩⟩
  · have hb : isPc S b := Decidable.not_not.mp (fun q => h2 ((pcO_ne hC).mpr q))
    have hfr := fixR hF h.1 h.2
    have hrd := (hC.rd a h.1 h.2).2.2.1
    have e1 := z_msk (x := S 77 a) (p := b) hfd.1 (by omega) hb.1 (by omega)
    have e2 := z_bit (x := S 77 a) (i := b) hfd.1 (by omega) hb.1 (by omega)
    rw [hfr.1, hrd]
    refine ⟨by omega, by omega, hfr.2, fun h3 => ⟨fun h4 => ?_, fun h4 => ?_⟩, fun h3 => ⟨fun h4 => ?_, fun h4 => ?_⟩⟩
    · refine pc_u (S1 := up S 77 a (zand (S 77 a) (zxor (zshl 1 b) (-1)))) ?_ (key _ h.1 h.2) (frc_up (FrC.rfl' M) _ (by omega))
      unfold op_find; rw [if_pos ⟨h, hb⟩, e2, e1.mp h4, if_neg (by omega)]; rfl
    · refine pc_u (S1 := up S 77 a (zand (S 77 a) (zxor (zshl 1 b) (-1)))) ?_ (key _ h.1 h.2) (frc_up (FrC.rfl' M) _ (by omega))
      unfold op_find; rw [if_pos ⟨h, hb⟩, e2, show tb (S 77 a) b = true from by cases ht : tb (S 77 a) b; exact absurd (e1.mpr ht) h4; rfl, if_neg (by omega)]; rfl
    · refine pc_u (S1 := up S 77 a (zor (S 77 a) (zshl 1 b))) ?_ (key _ h.1 h.2) (frc_up (FrC.rfl' M) _ (by omega))
      unfold op_find; rw [if_pos ⟨h, hb⟩, e2, e1.mp h4, if_pos h3]; rfl
    · refine pc_u (S1 := up S 77 a (zor (S 77 a) (zshl 1 b))) ?_ (key _ h.1 h.2) (frc_up (FrC.rfl' M) _ (by omega))
      unfold op_find; rw [if_pos ⟨h, hb⟩, e2, show tb (S 77 a) b = true from by cases ht : tb (S 77 a) b; exact absurd (e1.mpr ht) h4; rfl, if_pos h3]; rfl
  · have hb : ¬ isPc S b := (pcO_ne hC).mp (Decidable.not_not.mp h2)
    exact pc_s hC (by unfold op_find; rw [if_neg (fun q => hb q.2)])
