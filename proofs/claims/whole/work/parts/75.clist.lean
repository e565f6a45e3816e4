/-! THE CLASS: gatherList, list, isListed, send -/
theorem FWK.eq4 {S : MM} {w : NS} {M M1 : MM} (hC : CInv S w M) (hF : Fo (FWK S M) M M1) (k : Int) : M1 4 k = M 4 k := fwk_low hC hF (by omega) (by omega)
theorem FWK.tr {S : MM} {w : NS} {M M1 M2 : MM} (hC : CInv S w M) (h1 : Fo (FWK S M) M M1) (h2 : Fo (FWK S M1) M1 M2) : Fo (FWK S M) M M2 :=
  h1.tr (h2.mono (fun x i q => by
    rcases q with q | q | q | q | ⟨k, hk, q, q2⟩
    · exact Or.inl q
    · exact Or.inr (Or.inl q)
    · exact Or.inr (Or.inr (Or.inl q))
    · exact Or.inr (Or.inr (Or.inr (Or.inl q)))
    · exact Or.inr (Or.inr (Or.inr (Or.inr ⟨k, hk, by rw [q, FWK.eq4 hC h1], q2⟩)))))
theorem ah_ix {S : MM} {j : Nat} {k p : Int} (hj : (ordL S)[j]? = some k) (hp : isPc S p) : aheadS S p k = true ↔ ∃ i : Nat, i < j ∧ (ordL S)[i]? = some p := by
  constructor
  · intro h
    obtain ⟨i, hi⟩ := ord_ix hp
    refine ⟨i, ?_, hi⟩
    rcases Nat.lt_trichotomy i j with c | c | c
    · exact c
    · rw [c, hj] at hi; rw [Option.some.inj hi, ah_irr] at h; cases h
    · have := ah_asy _ _ (ord_ah hj hi c); rw [this] at h; cases h
  · rintro ⟨i, hi, e⟩; exact ord_ah e hj hi
def PGL (S : MM) (o day : Int) (w : NS) (M : MM) : Int → NS → MM → Prop := fun _ w' M' => w = w' ∧ CInv S w M' ∧ Fo (FWK S M) M M' ∧ M' 1 11 = (listS S o day).length ∧ AL M' 12 (listS S o day) ∧ (∀ i, M' 14 i = M 14 i ∧ M' 15 i = M 15 i ∧ M' 16 i = M 16 i)
theorem cc_gatherList {G : GP} {l : Launch} {w : NS} {S M : MM} {o day : Int} (hI : SInv S) (hV : RInv S) (hC : CInv S w M) (ho : isOr S o) : CT_X9_gatherList G l [(2, 1), (2, M 6 o), (0, day)] w M (PGL S o day w M) := by
  refine E_X9_gatherList (fun _ X hX C => ?_)
  have hpc := hI.pc
  have hms := hI.ms o
  have hone := hI.oe o
  have hO := hC.od o ho
  have hol := ordL_len S
  -- the walk over the row, from a memory that is as M but for work
  have K : ∀ M0 : MM, CInv S w M0 → Fo (FWK S M) M M0 → (∀ i, M0 14 i = M 14 i ∧ M0 15 i = M 15 i ∧ M0 16 i = M 16 i) → (S 63 o = 1 → ∀ k, isPc S k → M0 (M 4 k) 8 = firstS S k) →
      ∀ j : Int, j ≤ S 41 12 → ∀ (M1 : MM) (bits : Int), 0 ≤ j → Fo (fun x i => x = 12 ∨ (x = 1 ∧ i = 11)) M0 M1 → M1 1 11 = ((((ordL S).take j.toNat).filter (lstF S o day)).take (S 62 o).toNat).length → AL M1 12 ((((ordL S).take j.toNat).filter (lstF S o day)).take (S 62 o).toNat) → (S 63 o = 1 → (0 ≤ bits ∧ bits < 2 ^ 24) ∧ ∀ e, 0 ≤ e → (tb bits e = true ↔ ∃ (i : Nat) (k : Int), (i : Int) < j ∧ (ordL S)[i]? = some k ∧ wantsS S o k = true ∧ firstS S k = e)) → A_X9_gatherList_38 G X (PGL S o day w M) (M 6 o) day bits j w M1 := fun M0 hC0 hF0 h14 hfs => up_ind _ (fun j hj ih M1 bits j0 hF hn hL hB => by
    have hFw : Fo (FWK S M0) M0 M1 := hF.mono (fun x i q => by unfold FWK; omega)
    have same : ∀ x i, ¬ (x = 12 ∨ (x = 1 ∧ i = 11)) → M1 x i = M0 x i := fun x i q => hF x i q
    have hC1 : CInv S w M1 := hC0.work hI hFw (CFam.wk hC0 (same _ _ (by omega)) (fun k => same _ _ (by omega)) (fun k i hk => same _ _ (by have := (hC0.pc k hk).1; omega)))
    have hFM : Fo (FWK S M) M M1 := FWK.tr hC hF0 hFw
    have e6 : M1 6 o = M 6 o := fwk_low hC hFM (by omega) (by omega)
    have hO1 := hC1.od o ho
    unfold COrder at hO1
    rw [e6] at hO1
    refine B_X9_gatherList_38 C ?_
    rw [hC1.top.2.1]
    refine ⟨fun h => ?_, fun h => ?_⟩
    · rw [List.take_of_length_le (show (ordL S).length ≤ j.toNat by omega)] at hn hL
      exact ⟨rfl, hC1, hFM, hn, hL, fun i => ⟨(same 14 i (by omega)).trans (h14 i).1, (same 15 i (by omega)).trans (h14 i).2.1, (same 16 i (by omega)).trans (h14 i).2.2⟩⟩
    · have hjt : j.toNat < (ordL S).length := by omega
      obtain ⟨k, hk1, hk2, hk3⟩ := ord_at hC1 hI j0 (show j < S 41 12 by omega)
      have hkg : (ordL S)[j.toNat]'hjt = k := by rw [List.getElem?_eq_getElem hjt] at hk1; exact Option.some.inj hk1
      have hP := hC1.pc k hk2
      have hG := hC1.pg _ (hI.po k hk2)
      have hat := fl_at (f := lstF S o day) hjt
      rw [hkg] at hat
      have e4 : M1 4 k = M 4 k := FWK.eq4 hC hFM k
      rw [hk3]
      -- the next place, the row as it is or with one more
      have skip : lstF S o day k = false ∨ S 62 o ≤ M1 1 11 → ∀ bits', (S 63 o = 1 → (0 ≤ bits' ∧ bits' < 2 ^ 24) ∧ ∀ e, 0 ≤ e → (tb bits' e = true ↔ ∃ (i : Nat) (k : Int), (i : Int) < j + 1 ∧ (ordL S)[i]? = some k ∧ wantsS S o k = true ∧ firstS S k = e)) → A_X9_gatherList_38 G X (PGL S o day w M) (M 6 o) day bits' (j + 1) w M1 := fun hc bits' hB' => by
        have e : ((((ordL S).take (j + 1).toNat).filter (lstF S o day)).take (S 62 o).toNat) = ((((ordL S).take j.toNat).filter (lstF S o day)).take (S 62 o).toNat) := by
          rw [show (j + 1).toNat = j.toNat + 1 by omega, hat]
          by_cases c : lstF S o day k = true
          · rw [if_pos c, take_snoc, if_neg]
            rcases hc with hc | hc
            · rw [hc] at c; cases c
            · rw [hn, List.length_take] at hc; omega
          · rw [if_neg c, List.append_nil]
        exact ih (j + 1) (by omega) (by omega) M1 bits' (by omega) hF (by rw [e]; exact hn) (by rw [e]; exact hL) hB'
      have add : lstF S o day k = true → ¬ S 62 o ≤ M1 1 11 → ∀ bits', (S 63 o = 1 → (0 ≤ bits' ∧ bits' < 2 ^ 24) ∧ ∀ e, 0 ≤ e → (tb bits' e = true ↔ ∃ (i : Nat) (k : Int), (i : Int) < j + 1 ∧ (ordL S)[i]? = some k ∧ wantsS S o k = true ∧ firstS S k = e)) → A_X9_gatherList_38 G X (PGL S o day w M) (M 6 o) day bits' (j + 1) w (up (up M1 12 (M1 1 11) k) 1 11 (M1 1 11 + 1)) := fun c hc bits' hB' => by
        have e : ((((ordL S).take (j + 1).toNat).filter (lstF S o day)).take (S 62 o).toNat) = ((((ordL S).take j.toNat).filter (lstF S o day)).take (S 62 o).toNat) ++ [k] := by
          rw [show (j + 1).toNat = j.toNat + 1 by omega, hat, if_pos c, take_snoc, if_pos]
          rw [hn, List.length_take] at hc; omega
        refine ih (j + 1) (by omega) (by omega) _ bits' (by omega) (fo_up (fo_up hF _ (Or.inl rfl)) _ (Or.inr ⟨rfl, rfl⟩)) ?_ ?_ hB'
        · rw [up_eq, e, List.length_append, hn]; simp
        · rw [e]
          refine al_fr (M := up M1 12 (M1 1 11) k) ?_ (fun i => up_na (by decide))
          rw [hn]; exact al_snoc hL k
      have hl0 : 0 ≤ M1 1 11 ∧ M1 1 11 ≤ S 62 o := by rw [hn, List.length_take]; omega
      have hlf : lstF S o day k = (wantsS S o k && decide (S 44 (S 46 k) = day) && !(decide (S 63 o = 1) && dbdS S o k)) := rfl
      have hask := cc_asksFor (G := G) (l := X.2.1) hI hV (hC1.od o ho) ho hP hG
      rw [e6] at hask
      refine ⟨j0, by omega, hO1.2.1, _, hask, ?_⟩
      rintro _ _ _ ⟨rfl, rfl, rfl⟩
      rw [hO1.2.2.1.2.2.2.2.2, hO1.2.2.1.2.2.2.2.1, hP.2.2.2.2.1, hG.2.2.2.2.2.1, hP.2.2.2.1]
      refine ⟨fun h1 => ⟨hO1.2.1, fun h2 => ⟨hP.2.1, hG.2.1, fun h3 => ⟨by omega, skip (Or.inl ?_) _ (fun q => by omega)⟩, fun h3 => ⟨fun h4 => ⟨by omega, skip (Or.inr h4) _ (fun q => by omega)⟩, fun h4 => ⟨by omega, by omega, by omega, by omega, add ?_ h4 _ (fun q => by omega)⟩⟩⟩, fun h2 => ⟨hP.2.1, ?_⟩⟩, fun h1 => ⟨by omega, skip (Or.inl ?_) _ (fun q => ?_)⟩⟩
      · rw [hlf, decide_eq_false h3]; simp
      · have hw1 : wantsS S o k = true := by cases e : wantsS S o k; rw [e] at h1; exact absurd rfl h1; rfl
        rw [hlf, hw1, decide_eq_true (Decidable.not_not.mp h3), decide_eq_false (show ¬ S 63 o = 1 by omega)]; rfl
      · have hw1 : wantsS S o k = true := by cases e : wantsS S o k; rw [e] at h1; exact absurd rfl h1; rfl
        have h63 : S 63 o = 1 := by omega
        obtain ⟨b1, b2⟩ := hB h63
        have ef : M1 (M1 4 k) 8 = firstS S k := by
          rw [e4, same _ _ (by have := (hC0.pc k hk2).1; rw [FWK.eq4 hC hF0] at this; omega)]
          exact hfs h63 k hk2
        have hfr := first_nn hI hk2
        rw [ef, z_hb b1.1 (by omega) hfr.1 (by omega)]
        have hdb : dbdS S o k = true ↔ tb bits (firstS S k) = true := by
          rw [b2 _ hfr.1]
          unfold dbdS
          rw [exN_iff]
          constructor
          · rintro ⟨p, p0, p1, p2⟩
            simp only [Bool.and_eq_true] at p2
            have hpp : isPc S p := ⟨p0, by omega⟩
            obtain ⟨i, hi, e⟩ := (ah_ix hk1 hpp).mp p2.1.2
            exact ⟨i, p, by omega, e, p2.2, (first_iff hI hk2 hpp).mpr p2.1.1⟩
          · rintro ⟨i, p, hi, e, q1, q2⟩
            have hpp : isPc S p := (ordL_mem p).mp (List.mem_of_getElem? e)
            refine ⟨p, hpp.1, by have := hpp.2; omega, ?_⟩
            simp only [Bool.and_eq_true]
            exact ⟨⟨(first_iff hI hk2 hpp).mp q2, (ah_ix hk1 hpp).mpr ⟨i, by omega, e⟩⟩, q1⟩
        obtain ⟨s1, s2⟩ := z_set (x := bits) (p := firstS S k) (k := 24) b1.1 b1.2 (by omega) hfr.1 (by omega) (by omega)
        have hB2 : S 63 o = 1 → (0 ≤ zor bits (zshl 1 (firstS S k)) ∧ zor bits (zshl 1 (firstS S k)) < 2 ^ 24) ∧ ∀ e, 0 ≤ e → (tb (zor bits (zshl 1 (firstS S k))) e = true ↔ ∃ (i : Nat) (k : Int), (i : Int) < j + 1 ∧ (ordL S)[i]? = some k ∧ wantsS S o k = true ∧ firstS S k = e) := fun _ => by
          refine ⟨s1, fun e e0 => ?_⟩
          rw [s2 e e0, Bool.or_eq_true, b2 e e0, decide_eq_true_eq]
          constructor
          · rintro (⟨i, p, q1, q2⟩ | q)
            · exact ⟨i, p, by omega, q2⟩
            · exact ⟨j.toNat, k, by omega, hk1, hw1, q.symm⟩
          · rintro ⟨i, p, q1, q2, q3, q4⟩
            by_cases c : (i : Int) < j
            · exact Or.inl ⟨i, p, c, q2, q3, q4⟩
            · right
              rw [show i = j.toNat by omega, hk1] at q2
              rw [← q4, Option.some.inj q2]
        refine ⟨fun h3 => ⟨hG.2.1, fun h4 => ⟨by omega, skip (Or.inl ?_) _ hB2⟩, fun h4 => ⟨fun h5 => ⟨by omega, skip (Or.inr h5) _ hB2⟩, fun h5 => ⟨by omega, by omega, by omega, by omega, add ?_ h5 _ hB2⟩⟩⟩, fun h3 => ⟨by omega, skip (Or.inl ?_) _ (fun _ => ⟨b1, fun e e0 => ?_⟩)⟩⟩
        · rw [hlf, decide_eq_false h4]; simp
        · have : dbdS S o k = false := Bool.eq_false_iff.mpr (fun q => h3 (hdb.mp q))
          rw [hlf, hw1, this, decide_eq_true (Decidable.not_not.mp h4)]; simp
        · rw [hlf, hdb.mpr h3, decide_eq_true h63]; simp
        · rw [b2 e e0]
          constructor
          · rintro ⟨i, p, q1, q2⟩; exact ⟨i, p, by omega, q2⟩
          · rintro ⟨i, p, q1, q2, q3, q4⟩
            by_cases c : (i : Int) < j
            · exact ⟨i, p, c, q2, q3, q4⟩
            · rw [show i = j.toNat by omega, hk1] at q2
              rw [← Option.some.inj q2] at q4
              rw [q4] at h3
              exact (b2 e e0).mp h3
      · rw [hlf, bi_0.mp (Decidable.not_not.mp h1)]; rfl
      · obtain ⟨b1, b2⟩ := hB q
        refine ⟨b1, fun e e0 => ?_⟩
        rw [b2 e e0]
        constructor
        · rintro ⟨i, p, q1, q2⟩; exact ⟨i, p, by omega, q2⟩
        · rintro ⟨i, p, q1, q2, q3, q4⟩
          by_cases c : (i : Int) < j
          · exact ⟨i, p, c, q2, q3, q4⟩
          · rw [show i = j.toNat by omega, hk1] at q2
            rw [← Option.some.inj q2, bi_0.mp (Decidable.not_not.mp h1)] at q3
            cases q3)
  have hnum := hC.num.1 0 (by decide) (by decide)
  refine B_X9_gatherList_0 C ?_
  rw [hO.2.2.1.2.2.2.2.2, hC.top.2.1, hnum]
  have start : ∀ M4 : MM, CInv S w M4 → Fo (FWK S M) M M4 → (∀ i, M4 14 i = M 14 i ∧ M4 15 i = M 15 i ∧ M4 16 i = M 16 i) → (S 63 o = 1 → ∀ k, isPc S k → M4 (M 4 k) 8 = firstS S k) → A_X9_gatherList_38 G X (PGL S o day w M) (M 6 o) day 0 0 w (up M4 1 11 0) := fun M4 c1 c2 c3 c4 => by
    refine K M4 c1 c2 c3 c4 0 (by omega) (up M4 1 11 0) 0 (by omega) (fo_up (Fo.rfl' _ _) _ (Or.inr ⟨rfl, rfl⟩)) (by rw [up_eq]; simp) (by simp [AL]) (fun _ => ⟨by omega, fun e e0 => ?_⟩)
    rw [tb_0]
    exact ⟨fun q => (by cases q), fun ⟨i, k, q, _⟩ => (by omega)⟩
  refine ⟨hO.2.1, fun h => start M hC (Fo.rfl' _ _) (fun i => ⟨rfl, rfl, rfl⟩) (fun q => by omega), fun h => ⟨_, cc_gather hI hC, ?_⟩⟩
  intro z4 w4 M4 h4
  obtain ⟨p1, p2, p3, p4, p5, p6⟩ := h4.inv hI hC
  rw [← p1]
  have hF4 := h4.2.1
  refine start M4 p2 (hF4.mono FGa.wk) (fun i => ⟨?_, ?_, ?_⟩) (fun _ k hk => by rw [← p4 k]; exact (p6 k hk).1)
  all_goals (refine hF4 _ i ?_; rintro (q | ⟨k, hk, q, -⟩) <;> first | omega | (have := (hC.pc k hk).1; omega))
theorem cc_list {G : GP} {l : Launch} {w : NS} {S M : MM} {a b c : Int} (hI : SInv S) (hV : RInv S) (hC : CInv S w M) : CT_X9_list G l [(2, 1), (0, a), (0, b), (0, c)] w M (PC M (op_list S a b c)) := by
  refine E_X9_list (fun _ _ _ X hX C => ?_)
  refine B_X9_list_0 C ?_
  have hoc := hI.oc
  rw [hC.top.2.2]
  refine ⟨by omega, by omega, fun h => ⟨fun h2 => ?_, fun h2 => ?_⟩, fun h => ?_⟩
  · have ha : isOr S a := Decidable.not_not.mp (fun q => h ((orO_ne hC).mpr q))
    rw [orO_in hC ha]
    refine ⟨_, cc_gatherList hI hV hC ha, ?_⟩
    rintro z6 _ M6 ⟨rfl, k1, k2, k3, k4, -⟩
    have hl := listS_len (o := a) (day := b) hI
    rw [k3]
    have op : ∀ z, (if c = -1 then ((listS S a b).length : Int) else if 0 ≤ c ∧ c < (listS S a b).length then (listS S a b).getD c.toNat 0 else -6) = z → PC M (op_list S a b c) z w M6 := fun z hz => pc_u (S1 := S) (by unfold op_list; rw [if_pos ha, if_pos h2, hz]) k1 (FWK.frc hC k2)
    refine ⟨fun h3 => ⟨by omega, fun h4 => op _ ?_, fun h4 => ⟨by omega, by omega, op _ ?_⟩⟩, fun h3 => op _ ?_⟩
    · rw [if_neg h3, if_neg (by omega)]
    · rw [if_neg h3, if_pos (by omega), al_at k4 h4.1 (by omega)]
    · rw [if_pos (Decidable.not_not.mp h3)]
  · have ha : isOr S a := Decidable.not_not.mp (fun q => h ((orO_ne hC).mpr q))
    exact pc_s hC (by unfold op_list; rw [if_pos ha, if_neg h2])
  · exact pc_s hC (by unfold op_list; rw [if_neg ((orO_ne hC).mp (Decidable.not_not.mp h))])
theorem cc_isListed {G : GP} {l : Launch} {w : NS} {S M : MM} {o p : Int} (hI : SInv S) (hV : RInv S) (hC : CInv S w M) (ho : isOr S o) (hp : isPc S p) : CT_X9_isListed G l [(2, 1), (2, M 4 p), (2, M 6 o)] w M (fun z w' M' => bi (decide (p ∈ listS S o (S 44 (S 46 p)))) = z ∧ w = w' ∧ CInv S w M' ∧ Fo (FWK S M) M M') := by
  refine E_X9_isListed (fun X hX C => ?_)
  refine B_X9_isListed_0 C ?_
  have hP := hC.pc p hp
  have hG := hC.pg _ (hI.po p hp)
  rw [hP.2.2.2.2.1, hG.2.2.2.2.2.1]
  refine ⟨hP.2.1, hG.2.1, _, cc_gatherList hI hV hC ho, ?_⟩
  rintro z4 _ M4 ⟨rfl, k1, k2, k3, k4, -⟩
  have hl := listS_len (o := o) (day := S 44 (S 46 p)) hI
  have e0 : M4 (M 4 p) 0 = p := by rw [fwk_pc hC k2 hp (by decide) (by decide)]; exact hP.2.2.2.1
  generalize listS S o (S 44 (S 46 p)) = W at *
  have L : ∀ i : Int, i ≤ W.length → 0 ≤ i → p ∉ W.take i.toNat → A_X9_isListed_14 G X (fun z w' M' => bi (decide (p ∈ W)) = z ∧ w = w' ∧ CInv S w M' ∧ Fo (FWK S M) M M') (M 4 p) i w M4 := up_ind _ (fun i hi ih i0 hz => by
    refine B_X9_isListed_14 C ?_
    rw [k3, e0]
    refine ⟨fun h => ⟨?_, rfl, k1, k2⟩, fun h => ?_⟩
    · rw [List.take_of_length_le (by omega)] at hz
      rw [decide_eq_false hz]; rfl
    · have hit : i.toNat < W.length := by omega
      have e70 : M4 12 i = W[i.toNat]'hit := by rw [al_at k4 i0 (by omega), List.getD_eq_getElem?_getD, List.getElem?_eq_getElem hit]; rfl
      rw [e70]
      refine ⟨i0, by omega, hP.2.1, fun q => ⟨by omega, ih (i + 1) (by omega) (by omega) (by omega) ?_⟩, fun q => ⟨?_, rfl, k1, k2⟩⟩
      · rw [show (i + 1).toNat = i.toNat + 1 by omega, List.take_succ_eq_append_getElem hit]
        exact fun r => (mem_snoc.mp r).elim hz (fun e => q e.symm)
      · rw [decide_eq_true (by rw [← Decidable.not_not.mp q]; exact List.getElem_mem _)]; rfl)
  exact L 0 (by omega) (by omega) (by simp)
theorem CInv.sent {S : MM} {w : NS} {M : MM} {a v : Int} (hC : CInv S w M) (hI : SInv S) (ha : isPc S a) : CInv (up S 52 a v) w (up M (M 4 a) 11 v) := by
  have hP := hC.pc a ha
  have h83 := hP.1
  have tg : ∀ x t, w.2 x = t → t ≠ (7, 12) → up M (M 4 a) 11 v x = M x := fun x t hx ht => up_fn (ne_sh hx hP.2.1 ht)
  have sv : SV S (up S 52 a v) := ⟨up_na (by decide), trivial, fun k _ => ⟨trivial, up_na (by decide), up_na (by decide), up_na (by decide)⟩⟩
  have swl : ∀ k, wl (up S 52 a v) k = wl S k := fun k => wl_c (up_fn (by decide)) (up_na (by decide)) (up_na (by decide)) (up_na (by decide)) (up_na (by decide)) (up_na (by decide))
  refine hC.mk3 hI (fun x hx _ _ _ => up_fn (by omega)) (fun i => up_na (by decide)) (fun x hx => up_fn (by omega)) sv (fun p hp => ?_) (fun k hk => ?_) (fun o ho => ?_) ?_ (CFam.mv hC hI sv ⟨up_na (by decide), fun k _ => swl k⟩ (up_na (by omega)) (up_fn (by omega)) (fun k hk => ⟨up_ni (by decide), up_ni (by decide)⟩))
  · have hQ := hC.pg p hp
    exact hQ.mv (up_fn (by omega)) (tg _ _ hQ.2.1 (by decide)) (tg _ _ hQ.2.2.1 (by decide)) (up_na (by decide)) (up_na (by decide)) (up_na (by decide)) (fun i _ _ => up_na (by decide)) rfl rfl
  · have hK := hC.pc k hk
    obtain ⟨c1, c2, c3, c4, c5, ⟨c6, c7, c8, c9⟩, ⟨c10, c11⟩, c12, c13⟩ := id hK
    have e4 : up M (M 4 a) 11 v 4 k = M 4 k := up_na (by omega)
    have e3 : ∀ i, up M (M 4 a) 11 v 3 i = M 3 i := fun i => up_na (by omega)
    have s : ∀ x i, x ≠ 52 → up S 52 a v x i = S x i := fun x i hx => up_na hx
    unfold CPiece
    rw [e4, swl k, s 46 k (by decide), s 47 k (by decide), s 48 k (by decide), s 49 k (by decide), s 50 k (by decide), s 51 k (by decide), e3]
    refine ⟨c1, c2, c3, (up_ni (by decide)).trans c4, (up_ni (by decide)).trans c5, ⟨(up_ni (by decide)).trans c6, (up_ni (by decide)).trans c7, (up_ni (by decide)).trans c8, (up_ni (by decide)).trans c9⟩, ⟨(up_ni (by decide)).trans c10, ?_⟩, (up_ni (by decide)).trans c12, al_fr c13 (fun i => up_na (ne_sh c3 hP.2.1 (by decide)))⟩
    by_cases e : k = a
    · rw [e, up_eq, up_eq]
    · rw [up_na (fun q => e ((pc_inj hC hk ha).mp q)), up_ni e]; exact c11
  · have hO := hC.od o ho
    obtain ⟨r1, r2, r3, -⟩ := hO.2.2.2.1
    exact hO.mv (up_na (by omega)) (tg _ _ hO.2.1 (by decide)) (tg _ _ r2 (by decide)) (tg _ _ r3 (by decide)) (Or.inl (up_na (by omega))) (fun x _ _ => up_na (by omega)) (fun i _ _ => up_na (by decide)) (hI.sm o).2 rfl rfl rfl
  · rw [show up M (M 4 a) 11 v 1 8 = M 1 8 from up_na (by omega)]
    obtain ⟨r1, r2, r3, -⟩ := hC.sp
    exact hC.sp.mv (tg _ _ r2 (by decide)) (tg _ _ r3 (by decide)) (up_na (by decide)) (fun i _ _ => up_na (by decide)) (hI.sm 10).2 rfl rfl
theorem cc_send {G : GP} {l : Launch} {w : NS} {S M : MM} {a b : Int} (hI : SInv S) (hV : RInv S) (hC : CInv S w M) : CT_X9_send G l [(2, 1), (0, a), (0, b)] w M (PC M (op_send S a b)) := by
  refine E_X9_send (fun _ _ X hX C => ?_)
  refine B_X9_send_0 C ?_
  have hoc := hI.oc
  have hpc := hI.pc
  rw [hC.top.2.1, hC.top.2.2]
  refine ⟨by omega, by omega, by omega, by omega, fun h => ?_, fun h => ⟨fun h2 => ?_, fun h2 => ?_⟩⟩
  · exact pc_s hC (by unfold op_send; rw [if_neg (fun q => (pcO_ne hC).mp h q.1)])
  · have ha : isPc S a := Decidable.not_not.mp (fun q => h ((pcO_ne hC).mpr q))
    have hb : isOr S b := Decidable.not_not.mp (fun q => h2 ((orO_ne hC).mpr q))
    rw [pcO_in hC ha, orO_in hC hb]
    refine ⟨_, cc_isListed hI hV hC hb ha, ?_⟩
    rintro z8 _ M8 ⟨e1, rfl, hC8, hF8⟩
    have hs := sent_b hI a
    have hbb := hb
    unfold isOr at hbb
    have hbt := z_hb (x := S 52 a) (i := b) hs.1 (by omega) hbb.1 (by omega)
    have e4 := FWK.eq4 hC hF8 a
    have hP8 := hC8.pc a ha
    unfold CPiece at hP8
    rw [e4] at hP8
    rw [hP8.2.2.2.2.2.2.1.2, hbt]
    have fr := FWK.frc hC hF8
    refine ⟨fun h3 => ⟨hP8.2.1, fun h4 => ?_, fun h4 => pc_u (S1 := S) ?_ hC8 fr⟩, fun h3 => pc_u (S1 := S) ?_ hC8 fr⟩
    · have hin : a ∈ listS S b (S 44 (S 46 a)) := by
        have : decide (a ∈ listS S b (S 44 (S 46 a))) = true := by
          cases e : decide (a ∈ listS S b (S 44 (S 46 a)))
          · rw [e] at e1; exact absurd e1.symm h3
          · rfl
        simpa using this
      have hn := hC8.sent (v := zor (S 52 a) (zshl 1 b)) hI ha
      rw [e4] at hn
      refine pc_u (S1 := up S 52 a (zor (S 52 a) (zshl 1 b))) ?_ hn (frc_up fr _ (by have := hP8.1; omega))
      unfold op_send; rw [if_pos ⟨ha, hb⟩, if_pos hin, if_neg h4]
    · have hin : a ∈ listS S b (S 44 (S 46 a)) := by
        have : decide (a ∈ listS S b (S 44 (S 46 a))) = true := by
          cases e : decide (a ∈ listS S b (S 44 (S 46 a)))
          · rw [e] at e1; exact absurd e1.symm h3
          · rfl
        simpa using this
      unfold op_send; rw [if_pos ⟨ha, hb⟩, if_pos hin, if_pos h4]
    · have hin : a ∉ listS S b (S 44 (S 46 a)) := by
        have := bi_0.mp (e1.trans (Decidable.not_not.mp h3))
        simpa using this
      unfold op_send; rw [if_pos ⟨ha, hb⟩, if_neg hin]
  · exact pc_s hC (by unfold op_send; rw [if_neg (fun q => (orO_ne hC).mp (Decidable.not_not.mp h2) q.2)])
