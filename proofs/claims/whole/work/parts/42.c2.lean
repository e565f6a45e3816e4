/-! THE CLASS: calls on pages and pieces that change nothing there -/
theorem cc_word {G : GP} {l : Launch} {w : NS} {S M : MM} {a b : Int} (hI : SInv S) (hC : CInv S w M) : CT_X9_word G l [(2, 1), (0, a), (0, b)] w M (PC M (op_word S a b)) := by
  refine E_X9_word (fun _ _ X hX C => ?_)
  refine B_X9_word_0 C ?_
  have hpc := hI.pc
  have hlen := wl_len hI a
  rw [hC.top.2.1]
  refine ⟨by omega, by omega, fun h => ?_, fun h => ?_⟩
  · have ha : isPc S a := Decidable.not_not.mp (fun q => h ((pcO_ne hC).mpr q))
    obtain ⟨h1, h2, h3, h4, h5, h6, h7, h8, h9⟩ := hC.pc a ha
    rw [pcO_in hC ha, h8]
    refine ⟨h2, by omega, fun h10 => ?_, fun h10 => ⟨by omega, by omega, ?_⟩⟩
    · exact pc_s hC (by unfold op_word; rw [if_pos ha, if_neg (by omega)])
    · exact pc_s hC (by unfold op_word; rw [if_pos ha, if_pos (by omega), al_at h9 h10.1 (by omega)])
  · exact pc_s hC (by unfold op_word; rw [if_neg ((pcO_ne hC).mp (Decidable.not_not.mp h))])
theorem cc_countPieces {G : GP} {l : Launch} {w : NS} {S M : MM} {a : Int} (hI : SInv S) (hC : CInv S w M) (ha : isPg S a) : CT_X9_countPieces G l [(2, 1), (2, M 3 a)] w M (PE (pcsOf S a) w M) := by
  refine E_X9_countPieces (fun X hX C => ?_)
  have hpc := hI.pc
  have L := up_ind (P := fun i => ∀ z, 0 ≤ i → z = cnN (fun k => decide (S 46 k = a)) i.toNat → A_X9_countPieces_4 G X (PE (pcsOf S a) w M) (M 3 a) z i w M) (S 41 12) (fun i hi ih z h0 hz => by
    refine B_X9_countPieces_4 C ?_
    rw [hC.top.2.1]
    have hrg := cnN_rng (fun k => decide (S 46 k = a)) i.toNat
    refine ⟨fun h => ⟨?_, rfl, rfl⟩, fun h => ?_⟩
    · rw [hz, show i = S 41 12 by omega]; rfl
    · have hk : isPc S i := ⟨h0, by omega⟩
      obtain ⟨h1, h2, h3, h4, h5, h6⟩ := hC.pc i hk
      have hg := hI.po i hk
      have ih2 := fun z hz => ih (i + 1) (by omega) (by omega) z (by omega) hz
      rw [cnN_s h0] at ih2
      rw [h5]
      have e := pg_inj hC hg ha
      have p1 := (hC.pg _ hg).1
      have p2 := (hC.pg a ha).1
      refine ⟨by omega, by omega, h2, by omega, by omega, fun h7 => ⟨by omega, ih2 z ?_⟩, fun h7 => ⟨by omega, by omega, ih2 (z + 1) ?_⟩⟩
      · rw [hz, if_neg (by simp; exact fun q => h7 (e.mpr q))]; omega
      · rw [hz, if_pos (by simp; exact e.mp (Decidable.not_not.mp h7))])
  exact B_X9_countPieces_0 C (L 0 (by omega) 0 (by omega) rfl)
theorem cc_ofPage {G : GP} {l : Launch} {w : NS} {S M : MM} {a b : Int} (hI : SInv S) (hC : CInv S w M) : CT_X9_ofPage G l [(2, 1), (0, a), (0, b)] w M (PC M (op_ofPage S a b)) := by
  refine E_X9_ofPage (fun _ _ X hX C => ?_)
  refine B_X9_ofPage_0 C ?_
  have hpg := hI.pg
  rw [hC.top.1]
  refine ⟨by omega, by omega, fun h => ?_, fun h => ?_⟩
  · have ha : isPg S a := Decidable.not_not.mp (fun q => h ((pgO_ne hC).mpr q))
    obtain ⟨h1, h2, h3, h4, h5, h6, h7, h8⟩ := hC.pg a ha
    rw [pgO_in hC ha, h5, h6, h7]
    refine ⟨fun h9 => ⟨fun h10 => ?_, fun h10 => ⟨h2, ?_⟩, fun h10 => ⟨h2, ?_⟩, fun h10 => ⟨h2, fun h11 => ?_, fun h11 => ?_⟩, fun h10 => ⟨_, cc_countPieces hI hC ha, fun z w' M' hq => ?_⟩⟩, fun h9 => ⟨h2, by omega, by omega, by omega, ?_⟩⟩
    · exact pc_s hC (by unfold op_ofPage; rw [if_pos ha, if_neg h9]; grind)
    · exact pc_s hC (by unfold op_ofPage; rw [if_pos ha, if_neg h9, if_pos h10])
    · exact pc_s hC (by unfold op_ofPage; rw [if_pos ha, if_neg h9, if_neg (by omega), if_pos h10])
    · have hs : ¬ S 45 a < 0 := fun q => h11 (by rw [if_pos q])
      have hb : isPg S (S 45 a) := by rcases hI.sd a ha with q | q; omega; exact q.1
      rw [if_neg hs]
      refine ⟨(hC.pg _ hb).2.1, ?_⟩
      rw [(hC.pg _ hb).2.2.2.1]
      exact pc_s hC (by unfold op_ofPage; rw [if_pos ha, if_neg h9, if_neg (by omega), if_neg (by omega), if_pos h10])
    · have hs : S 45 a = -6 := by
        rcases hI.sd a ha with q | q
        · exact q
        · exfalso; apply h11; rw [if_neg (by have := q.1.1; omega)]; have := (hC.pg _ q.1).1; omega
      exact pc_s hC (by unfold op_ofPage; rw [if_pos ha, if_neg h9, if_neg (by omega), if_neg (by omega), if_pos h10, hs])
    · obtain ⟨rfl, rfl, rfl⟩ := hq
      exact pc_s hC (by unfold op_ofPage; rw [if_pos ha, if_neg h9, if_neg (by omega), if_neg (by omega), if_neg (by omega), if_pos h10])
    · rw [h8 _ (by omega) (by omega)]
      exact pc_s hC (by unfold op_ofPage; rw [if_pos ha, if_pos h9, show 60 * a + (b - 100) = 60 * a + b - 100 by omega])
  · exact pc_s hC (by unfold op_ofPage; rw [if_neg ((pgO_ne hC).mp (Decidable.not_not.mp h))])
theorem cc_clashesWith {G : GP} {l : Launch} {w : NS} {S M : MM} {a b : Int} (hI : SInv S) (hC : CInv S w M) (ha : isPc S a) (hb : isPc S b) : CT_X6_clashesWith G l [(2, M 4 a), (2, M 4 b)] w M (PE (bi (clashS S a b)) w M) := by
  refine E_X6_clashesWith (fun X hX C => ?_)
  refine B_X6_clashesWith_0 C ?_
  obtain ⟨a1, a2, a3, a4, a5, ⟨a6, a7, a8, a9⟩, -⟩ := hC.pc a ha
  obtain ⟨b1, b2, b3, b4, b5, ⟨b6, b7, b8, b9⟩, -⟩ := hC.pc b hb
  have ga := hI.po a ha
  have gb := hI.po b hb
  obtain ⟨p1, p2, p3, p4, p5, p6, p7, -⟩ := hC.pg _ ga
  have q1 := (hC.pg _ gb).1
  have e := pg_inj hC ga gb
  have ea := hI.ed a
  have eb := hI.ed b
  have es : (if S 45 (S 46 a) < 0 then 0 else M 3 (S 45 (S 46 a))) = M 3 (S 46 b) ↔ S 45 (S 46 a) = S 46 b := by
    by_cases hs : S 45 (S 46 a) < 0
    · rw [if_pos hs]; constructor
      · intro q; omega
      · intro q; have := gb.1; omega
    · rw [if_neg hs]
      have hg : isPg S (S 45 (S 46 a)) := by rcases hI.sd _ ga with q | q; omega; exact q.1
      exact pg_inj hC hg gb
  have e0 : 0 ≤ (if S 45 (S 46 a) < 0 then 0 else M 3 (S 45 (S 46 a))) := by
    by_cases hs : S 45 (S 46 a) < 0
    · rw [if_pos hs]; omega
    · rw [if_neg hs]
      have hg : isPg S (S 45 (S 46 a)) := by rcases hI.sd _ ga with q | q; omega; exact q.1
      have := (hC.pg _ hg).1; omega
  rw [a5, a6, a7, a8, a9, b5, b6, b7, b8, b9, p7, ne_eq, ne_eq, e, es]
  repeat' (first | with_reducible refine And.intro ?_ ?_ | with_reducible intro _)
  all_goals (first | assumption | omega | (refine ⟨?_, rfl, rfl⟩; unfold clashS; grind [bi]))
theorem cc_clash {G : GP} {l : Launch} {w : NS} {S M : MM} {a b : Int} (hI : SInv S) (hC : CInv S w M) : CT_X9_clash G l [(2, 1), (0, a), (0, b)] w M (PC M (op_clash S a b)) := by
  refine E_X9_clash (fun _ _ X hX C => ?_)
  refine B_X9_clash_0 C ?_
  have hpc := hI.pc
  rw [hC.top.2.1]
  refine ⟨by omega, by omega, fun h => ?_, fun h => ⟨fun h2 => ?_, fun h2 => ?_⟩⟩
  · exact pc_s hC (by unfold op_clash; rw [if_neg (fun q => (pcO_ne hC).mp h q.1)])
  · have ha : isPc S a := Decidable.not_not.mp (fun q => h ((pcO_ne hC).mpr q))
    have hb : isPc S b := Decidable.not_not.mp (fun q => h2 ((pcO_ne hC).mpr q))
    rw [pcO_in hC ha, pcO_in hC hb]
    refine ⟨(hC.pc a ha).2.1, _, cc_clashesWith hI hC ha hb, fun z w' M' hq => ?_⟩
    obtain ⟨rfl, rfl, rfl⟩ := hq
    refine pc_s hC ?_
    unfold op_clash; rw [if_pos ⟨ha, hb⟩]
    cases clashS S a b <;> rfl
  · exact pc_s hC (by unfold op_clash; rw [if_neg (fun q => (pcO_ne hC).mp (Decidable.not_not.mp h2) q.2)])
