/-! THE RULE'S FAULT: an automaton of nine states, the class's numbers -/
def stI (c d : Int) : Int := if c = 38 ∨ c = 124 then 0 else if c = 41 ∧ 0 < d then 8 else -1
def stW (c d : Int) : Int := if c = 126 then 3 else if c = 62 then 7 else stI c d
def stp (s c d : Int) : Int :=
  if s = 0 then (if c = 33 ∨ (c = 40 ∧ d < 8) then 0 else if 48 ≤ c ∧ c ≤ 57 then 1 else -1)
  else if s = 1 then (if 48 ≤ c ∧ c ≤ 57 then 2 else stW c d)
  else if s = 2 then stW c d
  else if s = 3 then (if 48 ≤ c ∧ c ≤ 57 then 4 else -1)
  else if s = 4 then (if c = 58 then 5 else -1)
  else if s = 5 then (if 48 ≤ c ∧ c ≤ 57 then 6 else -1)
  else if s = 6 then (if 48 ≤ c ∧ c ≤ 57 then 8 else stI c d)
  else if s = 7 then (if 48 ≤ c ∧ c ≤ 57 then 8 else -1)
  else stI c d
/-- the model's number of a state -/
def muS (s : Int) : Int := if s = 7 then 5 else if s = 5 then 6 else if s = 6 then 7 else s
def dpt (c d : Int) : Int := d + (if c = 40 then 1 else if c = 41 then -1 else 0)
def fltF (sg : Int → Int) (n : Int) : Nat → Int → Int → Int → Int
  | 0, s, d, _ => if (s = 1 ∨ s = 2 ∨ s = 6 ∨ s = 8) ∧ d = 0 then -6 else n
  | k + 1, s, d, i => if stp s (sg i) d = -1 then i else fltF sg n k (stp s (sg i) d) (dpt (sg i) d) (i + 1)
def fltS (S : MM) (o : Int) : Int := fltF (fun i => S 56 (40 * o + i)) (S 57 o) (S 57 o).toNat 0 0 0
def op_fault (S : MM) : Int × MM := (fltS S 10, S)
theorem stI_rng (c d : Int) : stI c d = -1 ∨ stI c d = 0 ∨ stI c d = 8 := by unfold stI; grind
theorem stW_rng (c d : Int) : -1 ≤ stW c d ∧ stW c d ≤ 8 := by
  have := stI_rng c d
  unfold stW; grind
theorem stp_rng (s c d : Int) : -1 ≤ stp s c d ∧ stp s c d ≤ 8 := by
  have h1 := stI_rng c d
  have h2 := stW_rng c d
  unfold stp
  repeat' split
  all_goals omega
theorem muS_inj {s t : Int} (h1 : -1 ≤ s ∧ s ≤ 8) (h2 : -1 ≤ t ∧ t ≤ 8) (h : muS s = muS t) : s = t := by unfold muS at h; grind
theorem cm_stepOf {G : GP} {l : Launch} {w : NS} {M : MM} {s c d : Int} (hs : 0 ≤ s ∧ s ≤ 8) : CT_X10_stepOf G l [(0, muS s), (0, c), (0, d)] w M (PE (muS (stp s c d)) w M) := by
  refine E_X10_stepOf (fun _ _ _ X hX C => ?_)
  refine B_X10_stepOf_0 C ?_
  have pe : ∀ z, muS (stp s c d) = z → PE (muS (stp s c d)) w M z w M := fun z hz => ⟨hz, rfl, rfl⟩
  have h9 : s = 0 ∨ s = 1 ∨ s = 2 ∨ s = 3 ∨ s = 4 ∨ s = 5 ∨ s = 6 ∨ s = 7 ∨ s = 8 := by omega
  rcases h9 with rfl | rfl | rfl | rfl | rfl | rfl | rfl | rfl | rfl <;> (
    simp only [stp, muS, stW, stI] at pe ⊢
    repeat' (first | with_reducible refine And.intro ?_ ?_ | with_reducible intro _)
    all_goals (first | omega | (refine pe _ ?_; grind)))
theorem cm_fault {G : GP} {l : Launch} {w : NS} {S M : MM} (hI : SInv S) (hA : Ag S M) : CT_X10_fault G l [(2, 41)] w M (PM w M (op_fault S)) := by
  refine E_X10_fault (fun X hX C => ?_)
  obtain ⟨kf4, kf12, kf26, ke42, ke43, ke44, ke45, ke46, ke47, ke48, ke49, ke50, ke51, ke52, ke53, ke56, ke57, ke58, ke59, ke60, ke61, ke62, ke63, ke72, ke73, ke77, ke78, ke79, ke83⟩ := hA.all
  have hm := hI.sm 10
  have L := up_ind (P := fun i => ∀ s d, 0 ≤ i → (0 ≤ s ∧ s ≤ 8) → (-i ≤ d ∧ d ≤ i) → fltS S 10 = fltF (fun i => S 56 (40 * 10 + i)) (S 57 10) (S 57 10 - i).toNat s d i → A_X10_fault_6 G X (PM w M (op_fault S)) (muS s) d i w M) (S 57 10) (fun i hi ih s d h0 hs hd hz => by
    refine B_X10_fault_6 C ?_
    simp only [kf4, kf12, kf26, ke42, ke43, ke44, ke45, ke46, ke47, ke48, ke49, ke50, ke51, ke52, ke53, ke56, ke57, ke58, ke59, ke60, ke61, ke62, ke63, ke72, ke73, ke77, ke78, ke79, ke83]
    refine ⟨fun h => ?_, fun h => ⟨by omega, by omega, by omega, ?_⟩⟩
    · rw [show (S 57 10 - i).toNat = 0 by omega] at hz
      have hz2 : fltS S 10 = if (s = 1 ∨ s = 2 ∨ s = 6 ∨ s = 8) ∧ d = 0 then -6 else S 57 10 := hz
      have fin : ∀ z, fltS S 10 = z → PM w M (op_fault S) z w M := fun z hz => pm_s hA (by unfold op_fault; rw [hz])
      have hmu : (muS s = 1 ↔ s = 1) ∧ (muS s = 2 ↔ s = 2) ∧ (muS s = 7 ↔ s = 6) ∧ (muS s = 8 ↔ s = 8) := by unfold muS; grind
      obtain ⟨m1, m2, m3, m4⟩ := hmu
      simp only [ne_eq, m1, m2, m3, m4]
      repeat' (first | with_reducible refine And.intro ?_ ?_ | with_reducible intro _)
      all_goals (refine fin _ ?_; rw [hz2]; grind)
    · rw [show (S 57 10 - i).toNat = (S 57 10 - (i + 1)).toNat + 1 by omega] at hz
      have hz2 : fltS S 10 = if stp s (S 56 (40 * 10 + i)) d = -1 then i else fltF (fun i => S 56 (40 * 10 + i)) (S 57 10) (S 57 10 - (i + 1)).toNat (stp s (S 56 (40 * 10 + i)) d) (dpt (S 56 (40 * 10 + i)) d) (i + 1) := hz
      have e400 : (40 * 10 + i : Int) = 400 + i := by omega
      rw [e400] at hz2
      refine ⟨_, cm_stepOf hs, ?_⟩
      rintro _ _ _ ⟨rfl, rfl, rfl⟩
      have hr := stp_rng s (S 56 (400 + i)) d
      have hneg : 0 ≤ muS (stp s (S 56 (400 + i)) d) ↔ stp s (S 56 (400 + i)) d ≠ -1 := by unfold muS; grind
      rw [hneg]
      refine ⟨fun hn => ?_, fun hn => pm_s hA (by unfold op_fault; rw [hz2, if_pos (Decidable.not_not.mp hn)])⟩
      rw [if_neg hn] at hz2
      have ih2 := fun d2 (h1 : -(i + 1) ≤ d2 ∧ d2 ≤ i + 1) (h2 : d2 = dpt (S 56 (400 + i)) d) => ih (i + 1) (by omega) (by omega) (stp s (S 56 (400 + i)) d) d2 (by omega) (by omega) h1 (by rw [h2]; exact hz2)
      unfold dpt at ih2
      refine ⟨fun h1 => ⟨fun h2 => ⟨by omega, by omega, ih2 _ (by omega) (by grind)⟩, fun h2 => ⟨by omega, by omega, ih2 _ (by omega) (by grind)⟩⟩, fun h1 => ⟨by omega, by omega, ih2 _ (by omega) (by grind)⟩⟩)
  exact B_X10_fault_0 C (L 0 (by omega) 0 0 (by omega) (by omega) (by omega) (by rw [show S 57 10 - 0 = S 57 10 by omega]; rfl))
theorem cc_stateAfterItem {G : GP} {l : Launch} {w : NS} {M : MM} {c d : Int} : CT_X8_stateAfterItem G l [(0, c), (0, d)] w M (PE (stI c d) w M) := by
  refine E_X8_stateAfterItem (fun _ _ X hX C => ?_)
  refine B_X8_stateAfterItem_0 C ?_
  have pe : ∀ z, stI c d = z → PE (stI c d) w M z w M := fun z hz => ⟨hz, rfl, rfl⟩
  unfold stI at pe ⊢
  repeat' (first | with_reducible refine And.intro ?_ ?_ | with_reducible intro _)
  all_goals (refine pe _ ?_; grind)
theorem cc_stateAfterWord {G : GP} {l : Launch} {w : NS} {M : MM} {c d : Int} : CT_X8_stateAfterWord G l [(0, c), (0, d)] w M (PE (stW c d) w M) := by
  refine E_X8_stateAfterWord (fun _ _ X hX C => ?_)
  refine B_X8_stateAfterWord_0 C ?_
  have pe : ∀ z, stW c d = z → PE (stW c d) w M z w M := fun z hz => ⟨hz, rfl, rfl⟩
  refine ⟨fun h1 => ⟨fun h2 => ⟨_, cc_stateAfterItem, ?_⟩, fun h2 => pe _ ?_⟩, fun h1 => pe _ ?_⟩
  · rintro _ _ _ ⟨rfl, rfl, rfl⟩
    refine pe _ ?_
    unfold stW; rw [if_neg h1, if_neg h2]
  · unfold stW; grind
  · unfold stW; grind
theorem cc_stateAfter {G : GP} {l : Launch} {w : NS} {M : MM} {s c d : Int} (hs : 0 ≤ s ∧ s ≤ 8) : CT_X8_stateAfter G l [(0, s), (0, c), (0, d)] w M (PE (stp s c d) w M) := by
  refine E_X8_stateAfter (fun _ _ _ X hX C => ?_)
  refine B_X8_stateAfter_0 C ?_
  have pe : ∀ z, stp s c d = z → PE (stp s c d) w M z w M := fun z hz => ⟨hz, rfl, rfl⟩
  have pi : stp s c d = stI c d → ∃ Q : Int → NS → MM → Prop, CT_X8_stateAfterItem G X.2.1 [(0, c), (0, d)] w M Q ∧ ∀ z w1 M1, Q z w1 M1 → PE (stp s c d) w M z w1 M1 := fun h => ⟨_, cc_stateAfterItem, by rintro _ _ _ ⟨rfl, rfl, rfl⟩; exact pe _ h⟩
  have pw : stp s c d = stW c d → ∃ Q : Int → NS → MM → Prop, CT_X8_stateAfterWord G X.2.1 [(0, c), (0, d)] w M Q ∧ ∀ z w1 M1, Q z w1 M1 → PE (stp s c d) w M z w1 M1 := fun h => ⟨_, cc_stateAfterWord, by rintro _ _ _ ⟨rfl, rfl, rfl⟩; exact pe _ h⟩
  have h9 : s = 0 ∨ s = 1 ∨ s = 2 ∨ s = 3 ∨ s = 4 ∨ s = 5 ∨ s = 6 ∨ s = 7 ∨ s = 8 := by omega
  rcases h9 with rfl | rfl | rfl | rfl | rfl | rfl | rfl | rfl | rfl <;> (
    simp only [stp] at pe pi pw ⊢
    repeat' (first | with_reducible refine And.intro ?_ ?_ | with_reducible intro _)
    all_goals (first | omega | (refine pe _ ?_; grind) | (refine pi ?_; grind) | (refine pw ?_; grind)))
theorem cc_faultPlace {G : GP} {l : Launch} {w : NS} {S M : MM} {r o : Int} (hI : SInv S) (hC : CRule S w M r o) : CT_X8_faultPlace G l [(2, r)] w M (PE (fltS S o) w M) := by
  refine E_X8_faultPlace (fun X hX C => ?_)
  obtain ⟨r1, r2, r3, r4, r5⟩ := hC
  have hm := hI.sm o
  have L := up_ind (P := fun i => ∀ s d, 0 ≤ i → (0 ≤ s ∧ s ≤ 8) → (-i ≤ d ∧ d ≤ i) → fltS S o = fltF (fun i => S 56 (40 * o + i)) (S 57 o) (S 57 o - i).toNat s d i → A_X8_faultPlace_6 G X (PE (fltS S o) w M) r s d i w M) (S 57 o) (fun i hi ih s d h0 hs hd hz => by
    refine B_X8_faultPlace_6 C ?_
    rw [r4]
    refine ⟨r2, fun h => ?_, fun h => ⟨by omega, by omega, ?_⟩⟩
    · rw [show (S 57 o - i).toNat = 0 by omega] at hz
      have hz2 : fltS S o = if (s = 1 ∨ s = 2 ∨ s = 6 ∨ s = 8) ∧ d = 0 then -6 else S 57 o := hz
      have fin : ∀ z, fltS S o = z → PE (fltS S o) w M z w M := fun z hz => ⟨hz, rfl, rfl⟩
      simp only [ne_eq]
      repeat' (first | with_reducible refine And.intro ?_ ?_ | with_reducible intro _)
      all_goals (refine fin _ ?_; rw [hz2]; grind)
    · rw [show (S 57 o - i).toNat = (S 57 o - (i + 1)).toNat + 1 by omega] at hz
      have hz2 : fltS S o = if stp s (S 56 (40 * o + i)) d = -1 then i else fltF (fun i => S 56 (40 * o + i)) (S 57 o) (S 57 o - (i + 1)).toNat (stp s (S 56 (40 * o + i)) d) (dpt (S 56 (40 * o + i)) d) (i + 1) := hz
      rw [r5 i (by omega) (by omega)]
      refine ⟨_, cc_stateAfter hs, ?_⟩
      rintro _ _ _ ⟨rfl, rfl, rfl⟩
      have hr := stp_rng s (S 56 (40 * o + i)) d
      refine ⟨fun hn => ⟨r2, ?_⟩, fun hn => ⟨by rw [hz2, if_pos (Decidable.not_not.mp hn)], rfl, rfl⟩⟩
      rw [if_neg hn] at hz2
      rw [r5 i (by omega) (by omega)]
      have ih2 := fun d2 (h1 : -(i + 1) ≤ d2 ∧ d2 ≤ i + 1) (h2 : d2 = dpt (S 56 (40 * o + i)) d) => ih (i + 1) (by omega) (by omega) (stp s (S 56 (40 * o + i)) d) d2 (by omega) (by omega) h1 (by rw [h2]; exact hz2)
      unfold dpt at ih2
      refine ⟨fun h1 => ⟨fun h2 => ⟨by omega, ih2 _ (by omega) (by grind)⟩, fun h2 => ⟨by omega, by omega, ih2 _ (by omega) (by grind)⟩⟩, fun h1 => ⟨by omega, by omega, ih2 _ (by omega) (by grind)⟩⟩)
  exact B_X8_faultPlace_0 C (L 0 (by omega) 0 0 (by omega) (by omega) (by omega) (by rw [show S 57 o - 0 = S 57 o by omega]; rfl))
theorem cc_fault {G : GP} {l : Launch} {w : NS} {S M : MM} (hI : SInv S) (hC : CInv S w M) : CT_X9_fault G l [(2, 1)] w M (PC M (op_fault S)) := by
  refine E_X9_fault (fun X hX C => ?_)
  refine B_X9_fault_0 C ⟨hC.sp.2.1, _, cc_faultPlace hI hC.sp, ?_⟩
  rintro _ _ _ ⟨rfl, rfl, rfl⟩
  exact pc_s hC rfl
