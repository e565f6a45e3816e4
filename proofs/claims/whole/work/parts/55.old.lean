/-! OLD: the pieces filed under a name, both sides -/
def oldB (S : MM) (t f u k : Int) : Bool := tb (S 51 k) t && decide (f ≤ S 44 (S 46 k) ∧ S 44 (S 46 k) ≤ u)
def oldN (S : MM) (t f u n : Int) : Int := if n < 0 then -6 else ((((ordL S).filter (oldB S t f u))[n.toNat]?).getD (-6))
def op_old (S : MM) (t f u n : Int) : Int × MM :=
  (if 0 ≤ t ∧ t ≤ 3 then if (0 ≤ f ∧ f ≤ 99) ∧ 0 ≤ u ∧ u ≤ 99 then (if n = -1 then cnN (oldB S t f u) (S 41 12).toNat else oldN S t f u n) else -2 else -1, S)
theorem fl_at {L : List Int} {f : Int → Bool} {i : Nat} (h : i < L.length) : (L.take (i + 1)).filter f = (L.take i).filter f ++ (if f (L[i]'h) then [L[i]'h] else []) := by
  rw [List.take_succ_eq_append_getElem h, List.filter_append]
  congr 1
  by_cases hf : f (L[i]'h) = true <;> simp [hf]
theorem fl_nth {L : List Int} {f : Int → Bool} {i : Nat} (h : i < L.length) (hf : f (L[i]'h) = true) : (L.filter f)[((L.take i).filter f).length]? = some (L[i]'h) := by
  have e : L.filter f = (L.take i).filter f ++ (L[i]'h :: (L.drop (i + 1)).filter f) := by
    conv => lhs; rw [← List.take_append_drop i L]
    rw [List.filter_append, List.drop_eq_getElem_cons h, List.filter_cons_of_pos hf]
  rw [e, List.getElem?_append_right (Nat.le_refl _)]
  simp
theorem oldN_of {S : MM} {t f u n p : Int} (hp : isPc S p) (ho : oldB S t f u p = true) (hr : cnN (fun q => oldB S t f u q && aheadS S q p) (S 41 12).toNat = n) : oldN S t f u n = p := by
  obtain ⟨j, h, e, h2⟩ := rank_lt (oldB S t f u) hp ho
  have : n = j := by rw [← hr]; exact h2
  unfold oldN
  rw [if_neg (by omega), show n.toNat = j by omega, List.getElem?_eq_getElem h, e]; rfl
theorem oldN_no {S : MM} {t f u n : Int} (h : ∀ p, isPc S p → oldB S t f u p = true → cnN (fun q => oldB S t f u q && aheadS S q p) (S 41 12).toNat ≠ n) : oldN S t f u n = -6 := by
  unfold oldN
  by_cases hn : n < 0
  · rw [if_pos hn]
  · rw [if_neg hn]
    by_cases hl : n.toNat < ((ordL S).filter (oldB S t f u)).length
    · have hm := List.mem_filter.mp (List.getElem_mem hl)
      have := filter_rank (oldB S t f u) n.toNat hl
      exact absurd (this.trans (by omega)) (h _ ((ordL_mem _).mp hm.1) hm.2)
    · rw [List.getElem?_eq_none (by omega)]; rfl
theorem cm_isAhead {G : GP} {l : Launch} {w : NS} {S M : MM} {p q : Int} (hI : SInv S) (hA : Ag S M) (hp : isPc S p) (hq : isPc S q) : CT_X10_isAhead G l [(2, 41), (0, p), (0, q)] w M (PE (bi (aheadS S p q)) w M) := by
  refine E_X10_isAhead (fun _ _ X hX C => ?_)
  obtain ⟨kf4, kf12, kf26, ke42, ke43, ke44, ke45, ke46, ke47, ke48, ke49, ke50, ke51, ke52, ke53, ke56, ke57, ke58, ke59, ke60, ke61, ke62, ke63, ke72, ke73, ke77, ke78, ke79, ke83⟩ := hA.all
  refine B_X10_isAhead_0 C ?_
  simp only [kf4, kf12, kf26, ke42, ke43, ke44, ke45, ke46, ke47, ke48, ke49, ke50, ke51, ke52, ke53, ke56, ke57, ke58, ke59, ke60, ke61, ke62, ke63, ke72, ke73, ke77, ke78, ke79, ke83]
  have hpc := hI.pc
  have hpg := hI.pg
  have g1 := hI.po p hp
  have g2 := hI.po q hq
  have pe : ∀ z, bi (aheadS S p q) = z → PE (bi (aheadS S p q)) w M z w M := fun z hz => ⟨hz, rfl, rfl⟩
  unfold isPc at hp hq
  unfold isPg at g1 g2
  refine ⟨by omega, by omega, by omega, by omega, by omega, by omega, by omega, by omega, ?_⟩
  unfold aheadS bi at pe ⊢
  repeat' (first | with_reducible refine And.intro ?_ ?_ | with_reducible intro _)
  all_goals (refine pe _ ?_; grind)
theorem cm_isOld {G : GP} {l : Launch} {w : NS} {S M : MM} {k t f u : Int} (hI : SInv S) (hA : Ag S M) (hk : isPc S k) (ht : 0 ≤ t ∧ t ≤ 3) : CT_X10_isOld G l [(2, 41), (0, k), (0, t), (0, f), (0, u)] w M (PE (bi (oldB S t f u k)) w M) := by
  refine E_X10_isOld (fun _ _ _ _ X hX C => ?_)
  obtain ⟨kf4, kf12, kf26, ke42, ke43, ke44, ke45, ke46, ke47, ke48, ke49, ke50, ke51, ke52, ke53, ke56, ke57, ke58, ke59, ke60, ke61, ke62, ke63, ke72, ke73, ke77, ke78, ke79, ke83⟩ := hA.all
  refine B_X10_isOld_0 C ?_
  simp only [kf4, kf12, kf26, ke42, ke43, ke44, ke45, ke46, ke47, ke48, ke49, ke50, ke51, ke52, ke53, ke56, ke57, ke58, ke59, ke60, ke61, ke62, ke63, ke72, ke73, ke77, ke78, ke79, ke83]
  have hpc := hI.pc
  have hpg := hI.pg
  have g1 := hI.po k hk
  have hf := hI.fl k
  have hb := z_hb (x := S 51 k) (i := t) hf.1 (by omega) ht.1 (by omega)
  have pe : ∀ z, bi (oldB S t f u k) = z → PE (bi (oldB S t f u k)) w M z w M := fun z hz => ⟨hz, rfl, rfl⟩
  unfold isPc at hk
  unfold isPg at g1
  simp only [ne_eq, hb]
  unfold oldB bi at pe ⊢
  refine ⟨by omega, by omega, fun h1 => pe _ ?_, fun h1 => ⟨by omega, by omega, fun h2 => pe _ ?_, fun h2 => pe _ ?_⟩⟩
  · simp [h1]
  · simp [h2]
  · simp [Decidable.not_not.mp h1, h2]
theorem cm_oldOf {G : GP} {l : Launch} {w : NS} {S M : MM} {t f u n : Int} (hI : SInv S) (hA : Ag S M) : CT_X10_old G l [(2, 41), (0, t), (0, f), (0, u), (0, n)] w M (PM w M (op_old S t f u n)) := by
  refine E_X10_old (fun _ _ _ _ X hX C => ?_)
  obtain ⟨kf4, kf12, kf26, ke42, ke43, ke44, ke45, ke46, ke47, ke48, ke49, ke50, ke51, ke52, ke53, ke56, ke57, ke58, ke59, ke60, ke61, ke62, ke63, ke72, ke73, ke77, ke78, ke79, ke83⟩ := hA.all
  have hpc := hI.pc
  refine B_X10_old_0 C ?_
  refine ⟨fun h1 => ⟨fun h2 => pm_s hA (by unfold op_old; grind), fun h2 => ⟨fun h3 => ?_, fun h3 => pm_s hA (by unfold op_old; grind)⟩⟩, fun h1 => pm_s hA (by unfold op_old; grind)⟩
  have e1 : n = -1 → op_old S t f u n = (cnN (oldB S t f u) (S 41 12).toNat, S) := fun h => by unfold op_old; rw [if_pos h1, if_pos ⟨h2, h3⟩, if_pos h]
  have e2 : n ≠ -1 → op_old S t f u n = (oldN S t f u n, S) := fun h => by unfold op_old; rw [if_pos h1, if_pos ⟨h2, h3⟩, if_neg h]
  have K3 : n ≠ -1 → ∀ p, isPc S p → (oldB S t f u p = true → cnN (fun q => oldB S t f u q && aheadS S q p) (S 41 12).toNat ≠ n) ∨ True → ((oldB S t f u p = true → cnN (fun q => oldB S t f u q && aheadS S q p) (S 41 12).toNat ≠ n) → A_X10_old_81 G X (PM w M (op_old S t f u n)) t f u n (p + 1) w M) → ∀ i, i ≤ S 41 12 → ∀ z, 0 ≤ i → z = cnN (fun q => oldB S t f u q && aheadS S q p) i.toNat → A_X10_old_96 G X (PM w M (op_old S t f u n)) t f u n p z i w M := fun hn p hp _ nx => up_ind (S 41 12) (fun i hi ih z h0 hz => by
    have hp2 := hp
    unfold isPc at hp2
    refine B_X10_old_96 C ?_
    simp only [kf4, kf12, kf26, ke42, ke43, ke44, ke45, ke46, ke47, ke48, ke49, ke50, ke51, ke52, ke53, ke56, ke57, ke58, ke59, ke60, ke61, ke62, ke63, ke72, ke73, ke77, ke78, ke79, ke83]
    have hr := cnN_rng (fun q => oldB S t f u q && aheadS S q p) i.toNat
    refine ⟨fun h => ?_, fun h => ?_⟩
    · have hz2 : z = cnN (fun q => oldB S t f u q && aheadS S q p) (S 41 12).toNat := by rw [hz, show i = S 41 12 by omega]
      refine ⟨_, cm_isOld hI hA hp h1, ?_⟩
      rintro _ _ _ ⟨rfl, rfl, rfl⟩
      refine ⟨fun h4 => ⟨by omega, nx (fun h5 => ?_)⟩, fun h4 => ⟨fun h5 => ⟨by omega, nx (fun h6 => by rw [← hz2]; exact h5)⟩, fun h5 => ?_⟩⟩
      · rw [h5] at h4; exact absurd h4 (by decide)
      · have h6 : oldB S t f u p = true := by
          cases e : oldB S t f u p
          · rw [e] at h4; exact absurd rfl h4
          · rfl
        exact pm_s hA (by rw [e2 hn, oldN_of hp h6 (by rw [← hz2]; exact Decidable.not_not.mp h5)])
    · have hi2 : isPc S i := ⟨h0, by omega⟩
      have ih2 := fun z hz => ih (i + 1) (by omega) (by omega) z (by omega) hz
      rw [cnN_s h0] at ih2
      refine ⟨fun h4 => ⟨by omega, by omega, ih2 _ ?_⟩, fun h4 => ⟨_, cm_isOld hI hA hi2 h1, ?_⟩⟩
      · rw [h4, ah_irr, hz, h4]; simp
      · rintro _ _ _ ⟨rfl, rfl, rfl⟩
        refine ⟨fun h5 => ⟨by omega, by omega, ih2 _ ?_⟩, fun h5 => ⟨_, cm_isAhead hI hA hi2 hp, ?_⟩⟩
        · have : oldB S t f u i = false := by
            cases e : oldB S t f u i
            · rfl
            · rw [e] at h5; exact absurd h5 (by decide)
          rw [this, hz]; simp
        · rintro _ _ _ ⟨rfl, rfl, rfl⟩
          have h6 : oldB S t f u i = true := by
            cases e : oldB S t f u i
            · rw [e] at h5; exact absurd rfl h5
            · rfl
          refine ⟨fun h7 => ⟨by omega, by omega, ih2 _ ?_⟩, fun h7 => ⟨by omega, by omega, ih2 _ ?_⟩⟩
          · have : aheadS S i p = false := by
              cases e : aheadS S i p
              · rfl
              · rw [e] at h7; exact absurd h7 (by decide)
            rw [this, hz]; simp
          · have : aheadS S i p = true := by
              cases e : aheadS S i p
              · rw [e] at h7; exact absurd rfl h7
              · rfl
            rw [this, h6, hz]; simp)
  have K2 : n ≠ -1 → ∀ p, p ≤ S 41 12 → 0 ≤ p → (∀ k, 0 ≤ k → k < p → oldB S t f u k = true → cnN (fun q => oldB S t f u q && aheadS S q k) (S 41 12).toNat ≠ n) → A_X10_old_81 G X (PM w M (op_old S t f u n)) t f u n p w M := fun hn => up_ind (S 41 12) (fun p hp ih h0 hno => by
    refine B_X10_old_81 C ?_
    simp only [kf4, kf12, kf26, ke42, ke43, ke44, ke45, ke46, ke47, ke48, ke49, ke50, ke51, ke52, ke53, ke56, ke57, ke58, ke59, ke60, ke61, ke62, ke63, ke72, ke73, ke77, ke78, ke79, ke83]
    refine ⟨fun h => pm_s hA ?_, fun h => K3 hn p ⟨h0, by omega⟩ (Or.inr trivial) (fun h4 => ih (p + 1) (by omega) (by omega) (by omega) (fun k k0 k1 => ?_)) 0 (by omega) 0 (by omega) rfl⟩
    · rw [e2 hn, oldN_no (fun k hk => hno k hk.1 (by have := hk.2; omega))]
    · by_cases e : k = p
      · rw [e]; exact h4
      · exact hno k k0 (by omega))
  have K1 := up_ind (P := fun i => ∀ z, 0 ≤ i → z = cnN (oldB S t f u) i.toNat → A_X10_old_32 G X (PM w M (op_old S t f u n)) t f u n z i w M) (S 41 12) (fun i hi ih z h0 hz => by
    refine B_X10_old_32 C ?_
    simp only [kf4, kf12, kf26, ke42, ke43, ke44, ke45, ke46, ke47, ke48, ke49, ke50, ke51, ke52, ke53, ke56, ke57, ke58, ke59, ke60, ke61, ke62, ke63, ke72, ke73, ke77, ke78, ke79, ke83]
    have hr := cnN_rng (oldB S t f u) i.toNat
    refine ⟨fun h => ⟨fun h4 => K2 h4 0 (by omega) (by omega) (fun k k0 k1 => by omega), fun h4 => pm_s hA ?_⟩, fun h => ⟨_, cm_isOld hI hA ⟨h0, by omega⟩ h1, ?_⟩⟩
    · rw [e1 (Decidable.not_not.mp h4), hz, show i = S 41 12 by omega]
    · rintro _ _ _ ⟨rfl, rfl, rfl⟩
      have ih2 := fun z hz => ih (i + 1) (by omega) (by omega) z (by omega) hz
      rw [cnN_s h0] at ih2
      refine ⟨fun h5 => ⟨by omega, by omega, ih2 _ ?_⟩, fun h5 => ⟨by omega, by omega, ih2 _ ?_⟩⟩
      · have : oldB S t f u i = false := by
          cases e : oldB S t f u i
          · rfl
          · rw [e] at h5; exact absurd h5 (by decide)
        rw [this, hz]; simp
      · have : oldB S t f u i = true := by
          cases e : oldB S t f u i
          · rw [e] at h5; exact absurd rfl h5
          · rfl
        rw [this, hz]; simp)
  exact K1 0 (by omega) 0 (by omega) rfl
theorem cc_old {G : GP} {l : Launch} {w : NS} {S M : MM} {t f u n : Int} (hI : SInv S) (hC : CInv S w M) : CT_X9_old G l [(2, 1), (0, t), (0, f), (0, u), (0, n)] w M (PC M (op_old S t f u n)) := by
  refine E_X9_old (fun _ _ _ _ X hX C => ?_)
  have hpc := hI.pc
  refine B_X9_old_0 C ?_
  refine ⟨fun h1 => ⟨fun h2 => pc_s hC (by unfold op_old; grind), fun h2 => ⟨fun h3 => ?_, fun h3 => pc_s hC (by unfold op_old; grind)⟩⟩, fun h1 => pc_s hC (by unfold op_old; grind)⟩
  have e1 : n = -1 → op_old S t f u n = (cnN (oldB S t f u) (S 41 12).toNat, S) := fun h => by unfold op_old; rw [if_pos h1, if_pos ⟨h2, h3⟩, if_pos h]
  have e2 : n ≠ -1 → op_old S t f u n = (oldN S t f u n, S) := fun h => by unfold op_old; rw [if_pos h1, if_pos ⟨h2, h3⟩, if_neg h]
  have hlen := ordL_len S
  have K := up_ind (P := fun i => ∀ z, 0 ≤ i → z = (((ordL S).take i.toNat).filter (oldB S t f u)).length → (n < 0 ∨ z ≤ n) → A_X9_old_32 G X (PC M (op_old S t f u n)) t f u n z i w M) (S 41 12) (fun i hi ih z h0 hz hzn => by
    refine B_X9_old_32 C ?_
    rw [hC.top.2.1]
    refine ⟨fun h => ?_, fun h => ?_⟩
    · rw [List.take_of_length_le (by omega)] at hz
      refine ⟨fun h4 => pc_s hC ?_, fun h4 => pc_s hC ?_⟩
      · rw [e2 h4]; unfold oldN
        by_cases hn : n < 0
        · rw [if_pos hn]
        · rw [if_neg hn, List.getElem?_eq_none (by omega)]; rfl
      · rw [e1 (Decidable.not_not.mp h4), hz, ordL_fl]
    · have hj : i.toNat < (ordL S).length := by omega
      have hl := hC.ln i.toNat hj
      have hie : ((i.toNat : Nat) : Int) = i := by omega
      rw [hie, List.getD_eq_getElem?_getD, List.getElem?_eq_getElem hj, Option.getD_some] at hl
      have hm := (ordL_mem _).mp (List.getElem_mem hj)
      have hat := fl_at (f := oldB S t f u) hj
      have hnth := fl_nth (f := oldB S t f u) hj
      generalize hke : (ordL S)[i.toNat]'hj = k at *
      have hP := hC.pc k hm
      have hg := hI.po k hm
      have hG := hC.pg _ hg
      have hf := hI.fl k
      have hb := z_hb (x := S 51 k) (i := t) hf.1 (by omega) h1.1 (by omega)
      have ih2 := fun z hz hn => ih (i + 1) (by omega) (by omega) z (by omega) hz hn
      rw [show (i + 1).toNat = i.toNat + 1 by omega, hat] at ih2
      rw [hl, hP.2.2.2.2.2.2.1.1, hP.2.2.2.2.1, hG.2.2.2.2.2.1, hP.2.2.2.1, hb]
      have hlz : (((ordL S).take i.toNat).filter (oldB S t f u)).length ≤ (ordL S).length := Nat.le_trans (List.length_filter_le _ _) (by rw [List.length_take]; omega)
      refine ⟨h0, by omega, hP.2.1, fun h4 => ⟨by omega, ih2 _ ?_ hzn⟩, fun h4 => ⟨hG.2.1, fun h5 => ⟨by omega, ih2 _ ?_ hzn⟩, fun h5 => ⟨fun h6 => ⟨by omega, by omega, ih2 _ ?_ ?_⟩, fun h6 => pc_s hC ?_⟩⟩⟩
      · have : oldB S t f u k = false := by unfold oldB; simp [h4]
        rw [this, hz]; simp
      · have : oldB S t f u k = false := by unfold oldB; simp [h5]
        rw [this, hz]; simp
      · have : oldB S t f u k = true := by unfold oldB; simp [h4, h5]
        rw [this, hz]; simp
      · show n < 0 ∨ z + 1 ≤ n
        omega
      · have ho : oldB S t f u k = true := by unfold oldB; simp [h4, h5]
        have hzn2 : z = n := Decidable.not_not.mp h6
        rw [e2 (by omega)]
        unfold oldN
        rw [if_neg (by omega), show n.toNat = (((ordL S).take i.toNat).filter (oldB S t f u)).length by omega, hnth ho]; rfl)
  exact K 0 (by omega) 0 (by omega) (by simp) (by omega)
