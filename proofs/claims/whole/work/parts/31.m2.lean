/-! THE MODEL: the words of a piece, laid into 'one' -/
def FL1 (x i : Int) : Prop := x = 54 ∨ (x = 41 ∧ i = 16)
theorem FL1_wk : WK FL1 := fun x i h => by
  rcases h with rfl | ⟨rfl, rfl⟩
  · exact ⟨rfl, fun q => absurd q (by decide)⟩
  · exact ⟨rfl, fun _ => rfl⟩
theorem FL1_in : ∀ x i, FL1 x i → 41 ≤ x ∧ x ≤ 83 := fun x i h => by rcases h with rfl | ⟨rfl, rfl⟩ <;> omega
theorem FL1_dk : ∀ x i, FL1 x i → ¬ DC x i := fun x i h => by unfold DC; rcases h with rfl | ⟨rfl, rfl⟩ <;> omega
def PL1 (S : MM) (a : Int) (w : NS) (M : MM) : Int → NS → MM → Prop := fun _ w' M' => w = w' ∧ M' 41 16 = (wl S a).length ∧ AL M' 54 (wl S a) ∧ Fo FL1 M M'
theorem cm_layOne {G : GP} {l : Launch} {w : NS} {S M : MM} {a : Int} (hI : SInv S) (hA : Ag S M) (ha : isPc S a) : CT_X10_layOne G l [(2, 41), (0, a)] w M (PL1 S a w M) := by
  refine E_X10_layOne (fun _ X hX C => ?_)
  have hpc := hI.pc
  have hpg := hI.pg
  have hed := hI.ed a
  have hpo := hI.po a ha
  have hsa : isPg S (S 46 a) := hpo
  have Lin : ∀ line, S 47 a ≤ line → line ≤ S 48 a → (∀ M2, Fo FL1 M M2 → M2 41 16 = (linesW S a (line + 1 - S 47 a).toNat).length → AL M2 54 (linesW S a (line + 1 - S 47 a).toNat) → A_X10_layOne_12 G X (PL1 S a w M) a (line + 1) w M2) →
      ∀ c, c ≤ S 50 a + 1 → ∀ M1, S 49 a ≤ c → Fo FL1 M M1 → M1 41 16 = (linesW S a (line - S 47 a).toNat ++ lineW S a line (c - S 49 a).toNat).length → AL M1 54 (linesW S a (line - S 47 a).toNat ++ lineW S a line (c - S 49 a).toNat) → A_X10_layOne_29 G X (PL1 S a w M) a line c w M1 := by
    intro line hl1 hl2 hk
    refine up_ind _ (fun c hc ih M1 hc0 hF hn hL => ?_)
    have hA1 := hF.ag FL1_wk hA
    obtain ⟨kf4, kf12, kf26, ke42, ke43, ke44, ke45, ke46, ke47, ke48, ke49, ke50, ke51, ke52, ke53, ke56, ke57, ke58, ke59, ke60, ke61, ke62, ke63, ke72, ke73, ke77, ke78, ke79, ke83⟩ := hA1.all
    refine B_X10_layOne_29 C ?_
    simp only [kf4, kf12, kf26, ke42, ke43, ke44, ke45, ke46, ke47, ke48, ke49, ke50, ke51, ke52, ke53, ke56, ke57, ke58, ke59, ke60, ke61, ke62, ke63, ke72, ke73, ke77, ke78, ke79, ke83]
    have hb := linesW_len hI a (line - S 47 a).toNat
    have hb2 := lineW_len S a line (c - S 49 a).toNat
    rw [List.length_append] at hn
    refine ⟨by omega, by omega, fun h => ⟨by omega, ?_⟩, fun h => ⟨by omega, by omega, by omega, by omega, by omega, by omega, fun h2 => ⟨by omega, ?_⟩, fun h2 => ⟨by omega, by omega, by omega, by omega, ?_⟩⟩⟩
    · have hc1 : c = S 50 a + 1 := by omega
      have e : linesW S a (line + 1 - S 47 a).toNat = linesW S a (line - S 47 a).toNat ++ lineW S a line (c - S 49 a).toNat := by
        unfold linesW; rw [blkW_s hl1, hc1, show S 50 a + 1 - S 49 a = S 50 a - S 49 a + 1 by omega]
      refine hk M1 hF ?_ ?_
      · rw [e, List.length_append]; exact hn
      · rw [e]; exact hL
    · have e : lineW S a line (c + 1 - S 49 a).toNat = lineW S a line (c - S 49 a).toNat := by
        unfold lineW; rw [rowW_s hc0, if_neg (by omega), List.append_nil]
      refine ih (c + 1) (by omega) (by omega) M1 (by omega) hF ?_ ?_
      · rw [e, List.length_append]; exact hn
      · rw [e]; exact hL
    · have e : lineW S a line (c + 1 - S 49 a).toNat = lineW S a line (c - S 49 a).toNat ++ [S 42 (60 * S 46 a + 10 * line + c)] := by
        unfold lineW; rw [rowW_s hc0, if_pos (by omega)]
      have hn2 : M1 41 16 = ((linesW S a (line - S 47 a).toNat ++ lineW S a line (c - S 49 a).toNat).length : Nat) := by rw [List.length_append]; exact hn
      refine ih (c + 1) (by omega) (by omega) _ (by omega) (fo_up (fo_up hF _ (Or.inl rfl)) _ (Or.inr ⟨rfl, rfl⟩)) ?_ ?_
      · rw [up_eq, e, ← List.append_assoc, List.length_append, hn2]; simp
      · rw [e, ← List.append_assoc]
        refine al_fr (M := up M1 54 (M1 41 16) (S 42 (60 * S 46 a + 10 * line + c))) ?_ (fun i => up_na (by decide))
        rw [hn2]
        exact al_snoc hL _
  have Lo : ∀ line, line ≤ S 48 a + 1 → ∀ M1, S 47 a ≤ line → Fo FL1 M M1 → M1 41 16 = (linesW S a (line - S 47 a).toNat).length → AL M1 54 (linesW S a (line - S 47 a).toNat) → A_X10_layOne_12 G X (PL1 S a w M) a line w M1 := by
    refine up_ind _ (fun line hl ih M1 hl0 hF hn hL => ?_)
    have hA1 := hF.ag FL1_wk hA
    obtain ⟨kf4, kf12, kf26, ke42, ke43, ke44, ke45, ke46, ke47, ke48, ke49, ke50, ke51, ke52, ke53, ke56, ke57, ke58, ke59, ke60, ke61, ke62, ke63, ke72, ke73, ke77, ke78, ke79, ke83⟩ := hA1.all
    refine B_X10_layOne_12 C ?_
    simp only [kf4, kf12, kf26, ke42, ke43, ke44, ke45, ke46, ke47, ke48, ke49, ke50, ke51, ke52, ke53, ke56, ke57, ke58, ke59, ke60, ke61, ke62, ke63, ke72, ke73, ke77, ke78, ke79, ke83]
    refine ⟨by omega, by omega, fun h => ?_, fun h => ?_⟩
    · have e : wl S a = linesW S a (line - S 47 a).toNat := by unfold wl; rw [show line = S 48 a + 1 by omega, show S 48 a + 1 - S 47 a = S 48 a - S 47 a + 1 by omega]
      exact ⟨rfl, by rw [e]; exact hn, by rw [e]; exact hL, hF⟩
    · refine Lin line hl0 (by omega) (fun M2 hF2 hn2 hL2 => ih (line + 1) (by omega) (by omega) M2 (by omega) hF2 hn2 hL2) (S 49 a) (by omega) M1 (by omega) hF ?_ ?_
      · simp [lineW, rowW, hn]
      · simp [lineW, rowW, hL]
  refine B_X10_layOne_0 C ⟨by omega, by omega, ?_⟩
  rw [hA.1 47 a rfl]
  refine Lo (S 47 a) (by omega) _ (by omega) (fo_up (Fo.rfl' _ _) _ (Or.inr ⟨rfl, rfl⟩)) ?_ ?_
  · rw [up_eq]; simp [linesW, blkW]
  · simp [linesW, blkW, AL]
theorem cm_word {G : GP} {l : Launch} {w : NS} {S M : MM} {a b : Int} (hI : SInv S) (hA : Ag S M) : CT_X10_word G l [(2, 41), (0, a), (0, b)] w M (PM w M (op_word S a b)) := by
  refine E_X10_word (fun _ _ X hX C => ?_)
  have hpc := hI.pc
  have hlen := wl_len hI a
  refine B_X10_word_0 C ?_
  rw [hA.2 12 rfl]
  refine ⟨by omega, fun h1 => ⟨_, cm_layOne hI hA h1, fun z w' M' hq => ?_⟩, fun h1 => pm_s hA (by unfold op_word; rw [if_neg h1])⟩
  obtain ⟨rfl, hn, hL, hF⟩ := hq
  rw [hn]
  refine ⟨by omega, fun h2 => ?_, fun h2 => ⟨by omega, by omega, ?_⟩⟩
  · exact pm_u (S1 := S) (by unfold op_word; rw [if_pos h1, if_neg (by omega)]) (hF.ag FL1_wk hA) (hF.frm FL1_in) (hF.dk FL1_dk)
  · refine pm_u (S1 := S) (by unfold op_word; rw [if_pos h1, if_pos (by omega), al_at hL h2.1 (by omega)]) (hF.ag FL1_wk hA) (hF.frm FL1_in) (hF.dk FL1_dk)
