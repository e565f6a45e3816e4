/-! THE MODEL: calls without more than a loop -/
/-- the model's part behind a call -/
def MInv0 (S M : MM) : Prop := Ag S M
/-- an answer, nothing else -/
def PE (f : Int) (w : NS) (M : MM) : Int → NS → MM → Prop := fun z w' M' => f = z ∧ w = w' ∧ M = M'
/-- what the doubles rest on is as it was, or they are to be laid anew -/
def DC (a i : Int) : Prop := a = 42 ∨ (46 ≤ a ∧ a ≤ 50) ∨ (a = 53 ∧ i = 0) ∨ a = 69 ∨ (a = 41 ∧ (i = 12 ∨ i = 34))
def DK (M M' : MM) : Prop := M' 41 34 = 0 ∨ ∀ a i, DC a i → M' a i = M a i
theorem DK.rfl' (M : MM) : DK M M := Or.inr fun _ _ _ => rfl
theorem dk_up {M M1 : MM} (h : DK M M1) {a i v : Int} (hn : ¬ DC a i) : DK M (up M1 a i v) := by
  rcases h with h | h
  · left; rw [up_ap, if_neg (by rintro ⟨rfl, rfl⟩; exact hn (by unfold DC; omega))]; exact h
  · right; intro b j hb; rw [up_ap, if_neg (by rintro ⟨rfl, rfl⟩; exact hn hb)]; exact h b j hb
theorem dk_0 {M M1 : MM} : DK M (up M1 41 34 0) := Or.inl up_eq
theorem Fo.dk {F : Int → Int → Prop} {M M' : MM} (h : Fo F M M') (hn : ∀ x i, F x i → ¬ DC x i) : DK M M' := Or.inr fun a i hd => h a i (fun q => hn a i q hd)
def PM (w : NS) (M : MM) (r : Int × MM) : Int → NS → MM → Prop := fun z w' M' => z = r.1 ∧ Ag r.2 M' ∧ w' = w ∧ FrM M M' ∧ DK M M'
theorem pm_s {S M : MM} {w : NS} {r : Int × MM} {z : Int} (hA : Ag S M) (e : r = (z, S)) : PM w M r z w M := by
  rw [e]; exact ⟨rfl, hA, rfl, FrM.rfl' M, DK.rfl' M⟩
theorem cm_page {G : GP} {l : Launch} {w : NS} {S M : MM} {a b : Int} (hI : SInv S) (hA : Ag S M) : CT_X10_page G l [(2, 41), (0, a), (0, b)] w M (PM w M (op_page S a b)) := by
  refine E_X10_page (fun _ _ X hX C => ?_)
  have e4 := hA.2 4 rfl
  have hp := hI.pg
  refine B_X10_page_0 C ?_
  rw [e4]
  refine ⟨fun h => ?_, fun h => ⟨fun h2 => ⟨fun h3 => ?_, fun h3 => ?_⟩, fun h2 => ?_⟩⟩
  · exact pm_s hA (by unfold op_page; rw [if_neg (by omega)])
  · refine ⟨by omega, by omega, by omega, by omega, ?_⟩
    have e : op_page S a b = (S 41 4, up (up (up (up S 43 (S 41 4) a) 44 (S 41 4) b) 45 (S 41 4) (-6)) 41 4 (S 41 4 + 1)) := by unfold op_page; rw [if_pos ⟨h, h2⟩, if_neg h3]
    rw [e]
    exact ⟨by omega, ag_up (ag_up (ag_up (ag_up hA _ _ _) _ _ _) _ _ _) _ _ _, rfl, frm_up (frm_up (frm_up (frm_up (FrM.rfl' M) _ (by omega)) _ (by omega)) _ (by omega)) _ (by omega), (by first | exact dk_0 | (refine Or.inl ?_; simp [up_ap]; done) | (repeat' (first | exact DK.rfl' _ | assumption | (refine dk_up ?_ ?_) | (unfold DC; omega))))⟩
  · exact pm_s hA (by unfold op_page; rw [if_pos ⟨h, h2⟩, if_pos (by omega)])
  · exact pm_s hA (by unfold op_page; rw [if_neg (by omega)])
theorem cm_isKept {G : GP} {l : Launch} {w : NS} {S M : MM} {a : Int} (hI : SInv S) (hA : Ag S M) : CT_X10_isKept G l [(2, 41), (0, a)] w M (PE (bi (keptS S a)) w M) := by
  refine E_X10_isKept (fun _ X hX C => ?_)
  have e12 := hA.2 12 rfl
  have hp := hI.pc
  have L := up_ind (P := fun i => ∀ z, 0 ≤ i → z = bi (exN (fun k => decide (S 46 k = a) && (decide (S 52 k ≠ 0) || decide (S 51 k ≠ 0))) i.toNat) → A_X10_isKept_4 G X (PE (bi (keptS S a)) w M) a z i w M) (S 41 12) (fun i hi ih z h0 hz => by
    refine B_X10_isKept_4 C ?_
    rw [e12, hA.1 46 i rfl, hA.1 52 i rfl, hA.1 51 i rfl]
    refine ⟨fun h => ⟨by rw [hz]; exact bi_01 _, ?_, rfl, rfl⟩, fun h => ?_⟩
    · rw [hz, show i = S 41 12 by omega]; rfl
    · have ih2 := fun z hz => ih (i + 1) (by omega) (by omega) z (by omega) hz
      rw [exN_s h0] at ih2
      refine ⟨fun h1 => ⟨by omega, ih2 1 ?_⟩, fun h1 => ⟨by omega, by omega, fun h2 => ⟨by omega, ih2 0 ?_⟩, fun h2 => ⟨fun h3 => ⟨by omega, ih2 1 ?_⟩, fun h3 => ⟨fun h4 => ⟨by omega, ih2 0 ?_⟩, fun h4 => ⟨by omega, ih2 1 ?_⟩⟩⟩⟩⟩
      all_goals (cases hb : exN (fun k => decide (S 46 k = a) && (decide (S 52 k ≠ 0) || decide (S 51 k ≠ 0))) i.toNat <;> simp_all [bi]))
  refine B_X10_isKept_0 C ?_
  exact L 0 (by omega) 0 (by omega) rfl
theorem cm_write {G : GP} {l : Launch} {w : NS} {S M : MM} {a b c : Int} (hI : SInv S) (hA : Ag S M) : CT_X10_write G l [(2, 41), (0, a), (0, b), (0, c)] w M (PM w M (op_write S a b c)) := by
  refine E_X10_write (fun _ _ _ X hX C => ?_)
  have e4 := hA.2 4 rfl
  have hp := hI.pg
  refine B_X10_write_0 C ?_
  rw [e4]
  refine ⟨by omega, fun h => ⟨fun h2 => ?_, fun h2 => ⟨fun h3 => ⟨_, cm_isKept hI hA, fun z w' M' hq => ?_⟩, fun h3 => ?_⟩⟩, fun h => ?_⟩
  · exact pm_s hA (by unfold op_write; grind)
  · obtain ⟨rfl, rfl, rfl⟩ := hq
    refine ⟨fun h4 => ⟨by omega, by omega, by omega, by omega, fun h5 => ?_, fun h5 => ?_⟩, fun h4 => ?_⟩
    · have e : op_write S a b c = (S 42 (60 * a + b), up S 42 (60 * a + b) c) := by unfold op_write; grind [bi]
      rw [e]
      exact ⟨hA.1 42 _ rfl, ag_sc (ag_up hA _ _ _) _ (by decide), rfl, frm_up (frm_up (FrM.rfl' M) _ (by omega)) _ (by omega), (by first | exact dk_0 | (refine Or.inl ?_; simp [up_ap]; done) | (repeat' (first | exact DK.rfl' _ | assumption | (refine dk_up ?_ ?_) | (unfold DC; omega))))⟩
    · have e : op_write S a b c = (S 42 (60 * a + b), up S 42 (60 * a + b) (-6)) := by unfold op_write; grind [bi]
      rw [e]
      exact ⟨hA.1 42 _ rfl, ag_sc (ag_up hA _ _ _) _ (by decide), rfl, frm_up (frm_up (FrM.rfl' M) _ (by omega)) _ (by omega), (by first | exact dk_0 | (refine Or.inl ?_; simp [up_ap]; done) | (repeat' (first | exact DK.rfl' _ | assumption | (refine dk_up ?_ ?_) | (unfold DC; omega))))⟩
    · exact pm_s hA (by unfold op_write; grind [bi])
  · exact pm_s hA (by unfold op_write; grind)
  · exact pm_s hA (by unfold op_write; grind)
theorem cm_sides {G : GP} {l : Launch} {w : NS} {S M : MM} {a b : Int} (hI : SInv S) (hA : Ag S M) : CT_X10_sides G l [(2, 41), (0, a), (0, b)] w M (PM w M (op_sides S a b)) := by
  refine E_X10_sides (fun _ _ X hX C => ?_)
  have e4 := hA.2 4 rfl
  have hp := hI.pg
  refine B_X10_sides_0 C ?_
  rw [e4, hA.1 43 a rfl, hA.1 43 b rfl, hA.1 44 a rfl, hA.1 44 b rfl, hA.1 45 a rfl, hA.1 45 b rfl]
  have e : isPg S a → isPg S b → a ≠ b → S 43 a = S 43 b → S 44 a = S 44 b → S 45 a < 0 → S 45 b < 0 → PM w M (op_sides S a b) 1 w (up (up M 45 a b) 45 b a) := fun h1 h2 h3 h4 h5 h6 h7 => by
    rw [show op_sides S a b = (1, up (up S 45 a b) 45 b a) by unfold op_sides; rw [if_pos ⟨h1, h2, h3⟩, if_pos ⟨h4, h5⟩, if_pos ⟨h6, h7⟩]]
    exact ⟨rfl, ag_up (ag_up hA _ _ _) _ _ _, rfl, frm_up (frm_up (FrM.rfl' M) _ (by omega)) _ (by omega), (by first | exact dk_0 | (refine Or.inl ?_; simp [up_ap]; done) | (repeat' (first | exact DK.rfl' _ | assumption | (refine dk_up ?_ ?_) | (unfold DC; omega))))⟩
  repeat' (first | with_reducible refine And.intro ?_ ?_ | with_reducible intro _)
  all_goals (first | omega | (exact pm_s hA (by unfold op_sides; grind)) | (apply e <;> grind))
theorem pm_u {M M1 S1 : MM} {w : NS} {r : Int × MM} {z : Int} (e : r = (z, S1)) (hA1 : Ag S1 M1) (hF : FrM M M1) (hK : DK M M1 := by first | exact dk_0 | (refine Or.inl ?_; simp [up_ap]; done) | (repeat' (first | exact DK.rfl' _ | assumption | (refine dk_up ?_ ?_) | (unfold DC; omega)))) : PM w M r z w M1 := by
  rw [e]; exact ⟨rfl, hA1, rfl, hF, hK⟩
theorem cm_piece {G : GP} {l : Launch} {w : NS} {S M : MM} {a b c d e : Int} (hI : SInv S) (hA : Ag S M) : CT_X10_piece G l [(2, 41), (0, a), (0, b), (0, c), (0, d), (0, e)] w M (PM w M (op_piece S a b c d e)) := by
  refine E_X10_piece (fun _ _ _ _ _ X hX C => ?_)
  obtain ⟨kf4, kf12, kf26, ke42, ke43, ke44, ke45, ke46, ke47, ke48, ke49, ke50, ke51, ke52, ke53, ke56, ke57, ke58, ke59, ke60, ke61, ke62, ke63, ke72, ke73, ke77, ke78, ke79, ke83⟩ := hA.all
  have hp := hI.pg
  have hp2 := hI.pc
  refine B_X10_piece_0 C ?_
  simp only [kf4, kf12, kf26, ke42, ke43, ke44, ke45, ke46, ke47, ke48, ke49, ke50, ke51, ke52, ke53, ke56, ke57, ke58, ke59, ke60, ke61, ke62, ke63, ke72, ke73, ke77, ke78, ke79, ke83]
  repeat' (first | with_reducible refine And.intro ?_ ?_ | with_reducible intro _)
  all_goals (first | omega | (exact pm_s hA (by unfold op_piece; grind)) | (refine pm_u (S1 := up (up (up (up (up (up S 46 (S 41 12) a) 47 (S 41 12) b) 48 (S 41 12) c) 49 (S 41 12) d) 50 (S 41 12) e) 41 12 (S 41 12 + 1)) (by unfold op_piece; grind) ?_ ?_))
  · exact ag_up (ag_up (ag_up (ag_up (ag_up (ag_sc (ag_up hA _ _ _) _ (by decide)) _ _ _) _ _ _) _ _ _) _ _ _) _ _ _
  · exact frm_up (frm_up (frm_up (frm_up (frm_up (frm_up (frm_up (FrM.rfl' M) _ (by omega)) _ (by omega)) _ (by omega)) _ (by omega)) _ (by omega)) _ (by omega)) _ (by omega)
theorem cm_say {G : GP} {l : Launch} {w : NS} {S M : MM} {a : Int} (hI : SInv S) (hA : Ag S M) : CT_X10_say G l [(2, 41), (0, a)] w M (PM w M (op_say S a)) := by
  refine E_X10_say (fun _ X hX C => ?_)
  obtain ⟨kf4, kf12, kf26, ke42, ke43, ke44, ke45, ke46, ke47, ke48, ke49, ke50, ke51, ke52, ke53, ke56, ke57, ke58, ke59, ke60, ke61, ke62, ke63, ke72, ke73, ke77, ke78, ke79, ke83⟩ := hA.all
  have hp := hI.sm 10
  refine B_X10_say_0 C ?_
  simp only [kf4, kf12, kf26, ke42, ke43, ke44, ke45, ke46, ke47, ke48, ke49, ke50, ke51, ke52, ke53, ke56, ke57, ke58, ke59, ke60, ke61, ke62, ke63, ke72, ke73, ke77, ke78, ke79, ke83]
  repeat' (first | with_reducible refine And.intro ?_ ?_ | with_reducible intro _)
  all_goals (first | omega | (exact pm_s hA (by unfold op_say; grind)) | (exact pm_u (S1 := up (up S 56 (400 + S 57 10) a) 57 10 (S 57 10 + 1)) (by unfold op_say; grind) (ag_up (ag_up hA _ _ _) _ _ _) (frm_up (frm_up (FrM.rfl' M) _ (by omega)) _ (by omega))))
theorem cm_wipe {G : GP} {l : Launch} {w : NS} {S M : MM} (hA : Ag S M) : CT_X10_wipe G l [(2, 41)] w M (PM w M (op_wipe S)) := by
  refine E_X10_wipe (fun X hX C => ?_)
  obtain ⟨kf4, kf12, kf26, ke42, ke43, ke44, ke45, ke46, ke47, ke48, ke49, ke50, ke51, ke52, ke53, ke56, ke57, ke58, ke59, ke60, ke61, ke62, ke63, ke72, ke73, ke77, ke78, ke79, ke83⟩ := hA.all
  refine B_X10_wipe_0 C ?_
  rw [ke57]
  exact pm_u (S1 := up S 57 10 0) rfl (ag_up hA _ _ _) (frm_up (FrM.rfl' M) _ (by omega))
theorem cm_set {G : GP} {l : Launch} {w : NS} {S M : MM} {a b : Int} (hA : Ag S M) : CT_X10_set G l [(2, 41), (0, a), (0, b)] w M (PM w M (op_set S a b)) := by
  refine E_X10_set (fun _ _ X hX C => ?_)
  obtain ⟨kf4, kf12, kf26, ke42, ke43, ke44, ke45, ke46, ke47, ke48, ke49, ke50, ke51, ke52, ke53, ke56, ke57, ke58, ke59, ke60, ke61, ke62, ke63, ke72, ke73, ke77, ke78, ke79, ke83⟩ := hA.all
  refine B_X10_set_0 C ?_
  simp only [kf4, kf12, kf26, ke42, ke43, ke44, ke45, ke46, ke47, ke48, ke49, ke50, ke51, ke52, ke53, ke56, ke57, ke58, ke59, ke60, ke61, ke62, ke63, ke72, ke73, ke77, ke78, ke79, ke83]
  repeat' (first | with_reducible refine And.intro ?_ ?_ | with_reducible intro _)
  all_goals (first | omega | (exact pm_s hA (by unfold op_set; grind)) | (exact pm_u (S1 := up S 53 a b) (by unfold op_set; grind) (ag_sc (ag_up hA _ _ _) _ (by decide)) (frm_up (frm_up (FrM.rfl' M) _ (by omega)) _ (by omega))))
theorem cm_name {G : GP} {l : Launch} {w : NS} {S M : MM} {a b : Int} (hA : Ag S M) : CT_X10_name G l [(2, 41), (0, a), (0, b)] w M (PM w M (op_name S a b)) := by
  refine E_X10_name (fun _ _ X hX C => ?_)
  obtain ⟨kf4, kf12, kf26, ke42, ke43, ke44, ke45, ke46, ke47, ke48, ke49, ke50, ke51, ke52, ke53, ke56, ke57, ke58, ke59, ke60, ke61, ke62, ke63, ke72, ke73, ke77, ke78, ke79, ke83⟩ := hA.all
  refine B_X10_name_0 C ?_
  simp only [kf4, kf12, kf26, ke42, ke43, ke44, ke45, ke46, ke47, ke48, ke49, ke50, ke51, ke52, ke53, ke56, ke57, ke58, ke59, ke60, ke61, ke62, ke63, ke72, ke73, ke77, ke78, ke79, ke83]
  repeat' (first | with_reducible refine And.intro ?_ ?_ | with_reducible intro _)
  all_goals (first | omega | (exact pm_s hA (by unfold op_name; grind)) | (exact pm_u (S1 := up S 72 a b) (by unfold op_name; grind) (ag_up hA _ _ _) (frm_up (FrM.rfl' M) _ (by omega))) | (exact pm_u (S1 := up S 72 a (-6)) (by unfold op_name; grind) (ag_up hA _ _ _) (frm_up (FrM.rfl' M) _ (by omega))))
theorem cm_counts {G : GP} {l : Launch} {w : NS} {S M : MM} {a b c : Int} (hA : Ag S M) : CT_X10_counts G l [(2, 41), (0, a), (0, b), (0, c)] w M (PM w M (op_counts S a b c)) := by
  refine E_X10_counts (fun _ _ _ X hX C => ?_)
  obtain ⟨kf4, kf12, kf26, ke42, ke43, ke44, ke45, ke46, ke47, ke48, ke49, ke50, ke51, ke52, ke53, ke56, ke57, ke58, ke59, ke60, ke61, ke62, ke63, ke72, ke73, ke77, ke78, ke79, ke83⟩ := hA.all
  refine B_X10_counts_0 C ?_
  simp only [kf4, kf12, kf26, ke42, ke43, ke44, ke45, ke46, ke47, ke48, ke49, ke50, ke51, ke52, ke53, ke56, ke57, ke58, ke59, ke60, ke61, ke62, ke63, ke72, ke73, ke77, ke78, ke79, ke83]
  repeat' (first | with_reducible refine And.intro ?_ ?_ | with_reducible intro _)
  all_goals (first | omega | (exact pm_s hA (by unfold op_counts; grind)) | (exact pm_u (S1 := up S 73 (100 * a + b) c) (by unfold op_counts; grind) (ag_up hA _ _ _) (frm_up (FrM.rfl' M) _ (by omega))))
theorem cm_find {G : GP} {l : Launch} {w : NS} {S M : MM} {a b c : Int} (hI : SInv S) (hA : Ag S M) : CT_X10_find G l [(2, 41), (0, a), (0, b), (0, c)] w M (PM w M (op_find S a b c)) := by
  refine E_X10_find (fun _ _ _ X hX C => ?_)
  obtain ⟨kf4, kf12, kf26, ke42, ke43, ke44, ke45, ke46, ke47, ke48, ke49, ke50, ke51, ke52, ke53, ke56, ke57, ke58, ke59, ke60, ke61, ke62, ke63, ke72, ke73, ke77, ke78, ke79, ke83⟩ := hA.all
  have hp2 := hI.pc
  refine B_X10_find_0 C ?_
  simp only [kf4, kf12, kf26, ke42, ke43, ke44, ke45, ke46, ke47, ke48, ke49, ke50, ke51, ke52, ke53, ke56, ke57, ke58, ke59, ke60, ke61, ke62, ke63, ke72, ke73, ke77, ke78, ke79, ke83]
  repeat' (first | with_reducible refine And.intro ?_ ?_ | with_reducible intro _)
  all_goals (first | omega | (exact pm_s hA (by unfold op_find; grind)) | (exact pm_u (S1 := up S 77 a (zor (S 77 a) (zshl 1 b))) (by unfold op_find; grind) (ag_up hA _ _ _) (frm_up (FrM.rfl' M) _ (by omega))) | (exact pm_u (S1 := up S 77 a (zand (S 77 a) (zxor (zshl 1 b) (-1)))) (by unfold op_find; grind) (ag_up hA _ _ _) (frm_up (FrM.rfl' M) _ (by omega))))
theorem cm_reader {G : GP} {l : Launch} {w : NS} {S M : MM} {a b c : Int} (hA : Ag S M) : CT_X10_reader G l [(2, 41), (0, a), (0, b), (0, c)] w M (PM w M (op_reader S a b c)) := by
  refine E_X10_reader (fun _ _ _ X hX C => ?_)
  obtain ⟨kf4, kf12, kf26, ke42, ke43, ke44, ke45, ke46, ke47, ke48, ke49, ke50, ke51, ke52, ke53, ke56, ke57, ke58, ke59, ke60, ke61, ke62, ke63, ke72, ke73, ke77, ke78, ke79, ke83⟩ := hA.all
  refine B_X10_reader_0 C ?_
  simp only [kf4, kf12, kf26, ke42, ke43, ke44, ke45, ke46, ke47, ke48, ke49, ke50, ke51, ke52, ke53, ke56, ke57, ke58, ke59, ke60, ke61, ke62, ke63, ke72, ke73, ke77, ke78, ke79, ke83]
  repeat' (first | with_reducible refine And.intro ?_ ?_ | with_reducible intro _)
  all_goals (first | omega | (exact pm_s hA (by unfold op_reader; grind)) | (exact pm_u (S1 := up S 78 (2 * a + b) c) (by unfold op_reader; grind) (ag_up hA _ _ _) (frm_up (FrM.rfl' M) _ (by omega))))
theorem cm_slips {G : GP} {l : Launch} {w : NS} {S M : MM} {a b c : Int} (hA : Ag S M) : CT_X10_slips G l [(2, 41), (0, a), (0, b), (0, c)] w M (PM w M (op_slips S a b c)) := by
  refine E_X10_slips (fun _ _ _ X hX C => ?_)
  obtain ⟨kf4, kf12, kf26, ke42, ke43, ke44, ke45, ke46, ke47, ke48, ke49, ke50, ke51, ke52, ke53, ke56, ke57, ke58, ke59, ke60, ke61, ke62, ke63, ke72, ke73, ke77, ke78, ke79, ke83⟩ := hA.all
  refine B_X10_slips_0 C ?_
  simp only [kf4, kf12, kf26, ke42, ke43, ke44, ke45, ke46, ke47, ke48, ke49, ke50, ke51, ke52, ke53, ke56, ke57, ke58, ke59, ke60, ke61, ke62, ke63, ke72, ke73, ke77, ke78, ke79, ke83]
  repeat' (first | with_reducible refine And.intro ?_ ?_ | with_reducible intro _)
  all_goals (first | omega | (exact pm_s hA (by unfold op_slips; grind)) | (exact pm_u (S1 := up S 79 (10 * a + b) c) (by unfold op_slips; grind) (ag_up hA _ _ _) (frm_up (FrM.rfl' M) _ (by omega))))
theorem cm_miss {G : GP} {l : Launch} {w : NS} {S M : MM} {a : Int} (hI : SInv S) (hA : Ag S M) : CT_X10_miss G l [(2, 41), (0, a)] w M (PM w M (op_miss S a)) := by
  refine E_X10_miss (fun _ X hX C => ?_)
  obtain ⟨kf4, kf12, kf26, ke42, ke43, ke44, ke45, ke46, ke47, ke48, ke49, ke50, ke51, ke52, ke53, ke56, ke57, ke58, ke59, ke60, ke61, ke62, ke63, ke72, ke73, ke77, ke78, ke79, ke83⟩ := hA.all
  have hp := hI.mm a
  refine B_X10_miss_0 C ?_
  simp only [kf4, kf12, kf26, ke42, ke43, ke44, ke45, ke46, ke47, ke48, ke49, ke50, ke51, ke52, ke53, ke56, ke57, ke58, ke59, ke60, ke61, ke62, ke63, ke72, ke73, ke77, ke78, ke79, ke83]
  repeat' (first | with_reducible refine And.intro ?_ ?_ | with_reducible intro _)
  all_goals (first | omega | (exact pm_s hA (by unfold op_miss; grind)) | (exact pm_u (S1 := up S 83 a (S 83 a + 1)) (by unfold op_miss; grind) (ag_up hA _ _ _) (frm_up (FrM.rfl' M) _ (by omega))))
theorem cm_file {G : GP} {l : Launch} {w : NS} {S M : MM} {a b : Int} (hI : SInv S) (hA : Ag S M) : CT_X10_file G l [(2, 41), (0, a), (0, b)] w M (PM w M (op_file S a b)) := by
  refine E_X10_file (fun _ _ X hX C => ?_)
  obtain ⟨kf4, kf12, kf26, ke42, ke43, ke44, ke45, ke46, ke47, ke48, ke49, ke50, ke51, ke52, ke53, ke56, ke57, ke58, ke59, ke60, ke61, ke62, ke63, ke72, ke73, ke77, ke78, ke79, ke83⟩ := hA.all
  have hp2 := hI.pc
  refine B_X10_file_0 C ?_
  simp only [kf4, kf12, kf26, ke42, ke43, ke44, ke45, ke46, ke47, ke48, ke49, ke50, ke51, ke52, ke53, ke56, ke57, ke58, ke59, ke60, ke61, ke62, ke63, ke72, ke73, ke77, ke78, ke79, ke83]
  repeat' (first | with_reducible refine And.intro ?_ ?_ | with_reducible intro _)
  all_goals (first | omega | (exact pm_s hA (by unfold op_file; grind)) | (exact pm_u (S1 := up S 51 a b) (by unfold op_file; grind) (ag_up hA _ _ _) (frm_up (FrM.rfl' M) _ (by omega))))
theorem cm_doClash {G : GP} {l : Launch} {w : NS} {S M : MM} {a b : Int} (hI : SInv S) (hA : Ag S M) (ha : isPc S a) (hb : isPc S b) : CT_X10_doClash G l [(2, 41), (0, a), (0, b)] w M (PE (bi (clashS S a b)) w M) := by
  refine E_X10_doClash (fun _ _ X hX C => ?_)
  obtain ⟨kf4, kf12, kf26, ke42, ke43, ke44, ke45, ke46, ke47, ke48, ke49, ke50, ke51, ke52, ke53, ke56, ke57, ke58, ke59, ke60, ke61, ke62, ke63, ke72, ke73, ke77, ke78, ke79, ke83⟩ := hA.all
  have hp := hI.pg
  have hp2 := hI.pc
  have hp3 := hI.po a ha
  have hp4 := hI.po b hb
  have hp5 := hI.ed a
  have hp6 := hI.ed b
  refine B_X10_doClash_0 C ?_
  simp only [kf4, kf12, kf26, ke42, ke43, ke44, ke45, ke46, ke47, ke48, ke49, ke50, ke51, ke52, ke53, ke56, ke57, ke58, ke59, ke60, ke61, ke62, ke63, ke72, ke73, ke77, ke78, ke79, ke83]
  repeat' (first | with_reducible refine And.intro ?_ ?_ | with_reducible intro _)
  all_goals (first | omega | (refine ⟨?_, rfl, rfl⟩; unfold clashS; grind [bi]))
theorem cm_clash {G : GP} {l : Launch} {w : NS} {S M : MM} {a b : Int} (hI : SInv S) (hA : Ag S M) : CT_X10_clash G l [(2, 41), (0, a), (0, b)] w M (PM w M (op_clash S a b)) := by
  refine E_X10_clash (fun _ _ X hX C => ?_)
  obtain ⟨kf4, kf12, kf26, ke42, ke43, ke44, ke45, ke46, ke47, ke48, ke49, ke50, ke51, ke52, ke53, ke56, ke57, ke58, ke59, ke60, ke61, ke62, ke63, ke72, ke73, ke77, ke78, ke79, ke83⟩ := hA.all
  have hp2 := hI.pc
  refine B_X10_clash_0 C ?_
  simp only [kf4, kf12, kf26, ke42, ke43, ke44, ke45, ke46, ke47, ke48, ke49, ke50, ke51, ke52, ke53, ke56, ke57, ke58, ke59, ke60, ke61, ke62, ke63, ke72, ke73, ke77, ke78, ke79, ke83]
  refine ⟨by omega, fun h1 => ?_, fun h1 => ⟨fun h2 => ?_, fun h2 => ⟨_, cm_doClash hI hA h1 h2, fun z w' M' hq => ?_⟩⟩⟩
  · exact pm_s hA (by unfold op_clash; grind)
  · exact pm_s hA (by unfold op_clash; grind)
  · obtain ⟨rfl, rfl, rfl⟩ := hq
    refine ⟨fun h3 => ?_, fun h3 => ?_⟩
    · exact pm_s hA (by unfold op_clash; grind [bi])
    · exact pm_s hA (by unfold op_clash; grind [bi])
theorem cm_ofPage {G : GP} {l : Launch} {w : NS} {S M : MM} {a b : Int} (hI : SInv S) (hA : Ag S M) : CT_X10_ofPage G l [(2, 41), (0, a), (0, b)] w M (PM w M (op_ofPage S a b)) := by
  refine E_X10_ofPage (fun _ _ X hX C => ?_)
  obtain ⟨kf4, kf12, kf26, ke42, ke43, ke44, ke45, ke46, ke47, ke48, ke49, ke50, ke51, ke52, ke53, ke56, ke57, ke58, ke59, ke60, ke61, ke62, ke63, ke72, ke73, ke77, ke78, ke79, ke83⟩ := hA.all
  have hp := hI.pg
  have hp2 := hI.pc
  have L : isPg S a → ¬ (100 ≤ b ∧ b ≤ 159) → ∀ i, i ≤ S 41 12 → ∀ z, 0 ≤ i → z = cnN (fun k => decide (S 46 k = a)) i.toNat → A_X10_ofPage_44 G X (PM w M (op_ofPage S a b)) a b z i w M := fun ha hb => up_ind (S 41 12) (fun i hi ih z h0 hz => by
    refine B_X10_ofPage_44 C ?_
    simp only [kf4, kf12, kf26, ke42, ke43, ke44, ke45, ke46, ke47, ke48, ke49, ke50, ke51, ke52, ke53, ke56, ke57, ke58, ke59, ke60, ke61, ke62, ke63, ke72, ke73, ke77, ke78, ke79, ke83]
    have hrg := cnN_rng (fun k => decide (S 46 k = a)) i.toNat
    refine ⟨fun h => ?_, fun h => ?_⟩
    · have hz2 : z = pcsOf S a := by rw [hz, show i = S 41 12 by omega]; rfl
      repeat' (first | with_reducible refine And.intro ?_ ?_ | with_reducible intro _)
      all_goals (first | omega | (exact pm_s hA (by unfold op_ofPage; grind)))
    · have ih2 := fun z hz => ih (i + 1) (by omega) (by omega) z (by omega) hz
      rw [cnN_s h0] at ih2
      refine ⟨by omega, by omega, fun h1 => ⟨by omega, by omega, ih2 _ ?_⟩, fun h1 => ⟨by omega, by omega, ih2 _ ?_⟩⟩
      all_goals simp_all)
  refine B_X10_ofPage_0 C ?_
  simp only [kf4, kf12, kf26, ke42, ke43, ke44, ke45, ke46, ke47, ke48, ke49, ke50, ke51, ke52, ke53, ke56, ke57, ke58, ke59, ke60, ke61, ke62, ke63, ke72, ke73, ke77, ke78, ke79, ke83]
  refine ⟨by omega, fun h1 => ⟨fun h2 => L h1 h2 0 (by omega) 0 (by omega) rfl, fun h2 => ⟨by omega, by omega, by omega, by omega, by omega, ?_⟩⟩, fun h1 => ?_⟩
  · exact pm_s hA (by unfold op_ofPage; grind)
  · exact pm_s hA (by unfold op_ofPage; grind)
