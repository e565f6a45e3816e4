/-! THE CLASS: gather, about -/
def PGa (S : MM) (w : NS) (M : MM) : Int → NS → MM → Prop := fun _ w' M' => w = w' ∧ Fo (FGa S M) M M' ∧ M' 9 0 = 1 ∧ ∀ k, isPc S k → M' (M 4 k) 8 = firstS S k ∧ M' (M 4 k) 9 = famC S k
theorem first_nn {S : MM} {a : Int} (hI : SInv S) (ha : isPc S a) : 0 ≤ firstS S a ∧ firstS S a < S 41 12 := famb_pc (firstS_mem hI ha)
theorem cc_gather {G : GP} {l : Launch} {w : NS} {S M : MM} (hI : SInv S) (hC : CInv S w M) : CT_X1_gather G l [(2, 9), (2, 5), (0, S 41 12), (0, S 53 0)] w M (PGa S w M) := by
  refine E_X1_gather (fun _ _ X hX C => ?_)
  refine WA.fix (fun hFx => ?_)
  have hpc := hI.pc
  have low : ∀ {M2 : MM} {x i : Int}, Fo (FGa S M) M M2 → x ≤ 8 → M2 x i = M x i := fun {M2 x i} hF hx => hF x i (by
    rintro (q | ⟨k, hk, q, -⟩)
    · omega
    · have := (hC.pc k hk).1; omega)
  have f8 : ∀ {k : Int}, isPc S k → FGa S M (M 4 k) 8 := fun hk => Or.inr ⟨_, hk, rfl, Or.inl rfl⟩
  have t7 : ∀ {k : Int}, isPc S k → w.2 (M 4 k) = (7, 12) := fun hk => (hC.pc _ hk).2.1
  have at5 : ∀ {M2 : MM} {i : Int}, Fo (FGa S M) M M2 → 0 ≤ i → i < S 41 12 → ∃ k, (ordL S)[i.toNat]? = some k ∧ isPc S k ∧ M2 5 i = M 4 k := fun {M2 i} hF i0 i1 => by
    obtain ⟨k, e1, e2, e3⟩ := ord_at hC hI i0 i1
    exact ⟨k, e1, e2, (low hF (by omega)).trans e3⟩
  have K2 : ∀ j : Int, j ≤ S 41 12 → ∀ M1, 0 ≤ j → GInv S M M1 → (∀ (i : Nat) (k : Int), (i : Int) < j → (ordL S)[i]? = some k → M1 (M 4 k) 8 ≠ -6) → A_X1_gather_35 G X (PGa S w M) 5 (S 41 12) (S 53 0) j w M1 := up_ind _ (fun j hj ih M1 j0 hG hb => by
    refine B_X1_gather_35 C ?_
    refine ⟨fun h => ⟨rfl, fo_up hG.1 _ (Or.inl (by omega)), up_eq, fun k hk => ?_⟩, fun h => ?_⟩
    · have h83 := (hC.pc k hk).1
      rw [up_na (by omega), up_na (by omega)]
      obtain ⟨t, ht⟩ := ord_ix hk
      have hlt : t < (ordL S).length := (List.getElem?_eq_some_iff.mp ht).1
      rw [ordL_len] at hlt
      exact (hG.2.1 k hk).resolve_left (hb t k (by omega) ht)
    · obtain ⟨k, e1, e2, e3⟩ := at5 (i := j) hG.1 j0 (by omega)
      rw [e3]
      refine ⟨sh_5 hFx, j0, by omega, t7 e2, fun h2 => ⟨by omega, ih (j + 1) (by omega) (by omega) M1 (by omega) hG (fun i q hi hq => ?_)⟩, fun h2 => ⟨_, cc_gatherOne hI hC hG j0 (by omega) e1 (Decidable.not_not.mp h2) hb, ?_⟩⟩
      · by_cases c : (i : Int) < j
        · exact hb i q c hq
        · rw [show i = j.toNat by omega, e1] at hq
          rw [← Option.some.inj hq]; exact h2
      · rintro z8 _ M8 ⟨rfl, hG8, hk8, hs8⟩
        refine ⟨by omega, ih (j + 1) (by omega) (by omega) M8 (by omega) hG8 (fun i q hi hq => ?_)⟩
        by_cases c : (i : Int) < j
        · exact hk8 q ((ordL_mem q).mp (List.mem_of_getElem? hq)) (hb i q c hq)
        · rw [show i = j.toNat by omega, e1] at hq
          rw [← Option.some.inj hq]; exact hs8)
  have K1 : ∀ j : Int, j ≤ S 41 12 → ∀ M1, 0 ≤ j → Fo (FGa S M) M M1 → (∀ (i : Nat) (k : Int), (i : Int) < j → (ordL S)[i]? = some k → M1 (M 4 k) 8 = -6) → A_X1_gather_11 G X (PGa S w M) 5 (S 41 12) (S 53 0) j w M1 := up_ind _ (fun j hj ih M1 j0 hF hb => by
    refine B_X1_gather_11 C ?_
    refine ⟨fun h => ?_, fun h => ?_⟩
    · have hall : ∀ k, isPc S k → M1 (M 4 k) 8 = -6 := fun k hk => by
        obtain ⟨t, ht⟩ := ord_ix hk
        have hlt : t < (ordL S).length := (List.getElem?_eq_some_iff.mp ht).1
        rw [ordL_len] at hlt
        exact hb t k (by omega) ht
      exact K2 0 (by omega) M1 (by omega) ⟨hF, fun k hk => Or.inl (hall k hk), fun p q hp hq h2 => absurd (hall p hp) h2⟩ (fun i k hi => by omega)
    · obtain ⟨k, e1, e2, e3⟩ := at5 (i := j) hF j0 (by omega)
      rw [e3]
      refine ⟨sh_5 hFx, j0, by omega, t7 e2, by omega, ih (j + 1) (by omega) (by omega) _ (by omega) (fo_up hF _ (f8 e2)) (fun i q hi hq => ?_)⟩
      have hqp := (ordL_mem q).mp (List.mem_of_getElem? hq)
      by_cases c : q = k
      · rw [c, up_eq]
      · rw [up_na (fun e => c ((pc_inj hC hqp e2).mp e))]
        refine hb i q ?_ hq
        rcases Int.lt_or_eq_of_le (show (i : Int) ≤ j by omega) with c2 | c2
        · exact c2
        · exfalso; apply c
          rw [show i = j.toNat by omega, e1] at hq
          exact (Option.some.inj hq).symm)
  refine B_X1_gather_0 C ?_
  refine ⟨fun h => K1 0 (by omega) M (by omega) (Fo.rfl' _ _) (fun i k hi => by omega), fun h => ?_⟩
  rcases hC.fm with hf | ⟨hf, hk⟩
  · exact absurd hf h
  · exact ⟨rfl, Fo.rfl' _ _, hf, hk⟩
/-- behind a gathering: the class is as it was, and the families are known -/
theorem PGa.inv {S : MM} {w : NS} {M : MM} {z : Int} {w' : NS} {M' : MM} (hI : SInv S) (hC : CInv S w M) (h : PGa S w M z w' M') : w = w' ∧ CInv S w M' ∧ FrC M M' ∧ (∀ k, M' 4 k = M 4 k) ∧ M' 9 0 = 1 ∧ ∀ k, isPc S k → M' (M' 4 k) 8 = firstS S k ∧ M' (M' 4 k) 9 = famC S k := by
  obtain ⟨h1, h2, h3, h4⟩ := h
  have hF := h2.mono FGa.wk
  have e4 : ∀ k, M' 4 k = M 4 k := fun k => fwk_low hC hF (by omega) (by omega)
  have h5 : ∀ k, isPc S k → M' (M' 4 k) 8 = firstS S k ∧ M' (M' 4 k) 9 = famC S k := fun k hk => by rw [e4]; exact h4 k hk
  exact ⟨h1, hC.work hI hF (Or.inr ⟨h3, h5⟩), FWK.frc hC hF, e4, h3, h5⟩
theorem cc_about {G : GP} {l : Launch} {w : NS} {S M : MM} {a b : Int} (hI : SInv S) (hC : CInv S w M) : CT_X9_about G l [(2, 1), (0, a), (0, b)] w M (PC M (op_about S a b)) := by
  refine E_X9_about (fun _ _ X hX C => ?_)
  refine B_X9_about_0 C ?_
  have hpc := hI.pc
  have hn0 := hC.num.1 0 (by decide) (by decide)
  rw [hC.top.2.1, hn0]
  refine ⟨by omega, by omega, fun h => ?_, fun h => ?_⟩
  · have ha : isPc S a := Decidable.not_not.mp (fun q => h ((pcO_ne hC).mpr q))
    rw [pcO_in hC ha]
    have op : ∀ z, (if b = 0 then S 46 a else if b = 1 then ((wl S a).length : Int) else if b = 2 then S 51 a else if b = 3 then S 52 a else if b = 4 then firstS S a else if b = 5 then famC S a else -2) = z → op_about S a b = (z, S) := fun z hz => by unfold op_about; rw [if_pos ha, hz]
    have gat : ∀ (z5 : Int) (w5 : NS) (M5 : MM), PGa S w M z5 w5 M5 → w = w5 ∧ CInv S w M5 ∧ FrC M M5 ∧ M5 (M 4 a) 8 = firstS S a ∧ M5 (M 4 a) 9 = famC S a := fun z5 w5 M5 h5 => by
      obtain ⟨p1, p2, p3, p4, p5, p6⟩ := h5.inv hI hC
      have := p6 a ha
      rw [p4] at this
      exact ⟨p1, p2, p3, this⟩
    have hP := hC.pc a ha
    have hG := hC.pg _ (hI.po a ha)
    refine ⟨fun h2 => ⟨_, cc_gather hI hC, ?_⟩, fun h2 => ⟨fun h3 => ?_, fun h3 => ⟨_, cc_gather hI hC, ?_⟩⟩⟩
    · intro z5 w5 M5 h5
      obtain ⟨p1, p2, p3, p4, p5⟩ := gat z5 w5 M5 h5
      rw [← p1]
      refine ⟨fun q => by omega, fun q => by omega, fun q => by omega, fun q => by omega, fun q => by omega, fun q => ⟨hP.2.1, pc_u (S1 := S) (op _ ?_) p2 p3⟩, fun q => by omega⟩
      rw [if_neg (by omega), if_neg (by omega), if_neg (by omega), if_neg (by omega), if_pos h2, p4]
    · refine ⟨fun q => pc_s hC (op _ ?_), fun q => ⟨hP.2.1, ?_, pc_s hC (op _ ?_)⟩, fun q => ⟨hP.2.1, pc_s hC (op _ ?_)⟩, fun q => ⟨hP.2.1, pc_s hC (op _ ?_)⟩, fun q => ⟨hP.2.1, pc_s hC (op _ ?_)⟩, fun q => by omega, fun q => by omega⟩
      · rw [if_neg (by omega), if_neg (by omega), if_neg (by omega), if_neg (by omega), if_neg (by omega), if_neg (by omega)]
      · rw [hP.2.2.2.2.1]; exact hG.2.1
      · rw [if_pos q, hP.2.2.2.2.1, hG.2.2.2.1]
      · rw [if_neg (by omega), if_pos q, hP.2.2.2.2.2.2.2.1]
      · rw [if_neg (by omega), if_neg (by omega), if_pos q, hP.2.2.2.2.2.2.1.1]
      · rw [if_neg (by omega), if_neg (by omega), if_neg (by omega), if_pos q, hP.2.2.2.2.2.2.1.2]
    · intro z5 w5 M5 h5
      obtain ⟨p1, p2, p3, p4, p5⟩ := gat z5 w5 M5 h5
      rw [← p1]
      refine ⟨fun q => by omega, fun q => by omega, fun q => by omega, fun q => by omega, fun q => by omega, fun q => by omega, fun q => ⟨hP.2.1, pc_u (S1 := S) (op _ ?_) p2 p3⟩⟩
      rw [if_neg (by omega), if_neg (by omega), if_neg (by omega), if_neg (by omega), if_neg (by omega), if_pos q, p5]
  · exact pc_s hC (by unfold op_about; rw [if_neg ((pcO_ne hC).mp (Decidable.not_not.mp h))])
