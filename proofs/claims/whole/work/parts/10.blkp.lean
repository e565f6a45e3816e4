def lstO (a : Int) : Int := if a = 2 ∨ a = 4 then 1 else 0
def grtO (a : Int) : Int := if a = 0 ∨ a = 4 then 100 else if a = 1 then 20 else 1000
def pgO (M : MM) (n : Int) : Int := if 0 ≤ n ∧ n < M 1 2 then M 3 n else 0
def pcO (M : MM) (n : Int) : Int := if 0 ≤ n ∧ n < M 1 4 then M 4 n else 0
def orO (M : MM) (n : Int) : Int := if 0 ≤ n ∧ n < M 1 7 then M 6 n else 0
def popc (a : Int) : Int := ((List.range 32).map (fun i => ((a.toNat / 2 ^ i % 2 : Nat) : Int))).sum
def A_X9_within_0 (G : GP) (X : BX) (P : Int → NS → MM → Prop) (l0 : Int) (l1 : Int) (l2 : Int) (w : NS) (M : MM) : Prop := WA true G X (QM G X true 0 P) 3 0 [(0, l0), (0, l1), (0, l2)] [] 0 0 w M
set_option maxHeartbeats 4000000 in
set_option maxRecDepth 100000 in
theorem B_X9_within_0 {G : GP} {X : BX} {P : Int → NS → MM → Prop} {l0 : Int} {l1 : Int} {l2 : Int} {w : NS} {M : MM} (C : CX_X9_within G X) (h : (((l0 < l1) → P 0 w M) ∧ ((¬ (l0 < l1)) → (((l2 < l0) → P 0 w M) ∧ ((¬ (l2 < l0)) → P 1 w M))))) : A_X9_within_0 G X P l0 l1 l2 w M := by
  unfold A_X9_within_0
  refine s_iload_n C dX9_within_0 rfl ?_
  refine s_iload_n C dX9_within_1 rfl ?_
  refine s_icmplt C dX9_within_2 rfl (fun hc => ?_) (fun hc => ?_)
  · have h := h.1 hc
    refine s_iconst C dX9_within_14 (by decide) ?_
    exact s_zreturn C dX9_within_15 (by decide) h
  · have h := h.2 hc
    refine s_iload_n C dX9_within_5 rfl ?_
    refine s_iload_n C dX9_within_6 rfl ?_
    refine s_icmpgt C dX9_within_7 rfl (fun hc => ?_) (fun hc => ?_)
    · have h := h.1 hc
      refine s_iconst C dX9_within_14 (by decide) ?_
      exact s_zreturn C dX9_within_15 (by decide) h
    · have h := h.2 hc
      refine s_iconst C dX9_within_10 (by decide) ?_
      refine s_goto C dX9_within_11 rfl ?_
      exact s_zreturn C dX9_within_15 (by decide) h
theorem E_X9_within {G : GP} {l : Launch} {P : Int → NS → MM → Prop} {l0 : Int} {l1 : Int} {l2 : Int} {w : NS} {M : MM} (h : inR l0 → inR l1 → inR l2 → ∀ X : BX, X.2.1 = l → CX_X9_within G X → A_X9_within_0 G X P l0 l1 l2 w M) : CT_X9_within G l [(0, l0), (0, l1), (0, l2)] w M P :=
  CT.of RX9 "within" (by decide +kernel) rfl rfl rfl (Nat.le_of_ble_eq_true rfl) (fun hr X hX C => h (hr (0, l0) (by simp)) (hr (0, l1) (by simp)) (hr (0, l2) (by simp)) X hX C)
theorem pc_X9_within {G : GP} {l : Launch} {w : NS} {M : MM} {a b c : Int} : CT_X9_within G l [(0, a), (0, b), (0, c)] w M (fun z w' M' => z = b2i (b ≤ a ∧ a ≤ c) ∧ w' = w ∧ M' = M) := by
  refine E_X9_within (fun _ _ _ X hX C => ?_)
  refine B_X9_within_0 C ?_
  refine ⟨?_, ?_⟩ <;> intro h1
  all_goals (try (refine ⟨?_, ?_⟩ <;> intro h2))
  all_goals (try (refine ⟨?_, ?_⟩ <;> intro h3))
  all_goals (refine ⟨?_, rfl, rfl⟩)
  all_goals (first | exact (b2i_t (by omega)).symm | exact (b2i_f (by omega)).symm)
def A_X9_isDay_0 (G : GP) (X : BX) (P : Int → NS → MM → Prop) (l0 : Int) (w : NS) (M : MM) : Prop := WA true G X (QM G X true 0 P) 1 0 [(0, l0)] [] 0 0 w M
set_option maxHeartbeats 4000000 in
set_option maxRecDepth 100000 in
theorem B_X9_isDay_0 {G : GP} {X : BX} {P : Int → NS → MM → Prop} {l0 : Int} {w : NS} {M : MM} (C : CX_X9_isDay G X) (h : P (b2i (0 ≤ l0 ∧ l0 ≤ 99)) w M) : A_X9_isDay_0 G X P l0 w M := by
  unfold A_X9_isDay_0
  refine s_iload_n C dX9_isDay_0 rfl ?_
  refine s_iconst C dX9_isDay_1 (by decide) ?_
  refine s_bipush C dX9_isDay_2 ⟨rfl, by decide, by decide⟩ ?_
  refine s_callS (av := [(0, l0), (0, 0), (0, 99)]) (rest := []) (mc := 0) (ms := 0) C dX9_isDay_4 lk_X9_95 rfl rfl (Nat.le_of_ble_eq_true rfl) (by decide) (by decide) (pc_X9_within) (fun z1 wz1 Mz1 hq => ?_)
  obtain ⟨hq1, hq2, hq3⟩ := hq
  have hq2 := hq2.symm
  have hq3 := hq3.symm
  subst hq1 hq2 hq3
  exact s_zreturn C dX9_isDay_7 (b2i_01 _) h
theorem E_X9_isDay {G : GP} {l : Launch} {P : Int → NS → MM → Prop} {l0 : Int} {w : NS} {M : MM} (h : inR l0 → ∀ X : BX, X.2.1 = l → CX_X9_isDay G X → A_X9_isDay_0 G X P l0 w M) : CT_X9_isDay G l [(0, l0)] w M P :=
  CT.of RX9 "isDay" (by decide +kernel) rfl rfl rfl (Nat.le_of_ble_eq_true rfl) (fun hr X hX C => h (hr (0, l0) (by simp)) X hX C)
theorem pc_X9_isDay {G : GP} {l : Launch} {w : NS} {M : MM} {a : Int} : CT_X9_isDay G l [(0, a)] w M (fun z w' M' => z = b2i (0 ≤ a ∧ a ≤ 99) ∧ w' = w ∧ M' = M) := by
  refine E_X9_isDay (fun _ X hX C => ?_)
  refine B_X9_isDay_0 C ?_
  exact ⟨rfl, rfl, rfl⟩
def A_X9_pageOf_0 (G : GP) (X : BX) (P : Int → NS → MM → Prop) (l1 : Int) (w : NS) (M : MM) : Prop := WA true G X (QM G X true 2 P) 2 0 [(2, 1), (0, l1)] [] 0 0 w M
set_option maxHeartbeats 4000000 in
set_option maxRecDepth 100000 in
theorem B_X9_pageOf_0 {G : GP} {X : BX} {P : Int → NS → MM → Prop} {l1 : Int} {w : NS} {M : MM} (C : CX_X9_pageOf G X) (h : (inR ((M 1 2) - 1)) ∧ (((¬ (0 ≤ l1 ∧ l1 ≤ ((M 1 2) - 1))) → P 0 w M) ∧ (((0 ≤ l1 ∧ l1 ≤ ((M 1 2) - 1))) → (0 ≤ l1) ∧ (l1 < 8) ∧ P (M 3 l1) w M))) : A_X9_pageOf_0 G X P l1 w M := by
  unfold A_X9_pageOf_0
  refine s_iload_n C dX9_pageOf_0 rfl ?_
  refine s_iconst C dX9_pageOf_1 (by decide) ?_
  refine s_aload_n C dX9_pageOf_2 rfl ?_
  refine WA.fix (fun hF1 => ?_)
  refine gf_X9_19 (v0 := (M 1 2)) C (sh_1 hF1) dX9_pageOf_3 rfl ?_
  refine s_iconst C dX9_pageOf_6 (by decide) ?_
  obtain ⟨o2, h⟩ := h
  refine s_isub C dX9_pageOf_7 o2 ?_
  refine s_callS (av := [(0, l1), (0, 0), (0, ((M 1 2) - 1))]) (rest := []) (mc := 0) (ms := 0) C dX9_pageOf_8 lk_X9_95 rfl rfl (Nat.le_of_ble_eq_true rfl) (by decide) (by decide) (pc_X9_within) (fun z3 wz3 Mz3 hq => ?_)
  obtain ⟨hq1, hq2, hq3⟩ := hq
  have hq2 := hq2.symm
  have hq3 := hq3.symm
  subst hq1 hq2 hq3
  refine s_ifeq C dX9_pageOf_11 rfl (fun hc => ?_) (fun hc => ?_)
  · have h := h.1 (b2i_0.mp hc)
    refine s_aconst C dX9_pageOf_23 ?_
    exact s_areturn C dX9_pageOf_24 h
  · have h := h.2 (b2i_n0 hc)
    refine s_aload_n C dX9_pageOf_14 rfl ?_
    refine gf_X9_15 C (sh_1 hF1) dX9_pageOf_15 (fx_1_1 hF1) ?_
    refine s_iload_n C dX9_pageOf_18 rfl ?_
    obtain ⟨o4, h⟩ := h
    obtain ⟨o5, h⟩ := h
    refine s_aald (v0 := (M 3 l1)) (t0 := 5) C (sh_3 hF1) (by decide) rfl o4 o5 dX9_pageOf_19 rfl ?_
    refine s_goto C dX9_pageOf_20 rfl ?_
    exact s_areturn C dX9_pageOf_24 h
theorem E_X9_pageOf {G : GP} {l : Launch} {P : Int → NS → MM → Prop} {l1 : Int} {w : NS} {M : MM} (h : inR l1 → ∀ X : BX, X.2.1 = l → CX_X9_pageOf G X → A_X9_pageOf_0 G X P l1 w M) : CT_X9_pageOf G l [(2, 1), (0, l1)] w M P :=
  CT.of RX9 "pageOf" (by decide +kernel) rfl rfl rfl (Nat.le_of_ble_eq_true rfl) (fun hr X hX C => h (hr (0, l1) (by simp)) X hX C)
theorem pc_X9_pageOf {G : GP} {l : Launch} {w : NS} {M : MM} {a : Int} (h0 : 0 ≤ M 1 2) (h1 : M 1 2 ≤ 8) : CT_X9_pageOf G l [(2, 1), (0, a)] w M (fun z w' M' => z = pgO M a ∧ w' = w ∧ M' = M) := by
  refine E_X9_pageOf (fun _ X hX C => ?_)
  refine B_X9_pageOf_0 C ⟨by omega, fun h2 => ⟨?_, rfl, rfl⟩, fun h2 => ⟨by omega, by omega, ?_, rfl, rfl⟩⟩
  · unfold pgO; rw [if_neg (by omega)]
  · unfold pgO; rw [if_pos (by omega)]
def A_X9_isWordOrNone_0 (G : GP) (X : BX) (P : Int → NS → MM → Prop) (l0 : Int) (w : NS) (M : MM) : Prop := WA true G X (QM G X true 0 P) 1 0 [(0, l0)] [] 0 0 w M
set_option maxHeartbeats 4000000 in
set_option maxRecDepth 100000 in
theorem B_X9_isWordOrNone_0 {G : GP} {X : BX} {P : Int → NS → MM → Prop} {l0 : Int} {w : NS} {M : MM} (C : CX_X9_isWordOrNone G X) (h : P (b2i ((-1) ≤ l0 ∧ l0 ≤ 99)) w M) : A_X9_isWordOrNone_0 G X P l0 w M := by
  unfold A_X9_isWordOrNone_0
  refine s_iload_n C dX9_isWordOrNone_0 rfl ?_
  refine s_iconst C dX9_isWordOrNone_1 (by decide) ?_
  refine s_bipush C dX9_isWordOrNone_2 ⟨rfl, by decide, by decide⟩ ?_
  refine s_callS (av := [(0, l0), (0, (-1)), (0, 99)]) (rest := []) (mc := 0) (ms := 0) C dX9_isWordOrNone_4 lk_X9_95 rfl rfl (Nat.le_of_ble_eq_true rfl) (by decide) (by decide) (pc_X9_within) (fun z1 wz1 Mz1 hq => ?_)
  obtain ⟨hq1, hq2, hq3⟩ := hq
  have hq2 := hq2.symm
  have hq3 := hq3.symm
  subst hq1 hq2 hq3
  exact s_zreturn C dX9_isWordOrNone_7 (b2i_01 _) h
theorem E_X9_isWordOrNone {G : GP} {l : Launch} {P : Int → NS → MM → Prop} {l0 : Int} {w : NS} {M : MM} (h : inR l0 → ∀ X : BX, X.2.1 = l → CX_X9_isWordOrNone G X → A_X9_isWordOrNone_0 G X P l0 w M) : CT_X9_isWordOrNone G l [(0, l0)] w M P :=
  CT.of RX9 "isWordOrNone" (by decide +kernel) rfl rfl rfl (Nat.le_of_ble_eq_true rfl) (fun hr X hX C => h (hr (0, l0) (by simp)) X hX C)
theorem pc_X9_isWordOrNone {G : GP} {l : Launch} {w : NS} {M : MM} {a : Int} : CT_X9_isWordOrNone G l [(0, a)] w M (fun z w' M' => z = b2i (-1 ≤ a ∧ a ≤ 99) ∧ w' = w ∧ M' = M) := by
  refine E_X9_isWordOrNone (fun _ X hX C => ?_)
  refine B_X9_isWordOrNone_0 C ?_
  exact ⟨rfl, rfl, rfl⟩
def A_X9_isRange_0 (G : GP) (X : BX) (P : Int → NS → MM → Prop) (l0 : Int) (l1 : Int) (l2 : Int) (w : NS) (M : MM) : Prop := WA true G X (QM G X true 0 P) 3 0 [(0, l0), (0, l1), (0, l2)] [] 0 0 w M
set_option maxHeartbeats 4000000 in
set_option maxRecDepth 100000 in
theorem B_X9_isRange_0 {G : GP} {X : BX} {P : Int → NS → MM → Prop} {l0 : Int} {l1 : Int} {l2 : Int} {w : NS} {M : MM} (C : CX_X9_isRange G X) (h : (((l0 < 0) → P 0 w M) ∧ ((¬ (l0 < 0)) → (((l1 < l0) → P 0 w M) ∧ ((¬ (l1 < l0)) → (((l2 ≤ l1) → P 0 w M) ∧ ((¬ (l2 ≤ l1)) → P 1 w M))))))) : A_X9_isRange_0 G X P l0 l1 l2 w M := by
  unfold A_X9_isRange_0
  refine s_iload_n C dX9_isRange_0 rfl ?_
  refine s_iflt C dX9_isRange_1 rfl (fun hc => ?_) (fun hc => ?_)
  · have h := h.1 hc
    refine s_iconst C dX9_isRange_18 (by decide) ?_
    exact s_zreturn C dX9_isRange_19 (by decide) h
  · have h := h.2 hc
    refine s_iload_n C dX9_isRange_4 rfl ?_
    refine s_iload_n C dX9_isRange_5 rfl ?_
    refine s_icmpgt C dX9_isRange_6 rfl (fun hc => ?_) (fun hc => ?_)
    · have h := h.1 hc
      refine s_iconst C dX9_isRange_18 (by decide) ?_
      exact s_zreturn C dX9_isRange_19 (by decide) h
    · have h := h.2 hc
      refine s_iload_n C dX9_isRange_9 rfl ?_
      refine s_iload_n C dX9_isRange_10 rfl ?_
      refine s_icmpge C dX9_isRange_11 rfl (fun hc => ?_) (fun hc => ?_)
      · have h := h.1 hc
        refine s_iconst C dX9_isRange_18 (by decide) ?_
        exact s_zreturn C dX9_isRange_19 (by decide) h
      · have h := h.2 hc
        refine s_iconst C dX9_isRange_14 (by decide) ?_
        refine s_goto C dX9_isRange_15 rfl ?_
        exact s_zreturn C dX9_isRange_19 (by decide) h
theorem E_X9_isRange {G : GP} {l : Launch} {P : Int → NS → MM → Prop} {l0 : Int} {l1 : Int} {l2 : Int} {w : NS} {M : MM} (h : inR l0 → inR l1 → inR l2 → ∀ X : BX, X.2.1 = l → CX_X9_isRange G X → A_X9_isRange_0 G X P l0 l1 l2 w M) : CT_X9_isRange G l [(0, l0), (0, l1), (0, l2)] w M P :=
  CT.of RX9 "isRange" (by decide +kernel) rfl rfl rfl (Nat.le_of_ble_eq_true rfl) (fun hr X hX C => h (hr (0, l0) (by simp)) (hr (0, l1) (by simp)) (hr (0, l2) (by simp)) X hX C)
theorem pc_X9_isRange {G : GP} {l : Launch} {w : NS} {M : MM} {a b c : Int} : CT_X9_isRange G l [(0, a), (0, b), (0, c)] w M (fun z w' M' => z = b2i (0 ≤ a ∧ a ≤ b ∧ b < c) ∧ w' = w ∧ M' = M) := by
  refine E_X9_isRange (fun _ _ _ X hX C => ?_)
  refine B_X9_isRange_0 C ?_
  refine ⟨?_, ?_⟩ <;> intro h1
  all_goals (try (refine ⟨?_, ?_⟩ <;> intro h2))
  all_goals (try (refine ⟨?_, ?_⟩ <;> intro h3))
  all_goals (refine ⟨?_, rfl, rfl⟩)
  all_goals (first | exact (b2i_t (by omega)).symm | exact (b2i_f (by omega)).symm)
def A_X9_pieceOf_0 (G : GP) (X : BX) (P : Int → NS → MM → Prop) (l1 : Int) (w : NS) (M : MM) : Prop := WA true G X (QM G X true 2 P) 2 0 [(2, 1), (0, l1)] [] 0 0 w M
set_option maxHeartbeats 4000000 in
set_option maxRecDepth 100000 in
theorem B_X9_pieceOf_0 {G : GP} {X : BX} {P : Int → NS → MM → Prop} {l1 : Int} {w : NS} {M : MM} (C : CX_X9_pieceOf G X) (h : (inR ((M 1 4) - 1)) ∧ (((¬ (0 ≤ l1 ∧ l1 ≤ ((M 1 4) - 1))) → P 0 w M) ∧ (((0 ≤ l1 ∧ l1 ≤ ((M 1 4) - 1))) → (0 ≤ l1) ∧ (l1 < 24) ∧ P (M 4 l1) w M))) : A_X9_pieceOf_0 G X P l1 w M := by
  unfold A_X9_pieceOf_0
  refine s_iload_n C dX9_pieceOf_0 rfl ?_
  refine s_iconst C dX9_pieceOf_1 (by decide) ?_
  refine s_aload_n C dX9_pieceOf_2 rfl ?_
  refine WA.fix (fun hF1 => ?_)
  refine gf_X9_29 (v0 := (M 1 4)) C (sh_1 hF1) dX9_pieceOf_3 rfl ?_
  refine s_iconst C dX9_pieceOf_6 (by decide) ?_
  obtain ⟨o2, h⟩ := h
  refine s_isub C dX9_pieceOf_7 o2 ?_
  refine s_callS (av := [(0, l1), (0, 0), (0, ((M 1 4) - 1))]) (rest := []) (mc := 0) (ms := 0) C dX9_pieceOf_8 lk_X9_95 rfl rfl (Nat.le_of_ble_eq_true rfl) (by decide) (by decide) (pc_X9_within) (fun z3 wz3 Mz3 hq => ?_)
  obtain ⟨hq1, hq2, hq3⟩ := hq
  have hq2 := hq2.symm
  have hq3 := hq3.symm
  subst hq1 hq2 hq3
  refine s_ifeq C dX9_pieceOf_11 rfl (fun hc => ?_) (fun hc => ?_)
  · have h := h.1 (b2i_0.mp hc)
    refine s_aconst C dX9_pieceOf_23 ?_
    exact s_areturn C dX9_pieceOf_24 h
  · have h := h.2 (b2i_n0 hc)
    refine s_aload_n C dX9_pieceOf_14 rfl ?_
    refine gf_X9_25 C (sh_1 hF1) dX9_pieceOf_15 (fx_1_3 hF1) ?_
    refine s_iload_n C dX9_pieceOf_18 rfl ?_
    obtain ⟨o4, h⟩ := h
    obtain ⟨o5, h⟩ := h
    refine s_aald (v0 := (M 4 l1)) (t0 := 6) C (sh_4 hF1) (by decide) rfl o4 o5 dX9_pieceOf_19 rfl ?_
    refine s_goto C dX9_pieceOf_20 rfl ?_
    exact s_areturn C dX9_pieceOf_24 h
theorem E_X9_pieceOf {G : GP} {l : Launch} {P : Int → NS → MM → Prop} {l1 : Int} {w : NS} {M : MM} (h : inR l1 → ∀ X : BX, X.2.1 = l → CX_X9_pieceOf G X → A_X9_pieceOf_0 G X P l1 w M) : CT_X9_pieceOf G l [(2, 1), (0, l1)] w M P :=
  CT.of RX9 "pieceOf" (by decide +kernel) rfl rfl rfl (Nat.le_of_ble_eq_true rfl) (fun hr X hX C => h (hr (0, l1) (by simp)) X hX C)
theorem pc_X9_pieceOf {G : GP} {l : Launch} {w : NS} {M : MM} {a : Int} (h0 : 0 ≤ M 1 4) (h1 : M 1 4 ≤ 24) : CT_X9_pieceOf G l [(2, 1), (0, a)] w M (fun z w' M' => z = pcO M a ∧ w' = w ∧ M' = M) := by
  refine E_X9_pieceOf (fun _ X hX C => ?_)
  refine B_X9_pieceOf_0 C ⟨by omega, fun h2 => ⟨?_, rfl, rfl⟩, fun h2 => ⟨by omega, by omega, ?_, rfl, rfl⟩⟩
  · unfold pcO; rw [if_neg (by omega)]
  · unfold pcO; rw [if_pos (by omega)]
def A_X9_oneIf_0 (G : GP) (X : BX) (P : Int → NS → MM → Prop) (l0 : Int) (w : NS) (M : MM) : Prop := WA true G X (QM G X true 0 P) 1 0 [(0, l0)] [] 0 0 w M
set_option maxHeartbeats 4000000 in
set_option maxRecDepth 100000 in
theorem B_X9_oneIf_0 {G : GP} {X : BX} {P : Int → NS → MM → Prop} {l0 : Int} {w : NS} {M : MM} (C : CX_X9_oneIf G X) (h : (((l0 = 0) → P 0 w M) ∧ ((¬ (l0 = 0)) → P 1 w M))) : A_X9_oneIf_0 G X P l0 w M := by
  unfold A_X9_oneIf_0
  refine s_iload_n C dX9_oneIf_0 rfl ?_
  refine s_ifeq C dX9_oneIf_1 rfl (fun hc => ?_) (fun hc => ?_)
  · have h := h.1 hc
    refine s_iconst C dX9_oneIf_8 (by decide) ?_
    exact s_ireturn C dX9_oneIf_9 h
  · have h := h.2 hc
    refine s_iconst C dX9_oneIf_4 (by decide) ?_
    refine s_goto C dX9_oneIf_5 rfl ?_
    exact s_ireturn C dX9_oneIf_9 h
theorem E_X9_oneIf {G : GP} {l : Launch} {P : Int → NS → MM → Prop} {l0 : Int} {w : NS} {M : MM} (h : inR l0 → ∀ X : BX, X.2.1 = l → CX_X9_oneIf G X → A_X9_oneIf_0 G X P l0 w M) : CT_X9_oneIf G l [(0, l0)] w M P :=
  CT.of RX9 "oneIf" (by decide +kernel) rfl rfl rfl (Nat.le_of_ble_eq_true rfl) (fun hr X hX C => h (hr (0, l0) (by simp)) X hX C)
theorem pc_X9_oneIf {G : GP} {l : Launch} {w : NS} {M : MM} {a : Int} : CT_X9_oneIf G l [(0, a)] w M (fun z w' M' => z = b2i (a ≠ 0) ∧ w' = w ∧ M' = M) := by
  refine E_X9_oneIf (fun _ X hX C => ?_)
  refine B_X9_oneIf_0 C ?_
  refine ⟨?_, ?_⟩ <;> intro h1 <;> refine ⟨?_, rfl, rfl⟩
  all_goals (first | exact (b2i_t (by omega)).symm | exact (b2i_f (by omega)).symm)
theorem pc_X9_oneIf' {G : GP} {l : Launch} {w : NS} {M : MM} {c : Prop} [Decidable c] : CT_X9_oneIf G l [(0, b2i c)] w M (fun z w' M' => z = b2i c ∧ w' = w ∧ M' = M) := by
  refine E_X9_oneIf (fun _ X hX C => ?_)
  refine B_X9_oneIf_0 C ?_
  refine ⟨?_, ?_⟩ <;> intro h1 <;> refine ⟨?_, rfl, rfl⟩
  all_goals (first | exact (b2i_t (b2i_n0 (by omega))).symm | exact (b2i_f (b2i_0.mp (by omega))).symm)
def A_X9_isClient_0 (G : GP) (X : BX) (P : Int → NS → MM → Prop) (l0 : Int) (w : NS) (M : MM) : Prop := WA true G X (QM G X true 0 P) 1 0 [(0, l0)] [] 0 0 w M
set_option maxHeartbeats 4000000 in
set_option maxRecDepth 100000 in
theorem B_X9_isClient_0 {G : GP} {X : BX} {P : Int → NS → MM → Prop} {l0 : Int} {w : NS} {M : MM} (C : CX_X9_isClient G X) (h : P (b2i (0 ≤ l0 ∧ l0 ≤ 5)) w M) : A_X9_isClient_0 G X P l0 w M := by
  unfold A_X9_isClient_0
  refine s_iload_n C dX9_isClient_0 rfl ?_
  refine s_iconst C dX9_isClient_1 (by decide) ?_
  refine s_iconst C dX9_isClient_2 (by decide) ?_
  refine s_callS (av := [(0, l0), (0, 0), (0, 5)]) (rest := []) (mc := 0) (ms := 0) C dX9_isClient_3 lk_X9_95 rfl rfl (Nat.le_of_ble_eq_true rfl) (by decide) (by decide) (pc_X9_within) (fun z1 wz1 Mz1 hq => ?_)
  obtain ⟨hq1, hq2, hq3⟩ := hq
  have hq2 := hq2.symm
  have hq3 := hq3.symm
  subst hq1 hq2 hq3
  exact s_zreturn C dX9_isClient_6 (b2i_01 _) h
theorem E_X9_isClient {G : GP} {l : Launch} {P : Int → NS → MM → Prop} {l0 : Int} {w : NS} {M : MM} (h : inR l0 → ∀ X : BX, X.2.1 = l → CX_X9_isClient G X → A_X9_isClient_0 G X P l0 w M) : CT_X9_isClient G l [(0, l0)] w M P :=
  CT.of RX9 "isClient" (by decide +kernel) rfl rfl rfl (Nat.le_of_ble_eq_true rfl) (fun hr X hX C => h (hr (0, l0) (by simp)) X hX C)
theorem pc_X9_isClient {G : GP} {l : Launch} {w : NS} {M : MM} {a : Int} : CT_X9_isClient G l [(0, a)] w M (fun z w' M' => z = b2i (0 ≤ a ∧ a ≤ 5) ∧ w' = w ∧ M' = M) := by
  refine E_X9_isClient (fun _ X hX C => ?_)
  refine B_X9_isClient_0 C ?_
  exact ⟨rfl, rfl, rfl⟩
def A_X9_orderOf_0 (G : GP) (X : BX) (P : Int → NS → MM → Prop) (l1 : Int) (w : NS) (M : MM) : Prop := WA true G X (QM G X true 2 P) 2 0 [(2, 1), (0, l1)] [] 0 0 w M
set_option maxHeartbeats 4000000 in
set_option maxRecDepth 100000 in
theorem B_X9_orderOf_0 {G : GP} {X : BX} {P : Int → NS → MM → Prop} {l1 : Int} {w : NS} {M : MM} (C : CX_X9_orderOf G X) (h : (inR ((M 1 7) - 1)) ∧ (((¬ (0 ≤ l1 ∧ l1 ≤ ((M 1 7) - 1))) → P 0 w M) ∧ (((0 ≤ l1 ∧ l1 ≤ ((M 1 7) - 1))) → (0 ≤ l1) ∧ (l1 < 10) ∧ P (M 6 l1) w M))) : A_X9_orderOf_0 G X P l1 w M := by
  unfold A_X9_orderOf_0
  refine s_iload_n C dX9_orderOf_0 rfl ?_
  refine s_iconst C dX9_orderOf_1 (by decide) ?_
  refine s_aload_n C dX9_orderOf_2 rfl ?_
  refine WA.fix (fun hF1 => ?_)
  refine gf_X9_41 (v0 := (M 1 7)) C (sh_1 hF1) dX9_orderOf_3 rfl ?_
  refine s_iconst C dX9_orderOf_6 (by decide) ?_
  obtain ⟨o2, h⟩ := h
  refine s_isub C dX9_orderOf_7 o2 ?_
  refine s_callS (av := [(0, l1), (0, 0), (0, ((M 1 7) - 1))]) (rest := []) (mc := 0) (ms := 0) C dX9_orderOf_8 lk_X9_95 rfl rfl (Nat.le_of_ble_eq_true rfl) (by decide) (by decide) (pc_X9_within) (fun z3 wz3 Mz3 hq => ?_)
  obtain ⟨hq1, hq2, hq3⟩ := hq
  have hq2 := hq2.symm
  have hq3 := hq3.symm
  subst hq1 hq2 hq3
  refine s_ifeq C dX9_orderOf_11 rfl (fun hc => ?_) (fun hc => ?_)
  · have h := h.1 (b2i_0.mp hc)
    refine s_aconst C dX9_orderOf_23 ?_
    exact s_areturn C dX9_orderOf_24 h
  · have h := h.2 (b2i_n0 hc)
    refine s_aload_n C dX9_orderOf_14 rfl ?_
    refine gf_X9_37 C (sh_1 hF1) dX9_orderOf_15 (fx_1_6 hF1) ?_
    refine s_iload_n C dX9_orderOf_18 rfl ?_
    obtain ⟨o4, h⟩ := h
    obtain ⟨o5, h⟩ := h
    refine s_aald (v0 := (M 6 l1)) (t0 := 4) C (sh_6 hF1) (by decide) rfl o4 o5 dX9_orderOf_19 rfl ?_
    refine s_goto C dX9_orderOf_20 rfl ?_
    exact s_areturn C dX9_orderOf_24 h
theorem E_X9_orderOf {G : GP} {l : Launch} {P : Int → NS → MM → Prop} {l1 : Int} {w : NS} {M : MM} (h : inR l1 → ∀ X : BX, X.2.1 = l → CX_X9_orderOf G X → A_X9_orderOf_0 G X P l1 w M) : CT_X9_orderOf G l [(2, 1), (0, l1)] w M P :=
  CT.of RX9 "orderOf" (by decide +kernel) rfl rfl rfl (Nat.le_of_ble_eq_true rfl) (fun hr X hX C => h (hr (0, l1) (by simp)) X hX C)
theorem pc_X9_orderOf {G : GP} {l : Launch} {w : NS} {M : MM} {a : Int} (h0 : 0 ≤ M 1 7) (h1 : M 1 7 ≤ 10) : CT_X9_orderOf G l [(2, 1), (0, a)] w M (fun z w' M' => z = orO M a ∧ w' = w ∧ M' = M) := by
  refine E_X9_orderOf (fun _ X hX C => ?_)
  refine B_X9_orderOf_0 C ⟨by omega, fun h2 => ⟨?_, rfl, rfl⟩, fun h2 => ⟨by omega, by omega, ?_, rfl, rfl⟩⟩
  · unfold orO; rw [if_neg (by omega)]
  · unfold orO; rw [if_pos (by omega)]
def A_X9_hasBit_0 (G : GP) (X : BX) (P : Int → NS → MM → Prop) (l0 : Int) (l1 : Int) (w : NS) (M : MM) : Prop := WA true G X (QM G X true 0 P) 2 0 [(0, l0), (0, l1)] [] 0 0 w M
set_option maxHeartbeats 4000000 in
set_option maxRecDepth 100000 in
theorem B_X9_hasBit_0 {G : GP} {X : BX} {P : Int → NS → MM → Prop} {l0 : Int} {l1 : Int} {w : NS} {M : MM} (C : CX_X9_hasBit G X) (h : ((((zand (zshr l0 l1) 1) ≠ 1) → P 0 w M) ∧ ((¬ ((zand (zshr l0 l1) 1) ≠ 1)) → P 1 w M))) : A_X9_hasBit_0 G X P l0 l1 w M := by
  unfold A_X9_hasBit_0
  refine s_iload_n C dX9_hasBit_0 rfl ?_
  refine s_iload_n C dX9_hasBit_1 rfl ?_
  refine s_ishr C dX9_hasBit_2 ?_
  refine s_iconst C dX9_hasBit_3 (by decide) ?_
  refine s_iand C dX9_hasBit_4 ?_
  refine s_iconst C dX9_hasBit_5 (by decide) ?_
  refine s_icmpne C dX9_hasBit_6 rfl (fun hc => ?_) (fun hc => ?_)
  · have h := h.1 hc
    refine s_iconst C dX9_hasBit_13 (by decide) ?_
    exact s_zreturn C dX9_hasBit_14 (by decide) h
  · have h := h.2 hc
    refine s_iconst C dX9_hasBit_9 (by decide) ?_
    refine s_goto C dX9_hasBit_10 rfl ?_
    exact s_zreturn C dX9_hasBit_14 (by decide) h
theorem E_X9_hasBit {G : GP} {l : Launch} {P : Int → NS → MM → Prop} {l0 : Int} {l1 : Int} {w : NS} {M : MM} (h : inR l0 → inR l1 → ∀ X : BX, X.2.1 = l → CX_X9_hasBit G X → A_X9_hasBit_0 G X P l0 l1 w M) : CT_X9_hasBit G l [(0, l0), (0, l1)] w M P :=
  CT.of RX9 "hasBit" (by decide +kernel) rfl rfl rfl (Nat.le_of_ble_eq_true rfl) (fun hr X hX C => h (hr (0, l0) (by simp)) (hr (0, l1) (by simp)) X hX C)
theorem pc_X9_hasBit {G : GP} {l : Launch} {w : NS} {M : MM} {a b : Int} : CT_X9_hasBit G l [(0, a), (0, b)] w M (fun z w' M' => z = b2i (zand (zshr a b) 1 = 1) ∧ w' = w ∧ M' = M) := by
  refine E_X9_hasBit (fun _ _ X hX C => ?_)
  refine B_X9_hasBit_0 C ?_
  refine ⟨?_, ?_⟩ <;> intro h1 <;> refine ⟨?_, rfl, rfl⟩
  all_goals (first | exact (b2i_t (Decidable.not_not.mp h1)).symm | exact (b2i_f h1).symm)
def A_X9_isName_0 (G : GP) (X : BX) (P : Int → NS → MM → Prop) (l0 : Int) (w : NS) (M : MM) : Prop := WA true G X (QM G X true 0 P) 1 0 [(0, l0)] [] 0 0 w M
set_option maxHeartbeats 4000000 in
set_option maxRecDepth 100000 in
theorem B_X9_isName_0 {G : GP} {X : BX} {P : Int → NS → MM → Prop} {l0 : Int} {w : NS} {M : MM} (C : CX_X9_isName G X) (h : P (b2i (0 ≤ l0 ∧ l0 ≤ 3)) w M) : A_X9_isName_0 G X P l0 w M := by
  unfold A_X9_isName_0
  refine s_iload_n C dX9_isName_0 rfl ?_
  refine s_iconst C dX9_isName_1 (by decide) ?_
  refine s_iconst C dX9_isName_2 (by decide) ?_
  refine s_callS (av := [(0, l0), (0, 0), (0, 3)]) (rest := []) (mc := 0) (ms := 0) C dX9_isName_3 lk_X9_95 rfl rfl (Nat.le_of_ble_eq_true rfl) (by decide) (by decide) (pc_X9_within) (fun z1 wz1 Mz1 hq => ?_)
  obtain ⟨hq1, hq2, hq3⟩ := hq
  have hq2 := hq2.symm
  have hq3 := hq3.symm
  subst hq1 hq2 hq3
  exact s_zreturn C dX9_isName_6 (b2i_01 _) h
theorem E_X9_isName {G : GP} {l : Launch} {P : Int → NS → MM → Prop} {l0 : Int} {w : NS} {M : MM} (h : inR l0 → ∀ X : BX, X.2.1 = l → CX_X9_isName G X → A_X9_isName_0 G X P l0 w M) : CT_X9_isName G l [(0, l0)] w M P :=
  CT.of RX9 "isName" (by decide +kernel) rfl rfl rfl (Nat.le_of_ble_eq_true rfl) (fun hr X hX C => h (hr (0, l0) (by simp)) X hX C)
theorem pc_X9_isName {G : GP} {l : Launch} {w : NS} {M : MM} {a : Int} : CT_X9_isName G l [(0, a)] w M (fun z w' M' => z = b2i (0 ≤ a ∧ a ≤ 3) ∧ w' = w ∧ M' = M) := by
  refine E_X9_isName (fun _ X hX C => ?_)
  refine B_X9_isName_0 C ?_
  exact ⟨rfl, rfl, rfl⟩
def A_J6_bitCount_0f7a4_0 (G : GP) (X : BX) (P : Int → NS → MM → Prop) (l0 : Int) (w : NS) (M : MM) : Prop := WA true G X (QM G X true 0 P) 1 0 [(0, l0)] [] 0 0 w M
set_option maxHeartbeats 4000000 in
set_option maxRecDepth 100000 in
theorem B_J6_bitCount_0f7a4_0 {G : GP} {X : BX} {P : Int → NS → MM → Prop} {l0 : Int} {w : NS} {M : MM} (C : CX_J6_bitCount_0f7a4 G X) (h : (inR (l0 - (zand (zushr l0 1) 1431655765))) ∧ (inR ((zand (l0 - (zand (zushr l0 1) 1431655765)) 858993459) + (zand (zushr (l0 - (zand (zushr l0 1) 1431655765)) 2) 858993459))) ∧ (inR (((zand (l0 - (zand (zushr l0 1) 1431655765)) 858993459) + (zand (zushr (l0 - (zand (zushr l0 1) 1431655765)) 2) 858993459)) + (zushr ((zand (l0 - (zand (zushr l0 1) 1431655765)) 858993459) + (zand (zushr (l0 - (zand (zushr l0 1) 1431655765)) 2) 858993459)) 4))) ∧ (inR ((zand (((zand (l0 - (zand (zushr l0 1) 1431655765)) 858993459) + (zand (zushr (l0 - (zand (zushr l0 1) 1431655765)) 2) 858993459)) + (zushr ((zand (l0 - (zand (zushr l0 1) 1431655765)) 858993459) + (zand (zushr (l0 - (zand (zushr l0 1) 1431655765)) 2) 858993459)) 4)) 252645135) + (zushr (zand (((zand (l0 - (zand (zushr l0 1) 1431655765)) 858993459) + (zand (zushr (l0 - (zand (zushr l0 1) 1431655765)) 2) 858993459)) + (zushr ((zand (l0 - (zand (zushr l0 1) 1431655765)) 858993459) + (zand (zushr (l0 - (zand (zushr l0 1) 1431655765)) 2) 858993459)) 4)) 252645135) 8))) ∧ (inR (((zand (((zand (l0 - (zand (zushr l0 1) 1431655765)) 858993459) + (zand (zushr (l0 - (zand (zushr l0 1) 1431655765)) 2) 858993459)) + (zushr ((zand (l0 - (zand (zushr l0 1) 1431655765)) 858993459) + (zand (zushr (l0 - (zand (zushr l0 1) 1431655765)) 2) 858993459)) 4)) 252645135) + (zushr (zand (((zand (l0 - (zand (zushr l0 1) 1431655765)) 858993459) + (zand (zushr (l0 - (zand (zushr l0 1) 1431655765)) 2) 858993459)) + (zushr ((zand (l0 - (zand (zushr l0 1) 1431655765)) 858993459) + (zand (zushr (l0 - (zand (zushr l0 1) 1431655765)) 2) 858993459)) 4)) 252645135) 8)) + (zushr ((zand (((zand (l0 - (zand (zushr l0 1) 1431655765)) 858993459) + (zand (zushr (l0 - (zand (zushr l0 1) 1431655765)) 2) 858993459)) + (zushr ((zand (l0 - (zand (zushr l0 1) 1431655765)) 858993459) + (zand (zushr (l0 - (zand (zushr l0 1) 1431655765)) 2) 858993459)) 4)) 252645135) + (zushr (zand (((zand (l0 - (zand (zushr l0 1) 1431655765)) 858993459) + (zand (zushr (l0 - (zand (zushr l0 1) 1431655765)) 2) 858993459)) + (zushr ((zand (l0 - (zand (zushr l0 1) 1431655765)) 858993459) + (zand (zushr (l0 - (zand (zushr l0 1) 1431655765)) 2) 858993459)) 4)) 252645135) 8)) 16))) ∧ P (zand (((zand (((zand (l0 - (zand (zushr l0 1) 1431655765)) 858993459) + (zand (zushr (l0 - (zand (zushr l0 1) 1431655765)) 2) 858993459)) + (zushr ((zand (l0 - (zand (zushr l0 1) 1431655765)) 858993459) + (zand (zushr (l0 - (zand (zushr l0 1) 1431655765)) 2) 858993459)) 4)) 252645135) + (zushr (zand (((zand (l0 - (zand (zushr l0 1) 1431655765)) 858993459) + (zand (zushr (l0 - (zand (zushr l0 1) 1431655765)) 2) 858993459)) + (zushr ((zand (l0 - (zand (zushr l0 1) 1431655765)) 858993459) + (zand (zushr (l0 - (zand (zushr l0 1) 1431655765)) 2) 858993459)) 4)) 252645135) 8)) + (zushr ((zand (((zand (l0 - (zand (zushr l0 1) 1431655765)) 858993459) + (zand (zushr (l0 - (zand (zushr l0 1) 1431655765)) 2) 858993459)) + (zushr ((zand (l0 - (zand (zushr l0 1) 1431655765)) 858993459) + (zand (zushr (l0 - (zand (zushr l0 1) 1431655765)) 2) 858993459)) 4)) 252645135) + (zushr (zand (((zand (l0 - (zand (zushr l0 1) 1431655765)) 858993459) + (zand (zushr (l0 - (zand (zushr l0 1) 1431655765)) 2) 858993459)) + (zushr ((zand (l0 - (zand (zushr l0 1) 1431655765)) 858993459) + (zand (zushr (l0 - (zand (zushr l0 1) 1431655765)) 2) 858993459)) 4)) 252645135) 8)) 16)) 63) w M) : A_J6_bitCount_0f7a4_0 G X P l0 w M := by
  unfold A_J6_bitCount_0f7a4_0
  refine s_iload_n C dJ6_bitCount_0f7a4_0 rfl ?_
  refine s_iload_n C dJ6_bitCount_0f7a4_1 rfl ?_
  refine s_iconst C dJ6_bitCount_0f7a4_2 (by decide) ?_
  refine s_iushr C dJ6_bitCount_0f7a4_3 ?_
  refine s_ldcw (z := 1431655765) C dJ6_bitCount_0f7a4_4 (mG (wd_658) rfl) ⟨rfl, by decide⟩ ?_
  refine s_iand C dJ6_bitCount_0f7a4_7 ?_
  obtain ⟨o1, h⟩ := h
  refine s_isub C dJ6_bitCount_0f7a4_8 o1 ?_
  refine s_istore_n (ls' := [(0, (l0 - (zand (zushr l0 1) 1431655765)))]) C dJ6_bitCount_0f7a4_9 (by decide) rfl rfl ?_
  refine s_iload_n C dJ6_bitCount_0f7a4_10 rfl ?_
  refine s_ldcw (z := 858993459) C dJ6_bitCount_0f7a4_11 (mG (wd_659) rfl) ⟨rfl, by decide⟩ ?_
  refine s_iand C dJ6_bitCount_0f7a4_14 ?_
  refine s_iload_n C dJ6_bitCount_0f7a4_15 rfl ?_
  refine s_iconst C dJ6_bitCount_0f7a4_16 (by decide) ?_
  refine s_iushr C dJ6_bitCount_0f7a4_17 ?_
  refine s_ldcw (z := 858993459) C dJ6_bitCount_0f7a4_18 (mG (wd_659) rfl) ⟨rfl, by decide⟩ ?_
  refine s_iand C dJ6_bitCount_0f7a4_21 ?_
  obtain ⟨o2, h⟩ := h
  refine s_iadd C dJ6_bitCount_0f7a4_22 o2 ?_
  refine s_istore_n (ls' := [(0, ((zand (l0 - (zand (zushr l0 1) 1431655765)) 858993459) + (zand (zushr (l0 - (zand (zushr l0 1) 1431655765)) 2) 858993459)))]) C dJ6_bitCount_0f7a4_23 (by decide) rfl rfl ?_
  refine s_iload_n C dJ6_bitCount_0f7a4_24 rfl ?_
  refine s_iload_n C dJ6_bitCount_0f7a4_25 rfl ?_
  refine s_iconst C dJ6_bitCount_0f7a4_26 (by decide) ?_
  refine s_iushr C dJ6_bitCount_0f7a4_27 ?_
  obtain ⟨o3, h⟩ := h
  refine s_iadd C dJ6_bitCount_0f7a4_28 o3 ?_
  refine s_ldcw (z := 252645135) C dJ6_bitCount_0f7a4_29 (mG (wd_660) rfl) ⟨rfl, by decide⟩ ?_
  refine s_iand C dJ6_bitCount_0f7a4_32 ?_
  refine s_istore_n (ls' := [(0, (zand (((zand (l0 - (zand (zushr l0 1) 1431655765)) 858993459) + (zand (zushr (l0 - (zand (zushr l0 1) 1431655765)) 2) 858993459)) + (zushr ((zand (l0 - (zand (zushr l0 1) 1431655765)) 858993459) + (zand (zushr (l0 - (zand (zushr l0 1) 1431655765)) 2) 858993459)) 4)) 252645135))]) C dJ6_bitCount_0f7a4_33 (by decide) rfl rfl ?_
  refine s_iload_n C dJ6_bitCount_0f7a4_34 rfl ?_
  refine s_iload_n C dJ6_bitCount_0f7a4_35 rfl ?_
  refine s_bipush C dJ6_bitCount_0f7a4_36 ⟨rfl, by decide, by decide⟩ ?_
  refine s_iushr C dJ6_bitCount_0f7a4_38 ?_
  obtain ⟨o4, h⟩ := h
  refine s_iadd C dJ6_bitCount_0f7a4_39 o4 ?_
  refine s_istore_n (ls' := [(0, ((zand (((zand (l0 - (zand (zushr l0 1) 1431655765)) 858993459) + (zand (zushr (l0 - (zand (zushr l0 1) 1431655765)) 2) 858993459)) + (zushr ((zand (l0 - (zand (zushr l0 1) 1431655765)) 858993459) + (zand (zushr (l0 - (zand (zushr l0 1) 1431655765)) 2) 858993459)) 4)) 252645135) + (zushr (zand (((zand (l0 - (zand (zushr l0 1) 1431655765)) 858993459) + (zand (zushr (l0 - (zand (zushr l0 1) 1431655765)) 2) 858993459)) + (zushr ((zand (l0 - (zand (zushr l0 1) 1431655765)) 858993459) + (zand (zushr (l0 - (zand (zushr l0 1) 1431655765)) 2) 858993459)) 4)) 252645135) 8)))]) C dJ6_bitCount_0f7a4_40 (by decide) rfl rfl ?_
  refine s_iload_n C dJ6_bitCount_0f7a4_41 rfl ?_
  refine s_iload_n C dJ6_bitCount_0f7a4_42 rfl ?_
  refine s_bipush C dJ6_bitCount_0f7a4_43 ⟨rfl, by decide, by decide⟩ ?_
  refine s_iushr C dJ6_bitCount_0f7a4_45 ?_
  obtain ⟨o5, h⟩ := h
  refine s_iadd C dJ6_bitCount_0f7a4_46 o5 ?_
  refine s_istore_n (ls' := [(0, (((zand (((zand (l0 - (zand (zushr l0 1) 1431655765)) 858993459) + (zand (zushr (l0 - (zand (zushr l0 1) 1431655765)) 2) 858993459)) + (zushr ((zand (l0 - (zand (zushr l0 1) 1431655765)) 858993459) + (zand (zushr (l0 - (zand (zushr l0 1) 1431655765)) 2) 858993459)) 4)) 252645135) + (zushr (zand (((zand (l0 - (zand (zushr l0 1) 1431655765)) 858993459) + (zand (zushr (l0 - (zand (zushr l0 1) 1431655765)) 2) 858993459)) + (zushr ((zand (l0 - (zand (zushr l0 1) 1431655765)) 858993459) + (zand (zushr (l0 - (zand (zushr l0 1) 1431655765)) 2) 858993459)) 4)) 252645135) 8)) + (zushr ((zand (((zand (l0 - (zand (zushr l0 1) 1431655765)) 858993459) + (zand (zushr (l0 - (zand (zushr l0 1) 1431655765)) 2) 858993459)) + (zushr ((zand (l0 - (zand (zushr l0 1) 1431655765)) 858993459) + (zand (zushr (l0 - (zand (zushr l0 1) 1431655765)) 2) 858993459)) 4)) 252645135) + (zushr (zand (((zand (l0 - (zand (zushr l0 1) 1431655765)) 858993459) + (zand (zushr (l0 - (zand (zushr l0 1) 1431655765)) 2) 858993459)) + (zushr ((zand (l0 - (zand (zushr l0 1) 1431655765)) 858993459) + (zand (zushr (l0 - (zand (zushr l0 1) 1431655765)) 2) 858993459)) 4)) 252645135) 8)) 16)))]) C dJ6_bitCount_0f7a4_47 (by decide) rfl rfl ?_
  refine s_iload_n C dJ6_bitCount_0f7a4_48 rfl ?_
  refine s_bipush C dJ6_bitCount_0f7a4_49 ⟨rfl, by decide, by decide⟩ ?_
  refine s_iand C dJ6_bitCount_0f7a4_51 ?_
  exact s_ireturn C dJ6_bitCount_0f7a4_52 h
theorem E_J6_bitCount_0f7a4 {G : GP} {l : Launch} {P : Int → NS → MM → Prop} {l0 : Int} {w : NS} {M : MM} (h : inR l0 → ∀ X : BX, X.2.1 = l → CX_J6_bitCount_0f7a4 G X → A_J6_bitCount_0f7a4_0 G X P l0 w M) : CT_J6_bitCount_0f7a4 G l [(0, l0)] w M P :=
  CT.of RJ6 "bitCount" (by decide +kernel) rfl rfl rfl (Nat.le_of_ble_eq_true rfl) (fun hr X hX C => h (hr (0, l0) (by simp)) X hX C)
theorem pc_J6_bitCount {G : GP} {l : Launch} {w : NS} {M : MM} {a : Int} (h0 : 0 ≤ a) (h1 : a < 16777216) : CT_J6_bitCount_0f7a4 G l [(0, a)] w M (fun z w' M' => z = popc a ∧ w' = w ∧ M' = M) := by
  refine E_J6_bitCount_0f7a4 (fun _ X hX C => ?_)
  refine B_J6_bitCount_0f7a4_0 C ?_
  sorry
def A_X9_isReader_0 (G : GP) (X : BX) (P : Int → NS → MM → Prop) (l0 : Int) (w : NS) (M : MM) : Prop := WA true G X (QM G X true 0 P) 1 0 [(0, l0)] [] 0 0 w M
set_option maxHeartbeats 4000000 in
set_option maxRecDepth 100000 in
theorem B_X9_isReader_0 {G : GP} {X : BX} {P : Int → NS → MM → Prop} {l0 : Int} {w : NS} {M : MM} (C : CX_X9_isReader G X) (h : P (b2i (0 ≤ l0 ∧ l0 ≤ 3)) w M) : A_X9_isReader_0 G X P l0 w M := by
  unfold A_X9_isReader_0
  refine s_iload_n C dX9_isReader_0 rfl ?_
  refine s_iconst C dX9_isReader_1 (by decide) ?_
  refine s_iconst C dX9_isReader_2 (by decide) ?_
  refine s_callS (av := [(0, l0), (0, 0), (0, 3)]) (rest := []) (mc := 0) (ms := 0) C dX9_isReader_3 lk_X9_95 rfl rfl (Nat.le_of_ble_eq_true rfl) (by decide) (by decide) (pc_X9_within) (fun z1 wz1 Mz1 hq => ?_)
  obtain ⟨hq1, hq2, hq3⟩ := hq
  have hq2 := hq2.symm
  have hq3 := hq3.symm
  subst hq1 hq2 hq3
  exact s_zreturn C dX9_isReader_6 (b2i_01 _) h
theorem E_X9_isReader {G : GP} {l : Launch} {P : Int → NS → MM → Prop} {l0 : Int} {w : NS} {M : MM} (h : inR l0 → ∀ X : BX, X.2.1 = l → CX_X9_isReader G X → A_X9_isReader_0 G X P l0 w M) : CT_X9_isReader G l [(0, l0)] w M P :=
  CT.of RX9 "isReader" (by decide +kernel) rfl rfl rfl (Nat.le_of_ble_eq_true rfl) (fun hr X hX C => h (hr (0, l0) (by simp)) X hX C)
theorem pc_X9_isReader {G : GP} {l : Launch} {w : NS} {M : MM} {a : Int} : CT_X9_isReader G l [(0, a)] w M (fun z w' M' => z = b2i (0 ≤ a ∧ a ≤ 3) ∧ w' = w ∧ M' = M) := by
  refine E_X9_isReader (fun _ X hX C => ?_)
  refine B_X9_isReader_0 C ?_
  exact ⟨rfl, rfl, rfl⟩
def A_X10_in_0 (G : GP) (X : BX) (P : Int → NS → MM → Prop) (l0 : Int) (l2 : Int) (l4 : Int) (w : NS) (M : MM) : Prop := WA true G X (QM G X true 0 P) 6 0 [(1, l0), (3, 0), (1, l2), (3, 0), (1, l4), (3, 0)] [] 0 0 w M
set_option maxHeartbeats 4000000 in
set_option maxRecDepth 100000 in
theorem B_X10_in_0 {G : GP} {X : BX} {P : Int → NS → MM → Prop} {l0 : Int} {l2 : Int} {l4 : Int} {w : NS} {M : MM} (C : CX_X10_in G X) (h : ((((lcm3 l0 l2) < 0) → P 0 w M) ∧ ((¬ ((lcm3 l0 l2) < 0)) → (((0 < (lcm3 l0 l4)) → P 0 w M) ∧ ((¬ (0 < (lcm3 l0 l4))) → P 1 w M))))) : A_X10_in_0 G X P l0 l2 l4 w M := by
  unfold A_X10_in_0
  refine s_lload_n C dX10_in_0 rfl ?_
  refine s_lload_n C dX10_in_1 rfl ?_
  refine s_lcmp C dX10_in_2 ?_
  refine s_iflt C dX10_in_3 rfl (fun hc => ?_) (fun hc => ?_)
  · have h := h.1 hc
    refine s_iconst C dX10_in_17 (by decide) ?_
    exact s_zreturn C dX10_in_18 (by decide) h
  · have h := h.2 hc
    refine s_lload_n C dX10_in_6 rfl ?_
    refine s_lload C dX10_in_7 rfl ?_
    refine s_lcmp C dX10_in_9 ?_
    refine s_ifgt C dX10_in_10 rfl (fun hc => ?_) (fun hc => ?_)
    · have h := h.1 hc
      refine s_iconst C dX10_in_17 (by decide) ?_
      exact s_zreturn C dX10_in_18 (by decide) h
    · have h := h.2 hc
      refine s_iconst C dX10_in_13 (by decide) ?_
      refine s_goto C dX10_in_14 rfl ?_
      exact s_zreturn C dX10_in_18 (by decide) h
theorem E_X10_in {G : GP} {l : Launch} {P : Int → NS → MM → Prop} {l0 : Int} {l2 : Int} {l4 : Int} {w : NS} {M : MM} (h : inL l0 → inL l2 → inL l4 → ∀ X : BX, X.2.1 = l → CX_X10_in G X → A_X10_in_0 G X P l0 l2 l4 w M) : CT_X10_in G l [(1, l0), (1, l2), (1, l4)] w M P :=
  CT.of RX10 "in" (by decide +kernel) rfl rfl rfl (Nat.le_of_ble_eq_true rfl) (fun hr X hX C => h (hr (1, l0) (by simp)) (hr (1, l2) (by simp)) (hr (1, l4) (by simp)) X hX C)
theorem pc_X10_in {G : GP} {l : Launch} {w : NS} {M : MM} {a b c : Int} : CT_X10_in G l [(1, a), (1, b), (1, c)] w M (fun z w' M' => z = b2i (b ≤ a ∧ a ≤ c) ∧ w' = w ∧ M' = M) := by
  refine E_X10_in (fun _ _ _ X hX C => ?_)
  refine B_X10_in_0 C ?_
  have e1 : ∀ x y : Int, lcm3 x y < 0 ↔ x < y := fun x y => by unfold lcm3; split <;> (try split) <;> omega
  have e2 : ∀ x y : Int, 0 < lcm3 x y ↔ y < x := fun x y => by unfold lcm3; split <;> (try split) <;> omega
  refine ⟨fun h1 => ?_, fun h1 => ⟨fun h2 => ?_, fun h2 => ?_⟩⟩
  · exact ⟨(b2i_f (by have := (e1 _ _).mp h1; omega)).symm, rfl, rfl⟩
  · exact ⟨(b2i_f (by have := (e2 _ _).mp h2; omega)).symm, rfl, rfl⟩
  · rw [e1] at h1
    rw [e2] at h2
    exact ⟨(b2i_t (by omega)).symm, rfl, rfl⟩
def A_X10_isDay_0 (G : GP) (X : BX) (P : Int → NS → MM → Prop) (l0 : Int) (w : NS) (M : MM) : Prop := WA true G X (QM G X true 0 P) 1 0 [(0, l0)] [] 0 0 w M
set_option maxHeartbeats 4000000 in
set_option maxRecDepth 100000 in
theorem B_X10_isDay_0 {G : GP} {X : BX} {P : Int → NS → MM → Prop} {l0 : Int} {w : NS} {M : MM} (C : CX_X10_isDay G X) (h : P (b2i (0 ≤ l0 ∧ l0 ≤ 99)) w M) : A_X10_isDay_0 G X P l0 w M := by
  unfold A_X10_isDay_0
  refine s_iload_n C dX10_isDay_0 rfl ?_
  refine s_i2l C dX10_isDay_1 ?_
  refine s_lconst (z := 0) C dX10_isDay_2 ⟨rfl, by decide⟩ ?_
  refine s_ldc2 (z := 99) C dX10_isDay_3 (mG (wd_936) rfl) ⟨rfl, by decide⟩ ?_
  refine s_callS (av := [(1, l0), (1, 0), (1, 99)]) (rest := []) (mc := 0) (ms := 0) C dX10_isDay_6 lk_X10_139 rfl rfl (Nat.le_of_ble_eq_true rfl) (by decide) (by decide) (pc_X10_in) (fun z1 wz1 Mz1 hq => ?_)
  obtain ⟨hq1, hq2, hq3⟩ := hq
  have hq2 := hq2.symm
  have hq3 := hq3.symm
  subst hq1 hq2 hq3
  exact s_zreturn C dX10_isDay_9 (b2i_01 _) h
theorem E_X10_isDay {G : GP} {l : Launch} {P : Int → NS → MM → Prop} {l0 : Int} {w : NS} {M : MM} (h : inR l0 → ∀ X : BX, X.2.1 = l → CX_X10_isDay G X → A_X10_isDay_0 G X P l0 w M) : CT_X10_isDay G l [(0, l0)] w M P :=
  CT.of RX10 "isDay" (by decide +kernel) rfl rfl rfl (Nat.le_of_ble_eq_true rfl) (fun hr X hX C => h (hr (0, l0) (by simp)) X hX C)
theorem pc_X10_isDay {G : GP} {l : Launch} {w : NS} {M : MM} {a : Int} : CT_X10_isDay G l [(0, a)] w M (fun z w' M' => z = b2i (0 ≤ a ∧ a ≤ 99) ∧ w' = w ∧ M' = M) := by
  refine E_X10_isDay (fun _ X hX C => ?_)
  refine B_X10_isDay_0 C ?_
  exact ⟨rfl, rfl, rfl⟩
def A_X10_isPage_0 (G : GP) (X : BX) (P : Int → NS → MM → Prop) (l1 : Int) (w : NS) (M : MM) : Prop := WA true G X (QM G X true 0 P) 2 0 [(2, 41), (0, l1)] [] 0 0 w M
set_option maxHeartbeats 4000000 in
set_option maxRecDepth 100000 in
theorem B_X10_isPage_0 {G : GP} {X : BX} {P : Int → NS → MM → Prop} {l1 : Int} {w : NS} {M : MM} (C : CX_X10_isPage G X) (h : (inR ((M 41 4) - 1)) ∧ P (b2i (0 ≤ l1 ∧ l1 ≤ ((M 41 4) - 1))) w M) : A_X10_isPage_0 G X P l1 w M := by
  unfold A_X10_isPage_0
  refine s_iload_n C dX10_isPage_0 rfl ?_
  refine s_i2l C dX10_isPage_1 ?_
  refine s_lconst (z := 0) C dX10_isPage_2 ⟨rfl, by decide⟩ ?_
  refine s_aload_n C dX10_isPage_3 rfl ?_
  refine WA.fix (fun hF1 => ?_)
  refine gf_X10_143 (v0 := (M 41 4)) C (sh_41 hF1) dX10_isPage_4 rfl ?_
  refine s_iconst C dX10_isPage_7 (by decide) ?_
  obtain ⟨o2, h⟩ := h
  refine s_isub C dX10_isPage_8 o2 ?_
  refine s_i2l C dX10_isPage_9 ?_
  refine s_callS (av := [(1, l1), (1, 0), (1, ((M 41 4) - 1))]) (rest := []) (mc := 0) (ms := 0) C dX10_isPage_10 lk_X10_139 rfl rfl (Nat.le_of_ble_eq_true rfl) (by decide) (by decide) (pc_X10_in) (fun z3 wz3 Mz3 hq => ?_)
  obtain ⟨hq1, hq2, hq3⟩ := hq
  have hq2 := hq2.symm
  have hq3 := hq3.symm
  subst hq1 hq2 hq3
  exact s_zreturn C dX10_isPage_13 (b2i_01 _) h
theorem E_X10_isPage {G : GP} {l : Launch} {P : Int → NS → MM → Prop} {l1 : Int} {w : NS} {M : MM} (h : inR l1 → ∀ X : BX, X.2.1 = l → CX_X10_isPage G X → A_X10_isPage_0 G X P l1 w M) : CT_X10_isPage G l [(2, 41), (0, l1)] w M P :=
  CT.of RX10 "isPage" (by decide +kernel) rfl rfl rfl (Nat.le_of_ble_eq_true rfl) (fun hr X hX C => h (hr (0, l1) (by simp)) X hX C)
theorem pc_X10_isPage {G : GP} {l : Launch} {w : NS} {M : MM} {a : Int} (h0 : 0 ≤ M 41 4) : CT_X10_isPage G l [(2, 41), (0, a)] w M (fun z w' M' => z = b2i (0 ≤ a ∧ a < M 41 4) ∧ w' = w ∧ M' = M) := by
  refine E_X10_isPage (fun _ X hX C => ?_)
  unfold A_X10_isPage_0
  refine WA.fix (fun hF => WA.rng (fun hr => ?_))
  have hr1 : inR (M 41 4) := by have := hr.1 41 4 (by rw [sh_41 hF]; decide); rw [sh_41 hF] at this; exact this
  refine B_X10_isPage_0 C ⟨by omega, b2i_c (by omega), rfl, rfl⟩
def A_X10_isPiece_0 (G : GP) (X : BX) (P : Int → NS → MM → Prop) (l1 : Int) (w : NS) (M : MM) : Prop := WA true G X (QM G X true 0 P) 2 0 [(2, 41), (0, l1)] [] 0 0 w M
set_option maxHeartbeats 4000000 in
set_option maxRecDepth 100000 in
theorem B_X10_isPiece_0 {G : GP} {X : BX} {P : Int → NS → MM → Prop} {l1 : Int} {w : NS} {M : MM} (C : CX_X10_isPiece G X) (h : (inR ((M 41 12) - 1)) ∧ P (b2i (0 ≤ l1 ∧ l1 ≤ ((M 41 12) - 1))) w M) : A_X10_isPiece_0 G X P l1 w M := by
  unfold A_X10_isPiece_0
  refine s_iload_n C dX10_isPiece_0 rfl ?_
  refine s_i2l C dX10_isPiece_1 ?_
  refine s_lconst (z := 0) C dX10_isPiece_2 ⟨rfl, by decide⟩ ?_
  refine s_aload_n C dX10_isPiece_3 rfl ?_
  refine WA.fix (fun hF1 => ?_)
  refine gf_X10_147 (v0 := (M 41 12)) C (sh_41 hF1) dX10_isPiece_4 rfl ?_
  refine s_iconst C dX10_isPiece_7 (by decide) ?_
  obtain ⟨o2, h⟩ := h
  refine s_isub C dX10_isPiece_8 o2 ?_
  refine s_i2l C dX10_isPiece_9 ?_
  refine s_callS (av := [(1, l1), (1, 0), (1, ((M 41 12) - 1))]) (rest := []) (mc := 0) (ms := 0) C dX10_isPiece_10 lk_X10_139 rfl rfl (Nat.le_of_ble_eq_true rfl) (by decide) (by decide) (pc_X10_in) (fun z3 wz3 Mz3 hq => ?_)
  obtain ⟨hq1, hq2, hq3⟩ := hq
  have hq2 := hq2.symm
  have hq3 := hq3.symm
  subst hq1 hq2 hq3
  exact s_zreturn C dX10_isPiece_13 (b2i_01 _) h
theorem E_X10_isPiece {G : GP} {l : Launch} {P : Int → NS → MM → Prop} {l1 : Int} {w : NS} {M : MM} (h : inR l1 → ∀ X : BX, X.2.1 = l → CX_X10_isPiece G X → A_X10_isPiece_0 G X P l1 w M) : CT_X10_isPiece G l [(2, 41), (0, l1)] w M P :=
  CT.of RX10 "isPiece" (by decide +kernel) rfl rfl rfl (Nat.le_of_ble_eq_true rfl) (fun hr X hX C => h (hr (0, l1) (by simp)) X hX C)
theorem pc_X10_isPiece {G : GP} {l : Launch} {w : NS} {M : MM} {a : Int} (h0 : 0 ≤ M 41 12) : CT_X10_isPiece G l [(2, 41), (0, a)] w M (fun z w' M' => z = b2i (0 ≤ a ∧ a < M 41 12) ∧ w' = w ∧ M' = M) := by
  refine E_X10_isPiece (fun _ X hX C => ?_)
  unfold A_X10_isPiece_0
  refine WA.fix (fun hF => WA.rng (fun hr => ?_))
  have hr1 : inR (M 41 12) := by have := hr.1 41 12 (by rw [sh_41 hF]; decide); rw [sh_41 hF] at this; exact this
  refine B_X10_isPiece_0 C ⟨by omega, b2i_c (by omega), rfl, rfl⟩
def A_X10_isDigit_0 (G : GP) (X : BX) (P : Int → NS → MM → Prop) (l0 : Int) (w : NS) (M : MM) : Prop := WA true G X (QM G X true 0 P) 1 0 [(0, l0)] [] 0 0 w M
set_option maxHeartbeats 4000000 in
set_option maxRecDepth 100000 in
theorem B_X10_isDigit_0 {G : GP} {X : BX} {P : Int → NS → MM → Prop} {l0 : Int} {w : NS} {M : MM} (C : CX_X10_isDigit G X) (h : P (b2i (48 ≤ l0 ∧ l0 ≤ 57)) w M) : A_X10_isDigit_0 G X P l0 w M := by
  unfold A_X10_isDigit_0
  refine s_iload_n C dX10_isDigit_0 rfl ?_
  refine s_i2l C dX10_isDigit_1 ?_
  refine s_ldc2 (z := 48) C dX10_isDigit_2 (mG (wd_1038) rfl) ⟨rfl, by decide⟩ ?_
  refine s_ldc2 (z := 57) C dX10_isDigit_5 (mG (wd_1039) rfl) ⟨rfl, by decide⟩ ?_
  refine s_callS (av := [(1, l0), (1, 48), (1, 57)]) (rest := []) (mc := 0) (ms := 0) C dX10_isDigit_8 lk_X10_139 rfl rfl (Nat.le_of_ble_eq_true rfl) (by decide) (by decide) (pc_X10_in) (fun z1 wz1 Mz1 hq => ?_)
  obtain ⟨hq1, hq2, hq3⟩ := hq
  have hq2 := hq2.symm
  have hq3 := hq3.symm
  subst hq1 hq2 hq3
  exact s_zreturn C dX10_isDigit_11 (b2i_01 _) h
theorem E_X10_isDigit {G : GP} {l : Launch} {P : Int → NS → MM → Prop} {l0 : Int} {w : NS} {M : MM} (h : inR l0 → ∀ X : BX, X.2.1 = l → CX_X10_isDigit G X → A_X10_isDigit_0 G X P l0 w M) : CT_X10_isDigit G l [(0, l0)] w M P :=
  CT.of RX10 "isDigit" (by decide +kernel) rfl rfl rfl (Nat.le_of_ble_eq_true rfl) (fun hr X hX C => h (hr (0, l0) (by simp)) X hX C)
theorem pc_X10_isDigit {G : GP} {l : Launch} {w : NS} {M : MM} {a : Int} : CT_X10_isDigit G l [(0, a)] w M (fun z w' M' => z = b2i (48 ≤ a ∧ a ≤ 57) ∧ w' = w ∧ M' = M) := by
  refine E_X10_isDigit (fun _ X hX C => ?_)
  refine B_X10_isDigit_0 C ?_
  exact ⟨rfl, rfl, rfl⟩
def A_X10_isOrder_0 (G : GP) (X : BX) (P : Int → NS → MM → Prop) (l1 : Int) (w : NS) (M : MM) : Prop := WA true G X (QM G X true 0 P) 2 0 [(2, 41), (0, l1)] [] 0 0 w M
set_option maxHeartbeats 4000000 in
set_option maxRecDepth 100000 in
theorem B_X10_isOrder_0 {G : GP} {X : BX} {P : Int → NS → MM → Prop} {l1 : Int} {w : NS} {M : MM} (C : CX_X10_isOrder G X) (h : (inR ((M 41 26) - 1)) ∧ P (b2i (0 ≤ l1 ∧ l1 ≤ ((M 41 26) - 1))) w M) : A_X10_isOrder_0 G X P l1 w M := by
  unfold A_X10_isOrder_0
  refine s_iload_n C dX10_isOrder_0 rfl ?_
  refine s_i2l C dX10_isOrder_1 ?_
  refine s_lconst (z := 0) C dX10_isOrder_2 ⟨rfl, by decide⟩ ?_
  refine s_aload_n C dX10_isOrder_3 rfl ?_
  refine WA.fix (fun hF1 => ?_)
  refine gf_X10_220 (v0 := (M 41 26)) C (sh_41 hF1) dX10_isOrder_4 rfl ?_
  refine s_iconst C dX10_isOrder_7 (by decide) ?_
  obtain ⟨o2, h⟩ := h
  refine s_isub C dX10_isOrder_8 o2 ?_
  refine s_i2l C dX10_isOrder_9 ?_
  refine s_callS (av := [(1, l1), (1, 0), (1, ((M 41 26) - 1))]) (rest := []) (mc := 0) (ms := 0) C dX10_isOrder_10 lk_X10_139 rfl rfl (Nat.le_of_ble_eq_true rfl) (by decide) (by decide) (pc_X10_in) (fun z3 wz3 Mz3 hq => ?_)
  obtain ⟨hq1, hq2, hq3⟩ := hq
  have hq2 := hq2.symm
  have hq3 := hq3.symm
  subst hq1 hq2 hq3
  exact s_zreturn C dX10_isOrder_13 (b2i_01 _) h
theorem E_X10_isOrder {G : GP} {l : Launch} {P : Int → NS → MM → Prop} {l1 : Int} {w : NS} {M : MM} (h : inR l1 → ∀ X : BX, X.2.1 = l → CX_X10_isOrder G X → A_X10_isOrder_0 G X P l1 w M) : CT_X10_isOrder G l [(2, 41), (0, l1)] w M P :=
  CT.of RX10 "isOrder" (by decide +kernel) rfl rfl rfl (Nat.le_of_ble_eq_true rfl) (fun hr X hX C => h (hr (0, l1) (by simp)) X hX C)
theorem pc_X10_isOrder {G : GP} {l : Launch} {w : NS} {M : MM} {a : Int} (h0 : 0 ≤ M 41 26) : CT_X10_isOrder G l [(2, 41), (0, a)] w M (fun z w' M' => z = b2i (0 ≤ a ∧ a < M 41 26) ∧ w' = w ∧ M' = M) := by
  refine E_X10_isOrder (fun _ X hX C => ?_)
  unfold A_X10_isOrder_0
  refine WA.fix (fun hF => WA.rng (fun hr => ?_))
  have hr1 : inR (M 41 26) := by have := hr.1 41 26 (by rw [sh_41 hF]; decide); rw [sh_41 hF] at this; exact this
  refine B_X10_isOrder_0 C ⟨by omega, b2i_c (by omega), rfl, rfl⟩
def A_X10_leastOf_0 (G : GP) (X : BX) (P : Int → NS → MM → Prop) (l0 : Int) (w : NS) (M : MM) : Prop := WA true G X (QM G X true 0 P) 1 0 [(0, l0)] [] 0 0 w M
set_option maxHeartbeats 4000000 in
set_option maxRecDepth 100000 in
theorem B_X10_leastOf_0 {G : GP} {X : BX} {P : Int → NS → MM → Prop} {l0 : Int} {w : NS} {M : MM} (C : CX_X10_leastOf G X) (h : (((l0 = 2) → P 1 w M) ∧ ((¬ (l0 = 2)) → (((l0 ≠ 4) → P 0 w M) ∧ ((¬ (l0 ≠ 4)) → P 1 w M))))) : A_X10_leastOf_0 G X P l0 w M := by
  unfold A_X10_leastOf_0
  refine s_iload_n C dX10_leastOf_0 rfl ?_
  refine s_iconst C dX10_leastOf_1 (by decide) ?_
  refine s_icmpeq C dX10_leastOf_2 rfl (fun hc => ?_) (fun hc => ?_)
  · have h := h.1 hc
    refine s_iconst C dX10_leastOf_10 (by decide) ?_
    refine s_goto C dX10_leastOf_11 rfl ?_
    exact s_ireturn C dX10_leastOf_15 h
  · have h := h.2 hc
    refine s_iload_n C dX10_leastOf_5 rfl ?_
    refine s_iconst C dX10_leastOf_6 (by decide) ?_
    refine s_icmpne C dX10_leastOf_7 rfl (fun hc => ?_) (fun hc => ?_)
    · have h := h.1 hc
      refine s_iconst C dX10_leastOf_14 (by decide) ?_
      exact s_ireturn C dX10_leastOf_15 h
    · have h := h.2 hc
      refine s_iconst C dX10_leastOf_10 (by decide) ?_
      refine s_goto C dX10_leastOf_11 rfl ?_
      exact s_ireturn C dX10_leastOf_15 h
theorem E_X10_leastOf {G : GP} {l : Launch} {P : Int → NS → MM → Prop} {l0 : Int} {w : NS} {M : MM} (h : inR l0 → ∀ X : BX, X.2.1 = l → CX_X10_leastOf G X → A_X10_leastOf_0 G X P l0 w M) : CT_X10_leastOf G l [(0, l0)] w M P :=
  CT.of RX10 "leastOf" (by decide +kernel) rfl rfl rfl (Nat.le_of_ble_eq_true rfl) (fun hr X hX C => h (hr (0, l0) (by simp)) X hX C)
theorem pc_X10_leastOf {G : GP} {l : Launch} {w : NS} {M : MM} {a : Int} : CT_X10_leastOf G l [(0, a)] w M (fun z w' M' => z = lstO a ∧ w' = w ∧ M' = M) := by
  refine E_X10_leastOf (fun _ X hX C => ?_)
  refine B_X10_leastOf_0 C ?_
  refine ⟨fun h1 => ?_, fun h1 => ⟨fun h2 => ?_, fun h2 => ?_⟩⟩ <;> refine ⟨?_, rfl, rfl⟩ <;> unfold lstO <;> split <;> omega
def A_X10_greatestOf_0 (G : GP) (X : BX) (P : Int → NS → MM → Prop) (l0 : Int) (w : NS) (M : MM) : Prop := WA true G X (QM G X true 0 P) 1 0 [(0, l0)] [] 0 0 w M
set_option maxHeartbeats 4000000 in
set_option maxRecDepth 100000 in
theorem B_X10_greatestOf_0 {G : GP} {X : BX} {P : Int → NS → MM → Prop} {l0 : Int} {w : NS} {M : MM} (C : CX_X10_greatestOf G X) (h : (((l0 = 0) → P 100 w M) ∧ ((¬ (l0 = 0)) → (((l0 ≠ 4) → (((l0 ≠ 1) → P 1000 w M) ∧ ((¬ (l0 ≠ 1)) → P 20 w M))) ∧ ((¬ (l0 ≠ 4)) → P 100 w M))))) : A_X10_greatestOf_0 G X P l0 w M := by
  unfold A_X10_greatestOf_0
  refine s_iload_n C dX10_greatestOf_0 rfl ?_
  refine s_ifeq C dX10_greatestOf_1 rfl (fun hc => ?_) (fun hc => ?_)
  · have h := h.1 hc
    refine s_bipush C dX10_greatestOf_9 ⟨rfl, by decide, by decide⟩ ?_
    refine s_goto C dX10_greatestOf_11 rfl ?_
    exact s_ireturn C dX10_greatestOf_27 h
  · have h := h.2 hc
    refine s_iload_n C dX10_greatestOf_4 rfl ?_
    refine s_iconst C dX10_greatestOf_5 (by decide) ?_
    refine s_icmpne C dX10_greatestOf_6 rfl (fun hc => ?_) (fun hc => ?_)
    · have h := h.1 hc
      refine s_iload_n C dX10_greatestOf_14 rfl ?_
      refine s_iconst C dX10_greatestOf_15 (by decide) ?_
      refine s_icmpne C dX10_greatestOf_16 rfl (fun hc => ?_) (fun hc => ?_)
      · have h := h.1 hc
        refine s_sipush C dX10_greatestOf_24 ⟨rfl, by decide, by decide⟩ ?_
        exact s_ireturn C dX10_greatestOf_27 h
      · have h := h.2 hc
        refine s_bipush C dX10_greatestOf_19 ⟨rfl, by decide, by decide⟩ ?_
        refine s_goto C dX10_greatestOf_21 rfl ?_
        exact s_ireturn C dX10_greatestOf_27 h
    · have h := h.2 hc
      refine s_bipush C dX10_greatestOf_9 ⟨rfl, by decide, by decide⟩ ?_
      refine s_goto C dX10_greatestOf_11 rfl ?_
      exact s_ireturn C dX10_greatestOf_27 h
theorem E_X10_greatestOf {G : GP} {l : Launch} {P : Int → NS → MM → Prop} {l0 : Int} {w : NS} {M : MM} (h : inR l0 → ∀ X : BX, X.2.1 = l → CX_X10_greatestOf G X → A_X10_greatestOf_0 G X P l0 w M) : CT_X10_greatestOf G l [(0, l0)] w M P :=
  CT.of RX10 "greatestOf" (by decide +kernel) rfl rfl rfl (Nat.le_of_ble_eq_true rfl) (fun hr X hX C => h (hr (0, l0) (by simp)) X hX C)
theorem pc_X10_greatestOf {G : GP} {l : Launch} {w : NS} {M : MM} {a : Int} : CT_X10_greatestOf G l [(0, a)] w M (fun z w' M' => z = grtO a ∧ w' = w ∧ M' = M) := by
  refine E_X10_greatestOf (fun _ X hX C => ?_)
  refine B_X10_greatestOf_0 C ?_
  repeat' (first | (refine ⟨?_, rfl, rfl⟩; unfold grtO; split <;> (try split) <;> omega) | (refine ⟨?_, ?_⟩) | intro h1)
def A_X10_isName_0 (G : GP) (X : BX) (P : Int → NS → MM → Prop) (l0 : Int) (w : NS) (M : MM) : Prop := WA true G X (QM G X true 0 P) 1 0 [(0, l0)] [] 0 0 w M
set_option maxHeartbeats 4000000 in
set_option maxRecDepth 100000 in
theorem B_X10_isName_0 {G : GP} {X : BX} {P : Int → NS → MM → Prop} {l0 : Int} {w : NS} {M : MM} (C : CX_X10_isName G X) (h : P (b2i (0 ≤ l0 ∧ l0 ≤ 3)) w M) : A_X10_isName_0 G X P l0 w M := by
  unfold A_X10_isName_0
  refine s_iload_n C dX10_isName_0 rfl ?_
  refine s_i2l C dX10_isName_1 ?_
  refine s_lconst (z := 0) C dX10_isName_2 ⟨rfl, by decide⟩ ?_
  refine s_ldc2 (z := 3) C dX10_isName_3 (mG (wd_1121) rfl) ⟨rfl, by decide⟩ ?_
  refine s_callS (av := [(1, l0), (1, 0), (1, 3)]) (rest := []) (mc := 0) (ms := 0) C dX10_isName_6 lk_X10_139 rfl rfl (Nat.le_of_ble_eq_true rfl) (by decide) (by decide) (pc_X10_in) (fun z1 wz1 Mz1 hq => ?_)
  obtain ⟨hq1, hq2, hq3⟩ := hq
  have hq2 := hq2.symm
  have hq3 := hq3.symm
  subst hq1 hq2 hq3
  exact s_zreturn C dX10_isName_9 (b2i_01 _) h
theorem E_X10_isName {G : GP} {l : Launch} {P : Int → NS → MM → Prop} {l0 : Int} {w : NS} {M : MM} (h : inR l0 → ∀ X : BX, X.2.1 = l → CX_X10_isName G X → A_X10_isName_0 G X P l0 w M) : CT_X10_isName G l [(0, l0)] w M P :=
  CT.of RX10 "isName" (by decide +kernel) rfl rfl rfl (Nat.le_of_ble_eq_true rfl) (fun hr X hX C => h (hr (0, l0) (by simp)) X hX C)
theorem pc_X10_isName {G : GP} {l : Launch} {w : NS} {M : MM} {a : Int} : CT_X10_isName G l [(0, a)] w M (fun z w' M' => z = b2i (0 ≤ a ∧ a ≤ 3) ∧ w' = w ∧ M' = M) := by
  refine E_X10_isName (fun _ X hX C => ?_)
  refine B_X10_isName_0 C ?_
  exact ⟨rfl, rfl, rfl⟩
def A_X10_isReader_0 (G : GP) (X : BX) (P : Int → NS → MM → Prop) (l0 : Int) (w : NS) (M : MM) : Prop := WA true G X (QM G X true 0 P) 1 0 [(0, l0)] [] 0 0 w M
set_option maxHeartbeats 4000000 in
set_option maxRecDepth 100000 in
theorem B_X10_isReader_0 {G : GP} {X : BX} {P : Int → NS → MM → Prop} {l0 : Int} {w : NS} {M : MM} (C : CX_X10_isReader G X) (h : P (b2i (0 ≤ l0 ∧ l0 ≤ 3)) w M) : A_X10_isReader_0 G X P l0 w M := by
  unfold A_X10_isReader_0
  refine s_iload_n C dX10_isReader_0 rfl ?_
  refine s_i2l C dX10_isReader_1 ?_
  refine s_lconst (z := 0) C dX10_isReader_2 ⟨rfl, by decide⟩ ?_
  refine s_ldc2 (z := 3) C dX10_isReader_3 (mG (wd_1121) rfl) ⟨rfl, by decide⟩ ?_
  refine s_callS (av := [(1, l0), (1, 0), (1, 3)]) (rest := []) (mc := 0) (ms := 0) C dX10_isReader_6 lk_X10_139 rfl rfl (Nat.le_of_ble_eq_true rfl) (by decide) (by decide) (pc_X10_in) (fun z1 wz1 Mz1 hq => ?_)
  obtain ⟨hq1, hq2, hq3⟩ := hq
  have hq2 := hq2.symm
  have hq3 := hq3.symm
  subst hq1 hq2 hq3
  exact s_zreturn C dX10_isReader_9 (b2i_01 _) h
theorem E_X10_isReader {G : GP} {l : Launch} {P : Int → NS → MM → Prop} {l0 : Int} {w : NS} {M : MM} (h : inR l0 → ∀ X : BX, X.2.1 = l → CX_X10_isReader G X → A_X10_isReader_0 G X P l0 w M) : CT_X10_isReader G l [(0, l0)] w M P :=
  CT.of RX10 "isReader" (by decide +kernel) rfl rfl rfl (Nat.le_of_ble_eq_true rfl) (fun hr X hX C => h (hr (0, l0) (by simp)) X hX C)
theorem pc_X10_isReader {G : GP} {l : Launch} {w : NS} {M : MM} {a : Int} : CT_X10_isReader G l [(0, a)] w M (fun z w' M' => z = b2i (0 ≤ a ∧ a ≤ 3) ∧ w' = w ∧ M' = M) := by
  refine E_X10_isReader (fun _ X hX C => ?_)
  refine B_X10_isReader_0 C ?_
  exact ⟨rfl, rfl, rfl⟩
