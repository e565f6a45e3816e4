def A_X3_asksFor_0 (G : GP) (X : BX) (P : Int → NS → MM → Prop) (l0 : Int) (l1 : Int) (w : NS) (M : MM) : Prop := WA true G X (QM G X true 0 P) 3 0 [(2, l0), (2, l1), (3, 0)] [] 0 0 w M
set_option maxHeartbeats 4000000 in
set_option maxRecDepth 100000 in
theorem B_X3_asksFor_0 {G : GP} {X : BX} {P : Int → NS → MM → Prop} {l0 : Int} {l1 : Int} {w : NS} {M : MM} (C : CX_X3_asksFor G X) (h : (w.2 l1 = (7, 12)) ∧ (w.2 (M l1 1) = (5, 5)) ∧ (w.2 l0 = (4, 7)) ∧ ((((M (M l1 1) 2) < (M l0 3)) → P 0 w M) ∧ ((¬ ((M (M l1 1) 2) < (M l0 3))) → ((((M l0 4) < (M (M l1 1) 2)) → P 0 w M) ∧ ((¬ ((M l0 4) < (M (M l1 1) 2))) → (((¬ (zand (zshr (M l0 2) (M (M l1 1) 1)) 1 = 1)) → P 0 w M) ∧ (((zand (zshr (M l0 2) (M (M l1 1) 1)) 1 = 1)) → (w.2 (M l0 1) = (9, 2)) ∧ ∃ Q6 : Int → NS → MM → Prop, CT_X8_isSo G X.2.1 [(2, (M l0 1)), (2, l1)] w M Q6 ∧ ∀ (z6 : Int) (w6 : NS) (M6 : MM), Q6 z6 w6 M6 → (((z6 = 0) → P 0 w6 M6) ∧ ((¬ (z6 = 0)) → P 1 w6 M6))))))))) : A_X3_asksFor_0 G X P l0 l1 w M := by
  unfold A_X3_asksFor_0
  refine s_aload_n C dX3_asksFor_0 rfl ?_
  obtain ⟨o1, h⟩ := h
  refine gf_X3_33 (v0 := (M l1 1)) C o1 dX3_asksFor_1 rfl ?_
  refine s_astore_n (ls' := [(2, l0), (2, l1), (2, (M l1 1))]) C dX3_asksFor_4 (by decide) rfl rfl ?_
  refine s_aload_n C dX3_asksFor_5 rfl ?_
  obtain ⟨o2, h⟩ := h
  refine gf_X3_39 (v0 := (M (M l1 1) 2)) C o2 dX3_asksFor_6 rfl ?_
  refine s_aload_n C dX3_asksFor_9 rfl ?_
  obtain ⟨o3, h⟩ := h
  refine gf_X3_20 (v0 := (M l0 3)) C o3 dX3_asksFor_10 rfl ?_
  refine s_icmplt C dX3_asksFor_13 rfl (fun hc => ?_) (fun hc => ?_)
  · have h := h.1 hc
    refine s_iconst C dX3_asksFor_56 (by decide) ?_
    exact s_zreturn C dX3_asksFor_57 (by decide) h
  · have h := h.2 hc
    refine s_aload_n C dX3_asksFor_16 rfl ?_
    refine gf_X3_39 (v0 := (M (M l1 1) 2)) C o2 dX3_asksFor_17 rfl ?_
    refine s_aload_n C dX3_asksFor_20 rfl ?_
    refine gf_X3_23 (v0 := (M l0 4)) C o3 dX3_asksFor_21 rfl ?_
    refine s_icmpgt C dX3_asksFor_24 rfl (fun hc => ?_) (fun hc => ?_)
    · have h := h.1 hc
      refine s_iconst C dX3_asksFor_56 (by decide) ?_
      exact s_zreturn C dX3_asksFor_57 (by decide) h
    · have h := h.2 hc
      refine s_aload_n C dX3_asksFor_27 rfl ?_
      refine gf_X3_17 (v0 := (M l0 2)) C o3 dX3_asksFor_28 rfl ?_
      refine s_aload_n C dX3_asksFor_31 rfl ?_
      refine gf_X3_44 (v0 := (M (M l1 1) 1)) C o2 dX3_asksFor_32 rfl ?_
      refine s_callSN (av := [(0, (M l0 2)), (0, (M (M l1 1) 1))]) (rest := []) (mc := 0) (ms := 0) C dX3_asksFor_35 lk_X3_47 rfl rfl (Nat.le_of_ble_eq_true rfl) (by decide) (by decide) (pc_X9_hasBit) (fun z4 wz4 Mz4 hq => ?_)
      obtain ⟨hq1, hq2, hq3⟩ := hq
      have hq2 := hq2.symm
      have hq3 := hq3.symm
      subst hq1 hq2 hq3
      refine s_ifeq C dX3_asksFor_38 rfl (fun hc => ?_) (fun hc => ?_)
      · have h := h.1 (b2i_0.mp hc)
        refine s_iconst C dX3_asksFor_56 (by decide) ?_
        exact s_zreturn C dX3_asksFor_57 (by decide) h
      · have h := h.2 (b2i_n0 hc)
        refine s_aload_n C dX3_asksFor_41 rfl ?_
        refine gf_X3_13 (v0 := (M l0 1)) C o3 dX3_asksFor_42 rfl ?_
        refine s_aload_n C dX3_asksFor_45 rfl ?_
        obtain ⟨o5, h⟩ := h
        obtain ⟨Q6, hKQ6, h⟩ := h
        refine s_callV (ci := 8) (av := [(2, l1)]) (rest := []) (mc := 0) (ms := 0) C dX3_asksFor_46 lk_X3_53 o5 (by decide) rfl rfl rfl (Nat.le_of_ble_eq_true rfl) (by decide) (by decide) hKQ6 (fun z6 w6 M6 hq => ?_)
        have h := h z6 w6 M6 hq
        refine s_ifeq C dX3_asksFor_49 rfl (fun hc => ?_) (fun hc => ?_)
        · have h := h.1 hc
          refine s_iconst C dX3_asksFor_56 (by decide) ?_
          exact s_zreturn C dX3_asksFor_57 (by decide) h
        · have h := h.2 hc
          refine s_iconst C dX3_asksFor_52 (by decide) ?_
          refine s_goto C dX3_asksFor_53 rfl ?_
          exact s_zreturn C dX3_asksFor_57 (by decide) h
theorem E_X3_asksFor {G : GP} {l : Launch} {P : Int → NS → MM → Prop} {l0 : Int} {l1 : Int} {w : NS} {M : MM} (h : ∀ X : BX, X.2.1 = l → CX_X3_asksFor G X → A_X3_asksFor_0 G X P l0 l1 w M) : CT_X3_asksFor G l [(2, l0), (2, l1)] w M P :=
  CT.of RX3 "asksFor" (by decide +kernel) rfl rfl rfl (Nat.le_of_ble_eq_true rfl) (fun hr X hX C => h  X hX C)
def A_X9_wants_0 (G : GP) (X : BX) (P : Int → NS → MM → Prop) (l1 : Int) (l2 : Int) (l3 : Int) (w : NS) (M : MM) : Prop := WA true G X (QM G X true 0 P) 6 0 [(2, 1), (0, l1), (0, l2), (0, l3), (3, 0), (3, 0)] [] 0 0 w M
set_option maxHeartbeats 4000000 in
set_option maxRecDepth 100000 in
theorem B_X9_wants_0 {G : GP} {X : BX} {P : Int → NS → MM → Prop} {l1 : Int} {l2 : Int} {l3 : Int} {w : NS} {M : MM} (C : CX_X9_wants G X) (h : (0 ≤ M 1 7) ∧ (M 1 7 ≤ 10) ∧ (0 ≤ M 1 4) ∧ (M 1 4 ≤ 24) ∧ ((((orO M l1) = 0) → P (-1) w M) ∧ ((¬ ((orO M l1) = 0)) → ((((pcO M l2) ≠ 0) → (((l3 ≠ 0 ∧ l3 ≠ 1) → P (-2) w M) ∧ (l3 = 0 → (w.2 (orO M l1) = (4, 7)) ∧ ∃ Q9 : Int → NS → MM → Prop, CT_X3_asksFor G X.2.1 [(2, (orO M l1)), (2, (pcO M l2))] w M Q9 ∧ ∀ (z9 : Int) (w9 : NS) (M9 : MM), Q9 z9 w9 M9 → P (b2i (z9 ≠ 0)) w9 M9) ∧ (l3 = 1 → (w.2 (orO M l1) = (4, 7)) ∧ (w.2 (M (orO M l1) 1) = (9, 2)) ∧ ∃ Q13 : Int → NS → MM → Prop, CT_X8_isSo G X.2.1 [(2, (M (orO M l1) 1)), (2, (pcO M l2))] w M Q13 ∧ ∀ (z13 : Int) (w13 : NS) (M13 : MM), Q13 z13 w13 M13 → P (b2i (z13 ≠ 0)) w13 M13))) ∧ ((¬ ((pcO M l2) ≠ 0)) → P (-1) w M))))) : A_X9_wants_0 G X P l1 l2 l3 w M := by
  unfold A_X9_wants_0
  refine s_aload_n C dX9_wants_0 rfl ?_
  refine s_iload_n C dX9_wants_1 rfl ?_
  refine WA.fix (fun hF1 => ?_)
  obtain ⟨o2, h⟩ := h
  obtain ⟨o3, h⟩ := h
  refine s_callV (ci := 9) (av := [(0, l1)]) (rest := []) (mc := 0) (ms := 0) C dX9_wants_2 lk_X9_208 (sh_1 hF1) (by decide) rfl rfl rfl (Nat.le_of_ble_eq_true rfl) (by decide) (by decide) (pc_X9_orderOf o2 o3) (fun z4 wz4 Mz4 hq => ?_)
  obtain ⟨hq1, hq2, hq3⟩ := hq
  have hq2 := hq2.symm
  have hq3 := hq3.symm
  subst hq1 hq2 hq3
  refine s_astore (ls' := [(2, 1), (0, l1), (0, l2), (0, l3), (2, (orO M l1)), (3, 0)]) C dX9_wants_5 (by decide) rfl rfl ?_
  refine s_aload_n C dX9_wants_7 rfl ?_
  refine s_iload_n C dX9_wants_8 rfl ?_
  obtain ⟨o5, h⟩ := h
  obtain ⟨o6, h⟩ := h
  refine s_callV (ci := 9) (av := [(0, l2)]) (rest := []) (mc := 0) (ms := 0) C dX9_wants_9 lk_X9_158 (sh_1 hF1) (by decide) rfl rfl rfl (Nat.le_of_ble_eq_true rfl) (by decide) (by decide) (pc_X9_pieceOf o5 o6) (fun z7 wz7 Mz7 hq => ?_)
  obtain ⟨hq1, hq2, hq3⟩ := hq
  have hq2 := hq2.symm
  have hq3 := hq3.symm
  subst hq1 hq2 hq3
  refine s_astore (ls' := [(2, 1), (0, l1), (0, l2), (0, l3), (2, (orO M l1)), (2, (pcO M l2))]) C dX9_wants_12 (by decide) rfl rfl ?_
  refine s_aload C dX9_wants_14 rfl ?_
  refine s_ifnull C dX9_wants_16 rfl (fun hc => ?_) (fun hc => ?_)
  · have h := h.1 hc
    refine s_iconst C dX9_wants_24 (by decide) ?_
    exact s_ireturn C dX9_wants_25 h
  · have h := h.2 hc
    refine s_aload C dX9_wants_19 rfl ?_
    refine s_ifnonnull C dX9_wants_21 rfl (fun hc => ?_) (fun hc => ?_)
    · have h := h.1 hc
      refine s_iload_n C dX9_wants_26 rfl ?_
      rcases (show (l3 ≠ 0 ∧ l3 ≠ 1) ∨ l3 = 0 ∨ l3 = 1 from by omega) with hc | hc | hc
      · have h := h.1 hc
        refine s_lookup (off := 50) (tgt := 77) C dX9_wants_27 rfl (by simp [Op.lookupswitch.offset, Ne.symm hc.1, Ne.symm hc.2]) rfl ?_
        refine s_bipush C dX9_wants_77 ⟨rfl, by decide, by decide⟩ ?_
        exact s_ireturn C dX9_wants_79 h
      · have h := h.2.1 hc
        refine s_lookup (off := 25) (tgt := 52) C dX9_wants_27 rfl (by simp [Op.lookupswitch.offset, hc]) rfl ?_
        refine s_aload C dX9_wants_52 rfl ?_
        refine s_aload C dX9_wants_54 rfl ?_
        obtain ⟨o8, h⟩ := h
        obtain ⟨Q9, hKQ9, h⟩ := h
        refine s_callV (ci := 3) (av := [(2, (pcO M l2))]) (rest := []) (mc := 0) (ms := 0) C dX9_wants_56 lk_X9_212 o8 (by decide) rfl rfl rfl (Nat.le_of_ble_eq_true rfl) (by decide) (by decide) hKQ9 (fun z9 w9 M9 hq => ?_)
        have h := h z9 w9 M9 hq
        refine s_callS (av := [(0, z9)]) (rest := []) (mc := 0) (ms := 0) C dX9_wants_59 lk_X9_188 rfl rfl (Nat.le_of_ble_eq_true rfl) (by decide) (by decide) (pc_X9_oneIf) (fun z10 wz10 Mz10 hq => ?_)
        obtain ⟨hq1, hq2, hq3⟩ := hq
        have hq2 := hq2.symm
        have hq3 := hq3.symm
        subst hq1 hq2 hq3
        exact s_ireturn C dX9_wants_62 h
      · have h := h.2.2 hc
        refine s_lookup (off := 36) (tgt := 63) C dX9_wants_27 rfl (by simp [Op.lookupswitch.offset, hc]) rfl ?_
        refine s_aload C dX9_wants_63 rfl ?_
        obtain ⟨o11, h⟩ := h
        refine gf_X9_215 (v0 := (M (orO M l1) 1)) C o11 dX9_wants_65 rfl ?_
        refine s_aload C dX9_wants_68 rfl ?_
        obtain ⟨o12, h⟩ := h
        obtain ⟨Q13, hKQ13, h⟩ := h
        refine s_callV (ci := 8) (av := [(2, (pcO M l2))]) (rest := []) (mc := 0) (ms := 0) C dX9_wants_70 lk_X9_218 o12 (by decide) rfl rfl rfl (Nat.le_of_ble_eq_true rfl) (by decide) (by decide) hKQ13 (fun z13 w13 M13 hq => ?_)
        have h := h z13 w13 M13 hq
        refine s_callS (av := [(0, z13)]) (rest := []) (mc := 0) (ms := 0) C dX9_wants_73 lk_X9_188 rfl rfl (Nat.le_of_ble_eq_true rfl) (by decide) (by decide) (pc_X9_oneIf) (fun z14 wz14 Mz14 hq => ?_)
        obtain ⟨hq1, hq2, hq3⟩ := hq
        have hq2 := hq2.symm
        have hq3 := hq3.symm
        subst hq1 hq2 hq3
        exact s_ireturn C dX9_wants_76 h
    · have h := h.2 hc
      refine s_iconst C dX9_wants_24 (by decide) ?_
      exact s_ireturn C dX9_wants_25 h
theorem E_X9_wants {G : GP} {l : Launch} {P : Int → NS → MM → Prop} {l1 : Int} {l2 : Int} {l3 : Int} {w : NS} {M : MM} (h : inR l1 → inR l2 → inR l3 → ∀ X : BX, X.2.1 = l → CX_X9_wants G X → A_X9_wants_0 G X P l1 l2 l3 w M) : CT_X9_wants G l [(2, 1), (0, l1), (0, l2), (0, l3)] w M P :=
  CT.of RX9 "wants" (by decide +kernel) rfl rfl rfl (Nat.le_of_ble_eq_true rfl) (fun hr X hX C => h (hr (0, l1) (by simp)) (hr (0, l2) (by simp)) (hr (0, l3) (by simp)) X hX C)
def A_X9_changes_0 (G : GP) (X : BX) (P : Int → NS → MM → Prop) (l1 : Int) (l2 : Int) (w : NS) (M : MM) : Prop := WA true G X (QM G X true 0 P) 5 0 [(2, 1), (0, l1), (0, l2), (3, 0), (3, 0)] [] 0 0 w M
set_option maxHeartbeats 4000000 in
set_option maxRecDepth 100000 in
theorem B_X9_changes_0 {G : GP} {X : BX} {P : Int → NS → MM → Prop} {l1 : Int} {l2 : Int} {w : NS} {M : MM} (C : CX_X9_changes G X) (h : (0 ≤ M 1 4) ∧ (M 1 4 ≤ 24) ∧ ((((pcO M l1) = 0) → P (-1) w M) ∧ ((¬ ((pcO M l1) = 0)) → ((((pcO M l2) ≠ 0) → ∃ Q6 : Int → NS → MM → Prop, CT_X1_leastChanges G X.2.1 [(2, 9), (2, (pcO M l1)), (2, (pcO M l2))] w M Q6 ∧ ∀ (z6 : Int) (w6 : NS) (M6 : MM), Q6 z6 w6 M6 → P z6 w6 M6) ∧ ((¬ ((pcO M l2) ≠ 0)) → P (-1) w M))))) : A_X9_changes_0 G X P l1 l2 w M := by
  unfold A_X9_changes_0
  refine s_aload_n C dX9_changes_0 rfl ?_
  refine s_iload_n C dX9_changes_1 rfl ?_
  refine WA.fix (fun hF1 => ?_)
  obtain ⟨o2, h⟩ := h
  obtain ⟨o3, h⟩ := h
  refine s_callV (ci := 9) (av := [(0, l1)]) (rest := []) (mc := 0) (ms := 0) C dX9_changes_2 lk_X9_158 (sh_1 hF1) (by decide) rfl rfl rfl (Nat.le_of_ble_eq_true rfl) (by decide) (by decide) (pc_X9_pieceOf o2 o3) (fun z4 wz4 Mz4 hq => ?_)
  obtain ⟨hq1, hq2, hq3⟩ := hq
  have hq2 := hq2.symm
  have hq3 := hq3.symm
  subst hq1 hq2 hq3
  refine s_astore_n (ls' := [(2, 1), (0, l1), (0, l2), (2, (pcO M l1)), (3, 0)]) C dX9_changes_5 (by decide) rfl rfl ?_
  refine s_aload_n C dX9_changes_6 rfl ?_
  refine s_iload_n C dX9_changes_7 rfl ?_
  refine s_callV (ci := 9) (av := [(0, l2)]) (rest := []) (mc := 0) (ms := 0) C dX9_changes_8 lk_X9_158 (sh_1 hF1) (by decide) rfl rfl rfl (Nat.le_of_ble_eq_true rfl) (by decide) (by decide) (pc_X9_pieceOf o2 o3) (fun z5 wz5 Mz5 hq => ?_)
  obtain ⟨hq1, hq2, hq3⟩ := hq
  have hq2 := hq2.symm
  have hq3 := hq3.symm
  subst hq1 hq2 hq3
  refine s_astore (ls' := [(2, 1), (0, l1), (0, l2), (2, (pcO M l1)), (2, (pcO M l2))]) C dX9_changes_11 (by decide) rfl rfl ?_
  refine s_aload_n C dX9_changes_13 rfl ?_
  refine s_ifnull C dX9_changes_14 rfl (fun hc => ?_) (fun hc => ?_)
  · have h := h.1 hc
    refine s_iconst C dX9_changes_22 (by decide) ?_
    exact s_ireturn C dX9_changes_23 h
  · have h := h.2 hc
    refine s_aload C dX9_changes_17 rfl ?_
    refine s_ifnonnull C dX9_changes_19 rfl (fun hc => ?_) (fun hc => ?_)
    · have h := h.1 hc
      refine s_aload_n C dX9_changes_24 rfl ?_
      refine gf_X9_54 C (sh_1 hF1) dX9_changes_25 (fx_1_9 hF1) ?_
      refine s_aload_n C dX9_changes_28 rfl ?_
      refine s_aload C dX9_changes_29 rfl ?_
      obtain ⟨Q6, hKQ6, h⟩ := h
      refine s_callV (ci := 1) (av := [(2, (pcO M l1)), (2, (pcO M l2))]) (rest := []) (mc := 0) (ms := 0) C dX9_changes_31 lk_X9_221 (sh_9 hF1) (by decide) rfl rfl rfl (Nat.le_of_ble_eq_true rfl) (by decide) (by decide) hKQ6 (fun z6 w6 M6 hq => ?_)
      have h := h z6 w6 M6 hq
      exact s_ireturn C dX9_changes_34 h
    · have h := h.2 hc
      refine s_iconst C dX9_changes_22 (by decide) ?_
      exact s_ireturn C dX9_changes_23 h
theorem E_X9_changes {G : GP} {l : Launch} {P : Int → NS → MM → Prop} {l1 : Int} {l2 : Int} {w : NS} {M : MM} (h : inR l1 → inR l2 → ∀ X : BX, X.2.1 = l → CX_X9_changes G X → A_X9_changes_0 G X P l1 l2 w M) : CT_X9_changes G l [(2, 1), (0, l1), (0, l2)] w M P :=
  CT.of RX9 "changes" (by decide +kernel) rfl rfl rfl (Nat.le_of_ble_eq_true rfl) (fun hr X hX C => h (hr (0, l1) (by simp)) (hr (0, l2) (by simp)) X hX C)
def A_X9_set_0 (G : GP) (X : BX) (P : Int → NS → MM → Prop) (l1 : Int) (l2 : Int) (w : NS) (M : MM) : Prop := WA true G X (QM G X true 0 P) 4 0 [(2, 1), (0, l1), (0, l2), (3, 0)] [] 0 0 w M
set_option maxHeartbeats 4000000 in
set_option maxRecDepth 100000 in
theorem B_X9_set_0 {G : GP} {X : BX} {P : Int → NS → MM → Prop} {l1 : Int} {l2 : Int} {w : NS} {M : MM} (C : CX_X9_set G X) (h : (((¬ (0 ≤ l1 ∧ l1 ≤ 8)) → P (-2) w M) ∧ (((0 ≤ l1 ∧ l1 ≤ 8)) → (0 ≤ l1) ∧ (l1 < 9) ∧ (((((LSf l1.toNat) ≤ l2 ∧ l2 ≤ (GSf l1.toNat))) → (((l1 ≠ 0) → P (M 2 l1) w (up M 2 l1 l2)) ∧ ((¬ (l1 ≠ 0)) → P (M 2 l1) w (up (up M 2 l1 l2) 9 0 0)))) ∧ ((¬ ((LSf l1.toNat) ≤ l2 ∧ l2 ≤ (GSf l1.toNat))) → P (-2) w M))))) : A_X9_set_0 G X P l1 l2 w M := by
  unfold A_X9_set_0
  refine s_iload_n C dX9_set_0 rfl ?_
  refine s_iconst C dX9_set_1 (by decide) ?_
  refine s_bipush C dX9_set_2 ⟨rfl, by decide, by decide⟩ ?_
  refine s_callS (av := [(0, l1), (0, 0), (0, 8)]) (rest := []) (mc := 0) (ms := 0) C dX9_set_4 lk_X9_95 rfl rfl (Nat.le_of_ble_eq_true rfl) (by decide) (by decide) (pc_X9_within) (fun z1 wz1 Mz1 hq => ?_)
  obtain ⟨hq1, hq2, hq3⟩ := hq
  have hq2 := hq2.symm
  have hq3 := hq3.symm
  subst hq1 hq2 hq3
  refine s_ifeq C dX9_set_7 rfl (fun hc => ?_) (fun hc => ?_)
  · have h := h.1 (b2i_0.mp hc)
    refine s_bipush C dX9_set_27 ⟨rfl, by decide, by decide⟩ ?_
    exact s_ireturn C dX9_set_29 h
  · have h := h.2 (b2i_n0 hc)
    refine s_iload_n C dX9_set_10 rfl ?_
    refine s_gets (e := 1) C (by decide) C.2.2.2.2.2.2.1.1.1 (mG (wd_573) rfl) dX9_set_11 ?_
    refine s_iload_n C dX9_set_14 rfl ?_
    obtain ⟨o2, h⟩ := h
    obtain ⟨o3, h⟩ := h
    refine s_tald (e := 1) C (by decide) C.2.2.2.2.2.2.1.1.2 LSf_r o2 o3 dX9_set_15 ?_
    refine s_gets (e := 2) C (by decide) C.2.2.2.2.2.2.1.2.1.1 (mG (wd_575) rfl) dX9_set_16 ?_
    refine s_iload_n C dX9_set_19 rfl ?_
    refine s_tald (e := 2) C (by decide) C.2.2.2.2.2.2.1.2.1.2 GSf_r o2 o3 dX9_set_20 ?_
    refine s_callS (av := [(0, l2), (0, (LSf l1.toNat)), (0, (GSf l1.toNat))]) (rest := []) (mc := 0) (ms := 0) C dX9_set_21 lk_X9_95 rfl rfl (Nat.le_of_ble_eq_true rfl) (by decide) (by decide) (pc_X9_within) (fun z4 wz4 Mz4 hq => ?_)
    obtain ⟨hq1, hq2, hq3⟩ := hq
    have hq2 := hq2.symm
    have hq3 := hq3.symm
    subst hq1 hq2 hq3
    refine s_ifne C dX9_set_24 rfl (fun hc => ?_) (fun hc => ?_)
    · have h := h.1 (b2i_n0 hc)
      refine s_aload_n C dX9_set_30 rfl ?_
      refine WA.fix (fun hF5 => ?_)
      refine gf_X9_7 C (sh_1 hF5) dX9_set_31 (fx_1_0 hF5) ?_
      refine s_iload_n C dX9_set_34 rfl ?_
      refine s_iald (v0 := (M 2 l1)) C (sh_2 hF5) o2 o3 dX9_set_35 rfl ?_
      refine s_istore_n (ls' := [(2, 1), (0, l1), (0, l2), (0, (M 2 l1))]) C dX9_set_36 (by decide) rfl rfl ?_
      refine s_aload_n C dX9_set_37 rfl ?_
      refine gf_X9_7 C (sh_1 hF5) dX9_set_38 (fx_1_0 hF5) ?_
      refine s_iload_n C dX9_set_41 rfl ?_
      refine s_iload_n C dX9_set_42 rfl ?_
      refine s_iast C (sh_2 hF5) o2 o3 (fun _ => by decide) dX9_set_43 ?_
      refine s_iload_n C dX9_set_44 rfl ?_
      refine s_ifne C dX9_set_45 rfl (fun hc => ?_) (fun hc => ?_)
      · have h := h.1 hc
        refine s_iload_n C dX9_set_56 rfl ?_
        exact s_ireturn C dX9_set_57 h
      · have h := h.2 hc
        refine s_aload_n C dX9_set_48 rfl ?_
        refine WA.fix (fun hF6 => ?_)
        refine gf_X9_54 C (sh_1 hF5) dX9_set_49 (fx_1_9 hF6) ?_
        refine s_iconst C dX9_set_52 (by decide) ?_
        refine pf_X9_124 C (sh_9 hF6) (by decide) (fun _ => by decide) dX9_set_53 ?_
        refine s_iload_n C dX9_set_56 rfl ?_
        exact s_ireturn C dX9_set_57 h
    · have h := h.2 (b2i_nn hc)
      refine s_bipush C dX9_set_27 ⟨rfl, by decide, by decide⟩ ?_
      exact s_ireturn C dX9_set_29 h
theorem E_X9_set {G : GP} {l : Launch} {P : Int → NS → MM → Prop} {l1 : Int} {l2 : Int} {w : NS} {M : MM} (h : inR l1 → inR l2 → ∀ X : BX, X.2.1 = l → CX_X9_set G X → A_X9_set_0 G X P l1 l2 w M) : CT_X9_set G l [(2, 1), (0, l1), (0, l2)] w M P :=
  CT.of RX9 "set" (by decide +kernel) rfl rfl rfl (Nat.le_of_ble_eq_true rfl) (fun hr X hX C => h (hr (0, l1) (by simp)) (hr (0, l2) (by simp)) X hX C)
def A_X9_gatherList_0 (G : GP) (X : BX) (P : Int → NS → MM → Prop) (l1 : Int) (l2 : Int) (w : NS) (M : MM) : Prop := WA true G X (QM G X true 4 P) 6 0 [(2, 1), (2, l1), (0, l2), (3, 0), (3, 0), (3, 0)] [] 0 0 w M
def A_X9_gatherList_38 (G : GP) (X : BX) (P : Int → NS → MM → Prop) (l1 : Int) (l2 : Int) (l3 : Int) (l4 : Int) (w : NS) (M : MM) : Prop := WA true G X (QM G X true 4 P) 6 38 [(2, 1), (2, l1), (0, l2), (0, l3), (0, l4), (3, 0)] [] 0 0 w M
set_option maxHeartbeats 4000000 in
set_option maxRecDepth 100000 in
theorem B_X9_gatherList_0 {G : GP} {X : BX} {P : Int → NS → MM → Prop} {l1 : Int} {l2 : Int} {w : NS} {M : MM} (C : CX_X9_gatherList G X) (h : (w.2 l1 = (4, 7)) ∧ ((((M l1 6) = 0) → A_X9_gatherList_38 G X P l1 l2 0 0 w (up M 1 11 0)) ∧ ((¬ ((M l1 6) = 0)) → ∃ Q4 : Int → NS → MM → Prop, CT_X1_gather G X.2.1 [(2, 9), (2, 5), (0, (M 1 4)), (0, (M 2 0))] w M Q4 ∧ ∀ (z4 : Int) (w4 : NS) (M4 : MM), Q4 z4 w4 M4 → A_X9_gatherList_38 G X P l1 l2 0 0 w4 (up M4 1 11 0)))) : A_X9_gatherList_0 G X P l1 l2 w M := by
  unfold A_X9_gatherList_0
  refine s_aload_n C dX9_gatherList_0 rfl ?_
  obtain ⟨o1, h⟩ := h
  refine gf_X9_334 (v0 := (M l1 6)) C o1 dX9_gatherList_1 rfl ?_
  refine s_ifeq C dX9_gatherList_4 rfl (fun hc => ?_) (fun hc => ?_)
  · have h := h.1 hc
    refine s_aload_n C dX9_gatherList_28 rfl ?_
    refine s_iconst C dX9_gatherList_29 (by decide) ?_
    refine WA.fix (fun hF2 => ?_)
    refine pf_X9_61 C (sh_1 hF2) (fun _ => by decide) dX9_gatherList_30 ?_
    refine s_iconst C dX9_gatherList_33 (by decide) ?_
    refine s_istore_n (ls' := [(2, 1), (2, l1), (0, l2), (0, 0), (3, 0), (3, 0)]) C dX9_gatherList_34 (by decide) rfl rfl ?_
    refine s_iconst C dX9_gatherList_35 (by decide) ?_
    refine s_istore (ls' := [(2, 1), (2, l1), (0, l2), (0, 0), (0, 0), (3, 0)]) C dX9_gatherList_36 (by decide) rfl rfl ?_
    exact h
  · have h := h.2 hc
    refine s_aload_n C dX9_gatherList_7 rfl ?_
    refine WA.fix (fun hF3 => ?_)
    refine gf_X9_54 C (sh_1 hF3) dX9_gatherList_8 (fx_1_9 hF3) ?_
    refine s_aload_n C dX9_gatherList_11 rfl ?_
    refine gf_X9_32 C (sh_1 hF3) dX9_gatherList_12 (fx_1_5 hF3) ?_
    refine s_aload_n C dX9_gatherList_15 rfl ?_
    refine gf_X9_29 (v0 := (M 1 4)) C (sh_1 hF3) dX9_gatherList_16 rfl ?_
    refine s_aload_n C dX9_gatherList_19 rfl ?_
    refine gf_X9_7 C (sh_1 hF3) dX9_gatherList_20 (fx_1_0 hF3) ?_
    refine s_iconst C dX9_gatherList_23 (by decide) ?_
    refine s_iald (v0 := (M 2 0)) C (sh_2 hF3) (by decide) (by decide) dX9_gatherList_24 rfl ?_
    obtain ⟨Q4, hKQ4, h⟩ := h
    refine s_callV (ci := 1) (av := [(2, 5), (0, (M 1 4)), (0, (M 2 0))]) (rest := []) (mc := 0) (ms := 0) C dX9_gatherList_25 lk_X9_162 (sh_9 hF3) (by decide) rfl rfl rfl (Nat.le_of_ble_eq_true rfl) (by decide) (by decide) hKQ4 (fun z4 w4 M4 hq => ?_)
    have h := h z4 w4 M4 hq
    refine s_aload_n C dX9_gatherList_28 rfl ?_
    refine s_iconst C dX9_gatherList_29 (by decide) ?_
    refine WA.fix (fun hF5 => ?_)
    refine pf_X9_61 C (sh_1 hF5) (fun _ => by decide) dX9_gatherList_30 ?_
    refine s_iconst C dX9_gatherList_33 (by decide) ?_
    refine s_istore_n (ls' := [(2, 1), (2, l1), (0, l2), (0, 0), (3, 0), (3, 0)]) C dX9_gatherList_34 (by decide) rfl rfl ?_
    refine s_iconst C dX9_gatherList_35 (by decide) ?_
    refine s_istore (ls' := [(2, 1), (2, l1), (0, l2), (0, 0), (0, 0), (3, 0)]) C dX9_gatherList_36 (by decide) rfl rfl ?_
    exact h
set_option maxHeartbeats 4000000 in
set_option maxRecDepth 100000 in
theorem B_X9_gatherList_38 {G : GP} {X : BX} {P : Int → NS → MM → Prop} {l1 : Int} {l2 : Int} {l3 : Int} {l4 : Int} {w : NS} {M : MM} (C : CX_X9_gatherList G X) (h : ((((M 1 4) ≤ l4) → P 0 w M) ∧ ((¬ ((M 1 4) ≤ l4)) → (0 ≤ l4) ∧ (l4 < 24) ∧ (w.2 l1 = (4, 7)) ∧ ∃ Q5 : Int → NS → MM → Prop, CT_X3_asksFor G X.2.1 [(2, l1), (2, (M 5 l4))] w M Q5 ∧ ∀ (z5 : Int) (w5 : NS) (M5 : MM), Q5 z5 w5 M5 → (((z5 ≠ 0) → (w5.2 l1 = (4, 7)) ∧ ((((M5 l1 6) = 0) → (w5.2 (M 5 l4) = (7, 12)) ∧ (w5.2 (M5 (M 5 l4) 1) = (5, 5)) ∧ ((((M5 (M5 (M 5 l4) 1) 2) ≠ l2) → (inR (l4 + 1)) ∧ A_X9_gatherList_38 G X P l1 l2 (zor l3 (zshl 1 (M5 (M 5 l4) 8))) (l4 + 1) w5 M5) ∧ ((¬ ((M5 (M5 (M 5 l4) 1) 2) ≠ l2)) → ((((M5 l1 5) ≤ (M5 1 11)) → (inR (l4 + 1)) ∧ A_X9_gatherList_38 G X P l1 l2 (zor l3 (zshl 1 (M5 (M 5 l4) 8))) (l4 + 1) w5 M5) ∧ ((¬ ((M5 l1 5) ≤ (M5 1 11))) → (0 ≤ (M5 1 11)) ∧ ((M5 1 11) < 24) ∧ (inR ((M5 1 11) + 1)) ∧ (inR (l4 + 1)) ∧ A_X9_gatherList_38 G X P l1 l2 (zor l3 (zshl 1 (M5 (M 5 l4) 8))) (l4 + 1) w5 (up (up M5 12 (M5 1 11) (M5 (M 5 l4) 0)) 1 11 ((M5 1 11) + 1))))))) ∧ ((¬ ((M5 l1 6) = 0)) → (w5.2 (M 5 l4) = (7, 12)) ∧ (((¬ (zand (zshr l3 (M5 (M 5 l4) 8)) 1 = 1)) → (w5.2 (M5 (M 5 l4) 1) = (5, 5)) ∧ ((((M5 (M5 (M 5 l4) 1) 2) ≠ l2) → (inR (l4 + 1)) ∧ A_X9_gatherList_38 G X P l1 l2 (zor l3 (zshl 1 (M5 (M 5 l4) 8))) (l4 + 1) w5 M5) ∧ ((¬ ((M5 (M5 (M 5 l4) 1) 2) ≠ l2)) → ((((M5 l1 5) ≤ (M5 1 11)) → (inR (l4 + 1)) ∧ A_X9_gatherList_38 G X P l1 l2 (zor l3 (zshl 1 (M5 (M 5 l4) 8))) (l4 + 1) w5 M5) ∧ ((¬ ((M5 l1 5) ≤ (M5 1 11))) → (0 ≤ (M5 1 11)) ∧ ((M5 1 11) < 24) ∧ (inR ((M5 1 11) + 1)) ∧ (inR (l4 + 1)) ∧ A_X9_gatherList_38 G X P l1 l2 (zor l3 (zshl 1 (M5 (M 5 l4) 8))) (l4 + 1) w5 (up (up M5 12 (M5 1 11) (M5 (M 5 l4) 0)) 1 11 ((M5 1 11) + 1))))))) ∧ (((zand (zshr l3 (M5 (M 5 l4) 8)) 1 = 1)) → (inR (l4 + 1)) ∧ A_X9_gatherList_38 G X P l1 l2 l3 (l4 + 1) w5 M5))))) ∧ ((¬ (z5 ≠ 0)) → (inR (l4 + 1)) ∧ A_X9_gatherList_38 G X P l1 l2 l3 (l4 + 1) w5 M5))))) : A_X9_gatherList_38 G X P l1 l2 l3 l4 w M := by
  unfold A_X9_gatherList_38
  refine s_iload C dX9_gatherList_38 rfl ?_
  refine s_aload_n C dX9_gatherList_40 rfl ?_
  refine WA.fix (fun hF1 => ?_)
  refine gf_X9_29 (v0 := (M 1 4)) C (sh_1 hF1) dX9_gatherList_41 rfl ?_
  refine s_icmpge C dX9_gatherList_44 rfl (fun hc => ?_) (fun hc => ?_)
  · have h := h.1 hc
    exact s_vreturn C dX9_gatherList_153 h
  · have h := h.2 hc
    refine s_aload_n C dX9_gatherList_47 rfl ?_
    refine gf_X9_32 C (sh_1 hF1) dX9_gatherList_48 (fx_1_5 hF1) ?_
    refine s_iload C dX9_gatherList_51 rfl ?_
    obtain ⟨o2, h⟩ := h
    obtain ⟨o3, h⟩ := h
    refine s_aald (v0 := (M 5 l4)) (t0 := 6) C (sh_5 hF1) (by decide) rfl o2 o3 dX9_gatherList_53 rfl ?_
    refine s_astore (ls' := [(2, 1), (2, l1), (0, l2), (0, l3), (0, l4), (2, (M 5 l4))]) C dX9_gatherList_54 (by decide) rfl rfl ?_
    refine s_aload_n C dX9_gatherList_56 rfl ?_
    refine s_aload C dX9_gatherList_57 rfl ?_
    obtain ⟨o4, h⟩ := h
    obtain ⟨Q5, hKQ5, h⟩ := h
    refine s_callV (ci := 3) (av := [(2, (M 5 l4))]) (rest := []) (mc := 0) (ms := 0) C dX9_gatherList_59 lk_X9_212 o4 (by decide) rfl rfl rfl (Nat.le_of_ble_eq_true rfl) (by decide) (by decide) hKQ5 (fun z5 w5 M5 hq => ?_)
    have h := h z5 w5 M5 hq
    refine s_ifne C dX9_gatherList_62 rfl (fun hc => ?_) (fun hc => ?_)
    · have h := h.1 hc
      refine s_aload_n C dX9_gatherList_68 rfl ?_
      obtain ⟨o6, h⟩ := h
      refine gf_X9_334 (v0 := (M5 l1 6)) C o6 dX9_gatherList_69 rfl ?_
      refine s_ifeq C dX9_gatherList_72 rfl (fun hc => ?_) (fun hc => ?_)
      · have h := h.1 hc
        refine s_iload_n C dX9_gatherList_90 rfl ?_
        refine s_iconst C dX9_gatherList_91 (by decide) ?_
        refine s_aload C dX9_gatherList_92 rfl ?_
        obtain ⟨o7, h⟩ := h
        refine gf_X9_177 (v0 := (M5 (M 5 l4) 8)) C o7 dX9_gatherList_94 rfl ?_
        refine s_ishl C dX9_gatherList_97 ?_
        refine s_ior C dX9_gatherList_98 ?_
        refine s_istore_n (ls' := [(2, 1), (2, l1), (0, l2), (0, (zor l3 (zshl 1 (M5 (M 5 l4) 8)))), (0, l4), (2, (M 5 l4))]) C dX9_gatherList_99 (by decide) rfl rfl ?_
        refine s_aload C dX9_gatherList_100 rfl ?_
        refine gf_X9_166 (v0 := (M5 (M 5 l4) 1)) C o7 dX9_gatherList_102 rfl ?_
        obtain ⟨o8, h⟩ := h
        refine gf_X9_131 (v0 := (M5 (M5 (M 5 l4) 1) 2)) C o8 dX9_gatherList_105 rfl ?_
        refine s_iload_n C dX9_gatherList_108 rfl ?_
        refine s_icmpne C dX9_gatherList_109 rfl (fun hc => ?_) (fun hc => ?_)
        · have h := h.1 hc
          obtain ⟨o9, h⟩ := h
          refine s_iinc (ls' := [(2, 1), (2, l1), (0, l2), (0, (zor l3 (zshl 1 (M5 (M 5 l4) 8)))), (0, (l4 + 1)), (2, (M 5 l4))]) C dX9_gatherList_147 (by decide) rfl o9 rfl rfl ?_
          refine s_goto C dX9_gatherList_150 rfl ?_
          exact WA.wk h ⟨Or.inr rfl, Or.inr rfl, Or.inr rfl, Or.inr rfl, Or.inr rfl, Or.inl rfl, trivial⟩
        · have h := h.2 hc
          refine s_aload_n C dX9_gatherList_112 rfl ?_
          refine WA.fix (fun hF10 => ?_)
          refine gf_X9_61 (v0 := (M5 1 11)) C (sh_1 hF10) dX9_gatherList_113 rfl ?_
          refine s_aload_n C dX9_gatherList_116 rfl ?_
          refine gf_X9_337 (v0 := (M5 l1 5)) C o6 dX9_gatherList_117 rfl ?_
          refine s_icmpge C dX9_gatherList_120 rfl (fun hc => ?_) (fun hc => ?_)
          · have h := h.1 hc
            obtain ⟨o11, h⟩ := h
            refine s_iinc (ls' := [(2, 1), (2, l1), (0, l2), (0, (zor l3 (zshl 1 (M5 (M 5 l4) 8)))), (0, (l4 + 1)), (2, (M 5 l4))]) C dX9_gatherList_147 (by decide) rfl o11 rfl rfl ?_
            refine s_goto C dX9_gatherList_150 rfl ?_
            exact WA.wk h ⟨Or.inr rfl, Or.inr rfl, Or.inr rfl, Or.inr rfl, Or.inr rfl, Or.inl rfl, trivial⟩
          · have h := h.2 hc
            refine s_aload_n C dX9_gatherList_123 rfl ?_
            refine gf_X9_58 C (sh_1 hF10) dX9_gatherList_124 (fx_1_10 hF10) ?_
            refine s_aload_n C dX9_gatherList_127 rfl ?_
            refine gf_X9_61 (v0 := (M5 1 11)) C (sh_1 hF10) dX9_gatherList_128 rfl ?_
            refine s_aload C dX9_gatherList_131 rfl ?_
            refine gf_X9_324 (v0 := (M5 (M 5 l4) 0)) C o7 dX9_gatherList_133 rfl ?_
            obtain ⟨o12, h⟩ := h
            obtain ⟨o13, h⟩ := h
            refine s_iast C (sh_12 hF10) o12 o13 (fun _ => by decide) dX9_gatherList_136 ?_
            refine s_aload_n C dX9_gatherList_137 rfl ?_
            refine s_dup C (by simp) dX9_gatherList_138 ?_
            refine gf_X9_61 (v0 := (M5 1 11)) C (sh_1 hF10) dX9_gatherList_139 (up_na (by decide)) ?_
            refine s_iconst C dX9_gatherList_142 (by decide) ?_
            obtain ⟨o14, h⟩ := h
            refine s_iadd C dX9_gatherList_143 o14 ?_
            refine pf_X9_61 C (sh_1 hF10) (fun _ => by decide) dX9_gatherList_144 ?_
            obtain ⟨o15, h⟩ := h
            refine s_iinc (ls' := [(2, 1), (2, l1), (0, l2), (0, (zor l3 (zshl 1 (M5 (M 5 l4) 8)))), (0, (l4 + 1)), (2, (M 5 l4))]) C dX9_gatherList_147 (by decide) rfl o15 rfl rfl ?_
            refine s_goto C dX9_gatherList_150 rfl ?_
            exact WA.wk h ⟨Or.inr rfl, Or.inr rfl, Or.inr rfl, Or.inr rfl, Or.inr rfl, Or.inl rfl, trivial⟩
      · have h := h.2 hc
        refine s_iload_n C dX9_gatherList_75 rfl ?_
        refine s_aload C dX9_gatherList_76 rfl ?_
        obtain ⟨o16, h⟩ := h
        refine gf_X9_177 (v0 := (M5 (M 5 l4) 8)) C o16 dX9_gatherList_78 rfl ?_
        refine s_callS (av := [(0, l3), (0, (M5 (M 5 l4) 8))]) (rest := []) (mc := 0) (ms := 0) C dX9_gatherList_81 lk_X9_292 rfl rfl (Nat.le_of_ble_eq_true rfl) (by decide) (by decide) (pc_X9_hasBit) (fun z17 wz17 Mz17 hq => ?_)
        obtain ⟨hq1, hq2, hq3⟩ := hq
        have hq2 := hq2.symm
        have hq3 := hq3.symm
        subst hq1 hq2 hq3
        refine s_ifeq C dX9_gatherList_84 rfl (fun hc => ?_) (fun hc => ?_)
        · have h := h.1 (b2i_0.mp hc)
          refine s_iload_n C dX9_gatherList_90 rfl ?_
          refine s_iconst C dX9_gatherList_91 (by decide) ?_
          refine s_aload C dX9_gatherList_92 rfl ?_
          refine gf_X9_177 (v0 := (M5 (M 5 l4) 8)) C o16 dX9_gatherList_94 rfl ?_
          refine s_ishl C dX9_gatherList_97 ?_
          refine s_ior C dX9_gatherList_98 ?_
          refine s_istore_n (ls' := [(2, 1), (2, l1), (0, l2), (0, (zor l3 (zshl 1 (M5 (M 5 l4) 8)))), (0, l4), (2, (M 5 l4))]) C dX9_gatherList_99 (by decide) rfl rfl ?_
          refine s_aload C dX9_gatherList_100 rfl ?_
          refine gf_X9_166 (v0 := (M5 (M 5 l4) 1)) C o16 dX9_gatherList_102 rfl ?_
          obtain ⟨o18, h⟩ := h
          refine gf_X9_131 (v0 := (M5 (M5 (M 5 l4) 1) 2)) C o18 dX9_gatherList_105 rfl ?_
          refine s_iload_n C dX9_gatherList_108 rfl ?_
          refine s_icmpne C dX9_gatherList_109 rfl (fun hc => ?_) (fun hc => ?_)
          · have h := h.1 hc
            obtain ⟨o19, h⟩ := h
            refine s_iinc (ls' := [(2, 1), (2, l1), (0, l2), (0, (zor l3 (zshl 1 (M5 (M 5 l4) 8)))), (0, (l4 + 1)), (2, (M 5 l4))]) C dX9_gatherList_147 (by decide) rfl o19 rfl rfl ?_
            refine s_goto C dX9_gatherList_150 rfl ?_
            exact WA.wk h ⟨Or.inr rfl, Or.inr rfl, Or.inr rfl, Or.inr rfl, Or.inr rfl, Or.inl rfl, trivial⟩
          · have h := h.2 hc
            refine s_aload_n C dX9_gatherList_112 rfl ?_
            refine WA.fix (fun hF20 => ?_)
            refine gf_X9_61 (v0 := (M5 1 11)) C (sh_1 hF20) dX9_gatherList_113 rfl ?_
            refine s_aload_n C dX9_gatherList_116 rfl ?_
            refine gf_X9_337 (v0 := (M5 l1 5)) C o6 dX9_gatherList_117 rfl ?_
            refine s_icmpge C dX9_gatherList_120 rfl (fun hc => ?_) (fun hc => ?_)
            · have h := h.1 hc
              obtain ⟨o21, h⟩ := h
              refine s_iinc (ls' := [(2, 1), (2, l1), (0, l2), (0, (zor l3 (zshl 1 (M5 (M 5 l4) 8)))), (0, (l4 + 1)), (2, (M 5 l4))]) C dX9_gatherList_147 (by decide) rfl o21 rfl rfl ?_
              refine s_goto C dX9_gatherList_150 rfl ?_
              exact WA.wk h ⟨Or.inr rfl, Or.inr rfl, Or.inr rfl, Or.inr rfl, Or.inr rfl, Or.inl rfl, trivial⟩
            · have h := h.2 hc
              refine s_aload_n C dX9_gatherList_123 rfl ?_
              refine gf_X9_58 C (sh_1 hF20) dX9_gatherList_124 (fx_1_10 hF20) ?_
              refine s_aload_n C dX9_gatherList_127 rfl ?_
              refine gf_X9_61 (v0 := (M5 1 11)) C (sh_1 hF20) dX9_gatherList_128 rfl ?_
              refine s_aload C dX9_gatherList_131 rfl ?_
              refine gf_X9_324 (v0 := (M5 (M 5 l4) 0)) C o16 dX9_gatherList_133 rfl ?_
              obtain ⟨o22, h⟩ := h
              obtain ⟨o23, h⟩ := h
              refine s_iast C (sh_12 hF20) o22 o23 (fun _ => by decide) dX9_gatherList_136 ?_
              refine s_aload_n C dX9_gatherList_137 rfl ?_
              refine s_dup C (by simp) dX9_gatherList_138 ?_
              refine gf_X9_61 (v0 := (M5 1 11)) C (sh_1 hF20) dX9_gatherList_139 (up_na (by decide)) ?_
              refine s_iconst C dX9_gatherList_142 (by decide) ?_
              obtain ⟨o24, h⟩ := h
              refine s_iadd C dX9_gatherList_143 o24 ?_
              refine pf_X9_61 C (sh_1 hF20) (fun _ => by decide) dX9_gatherList_144 ?_
              obtain ⟨o25, h⟩ := h
              refine s_iinc (ls' := [(2, 1), (2, l1), (0, l2), (0, (zor l3 (zshl 1 (M5 (M 5 l4) 8)))), (0, (l4 + 1)), (2, (M 5 l4))]) C dX9_gatherList_147 (by decide) rfl o25 rfl rfl ?_
              refine s_goto C dX9_gatherList_150 rfl ?_
              exact WA.wk h ⟨Or.inr rfl, Or.inr rfl, Or.inr rfl, Or.inr rfl, Or.inr rfl, Or.inl rfl, trivial⟩
        · have h := h.2 (b2i_n0 hc)
          refine s_goto C dX9_gatherList_87 rfl ?_
          obtain ⟨o26, h⟩ := h
          refine s_iinc (ls' := [(2, 1), (2, l1), (0, l2), (0, l3), (0, (l4 + 1)), (2, (M 5 l4))]) C dX9_gatherList_147 (by decide) rfl o26 rfl rfl ?_
          refine s_goto C dX9_gatherList_150 rfl ?_
          exact WA.wk h ⟨Or.inr rfl, Or.inr rfl, Or.inr rfl, Or.inr rfl, Or.inr rfl, Or.inl rfl, trivial⟩
    · have h := h.2 hc
      refine s_goto C dX9_gatherList_65 rfl ?_
      obtain ⟨o27, h⟩ := h
      refine s_iinc (ls' := [(2, 1), (2, l1), (0, l2), (0, l3), (0, (l4 + 1)), (2, (M 5 l4))]) C dX9_gatherList_147 (by decide) rfl o27 rfl rfl ?_
      refine s_goto C dX9_gatherList_150 rfl ?_
      exact WA.wk h ⟨Or.inr rfl, Or.inr rfl, Or.inr rfl, Or.inr rfl, Or.inr rfl, Or.inl rfl, trivial⟩
theorem E_X9_gatherList {G : GP} {l : Launch} {P : Int → NS → MM → Prop} {l1 : Int} {l2 : Int} {w : NS} {M : MM} (h : inR l2 → ∀ X : BX, X.2.1 = l → CX_X9_gatherList G X → A_X9_gatherList_0 G X P l1 l2 w M) : CT_X9_gatherList G l [(2, 1), (2, l1), (0, l2)] w M P :=
  CT.of RX9 "gatherList" (by decide +kernel) rfl rfl rfl (Nat.le_of_ble_eq_true rfl) (fun hr X hX C => h (hr (0, l2) (by simp)) X hX C)
def A_X9_list_0 (G : GP) (X : BX) (P : Int → NS → MM → Prop) (l1 : Int) (l2 : Int) (l3 : Int) (w : NS) (M : MM) : Prop := WA true G X (QM G X true 0 P) 5 0 [(2, 1), (0, l1), (0, l2), (0, l3), (3, 0)] [] 0 0 w M
set_option maxHeartbeats 4000000 in
set_option maxRecDepth 100000 in
theorem B_X9_list_0 {G : GP} {X : BX} {P : Int → NS → MM → Prop} {l1 : Int} {l2 : Int} {l3 : Int} {w : NS} {M : MM} (C : CX_X9_list G X) (h : (0 ≤ M 1 7) ∧ (M 1 7 ≤ 10) ∧ ((((orO M l1) ≠ 0) → ((((0 ≤ l2 ∧ l2 ≤ 99)) → ∃ Q6 : Int → NS → MM → Prop, CT_X9_gatherList G X.2.1 [(2, 1), (2, (orO M l1)), (0, l2)] w M Q6 ∧ ∀ (z6 : Int) (w6 : NS) (M6 : MM), Q6 z6 w6 M6 → (((l3 ≠ (-1)) → (inR ((M6 1 11) - 1)) ∧ (((¬ (0 ≤ l3 ∧ l3 ≤ ((M6 1 11) - 1))) → P (-6) w6 M6) ∧ (((0 ≤ l3 ∧ l3 ≤ ((M6 1 11) - 1))) → (0 ≤ l3) ∧ (l3 < 24) ∧ P (M6 12 l3) w6 M6))) ∧ ((¬ (l3 ≠ (-1))) → P (M6 1 11) w6 M6))) ∧ ((¬ (0 ≤ l2 ∧ l2 ≤ 99)) → P (-2) w M))) ∧ ((¬ ((orO M l1) ≠ 0)) → P (-1) w M))) : A_X9_list_0 G X P l1 l2 l3 w M := by
  unfold A_X9_list_0
  refine s_aload_n C dX9_list_0 rfl ?_
  refine s_iload_n C dX9_list_1 rfl ?_
  refine WA.fix (fun hF1 => ?_)
  obtain ⟨o2, h⟩ := h
  obtain ⟨o3, h⟩ := h
  refine s_callV (ci := 9) (av := [(0, l1)]) (rest := []) (mc := 0) (ms := 0) C dX9_list_2 lk_X9_208 (sh_1 hF1) (by decide) rfl rfl rfl (Nat.le_of_ble_eq_true rfl) (by decide) (by decide) (pc_X9_orderOf o2 o3) (fun z4 wz4 Mz4 hq => ?_)
  obtain ⟨hq1, hq2, hq3⟩ := hq
  have hq2 := hq2.symm
  have hq3 := hq3.symm
  subst hq1 hq2 hq3
  refine s_astore (ls' := [(2, 1), (0, l1), (0, l2), (0, l3), (2, (orO M l1))]) C dX9_list_5 (by decide) rfl rfl ?_
  refine s_aload C dX9_list_7 rfl ?_
  refine s_ifnonnull C dX9_list_9 rfl (fun hc => ?_) (fun hc => ?_)
  · have h := h.1 hc
    refine s_iload_n C dX9_list_14 rfl ?_
    refine s_callS (av := [(0, l2)]) (rest := []) (mc := 0) (ms := 0) C dX9_list_15 lk_X9_99 rfl rfl (Nat.le_of_ble_eq_true rfl) (by decide) (by decide) (pc_X9_isDay) (fun z5 wz5 Mz5 hq => ?_)
    obtain ⟨hq1, hq2, hq3⟩ := hq
    have hq2 := hq2.symm
    have hq3 := hq3.symm
    subst hq1 hq2 hq3
    refine s_ifne C dX9_list_18 rfl (fun hc => ?_) (fun hc => ?_)
    · have h := h.1 (b2i_n0 hc)
      refine s_aload_n C dX9_list_24 rfl ?_
      refine s_aload C dX9_list_25 rfl ?_
      refine s_iload_n C dX9_list_27 rfl ?_
      obtain ⟨Q6, hKQ6, h⟩ := h
      refine s_callV (ci := 9) (av := [(2, (orO M l1)), (0, l2)]) (rest := []) (mc := 0) (ms := 0) C dX9_list_28 lk_X9_231 (sh_1 hF1) (by decide) rfl rfl rfl (Nat.le_of_ble_eq_true rfl) (by decide) (by decide) hKQ6 (fun z6 w6 M6 hq => ?_)
      have h := h z6 w6 M6 hq
      refine s_iload_n C dX9_list_31 rfl ?_
      refine s_iconst C dX9_list_32 (by decide) ?_
      refine s_icmpne C dX9_list_33 rfl (fun hc => ?_) (fun hc => ?_)
      · have h := h.1 hc
        refine s_iload_n C dX9_list_41 rfl ?_
        refine s_iconst C dX9_list_42 (by decide) ?_
        refine s_aload_n C dX9_list_43 rfl ?_
        refine WA.fix (fun hF7 => ?_)
        refine gf_X9_61 (v0 := (M6 1 11)) C (sh_1 hF7) dX9_list_44 rfl ?_
        refine s_iconst C dX9_list_47 (by decide) ?_
        obtain ⟨o8, h⟩ := h
        refine s_isub C dX9_list_48 o8 ?_
        refine s_callS (av := [(0, l3), (0, 0), (0, ((M6 1 11) - 1))]) (rest := []) (mc := 0) (ms := 0) C dX9_list_49 lk_X9_95 rfl rfl (Nat.le_of_ble_eq_true rfl) (by decide) (by decide) (pc_X9_within) (fun z9 wz9 Mz9 hq => ?_)
        obtain ⟨hq1, hq2, hq3⟩ := hq
        have hq2 := hq2.symm
        have hq3 := hq3.symm
        subst hq1 hq2 hq3
        refine s_ifeq C dX9_list_52 rfl (fun hc => ?_) (fun hc => ?_)
        · have h := h.1 (b2i_0.mp hc)
          refine s_bipush C dX9_list_64 ⟨rfl, by decide, by decide⟩ ?_
          exact s_ireturn C dX9_list_66 h
        · have h := h.2 (b2i_n0 hc)
          refine s_aload_n C dX9_list_55 rfl ?_
          refine gf_X9_58 C (sh_1 hF7) dX9_list_56 (fx_1_10 hF7) ?_
          refine s_iload_n C dX9_list_59 rfl ?_
          obtain ⟨o10, h⟩ := h
          obtain ⟨o11, h⟩ := h
          refine s_iald (v0 := (M6 12 l3)) C (sh_12 hF7) o10 o11 dX9_list_60 rfl ?_
          refine s_goto C dX9_list_61 rfl ?_
          exact s_ireturn C dX9_list_66 h
      · have h := h.2 hc
        refine s_aload_n C dX9_list_36 rfl ?_
        refine WA.fix (fun hF12 => ?_)
        refine gf_X9_61 (v0 := (M6 1 11)) C (sh_1 hF12) dX9_list_37 rfl ?_
        exact s_ireturn C dX9_list_40 h
    · have h := h.2 (b2i_nn hc)
      refine s_bipush C dX9_list_21 ⟨rfl, by decide, by decide⟩ ?_
      exact s_ireturn C dX9_list_23 h
  · have h := h.2 hc
    refine s_iconst C dX9_list_12 (by decide) ?_
    exact s_ireturn C dX9_list_13 h
theorem E_X9_list {G : GP} {l : Launch} {P : Int → NS → MM → Prop} {l1 : Int} {l2 : Int} {l3 : Int} {w : NS} {M : MM} (h : inR l1 → inR l2 → inR l3 → ∀ X : BX, X.2.1 = l → CX_X9_list G X → A_X9_list_0 G X P l1 l2 l3 w M) : CT_X9_list G l [(2, 1), (0, l1), (0, l2), (0, l3)] w M P :=
  CT.of RX9 "list" (by decide +kernel) rfl rfl rfl (Nat.le_of_ble_eq_true rfl) (fun hr X hX C => h (hr (0, l1) (by simp)) (hr (0, l2) (by simp)) (hr (0, l3) (by simp)) X hX C)
def A_X9_name_0 (G : GP) (X : BX) (P : Int → NS → MM → Prop) (l1 : Int) (l2 : Int) (w : NS) (M : MM) : Prop := WA true G X (QM G X true 0 P) 4 0 [(2, 1), (0, l1), (0, l2), (3, 0)] [] 0 0 w M
set_option maxHeartbeats 4000000 in
set_option maxRecDepth 100000 in
theorem B_X9_name_0 {G : GP} {X : BX} {P : Int → NS → MM → Prop} {l1 : Int} {l2 : Int} {w : NS} {M : MM} (C : CX_X9_name G X) (h : ((((0 ≤ l1 ∧ l1 ≤ 3)) → ((((-1 ≤ l2 ∧ l2 ≤ 99)) → (0 ≤ l1) ∧ (l1 < 4) ∧ (w.2 (M 13 l1) = (3, 2)) ∧ (((0 ≤ l2) → P (M (M 13 l1) 0) w (up M (M 13 l1) 0 l2)) ∧ ((¬ (0 ≤ l2)) → P (M (M 13 l1) 0) w (up M (M 13 l1) 0 (-6))))) ∧ ((¬ (-1 ≤ l2 ∧ l2 ≤ 99)) → P (-2) w M))) ∧ ((¬ (0 ≤ l1 ∧ l1 ≤ 3)) → P (-1) w M))) : A_X9_name_0 G X P l1 l2 w M := by
  unfold A_X9_name_0
  refine s_iload_n C dX9_name_0 rfl ?_
  refine s_callS (av := [(0, l1)]) (rest := []) (mc := 0) (ms := 0) C dX9_name_1 lk_X9_235 rfl rfl (Nat.le_of_ble_eq_true rfl) (by decide) (by decide) (pc_X9_isName) (fun z1 wz1 Mz1 hq => ?_)
  obtain ⟨hq1, hq2, hq3⟩ := hq
  have hq2 := hq2.symm
  have hq3 := hq3.symm
  subst hq1 hq2 hq3
  refine s_ifne C dX9_name_4 rfl (fun hc => ?_) (fun hc => ?_)
  · have h := h.1 (b2i_n0 hc)
    refine s_iload_n C dX9_name_9 rfl ?_
    refine s_callS (av := [(0, l2)]) (rest := []) (mc := 0) (ms := 0) C dX9_name_10 lk_X9_110 rfl rfl (Nat.le_of_ble_eq_true rfl) (by decide) (by decide) (pc_X9_isWordOrNone) (fun z2 wz2 Mz2 hq => ?_)
    obtain ⟨hq1, hq2, hq3⟩ := hq
    have hq2 := hq2.symm
    have hq3 := hq3.symm
    subst hq1 hq2 hq3
    refine s_ifne C dX9_name_13 rfl (fun hc => ?_) (fun hc => ?_)
    · have h := h.1 (b2i_n0 hc)
      refine s_aload_n C dX9_name_19 rfl ?_
      refine WA.fix (fun hF3 => ?_)
      refine gf_X9_66 C (sh_1 hF3) dX9_name_20 (fx_1_12 hF3) ?_
      refine s_iload_n C dX9_name_23 rfl ?_
      obtain ⟨o4, h⟩ := h
      obtain ⟨o5, h⟩ := h
      refine s_aald (v0 := (M 13 l1)) (t0 := 3) C (sh_13 hF3) (by decide) rfl o4 o5 dX9_name_24 rfl ?_
      obtain ⟨o6, h⟩ := h
      refine gf_X9_238 (v0 := (M (M 13 l1) 0)) C o6 dX9_name_25 rfl ?_
      refine s_istore_n (ls' := [(2, 1), (0, l1), (0, l2), (0, (M (M 13 l1) 0))]) C dX9_name_28 (by decide) rfl rfl ?_
      refine s_aload_n C dX9_name_29 rfl ?_
      refine gf_X9_66 C (sh_1 hF3) dX9_name_30 (fx_1_12 hF3) ?_
      refine s_iload_n C dX9_name_33 rfl ?_
      refine s_aald (v0 := (M 13 l1)) (t0 := 3) C (sh_13 hF3) (by decide) rfl o4 o5 dX9_name_34 rfl ?_
      refine s_iload_n C dX9_name_35 rfl ?_
      refine s_ifge C dX9_name_36 rfl (fun hc => ?_) (fun hc => ?_)
      · have h := h.1 hc
        refine s_iload_n C dX9_name_44 rfl ?_
        refine pf_X9_238 C o6 (fun _ => by decide) dX9_name_45 ?_
        refine s_iload_n C dX9_name_48 rfl ?_
        exact s_ireturn C dX9_name_49 h
      · have h := h.2 hc
        refine s_bipush C dX9_name_39 ⟨rfl, by decide, by decide⟩ ?_
        refine s_goto C dX9_name_41 rfl ?_
        refine pf_X9_238 C o6 (fun _ => by decide) dX9_name_45 ?_
        refine s_iload_n C dX9_name_48 rfl ?_
        exact s_ireturn C dX9_name_49 h
    · have h := h.2 (b2i_nn hc)
      refine s_bipush C dX9_name_16 ⟨rfl, by decide, by decide⟩ ?_
      exact s_ireturn C dX9_name_18 h
  · have h := h.2 (b2i_nn hc)
    refine s_iconst C dX9_name_7 (by decide) ?_
    exact s_ireturn C dX9_name_8 h
theorem E_X9_name {G : GP} {l : Launch} {P : Int → NS → MM → Prop} {l1 : Int} {l2 : Int} {w : NS} {M : MM} (h : inR l1 → inR l2 → ∀ X : BX, X.2.1 = l → CX_X9_name G X → A_X9_name_0 G X P l1 l2 w M) : CT_X9_name G l [(2, 1), (0, l1), (0, l2)] w M P :=
  CT.of RX9 "name" (by decide +kernel) rfl rfl rfl (Nat.le_of_ble_eq_true rfl) (fun hr X hX C => h (hr (0, l1) (by simp)) (hr (0, l2) (by simp)) X hX C)
def A_X9_counts_0 (G : GP) (X : BX) (P : Int → NS → MM → Prop) (l1 : Int) (l2 : Int) (l3 : Int) (w : NS) (M : MM) : Prop := WA true G X (QM G X true 0 P) 5 0 [(2, 1), (0, l1), (0, l2), (0, l3), (3, 0)] [] 0 0 w M
set_option maxHeartbeats 4000000 in
set_option maxRecDepth 100000 in
theorem B_X9_counts_0 {G : GP} {X : BX} {P : Int → NS → MM → Prop} {l1 : Int} {l2 : Int} {l3 : Int} {w : NS} {M : MM} (C : CX_X9_counts G X) (h : ((((0 ≤ l1 ∧ l1 ≤ 3)) → (((¬ (0 ≤ l2 ∧ l2 ≤ 99)) → P (-2) w M) ∧ (((0 ≤ l2 ∧ l2 ≤ 99)) → (((((-100) ≤ l3 ∧ l3 ≤ 100)) → (0 ≤ l1) ∧ (l1 < 4) ∧ (w.2 (M 13 l1) = (3, 2)) ∧ (0 ≤ l2) ∧ (l2 < 100) ∧ P (M ((M 13 l1) + 1) l2) w (up M ((M 13 l1) + 1) l2 l3)) ∧ ((¬ ((-100) ≤ l3 ∧ l3 ≤ 100)) → P (-2) w M))))) ∧ ((¬ (0 ≤ l1 ∧ l1 ≤ 3)) → P (-1) w M))) : A_X9_counts_0 G X P l1 l2 l3 w M := by
  unfold A_X9_counts_0
  refine s_iload_n C dX9_counts_0 rfl ?_
  refine s_callS (av := [(0, l1)]) (rest := []) (mc := 0) (ms := 0) C dX9_counts_1 lk_X9_235 rfl rfl (Nat.le_of_ble_eq_true rfl) (by decide) (by decide) (pc_X9_isName) (fun z1 wz1 Mz1 hq => ?_)
  obtain ⟨hq1, hq2, hq3⟩ := hq
  have hq2 := hq2.symm
  have hq3 := hq3.symm
  subst hq1 hq2 hq3
  refine s_ifne C dX9_counts_4 rfl (fun hc => ?_) (fun hc => ?_)
  · have h := h.1 (b2i_n0 hc)
    refine s_iload_n C dX9_counts_9 rfl ?_
    refine s_iconst C dX9_counts_10 (by decide) ?_
    refine s_bipush C dX9_counts_11 ⟨rfl, by decide, by decide⟩ ?_
    refine s_callS (av := [(0, l2), (0, 0), (0, 99)]) (rest := []) (mc := 0) (ms := 0) C dX9_counts_13 lk_X9_95 rfl rfl (Nat.le_of_ble_eq_true rfl) (by decide) (by decide) (pc_X9_within) (fun z2 wz2 Mz2 hq => ?_)
    obtain ⟨hq1, hq2, hq3⟩ := hq
    have hq2 := hq2.symm
    have hq3 := hq3.symm
    subst hq1 hq2 hq3
    refine s_ifeq C dX9_counts_16 rfl (fun hc => ?_) (fun hc => ?_)
    · have h := h.1 (b2i_0.mp hc)
      refine s_bipush C dX9_counts_30 ⟨rfl, by decide, by decide⟩ ?_
      exact s_ireturn C dX9_counts_32 h
    · have h := h.2 (b2i_n0 hc)
      refine s_iload_n C dX9_counts_19 rfl ?_
      refine s_bipush C dX9_counts_20 ⟨rfl, by decide, by decide⟩ ?_
      refine s_bipush C dX9_counts_22 ⟨rfl, by decide, by decide⟩ ?_
      refine s_callS (av := [(0, l3), (0, (-100)), (0, 100)]) (rest := []) (mc := 0) (ms := 0) C dX9_counts_24 lk_X9_95 rfl rfl (Nat.le_of_ble_eq_true rfl) (by decide) (by decide) (pc_X9_within) (fun z3 wz3 Mz3 hq => ?_)
      obtain ⟨hq1, hq2, hq3⟩ := hq
      have hq2 := hq2.symm
      have hq3 := hq3.symm
      subst hq1 hq2 hq3
      refine s_ifne C dX9_counts_27 rfl (fun hc => ?_) (fun hc => ?_)
      · have h := h.1 (b2i_n0 hc)
        refine s_aload_n C dX9_counts_33 rfl ?_
        refine WA.fix (fun hF4 => ?_)
        refine gf_X9_66 C (sh_1 hF4) dX9_counts_34 (fx_1_12 hF4) ?_
        refine s_iload_n C dX9_counts_37 rfl ?_
        obtain ⟨o5, h⟩ := h
        obtain ⟨o6, h⟩ := h
        refine s_aald (v0 := (M 13 l1)) (t0 := 3) C (sh_13 hF4) (by decide) rfl o5 o6 dX9_counts_38 rfl ?_
        obtain ⟨o7, h⟩ := h
        have hd8 := FixA.dy (t := 3) (n := 2) (k := 1) (m := 100) hF4 (by decide) o7
        refine gf_X9_241 C o7 dX9_counts_39 hd8.1 ?_
        refine s_iload_n C dX9_counts_42 rfl ?_
        obtain ⟨o9, h⟩ := h
        obtain ⟨o10, h⟩ := h
        refine s_iald (v0 := (M ((M 13 l1) + 1) l2)) C hd8.2 o9 o10 dX9_counts_43 rfl ?_
        refine s_istore (ls' := [(2, 1), (0, l1), (0, l2), (0, l3), (0, (M ((M 13 l1) + 1) l2))]) C dX9_counts_44 (by decide) rfl rfl ?_
        refine s_aload_n C dX9_counts_46 rfl ?_
        refine gf_X9_66 C (sh_1 hF4) dX9_counts_47 (fx_1_12 hF4) ?_
        refine s_iload_n C dX9_counts_50 rfl ?_
        refine s_aald (v0 := (M 13 l1)) (t0 := 3) C (sh_13 hF4) (by decide) rfl o5 o6 dX9_counts_51 rfl ?_
        have hd11 := FixA.dy (t := 3) (n := 2) (k := 1) (m := 100) hF4 (by decide) o7
        refine gf_X9_241 C o7 dX9_counts_52 hd11.1 ?_
        refine s_iload_n C dX9_counts_55 rfl ?_
        refine s_iload_n C dX9_counts_56 rfl ?_
        refine s_iast C hd11.2 o9 o10 (fun _ => by decide) dX9_counts_57 ?_
        refine s_iload C dX9_counts_58 rfl ?_
        exact s_ireturn C dX9_counts_60 h
      · have h := h.2 (b2i_nn hc)
        refine s_bipush C dX9_counts_30 ⟨rfl, by decide, by decide⟩ ?_
        exact s_ireturn C dX9_counts_32 h
  · have h := h.2 (b2i_nn hc)
    refine s_iconst C dX9_counts_7 (by decide) ?_
    exact s_ireturn C dX9_counts_8 h
theorem E_X9_counts {G : GP} {l : Launch} {P : Int → NS → MM → Prop} {l1 : Int} {l2 : Int} {l3 : Int} {w : NS} {M : MM} (h : inR l1 → inR l2 → inR l3 → ∀ X : BX, X.2.1 = l → CX_X9_counts G X → A_X9_counts_0 G X P l1 l2 l3 w M) : CT_X9_counts G l [(2, 1), (0, l1), (0, l2), (0, l3)] w M P :=
  CT.of RX9 "counts" (by decide +kernel) rfl rfl rfl (Nat.le_of_ble_eq_true rfl) (fun hr X hX C => h (hr (0, l1) (by simp)) (hr (0, l2) (by simp)) (hr (0, l3) (by simp)) X hX C)
def A_X2_sumAround_0 (G : GP) (X : BX) (P : Int → NS → MM → Prop) (l0 : Int) (l1 : Int) (l2 : Int) (l3 : Int) (w : NS) (M : MM) : Prop := WA true G X (QM G X true 0 P) 6 0 [(2, l0), (2, l1), (0, l2), (0, l3), (3, 0), (3, 0)] [] 0 0 w M
def A_X2_sumAround_12 (G : GP) (X : BX) (P : Int → NS → MM → Prop) (l0 : Int) (l1 : Int) (l2 : Int) (l3 : Int) (l4 : Int) (l5 : Int) (w : NS) (M : MM) : Prop := WA true G X (QM G X true 0 P) 6 12 [(2, l0), (2, l1), (0, l2), (0, l3), (0, l4), (0, l5)] [] 0 0 w M
set_option maxHeartbeats 4000000 in
set_option maxRecDepth 100000 in
theorem B_X2_sumAround_0 {G : GP} {X : BX} {P : Int → NS → MM → Prop} {l0 : Int} {l1 : Int} {l2 : Int} {l3 : Int} {w : NS} {M : MM} (C : CX_X2_sumAround G X) (h : (inR (l2 - l3)) ∧ A_X2_sumAround_12 G X P l0 l1 l2 l3 0 (max 0 (l2 - l3)) w M) : A_X2_sumAround_0 G X P l0 l1 l2 l3 w M := by
  unfold A_X2_sumAround_0
  refine s_iconst C dX2_sumAround_0 (by decide) ?_
  refine s_istore (ls' := [(2, l0), (2, l1), (0, l2), (0, l3), (0, 0), (3, 0)]) C dX2_sumAround_1 (by decide) rfl rfl ?_
  refine s_iconst C dX2_sumAround_3 (by decide) ?_
  refine s_iload_n C dX2_sumAround_4 rfl ?_
  refine s_iload_n C dX2_sumAround_5 rfl ?_
  obtain ⟨o1, h⟩ := h
  refine s_isub C dX2_sumAround_6 o1 ?_
  refine s_mmax (st := []) C dX2_sumAround_7 wd_609 (Nat.le_of_ble_eq_true rfl) (by decide) (by decide) ?_
  refine s_istore (ls' := [(2, l0), (2, l1), (0, l2), (0, l3), (0, 0), (0, (max 0 (l2 - l3)))]) C dX2_sumAround_10 (by decide) rfl rfl ?_
  exact h
set_option maxHeartbeats 4000000 in
set_option maxRecDepth 100000 in
theorem B_X2_sumAround_12 {G : GP} {X : BX} {P : Int → NS → MM → Prop} {l0 : Int} {l1 : Int} {l2 : Int} {l3 : Int} {l4 : Int} {l5 : Int} {w : NS} {M : MM} (C : CX_X2_sumAround G X) (h : (w.2 l1 = (7, 12)) ∧ ((((M l1 7) ≤ l5) → P l4 w M) ∧ ((¬ ((M l1 7) ≤ l5)) → (inR (l2 + l3)) ∧ ((((l2 + l3) < l5) → P l4 w M) ∧ ((¬ ((l2 + l3) < l5)) → (((l5 = l2) → (inR (l5 + 1)) ∧ A_X2_sumAround_12 G X P l0 l1 l2 l3 l4 (l5 + 1) w M) ∧ ((¬ (l5 = l2)) → (w.2 l0 = (3, 2)) ∧ (0 ≤ l5) ∧ (l5 < 60) ∧ (0 ≤ (M (l1 + 1) l5)) ∧ ((M (l1 + 1) l5) < 100) ∧ (inR (l4 + (M (l0 + 1) (M (l1 + 1) l5)))) ∧ (inR (l5 + 1)) ∧ A_X2_sumAround_12 G X P l0 l1 l2 l3 (l4 + (M (l0 + 1) (M (l1 + 1) l5))) (l5 + 1) w M))))))) : A_X2_sumAround_12 G X P l0 l1 l2 l3 l4 l5 w M := by
  unfold A_X2_sumAround_12
  refine s_iload C dX2_sumAround_12 rfl ?_
  refine s_aload_n C dX2_sumAround_14 rfl ?_
  obtain ⟨o1, h⟩ := h
  refine gf_X2_19 (v0 := (M l1 7)) C o1 dX2_sumAround_15 rfl ?_
  refine s_icmpge C dX2_sumAround_18 rfl (fun hc => ?_) (fun hc => ?_)
  · have h := h.1 hc
    refine s_iload C dX2_sumAround_58 rfl ?_
    exact s_ireturn C dX2_sumAround_60 h
  · have h := h.2 hc
    refine s_iload C dX2_sumAround_21 rfl ?_
    refine s_iload_n C dX2_sumAround_23 rfl ?_
    refine s_iload_n C dX2_sumAround_24 rfl ?_
    obtain ⟨o2, h⟩ := h
    refine s_iadd C dX2_sumAround_25 o2 ?_
    refine s_icmpgt C dX2_sumAround_26 rfl (fun hc => ?_) (fun hc => ?_)
    · have h := h.1 hc
      refine s_iload C dX2_sumAround_58 rfl ?_
      exact s_ireturn C dX2_sumAround_60 h
    · have h := h.2 hc
      refine s_iload C dX2_sumAround_29 rfl ?_
      refine s_iload_n C dX2_sumAround_31 rfl ?_
      refine s_icmpeq C dX2_sumAround_32 rfl (fun hc => ?_) (fun hc => ?_)
      · have h := h.1 hc
        obtain ⟨o3, h⟩ := h
        refine s_iinc (ls' := [(2, l0), (2, l1), (0, l2), (0, l3), (0, l4), (0, (l5 + 1))]) C dX2_sumAround_52 (by decide) rfl o3 rfl rfl ?_
        refine s_goto C dX2_sumAround_55 rfl ?_
        exact h
      · have h := h.2 hc
        refine s_iload C dX2_sumAround_35 rfl ?_
        refine s_aload_n C dX2_sumAround_37 rfl ?_
        obtain ⟨o4, h⟩ := h
        refine WA.fix (fun hF5 => ?_)
        have hd6 := FixA.dy (t := 3) (n := 2) (k := 1) (m := 100) hF5 (by decide) o4
        refine gf_X2_15 C o4 dX2_sumAround_38 hd6.1 ?_
        refine s_aload_n C dX2_sumAround_41 rfl ?_
        have hd7 := FixA.dy (t := 7) (n := 12) (k := 6) (m := 60) hF5 (by decide) o1
        refine gf_X2_24 C o1 dX2_sumAround_42 hd7.1 ?_
        refine s_iload C dX2_sumAround_45 rfl ?_
        obtain ⟨o8, h⟩ := h
        obtain ⟨o9, h⟩ := h
        refine s_iald (v0 := (M (l1 + 1) l5)) C hd7.2 o8 o9 dX2_sumAround_47 rfl ?_
        obtain ⟨o10, h⟩ := h
        obtain ⟨o11, h⟩ := h
        refine s_iald (v0 := (M (l0 + 1) (M (l1 + 1) l5))) C hd6.2 o10 o11 dX2_sumAround_48 rfl ?_
        obtain ⟨o12, h⟩ := h
        refine s_iadd C dX2_sumAround_49 o12 ?_
        refine s_istore (ls' := [(2, l0), (2, l1), (0, l2), (0, l3), (0, (l4 + (M (l0 + 1) (M (l1 + 1) l5)))), (0, l5)]) C dX2_sumAround_50 (by decide) rfl rfl ?_
        obtain ⟨o13, h⟩ := h
        refine s_iinc (ls' := [(2, l0), (2, l1), (0, l2), (0, l3), (0, (l4 + (M (l0 + 1) (M (l1 + 1) l5)))), (0, (l5 + 1))]) C dX2_sumAround_52 (by decide) rfl o13 rfl rfl ?_
        refine s_goto C dX2_sumAround_55 rfl ?_
        exact h
theorem E_X2_sumAround {G : GP} {l : Launch} {P : Int → NS → MM → Prop} {l0 : Int} {l1 : Int} {l2 : Int} {l3 : Int} {w : NS} {M : MM} (h : inR l2 → inR l3 → ∀ X : BX, X.2.1 = l → CX_X2_sumAround G X → A_X2_sumAround_0 G X P l0 l1 l2 l3 w M) : CT_X2_sumAround G l [(2, l0), (2, l1), (0, l2), (0, l3)] w M P :=
  CT.of RX2 "sumAround" (by decide +kernel) rfl rfl rfl (Nat.le_of_ble_eq_true rfl) (fun hr X hX C => h (hr (0, l2) (by simp)) (hr (0, l3) (by simp)) X hX C)
def A_X2_likeliestPlace_0 (G : GP) (X : BX) (P : Int → NS → MM → Prop) (l0 : Int) (l1 : Int) (l2 : Int) (w : NS) (M : MM) : Prop := WA true G X (QM G X true 0 P) 7 0 [(2, l0), (2, l1), (0, l2), (3, 0), (3, 0), (3, 0), (3, 0)] [] 0 0 w M
def A_X2_likeliestPlace_9 (G : GP) (X : BX) (P : Int → NS → MM → Prop) (l0 : Int) (l1 : Int) (l2 : Int) (l3 : Int) (l4 : Int) (l5 : Int) (w : NS) (M : MM) : Prop := WA true G X (QM G X true 0 P) 7 9 [(2, l0), (2, l1), (0, l2), (0, l3), (0, l4), (0, l5), (3, 0)] [] 0 0 w M
set_option maxHeartbeats 4000000 in
set_option maxRecDepth 100000 in
theorem B_X2_likeliestPlace_0 {G : GP} {X : BX} {P : Int → NS → MM → Prop} {l0 : Int} {l1 : Int} {l2 : Int} {w : NS} {M : MM} (C : CX_X2_likeliestPlace G X) (h : A_X2_likeliestPlace_9 G X P l0 l1 l2 (-6) 0 0 w M) : A_X2_likeliestPlace_0 G X P l0 l1 l2 w M := by
  unfold A_X2_likeliestPlace_0
  refine s_bipush C dX2_likeliestPlace_0 ⟨rfl, by decide, by decide⟩ ?_
  refine s_istore_n (ls' := [(2, l0), (2, l1), (0, l2), (0, (-6)), (3, 0), (3, 0), (3, 0)]) C dX2_likeliestPlace_2 (by decide) rfl rfl ?_
  refine s_iconst C dX2_likeliestPlace_3 (by decide) ?_
  refine s_istore (ls' := [(2, l0), (2, l1), (0, l2), (0, (-6)), (0, 0), (3, 0), (3, 0)]) C dX2_likeliestPlace_4 (by decide) rfl rfl ?_
  refine s_iconst C dX2_likeliestPlace_6 (by decide) ?_
  refine s_istore (ls' := [(2, l0), (2, l1), (0, l2), (0, (-6)), (0, 0), (0, 0), (3, 0)]) C dX2_likeliestPlace_7 (by decide) rfl rfl ?_
  exact h
set_option maxHeartbeats 4000000 in
set_option maxRecDepth 100000 in
theorem B_X2_likeliestPlace_9 {G : GP} {X : BX} {P : Int → NS → MM → Prop} {l0 : Int} {l1 : Int} {l2 : Int} {l3 : Int} {l4 : Int} {l5 : Int} {w : NS} {M : MM} (C : CX_X2_likeliestPlace G X) (h : (w.2 l1 = (7, 12)) ∧ ((((M l1 7) ≤ l5) → P l3 w M) ∧ ((¬ ((M l1 7) ≤ l5)) → (0 ≤ l5) ∧ (l5 < 60) ∧ (w.2 l0 = (3, 2)) ∧ ((((M (l1 + 1) l5) ≠ (M l0 0)) → (inR (l5 + 1)) ∧ A_X2_likeliestPlace_9 G X P l0 l1 l2 l3 l4 (l5 + 1) w M) ∧ ((¬ ((M (l1 + 1) l5) ≠ (M l0 0))) → ∃ Q8 : Int → NS → MM → Prop, CT_X2_sumAround G X.2.1 [(2, l0), (2, l1), (0, l5), (0, l2)] w M Q8 ∧ ∀ (z8 : Int) (w8 : NS) (M8 : MM), Q8 z8 w8 M8 → (((l3 = (-6)) → (inR (l5 + 1)) ∧ A_X2_likeliestPlace_9 G X P l0 l1 l2 l5 z8 (l5 + 1) w8 M8) ∧ ((¬ (l3 = (-6))) → (((z8 ≤ l4) → (inR (l5 + 1)) ∧ A_X2_likeliestPlace_9 G X P l0 l1 l2 l3 l4 (l5 + 1) w8 M8) ∧ ((¬ (z8 ≤ l4)) → (inR (l5 + 1)) ∧ A_X2_likeliestPlace_9 G X P l0 l1 l2 l5 z8 (l5 + 1) w8 M8))))))))) : A_X2_likeliestPlace_9 G X P l0 l1 l2 l3 l4 l5 w M := by
  unfold A_X2_likeliestPlace_9
  refine s_iload C dX2_likeliestPlace_9 rfl ?_
  refine s_aload_n C dX2_likeliestPlace_11 rfl ?_
  obtain ⟨o1, h⟩ := h
  refine gf_X2_19 (v0 := (M l1 7)) C o1 dX2_likeliestPlace_12 rfl ?_
  refine s_icmpge C dX2_likeliestPlace_15 rfl (fun hc => ?_) (fun hc => ?_)
  · have h := h.1 hc
    refine s_iload_n C dX2_likeliestPlace_68 rfl ?_
    exact s_ireturn C dX2_likeliestPlace_69 h
  · have h := h.2 hc
    refine s_aload_n C dX2_likeliestPlace_18 rfl ?_
    refine WA.fix (fun hF2 => ?_)
    have hd3 := FixA.dy (t := 7) (n := 12) (k := 6) (m := 60) hF2 (by decide) o1
    refine gf_X2_24 C o1 dX2_likeliestPlace_19 hd3.1 ?_
    refine s_iload C dX2_likeliestPlace_22 rfl ?_
    obtain ⟨o4, h⟩ := h
    obtain ⟨o5, h⟩ := h
    refine s_iald (v0 := (M (l1 + 1) l5)) C hd3.2 o4 o5 dX2_likeliestPlace_24 rfl ?_
    refine s_aload_n C dX2_likeliestPlace_25 rfl ?_
    obtain ⟨o6, h⟩ := h
    refine gf_X2_9 (v0 := (M l0 0)) C o6 dX2_likeliestPlace_26 rfl ?_
    refine s_icmpne C dX2_likeliestPlace_29 rfl (fun hc => ?_) (fun hc => ?_)
    · have h := h.1 hc
      obtain ⟨o7, h⟩ := h
      refine s_iinc (ls' := [(2, l0), (2, l1), (0, l2), (0, l3), (0, l4), (0, (l5 + 1)), (3, 0)]) C dX2_likeliestPlace_62 (by decide) rfl o7 rfl rfl ?_
      refine s_goto C dX2_likeliestPlace_65 rfl ?_
      exact h
    · have h := h.2 hc
      refine s_aload_n C dX2_likeliestPlace_32 rfl ?_
      refine s_aload_n C dX2_likeliestPlace_33 rfl ?_
      refine s_iload C dX2_likeliestPlace_34 rfl ?_
      refine s_iload_n C dX2_likeliestPlace_36 rfl ?_
      obtain ⟨Q8, hKQ8, h⟩ := h
      refine s_callV (ci := 2) (av := [(2, l1), (0, l5), (0, l2)]) (rest := []) (mc := 0) (ms := 0) C dX2_likeliestPlace_37 lk_X2_27 o6 (by decide) rfl rfl rfl (Nat.le_of_ble_eq_true rfl) (by decide) (by decide) hKQ8 (fun z8 w8 M8 hq => ?_)
      have h := h z8 w8 M8 hq
      refine s_istore (ls' := [(2, l0), (2, l1), (0, l2), (0, l3), (0, l4), (0, l5), (0, z8)]) C dX2_likeliestPlace_40 (by decide) rfl rfl ?_
      refine s_iload_n C dX2_likeliestPlace_42 rfl ?_
      refine s_bipush C dX2_likeliestPlace_43 ⟨rfl, by decide, by decide⟩ ?_
      refine s_icmpeq C dX2_likeliestPlace_45 rfl (fun hc => ?_) (fun hc => ?_)
      · have h := h.1 hc
        refine s_iload C dX2_likeliestPlace_55 rfl ?_
        refine s_istore_n (ls' := [(2, l0), (2, l1), (0, l2), (0, l5), (0, l4), (0, l5), (0, z8)]) C dX2_likeliestPlace_57 (by decide) rfl rfl ?_
        refine s_iload C dX2_likeliestPlace_58 rfl ?_
        refine s_istore (ls' := [(2, l0), (2, l1), (0, l2), (0, l5), (0, z8), (0, l5), (0, z8)]) C dX2_likeliestPlace_60 (by decide) rfl rfl ?_
        obtain ⟨o9, h⟩ := h
        refine s_iinc (ls' := [(2, l0), (2, l1), (0, l2), (0, l5), (0, z8), (0, (l5 + 1)), (0, z8)]) C dX2_likeliestPlace_62 (by decide) rfl o9 rfl rfl ?_
        refine s_goto C dX2_likeliestPlace_65 rfl ?_
        exact WA.wk h ⟨Or.inr rfl, Or.inr rfl, Or.inr rfl, Or.inr rfl, Or.inr rfl, Or.inr rfl, Or.inl rfl, trivial⟩
      · have h := h.2 hc
        refine s_iload C dX2_likeliestPlace_48 rfl ?_
        refine s_iload C dX2_likeliestPlace_50 rfl ?_
        refine s_icmple C dX2_likeliestPlace_52 rfl (fun hc => ?_) (fun hc => ?_)
        · have h := h.1 hc
          obtain ⟨o10, h⟩ := h
          refine s_iinc (ls' := [(2, l0), (2, l1), (0, l2), (0, l3), (0, l4), (0, (l5 + 1)), (0, z8)]) C dX2_likeliestPlace_62 (by decide) rfl o10 rfl rfl ?_
          refine s_goto C dX2_likeliestPlace_65 rfl ?_
          exact WA.wk h ⟨Or.inr rfl, Or.inr rfl, Or.inr rfl, Or.inr rfl, Or.inr rfl, Or.inr rfl, Or.inl rfl, trivial⟩
        · have h := h.2 hc
          refine s_iload C dX2_likeliestPlace_55 rfl ?_
          refine s_istore_n (ls' := [(2, l0), (2, l1), (0, l2), (0, l5), (0, l4), (0, l5), (0, z8)]) C dX2_likeliestPlace_57 (by decide) rfl rfl ?_
          refine s_iload C dX2_likeliestPlace_58 rfl ?_
          refine s_istore (ls' := [(2, l0), (2, l1), (0, l2), (0, l5), (0, z8), (0, l5), (0, z8)]) C dX2_likeliestPlace_60 (by decide) rfl rfl ?_
          obtain ⟨o11, h⟩ := h
          refine s_iinc (ls' := [(2, l0), (2, l1), (0, l2), (0, l5), (0, z8), (0, (l5 + 1)), (0, z8)]) C dX2_likeliestPlace_62 (by decide) rfl o11 rfl rfl ?_
          refine s_goto C dX2_likeliestPlace_65 rfl ?_
          exact WA.wk h ⟨Or.inr rfl, Or.inr rfl, Or.inr rfl, Or.inr rfl, Or.inr rfl, Or.inr rfl, Or.inl rfl, trivial⟩
theorem E_X2_likeliestPlace {G : GP} {l : Launch} {P : Int → NS → MM → Prop} {l0 : Int} {l1 : Int} {l2 : Int} {w : NS} {M : MM} (h : inR l2 → ∀ X : BX, X.2.1 = l → CX_X2_likeliestPlace G X → A_X2_likeliestPlace_0 G X P l0 l1 l2 w M) : CT_X2_likeliestPlace G l [(2, l0), (2, l1), (0, l2)] w M P :=
  CT.of RX2 "likeliestPlace" (by decide +kernel) rfl rfl rfl (Nat.le_of_ble_eq_true rfl) (fun hr X hX C => h (hr (0, l2) (by simp)) X hX C)
def A_X9_verdictOf_0 (G : GP) (X : BX) (P : Int → NS → MM → Prop) (l1 : Int) (w : NS) (M : MM) : Prop := WA true G X (QM G X true 0 P) 2 0 [(2, 1), (0, l1)] [] 0 0 w M
set_option maxHeartbeats 4000000 in
set_option maxRecDepth 100000 in
theorem B_X9_verdictOf_0 {G : GP} {X : BX} {P : Int → NS → MM → Prop} {l1 : Int} {w : NS} {M : MM} (C : CX_X9_verdictOf G X) (h : (((l1 < (M 2 2)) → (inR (-(M 2 2))) ∧ ((((-(M 2 2)) < l1) → P 3 w M) ∧ ((¬ ((-(M 2 2)) < l1)) → P 2 w M))) ∧ ((¬ (l1 < (M 2 2))) → P 1 w M))) : A_X9_verdictOf_0 G X P l1 w M := by
  unfold A_X9_verdictOf_0
  refine s_iload_n C dX9_verdictOf_0 rfl ?_
  refine s_aload_n C dX9_verdictOf_1 rfl ?_
  refine WA.fix (fun hF1 => ?_)
  refine gf_X9_7 C (sh_1 hF1) dX9_verdictOf_2 (fx_1_0 hF1) ?_
  refine s_iconst C dX9_verdictOf_5 (by decide) ?_
  refine s_iald (v0 := (M 2 2)) C (sh_2 hF1) (by decide) (by decide) dX9_verdictOf_6 rfl ?_
  refine s_icmplt C dX9_verdictOf_7 rfl (fun hc => ?_) (fun hc => ?_)
  · have h := h.1 hc
    refine s_iload_n C dX9_verdictOf_12 rfl ?_
    refine s_aload_n C dX9_verdictOf_13 rfl ?_
    refine gf_X9_7 C (sh_1 hF1) dX9_verdictOf_14 (fx_1_0 hF1) ?_
    refine s_iconst C dX9_verdictOf_17 (by decide) ?_
    refine s_iald (v0 := (M 2 2)) C (sh_2 hF1) (by decide) (by decide) dX9_verdictOf_18 rfl ?_
    obtain ⟨o2, h⟩ := h
    refine s_ineg C dX9_verdictOf_19 o2 ?_
    refine s_icmpgt C dX9_verdictOf_20 rfl (fun hc => ?_) (fun hc => ?_)
    · have h := h.1 hc
      refine s_iconst C dX9_verdictOf_27 (by decide) ?_
      exact s_ireturn C dX9_verdictOf_28 h
    · have h := h.2 hc
      refine s_iconst C dX9_verdictOf_23 (by decide) ?_
      refine s_goto C dX9_verdictOf_24 rfl ?_
      exact s_ireturn C dX9_verdictOf_28 h
  · have h := h.2 hc
    refine s_iconst C dX9_verdictOf_10 (by decide) ?_
    exact s_ireturn C dX9_verdictOf_11 h
theorem E_X9_verdictOf {G : GP} {l : Launch} {P : Int → NS → MM → Prop} {l1 : Int} {w : NS} {M : MM} (h : inR l1 → ∀ X : BX, X.2.1 = l → CX_X9_verdictOf G X → A_X9_verdictOf_0 G X P l1 w M) : CT_X9_verdictOf G l [(2, 1), (0, l1)] w M P :=
  CT.of RX9 "verdictOf" (by decide +kernel) rfl rfl rfl (Nat.le_of_ble_eq_true rfl) (fun hr X hX C => h (hr (0, l1) (by simp)) X hX C)
def A_X9_likely_0 (G : GP) (X : BX) (P : Int → NS → MM → Prop) (l1 : Int) (l2 : Int) (l3 : Int) (w : NS) (M : MM) : Prop := WA true G X (QM G X true 0 P) 7 0 [(2, 1), (0, l1), (0, l2), (0, l3), (3, 0), (3, 0), (3, 0)] [] 0 0 w M
set_option maxHeartbeats 4000000 in
set_option maxRecDepth 100000 in
theorem B_X9_likely_0 {G : GP} {X : BX} {P : Int → NS → MM → Prop} {l1 : Int} {l2 : Int} {l3 : Int} {w : NS} {M : MM} (C : CX_X9_likely G X) (h : (0 ≤ M 1 4) ∧ (M 1 4 ≤ 24) ∧ (((¬ (0 ≤ l1 ∧ l1 ≤ 3)) → P (-1) w M) ∧ (((0 ≤ l1 ∧ l1 ≤ 3)) → ((((pcO M l2) ≠ 0) → (0 ≤ l1) ∧ (l1 < 4) ∧ (w.2 (M 13 l1) = (3, 2)) ∧ ∃ Q9 : Int → NS → MM → Prop, CT_X2_likeliestPlace G X.2.1 [(2, (M 13 l1)), (2, (pcO M l2)), (0, (M 2 1))] w M Q9 ∧ ∀ (z9 : Int) (w9 : NS) (M9 : MM), Q9 z9 w9 M9 → (((z9 ≠ (-6)) → (w9.2 (M9 13 l1) = (3, 2)) ∧ ∃ Q12 : Int → NS → MM → Prop, CT_X2_sumAround G X.2.1 [(2, (M9 13 l1)), (2, (pcO M l2)), (0, z9), (0, (M9 2 1))] w9 M9 Q12 ∧ ∀ (z12 : Int) (w12 : NS) (M12 : MM), Q12 z12 w12 M12 → (((l3 < 0 ∨ 2 < l3) → P (-2) w12 M12) ∧ (l3 = 0 → (((z9 ≠ (-6)) → ∃ Q14 : Int → NS → MM → Prop, CT_X9_verdictOf G X.2.1 [(2, 1), (0, z12)] w12 M12 Q14 ∧ ∀ (z14 : Int) (w14 : NS) (M14 : MM), Q14 z14 w14 M14 → P z14 w14 M14) ∧ ((¬ (z9 ≠ (-6))) → P 0 w12 M12))) ∧ (l3 = 1 → P z12 w12 M12) ∧ (l3 = 2 → P z9 w12 M12))) ∧ ((¬ (z9 ≠ (-6))) → (((l3 < 0 ∨ 2 < l3) → P (-2) w9 M9) ∧ (l3 = 0 → (((z9 ≠ (-6)) → ∃ Q16 : Int → NS → MM → Prop, CT_X9_verdictOf G X.2.1 [(2, 1), (0, 0)] w9 M9 Q16 ∧ ∀ (z16 : Int) (w16 : NS) (M16 : MM), Q16 z16 w16 M16 → P z16 w16 M16) ∧ ((¬ (z9 ≠ (-6))) → P 0 w9 M9))) ∧ (l3 = 1 → P 0 w9 M9) ∧ (l3 = 2 → P z9 w9 M9))))) ∧ ((¬ ((pcO M l2) ≠ 0)) → P (-1) w M))))) : A_X9_likely_0 G X P l1 l2 l3 w M := by
  unfold A_X9_likely_0
  refine s_aload_n C dX9_likely_0 rfl ?_
  refine s_iload_n C dX9_likely_1 rfl ?_
  refine WA.fix (fun hF1 => ?_)
  obtain ⟨o2, h⟩ := h
  obtain ⟨o3, h⟩ := h
  refine s_callV (ci := 9) (av := [(0, l2)]) (rest := []) (mc := 0) (ms := 0) C dX9_likely_2 lk_X9_158 (sh_1 hF1) (by decide) rfl rfl rfl (Nat.le_of_ble_eq_true rfl) (by decide) (by decide) (pc_X9_pieceOf o2 o3) (fun z4 wz4 Mz4 hq => ?_)
  obtain ⟨hq1, hq2, hq3⟩ := hq
  have hq2 := hq2.symm
  have hq3 := hq3.symm
  subst hq1 hq2 hq3
  refine s_astore (ls' := [(2, 1), (0, l1), (0, l2), (0, l3), (2, (pcO M l2)), (3, 0), (3, 0)]) C dX9_likely_5 (by decide) rfl rfl ?_
  refine s_iload_n C dX9_likely_7 rfl ?_
  refine s_callS (av := [(0, l1)]) (rest := []) (mc := 0) (ms := 0) C dX9_likely_8 lk_X9_235 rfl rfl (Nat.le_of_ble_eq_true rfl) (by decide) (by decide) (pc_X9_isName) (fun z5 wz5 Mz5 hq => ?_)
  obtain ⟨hq1, hq2, hq3⟩ := hq
  have hq2 := hq2.symm
  have hq3 := hq3.symm
  subst hq1 hq2 hq3
  refine s_ifeq C dX9_likely_11 rfl (fun hc => ?_) (fun hc => ?_)
  · have h := h.1 (b2i_0.mp hc)
    refine s_iconst C dX9_likely_19 (by decide) ?_
    exact s_ireturn C dX9_likely_20 h
  · have h := h.2 (b2i_n0 hc)
    refine s_aload C dX9_likely_14 rfl ?_
    refine s_ifnonnull C dX9_likely_16 rfl (fun hc => ?_) (fun hc => ?_)
    · have h := h.1 hc
      refine s_aload_n C dX9_likely_21 rfl ?_
      refine gf_X9_66 C (sh_1 hF1) dX9_likely_22 (fx_1_12 hF1) ?_
      refine s_iload_n C dX9_likely_25 rfl ?_
      obtain ⟨o6, h⟩ := h
      obtain ⟨o7, h⟩ := h
      refine s_aald (v0 := (M 13 l1)) (t0 := 3) C (sh_13 hF1) (by decide) rfl o6 o7 dX9_likely_26 rfl ?_
      refine s_aload C dX9_likely_27 rfl ?_
      refine s_aload_n C dX9_likely_29 rfl ?_
      refine gf_X9_7 C (sh_1 hF1) dX9_likely_30 (fx_1_0 hF1) ?_
      refine s_iconst C dX9_likely_33 (by decide) ?_
      refine s_iald (v0 := (M 2 1)) C (sh_2 hF1) (by decide) (by decide) dX9_likely_34 rfl ?_
      obtain ⟨o8, h⟩ := h
      obtain ⟨Q9, hKQ9, h⟩ := h
      refine s_callV (ci := 2) (av := [(2, (pcO M l2)), (0, (M 2 1))]) (rest := []) (mc := 0) (ms := 0) C dX9_likely_35 lk_X9_244 o8 (by decide) rfl rfl rfl (Nat.le_of_ble_eq_true rfl) (by decide) (by decide) hKQ9 (fun z9 w9 M9 hq => ?_)
      have h := h z9 w9 M9 hq
      refine s_istore (ls' := [(2, 1), (0, l1), (0, l2), (0, l3), (2, (pcO M l2)), (0, z9), (3, 0)]) C dX9_likely_38 (by decide) rfl rfl ?_
      refine s_iload C dX9_likely_40 rfl ?_
      refine s_bipush C dX9_likely_42 ⟨rfl, by decide, by decide⟩ ?_
      refine s_icmpne C dX9_likely_44 rfl (fun hc => ?_) (fun hc => ?_)
      · have h := h.1 hc
        refine s_aload_n C dX9_likely_51 rfl ?_
        refine WA.fix (fun hF10 => ?_)
        refine gf_X9_66 C (sh_1 hF10) dX9_likely_52 (fx_1_12 hF10) ?_
        refine s_iload_n C dX9_likely_55 rfl ?_
        refine s_aald (v0 := (M9 13 l1)) (t0 := 3) C (sh_13 hF10) (by decide) rfl o6 o7 dX9_likely_56 rfl ?_
        refine s_aload C dX9_likely_57 rfl ?_
        refine s_iload C dX9_likely_59 rfl ?_
        refine s_aload_n C dX9_likely_61 rfl ?_
        refine gf_X9_7 C (sh_1 hF10) dX9_likely_62 (fx_1_0 hF10) ?_
        refine s_iconst C dX9_likely_65 (by decide) ?_
        refine s_iald (v0 := (M9 2 1)) C (sh_2 hF10) (by decide) (by decide) dX9_likely_66 rfl ?_
        obtain ⟨o11, h⟩ := h
        obtain ⟨Q12, hKQ12, h⟩ := h
        refine s_callV (ci := 2) (av := [(2, (pcO M l2)), (0, z9), (0, (M9 2 1))]) (rest := []) (mc := 0) (ms := 0) C dX9_likely_67 lk_X9_248 o11 (by decide) rfl rfl rfl (Nat.le_of_ble_eq_true rfl) (by decide) (by decide) hKQ12 (fun z12 w12 M12 hq => ?_)
        have h := h z12 w12 M12 hq
        refine s_istore (ls' := [(2, 1), (0, l1), (0, l2), (0, l3), (2, (pcO M l2)), (0, z9), (0, z12)]) C dX9_likely_70 (by decide) rfl rfl ?_
        refine s_iload_n C dX9_likely_72 rfl ?_
        rcases (show (l3 < 0 ∨ 2 < l3) ∨ l3 = 0 ∨ l3 = 1 ∨ l3 = 2 from by omega) with hc | hc | hc | hc
        · have h := h.1 hc
          refine s_tabOut C dX9_likely_73 hc rfl ?_
          refine s_bipush C dX9_likely_124 ⟨rfl, by decide, by decide⟩ ?_
          exact s_ireturn C dX9_likely_126 h
        · have h := h.2.1 hc
          refine s_tabIn C dX9_likely_73 hc (by decide) (by decide) rfl rfl ?_
          refine s_iload C dX9_likely_100 rfl ?_
          refine s_bipush C dX9_likely_102 ⟨rfl, by decide, by decide⟩ ?_
          refine s_icmpne C dX9_likely_104 rfl (fun hc => ?_) (fun hc => ?_)
          · have h := h.1 hc
            refine s_aload_n C dX9_likely_111 rfl ?_
            refine s_iload C dX9_likely_112 rfl ?_
            refine WA.fix (fun hF13 => ?_)
            obtain ⟨Q14, hKQ14, h⟩ := h
            refine s_callV (ci := 9) (av := [(0, z12)]) (rest := []) (mc := 0) (ms := 0) C dX9_likely_114 lk_X9_252 (sh_1 hF13) (by decide) rfl rfl rfl (Nat.le_of_ble_eq_true rfl) (by decide) (by decide) hKQ14 (fun z14 w14 M14 hq => ?_)
            have h := h z14 w14 M14 hq
            exact s_ireturn C dX9_likely_117 h
          · have h := h.2 hc
            refine s_iconst C dX9_likely_107 (by decide) ?_
            refine s_goto C dX9_likely_108 rfl ?_
            exact s_ireturn C dX9_likely_117 h
        · have h := h.2.2.1 hc
          refine s_tabIn C dX9_likely_73 hc (by decide) (by decide) rfl rfl ?_
          refine s_iload C dX9_likely_118 rfl ?_
          exact s_ireturn C dX9_likely_120 h
        · have h := h.2.2.2 hc
          refine s_tabIn C dX9_likely_73 hc (by decide) (by decide) rfl rfl ?_
          refine s_iload C dX9_likely_121 rfl ?_
          exact s_ireturn C dX9_likely_123 h
      · have h := h.2 hc
        refine s_iconst C dX9_likely_47 (by decide) ?_
        refine s_goto C dX9_likely_48 rfl ?_
        refine s_istore (ls' := [(2, 1), (0, l1), (0, l2), (0, l3), (2, (pcO M l2)), (0, z9), (0, 0)]) C dX9_likely_70 (by decide) rfl rfl ?_
        refine s_iload_n C dX9_likely_72 rfl ?_
        rcases (show (l3 < 0 ∨ 2 < l3) ∨ l3 = 0 ∨ l3 = 1 ∨ l3 = 2 from by omega) with hc | hc | hc | hc
        · have h := h.1 hc
          refine s_tabOut C dX9_likely_73 hc rfl ?_
          refine s_bipush C dX9_likely_124 ⟨rfl, by decide, by decide⟩ ?_
          exact s_ireturn C dX9_likely_126 h
        · have h := h.2.1 hc
          refine s_tabIn C dX9_likely_73 hc (by decide) (by decide) rfl rfl ?_
          refine s_iload C dX9_likely_100 rfl ?_
          refine s_bipush C dX9_likely_102 ⟨rfl, by decide, by decide⟩ ?_
          refine s_icmpne C dX9_likely_104 rfl (fun hc => ?_) (fun hc => ?_)
          · have h := h.1 hc
            refine s_aload_n C dX9_likely_111 rfl ?_
            refine s_iload C dX9_likely_112 rfl ?_
            refine WA.fix (fun hF15 => ?_)
            obtain ⟨Q16, hKQ16, h⟩ := h
            refine s_callV (ci := 9) (av := [(0, 0)]) (rest := []) (mc := 0) (ms := 0) C dX9_likely_114 lk_X9_252 (sh_1 hF15) (by decide) rfl rfl rfl (Nat.le_of_ble_eq_true rfl) (by decide) (by decide) hKQ16 (fun z16 w16 M16 hq => ?_)
            have h := h z16 w16 M16 hq
            exact s_ireturn C dX9_likely_117 h
          · have h := h.2 hc
            refine s_iconst C dX9_likely_107 (by decide) ?_
            refine s_goto C dX9_likely_108 rfl ?_
            exact s_ireturn C dX9_likely_117 h
        · have h := h.2.2.1 hc
          refine s_tabIn C dX9_likely_73 hc (by decide) (by decide) rfl rfl ?_
          refine s_iload C dX9_likely_118 rfl ?_
          exact s_ireturn C dX9_likely_120 h
        · have h := h.2.2.2 hc
          refine s_tabIn C dX9_likely_73 hc (by decide) (by decide) rfl rfl ?_
          refine s_iload C dX9_likely_121 rfl ?_
          exact s_ireturn C dX9_likely_123 h
    · have h := h.2 hc
      refine s_iconst C dX9_likely_19 (by decide) ?_
      exact s_ireturn C dX9_likely_20 h
theorem E_X9_likely {G : GP} {l : Launch} {P : Int → NS → MM → Prop} {l1 : Int} {l2 : Int} {l3 : Int} {w : NS} {M : MM} (h : inR l1 → inR l2 → inR l3 → ∀ X : BX, X.2.1 = l → CX_X9_likely G X → A_X9_likely_0 G X P l1 l2 l3 w M) : CT_X9_likely G l [(2, 1), (0, l1), (0, l2), (0, l3)] w M P :=
  CT.of RX9 "likely" (by decide +kernel) rfl rfl rfl (Nat.le_of_ble_eq_true rfl) (fun hr X hX C => h (hr (0, l1) (by simp)) (hr (0, l2) (by simp)) (hr (0, l3) (by simp)) X hX C)
def A_X0_add_0 (G : GP) (X : BX) (P : Int → NS → MM → Prop) (l1 : Int) (l2 : Int) (w : NS) (M : MM) : Prop := WA true G X (QM G X true 4 P) 3 0 [(2, 14), (0, l1), (0, l2)] [] 0 0 w M
set_option maxHeartbeats 4000000 in
set_option maxRecDepth 100000 in
theorem B_X0_add_0 {G : GP} {X : BX} {P : Int → NS → MM → Prop} {l1 : Int} {l2 : Int} {w : NS} {M : MM} (C : CX_X0_add G X) (h : (((9 ≤ (M 14 2)) → P 0 w M) ∧ ((¬ (9 ≤ (M 14 2))) → (0 ≤ (M 14 2)) ∧ ((M 14 2) < 9) ∧ (inR ((M 14 2) + 1)) ∧ P 0 w (up (up (up M 15 (M 14 2) l1) 16 (M 14 2) l2) 14 2 ((M 14 2) + 1))))) : A_X0_add_0 G X P l1 l2 w M := by
  unfold A_X0_add_0
  refine s_aload_n C dX0_add_0 rfl ?_
  refine WA.fix (fun hF1 => ?_)
  refine gf_X0_16 (v0 := (M 14 2)) C (sh_14 hF1) dX0_add_1 rfl ?_
  refine s_bipush C dX0_add_4 ⟨rfl, by decide, by decide⟩ ?_
  refine s_icmpge C dX0_add_6 rfl (fun hc => ?_) (fun hc => ?_)
  · have h := h.1 hc
    exact s_vreturn C dX0_add_39 h
  · have h := h.2 hc
    refine s_aload_n C dX0_add_9 rfl ?_
    refine gf_X0_9 C (sh_14 hF1) dX0_add_10 (fx_14_0 hF1) ?_
    refine s_aload_n C dX0_add_13 rfl ?_
    refine gf_X0_16 (v0 := (M 14 2)) C (sh_14 hF1) dX0_add_14 rfl ?_
    refine s_iload_n C dX0_add_17 rfl ?_
    obtain ⟨o2, h⟩ := h
    obtain ⟨o3, h⟩ := h
    refine s_iast C (sh_15 hF1) o2 o3 (fun _ => by decide) dX0_add_18 ?_
    refine s_aload_n C dX0_add_19 rfl ?_
    refine WA.fix (fun hF4 => ?_)
    refine gf_X0_13 C (sh_14 hF1) dX0_add_20 (fx_14_1 hF4) ?_
    refine s_aload_n C dX0_add_23 rfl ?_
    refine gf_X0_16 (v0 := (M 14 2)) C (sh_14 hF1) dX0_add_24 (up_na (by decide)) ?_
    refine s_iload_n C dX0_add_27 rfl ?_
    refine s_iast C (sh_16 hF4) o2 o3 (fun _ => by decide) dX0_add_28 ?_
    refine s_aload_n C dX0_add_29 rfl ?_
    refine s_dup C (by simp) dX0_add_30 ?_
    refine gf_X0_16 (v0 := (M 14 2)) C (sh_14 hF1) dX0_add_31 ((up_na (by decide)).trans (up_na (by decide))) ?_
    refine s_iconst C dX0_add_34 (by decide) ?_
    obtain ⟨o5, h⟩ := h
    refine s_iadd C dX0_add_35 o5 ?_
    refine pf_X0_16 C (sh_14 hF1) (fun _ => by decide) dX0_add_36 ?_
    exact s_vreturn C dX0_add_39 h
theorem E_X0_add {G : GP} {l : Launch} {P : Int → NS → MM → Prop} {l1 : Int} {l2 : Int} {w : NS} {M : MM} (h : inR l1 → inR l2 → ∀ X : BX, X.2.1 = l → CX_X0_add G X → A_X0_add_0 G X P l1 l2 w M) : CT_X0_add G l [(2, 14), (0, l1), (0, l2)] w M P :=
  CT.of RX0 "add" (by decide +kernel) rfl rfl rfl (Nat.le_of_ble_eq_true rfl) (fun hr X hX C => h (hr (0, l1) (by simp)) (hr (0, l2) (by simp)) X hX C)
def A_X9_gatherAsked_0 (G : GP) (X : BX) (P : Int → NS → MM → Prop) (l1 : Int) (w : NS) (M : MM) : Prop := WA true G X (QM G X true 4 P) 5 0 [(2, 1), (2, l1), (3, 0), (3, 0), (3, 0)] [] 0 0 w M
def A_X9_gatherAsked_10 (G : GP) (X : BX) (P : Int → NS → MM → Prop) (l1 : Int) (l2 : Int) (w : NS) (M : MM) : Prop := WA true G X (QM G X true 4 P) 5 10 [(2, 1), (2, l1), (0, l2), (3, 0), (3, 0)] [] 0 0 w M
def A_X9_gatherAsked_34 (G : GP) (X : BX) (P : Int → NS → MM → Prop) (l1 : Int) (l2 : Int) (l3 : Int) (w : NS) (M : MM) : Prop := WA true G X (QM G X true 4 P) 5 34 [(2, 1), (2, l1), (0, l2), (0, l3), (3, 0)] [] 0 0 w M
set_option maxHeartbeats 4000000 in
set_option maxRecDepth 100000 in
theorem B_X9_gatherAsked_0 {G : GP} {X : BX} {P : Int → NS → MM → Prop} {l1 : Int} {w : NS} {M : MM} (C : CX_X9_gatherAsked G X) (h : A_X9_gatherAsked_10 G X P l1 0 w (up M 14 2 0)) : A_X9_gatherAsked_0 G X P l1 w M := by
  unfold A_X9_gatherAsked_0
  refine s_aload_n C dX9_gatherAsked_0 rfl ?_
  refine WA.fix (fun hF1 => ?_)
  refine gf_X9_73 C (sh_1 hF1) dX9_gatherAsked_1 (fx_1_13 hF1) ?_
  refine s_iconst C dX9_gatherAsked_4 (by decide) ?_
  refine pf_X9_259 C (sh_14 hF1) (fun _ => by decide) dX9_gatherAsked_5 ?_
  refine s_iconst C dX9_gatherAsked_8 (by decide) ?_
  refine s_istore_n (ls' := [(2, 1), (2, l1), (0, 0), (3, 0), (3, 0)]) C dX9_gatherAsked_9 (by decide) rfl rfl ?_
  exact h
set_option maxHeartbeats 4000000 in
set_option maxRecDepth 100000 in
theorem B_X9_gatherAsked_10 {G : GP} {X : BX} {P : Int → NS → MM → Prop} {l1 : Int} {l2 : Int} {w : NS} {M : MM} (C : CX_X9_gatherAsked G X) (h : ((((M 1 7) ≤ l2) → P 0 w M) ∧ ((¬ ((M 1 7) ≤ l2)) → (0 ≤ l2) ∧ (l2 < 10) ∧ (w.2 l1 = (5, 5)) ∧ ∃ Q5 : Int → NS → MM → Prop, CT_X9_gatherList G X.2.1 [(2, 1), (2, (M 6 l2)), (0, (M l1 2))] w M Q5 ∧ ∀ (z5 : Int) (w5 : NS) (M5 : MM), Q5 z5 w5 M5 → A_X9_gatherAsked_34 G X P l1 l2 0 w5 M5))) : A_X9_gatherAsked_10 G X P l1 l2 w M := by
  unfold A_X9_gatherAsked_10
  refine s_iload_n C dX9_gatherAsked_10 rfl ?_
  refine s_aload_n C dX9_gatherAsked_11 rfl ?_
  refine WA.fix (fun hF1 => ?_)
  refine gf_X9_41 (v0 := (M 1 7)) C (sh_1 hF1) dX9_gatherAsked_12 rfl ?_
  refine s_icmpge C dX9_gatherAsked_15 rfl (fun hc => ?_) (fun hc => ?_)
  · have h := h.1 hc
    exact s_vreturn C dX9_gatherAsked_99 h
  · have h := h.2 hc
    refine s_aload_n C dX9_gatherAsked_18 rfl ?_
    refine s_aload_n C dX9_gatherAsked_19 rfl ?_
    refine gf_X9_37 C (sh_1 hF1) dX9_gatherAsked_20 (fx_1_6 hF1) ?_
    refine s_iload_n C dX9_gatherAsked_23 rfl ?_
    obtain ⟨o2, h⟩ := h
    obtain ⟨o3, h⟩ := h
    refine s_aald (v0 := (M 6 l2)) (t0 := 4) C (sh_6 hF1) (by decide) rfl o2 o3 dX9_gatherAsked_24 rfl ?_
    refine s_aload_n C dX9_gatherAsked_25 rfl ?_
    obtain ⟨o4, h⟩ := h
    refine gf_X9_131 (v0 := (M l1 2)) C o4 dX9_gatherAsked_26 rfl ?_
    obtain ⟨Q5, hKQ5, h⟩ := h
    refine s_callV (ci := 9) (av := [(2, (M 6 l2)), (0, (M l1 2))]) (rest := []) (mc := 0) (ms := 0) C dX9_gatherAsked_29 lk_X9_231 (sh_1 hF1) (by decide) rfl rfl rfl (Nat.le_of_ble_eq_true rfl) (by decide) (by decide) hKQ5 (fun z5 w5 M5 hq => ?_)
    have h := h z5 w5 M5 hq
    refine s_iconst C dX9_gatherAsked_32 (by decide) ?_
    refine s_istore_n (ls' := [(2, 1), (2, l1), (0, l2), (0, 0), (3, 0)]) C dX9_gatherAsked_33 (by decide) rfl rfl ?_
    exact h
set_option maxHeartbeats 4000000 in
set_option maxRecDepth 100000 in
theorem B_X9_gatherAsked_34 {G : GP} {X : BX} {P : Int → NS → MM → Prop} {l1 : Int} {l2 : Int} {l3 : Int} {w : NS} {M : MM} (C : CX_X9_gatherAsked G X) (h : ((((M 1 11) ≤ l3) → (inR (l2 + 1)) ∧ A_X9_gatherAsked_10 G X P l1 (l2 + 1) w M) ∧ ((¬ ((M 1 11) ≤ l3)) → (0 ≤ l3) ∧ (l3 < 24) ∧ (0 ≤ (M 12 l3)) ∧ ((M 12 l3) < 24) ∧ (w.2 (M 4 (M 12 l3)) = (7, 12)) ∧ (0 ≤ (M (M 4 (M 12 l3)) 1)) ∧ (0 ≤ l1) ∧ ((((M (M 4 (M 12 l3)) 1) = l1) → ∃ Q10 : Int → NS → MM → Prop, CT_X0_add G X.2.1 [(2, 14), (0, l2), (0, (M 12 l3))] w M Q10 ∧ ∀ (z10 : Int) (w10 : NS) (M10 : MM), Q10 z10 w10 M10 → (inR (l3 + 1)) ∧ A_X9_gatherAsked_34 G X P l1 l2 (l3 + 1) w10 M10) ∧ ((¬ ((M (M 4 (M 12 l3)) 1) = l1)) → (w.2 l1 = (5, 5)) ∧ (0 ≤ (M l1 4)) ∧ ((((M (M 4 (M 12 l3)) 1) ≠ (M l1 4)) → (inR (l3 + 1)) ∧ A_X9_gatherAsked_34 G X P l1 l2 (l3 + 1) w M) ∧ ((¬ ((M (M 4 (M 12 l3)) 1) ≠ (M l1 4))) → ∃ Q15 : Int → NS → MM → Prop, CT_X0_add G X.2.1 [(2, 14), (0, l2), (0, (M 12 l3))] w M Q15 ∧ ∀ (z15 : Int) (w15 : NS) (M15 : MM), Q15 z15 w15 M15 → (inR (l3 + 1)) ∧ A_X9_gatherAsked_34 G X P l1 l2 (l3 + 1) w15 M15))))))) : A_X9_gatherAsked_34 G X P l1 l2 l3 w M := by
  unfold A_X9_gatherAsked_34
  refine s_iload_n C dX9_gatherAsked_34 rfl ?_
  refine s_aload_n C dX9_gatherAsked_35 rfl ?_
  refine WA.fix (fun hF1 => ?_)
  refine gf_X9_61 (v0 := (M 1 11)) C (sh_1 hF1) dX9_gatherAsked_36 rfl ?_
  refine s_icmpge C dX9_gatherAsked_39 rfl (fun hc => ?_) (fun hc => ?_)
  · have h := h.1 hc
    obtain ⟨o2, h⟩ := h
    refine s_iinc (ls' := [(2, 1), (2, l1), (0, (l2 + 1)), (0, l3), (3, 0)]) C dX9_gatherAsked_93 (by decide) rfl o2 rfl rfl ?_
    refine s_goto C dX9_gatherAsked_96 rfl ?_
    exact WA.wk h ⟨Or.inr rfl, Or.inr rfl, Or.inr rfl, Or.inl rfl, Or.inl rfl, trivial⟩
  · have h := h.2 hc
    refine s_aload_n C dX9_gatherAsked_42 rfl ?_
    refine gf_X9_25 C (sh_1 hF1) dX9_gatherAsked_43 (fx_1_3 hF1) ?_
    refine s_aload_n C dX9_gatherAsked_46 rfl ?_
    refine gf_X9_58 C (sh_1 hF1) dX9_gatherAsked_47 (fx_1_10 hF1) ?_
    refine s_iload_n C dX9_gatherAsked_50 rfl ?_
    obtain ⟨o3, h⟩ := h
    obtain ⟨o4, h⟩ := h
    refine s_iald (v0 := (M 12 l3)) C (sh_12 hF1) o3 o4 dX9_gatherAsked_51 rfl ?_
    obtain ⟨o5, h⟩ := h
    obtain ⟨o6, h⟩ := h
    refine s_aald (v0 := (M 4 (M 12 l3))) (t0 := 6) C (sh_4 hF1) (by decide) rfl o5 o6 dX9_gatherAsked_52 rfl ?_
    obtain ⟨o7, h⟩ := h
    refine gf_X9_166 (v0 := (M (M 4 (M 12 l3)) 1)) C o7 dX9_gatherAsked_53 rfl ?_
    refine s_astore (ls' := [(2, 1), (2, l1), (0, l2), (0, l3), (2, (M (M 4 (M 12 l3)) 1))]) C dX9_gatherAsked_56 (by decide) rfl rfl ?_
    refine s_aload C dX9_gatherAsked_58 rfl ?_
    refine s_aload_n C dX9_gatherAsked_60 rfl ?_
    obtain ⟨o8, h⟩ := h
    obtain ⟨o9, h⟩ := h
    refine s_acmpeq C dX9_gatherAsked_61 rfl o8 o9 (fun hc => ?_) (fun hc => ?_)
    · have h := h.1 hc
      refine s_aload_n C dX9_gatherAsked_73 rfl ?_
      refine gf_X9_73 C (sh_1 hF1) dX9_gatherAsked_74 (fx_1_13 hF1) ?_
      refine s_iload_n C dX9_gatherAsked_77 rfl ?_
      refine s_aload_n C dX9_gatherAsked_78 rfl ?_
      refine gf_X9_58 C (sh_1 hF1) dX9_gatherAsked_79 (fx_1_10 hF1) ?_
      refine s_iload_n C dX9_gatherAsked_82 rfl ?_
      refine s_iald (v0 := (M 12 l3)) C (sh_12 hF1) o3 o4 dX9_gatherAsked_83 rfl ?_
      obtain ⟨Q10, hKQ10, h⟩ := h
      refine s_callV (ci := 0) (av := [(0, l2), (0, (M 12 l3))]) (rest := []) (mc := 0) (ms := 0) C dX9_gatherAsked_84 lk_X9_340 (sh_14 hF1) (by decide) rfl rfl rfl (Nat.le_of_ble_eq_true rfl) (by decide) (by decide) hKQ10 (fun z10 w10 M10 hq => ?_)
      have h := h z10 w10 M10 hq
      obtain ⟨o11, h⟩ := h
      refine s_iinc (ls' := [(2, 1), (2, l1), (0, l2), (0, (l3 + 1)), (2, (M (M 4 (M 12 l3)) 1))]) C dX9_gatherAsked_87 (by decide) rfl o11 rfl rfl ?_
      refine s_goto C dX9_gatherAsked_90 rfl ?_
      exact WA.wk h ⟨Or.inr rfl, Or.inr rfl, Or.inr rfl, Or.inr rfl, Or.inl rfl, trivial⟩
    · have h := h.2 hc
      refine s_aload C dX9_gatherAsked_64 rfl ?_
      refine s_aload_n C dX9_gatherAsked_66 rfl ?_
      obtain ⟨o12, h⟩ := h
      refine gf_X9_134 (v0 := (M l1 4)) C o12 dX9_gatherAsked_67 rfl ?_
      obtain ⟨o13, h⟩ := h
      refine s_acmpne C dX9_gatherAsked_70 rfl o8 o13 (fun hc => ?_) (fun hc => ?_)
      · have h := h.1 hc
        obtain ⟨o14, h⟩ := h
        refine s_iinc (ls' := [(2, 1), (2, l1), (0, l2), (0, (l3 + 1)), (2, (M (M 4 (M 12 l3)) 1))]) C dX9_gatherAsked_87 (by decide) rfl o14 rfl rfl ?_
        refine s_goto C dX9_gatherAsked_90 rfl ?_
        exact WA.wk h ⟨Or.inr rfl, Or.inr rfl, Or.inr rfl, Or.inr rfl, Or.inl rfl, trivial⟩
      · have h := h.2 hc
        refine s_aload_n C dX9_gatherAsked_73 rfl ?_
        refine gf_X9_73 C (sh_1 hF1) dX9_gatherAsked_74 (fx_1_13 hF1) ?_
        refine s_iload_n C dX9_gatherAsked_77 rfl ?_
        refine s_aload_n C dX9_gatherAsked_78 rfl ?_
        refine gf_X9_58 C (sh_1 hF1) dX9_gatherAsked_79 (fx_1_10 hF1) ?_
        refine s_iload_n C dX9_gatherAsked_82 rfl ?_
        refine s_iald (v0 := (M 12 l3)) C (sh_12 hF1) o3 o4 dX9_gatherAsked_83 rfl ?_
        obtain ⟨Q15, hKQ15, h⟩ := h
        refine s_callV (ci := 0) (av := [(0, l2), (0, (M 12 l3))]) (rest := []) (mc := 0) (ms := 0) C dX9_gatherAsked_84 lk_X9_340 (sh_14 hF1) (by decide) rfl rfl rfl (Nat.le_of_ble_eq_true rfl) (by decide) (by decide) hKQ15 (fun z15 w15 M15 hq => ?_)
        have h := h z15 w15 M15 hq
        obtain ⟨o16, h⟩ := h
        refine s_iinc (ls' := [(2, 1), (2, l1), (0, l2), (0, (l3 + 1)), (2, (M (M 4 (M 12 l3)) 1))]) C dX9_gatherAsked_87 (by decide) rfl o16 rfl rfl ?_
        refine s_goto C dX9_gatherAsked_90 rfl ?_
        exact WA.wk h ⟨Or.inr rfl, Or.inr rfl, Or.inr rfl, Or.inr rfl, Or.inl rfl, trivial⟩
theorem E_X9_gatherAsked {G : GP} {l : Launch} {P : Int → NS → MM → Prop} {l1 : Int} {w : NS} {M : MM} (h : ∀ X : BX, X.2.1 = l → CX_X9_gatherAsked G X → A_X9_gatherAsked_0 G X P l1 w M) : CT_X9_gatherAsked G l [(2, 1), (2, l1)] w M P :=
  CT.of RX9 "gatherAsked" (by decide +kernel) rfl rfl rfl (Nat.le_of_ble_eq_true rfl) (fun hr X hX C => h  X hX C)
def A_X9_asked_0 (G : GP) (X : BX) (P : Int → NS → MM → Prop) (l1 : Int) (l2 : Int) (w : NS) (M : MM) : Prop := WA true G X (QM G X true 0 P) 4 0 [(2, 1), (0, l1), (0, l2), (3, 0)] [] 0 0 w M
set_option maxHeartbeats 4000000 in
set_option maxRecDepth 100000 in
theorem B_X9_asked_0 {G : GP} {X : BX} {P : Int → NS → MM → Prop} {l1 : Int} {l2 : Int} {w : NS} {M : MM} (C : CX_X9_asked G X) (h : (0 ≤ M 1 2) ∧ (M 1 2 ≤ 8) ∧ ((((pgO M l1) ≠ 0) → ∃ Q5 : Int → NS → MM → Prop, CT_X9_gatherAsked G X.2.1 [(2, 1), (2, (pgO M l1))] w M Q5 ∧ ∀ (z5 : Int) (w5 : NS) (M5 : MM), Q5 z5 w5 M5 → (((l2 ≠ (-1)) → (inR ((M5 14 2) - 1)) ∧ (((¬ (0 ≤ l2 ∧ l2 ≤ ((M5 14 2) - 1))) → P (-6) w5 M5) ∧ (((0 ≤ l2 ∧ l2 ≤ ((M5 14 2) - 1))) → (0 ≤ l2) ∧ (l2 < 9) ∧ (inR (100 * (M5 15 l2))) ∧ (inR ((100 * (M5 15 l2)) + (M5 16 l2))) ∧ P ((100 * (M5 15 l2)) + (M5 16 l2)) w5 M5))) ∧ ((¬ (l2 ≠ (-1))) → P (M5 14 2) w5 M5))) ∧ ((¬ ((pgO M l1) ≠ 0)) → P (-1) w M))) : A_X9_asked_0 G X P l1 l2 w M := by
  unfold A_X9_asked_0
  refine s_aload_n C dX9_asked_0 rfl ?_
  refine s_iload_n C dX9_asked_1 rfl ?_
  refine WA.fix (fun hF1 => ?_)
  obtain ⟨o2, h⟩ := h
  obtain ⟨o3, h⟩ := h
  refine s_callV (ci := 9) (av := [(0, l1)]) (rest := []) (mc := 0) (ms := 0) C dX9_asked_2 lk_X9_106 (sh_1 hF1) (by decide) rfl rfl rfl (Nat.le_of_ble_eq_true rfl) (by decide) (by decide) (pc_X9_pageOf o2 o3) (fun z4 wz4 Mz4 hq => ?_)
  obtain ⟨hq1, hq2, hq3⟩ := hq
  have hq2 := hq2.symm
  have hq3 := hq3.symm
  subst hq1 hq2 hq3
  refine s_astore_n (ls' := [(2, 1), (0, l1), (0, l2), (2, (pgO M l1))]) C dX9_asked_5 (by decide) rfl rfl ?_
  refine s_aload_n C dX9_asked_6 rfl ?_
  refine s_ifnonnull C dX9_asked_7 rfl (fun hc => ?_) (fun hc => ?_)
  · have h := h.1 hc
    refine s_aload_n C dX9_asked_12 rfl ?_
    refine s_aload_n C dX9_asked_13 rfl ?_
    obtain ⟨Q5, hKQ5, h⟩ := h
    refine s_callV (ci := 9) (av := [(2, (pgO M l1))]) (rest := []) (mc := 0) (ms := 0) C dX9_asked_14 lk_X9_256 (sh_1 hF1) (by decide) rfl rfl rfl (Nat.le_of_ble_eq_true rfl) (by decide) (by decide) hKQ5 (fun z5 w5 M5 hq => ?_)
    have h := h z5 w5 M5 hq
    refine s_iload_n C dX9_asked_17 rfl ?_
    refine s_iconst C dX9_asked_18 (by decide) ?_
    refine s_icmpne C dX9_asked_19 rfl (fun hc => ?_) (fun hc => ?_)
    · have h := h.1 hc
      refine s_iload_n C dX9_asked_30 rfl ?_
      refine s_iconst C dX9_asked_31 (by decide) ?_
      refine s_aload_n C dX9_asked_32 rfl ?_
      refine WA.fix (fun hF6 => ?_)
      refine gf_X9_73 C (sh_1 hF6) dX9_asked_33 (fx_1_13 hF6) ?_
      refine gf_X9_259 (v0 := (M5 14 2)) C (sh_14 hF6) dX9_asked_36 rfl ?_
      refine s_iconst C dX9_asked_39 (by decide) ?_
      obtain ⟨o7, h⟩ := h
      refine s_isub C dX9_asked_40 o7 ?_
      refine s_callS (av := [(0, l2), (0, 0), (0, ((M5 14 2) - 1))]) (rest := []) (mc := 0) (ms := 0) C dX9_asked_41 lk_X9_95 rfl rfl (Nat.le_of_ble_eq_true rfl) (by decide) (by decide) (pc_X9_within) (fun z8 wz8 Mz8 hq => ?_)
      obtain ⟨hq1, hq2, hq3⟩ := hq
      have hq2 := hq2.symm
      have hq3 := hq3.symm
      subst hq1 hq2 hq3
      refine s_ifeq C dX9_asked_44 rfl (fun hc => ?_) (fun hc => ?_)
      · have h := h.1 (b2i_0.mp hc)
        refine s_bipush C dX9_asked_72 ⟨rfl, by decide, by decide⟩ ?_
        exact s_ireturn C dX9_asked_74 h
      · have h := h.2 (b2i_n0 hc)
        refine s_bipush C dX9_asked_47 ⟨rfl, by decide, by decide⟩ ?_
        refine s_aload_n C dX9_asked_49 rfl ?_
        refine gf_X9_73 C (sh_1 hF6) dX9_asked_50 (fx_1_13 hF6) ?_
        refine gf_X9_260 C (sh_14 hF6) dX9_asked_53 (fx_14_0 hF6) ?_
        refine s_iload_n C dX9_asked_56 rfl ?_
        obtain ⟨o9, h⟩ := h
        obtain ⟨o10, h⟩ := h
        refine s_iald (v0 := (M5 15 l2)) C (sh_15 hF6) o9 o10 dX9_asked_57 rfl ?_
        obtain ⟨o11, h⟩ := h
        refine s_imul C dX9_asked_58 o11 ?_
        refine s_aload_n C dX9_asked_59 rfl ?_
        refine gf_X9_73 C (sh_1 hF6) dX9_asked_60 (fx_1_13 hF6) ?_
        refine gf_X9_262 C (sh_14 hF6) dX9_asked_63 (fx_14_1 hF6) ?_
        refine s_iload_n C dX9_asked_66 rfl ?_
        refine s_iald (v0 := (M5 16 l2)) C (sh_16 hF6) o9 o10 dX9_asked_67 rfl ?_
        obtain ⟨o12, h⟩ := h
        refine s_iadd C dX9_asked_68 o12 ?_
        refine s_goto C dX9_asked_69 rfl ?_
        exact s_ireturn C dX9_asked_74 h
    · have h := h.2 hc
      refine s_aload_n C dX9_asked_22 rfl ?_
      refine WA.fix (fun hF13 => ?_)
      refine gf_X9_73 C (sh_1 hF13) dX9_asked_23 (fx_1_13 hF13) ?_
      refine gf_X9_259 (v0 := (M5 14 2)) C (sh_14 hF13) dX9_asked_26 rfl ?_
      exact s_ireturn C dX9_asked_29 h
  · have h := h.2 hc
    refine s_iconst C dX9_asked_10 (by decide) ?_
    exact s_ireturn C dX9_asked_11 h
theorem E_X9_asked {G : GP} {l : Launch} {P : Int → NS → MM → Prop} {l1 : Int} {l2 : Int} {w : NS} {M : MM} (h : inR l1 → inR l2 → ∀ X : BX, X.2.1 = l → CX_X9_asked G X → A_X9_asked_0 G X P l1 l2 w M) : CT_X9_asked G l [(2, 1), (0, l1), (0, l2)] w M P :=
  CT.of RX9 "asked" (by decide +kernel) rfl rfl rfl (Nat.le_of_ble_eq_true rfl) (fun hr X hX C => h (hr (0, l1) (by simp)) (hr (0, l2) (by simp)) X hX C)
def A_X0_findClashes_0 (G : GP) (X : BX) (P : Int → NS → MM → Prop) (l1 : Int) (w : NS) (M : MM) : Prop := WA true G X (QM G X true 4 P) 5 0 [(2, 14), (2, l1), (3, 0), (3, 0), (3, 0)] [] 0 0 w M
def A_X0_findClashes_2 (G : GP) (X : BX) (P : Int → NS → MM → Prop) (l1 : Int) (l2 : Int) (w : NS) (M : MM) : Prop := WA true G X (QM G X true 4 P) 5 2 [(2, 14), (2, l1), (0, l2), (3, 0), (3, 0)] [] 0 0 w M
def A_X0_findClashes_15 (G : GP) (X : BX) (P : Int → NS → MM → Prop) (l1 : Int) (l2 : Int) (l3 : Int) (l4 : Int) (w : NS) (M : MM) : Prop := WA true G X (QM G X true 4 P) 5 15 [(2, 14), (2, l1), (0, l2), (0, l3), (0, l4)] [] 0 0 w M
set_option maxHeartbeats 4000000 in
set_option maxRecDepth 100000 in
theorem B_X0_findClashes_0 {G : GP} {X : BX} {P : Int → NS → MM → Prop} {l1 : Int} {w : NS} {M : MM} (C : CX_X0_findClashes G X) (h : A_X0_findClashes_2 G X P l1 0 w M) : A_X0_findClashes_0 G X P l1 w M := by
  unfold A_X0_findClashes_0
  refine s_iconst C dX0_findClashes_0 (by decide) ?_
  refine s_istore_n (ls' := [(2, 14), (2, l1), (0, 0), (3, 0), (3, 0)]) C dX0_findClashes_1 (by decide) rfl rfl ?_
  exact h
set_option maxHeartbeats 4000000 in
set_option maxRecDepth 100000 in
theorem B_X0_findClashes_2 {G : GP} {X : BX} {P : Int → NS → MM → Prop} {l1 : Int} {l2 : Int} {w : NS} {M : MM} (C : CX_X0_findClashes G X) (h : ((((M 14 2) ≤ l2) → P 0 w M) ∧ ((¬ ((M 14 2) ≤ l2)) → A_X0_findClashes_15 G X P l1 l2 0 0 w M))) : A_X0_findClashes_2 G X P l1 l2 w M := by
  unfold A_X0_findClashes_2
  refine s_iload_n C dX0_findClashes_2 rfl ?_
  refine s_aload_n C dX0_findClashes_3 rfl ?_
  refine WA.fix (fun hF1 => ?_)
  refine gf_X0_16 (v0 := (M 14 2)) C (sh_14 hF1) dX0_findClashes_4 rfl ?_
  refine s_icmpge C dX0_findClashes_7 rfl (fun hc => ?_) (fun hc => ?_)
  · have h := h.1 hc
    exact s_vreturn C dX0_findClashes_93 h
  · have h := h.2 hc
    refine s_iconst C dX0_findClashes_10 (by decide) ?_
    refine s_istore_n (ls' := [(2, 14), (2, l1), (0, l2), (0, 0), (3, 0)]) C dX0_findClashes_11 (by decide) rfl rfl ?_
    refine s_iconst C dX0_findClashes_12 (by decide) ?_
    refine s_istore (ls' := [(2, 14), (2, l1), (0, l2), (0, 0), (0, 0)]) C dX0_findClashes_13 (by decide) rfl rfl ?_
    exact h
set_option maxHeartbeats 4000000 in
set_option maxRecDepth 100000 in
theorem B_X0_findClashes_15 {G : GP} {X : BX} {P : Int → NS → MM → Prop} {l1 : Int} {l2 : Int} {l3 : Int} {l4 : Int} {w : NS} {M : MM} (C : CX_X0_findClashes G X) (h : ((((M 14 2) ≤ l4) → (inR ((M 14 2) - 1)) ∧ (inR (((M 14 2) - 1) - l2)) ∧ (0 ≤ (((M 14 2) - 1) - l2)) ∧ ((((M 14 2) - 1) - l2) < 9) ∧ (inR (l2 + 1)) ∧ A_X0_findClashes_2 G X P l1 (l2 + 1) w (up M 17 (((M 14 2) - 1) - l2) l3)) ∧ ((¬ ((M 14 2) ≤ l4)) → (((l4 = l2) → (inR (l4 + 1)) ∧ A_X0_findClashes_15 G X P l1 l2 l3 (l4 + 1) w M) ∧ ((¬ (l4 = l2)) → (0 ≤ l2) ∧ (l2 < 9) ∧ (w.2 l1 = (18, 24)) ∧ (0 ≤ (M 16 l2)) ∧ ((M 16 l2) < 24) ∧ (0 ≤ l4) ∧ (l4 < 9) ∧ (0 ≤ (M 16 l4)) ∧ ((M 16 l4) < 24) ∧ (w.2 (M l1 (M 16 l2)) = (7, 12)) ∧ ∃ Q18 : Int → NS → MM → Prop, CT_X6_clashesWith G X.2.1 [(2, (M l1 (M 16 l2))), (2, (M l1 (M 16 l4)))] w M Q18 ∧ ∀ (z18 : Int) (w18 : NS) (M18 : MM), Q18 z18 w18 M18 → (((z18 = 0) → (inR (l4 + 1)) ∧ A_X0_findClashes_15 G X P l1 l2 l3 (l4 + 1) w18 M18) ∧ ((¬ (z18 = 0)) → (inR ((M18 14 2) - 1)) ∧ (inR (((M18 14 2) - 1) - l4)) ∧ (inR (l4 + 1)) ∧ A_X0_findClashes_15 G X P l1 l2 (zor l3 (zshl 1 (((M18 14 2) - 1) - l4))) (l4 + 1) w18 M18))))))) : A_X0_findClashes_15 G X P l1 l2 l3 l4 w M := by
  unfold A_X0_findClashes_15
  refine s_iload C dX0_findClashes_15 rfl ?_
  refine s_aload_n C dX0_findClashes_17 rfl ?_
  refine WA.fix (fun hF1 => ?_)
  refine gf_X0_16 (v0 := (M 14 2)) C (sh_14 hF1) dX0_findClashes_18 rfl ?_
  refine s_icmpge C dX0_findClashes_21 rfl (fun hc => ?_) (fun hc => ?_)
  · have h := h.1 hc
    refine s_aload_n C dX0_findClashes_73 rfl ?_
    refine gf_X0_20 C (sh_14 hF1) dX0_findClashes_74 (fx_14_3 hF1) ?_
    refine s_aload_n C dX0_findClashes_77 rfl ?_
    refine gf_X0_16 (v0 := (M 14 2)) C (sh_14 hF1) dX0_findClashes_78 rfl ?_
    refine s_iconst C dX0_findClashes_81 (by decide) ?_
    obtain ⟨o2, h⟩ := h
    refine s_isub C dX0_findClashes_82 o2 ?_
    refine s_iload_n C dX0_findClashes_83 rfl ?_
    obtain ⟨o3, h⟩ := h
    refine s_isub C dX0_findClashes_84 o3 ?_
    refine s_iload_n C dX0_findClashes_85 rfl ?_
    obtain ⟨o4, h⟩ := h
    obtain ⟨o5, h⟩ := h
    refine s_iast C (sh_17 hF1) o4 o5 (fun _ => by decide) dX0_findClashes_86 ?_
    obtain ⟨o6, h⟩ := h
    refine s_iinc (ls' := [(2, 14), (2, l1), (0, (l2 + 1)), (0, l3), (0, l4)]) C dX0_findClashes_87 (by decide) rfl o6 rfl rfl ?_
    refine s_goto C dX0_findClashes_90 rfl ?_
    exact WA.wk h ⟨Or.inr rfl, Or.inr rfl, Or.inr rfl, Or.inl rfl, Or.inl rfl, trivial⟩
  · have h := h.2 hc
    refine s_iload C dX0_findClashes_24 rfl ?_
    refine s_iload_n C dX0_findClashes_26 rfl ?_
    refine s_icmpeq C dX0_findClashes_27 rfl (fun hc => ?_) (fun hc => ?_)
    · have h := h.1 hc
      obtain ⟨o7, h⟩ := h
      refine s_iinc (ls' := [(2, 14), (2, l1), (0, l2), (0, l3), (0, (l4 + 1))]) C dX0_findClashes_67 (by decide) rfl o7 rfl rfl ?_
      refine s_goto C dX0_findClashes_70 rfl ?_
      exact h
    · have h := h.2 hc
      refine s_aload_n C dX0_findClashes_30 rfl ?_
      refine s_aload_n C dX0_findClashes_31 rfl ?_
      refine gf_X0_13 C (sh_14 hF1) dX0_findClashes_32 (fx_14_1 hF1) ?_
      refine s_iload_n C dX0_findClashes_35 rfl ?_
      obtain ⟨o8, h⟩ := h
      obtain ⟨o9, h⟩ := h
      refine s_iald (v0 := (M 16 l2)) C (sh_16 hF1) o8 o9 dX0_findClashes_36 rfl ?_
      obtain ⟨o10, h⟩ := h
      obtain ⟨o11, h⟩ := h
      obtain ⟨o12, h⟩ := h
      refine s_aald (v0 := (M l1 (M 16 l2))) (t0 := 6) C o10 (by decide) rfl o11 o12 dX0_findClashes_37 rfl ?_
      refine s_aload_n C dX0_findClashes_38 rfl ?_
      refine s_aload_n C dX0_findClashes_39 rfl ?_
      refine gf_X0_13 C (sh_14 hF1) dX0_findClashes_40 (fx_14_1 hF1) ?_
      refine s_iload C dX0_findClashes_43 rfl ?_
      obtain ⟨o13, h⟩ := h
      obtain ⟨o14, h⟩ := h
      refine s_iald (v0 := (M 16 l4)) C (sh_16 hF1) o13 o14 dX0_findClashes_45 rfl ?_
      obtain ⟨o15, h⟩ := h
      obtain ⟨o16, h⟩ := h
      refine s_aald (v0 := (M l1 (M 16 l4))) (t0 := 6) C o10 (by decide) rfl o15 o16 dX0_findClashes_46 rfl ?_
      obtain ⟨o17, h⟩ := h
      obtain ⟨Q18, hKQ18, h⟩ := h
      refine s_callV (ci := 6) (av := [(2, (M l1 (M 16 l4)))]) (rest := []) (mc := 0) (ms := 0) C dX0_findClashes_47 lk_X0_39 o17 (by decide) rfl rfl rfl (Nat.le_of_ble_eq_true rfl) (by decide) (by decide) hKQ18 (fun z18 w18 M18 hq => ?_)
      have h := h z18 w18 M18 hq
      refine s_ifeq C dX0_findClashes_50 rfl (fun hc => ?_) (fun hc => ?_)
      · have h := h.1 hc
        obtain ⟨o19, h⟩ := h
        refine s_iinc (ls' := [(2, 14), (2, l1), (0, l2), (0, l3), (0, (l4 + 1))]) C dX0_findClashes_67 (by decide) rfl o19 rfl rfl ?_
        refine s_goto C dX0_findClashes_70 rfl ?_
        exact h
      · have h := h.2 hc
        refine s_iload_n C dX0_findClashes_53 rfl ?_
        refine s_iconst C dX0_findClashes_54 (by decide) ?_
        refine s_aload_n C dX0_findClashes_55 rfl ?_
        refine WA.fix (fun hF20 => ?_)
        refine gf_X0_16 (v0 := (M18 14 2)) C (sh_14 hF20) dX0_findClashes_56 rfl ?_
        refine s_iconst C dX0_findClashes_59 (by decide) ?_
        obtain ⟨o21, h⟩ := h
        refine s_isub C dX0_findClashes_60 o21 ?_
        refine s_iload C dX0_findClashes_61 rfl ?_
        obtain ⟨o22, h⟩ := h
        refine s_isub C dX0_findClashes_63 o22 ?_
        refine s_ishl C dX0_findClashes_64 ?_
        refine s_ior C dX0_findClashes_65 ?_
        refine s_istore_n (ls' := [(2, 14), (2, l1), (0, l2), (0, (zor l3 (zshl 1 (((M18 14 2) - 1) - l4)))), (0, l4)]) C dX0_findClashes_66 (by decide) rfl rfl ?_
        obtain ⟨o23, h⟩ := h
        refine s_iinc (ls' := [(2, 14), (2, l1), (0, l2), (0, (zor l3 (zshl 1 (((M18 14 2) - 1) - l4)))), (0, (l4 + 1))]) C dX0_findClashes_67 (by decide) rfl o23 rfl rfl ?_
        refine s_goto C dX0_findClashes_70 rfl ?_
        exact h
theorem E_X0_findClashes {G : GP} {l : Launch} {P : Int → NS → MM → Prop} {l1 : Int} {w : NS} {M : MM} (h : ∀ X : BX, X.2.1 = l → CX_X0_findClashes G X → A_X0_findClashes_0 G X P l1 w M) : CT_X0_findClashes G l [(2, 14), (2, l1)] w M P :=
  CT.of RX0 "findClashes" (by decide +kernel) rfl rfl rfl (Nat.le_of_ble_eq_true rfl) (fun hr X hX C => h  X hX C)
def A_X0_fitsOneSheet_0 (G : GP) (X : BX) (P : Int → NS → MM → Prop) (l1 : Int) (w : NS) (M : MM) : Prop := WA true G X (QM G X true 0 P) 3 0 [(2, 14), (0, l1), (3, 0)] [] 0 0 w M
def A_X0_fitsOneSheet_2 (G : GP) (X : BX) (P : Int → NS → MM → Prop) (l1 : Int) (l2 : Int) (w : NS) (M : MM) : Prop := WA true G X (QM G X true 0 P) 3 2 [(2, 14), (0, l1), (0, l2)] [] 0 0 w M
set_option maxHeartbeats 4000000 in
set_option maxRecDepth 100000 in
theorem B_X0_fitsOneSheet_0 {G : GP} {X : BX} {P : Int → NS → MM → Prop} {l1 : Int} {w : NS} {M : MM} (C : CX_X0_fitsOneSheet G X) (h : A_X0_fitsOneSheet_2 G X P l1 0 w M) : A_X0_fitsOneSheet_0 G X P l1 w M := by
  unfold A_X0_fitsOneSheet_0
  refine s_iconst C dX0_fitsOneSheet_0 (by decide) ?_
  refine s_istore_n (ls' := [(2, 14), (0, l1), (0, 0)]) C dX0_fitsOneSheet_1 (by decide) rfl rfl ?_
  exact h
set_option maxHeartbeats 4000000 in
set_option maxRecDepth 100000 in
theorem B_X0_fitsOneSheet_2 {G : GP} {X : BX} {P : Int → NS → MM → Prop} {l1 : Int} {l2 : Int} {w : NS} {M : MM} (C : CX_X0_fitsOneSheet G X) (h : ((((M 14 2) ≤ l2) → P 1 w M) ∧ ((¬ ((M 14 2) ≤ l2)) → (((¬ (zand (zshr l1 l2) 1 = 1)) → (inR (l2 + 1)) ∧ A_X0_fitsOneSheet_2 G X P l1 (l2 + 1) w M) ∧ (((zand (zshr l1 l2) 1 = 1)) → (0 ≤ l2) ∧ (l2 < 9) ∧ ((((zand (M 17 l2) l1) = 0) → (inR (l2 + 1)) ∧ A_X0_fitsOneSheet_2 G X P l1 (l2 + 1) w M) ∧ ((¬ ((zand (M 17 l2) l1) = 0)) → P 0 w M))))))) : A_X0_fitsOneSheet_2 G X P l1 l2 w M := by
  unfold A_X0_fitsOneSheet_2
  refine s_iload_n C dX0_fitsOneSheet_2 rfl ?_
  refine s_aload_n C dX0_fitsOneSheet_3 rfl ?_
  refine WA.fix (fun hF1 => ?_)
  refine gf_X0_16 (v0 := (M 14 2)) C (sh_14 hF1) dX0_fitsOneSheet_4 rfl ?_
  refine s_icmpge C dX0_fitsOneSheet_7 rfl (fun hc => ?_) (fun hc => ?_)
  · have h := h.1 hc
    refine s_iconst C dX0_fitsOneSheet_37 (by decide) ?_
    exact s_zreturn C dX0_fitsOneSheet_38 (by decide) h
  · have h := h.2 hc
    refine s_iload_n C dX0_fitsOneSheet_10 rfl ?_
    refine s_iload_n C dX0_fitsOneSheet_11 rfl ?_
    refine s_callSN (av := [(0, l1), (0, l2)]) (rest := []) (mc := 0) (ms := 0) C dX0_fitsOneSheet_12 lk_X0_52 rfl rfl (Nat.le_of_ble_eq_true rfl) (by decide) (by decide) (pc_X9_hasBit) (fun z2 wz2 Mz2 hq => ?_)
    obtain ⟨hq1, hq2, hq3⟩ := hq
    have hq2 := hq2.symm
    have hq3 := hq3.symm
    subst hq1 hq2 hq3
    refine s_ifeq C dX0_fitsOneSheet_15 rfl (fun hc => ?_) (fun hc => ?_)
    · have h := h.1 (b2i_0.mp hc)
      obtain ⟨o3, h⟩ := h
      refine s_iinc (ls' := [(2, 14), (0, l1), (0, (l2 + 1))]) C dX0_fitsOneSheet_31 (by decide) rfl o3 rfl rfl ?_
      refine s_goto C dX0_fitsOneSheet_34 rfl ?_
      exact h
    · have h := h.2 (b2i_n0 hc)
      refine s_aload_n C dX0_fitsOneSheet_18 rfl ?_
      refine gf_X0_20 C (sh_14 hF1) dX0_fitsOneSheet_19 (fx_14_3 hF1) ?_
      refine s_iload_n C dX0_fitsOneSheet_22 rfl ?_
      obtain ⟨o4, h⟩ := h
      obtain ⟨o5, h⟩ := h
      refine s_iald (v0 := (M 17 l2)) C (sh_17 hF1) o4 o5 dX0_fitsOneSheet_23 rfl ?_
      refine s_iload_n C dX0_fitsOneSheet_24 rfl ?_
      refine s_iand C dX0_fitsOneSheet_25 ?_
      refine s_ifeq C dX0_fitsOneSheet_26 rfl (fun hc => ?_) (fun hc => ?_)
      · have h := h.1 hc
        obtain ⟨o6, h⟩ := h
        refine s_iinc (ls' := [(2, 14), (0, l1), (0, (l2 + 1))]) C dX0_fitsOneSheet_31 (by decide) rfl o6 rfl rfl ?_
        refine s_goto C dX0_fitsOneSheet_34 rfl ?_
        exact h
      · have h := h.2 hc
        refine s_iconst C dX0_fitsOneSheet_29 (by decide) ?_
        exact s_zreturn C dX0_fitsOneSheet_30 (by decide) h
theorem E_X0_fitsOneSheet {G : GP} {l : Launch} {P : Int → NS → MM → Prop} {l1 : Int} {w : NS} {M : MM} (h : inR l1 → ∀ X : BX, X.2.1 = l → CX_X0_fitsOneSheet G X → A_X0_fitsOneSheet_0 G X P l1 w M) : CT_X0_fitsOneSheet G l [(2, 14), (0, l1)] w M P :=
  CT.of RX0 "fitsOneSheet" (by decide +kernel) rfl rfl rfl (Nat.le_of_ble_eq_true rfl) (fun hr X hX C => h (hr (0, l1) (by simp)) X hX C)
def A_X0_leastSheets_0 (G : GP) (X : BX) (P : Int → NS → MM → Prop) (l1 : Int) (w : NS) (M : MM) : Prop := WA true G X (QM G X true 0 P) 4 0 [(2, 14), (0, l1), (3, 0), (3, 0)] [] 0 0 w M
def A_X0_leastSheets_9 (G : GP) (X : BX) (P : Int → NS → MM → Prop) (l1 : Int) (l2 : Int) (l3 : Int) (w : NS) (M : MM) : Prop := WA true G X (QM G X true 0 P) 4 9 [(2, 14), (0, l1), (0, l2), (0, l3)] [] 0 0 w M
set_option maxHeartbeats 4000000 in
set_option maxRecDepth 100000 in
theorem B_X0_leastSheets_0 {G : GP} {X : BX} {P : Int → NS → MM → Prop} {l1 : Int} {w : NS} {M : MM} (C : CX_X0_leastSheets G X) (h : (inR (l1 - 1)) ∧ A_X0_leastSheets_9 G X P l1 9 (zand (l1 - 1) l1) w M) : A_X0_leastSheets_0 G X P l1 w M := by
  unfold A_X0_leastSheets_0
  refine s_bipush C dX0_leastSheets_0 ⟨rfl, by decide, by decide⟩ ?_
  refine s_istore_n (ls' := [(2, 14), (0, l1), (0, 9), (3, 0)]) C dX0_leastSheets_2 (by decide) rfl rfl ?_
  refine s_iload_n C dX0_leastSheets_3 rfl ?_
  refine s_iconst C dX0_leastSheets_4 (by decide) ?_
  obtain ⟨o1, h⟩ := h
  refine s_isub C dX0_leastSheets_5 o1 ?_
  refine s_iload_n C dX0_leastSheets_6 rfl ?_
  refine s_iand C dX0_leastSheets_7 ?_
  refine s_istore_n (ls' := [(2, 14), (0, l1), (0, 9), (0, (zand (l1 - 1) l1))]) C dX0_leastSheets_8 (by decide) rfl rfl ?_
  exact h
set_option maxHeartbeats 4000000 in
set_option maxRecDepth 100000 in
theorem B_X0_leastSheets_9 {G : GP} {X : BX} {P : Int → NS → MM → Prop} {l1 : Int} {l2 : Int} {l3 : Int} {w : NS} {M : MM} (C : CX_X0_leastSheets G X) (h : (((l3 ≤ 0) → (inR (l2 + 1)) ∧ P (l2 + 1) w M) ∧ ((¬ (l3 ≤ 0)) → (0 ≤ l3) ∧ (l3 < 512) ∧ ((((M 18 l3) ≠ 1) → (inR (l3 - 1)) ∧ A_X0_leastSheets_9 G X P l1 l2 (zand (l3 - 1) l1) w M) ∧ ((¬ ((M 18 l3) ≠ 1)) → (0 ≤ (zxor l1 l3)) ∧ ((zxor l1 l3) < 512) ∧ (((l2 ≤ (M 18 (zxor l1 l3))) → (inR (l3 - 1)) ∧ A_X0_leastSheets_9 G X P l1 l2 (zand (l3 - 1) l1) w M) ∧ ((¬ (l2 ≤ (M 18 (zxor l1 l3)))) → (inR (l3 - 1)) ∧ A_X0_leastSheets_9 G X P l1 (M 18 (zxor l1 l3)) (zand (l3 - 1) l1) w M))))))) : A_X0_leastSheets_9 G X P l1 l2 l3 w M := by
  unfold A_X0_leastSheets_9
  refine s_iload_n C dX0_leastSheets_9 rfl ?_
  refine s_ifle C dX0_leastSheets_10 rfl (fun hc => ?_) (fun hc => ?_)
  · have h := h.1 hc
    refine s_iload_n C dX0_leastSheets_53 rfl ?_
    refine s_iconst C dX0_leastSheets_54 (by decide) ?_
    obtain ⟨o1, h⟩ := h
    refine s_iadd C dX0_leastSheets_55 o1 ?_
    exact s_ireturn C dX0_leastSheets_56 h
  · have h := h.2 hc
    refine s_aload_n C dX0_leastSheets_13 rfl ?_
    refine WA.fix (fun hF2 => ?_)
    refine gf_X0_23 C (sh_14 hF2) dX0_leastSheets_14 (fx_14_4 hF2) ?_
    refine s_iload_n C dX0_leastSheets_17 rfl ?_
    obtain ⟨o3, h⟩ := h
    obtain ⟨o4, h⟩ := h
    refine s_iald (v0 := (M 18 l3)) C (sh_18 hF2) o3 o4 dX0_leastSheets_18 rfl ?_
    refine s_iconst C dX0_leastSheets_19 (by decide) ?_
    refine s_icmpne C dX0_leastSheets_20 rfl (fun hc => ?_) (fun hc => ?_)
    · have h := h.1 hc
      refine s_iload_n C dX0_leastSheets_44 rfl ?_
      refine s_iconst C dX0_leastSheets_45 (by decide) ?_
      obtain ⟨o5, h⟩ := h
      refine s_isub C dX0_leastSheets_46 o5 ?_
      refine s_iload_n C dX0_leastSheets_47 rfl ?_
      refine s_iand C dX0_leastSheets_48 ?_
      refine s_istore_n (ls' := [(2, 14), (0, l1), (0, l2), (0, (zand (l3 - 1) l1))]) C dX0_leastSheets_49 (by decide) rfl rfl ?_
      refine s_goto C dX0_leastSheets_50 rfl ?_
      exact h
    · have h := h.2 hc
      refine s_aload_n C dX0_leastSheets_23 rfl ?_
      refine gf_X0_23 C (sh_14 hF2) dX0_leastSheets_24 (fx_14_4 hF2) ?_
      refine s_iload_n C dX0_leastSheets_27 rfl ?_
      refine s_iload_n C dX0_leastSheets_28 rfl ?_
      refine s_ixor C dX0_leastSheets_29 ?_
      obtain ⟨o6, h⟩ := h
      obtain ⟨o7, h⟩ := h
      refine s_iald (v0 := (M 18 (zxor l1 l3))) C (sh_18 hF2) o6 o7 dX0_leastSheets_30 rfl ?_
      refine s_iload_n C dX0_leastSheets_31 rfl ?_
      refine s_icmpge C dX0_leastSheets_32 rfl (fun hc => ?_) (fun hc => ?_)
      · have h := h.1 hc
        refine s_iload_n C dX0_leastSheets_44 rfl ?_
        refine s_iconst C dX0_leastSheets_45 (by decide) ?_
        obtain ⟨o8, h⟩ := h
        refine s_isub C dX0_leastSheets_46 o8 ?_
        refine s_iload_n C dX0_leastSheets_47 rfl ?_
        refine s_iand C dX0_leastSheets_48 ?_
        refine s_istore_n (ls' := [(2, 14), (0, l1), (0, l2), (0, (zand (l3 - 1) l1))]) C dX0_leastSheets_49 (by decide) rfl rfl ?_
        refine s_goto C dX0_leastSheets_50 rfl ?_
        exact h
      · have h := h.2 hc
        refine s_aload_n C dX0_leastSheets_35 rfl ?_
        refine gf_X0_23 C (sh_14 hF2) dX0_leastSheets_36 (fx_14_4 hF2) ?_
        refine s_iload_n C dX0_leastSheets_39 rfl ?_
        refine s_iload_n C dX0_leastSheets_40 rfl ?_
        refine s_ixor C dX0_leastSheets_41 ?_
        refine s_iald (v0 := (M 18 (zxor l1 l3))) C (sh_18 hF2) o6 o7 dX0_leastSheets_42 rfl ?_
        refine s_istore_n (ls' := [(2, 14), (0, l1), (0, (M 18 (zxor l1 l3))), (0, l3)]) C dX0_leastSheets_43 (by decide) rfl rfl ?_
        refine s_iload_n C dX0_leastSheets_44 rfl ?_
        refine s_iconst C dX0_leastSheets_45 (by decide) ?_
        obtain ⟨o9, h⟩ := h
        refine s_isub C dX0_leastSheets_46 o9 ?_
        refine s_iload_n C dX0_leastSheets_47 rfl ?_
        refine s_iand C dX0_leastSheets_48 ?_
        refine s_istore_n (ls' := [(2, 14), (0, l1), (0, (M 18 (zxor l1 l3))), (0, (zand (l3 - 1) l1))]) C dX0_leastSheets_49 (by decide) rfl rfl ?_
        refine s_goto C dX0_leastSheets_50 rfl ?_
        exact h
theorem E_X0_leastSheets {G : GP} {l : Launch} {P : Int → NS → MM → Prop} {l1 : Int} {w : NS} {M : MM} (h : inR l1 → ∀ X : BX, X.2.1 = l → CX_X0_leastSheets G X → A_X0_leastSheets_0 G X P l1 w M) : CT_X0_leastSheets G l [(2, 14), (0, l1)] w M P :=
  CT.of RX0 "leastSheets" (by decide +kernel) rfl rfl rfl (Nat.le_of_ble_eq_true rfl) (fun hr X hX C => h (hr (0, l1) (by simp)) X hX C)
def A_X0_countSheets_0 (G : GP) (X : BX) (P : Int → NS → MM → Prop) (w : NS) (M : MM) : Prop := WA true G X (QM G X true 4 P) 2 0 [(2, 14), (3, 0)] [] 0 0 w M
def A_X0_countSheets_9 (G : GP) (X : BX) (P : Int → NS → MM → Prop) (l1 : Int) (w : NS) (M : MM) : Prop := WA true G X (QM G X true 4 P) 2 9 [(2, 14), (0, l1)] [] 0 0 w M
set_option maxHeartbeats 4000000 in
set_option maxRecDepth 100000 in
theorem B_X0_countSheets_0 {G : GP} {X : BX} {P : Int → NS → MM → Prop} {w : NS} {M : MM} (C : CX_X0_countSheets G X) (h : A_X0_countSheets_9 G X P 1 w (up M 18 0 0)) : A_X0_countSheets_0 G X P w M := by
  unfold A_X0_countSheets_0
  refine s_aload_n C dX0_countSheets_0 rfl ?_
  refine WA.fix (fun hF1 => ?_)
  refine gf_X0_23 C (sh_14 hF1) dX0_countSheets_1 (fx_14_4 hF1) ?_
  refine s_iconst C dX0_countSheets_4 (by decide) ?_
  refine s_iconst C dX0_countSheets_5 (by decide) ?_
  refine s_iast C (sh_18 hF1) (by decide) (by decide) (fun _ => by decide) dX0_countSheets_6 ?_
  refine s_iconst C dX0_countSheets_7 (by decide) ?_
  refine s_istore_n (ls' := [(2, 14), (0, 1)]) C dX0_countSheets_8 (by decide) rfl rfl ?_
  exact h
set_option maxHeartbeats 4000000 in
set_option maxRecDepth 100000 in
theorem B_X0_countSheets_9 {G : GP} {X : BX} {P : Int → NS → MM → Prop} {l1 : Int} {w : NS} {M : MM} (C : CX_X0_countSheets G X) (h : ((((zshl 1 (M 14 2)) ≤ l1) → P 0 w M) ∧ ((¬ ((zshl 1 (M 14 2)) ≤ l1)) → ∃ Q2 : Int → NS → MM → Prop, CT_X0_fitsOneSheet G X.2.1 [(2, 14), (0, l1)] w M Q2 ∧ ∀ (z2 : Int) (w2 : NS) (M2 : MM), Q2 z2 w2 M2 → (((z2 = 0) → ∃ Q4 : Int → NS → MM → Prop, CT_X0_leastSheets G X.2.1 [(2, 14), (0, l1)] w2 M2 Q4 ∧ ∀ (z4 : Int) (w4 : NS) (M4 : MM), Q4 z4 w4 M4 → (0 ≤ l1) ∧ (l1 < 512) ∧ (inR (l1 + 1)) ∧ A_X0_countSheets_9 G X P (l1 + 1) w4 (up M4 18 l1 z4)) ∧ ((¬ (z2 = 0)) → (0 ≤ l1) ∧ (l1 < 512) ∧ (inR (l1 + 1)) ∧ A_X0_countSheets_9 G X P (l1 + 1) w2 (up M2 18 l1 1)))))) : A_X0_countSheets_9 G X P l1 w M := by
  unfold A_X0_countSheets_9
  refine s_iload_n C dX0_countSheets_9 rfl ?_
  refine s_iconst C dX0_countSheets_10 (by decide) ?_
  refine s_aload_n C dX0_countSheets_11 rfl ?_
  refine WA.fix (fun hF1 => ?_)
  refine gf_X0_16 (v0 := (M 14 2)) C (sh_14 hF1) dX0_countSheets_12 rfl ?_
  refine s_ishl C dX0_countSheets_15 ?_
  refine s_icmpge C dX0_countSheets_16 rfl (fun hc => ?_) (fun hc => ?_)
  · have h := h.1 hc
    exact s_vreturn C dX0_countSheets_48 h
  · have h := h.2 hc
    refine s_aload_n C dX0_countSheets_19 rfl ?_
    refine gf_X0_23 C (sh_14 hF1) dX0_countSheets_20 (fx_14_4 hF1) ?_
    refine s_iload_n C dX0_countSheets_23 rfl ?_
    refine s_aload_n C dX0_countSheets_24 rfl ?_
    refine s_iload_n C dX0_countSheets_25 rfl ?_
    obtain ⟨Q2, hKQ2, h⟩ := h
    refine s_callV (ci := 0) (av := [(0, l1)]) (rest := [(0, l1), (2, 18)]) (mc := 0) (ms := 0) C dX0_countSheets_26 lk_X0_45 (sh_14 hF1) (by decide) rfl rfl rfl (Nat.le_of_ble_eq_true rfl) (by decide) (by decide) hKQ2 (fun z2 w2 M2 hq => ?_)
    have h := h z2 w2 M2 hq
    refine s_ifeq C dX0_countSheets_29 rfl (fun hc => ?_) (fun hc => ?_)
    · have h := h.1 hc
      refine s_aload_n C dX0_countSheets_36 rfl ?_
      refine s_iload_n C dX0_countSheets_37 rfl ?_
      refine WA.fix (fun hF3 => ?_)
      obtain ⟨Q4, hKQ4, h⟩ := h
      refine s_callV (ci := 0) (av := [(0, l1)]) (rest := [(0, l1), (2, 18)]) (mc := 0) (ms := 0) C dX0_countSheets_38 lk_X0_49 (sh_14 hF3) (by decide) rfl rfl rfl (Nat.le_of_ble_eq_true rfl) (by decide) (by decide) hKQ4 (fun z4 w4 M4 hq => ?_)
      have h := h z4 w4 M4 hq
      refine WA.fix (fun hF5 => ?_)
      obtain ⟨o6, h⟩ := h
      obtain ⟨o7, h⟩ := h
      refine s_iast C (sh_18 hF5) o6 o7 (fun _ => by decide) dX0_countSheets_41 ?_
      obtain ⟨o8, h⟩ := h
      refine s_iinc (ls' := [(2, 14), (0, (l1 + 1))]) C dX0_countSheets_42 (by decide) rfl o8 rfl rfl ?_
      refine s_goto C dX0_countSheets_45 rfl ?_
      exact h
    · have h := h.2 hc
      refine s_iconst C dX0_countSheets_32 (by decide) ?_
      refine s_goto C dX0_countSheets_33 rfl ?_
      refine WA.fix (fun hF9 => ?_)
      obtain ⟨o10, h⟩ := h
      obtain ⟨o11, h⟩ := h
      refine s_iast C (sh_18 hF9) o10 o11 (fun _ => by decide) dX0_countSheets_41 ?_
      obtain ⟨o12, h⟩ := h
      refine s_iinc (ls' := [(2, 14), (0, (l1 + 1))]) C dX0_countSheets_42 (by decide) rfl o12 rfl rfl ?_
      refine s_goto C dX0_countSheets_45 rfl ?_
      exact h
theorem E_X0_countSheets {G : GP} {l : Launch} {P : Int → NS → MM → Prop} {w : NS} {M : MM} (h : ∀ X : BX, X.2.1 = l → CX_X0_countSheets G X → A_X0_countSheets_0 G X P w M) : CT_X0_countSheets G l [(2, 14)] w M P :=
  CT.of RX0 "countSheets" (by decide +kernel) rfl rfl rfl (Nat.le_of_ble_eq_true rfl) (fun hr X hX C => h  X hX C)
def A_X0_bestSet_0 (G : GP) (X : BX) (P : Int → NS → MM → Prop) (l1 : Int) (l2 : Int) (w : NS) (M : MM) : Prop := WA true G X (QM G X true 0 P) 6 0 [(2, 14), (2, l1), (0, l2), (3, 0), (3, 0), (3, 0)] [] 0 0 w M
def A_X0_bestSet_14 (G : GP) (X : BX) (P : Int → NS → MM → Prop) (l2 : Int) (l3 : Int) (l4 : Int) (w : NS) (M : MM) : Prop := WA true G X (QM G X true 0 P) 6 14 [(2, 14), (3, 0), (0, l2), (0, l3), (0, l4), (3, 0)] [] 0 0 w M
def A_X0_bestSet_63 (G : GP) (X : BX) (P : Int → NS → MM → Prop) (l3 : Int) (l4 : Int) (l5 : Int) (w : NS) (M : MM) : Prop := WA true G X (QM G X true 0 P) 6 63 [(2, 14), (3, 0), (3, 0), (0, l3), (0, l4), (0, l5)] [] 0 0 w M
set_option maxHeartbeats 4000000 in
set_option maxRecDepth 100000 in
theorem B_X0_bestSet_0 {G : GP} {X : BX} {P : Int → NS → MM → Prop} {l1 : Int} {l2 : Int} {w : NS} {M : MM} (C : CX_X0_bestSet G X) (h : ∃ Q2 : Int → NS → MM → Prop, CT_X0_findClashes G X.2.1 [(2, 14), (2, l1)] w M Q2 ∧ ∀ (z2 : Int) (w2 : NS) (M2 : MM), Q2 z2 w2 M2 → ∃ Q4 : Int → NS → MM → Prop, CT_X0_countSheets G X.2.1 [(2, 14)] w2 M2 Q4 ∧ ∀ (z4 : Int) (w4 : NS) (M4 : MM), Q4 z4 w4 M4 → A_X0_bestSet_14 G X P l2 0 1 w4 M4) : A_X0_bestSet_0 G X P l1 l2 w M := by
  unfold A_X0_bestSet_0
  refine s_aload_n C dX0_bestSet_0 rfl ?_
  refine s_aload_n C dX0_bestSet_1 rfl ?_
  refine WA.fix (fun hF1 => ?_)
  obtain ⟨Q2, hKQ2, h⟩ := h
  refine s_callV (ci := 0) (av := [(2, l1)]) (rest := []) (mc := 0) (ms := 0) C dX0_bestSet_2 lk_X0_26 (sh_14 hF1) (by decide) rfl rfl rfl (Nat.le_of_ble_eq_true rfl) (by decide) (by decide) hKQ2 (fun z2 w2 M2 hq => ?_)
  have h := h z2 w2 M2 hq
  refine s_aload_n C dX0_bestSet_5 rfl ?_
  refine WA.fix (fun hF3 => ?_)
  obtain ⟨Q4, hKQ4, h⟩ := h
  refine s_callV (ci := 0) (av := []) (rest := []) (mc := 0) (ms := 0) C dX0_bestSet_6 lk_X0_30 (sh_14 hF3) (by decide) rfl rfl rfl (Nat.le_of_ble_eq_true rfl) (by decide) (by decide) hKQ4 (fun z4 w4 M4 hq => ?_)
  have h := h z4 w4 M4 hq
  refine s_iconst C dX0_bestSet_9 (by decide) ?_
  refine s_istore_n (ls' := [(2, 14), (2, l1), (0, l2), (0, 0), (3, 0), (3, 0)]) C dX0_bestSet_10 (by decide) rfl rfl ?_
  refine s_iconst C dX0_bestSet_11 (by decide) ?_
  refine s_istore (ls' := [(2, 14), (2, l1), (0, l2), (0, 0), (0, 1), (3, 0)]) C dX0_bestSet_12 (by decide) rfl rfl ?_
  exact WA.wk h ⟨Or.inr rfl, Or.inl rfl, Or.inr rfl, Or.inr rfl, Or.inr rfl, Or.inl rfl, trivial⟩
set_option maxHeartbeats 4000000 in
set_option maxRecDepth 100000 in
theorem B_X0_bestSet_14 {G : GP} {X : BX} {P : Int → NS → MM → Prop} {l2 : Int} {l3 : Int} {l4 : Int} {w : NS} {M : MM} (C : CX_X0_bestSet G X) (h : ((((zshl 1 (M 14 2)) ≤ l4) → A_X0_bestSet_63 G X P l3 0 0 w M) ∧ ((¬ ((zshl 1 (M 14 2)) ≤ l4)) → (0 ≤ l4) ∧ (l4 < 512) ∧ (((l2 < (M 18 l4)) → (inR (l4 + 1)) ∧ A_X0_bestSet_14 G X P l2 l3 (l4 + 1) w M) ∧ ((¬ (l2 < (M 18 l4))) → (l4 < 16777216) ∧ (0 ≤ l3) ∧ (l3 < 16777216) ∧ ((((popc l4) < (popc l3)) → (inR (l4 + 1)) ∧ A_X0_bestSet_14 G X P l2 l3 (l4 + 1) w M) ∧ ((¬ ((popc l4) < (popc l3))) → (inR (l4 + 1)) ∧ A_X0_bestSet_14 G X P l2 l4 (l4 + 1) w M))))))) : A_X0_bestSet_14 G X P l2 l3 l4 w M := by
  unfold A_X0_bestSet_14
  refine s_iload C dX0_bestSet_14 rfl ?_
  refine s_iconst C dX0_bestSet_16 (by decide) ?_
  refine s_aload_n C dX0_bestSet_17 rfl ?_
  refine WA.fix (fun hF1 => ?_)
  refine gf_X0_16 (v0 := (M 14 2)) C (sh_14 hF1) dX0_bestSet_18 rfl ?_
  refine s_ishl C dX0_bestSet_21 ?_
  refine s_icmpge C dX0_bestSet_22 rfl (fun hc => ?_) (fun hc => ?_)
  · have h := h.1 hc
    refine s_iconst C dX0_bestSet_57 (by decide) ?_
    refine s_istore (ls' := [(2, 14), (3, 0), (0, l2), (0, l3), (0, 0), (3, 0)]) C dX0_bestSet_58 (by decide) rfl rfl ?_
    refine s_iconst C dX0_bestSet_60 (by decide) ?_
    refine s_istore (ls' := [(2, 14), (3, 0), (0, l2), (0, l3), (0, 0), (0, 0)]) C dX0_bestSet_61 (by decide) rfl rfl ?_
    exact WA.wk h ⟨Or.inr rfl, Or.inl rfl, Or.inl rfl, Or.inr rfl, Or.inr rfl, Or.inr rfl, trivial⟩
  · have h := h.2 hc
    refine s_aload_n C dX0_bestSet_25 rfl ?_
    refine gf_X0_23 C (sh_14 hF1) dX0_bestSet_26 (fx_14_4 hF1) ?_
    refine s_iload C dX0_bestSet_29 rfl ?_
    obtain ⟨o2, h⟩ := h
    obtain ⟨o3, h⟩ := h
    refine s_iald (v0 := (M 18 l4)) C (sh_18 hF1) o2 o3 dX0_bestSet_31 rfl ?_
    refine s_iload_n C dX0_bestSet_32 rfl ?_
    refine s_icmpgt C dX0_bestSet_33 rfl (fun hc => ?_) (fun hc => ?_)
    · have h := h.1 hc
      obtain ⟨o4, h⟩ := h
      refine s_iinc (ls' := [(2, 14), (3, 0), (0, l2), (0, l3), (0, (l4 + 1)), (3, 0)]) C dX0_bestSet_51 (by decide) rfl o4 rfl rfl ?_
      refine s_goto C dX0_bestSet_54 rfl ?_
      exact h
    · have h := h.2 hc
      refine s_iload C dX0_bestSet_36 rfl ?_
      obtain ⟨o5, h⟩ := h
      refine s_callS (av := [(0, l4)]) (rest := []) (mc := 0) (ms := 0) C dX0_bestSet_38 lk_X0_33 rfl rfl (Nat.le_of_ble_eq_true rfl) (by decide) (by decide) (pc_J6_bitCount o2 o5) (fun z6 wz6 Mz6 hq => ?_)
      obtain ⟨hq1, hq2, hq3⟩ := hq
      have hq2 := hq2.symm
      have hq3 := hq3.symm
      subst hq1 hq2 hq3
      refine s_iload_n C dX0_bestSet_41 rfl ?_
      obtain ⟨o7, h⟩ := h
      obtain ⟨o8, h⟩ := h
      refine s_callS (av := [(0, l3)]) (rest := [(0, (popc l4))]) (mc := 0) (ms := 0) C dX0_bestSet_42 lk_X0_33 rfl rfl (Nat.le_of_ble_eq_true rfl) (by decide) (by decide) (pc_J6_bitCount o7 o8) (fun z9 wz9 Mz9 hq => ?_)
      obtain ⟨hq1, hq2, hq3⟩ := hq
      have hq2 := hq2.symm
      have hq3 := hq3.symm
      subst hq1 hq2 hq3
      refine s_icmplt C dX0_bestSet_45 rfl (fun hc => ?_) (fun hc => ?_)
      · have h := h.1 hc
        obtain ⟨o10, h⟩ := h
        refine s_iinc (ls' := [(2, 14), (3, 0), (0, l2), (0, l3), (0, (l4 + 1)), (3, 0)]) C dX0_bestSet_51 (by decide) rfl o10 rfl rfl ?_
        refine s_goto C dX0_bestSet_54 rfl ?_
        exact h
      · have h := h.2 hc
        refine s_iload C dX0_bestSet_48 rfl ?_
        refine s_istore_n (ls' := [(2, 14), (3, 0), (0, l2), (0, l4), (0, l4), (3, 0)]) C dX0_bestSet_50 (by decide) rfl rfl ?_
        obtain ⟨o11, h⟩ := h
        refine s_iinc (ls' := [(2, 14), (3, 0), (0, l2), (0, l4), (0, (l4 + 1)), (3, 0)]) C dX0_bestSet_51 (by decide) rfl o11 rfl rfl ?_
        refine s_goto C dX0_bestSet_54 rfl ?_
        exact h
set_option maxHeartbeats 4000000 in
set_option maxRecDepth 100000 in
theorem B_X0_bestSet_63 {G : GP} {X : BX} {P : Int → NS → MM → Prop} {l3 : Int} {l4 : Int} {l5 : Int} {w : NS} {M : MM} (C : CX_X0_bestSet G X) (h : ((((M 14 2) ≤ l5) → P l4 w M) ∧ ((¬ ((M 14 2) ≤ l5)) → (inR ((M 14 2) - 1)) ∧ (inR (((M 14 2) - 1) - l5)) ∧ (inR (l5 + 1)) ∧ A_X0_bestSet_63 G X P l3 (zor l4 (zshl (zand (zshr l3 (((M 14 2) - 1) - l5)) 1) l5)) (l5 + 1) w M))) : A_X0_bestSet_63 G X P l3 l4 l5 w M := by
  unfold A_X0_bestSet_63
  refine s_iload C dX0_bestSet_63 rfl ?_
  refine s_aload_n C dX0_bestSet_65 rfl ?_
  refine WA.fix (fun hF1 => ?_)
  refine gf_X0_16 (v0 := (M 14 2)) C (sh_14 hF1) dX0_bestSet_66 rfl ?_
  refine s_icmpge C dX0_bestSet_69 rfl (fun hc => ?_) (fun hc => ?_)
  · have h := h.1 hc
    refine s_iload C dX0_bestSet_99 rfl ?_
    exact s_ireturn C dX0_bestSet_101 h
  · have h := h.2 hc
    refine s_iload C dX0_bestSet_72 rfl ?_
    refine s_iload_n C dX0_bestSet_74 rfl ?_
    refine s_aload_n C dX0_bestSet_75 rfl ?_
    refine gf_X0_16 (v0 := (M 14 2)) C (sh_14 hF1) dX0_bestSet_76 rfl ?_
    refine s_iconst C dX0_bestSet_79 (by decide) ?_
    obtain ⟨o2, h⟩ := h
    refine s_isub C dX0_bestSet_80 o2 ?_
    refine s_iload C dX0_bestSet_81 rfl ?_
    obtain ⟨o3, h⟩ := h
    refine s_isub C dX0_bestSet_83 o3 ?_
    refine s_ishr C dX0_bestSet_84 ?_
    refine s_iconst C dX0_bestSet_85 (by decide) ?_
    refine s_iand C dX0_bestSet_86 ?_
    refine s_iload C dX0_bestSet_87 rfl ?_
    refine s_ishl C dX0_bestSet_89 ?_
    refine s_ior C dX0_bestSet_90 ?_
    refine s_istore (ls' := [(2, 14), (3, 0), (3, 0), (0, l3), (0, (zor l4 (zshl (zand (zshr l3 (((M 14 2) - 1) - l5)) 1) l5))), (0, l5)]) C dX0_bestSet_91 (by decide) rfl rfl ?_
    obtain ⟨o4, h⟩ := h
    refine s_iinc (ls' := [(2, 14), (3, 0), (3, 0), (0, l3), (0, (zor l4 (zshl (zand (zshr l3 (((M 14 2) - 1) - l5)) 1) l5))), (0, (l5 + 1))]) C dX0_bestSet_93 (by decide) rfl o4 rfl rfl ?_
    refine s_goto C dX0_bestSet_96 rfl ?_
    exact h
theorem E_X0_bestSet {G : GP} {l : Launch} {P : Int → NS → MM → Prop} {l1 : Int} {l2 : Int} {w : NS} {M : MM} (h : inR l2 → ∀ X : BX, X.2.1 = l → CX_X0_bestSet G X → A_X0_bestSet_0 G X P l1 l2 w M) : CT_X0_bestSet G l [(2, 14), (2, l1), (0, l2)] w M P :=
  CT.of RX0 "bestSet" (by decide +kernel) rfl rfl rfl (Nat.le_of_ble_eq_true rfl) (fun hr X hX C => h (hr (0, l2) (by simp)) X hX C)
def A_X9_served_0 (G : GP) (X : BX) (P : Int → NS → MM → Prop) (l1 : Int) (l2 : Int) (l3 : Int) (w : NS) (M : MM) : Prop := WA true G X (QM G X true 0 P) 6 0 [(2, 1), (0, l1), (0, l2), (0, l3), (3, 0), (3, 0)] [] 0 0 w M
set_option maxHeartbeats 4000000 in
set_option maxRecDepth 100000 in
theorem B_X9_served_0 {G : GP} {X : BX} {P : Int → NS → MM → Prop} {l1 : Int} {l2 : Int} {l3 : Int} {w : NS} {M : MM} (C : CX_X9_served G X) (h : (0 ≤ M 1 2) ∧ (M 1 2 ≤ 8) ∧ ((((pgO M l1) ≠ 0) → (((¬ (1 ≤ l2 ∧ l2 ≤ 4)) → P (-2) w M) ∧ (((1 ≤ l2 ∧ l2 ≤ 4)) → ((((0 ≤ l3 ∧ l3 ≤ 1)) → ∃ Q7 : Int → NS → MM → Prop, CT_X9_gatherAsked G X.2.1 [(2, 1), (2, (pgO M l1))] w M Q7 ∧ ∀ (z7 : Int) (w7 : NS) (M7 : MM), Q7 z7 w7 M7 → ∃ Q9 : Int → NS → MM → Prop, CT_X0_bestSet G X.2.1 [(2, 14), (2, 4), (0, l2)] w7 M7 Q9 ∧ ∀ (z9 : Int) (w9 : NS) (M9 : MM), Q9 z9 w9 M9 → (((l3 ≠ 0) → P z9 w9 M9) ∧ ((¬ (l3 ≠ 0)) → (0 ≤ z9) ∧ (z9 < 16777216) ∧ P (popc z9) w9 M9))) ∧ ((¬ (0 ≤ l3 ∧ l3 ≤ 1)) → P (-2) w M))))) ∧ ((¬ ((pgO M l1) ≠ 0)) → P (-1) w M))) : A_X9_served_0 G X P l1 l2 l3 w M := by
  unfold A_X9_served_0
  refine s_aload_n C dX9_served_0 rfl ?_
  refine s_iload_n C dX9_served_1 rfl ?_
  refine WA.fix (fun hF1 => ?_)
  obtain ⟨o2, h⟩ := h
  obtain ⟨o3, h⟩ := h
  refine s_callV (ci := 9) (av := [(0, l1)]) (rest := []) (mc := 0) (ms := 0) C dX9_served_2 lk_X9_106 (sh_1 hF1) (by decide) rfl rfl rfl (Nat.le_of_ble_eq_true rfl) (by decide) (by decide) (pc_X9_pageOf o2 o3) (fun z4 wz4 Mz4 hq => ?_)
  obtain ⟨hq1, hq2, hq3⟩ := hq
  have hq2 := hq2.symm
  have hq3 := hq3.symm
  subst hq1 hq2 hq3
  refine s_astore (ls' := [(2, 1), (0, l1), (0, l2), (0, l3), (2, (pgO M l1)), (3, 0)]) C dX9_served_5 (by decide) rfl rfl ?_
  refine s_aload C dX9_served_7 rfl ?_
  refine s_ifnonnull C dX9_served_9 rfl (fun hc => ?_) (fun hc => ?_)
  · have h := h.1 hc
    refine s_iload_n C dX9_served_14 rfl ?_
    refine s_iconst C dX9_served_15 (by decide) ?_
    refine s_iconst C dX9_served_16 (by decide) ?_
    refine s_callS (av := [(0, l2), (0, 1), (0, 4)]) (rest := []) (mc := 0) (ms := 0) C dX9_served_17 lk_X9_95 rfl rfl (Nat.le_of_ble_eq_true rfl) (by decide) (by decide) (pc_X9_within) (fun z5 wz5 Mz5 hq => ?_)
    obtain ⟨hq1, hq2, hq3⟩ := hq
    have hq2 := hq2.symm
    have hq3 := hq3.symm
    subst hq1 hq2 hq3
    refine s_ifeq C dX9_served_20 rfl (fun hc => ?_) (fun hc => ?_)
    · have h := h.1 (b2i_0.mp hc)
      refine s_bipush C dX9_served_32 ⟨rfl, by decide, by decide⟩ ?_
      exact s_ireturn C dX9_served_34 h
    · have h := h.2 (b2i_n0 hc)
      refine s_iload_n C dX9_served_23 rfl ?_
      refine s_iconst C dX9_served_24 (by decide) ?_
      refine s_iconst C dX9_served_25 (by decide) ?_
      refine s_callS (av := [(0, l3), (0, 0), (0, 1)]) (rest := []) (mc := 0) (ms := 0) C dX9_served_26 lk_X9_95 rfl rfl (Nat.le_of_ble_eq_true rfl) (by decide) (by decide) (pc_X9_within) (fun z6 wz6 Mz6 hq => ?_)
      obtain ⟨hq1, hq2, hq3⟩ := hq
      have hq2 := hq2.symm
      have hq3 := hq3.symm
      subst hq1 hq2 hq3
      refine s_ifne C dX9_served_29 rfl (fun hc => ?_) (fun hc => ?_)
      · have h := h.1 (b2i_n0 hc)
        refine s_aload_n C dX9_served_35 rfl ?_
        refine s_aload C dX9_served_36 rfl ?_
        obtain ⟨Q7, hKQ7, h⟩ := h
        refine s_callV (ci := 9) (av := [(2, (pgO M l1))]) (rest := []) (mc := 0) (ms := 0) C dX9_served_38 lk_X9_256 (sh_1 hF1) (by decide) rfl rfl rfl (Nat.le_of_ble_eq_true rfl) (by decide) (by decide) hKQ7 (fun z7 w7 M7 hq => ?_)
        have h := h z7 w7 M7 hq
        refine s_aload_n C dX9_served_41 rfl ?_
        refine WA.fix (fun hF8 => ?_)
        refine gf_X9_73 C (sh_1 hF8) dX9_served_42 (fx_1_13 hF8) ?_
        refine s_aload_n C dX9_served_45 rfl ?_
        refine gf_X9_25 C (sh_1 hF8) dX9_served_46 (fx_1_3 hF8) ?_
        refine s_iload_n C dX9_served_49 rfl ?_
        obtain ⟨Q9, hKQ9, h⟩ := h
        refine s_callV (ci := 0) (av := [(2, 4), (0, l2)]) (rest := []) (mc := 0) (ms := 0) C dX9_served_50 lk_X9_264 (sh_14 hF8) (by decide) rfl rfl rfl (Nat.le_of_ble_eq_true rfl) (by decide) (by decide) hKQ9 (fun z9 w9 M9 hq => ?_)
        have h := h z9 w9 M9 hq
        refine s_istore (ls' := [(2, 1), (0, l1), (0, l2), (0, l3), (2, (pgO M l1)), (0, z9)]) C dX9_served_53 (by decide) rfl rfl ?_
        refine s_iload_n C dX9_served_55 rfl ?_
        refine s_ifne C dX9_served_56 rfl (fun hc => ?_) (fun hc => ?_)
        · have h := h.1 hc
          refine s_iload C dX9_served_67 rfl ?_
          exact s_ireturn C dX9_served_69 h
        · have h := h.2 hc
          refine s_iload C dX9_served_59 rfl ?_
          obtain ⟨o10, h⟩ := h
          obtain ⟨o11, h⟩ := h
          refine s_callS (av := [(0, z9)]) (rest := []) (mc := 0) (ms := 0) C dX9_served_61 lk_X9_268 rfl rfl (Nat.le_of_ble_eq_true rfl) (by decide) (by decide) (pc_J6_bitCount o10 o11) (fun z12 wz12 Mz12 hq => ?_)
          obtain ⟨hq1, hq2, hq3⟩ := hq
          have hq2 := hq2.symm
          have hq3 := hq3.symm
          subst hq1 hq2 hq3
          refine s_goto C dX9_served_64 rfl ?_
          exact s_ireturn C dX9_served_69 h
      · have h := h.2 (b2i_nn hc)
        refine s_bipush C dX9_served_32 ⟨rfl, by decide, by decide⟩ ?_
        exact s_ireturn C dX9_served_34 h
  · have h := h.2 hc
    refine s_iconst C dX9_served_12 (by decide) ?_
    exact s_ireturn C dX9_served_13 h
theorem E_X9_served {G : GP} {l : Launch} {P : Int → NS → MM → Prop} {l1 : Int} {l2 : Int} {l3 : Int} {w : NS} {M : MM} (h : inR l1 → inR l2 → inR l3 → ∀ X : BX, X.2.1 = l → CX_X9_served G X → A_X9_served_0 G X P l1 l2 l3 w M) : CT_X9_served G l [(2, 1), (0, l1), (0, l2), (0, l3)] w M P :=
  CT.of RX9 "served" (by decide +kernel) rfl rfl rfl (Nat.le_of_ble_eq_true rfl) (fun hr X hX C => h (hr (0, l1) (by simp)) (hr (0, l2) (by simp)) (hr (0, l3) (by simp)) X hX C)
def A_X9_find_0 (G : GP) (X : BX) (P : Int → NS → MM → Prop) (l1 : Int) (l2 : Int) (l3 : Int) (w : NS) (M : MM) : Prop := WA true G X (QM G X true 0 P) 6 0 [(2, 1), (0, l1), (0, l2), (0, l3), (3, 0), (3, 0)] [] 0 0 w M
set_option maxHeartbeats 4000000 in
set_option maxRecDepth 100000 in
theorem B_X9_find_0 {G : GP} {X : BX} {P : Int → NS → MM → Prop} {l1 : Int} {l2 : Int} {l3 : Int} {w : NS} {M : MM} (C : CX_X9_find G X) (h : (((¬ (0 ≤ l1 ∧ l1 ≤ 3)) → P (-1) w M) ∧ (((0 ≤ l1 ∧ l1 ≤ 3)) → (0 ≤ M 1 4) ∧ (M 1 4 ≤ 24) ∧ ((((pcO M l2) ≠ 0) → (0 ≤ l1) ∧ (l1 < 4) ∧ (w.2 (M 19 l1) = (8, 4)) ∧ (((l3 = 0) → ((((zand (M (M 19 l1) 3) (zshl 1 l2)) = 0) → P (b2i (0 ≠ 0)) w (up M (M 19 l1) 3 (zand (M (M 19 l1) 3) (zxor (zshl 1 l2) (-1))))) ∧ ((¬ ((zand (M (M 19 l1) 3) (zshl 1 l2)) = 0)) → P (b2i (1 ≠ 0)) w (up M (M 19 l1) 3 (zand (M (M 19 l1) 3) (zxor (zshl 1 l2) (-1))))))) ∧ ((¬ (l3 = 0)) → ((((zand (M (M 19 l1) 3) (zshl 1 l2)) = 0) → P (b2i (0 ≠ 0)) w (up M (M 19 l1) 3 (zor (M (M 19 l1) 3) (zshl 1 l2)))) ∧ ((¬ ((zand (M (M 19 l1) 3) (zshl 1 l2)) = 0)) → P (b2i (1 ≠ 0)) w (up M (M 19 l1) 3 (zor (M (M 19 l1) 3) (zshl 1 l2)))))))) ∧ ((¬ ((pcO M l2) ≠ 0)) → P (-1) w M))))) : A_X9_find_0 G X P l1 l2 l3 w M := by
  unfold A_X9_find_0
  refine s_iload_n C dX9_find_0 rfl ?_
  refine s_callS (av := [(0, l1)]) (rest := []) (mc := 0) (ms := 0) C dX9_find_1 lk_X9_273 rfl rfl (Nat.le_of_ble_eq_true rfl) (by decide) (by decide) (pc_X9_isReader) (fun z1 wz1 Mz1 hq => ?_)
  obtain ⟨hq1, hq2, hq3⟩ := hq
  have hq2 := hq2.symm
  have hq3 := hq3.symm
  subst hq1 hq2 hq3
  refine s_ifeq C dX9_find_4 rfl (fun hc => ?_) (fun hc => ?_)
  · have h := h.1 (b2i_0.mp hc)
    refine s_iconst C dX9_find_15 (by decide) ?_
    exact s_ireturn C dX9_find_16 h
  · have h := h.2 (b2i_n0 hc)
    refine s_aload_n C dX9_find_7 rfl ?_
    refine s_iload_n C dX9_find_8 rfl ?_
    refine WA.fix (fun hF2 => ?_)
    obtain ⟨o3, h⟩ := h
    obtain ⟨o4, h⟩ := h
    refine s_callV (ci := 9) (av := [(0, l2)]) (rest := []) (mc := 0) (ms := 0) C dX9_find_9 lk_X9_158 (sh_1 hF2) (by decide) rfl rfl rfl (Nat.le_of_ble_eq_true rfl) (by decide) (by decide) (pc_X9_pieceOf o3 o4) (fun z5 wz5 Mz5 hq => ?_)
    obtain ⟨hq1, hq2, hq3⟩ := hq
    have hq2 := hq2.symm
    have hq3 := hq3.symm
    subst hq1 hq2 hq3
    refine s_ifnonnull C dX9_find_12 rfl (fun hc => ?_) (fun hc => ?_)
    · have h := h.1 hc
      refine s_aload_n C dX9_find_17 rfl ?_
      refine gf_X9_79 C (sh_1 hF2) dX9_find_18 (fx_1_14 hF2) ?_
      refine s_iload_n C dX9_find_21 rfl ?_
      obtain ⟨o6, h⟩ := h
      obtain ⟨o7, h⟩ := h
      refine s_aald (v0 := (M 19 l1)) (t0 := 7) C (sh_19 hF2) (by decide) rfl o6 o7 dX9_find_22 rfl ?_
      obtain ⟨o8, h⟩ := h
      refine gf_X9_276 (v0 := (M (M 19 l1) 3)) C o8 dX9_find_23 rfl ?_
      refine s_istore (ls' := [(2, 1), (0, l1), (0, l2), (0, l3), (0, (M (M 19 l1) 3)), (3, 0)]) C dX9_find_26 (by decide) rfl rfl ?_
      refine s_iconst C dX9_find_28 (by decide) ?_
      refine s_iload_n C dX9_find_29 rfl ?_
      refine s_ishl C dX9_find_30 ?_
      refine s_istore (ls' := [(2, 1), (0, l1), (0, l2), (0, l3), (0, (M (M 19 l1) 3)), (0, (zshl 1 l2))]) C dX9_find_31 (by decide) rfl rfl ?_
      refine s_aload_n C dX9_find_33 rfl ?_
      refine gf_X9_79 C (sh_1 hF2) dX9_find_34 (fx_1_14 hF2) ?_
      refine s_iload_n C dX9_find_37 rfl ?_
      refine s_aald (v0 := (M 19 l1)) (t0 := 7) C (sh_19 hF2) (by decide) rfl o6 o7 dX9_find_38 rfl ?_
      refine s_iload_n C dX9_find_39 rfl ?_
      refine s_ifeq C dX9_find_40 rfl (fun hc => ?_) (fun hc => ?_)
      · have h := h.1 hc
        refine s_iload C dX9_find_51 rfl ?_
        refine s_iload C dX9_find_53 rfl ?_
        refine s_iconst C dX9_find_55 (by decide) ?_
        refine s_ixor C dX9_find_56 ?_
        refine s_iand C dX9_find_57 ?_
        refine pf_X9_276 C o8 (fun _ => by decide) dX9_find_58 ?_
        refine s_iload C dX9_find_61 rfl ?_
        refine s_iload C dX9_find_63 rfl ?_
        refine s_iand C dX9_find_65 ?_
        refine s_ifeq C dX9_find_66 rfl (fun hc => ?_) (fun hc => ?_)
        · have h := h.1 hc
          refine s_iconst C dX9_find_73 (by decide) ?_
          refine s_callS (av := [(0, 0)]) (rest := []) (mc := 0) (ms := 0) C dX9_find_74 lk_X9_188 rfl rfl (Nat.le_of_ble_eq_true rfl) (by decide) (by decide) (pc_X9_oneIf) (fun z9 wz9 Mz9 hq => ?_)
          obtain ⟨hq1, hq2, hq3⟩ := hq
          have hq2 := hq2.symm
          have hq3 := hq3.symm
          subst hq1 hq2 hq3
          exact s_ireturn C dX9_find_77 h
        · have h := h.2 hc
          refine s_iconst C dX9_find_69 (by decide) ?_
          refine s_goto C dX9_find_70 rfl ?_
          refine s_callS (av := [(0, 1)]) (rest := []) (mc := 0) (ms := 0) C dX9_find_74 lk_X9_188 rfl rfl (Nat.le_of_ble_eq_true rfl) (by decide) (by decide) (pc_X9_oneIf) (fun z10 wz10 Mz10 hq => ?_)
          obtain ⟨hq1, hq2, hq3⟩ := hq
          have hq2 := hq2.symm
          have hq3 := hq3.symm
          subst hq1 hq2 hq3
          exact s_ireturn C dX9_find_77 h
      · have h := h.2 hc
        refine s_iload C dX9_find_43 rfl ?_
        refine s_iload C dX9_find_45 rfl ?_
        refine s_ior C dX9_find_47 ?_
        refine s_goto C dX9_find_48 rfl ?_
        refine pf_X9_276 C o8 (fun _ => by decide) dX9_find_58 ?_
        refine s_iload C dX9_find_61 rfl ?_
        refine s_iload C dX9_find_63 rfl ?_
        refine s_iand C dX9_find_65 ?_
        refine s_ifeq C dX9_find_66 rfl (fun hc => ?_) (fun hc => ?_)
        · have h := h.1 hc
          refine s_iconst C dX9_find_73 (by decide) ?_
          refine s_callS (av := [(0, 0)]) (rest := []) (mc := 0) (ms := 0) C dX9_find_74 lk_X9_188 rfl rfl (Nat.le_of_ble_eq_true rfl) (by decide) (by decide) (pc_X9_oneIf) (fun z11 wz11 Mz11 hq => ?_)
          obtain ⟨hq1, hq2, hq3⟩ := hq
          have hq2 := hq2.symm
          have hq3 := hq3.symm
          subst hq1 hq2 hq3
          exact s_ireturn C dX9_find_77 h
        · have h := h.2 hc
          refine s_iconst C dX9_find_69 (by decide) ?_
          refine s_goto C dX9_find_70 rfl ?_
          refine s_callS (av := [(0, 1)]) (rest := []) (mc := 0) (ms := 0) C dX9_find_74 lk_X9_188 rfl rfl (Nat.le_of_ble_eq_true rfl) (by decide) (by decide) (pc_X9_oneIf) (fun z12 wz12 Mz12 hq => ?_)
          obtain ⟨hq1, hq2, hq3⟩ := hq
          have hq2 := hq2.symm
          have hq3 := hq3.symm
          subst hq1 hq2 hq3
          exact s_ireturn C dX9_find_77 h
    · have h := h.2 hc
      refine s_iconst C dX9_find_15 (by decide) ?_
      exact s_ireturn C dX9_find_16 h
theorem E_X9_find {G : GP} {l : Launch} {P : Int → NS → MM → Prop} {l1 : Int} {l2 : Int} {l3 : Int} {w : NS} {M : MM} (h : inR l1 → inR l2 → inR l3 → ∀ X : BX, X.2.1 = l → CX_X9_find G X → A_X9_find_0 G X P l1 l2 l3 w M) : CT_X9_find G l [(2, 1), (0, l1), (0, l2), (0, l3)] w M P :=
  CT.of RX9 "find" (by decide +kernel) rfl rfl rfl (Nat.le_of_ble_eq_true rfl) (fun hr X hX C => h (hr (0, l1) (by simp)) (hr (0, l2) (by simp)) (hr (0, l3) (by simp)) X hX C)
def A_X9_inLowestTerms_0 (G : GP) (X : BX) (P : Int → NS → MM → Prop) (l0 : Int) (l1 : Int) (l2 : Int) (w : NS) (M : MM) : Prop := WA true G X (QM G X true 0 P) 4 0 [(0, l0), (0, l1), (0, l2), (3, 0)] [] 0 0 w M
def A_X9_inLowestTerms_2 (G : GP) (X : BX) (P : Int → NS → MM → Prop) (l0 : Int) (l1 : Int) (l2 : Int) (l3 : Int) (w : NS) (M : MM) : Prop := WA true G X (QM G X true 0 P) 4 2 [(0, l0), (0, l1), (0, l2), (0, l3)] [] 0 0 w M
set_option maxHeartbeats 4000000 in
set_option maxRecDepth 100000 in
theorem B_X9_inLowestTerms_0 {G : GP} {X : BX} {P : Int → NS → MM → Prop} {l0 : Int} {l1 : Int} {l2 : Int} {w : NS} {M : MM} (C : CX_X9_inLowestTerms G X) (h : A_X9_inLowestTerms_2 G X P l0 l1 l2 l2 w M) : A_X9_inLowestTerms_0 G X P l0 l1 l2 w M := by
  unfold A_X9_inLowestTerms_0
  refine s_iload_n C dX9_inLowestTerms_0 rfl ?_
  refine s_istore_n (ls' := [(0, l0), (0, l1), (0, l2), (0, l2)]) C dX9_inLowestTerms_1 (by decide) rfl rfl ?_
  exact h
set_option maxHeartbeats 4000000 in
set_option maxRecDepth 100000 in
theorem B_X9_inLowestTerms_2 {G : GP} {X : BX} {P : Int → NS → MM → Prop} {l0 : Int} {l1 : Int} {l2 : Int} {l3 : Int} {w : NS} {M : MM} (C : CX_X9_inLowestTerms G X) (h : (((l3 ≤ 1) → P l0 w M) ∧ ((¬ (l3 ≤ 1)) → (0 ≤ l1) ∧ (0 < l3) ∧ ((((l1 % l3) ≠ 0) → (inR (l3 + (-1))) ∧ A_X9_inLowestTerms_2 G X P l0 l1 l2 (l3 + (-1)) w M) ∧ ((¬ ((l1 % l3) ≠ 0)) → (0 ≤ l2) ∧ ((((l2 % l3) ≠ 0) → (inR (l3 + (-1))) ∧ A_X9_inLowestTerms_2 G X P l0 l1 l2 (l3 + (-1)) w M) ∧ ((¬ ((l2 % l3) ≠ 0)) → (0 ≤ l0) ∧ P (l0 / l3) w M))))))) : A_X9_inLowestTerms_2 G X P l0 l1 l2 l3 w M := by
  unfold A_X9_inLowestTerms_2
  refine s_iload_n C dX9_inLowestTerms_2 rfl ?_
  refine s_iconst C dX9_inLowestTerms_3 (by decide) ?_
  refine s_icmple C dX9_inLowestTerms_4 rfl (fun hc => ?_) (fun hc => ?_)
  · have h := h.1 hc
    refine s_iload_n C dX9_inLowestTerms_29 rfl ?_
    exact s_ireturn C dX9_inLowestTerms_30 h
  · have h := h.2 hc
    refine s_iload_n C dX9_inLowestTerms_7 rfl ?_
    refine s_iload_n C dX9_inLowestTerms_8 rfl ?_
    obtain ⟨o1, h⟩ := h
    obtain ⟨o2, h⟩ := h
    refine s_irem C dX9_inLowestTerms_9 o1 o2 ?_
    refine s_ifne C dX9_inLowestTerms_10 rfl (fun hc => ?_) (fun hc => ?_)
    · have h := h.1 hc
      obtain ⟨o3, h⟩ := h
      refine s_iinc (ls' := [(0, l0), (0, l1), (0, l2), (0, (l3 + (-1)))]) C dX9_inLowestTerms_23 (by decide) rfl o3 rfl rfl ?_
      refine s_goto C dX9_inLowestTerms_26 rfl ?_
      exact h
    · have h := h.2 hc
      refine s_iload_n C dX9_inLowestTerms_13 rfl ?_
      refine s_iload_n C dX9_inLowestTerms_14 rfl ?_
      obtain ⟨o4, h⟩ := h
      refine s_irem C dX9_inLowestTerms_15 o4 o2 ?_
      refine s_ifne C dX9_inLowestTerms_16 rfl (fun hc => ?_) (fun hc => ?_)
      · have h := h.1 hc
        obtain ⟨o5, h⟩ := h
        refine s_iinc (ls' := [(0, l0), (0, l1), (0, l2), (0, (l3 + (-1)))]) C dX9_inLowestTerms_23 (by decide) rfl o5 rfl rfl ?_
        refine s_goto C dX9_inLowestTerms_26 rfl ?_
        exact h
      · have h := h.2 hc
        refine s_iload_n C dX9_inLowestTerms_19 rfl ?_
        refine s_iload_n C dX9_inLowestTerms_20 rfl ?_
        obtain ⟨o6, h⟩ := h
        refine s_idiv C dX9_inLowestTerms_21 o6 o2 ?_
        exact s_ireturn C dX9_inLowestTerms_22 h
theorem E_X9_inLowestTerms {G : GP} {l : Launch} {P : Int → NS → MM → Prop} {l0 : Int} {l1 : Int} {l2 : Int} {w : NS} {M : MM} (h : inR l0 → inR l1 → inR l2 → ∀ X : BX, X.2.1 = l → CX_X9_inLowestTerms G X → A_X9_inLowestTerms_0 G X P l0 l1 l2 w M) : CT_X9_inLowestTerms G l [(0, l0), (0, l1), (0, l2)] w M P :=
  CT.of RX9 "inLowestTerms" (by decide +kernel) rfl rfl rfl (Nat.le_of_ble_eq_true rfl) (fun hr X hX C => h (hr (0, l0) (by simp)) (hr (0, l1) (by simp)) (hr (0, l2) (by simp)) X hX C)
def A_X9_misses_0 (G : GP) (X : BX) (P : Int → NS → MM → Prop) (l1 : Int) (l2 : Int) (l3 : Int) (l4 : Int) (w : NS) (M : MM) : Prop := WA true G X (QM G X true 0 P) 9 0 [(2, 1), (0, l1), (0, l2), (0, l3), (0, l4), (3, 0), (3, 0), (3, 0), (3, 0)] [] 0 0 w M
set_option maxHeartbeats 4000000 in
set_option maxRecDepth 100000 in
theorem B_X9_misses_0 {G : GP} {X : BX} {P : Int → NS → MM → Prop} {l1 : Int} {l2 : Int} {l3 : Int} {l4 : Int} {w : NS} {M : MM} (C : CX_X9_misses G X) (h : (((¬ (0 ≤ l1 ∧ l1 ≤ 3)) → P (-1) w M) ∧ (((0 ≤ l1 ∧ l1 ≤ 3)) → (((¬ (0 ≤ l2 ∧ l2 ≤ 3)) → P (-1) w M) ∧ (((0 ≤ l2 ∧ l2 ≤ 3)) → (((l1 ≠ l2) → (((¬ (0 ≤ l3 ∧ l3 ≤ 1)) → P (-2) w M) ∧ (((0 ≤ l3 ∧ l3 ≤ 1)) → ((((0 ≤ l4 ∧ l4 ≤ 1)) → (0 ≤ l1) ∧ (l1 < 4) ∧ (w.2 (M 19 l1) = (8, 4)) ∧ (0 ≤ (M (M 19 l1) 3)) ∧ ((M (M 19 l1) 3) < 16777216) ∧ (0 ≤ l2) ∧ (l2 < 4) ∧ (w.2 (M 19 l2) = (8, 4)) ∧ (0 ≤ (M (M 19 l2) 3)) ∧ ((M (M 19 l2) 3) < 16777216) ∧ (0 ≤ (zand (M (M 19 l1) 3) (M (M 19 l2) 3))) ∧ ((zand (M (M 19 l1) 3) (M (M 19 l2) 3)) < 16777216) ∧ ((((popc (zand (M (M 19 l1) 3) (M (M 19 l2) 3))) ≠ 0) → (((l3 ≠ 0) → (inR ((popc (M (M 19 l1) 3)) - (popc (zand (M (M 19 l1) 3) (M (M 19 l2) 3))))) ∧ (inR ((popc (M (M 19 l2) 3)) - (popc (zand (M (M 19 l1) 3) (M (M 19 l2) 3))))) ∧ (inR (((popc (M (M 19 l1) 3)) - (popc (zand (M (M 19 l1) 3) (M (M 19 l2) 3)))) * ((popc (M (M 19 l2) 3)) - (popc (zand (M (M 19 l1) 3) (M (M 19 l2) 3)))))) ∧ (((l4 ≠ 0) → ∃ Q24 : Int → NS → MM → Prop, CT_X9_inLowestTerms G X.2.1 [(0, (popc (zand (M (M 19 l1) 3) (M (M 19 l2) 3)))), (0, (((popc (M (M 19 l1) 3)) - (popc (zand (M (M 19 l1) 3) (M (M 19 l2) 3)))) * ((popc (M (M 19 l2) 3)) - (popc (zand (M (M 19 l1) 3) (M (M 19 l2) 3)))))), (0, (popc (zand (M (M 19 l1) 3) (M (M 19 l2) 3))))] w M Q24 ∧ ∀ (z24 : Int) (w24 : NS) (M24 : MM), Q24 z24 w24 M24 → P z24 w24 M24) ∧ ((¬ (l4 ≠ 0)) → ∃ Q25 : Int → NS → MM → Prop, CT_X9_inLowestTerms G X.2.1 [(0, (((popc (M (M 19 l1) 3)) - (popc (zand (M (M 19 l1) 3) (M (M 19 l2) 3)))) * ((popc (M (M 19 l2) 3)) - (popc (zand (M (M 19 l1) 3) (M (M 19 l2) 3)))))), (0, (((popc (M (M 19 l1) 3)) - (popc (zand (M (M 19 l1) 3) (M (M 19 l2) 3)))) * ((popc (M (M 19 l2) 3)) - (popc (zand (M (M 19 l1) 3) (M (M 19 l2) 3)))))), (0, (popc (zand (M (M 19 l1) 3) (M (M 19 l2) 3))))] w M Q25 ∧ ∀ (z25 : Int) (w25 : NS) (M25 : MM), Q25 z25 w25 M25 → P z25 w25 M25))) ∧ ((¬ (l3 ≠ 0)) → (inR ((popc (M (M 19 l1) 3)) * (popc (M (M 19 l2) 3)))) ∧ (((l4 ≠ 0) → ∃ Q27 : Int → NS → MM → Prop, CT_X9_inLowestTerms G X.2.1 [(0, (popc (zand (M (M 19 l1) 3) (M (M 19 l2) 3)))), (0, ((popc (M (M 19 l1) 3)) * (popc (M (M 19 l2) 3)))), (0, (popc (zand (M (M 19 l1) 3) (M (M 19 l2) 3))))] w M Q27 ∧ ∀ (z27 : Int) (w27 : NS) (M27 : MM), Q27 z27 w27 M27 → P z27 w27 M27) ∧ ((¬ (l4 ≠ 0)) → ∃ Q28 : Int → NS → MM → Prop, CT_X9_inLowestTerms G X.2.1 [(0, ((popc (M (M 19 l1) 3)) * (popc (M (M 19 l2) 3)))), (0, ((popc (M (M 19 l1) 3)) * (popc (M (M 19 l2) 3)))), (0, (popc (zand (M (M 19 l1) 3) (M (M 19 l2) 3))))] w M Q28 ∧ ∀ (z28 : Int) (w28 : NS) (M28 : MM), Q28 z28 w28 M28 → P z28 w28 M28))))) ∧ ((¬ ((popc (zand (M (M 19 l1) 3) (M (M 19 l2) 3))) ≠ 0)) → P l4 w M))) ∧ ((¬ (0 ≤ l4 ∧ l4 ≤ 1)) → P (-2) w M))))) ∧ ((¬ (l1 ≠ l2)) → P (-1) w M))))))) : A_X9_misses_0 G X P l1 l2 l3 l4 w M := by
  unfold A_X9_misses_0
  refine s_iload_n C dX9_misses_0 rfl ?_
  refine s_callS (av := [(0, l1)]) (rest := []) (mc := 0) (ms := 0) C dX9_misses_1 lk_X9_273 rfl rfl (Nat.le_of_ble_eq_true rfl) (by decide) (by decide) (pc_X9_isReader) (fun z1 wz1 Mz1 hq => ?_)
  obtain ⟨hq1, hq2, hq3⟩ := hq
  have hq2 := hq2.symm
  have hq3 := hq3.symm
  subst hq1 hq2 hq3
  refine s_ifeq C dX9_misses_4 rfl (fun hc => ?_) (fun hc => ?_)
  · have h := h.1 (b2i_0.mp hc)
    refine s_iconst C dX9_misses_19 (by decide) ?_
    exact s_ireturn C dX9_misses_20 h
  · have h := h.2 (b2i_n0 hc)
    refine s_iload_n C dX9_misses_7 rfl ?_
    refine s_callS (av := [(0, l2)]) (rest := []) (mc := 0) (ms := 0) C dX9_misses_8 lk_X9_273 rfl rfl (Nat.le_of_ble_eq_true rfl) (by decide) (by decide) (pc_X9_isReader) (fun z2 wz2 Mz2 hq => ?_)
    obtain ⟨hq1, hq2, hq3⟩ := hq
    have hq2 := hq2.symm
    have hq3 := hq3.symm
    subst hq1 hq2 hq3
    refine s_ifeq C dX9_misses_11 rfl (fun hc => ?_) (fun hc => ?_)
    · have h := h.1 (b2i_0.mp hc)
      refine s_iconst C dX9_misses_19 (by decide) ?_
      exact s_ireturn C dX9_misses_20 h
    · have h := h.2 (b2i_n0 hc)
      refine s_iload_n C dX9_misses_14 rfl ?_
      refine s_iload_n C dX9_misses_15 rfl ?_
      refine s_icmpne C dX9_misses_16 rfl (fun hc => ?_) (fun hc => ?_)
      · have h := h.1 hc
        refine s_iload_n C dX9_misses_21 rfl ?_
        refine s_iconst C dX9_misses_22 (by decide) ?_
        refine s_iconst C dX9_misses_23 (by decide) ?_
        refine s_callS (av := [(0, l3), (0, 0), (0, 1)]) (rest := []) (mc := 0) (ms := 0) C dX9_misses_24 lk_X9_95 rfl rfl (Nat.le_of_ble_eq_true rfl) (by decide) (by decide) (pc_X9_within) (fun z3 wz3 Mz3 hq => ?_)
        obtain ⟨hq1, hq2, hq3⟩ := hq
        have hq2 := hq2.symm
        have hq3 := hq3.symm
        subst hq1 hq2 hq3
        refine s_ifeq C dX9_misses_27 rfl (fun hc => ?_) (fun hc => ?_)
        · have h := h.1 (b2i_0.mp hc)
          refine s_bipush C dX9_misses_40 ⟨rfl, by decide, by decide⟩ ?_
          exact s_ireturn C dX9_misses_42 h
        · have h := h.2 (b2i_n0 hc)
          refine s_iload C dX9_misses_30 rfl ?_
          refine s_iconst C dX9_misses_32 (by decide) ?_
          refine s_iconst C dX9_misses_33 (by decide) ?_
          refine s_callS (av := [(0, l4), (0, 0), (0, 1)]) (rest := []) (mc := 0) (ms := 0) C dX9_misses_34 lk_X9_95 rfl rfl (Nat.le_of_ble_eq_true rfl) (by decide) (by decide) (pc_X9_within) (fun z4 wz4 Mz4 hq => ?_)
          obtain ⟨hq1, hq2, hq3⟩ := hq
          have hq2 := hq2.symm
          have hq3 := hq3.symm
          subst hq1 hq2 hq3
          refine s_ifne C dX9_misses_37 rfl (fun hc => ?_) (fun hc => ?_)
          · have h := h.1 (b2i_n0 hc)
            refine s_aload_n C dX9_misses_43 rfl ?_
            refine WA.fix (fun hF5 => ?_)
            refine gf_X9_79 C (sh_1 hF5) dX9_misses_44 (fx_1_14 hF5) ?_
            refine s_iload_n C dX9_misses_47 rfl ?_
            obtain ⟨o6, h⟩ := h
            obtain ⟨o7, h⟩ := h
            refine s_aald (v0 := (M 19 l1)) (t0 := 7) C (sh_19 hF5) (by decide) rfl o6 o7 dX9_misses_48 rfl ?_
            obtain ⟨o8, h⟩ := h
            refine gf_X9_276 (v0 := (M (M 19 l1) 3)) C o8 dX9_misses_49 rfl ?_
            obtain ⟨o9, h⟩ := h
            obtain ⟨o10, h⟩ := h
            refine s_callS (av := [(0, (M (M 19 l1) 3))]) (rest := []) (mc := 0) (ms := 0) C dX9_misses_52 lk_X9_268 rfl rfl (Nat.le_of_ble_eq_true rfl) (by decide) (by decide) (pc_J6_bitCount o9 o10) (fun z11 wz11 Mz11 hq => ?_)
            obtain ⟨hq1, hq2, hq3⟩ := hq
            have hq2 := hq2.symm
            have hq3 := hq3.symm
            subst hq1 hq2 hq3
            refine s_istore (ls' := [(2, 1), (0, l1), (0, l2), (0, l3), (0, l4), (0, (popc (M (M 19 l1) 3))), (3, 0), (3, 0), (3, 0)]) C dX9_misses_55 (by decide) rfl rfl ?_
            refine s_aload_n C dX9_misses_57 rfl ?_
            refine gf_X9_79 C (sh_1 hF5) dX9_misses_58 (fx_1_14 hF5) ?_
            refine s_iload_n C dX9_misses_61 rfl ?_
            obtain ⟨o12, h⟩ := h
            obtain ⟨o13, h⟩ := h
            refine s_aald (v0 := (M 19 l2)) (t0 := 7) C (sh_19 hF5) (by decide) rfl o12 o13 dX9_misses_62 rfl ?_
            obtain ⟨o14, h⟩ := h
            refine gf_X9_276 (v0 := (M (M 19 l2) 3)) C o14 dX9_misses_63 rfl ?_
            obtain ⟨o15, h⟩ := h
            obtain ⟨o16, h⟩ := h
            refine s_callS (av := [(0, (M (M 19 l2) 3))]) (rest := []) (mc := 0) (ms := 0) C dX9_misses_66 lk_X9_268 rfl rfl (Nat.le_of_ble_eq_true rfl) (by decide) (by decide) (pc_J6_bitCount o15 o16) (fun z17 wz17 Mz17 hq => ?_)
            obtain ⟨hq1, hq2, hq3⟩ := hq
            have hq2 := hq2.symm
            have hq3 := hq3.symm
            subst hq1 hq2 hq3
            refine s_istore (ls' := [(2, 1), (0, l1), (0, l2), (0, l3), (0, l4), (0, (popc (M (M 19 l1) 3))), (0, (popc (M (M 19 l2) 3))), (3, 0), (3, 0)]) C dX9_misses_69 (by decide) rfl rfl ?_
            refine s_aload_n C dX9_misses_71 rfl ?_
            refine gf_X9_79 C (sh_1 hF5) dX9_misses_72 (fx_1_14 hF5) ?_
            refine s_iload_n C dX9_misses_75 rfl ?_
            refine s_aald (v0 := (M 19 l1)) (t0 := 7) C (sh_19 hF5) (by decide) rfl o6 o7 dX9_misses_76 rfl ?_
            refine gf_X9_276 (v0 := (M (M 19 l1) 3)) C o8 dX9_misses_77 rfl ?_
            refine s_aload_n C dX9_misses_80 rfl ?_
            refine gf_X9_79 C (sh_1 hF5) dX9_misses_81 (fx_1_14 hF5) ?_
            refine s_iload_n C dX9_misses_84 rfl ?_
            refine s_aald (v0 := (M 19 l2)) (t0 := 7) C (sh_19 hF5) (by decide) rfl o12 o13 dX9_misses_85 rfl ?_
            refine gf_X9_276 (v0 := (M (M 19 l2) 3)) C o14 dX9_misses_86 rfl ?_
            refine s_iand C dX9_misses_89 ?_
            obtain ⟨o18, h⟩ := h
            obtain ⟨o19, h⟩ := h
            refine s_callS (av := [(0, (zand (M (M 19 l1) 3) (M (M 19 l2) 3)))]) (rest := []) (mc := 0) (ms := 0) C dX9_misses_90 lk_X9_268 rfl rfl (Nat.le_of_ble_eq_true rfl) (by decide) (by decide) (pc_J6_bitCount o18 o19) (fun z20 wz20 Mz20 hq => ?_)
            obtain ⟨hq1, hq2, hq3⟩ := hq
            have hq2 := hq2.symm
            have hq3 := hq3.symm
            subst hq1 hq2 hq3
            refine s_istore (ls' := [(2, 1), (0, l1), (0, l2), (0, l3), (0, l4), (0, (popc (M (M 19 l1) 3))), (0, (popc (M (M 19 l2) 3))), (0, (popc (zand (M (M 19 l1) 3) (M (M 19 l2) 3)))), (3, 0)]) C dX9_misses_93 (by decide) rfl rfl ?_
            refine s_iload C dX9_misses_95 rfl ?_
            refine s_ifne C dX9_misses_97 rfl (fun hc => ?_) (fun hc => ?_)
            · have h := h.1 hc
              refine s_iload_n C dX9_misses_103 rfl ?_
              refine s_ifne C dX9_misses_104 rfl (fun hc => ?_) (fun hc => ?_)
              · have h := h.1 hc
                refine s_iload C dX9_misses_115 rfl ?_
                refine s_iload C dX9_misses_117 rfl ?_
                obtain ⟨o21, h⟩ := h
                refine s_isub C dX9_misses_119 o21 ?_
                refine s_iload C dX9_misses_120 rfl ?_
                refine s_iload C dX9_misses_122 rfl ?_
                obtain ⟨o22, h⟩ := h
                refine s_isub C dX9_misses_124 o22 ?_
                obtain ⟨o23, h⟩ := h
                refine s_imul C dX9_misses_125 o23 ?_
                refine s_istore (ls' := [(2, 1), (0, l1), (0, l2), (0, l3), (0, l4), (0, (popc (M (M 19 l1) 3))), (0, (popc (M (M 19 l2) 3))), (0, (popc (zand (M (M 19 l1) 3) (M (M 19 l2) 3)))), (0, (((popc (M (M 19 l1) 3)) - (popc (zand (M (M 19 l1) 3) (M (M 19 l2) 3)))) * ((popc (M (M 19 l2) 3)) - (popc (zand (M (M 19 l1) 3) (M (M 19 l2) 3))))))]) C dX9_misses_126 (by decide) rfl rfl ?_
                refine s_iload C dX9_misses_128 rfl ?_
                refine s_ifne C dX9_misses_130 rfl (fun hc => ?_) (fun hc => ?_)
                · have h := h.1 hc
                  refine s_iload C dX9_misses_138 rfl ?_
                  refine s_iload C dX9_misses_140 rfl ?_
                  refine s_iload C dX9_misses_142 rfl ?_
                  obtain ⟨Q24, hKQ24, h⟩ := h
                  refine s_callS (av := [(0, (popc (zand (M (M 19 l1) 3) (M (M 19 l2) 3)))), (0, (((popc (M (M 19 l1) 3)) - (popc (zand (M (M 19 l1) 3) (M (M 19 l2) 3)))) * ((popc (M (M 19 l2) 3)) - (popc (zand (M (M 19 l1) 3) (M (M 19 l2) 3)))))), (0, (popc (zand (M (M 19 l1) 3) (M (M 19 l2) 3))))]) (rest := []) (mc := 0) (ms := 0) C dX9_misses_144 lk_X9_279 rfl rfl (Nat.le_of_ble_eq_true rfl) (by decide) (by decide) hKQ24 (fun z24 w24 M24 hq => ?_)
                  have h := h z24 w24 M24 hq
                  exact s_ireturn C dX9_misses_147 h
                · have h := h.2 hc
                  refine s_iload C dX9_misses_133 rfl ?_
                  refine s_goto C dX9_misses_135 rfl ?_
                  refine s_iload C dX9_misses_140 rfl ?_
                  refine s_iload C dX9_misses_142 rfl ?_
                  obtain ⟨Q25, hKQ25, h⟩ := h
                  refine s_callS (av := [(0, (((popc (M (M 19 l1) 3)) - (popc (zand (M (M 19 l1) 3) (M (M 19 l2) 3)))) * ((popc (M (M 19 l2) 3)) - (popc (zand (M (M 19 l1) 3) (M (M 19 l2) 3)))))), (0, (((popc (M (M 19 l1) 3)) - (popc (zand (M (M 19 l1) 3) (M (M 19 l2) 3)))) * ((popc (M (M 19 l2) 3)) - (popc (zand (M (M 19 l1) 3) (M (M 19 l2) 3)))))), (0, (popc (zand (M (M 19 l1) 3) (M (M 19 l2) 3))))]) (rest := []) (mc := 0) (ms := 0) C dX9_misses_144 lk_X9_279 rfl rfl (Nat.le_of_ble_eq_true rfl) (by decide) (by decide) hKQ25 (fun z25 w25 M25 hq => ?_)
                  have h := h z25 w25 M25 hq
                  exact s_ireturn C dX9_misses_147 h
              · have h := h.2 hc
                refine s_iload C dX9_misses_107 rfl ?_
                refine s_iload C dX9_misses_109 rfl ?_
                obtain ⟨o26, h⟩ := h
                refine s_imul C dX9_misses_111 o26 ?_
                refine s_goto C dX9_misses_112 rfl ?_
                refine s_istore (ls' := [(2, 1), (0, l1), (0, l2), (0, l3), (0, l4), (0, (popc (M (M 19 l1) 3))), (0, (popc (M (M 19 l2) 3))), (0, (popc (zand (M (M 19 l1) 3) (M (M 19 l2) 3)))), (0, ((popc (M (M 19 l1) 3)) * (popc (M (M 19 l2) 3))))]) C dX9_misses_126 (by decide) rfl rfl ?_
                refine s_iload C dX9_misses_128 rfl ?_
                refine s_ifne C dX9_misses_130 rfl (fun hc => ?_) (fun hc => ?_)
                · have h := h.1 hc
                  refine s_iload C dX9_misses_138 rfl ?_
                  refine s_iload C dX9_misses_140 rfl ?_
                  refine s_iload C dX9_misses_142 rfl ?_
                  obtain ⟨Q27, hKQ27, h⟩ := h
                  refine s_callS (av := [(0, (popc (zand (M (M 19 l1) 3) (M (M 19 l2) 3)))), (0, ((popc (M (M 19 l1) 3)) * (popc (M (M 19 l2) 3)))), (0, (popc (zand (M (M 19 l1) 3) (M (M 19 l2) 3))))]) (rest := []) (mc := 0) (ms := 0) C dX9_misses_144 lk_X9_279 rfl rfl (Nat.le_of_ble_eq_true rfl) (by decide) (by decide) hKQ27 (fun z27 w27 M27 hq => ?_)
                  have h := h z27 w27 M27 hq
                  exact s_ireturn C dX9_misses_147 h
                · have h := h.2 hc
                  refine s_iload C dX9_misses_133 rfl ?_
                  refine s_goto C dX9_misses_135 rfl ?_
                  refine s_iload C dX9_misses_140 rfl ?_
                  refine s_iload C dX9_misses_142 rfl ?_
                  obtain ⟨Q28, hKQ28, h⟩ := h
                  refine s_callS (av := [(0, ((popc (M (M 19 l1) 3)) * (popc (M (M 19 l2) 3)))), (0, ((popc (M (M 19 l1) 3)) * (popc (M (M 19 l2) 3)))), (0, (popc (zand (M (M 19 l1) 3) (M (M 19 l2) 3))))]) (rest := []) (mc := 0) (ms := 0) C dX9_misses_144 lk_X9_279 rfl rfl (Nat.le_of_ble_eq_true rfl) (by decide) (by decide) hKQ28 (fun z28 w28 M28 hq => ?_)
                  have h := h z28 w28 M28 hq
                  exact s_ireturn C dX9_misses_147 h
            · have h := h.2 hc
              refine s_iload C dX9_misses_100 rfl ?_
              exact s_ireturn C dX9_misses_102 h
          · have h := h.2 (b2i_nn hc)
            refine s_bipush C dX9_misses_40 ⟨rfl, by decide, by decide⟩ ?_
            exact s_ireturn C dX9_misses_42 h
      · have h := h.2 hc
        refine s_iconst C dX9_misses_19 (by decide) ?_
        exact s_ireturn C dX9_misses_20 h
theorem E_X9_misses {G : GP} {l : Launch} {P : Int → NS → MM → Prop} {l1 : Int} {l2 : Int} {l3 : Int} {l4 : Int} {w : NS} {M : MM} (h : inR l1 → inR l2 → inR l3 → inR l4 → ∀ X : BX, X.2.1 = l → CX_X9_misses G X → A_X9_misses_0 G X P l1 l2 l3 l4 w M) : CT_X9_misses G l [(2, 1), (0, l1), (0, l2), (0, l3), (0, l4)] w M P :=
  CT.of RX9 "misses" (by decide +kernel) rfl rfl rfl (Nat.le_of_ble_eq_true rfl) (fun hr X hX C => h (hr (0, l1) (by simp)) (hr (0, l2) (by simp)) (hr (0, l3) (by simp)) (hr (0, l4) (by simp)) X hX C)
def A_X9_reader_0 (G : GP) (X : BX) (P : Int → NS → MM → Prop) (l1 : Int) (l2 : Int) (l3 : Int) (w : NS) (M : MM) : Prop := WA true G X (QM G X true 0 P) 6 0 [(2, 1), (0, l1), (0, l2), (0, l3), (3, 0), (3, 0)] [] 0 0 w M
set_option maxHeartbeats 4000000 in
set_option maxRecDepth 100000 in
theorem B_X9_reader_0 {G : GP} {X : BX} {P : Int → NS → MM → Prop} {l1 : Int} {l2 : Int} {l3 : Int} {w : NS} {M : MM} (C : CX_X9_reader G X) (h : ((((0 ≤ l1 ∧ l1 ≤ 3)) → (0 ≤ l1) ∧ (l1 < 4) ∧ (((l2 ≠ 0) → (((l2 ≠ 1) → P (-2) w M) ∧ ((¬ (l2 ≠ 1)) → (((¬ (0 ≤ l3 ∧ l3 ≤ 1000)) → P (-2) w M) ∧ (((0 ≤ l3 ∧ l3 ≤ 1000)) → (w.2 (M 19 l1) = (8, 4)) ∧ P (M (M 19 l1) 1) w (up M (M 19 l1) 1 l3)))))) ∧ ((¬ (l2 ≠ 0)) → (((¬ (1 ≤ l3 ∧ l3 ≤ 100)) → (((l2 ≠ 1) → P (-2) w M) ∧ ((¬ (l2 ≠ 1)) → (((¬ (0 ≤ l3 ∧ l3 ≤ 1000)) → P (-2) w M) ∧ (((0 ≤ l3 ∧ l3 ≤ 1000)) → (w.2 (M 19 l1) = (8, 4)) ∧ P (M (M 19 l1) 1) w (up M (M 19 l1) 1 l3)))))) ∧ (((1 ≤ l3 ∧ l3 ≤ 100)) → (w.2 (M 19 l1) = (8, 4)) ∧ P (M (M 19 l1) 0) w (up M (M 19 l1) 0 l3)))))) ∧ ((¬ (0 ≤ l1 ∧ l1 ≤ 3)) → P (-1) w M))) : A_X9_reader_0 G X P l1 l2 l3 w M := by
  unfold A_X9_reader_0
  refine s_iload_n C dX9_reader_0 rfl ?_
  refine s_callS (av := [(0, l1)]) (rest := []) (mc := 0) (ms := 0) C dX9_reader_1 lk_X9_273 rfl rfl (Nat.le_of_ble_eq_true rfl) (by decide) (by decide) (pc_X9_isReader) (fun z1 wz1 Mz1 hq => ?_)
  obtain ⟨hq1, hq2, hq3⟩ := hq
  have hq2 := hq2.symm
  have hq3 := hq3.symm
  subst hq1 hq2 hq3
  refine s_ifne C dX9_reader_4 rfl (fun hc => ?_) (fun hc => ?_)
  · have h := h.1 (b2i_n0 hc)
    refine s_aload_n C dX9_reader_9 rfl ?_
    refine WA.fix (fun hF2 => ?_)
    refine gf_X9_79 C (sh_1 hF2) dX9_reader_10 (fx_1_14 hF2) ?_
    refine s_iload_n C dX9_reader_13 rfl ?_
    obtain ⟨o3, h⟩ := h
    obtain ⟨o4, h⟩ := h
    refine s_aald (v0 := (M 19 l1)) (t0 := 7) C (sh_19 hF2) (by decide) rfl o3 o4 dX9_reader_14 rfl ?_
    refine s_astore (ls' := [(2, 1), (0, l1), (0, l2), (0, l3), (2, (M 19 l1)), (3, 0)]) C dX9_reader_15 (by decide) rfl rfl ?_
    refine s_iload_n C dX9_reader_17 rfl ?_
    refine s_ifne C dX9_reader_18 rfl (fun hc => ?_) (fun hc => ?_)
    · have h := h.1 hc
      refine s_iload_n C dX9_reader_47 rfl ?_
      refine s_iconst C dX9_reader_48 (by decide) ?_
      refine s_icmpne C dX9_reader_49 rfl (fun hc => ?_) (fun hc => ?_)
      · have h := h.1 hc
        refine s_bipush C dX9_reader_79 ⟨rfl, by decide, by decide⟩ ?_
        exact s_ireturn C dX9_reader_81 h
      · have h := h.2 hc
        refine s_iload_n C dX9_reader_52 rfl ?_
        refine s_iconst C dX9_reader_53 (by decide) ?_
        refine s_sipush C dX9_reader_54 ⟨rfl, by decide, by decide⟩ ?_
        refine s_callS (av := [(0, l3), (0, 0), (0, 1000)]) (rest := []) (mc := 0) (ms := 0) C dX9_reader_57 lk_X9_95 rfl rfl (Nat.le_of_ble_eq_true rfl) (by decide) (by decide) (pc_X9_within) (fun z5 wz5 Mz5 hq => ?_)
        obtain ⟨hq1, hq2, hq3⟩ := hq
        have hq2 := hq2.symm
        have hq3 := hq3.symm
        subst hq1 hq2 hq3
        refine s_ifeq C dX9_reader_60 rfl (fun hc => ?_) (fun hc => ?_)
        · have h := h.1 (b2i_0.mp hc)
          refine s_bipush C dX9_reader_79 ⟨rfl, by decide, by decide⟩ ?_
          exact s_ireturn C dX9_reader_81 h
        · have h := h.2 (b2i_n0 hc)
          refine s_aload C dX9_reader_63 rfl ?_
          obtain ⟨o6, h⟩ := h
          refine gf_X9_286 (v0 := (M (M 19 l1) 1)) C o6 dX9_reader_65 rfl ?_
          refine s_istore (ls' := [(2, 1), (0, l1), (0, l2), (0, l3), (2, (M 19 l1)), (0, (M (M 19 l1) 1))]) C dX9_reader_68 (by decide) rfl rfl ?_
          refine s_aload C dX9_reader_70 rfl ?_
          refine s_iload_n C dX9_reader_72 rfl ?_
          refine pf_X9_286 C o6 (fun _ => by decide) dX9_reader_73 ?_
          refine s_iload C dX9_reader_76 rfl ?_
          exact s_ireturn C dX9_reader_78 h
    · have h := h.2 hc
      refine s_iload_n C dX9_reader_21 rfl ?_
      refine s_iconst C dX9_reader_22 (by decide) ?_
      refine s_bipush C dX9_reader_23 ⟨rfl, by decide, by decide⟩ ?_
      refine s_callS (av := [(0, l3), (0, 1), (0, 100)]) (rest := []) (mc := 0) (ms := 0) C dX9_reader_25 lk_X9_95 rfl rfl (Nat.le_of_ble_eq_true rfl) (by decide) (by decide) (pc_X9_within) (fun z7 wz7 Mz7 hq => ?_)
      obtain ⟨hq1, hq2, hq3⟩ := hq
      have hq2 := hq2.symm
      have hq3 := hq3.symm
      subst hq1 hq2 hq3
      refine s_ifeq C dX9_reader_28 rfl (fun hc => ?_) (fun hc => ?_)
      · have h := h.1 (b2i_0.mp hc)
        refine s_iload_n C dX9_reader_47 rfl ?_
        refine s_iconst C dX9_reader_48 (by decide) ?_
        refine s_icmpne C dX9_reader_49 rfl (fun hc => ?_) (fun hc => ?_)
        · have h := h.1 hc
          refine s_bipush C dX9_reader_79 ⟨rfl, by decide, by decide⟩ ?_
          exact s_ireturn C dX9_reader_81 h
        · have h := h.2 hc
          refine s_iload_n C dX9_reader_52 rfl ?_
          refine s_iconst C dX9_reader_53 (by decide) ?_
          refine s_sipush C dX9_reader_54 ⟨rfl, by decide, by decide⟩ ?_
          refine s_callS (av := [(0, l3), (0, 0), (0, 1000)]) (rest := []) (mc := 0) (ms := 0) C dX9_reader_57 lk_X9_95 rfl rfl (Nat.le_of_ble_eq_true rfl) (by decide) (by decide) (pc_X9_within) (fun z8 wz8 Mz8 hq => ?_)
          obtain ⟨hq1, hq2, hq3⟩ := hq
          have hq2 := hq2.symm
          have hq3 := hq3.symm
          subst hq1 hq2 hq3
          refine s_ifeq C dX9_reader_60 rfl (fun hc => ?_) (fun hc => ?_)
          · have h := h.1 (b2i_0.mp hc)
            refine s_bipush C dX9_reader_79 ⟨rfl, by decide, by decide⟩ ?_
            exact s_ireturn C dX9_reader_81 h
          · have h := h.2 (b2i_n0 hc)
            refine s_aload C dX9_reader_63 rfl ?_
            obtain ⟨o9, h⟩ := h
            refine gf_X9_286 (v0 := (M (M 19 l1) 1)) C o9 dX9_reader_65 rfl ?_
            refine s_istore (ls' := [(2, 1), (0, l1), (0, l2), (0, l3), (2, (M 19 l1)), (0, (M (M 19 l1) 1))]) C dX9_reader_68 (by decide) rfl rfl ?_
            refine s_aload C dX9_reader_70 rfl ?_
            refine s_iload_n C dX9_reader_72 rfl ?_
            refine pf_X9_286 C o9 (fun _ => by decide) dX9_reader_73 ?_
            refine s_iload C dX9_reader_76 rfl ?_
            exact s_ireturn C dX9_reader_78 h
      · have h := h.2 (b2i_n0 hc)
        refine s_aload C dX9_reader_31 rfl ?_
        obtain ⟨o10, h⟩ := h
        refine gf_X9_283 (v0 := (M (M 19 l1) 0)) C o10 dX9_reader_33 rfl ?_
        refine s_istore (ls' := [(2, 1), (0, l1), (0, l2), (0, l3), (2, (M 19 l1)), (0, (M (M 19 l1) 0))]) C dX9_reader_36 (by decide) rfl rfl ?_
        refine s_aload C dX9_reader_38 rfl ?_
        refine s_iload_n C dX9_reader_40 rfl ?_
        refine pf_X9_283 C o10 (fun _ => by decide) dX9_reader_41 ?_
        refine s_iload C dX9_reader_44 rfl ?_
        exact s_ireturn C dX9_reader_46 h
  · have h := h.2 (b2i_nn hc)
    refine s_iconst C dX9_reader_7 (by decide) ?_
    exact s_ireturn C dX9_reader_8 h
theorem E_X9_reader {G : GP} {l : Launch} {P : Int → NS → MM → Prop} {l1 : Int} {l2 : Int} {l3 : Int} {w : NS} {M : MM} (h : inR l1 → inR l2 → inR l3 → ∀ X : BX, X.2.1 = l → CX_X9_reader G X → A_X9_reader_0 G X P l1 l2 l3 w M) : CT_X9_reader G l [(2, 1), (0, l1), (0, l2), (0, l3)] w M P :=
  CT.of RX9 "reader" (by decide +kernel) rfl rfl rfl (Nat.le_of_ble_eq_true rfl) (fun hr X hX C => h (hr (0, l1) (by simp)) (hr (0, l2) (by simp)) (hr (0, l3) (by simp)) X hX C)
def A_X9_slips_0 (G : GP) (X : BX) (P : Int → NS → MM → Prop) (l1 : Int) (l2 : Int) (l3 : Int) (w : NS) (M : MM) : Prop := WA true G X (QM G X true 0 P) 5 0 [(2, 1), (0, l1), (0, l2), (0, l3), (3, 0)] [] 0 0 w M
set_option maxHeartbeats 4000000 in
set_option maxRecDepth 100000 in
theorem B_X9_slips_0 {G : GP} {X : BX} {P : Int → NS → MM → Prop} {l1 : Int} {l2 : Int} {l3 : Int} {w : NS} {M : MM} (C : CX_X9_slips G X) (h : ((((0 ≤ l1 ∧ l1 ≤ 3)) → (((¬ (0 ≤ l2 ∧ l2 ≤ 9)) → P (-2) w M) ∧ (((0 ≤ l2 ∧ l2 ≤ 9)) → ((((0 ≤ l3 ∧ l3 ≤ 100)) → (0 ≤ l1) ∧ (l1 < 4) ∧ (w.2 (M 19 l1) = (8, 4)) ∧ (0 ≤ l2) ∧ (l2 < 10) ∧ P (M ((M 19 l1) + 1) l2) w (up M ((M 19 l1) + 1) l2 l3)) ∧ ((¬ (0 ≤ l3 ∧ l3 ≤ 100)) → P (-2) w M))))) ∧ ((¬ (0 ≤ l1 ∧ l1 ≤ 3)) → P (-1) w M))) : A_X9_slips_0 G X P l1 l2 l3 w M := by
  unfold A_X9_slips_0
  refine s_iload_n C dX9_slips_0 rfl ?_
  refine s_callS (av := [(0, l1)]) (rest := []) (mc := 0) (ms := 0) C dX9_slips_1 lk_X9_273 rfl rfl (Nat.le_of_ble_eq_true rfl) (by decide) (by decide) (pc_X9_isReader) (fun z1 wz1 Mz1 hq => ?_)
  obtain ⟨hq1, hq2, hq3⟩ := hq
  have hq2 := hq2.symm
  have hq3 := hq3.symm
  subst hq1 hq2 hq3
  refine s_ifne C dX9_slips_4 rfl (fun hc => ?_) (fun hc => ?_)
  · have h := h.1 (b2i_n0 hc)
    refine s_iload_n C dX9_slips_9 rfl ?_
    refine s_iconst C dX9_slips_10 (by decide) ?_
    refine s_bipush C dX9_slips_11 ⟨rfl, by decide, by decide⟩ ?_
    refine s_callS (av := [(0, l2), (0, 0), (0, 9)]) (rest := []) (mc := 0) (ms := 0) C dX9_slips_13 lk_X9_95 rfl rfl (Nat.le_of_ble_eq_true rfl) (by decide) (by decide) (pc_X9_within) (fun z2 wz2 Mz2 hq => ?_)
    obtain ⟨hq1, hq2, hq3⟩ := hq
    have hq2 := hq2.symm
    have hq3 := hq3.symm
    subst hq1 hq2 hq3
    refine s_ifeq C dX9_slips_16 rfl (fun hc => ?_) (fun hc => ?_)
    · have h := h.1 (b2i_0.mp hc)
      refine s_bipush C dX9_slips_29 ⟨rfl, by decide, by decide⟩ ?_
      exact s_ireturn C dX9_slips_31 h
    · have h := h.2 (b2i_n0 hc)
      refine s_iload_n C dX9_slips_19 rfl ?_
      refine s_iconst C dX9_slips_20 (by decide) ?_
      refine s_bipush C dX9_slips_21 ⟨rfl, by decide, by decide⟩ ?_
      refine s_callS (av := [(0, l3), (0, 0), (0, 100)]) (rest := []) (mc := 0) (ms := 0) C dX9_slips_23 lk_X9_95 rfl rfl (Nat.le_of_ble_eq_true rfl) (by decide) (by decide) (pc_X9_within) (fun z3 wz3 Mz3 hq => ?_)
      obtain ⟨hq1, hq2, hq3⟩ := hq
      have hq2 := hq2.symm
      have hq3 := hq3.symm
      subst hq1 hq2 hq3
      refine s_ifne C dX9_slips_26 rfl (fun hc => ?_) (fun hc => ?_)
      · have h := h.1 (b2i_n0 hc)
        refine s_aload_n C dX9_slips_32 rfl ?_
        refine WA.fix (fun hF4 => ?_)
        refine gf_X9_79 C (sh_1 hF4) dX9_slips_33 (fx_1_14 hF4) ?_
        refine s_iload_n C dX9_slips_36 rfl ?_
        obtain ⟨o5, h⟩ := h
        obtain ⟨o6, h⟩ := h
        refine s_aald (v0 := (M 19 l1)) (t0 := 7) C (sh_19 hF4) (by decide) rfl o5 o6 dX9_slips_37 rfl ?_
        obtain ⟨o7, h⟩ := h
        have hd8 := FixA.dy (t := 8) (n := 4) (k := 2) (m := 10) hF4 (by decide) o7
        refine gf_X9_289 C o7 dX9_slips_38 hd8.1 ?_
        refine s_iload_n C dX9_slips_41 rfl ?_
        obtain ⟨o9, h⟩ := h
        obtain ⟨o10, h⟩ := h
        refine s_iald (v0 := (M ((M 19 l1) + 1) l2)) C hd8.2 o9 o10 dX9_slips_42 rfl ?_
        refine s_istore (ls' := [(2, 1), (0, l1), (0, l2), (0, l3), (0, (M ((M 19 l1) + 1) l2))]) C dX9_slips_43 (by decide) rfl rfl ?_
        refine s_aload_n C dX9_slips_45 rfl ?_
        refine gf_X9_79 C (sh_1 hF4) dX9_slips_46 (fx_1_14 hF4) ?_
        refine s_iload_n C dX9_slips_49 rfl ?_
        refine s_aald (v0 := (M 19 l1)) (t0 := 7) C (sh_19 hF4) (by decide) rfl o5 o6 dX9_slips_50 rfl ?_
        have hd11 := FixA.dy (t := 8) (n := 4) (k := 2) (m := 10) hF4 (by decide) o7
        refine gf_X9_289 C o7 dX9_slips_51 hd11.1 ?_
        refine s_iload_n C dX9_slips_54 rfl ?_
        refine s_iload_n C dX9_slips_55 rfl ?_
        refine s_iast C hd11.2 o9 o10 (fun _ => by decide) dX9_slips_56 ?_
        refine s_iload C dX9_slips_57 rfl ?_
        exact s_ireturn C dX9_slips_59 h
      · have h := h.2 (b2i_nn hc)
        refine s_bipush C dX9_slips_29 ⟨rfl, by decide, by decide⟩ ?_
        exact s_ireturn C dX9_slips_31 h
  · have h := h.2 (b2i_nn hc)
    refine s_iconst C dX9_slips_7 (by decide) ?_
    exact s_ireturn C dX9_slips_8 h
theorem E_X9_slips {G : GP} {l : Launch} {P : Int → NS → MM → Prop} {l1 : Int} {l2 : Int} {l3 : Int} {w : NS} {M : MM} (h : inR l1 → inR l2 → inR l3 → ∀ X : BX, X.2.1 = l → CX_X9_slips G X → A_X9_slips_0 G X P l1 l2 l3 w M) : CT_X9_slips G l [(2, 1), (0, l1), (0, l2), (0, l3)] w M P :=
  CT.of RX9 "slips" (by decide +kernel) rfl rfl rfl (Nat.le_of_ble_eq_true rfl) (fun hr X hX C => h (hr (0, l1) (by simp)) (hr (0, l2) (by simp)) (hr (0, l3) (by simp)) X hX C)
def A_X5_giveAll_0 (G : GP) (X : BX) (P : Int → NS → MM → Prop) (l1 : Int) (l2 : Int) (w : NS) (M : MM) : Prop := WA true G X (QM G X true 4 P) 7 0 [(2, 20), (0, l1), (0, l2), (3, 0), (3, 0), (3, 0), (3, 0)] [] 0 0 w M
def A_X5_giveAll_9 (G : GP) (X : BX) (P : Int → NS → MM → Prop) (l1 : Int) (l2 : Int) (l3 : Int) (w : NS) (M : MM) : Prop := WA true G X (QM G X true 4 P) 7 9 [(2, 20), (0, l1), (0, l2), (0, l3), (3, 0), (3, 0), (3, 0)] [] 0 0 w M
def A_X5_giveAll_42 (G : GP) (X : BX) (P : Int → NS → MM → Prop) (l1 : Int) (l2 : Int) (l3 : Int) (l4 : Int) (l6 : Int) (w : NS) (M : MM) : Prop := WA true G X (QM G X true 4 P) 7 42 [(2, 20), (0, l1), (0, l2), (0, l3), (1, l4), (3, 0), (0, l6)] [] 0 0 w M
set_option maxHeartbeats 4000000 in
set_option maxRecDepth 100000 in
theorem B_X5_giveAll_0 {G : GP} {X : BX} {P : Int → NS → MM → Prop} {l1 : Int} {l2 : Int} {w : NS} {M : MM} (C : CX_X5_giveAll G X) (h : A_X5_giveAll_9 G X P l1 l2 0 w (up M 23 0 0)) : A_X5_giveAll_0 G X P l1 l2 w M := by
  unfold A_X5_giveAll_0
  refine s_aload_n C dX5_giveAll_0 rfl ?_
  refine WA.fix (fun hF1 => ?_)
  refine gf_X5_19 C (sh_20 hF1) dX5_giveAll_1 (fx_20_2 hF1) ?_
  refine s_iconst C dX5_giveAll_4 (by decide) ?_
  refine s_lconst (z := 0) C dX5_giveAll_5 ⟨rfl, by decide⟩ ?_
  refine s_last C (sh_23 hF1) (by decide) (by decide) (fun _ => by decide) dX5_giveAll_6 ?_
  refine s_iconst C dX5_giveAll_7 (by decide) ?_
  refine s_istore_n (ls' := [(2, 20), (0, l1), (0, l2), (0, 0), (3, 0), (3, 0), (3, 0)]) C dX5_giveAll_8 (by decide) rfl rfl ?_
  exact h
set_option maxHeartbeats 4000000 in
set_option maxRecDepth 100000 in
theorem B_X5_giveAll_9 {G : GP} {X : BX} {P : Int → NS → MM → Prop} {l1 : Int} {l2 : Int} {l3 : Int} {w : NS} {M : MM} (C : CX_X5_giveAll G X) (h : (((8 ≤ l3) → P 0 w M) ∧ ((¬ (8 ≤ l3)) → (0 ≤ l3) ∧ (l3 < 8) ∧ (inL ((M 21 l3) * 390625)) ∧ (inR (l1 * (PUf l3.toNat))) ∧ (inL (((M 21 l3) * 390625) + (l1 * (PUf l3.toNat)))) ∧ A_X5_giveAll_42 G X P l1 l2 l3 (((M 21 l3) * 390625) + (l1 * (PUf l3.toNat))) (zshl 1 l3) w M))) : A_X5_giveAll_9 G X P l1 l2 l3 w M := by
  unfold A_X5_giveAll_9
  refine s_iload_n C dX5_giveAll_9 rfl ?_
  refine s_bipush C dX5_giveAll_10 ⟨rfl, by decide, by decide⟩ ?_
  refine s_icmpge C dX5_giveAll_12 rfl (fun hc => ?_) (fun hc => ?_)
  · have h := h.1 hc
    exact s_vreturn C dX5_giveAll_89 h
  · have h := h.2 hc
    refine s_aload_n C dX5_giveAll_15 rfl ?_
    refine WA.fix (fun hF1 => ?_)
    refine gf_X5_9 C (sh_20 hF1) dX5_giveAll_16 (fx_20_0 hF1) ?_
    refine s_iload_n C dX5_giveAll_19 rfl ?_
    obtain ⟨o2, h⟩ := h
    obtain ⟨o3, h⟩ := h
    refine s_iald (v0 := (M 21 l3)) C (sh_21 hF1) o2 o3 dX5_giveAll_20 rfl ?_
    refine s_i2l C dX5_giveAll_21 ?_
    refine s_ldc2 (z := 390625) C dX5_giveAll_22 (mG (wd_700) rfl) ⟨rfl, by decide⟩ ?_
    obtain ⟨o4, h⟩ := h
    refine s_lmul C dX5_giveAll_25 o4 ?_
    refine s_iload_n C dX5_giveAll_26 rfl ?_
    refine s_gets (e := 3) C (by decide) C.2.2.2.2.2.2.1.2.2.1 (mG (wd_701) rfl) dX5_giveAll_27 ?_
    refine s_iload_n C dX5_giveAll_30 rfl ?_
    refine s_tald (e := 3) C (by decide) C.2.2.2.2.2.2.1.2.2.2 PUf_r o2 o3 dX5_giveAll_31 ?_
    obtain ⟨o5, h⟩ := h
    refine s_imul C dX5_giveAll_32 o5 ?_
    refine s_i2l C dX5_giveAll_33 ?_
    obtain ⟨o6, h⟩ := h
    refine s_ladd C dX5_giveAll_34 o6 ?_
    refine s_lstore (ls' := [(2, 20), (0, l1), (0, l2), (0, l3), (1, (((M 21 l3) * 390625) + (l1 * (PUf l3.toNat)))), (3, 0), (3, 0)]) C dX5_giveAll_35 (by decide) rfl rfl ?_
    refine s_iconst C dX5_giveAll_37 (by decide) ?_
    refine s_iload_n C dX5_giveAll_38 rfl ?_
    refine s_ishl C dX5_giveAll_39 ?_
    refine s_istore (ls' := [(2, 20), (0, l1), (0, l2), (0, l3), (1, (((M 21 l3) * 390625) + (l1 * (PUf l3.toNat)))), (3, 0), (0, (zshl 1 l3))]) C dX5_giveAll_40 (by decide) rfl rfl ?_
    exact h
set_option maxHeartbeats 4000000 in
set_option maxRecDepth 100000 in
theorem B_X5_giveAll_42 {G : GP} {X : BX} {P : Int → NS → MM → Prop} {l1 : Int} {l2 : Int} {l3 : Int} {l4 : Int} {l6 : Int} {w : NS} {M : MM} (C : CX_X5_giveAll G X) (h : ((((zshl 2 l3) ≤ l6) → (inR (l3 + 1)) ∧ A_X5_giveAll_9 G X P l1 l2 (l3 + 1) w M) ∧ ((¬ ((zshl 2 l3) ≤ l6)) → (((l2 < l6) → (inR (l3 + 1)) ∧ A_X5_giveAll_9 G X P l1 l2 (l3 + 1) w M) ∧ ((¬ (l2 < l6)) → (0 ≤ (zxor l6 (zshl 1 l3))) ∧ ((zxor l6 (zshl 1 l3)) < 256) ∧ (inL ((M 23 (zxor l6 (zshl 1 l3))) + l4)) ∧ (0 ≤ l6) ∧ (l6 < 256) ∧ (inR (l6 + 1)) ∧ A_X5_giveAll_42 G X P l1 l2 l3 l4 (l6 + 1) w (up M 23 l6 ((M 23 (zxor l6 (zshl 1 l3))) + l4))))))) : A_X5_giveAll_42 G X P l1 l2 l3 l4 l6 w M := by
  unfold A_X5_giveAll_42
  refine s_iload C dX5_giveAll_42 rfl ?_
  refine s_iconst C dX5_giveAll_44 (by decide) ?_
  refine s_iload_n C dX5_giveAll_45 rfl ?_
  refine s_ishl C dX5_giveAll_46 ?_
  refine s_icmpge C dX5_giveAll_47 rfl (fun hc => ?_) (fun hc => ?_)
  · have h := h.1 hc
    obtain ⟨o1, h⟩ := h
    refine s_iinc (ls' := [(2, 20), (0, l1), (0, l2), (0, (l3 + 1)), (1, l4), (3, 0), (0, l6)]) C dX5_giveAll_83 (by decide) rfl o1 rfl rfl ?_
    refine s_goto C dX5_giveAll_86 rfl ?_
    exact WA.wk h ⟨Or.inr rfl, Or.inr rfl, Or.inr rfl, Or.inr rfl, Or.inl rfl, Or.inl rfl, Or.inl rfl, trivial⟩
  · have h := h.2 hc
    refine s_iload C dX5_giveAll_50 rfl ?_
    refine s_iload_n C dX5_giveAll_52 rfl ?_
    refine s_icmpgt C dX5_giveAll_53 rfl (fun hc => ?_) (fun hc => ?_)
    · have h := h.1 hc
      obtain ⟨o2, h⟩ := h
      refine s_iinc (ls' := [(2, 20), (0, l1), (0, l2), (0, (l3 + 1)), (1, l4), (3, 0), (0, l6)]) C dX5_giveAll_83 (by decide) rfl o2 rfl rfl ?_
      refine s_goto C dX5_giveAll_86 rfl ?_
      exact WA.wk h ⟨Or.inr rfl, Or.inr rfl, Or.inr rfl, Or.inr rfl, Or.inl rfl, Or.inl rfl, Or.inl rfl, trivial⟩
    · have h := h.2 hc
      refine s_aload_n C dX5_giveAll_56 rfl ?_
      refine WA.fix (fun hF3 => ?_)
      refine gf_X5_19 C (sh_20 hF3) dX5_giveAll_57 (fx_20_2 hF3) ?_
      refine s_iload C dX5_giveAll_60 rfl ?_
      refine s_aload_n C dX5_giveAll_62 rfl ?_
      refine gf_X5_19 C (sh_20 hF3) dX5_giveAll_63 (fx_20_2 hF3) ?_
      refine s_iload C dX5_giveAll_66 rfl ?_
      refine s_iconst C dX5_giveAll_68 (by decide) ?_
      refine s_iload_n C dX5_giveAll_69 rfl ?_
      refine s_ishl C dX5_giveAll_70 ?_
      refine s_ixor C dX5_giveAll_71 ?_
      obtain ⟨o4, h⟩ := h
      obtain ⟨o5, h⟩ := h
      refine s_lald (v0 := (M 23 (zxor l6 (zshl 1 l3)))) C (sh_23 hF3) o4 o5 dX5_giveAll_72 rfl ?_
      refine s_lload C dX5_giveAll_73 rfl ?_
      obtain ⟨o6, h⟩ := h
      refine s_ladd C dX5_giveAll_75 o6 ?_
      obtain ⟨o7, h⟩ := h
      obtain ⟨o8, h⟩ := h
      refine s_last C (sh_23 hF3) o7 o8 (fun _ => by decide) dX5_giveAll_76 ?_
      obtain ⟨o9, h⟩ := h
      refine s_iinc (ls' := [(2, 20), (0, l1), (0, l2), (0, l3), (1, l4), (3, 0), (0, (l6 + 1))]) C dX5_giveAll_77 (by decide) rfl o9 rfl rfl ?_
      refine s_goto C dX5_giveAll_80 rfl ?_
      exact h
theorem E_X5_giveAll {G : GP} {l : Launch} {P : Int → NS → MM → Prop} {l1 : Int} {l2 : Int} {w : NS} {M : MM} (h : inR l1 → inR l2 → ∀ X : BX, X.2.1 = l → CX_X5_giveAll G X → A_X5_giveAll_0 G X P l1 l2 w M) : CT_X5_giveAll G l [(2, 20), (0, l1), (0, l2)] w M P :=
  CT.of RX5 "giveAll" (by decide +kernel) rfl rfl rfl (Nat.le_of_ble_eq_true rfl) (fun hr X hX C => h (hr (0, l1) (by simp)) (hr (0, l2) (by simp)) X hX C)
def A_X5_leaveUnread_0 (G : GP) (X : BX) (P : Int → NS → MM → Prop) (l1 : Int) (w : NS) (M : MM) : Prop := WA true G X (QM G X true 4 P) 3 0 [(2, 20), (0, l1), (3, 0)] [] 0 0 w M
def A_X5_leaveUnread_8 (G : GP) (X : BX) (P : Int → NS → MM → Prop) (l1 : Int) (l2 : Int) (w : NS) (M : MM) : Prop := WA true G X (QM G X true 4 P) 3 8 [(2, 20), (0, l1), (0, l2)] [] 0 0 w M
set_option maxHeartbeats 4000000 in
set_option maxRecDepth 100000 in
theorem B_X5_leaveUnread_0 {G : GP} {X : BX} {P : Int → NS → MM → Prop} {l1 : Int} {w : NS} {M : MM} (C : CX_X5_leaveUnread G X) (h : ∃ Q2 : Int → NS → MM → Prop, CT_X5_giveAll G X.2.1 [(2, 20), (0, 4), (0, l1)] w M Q2 ∧ ∀ (z2 : Int) (w2 : NS) (M2 : MM), Q2 z2 w2 M2 → A_X5_leaveUnread_8 G X P l1 0 w2 M2) : A_X5_leaveUnread_0 G X P l1 w M := by
  unfold A_X5_leaveUnread_0
  refine s_aload_n C dX5_leaveUnread_0 rfl ?_
  refine s_iconst C dX5_leaveUnread_1 (by decide) ?_
  refine s_iload_n C dX5_leaveUnread_2 rfl ?_
  refine WA.fix (fun hF1 => ?_)
  obtain ⟨Q2, hKQ2, h⟩ := h
  refine s_callV (ci := 5) (av := [(0, 4), (0, l1)]) (rest := []) (mc := 0) (ms := 0) C dX5_leaveUnread_3 lk_X5_22 (sh_20 hF1) (by decide) rfl rfl rfl (Nat.le_of_ble_eq_true rfl) (by decide) (by decide) hKQ2 (fun z2 w2 M2 hq => ?_)
  have h := h z2 w2 M2 hq
  refine s_iconst C dX5_leaveUnread_6 (by decide) ?_
  refine s_istore_n (ls' := [(2, 20), (0, l1), (0, 0)]) C dX5_leaveUnread_7 (by decide) rfl rfl ?_
  exact h
set_option maxHeartbeats 4000000 in
set_option maxRecDepth 100000 in
theorem B_X5_leaveUnread_8 {G : GP} {X : BX} {P : Int → NS → MM → Prop} {l1 : Int} {l2 : Int} {w : NS} {M : MM} (C : CX_X5_leaveUnread G X) (h : (((l1 < l2) → P 0 w M) ∧ ((¬ (l1 < l2)) → (0 ≤ l2) ∧ (l2 < 256) ∧ (inR (l2 + 1)) ∧ A_X5_leaveUnread_8 G X P l1 (l2 + 1) w (up M 22 l2 (M 23 l2))))) : A_X5_leaveUnread_8 G X P l1 l2 w M := by
  unfold A_X5_leaveUnread_8
  refine s_iload_n C dX5_leaveUnread_8 rfl ?_
  refine s_iload_n C dX5_leaveUnread_9 rfl ?_
  refine s_icmpgt C dX5_leaveUnread_10 rfl (fun hc => ?_) (fun hc => ?_)
  · have h := h.1 hc
    exact s_vreturn C dX5_leaveUnread_31 h
  · have h := h.2 hc
    refine s_aload_n C dX5_leaveUnread_13 rfl ?_
    refine WA.fix (fun hF1 => ?_)
    refine gf_X5_15 C (sh_20 hF1) dX5_leaveUnread_14 (fx_20_1 hF1) ?_
    refine s_iload_n C dX5_leaveUnread_17 rfl ?_
    refine s_aload_n C dX5_leaveUnread_18 rfl ?_
    refine gf_X5_19 C (sh_20 hF1) dX5_leaveUnread_19 (fx_20_2 hF1) ?_
    refine s_iload_n C dX5_leaveUnread_22 rfl ?_
    obtain ⟨o2, h⟩ := h
    obtain ⟨o3, h⟩ := h
    refine s_lald (v0 := (M 23 l2)) C (sh_23 hF1) o2 o3 dX5_leaveUnread_23 rfl ?_
    refine s_last C (sh_22 hF1) o2 o3 (fun _ => by decide) dX5_leaveUnread_24 ?_
    obtain ⟨o4, h⟩ := h
    refine s_iinc (ls' := [(2, 20), (0, l1), (0, (l2 + 1))]) C dX5_leaveUnread_25 (by decide) rfl o4 rfl rfl ?_
    refine s_goto C dX5_leaveUnread_28 rfl ?_
    exact h
theorem E_X5_leaveUnread {G : GP} {l : Launch} {P : Int → NS → MM → Prop} {l1 : Int} {w : NS} {M : MM} (h : inR l1 → ∀ X : BX, X.2.1 = l → CX_X5_leaveUnread G X → A_X5_leaveUnread_0 G X P l1 w M) : CT_X5_leaveUnread G l [(2, 20), (0, l1)] w M P :=
  CT.of RX5 "leaveUnread" (by decide +kernel) rfl rfl rfl (Nat.le_of_ble_eq_true rfl) (fun hr X hX C => h (hr (0, l1) (by simp)) X hX C)
def A_X5_offerTo_0 (G : GP) (X : BX) (P : Int → NS → MM → Prop) (l1 : Int) (l2 : Int) (l3 : Int) (w : NS) (M : MM) : Prop := WA true G X (QM G X true 4 P) 6 0 [(2, 20), (2, l1), (0, l2), (0, l3), (3, 0), (3, 0)] [] 0 0 w M
def A_X5_offerTo_9 (G : GP) (X : BX) (P : Int → NS → MM → Prop) (l1 : Int) (l3 : Int) (l4 : Int) (w : NS) (M : MM) : Prop := WA true G X (QM G X true 4 P) 6 9 [(2, 20), (2, l1), (3, 0), (0, l3), (0, l4), (3, 0)] [] 0 0 w M
def A_X5_offerTo_18 (G : GP) (X : BX) (P : Int → NS → MM → Prop) (l1 : Int) (l3 : Int) (l4 : Int) (l5 : Int) (w : NS) (M : MM) : Prop := WA true G X (QM G X true 4 P) 6 18 [(2, 20), (2, l1), (3, 0), (0, l3), (0, l4), (0, l5)] [] 0 0 w M
set_option maxHeartbeats 4000000 in
set_option maxRecDepth 100000 in
theorem B_X5_offerTo_0 {G : GP} {X : BX} {P : Int → NS → MM → Prop} {l1 : Int} {l2 : Int} {l3 : Int} {w : NS} {M : MM} (C : CX_X5_offerTo G X) (h : ∃ Q2 : Int → NS → MM → Prop, CT_X5_giveAll G X.2.1 [(2, 20), (0, l2), (0, l3)] w M Q2 ∧ ∀ (z2 : Int) (w2 : NS) (M2 : MM), Q2 z2 w2 M2 → A_X5_offerTo_9 G X P l1 l3 l3 w2 M2) : A_X5_offerTo_0 G X P l1 l2 l3 w M := by
  unfold A_X5_offerTo_0
  refine s_aload_n C dX5_offerTo_0 rfl ?_
  refine s_iload_n C dX5_offerTo_1 rfl ?_
  refine s_iload_n C dX5_offerTo_2 rfl ?_
  refine WA.fix (fun hF1 => ?_)
  obtain ⟨Q2, hKQ2, h⟩ := h
  refine s_callV (ci := 5) (av := [(0, l2), (0, l3)]) (rest := []) (mc := 0) (ms := 0) C dX5_offerTo_3 lk_X5_22 (sh_20 hF1) (by decide) rfl rfl rfl (Nat.le_of_ble_eq_true rfl) (by decide) (by decide) hKQ2 (fun z2 w2 M2 hq => ?_)
  have h := h z2 w2 M2 hq
  refine s_iload_n C dX5_offerTo_6 rfl ?_
  refine s_istore (ls' := [(2, 20), (2, l1), (0, l2), (0, l3), (0, l3), (3, 0)]) C dX5_offerTo_7 (by decide) rfl rfl ?_
  exact WA.wk h ⟨Or.inr rfl, Or.inr rfl, Or.inl rfl, Or.inr rfl, Or.inr rfl, Or.inl rfl, trivial⟩
set_option maxHeartbeats 4000000 in
set_option maxRecDepth 100000 in
theorem B_X5_offerTo_9 {G : GP} {X : BX} {P : Int → NS → MM → Prop} {l1 : Int} {l3 : Int} {l4 : Int} {w : NS} {M : MM} (C : CX_X5_offerTo G X) (h : (((l4 ≤ 0) → P 0 w M) ∧ ((¬ (l4 ≤ 0)) → A_X5_offerTo_18 G X P l1 l3 l4 l4 w M))) : A_X5_offerTo_9 G X P l1 l3 l4 w M := by
  unfold A_X5_offerTo_9
  refine s_iload C dX5_offerTo_9 rfl ?_
  refine s_ifle C dX5_offerTo_11 rfl (fun hc => ?_) (fun hc => ?_)
  · have h := h.1 hc
    exact s_vreturn C dX5_offerTo_98 h
  · have h := h.2 hc
    refine s_iload C dX5_offerTo_14 rfl ?_
    refine s_istore (ls' := [(2, 20), (2, l1), (3, 0), (0, l3), (0, l4), (0, l4)]) C dX5_offerTo_16 (by decide) rfl rfl ?_
    exact h
set_option maxHeartbeats 4000000 in
set_option maxRecDepth 100000 in
theorem B_X5_offerTo_18 {G : GP} {X : BX} {P : Int → NS → MM → Prop} {l1 : Int} {l3 : Int} {l4 : Int} {l5 : Int} {w : NS} {M : MM} (C : CX_X5_offerTo G X) (h : (((l5 ≤ 0) → (inR (l4 - 1)) ∧ A_X5_offerTo_9 G X P l1 l3 (zand (l4 - 1) l3) w M) ∧ ((¬ (l5 ≤ 0)) → (0 ≤ l5) ∧ (l5 < 16777216) ∧ (w.2 l1 = (8, 4)) ∧ (inR ((popc l5) * (M l1 0))) ∧ ((((M l1 1) < ((popc l5) * (M l1 0))) → (inR (l5 - 1)) ∧ A_X5_offerTo_18 G X P l1 l3 l4 (zand (l5 - 1) l4) w M) ∧ ((¬ ((M l1 1) < ((popc l5) * (M l1 0)))) → (0 ≤ l4) ∧ (l4 < 256) ∧ (l5 < 256) ∧ (0 ≤ (zxor l4 l5)) ∧ ((zxor l4 l5) < 256) ∧ (inL ((M 23 l5) + (M 22 (zxor l4 l5)))) ∧ (inR (l5 - 1)) ∧ A_X5_offerTo_18 G X P l1 l3 l4 (zand (l5 - 1) l4) w (up M 22 l4 (min (M 22 l4) ((M 23 l5) + (M 22 (zxor l4 l5)))))))))) : A_X5_offerTo_18 G X P l1 l3 l4 l5 w M := by
  unfold A_X5_offerTo_18
  refine s_iload C dX5_offerTo_18 rfl ?_
  refine s_ifle C dX5_offerTo_20 rfl (fun hc => ?_) (fun hc => ?_)
  · have h := h.1 hc
    refine s_iload C dX5_offerTo_87 rfl ?_
    refine s_iconst C dX5_offerTo_89 (by decide) ?_
    obtain ⟨o1, h⟩ := h
    refine s_isub C dX5_offerTo_90 o1 ?_
    refine s_iload_n C dX5_offerTo_91 rfl ?_
    refine s_iand C dX5_offerTo_92 ?_
    refine s_istore (ls' := [(2, 20), (2, l1), (3, 0), (0, l3), (0, (zand (l4 - 1) l3)), (0, l5)]) C dX5_offerTo_93 (by decide) rfl rfl ?_
    refine s_goto C dX5_offerTo_95 rfl ?_
    exact WA.wk h ⟨Or.inr rfl, Or.inr rfl, Or.inl rfl, Or.inr rfl, Or.inr rfl, Or.inl rfl, trivial⟩
  · have h := h.2 hc
    refine s_iload C dX5_offerTo_23 rfl ?_
    obtain ⟨o2, h⟩ := h
    obtain ⟨o3, h⟩ := h
    refine s_callS (av := [(0, l5)]) (rest := []) (mc := 0) (ms := 0) C dX5_offerTo_25 lk_X5_26 rfl rfl (Nat.le_of_ble_eq_true rfl) (by decide) (by decide) (pc_J6_bitCount o2 o3) (fun z4 wz4 Mz4 hq => ?_)
    obtain ⟨hq1, hq2, hq3⟩ := hq
    have hq2 := hq2.symm
    have hq3 := hq3.symm
    subst hq1 hq2 hq3
    refine s_aload_n C dX5_offerTo_28 rfl ?_
    obtain ⟨o5, h⟩ := h
    refine gf_X5_32 (v0 := (M l1 0)) C o5 dX5_offerTo_29 rfl ?_
    obtain ⟨o6, h⟩ := h
    refine s_imul C dX5_offerTo_32 o6 ?_
    refine s_aload_n C dX5_offerTo_33 rfl ?_
    refine gf_X5_38 (v0 := (M l1 1)) C o5 dX5_offerTo_34 rfl ?_
    refine s_icmpgt C dX5_offerTo_37 rfl (fun hc => ?_) (fun hc => ?_)
    · have h := h.1 hc
      refine s_iload C dX5_offerTo_75 rfl ?_
      refine s_iconst C dX5_offerTo_77 (by decide) ?_
      obtain ⟨o7, h⟩ := h
      refine s_isub C dX5_offerTo_78 o7 ?_
      refine s_iload C dX5_offerTo_79 rfl ?_
      refine s_iand C dX5_offerTo_81 ?_
      refine s_istore (ls' := [(2, 20), (2, l1), (3, 0), (0, l3), (0, l4), (0, (zand (l5 - 1) l4))]) C dX5_offerTo_82 (by decide) rfl rfl ?_
      refine s_goto C dX5_offerTo_84 rfl ?_
      exact h
    · have h := h.2 hc
      refine s_aload_n C dX5_offerTo_40 rfl ?_
      refine WA.fix (fun hF8 => ?_)
      refine gf_X5_15 C (sh_20 hF8) dX5_offerTo_41 (fx_20_1 hF8) ?_
      refine s_iload C dX5_offerTo_44 rfl ?_
      refine s_aload_n C dX5_offerTo_46 rfl ?_
      refine gf_X5_15 C (sh_20 hF8) dX5_offerTo_47 (fx_20_1 hF8) ?_
      refine s_iload C dX5_offerTo_50 rfl ?_
      obtain ⟨o9, h⟩ := h
      obtain ⟨o10, h⟩ := h
      refine s_lald (v0 := (M 22 l4)) C (sh_22 hF8) o9 o10 dX5_offerTo_52 rfl ?_
      refine s_aload_n C dX5_offerTo_53 rfl ?_
      refine gf_X5_19 C (sh_20 hF8) dX5_offerTo_54 (fx_20_2 hF8) ?_
      refine s_iload C dX5_offerTo_57 rfl ?_
      obtain ⟨o11, h⟩ := h
      refine s_lald (v0 := (M 23 l5)) C (sh_23 hF8) o2 o11 dX5_offerTo_59 rfl ?_
      refine s_aload_n C dX5_offerTo_60 rfl ?_
      refine gf_X5_15 C (sh_20 hF8) dX5_offerTo_61 (fx_20_1 hF8) ?_
      refine s_iload C dX5_offerTo_64 rfl ?_
      refine s_iload C dX5_offerTo_66 rfl ?_
      refine s_ixor C dX5_offerTo_68 ?_
      obtain ⟨o12, h⟩ := h
      obtain ⟨o13, h⟩ := h
      refine s_lald (v0 := (M 22 (zxor l4 l5))) C (sh_22 hF8) o12 o13 dX5_offerTo_69 rfl ?_
      obtain ⟨o14, h⟩ := h
      refine s_ladd C dX5_offerTo_70 o14 ?_
      refine s_lmin (st := [(0, l4), (2, 22)]) C dX5_offerTo_71 wd_708 (Nat.le_of_ble_eq_true rfl) (by decide) (by decide) ?_
      refine s_last C (sh_22 hF8) o9 o10 (fun _ => by decide) dX5_offerTo_74 ?_
      refine s_iload C dX5_offerTo_75 rfl ?_
      refine s_iconst C dX5_offerTo_77 (by decide) ?_
      obtain ⟨o15, h⟩ := h
      refine s_isub C dX5_offerTo_78 o15 ?_
      refine s_iload C dX5_offerTo_79 rfl ?_
      refine s_iand C dX5_offerTo_81 ?_
      refine s_istore (ls' := [(2, 20), (2, l1), (3, 0), (0, l3), (0, l4), (0, (zand (l5 - 1) l4))]) C dX5_offerTo_82 (by decide) rfl rfl ?_
      refine s_goto C dX5_offerTo_84 rfl ?_
      exact h
theorem E_X5_offerTo {G : GP} {l : Launch} {P : Int → NS → MM → Prop} {l1 : Int} {l2 : Int} {l3 : Int} {w : NS} {M : MM} (h : inR l2 → inR l3 → ∀ X : BX, X.2.1 = l → CX_X5_offerTo G X → A_X5_offerTo_0 G X P l1 l2 l3 w M) : CT_X5_offerTo G l [(2, 20), (2, l1), (0, l2), (0, l3)] w M P :=
  CT.of RX5 "offerTo" (by decide +kernel) rfl rfl rfl (Nat.le_of_ble_eq_true rfl) (fun hr X hX C => h (hr (0, l2) (by simp)) (hr (0, l3) (by simp)) X hX C)
def A_X9_leastParting_0 (G : GP) (X : BX) (P : Int → NS → MM → Prop) (l1 : Int) (w : NS) (M : MM) : Prop := WA true G X (QM G X true 1 P) 4 0 [(2, 1), (0, l1), (3, 0), (3, 0)] [] 0 0 w M
def A_X9_leastParting_2 (G : GP) (X : BX) (P : Int → NS → MM → Prop) (l1 : Int) (l2 : Int) (w : NS) (M : MM) : Prop := WA true G X (QM G X true 1 P) 4 2 [(2, 1), (0, l1), (0, l2), (3, 0)] [] 0 0 w M
def A_X9_leastParting_41 (G : GP) (X : BX) (P : Int → NS → MM → Prop) (l1 : Int) (l2 : Int) (w : NS) (M : MM) : Prop := WA true G X (QM G X true 1 P) 4 41 [(2, 1), (0, l1), (0, l2), (3, 0)] [] 0 0 w M
def A_X9_leastParting_47 (G : GP) (X : BX) (P : Int → NS → MM → Prop) (l1 : Int) (l2 : Int) (l3 : Int) (w : NS) (M : MM) : Prop := WA true G X (QM G X true 1 P) 4 47 [(2, 1), (0, l1), (0, l2), (0, l3)] [] 0 0 w M
set_option maxHeartbeats 4000000 in
set_option maxRecDepth 100000 in
theorem B_X9_leastParting_0 {G : GP} {X : BX} {P : Int → NS → MM → Prop} {l1 : Int} {w : NS} {M : MM} (C : CX_X9_leastParting G X) (h : A_X9_leastParting_2 G X P l1 0 w M) : A_X9_leastParting_0 G X P l1 w M := by
  unfold A_X9_leastParting_0
  refine s_iconst C dX9_leastParting_0 (by decide) ?_
  refine s_istore_n (ls' := [(2, 1), (0, l1), (0, 0), (3, 0)]) C dX9_leastParting_1 (by decide) rfl rfl ?_
  exact h
set_option maxHeartbeats 4000000 in
set_option maxRecDepth 100000 in
theorem B_X9_leastParting_2 {G : GP} {X : BX} {P : Int → NS → MM → Prop} {l1 : Int} {l2 : Int} {w : NS} {M : MM} (C : CX_X9_leastParting G X) (h : ((((M 1 2) ≤ l2) → ∃ Q2 : Int → NS → MM → Prop, CT_X5_leaveUnread G X.2.1 [(2, 20), (0, l1)] w M Q2 ∧ ∀ (z2 : Int) (w2 : NS) (M2 : MM), Q2 z2 w2 M2 → A_X9_leastParting_41 G X P l1 3 w2 M2) ∧ ((¬ ((M 1 2) ≤ l2)) → (0 ≤ l2) ∧ (l2 < 8) ∧ (inR (l2 + 1)) ∧ A_X9_leastParting_2 G X P l1 (l2 + 1) w (up M 21 l2 (M 2 3))))) : A_X9_leastParting_2 G X P l1 l2 w M := by
  unfold A_X9_leastParting_2
  refine s_iload_n C dX9_leastParting_2 rfl ?_
  refine s_aload_n C dX9_leastParting_3 rfl ?_
  refine WA.fix (fun hF1 => ?_)
  refine gf_X9_19 (v0 := (M 1 2)) C (sh_1 hF1) dX9_leastParting_4 rfl ?_
  refine s_icmpge C dX9_leastParting_7 rfl (fun hc => ?_) (fun hc => ?_)
  · have h := h.1 hc
    refine s_aload_n C dX9_leastParting_31 rfl ?_
    refine gf_X9_86 C (sh_1 hF1) dX9_leastParting_32 (fx_1_15 hF1) ?_
    refine s_iload_n C dX9_leastParting_35 rfl ?_
    obtain ⟨Q2, hKQ2, h⟩ := h
    refine s_callV (ci := 5) (av := [(0, l1)]) (rest := []) (mc := 0) (ms := 0) C dX9_leastParting_36 lk_X9_347 (sh_20 hF1) (by decide) rfl rfl rfl (Nat.le_of_ble_eq_true rfl) (by decide) (by decide) hKQ2 (fun z2 w2 M2 hq => ?_)
    have h := h z2 w2 M2 hq
    refine s_iconst C dX9_leastParting_39 (by decide) ?_
    refine s_istore_n (ls' := [(2, 1), (0, l1), (0, 3), (3, 0)]) C dX9_leastParting_40 (by decide) rfl rfl ?_
    exact h
  · have h := h.2 hc
    refine s_aload_n C dX9_leastParting_10 rfl ?_
    refine gf_X9_86 C (sh_1 hF1) dX9_leastParting_11 (fx_1_15 hF1) ?_
    refine gf_X9_344 C (sh_20 hF1) dX9_leastParting_14 (fx_20_0 hF1) ?_
    refine s_iload_n C dX9_leastParting_17 rfl ?_
    refine s_aload_n C dX9_leastParting_18 rfl ?_
    refine gf_X9_7 C (sh_1 hF1) dX9_leastParting_19 (fx_1_0 hF1) ?_
    refine s_iconst C dX9_leastParting_22 (by decide) ?_
    refine s_iald (v0 := (M 2 3)) C (sh_2 hF1) (by decide) (by decide) dX9_leastParting_23 rfl ?_
    obtain ⟨o3, h⟩ := h
    obtain ⟨o4, h⟩ := h
    refine s_iast C (sh_21 hF1) o3 o4 (fun _ => by decide) dX9_leastParting_24 ?_
    obtain ⟨o5, h⟩ := h
    refine s_iinc (ls' := [(2, 1), (0, l1), (0, (l2 + 1)), (3, 0)]) C dX9_leastParting_25 (by decide) rfl o5 rfl rfl ?_
    refine s_goto C dX9_leastParting_28 rfl ?_
    exact h
set_option maxHeartbeats 4000000 in
set_option maxRecDepth 100000 in
theorem B_X9_leastParting_41 {G : GP} {X : BX} {P : Int → NS → MM → Prop} {l1 : Int} {l2 : Int} {w : NS} {M : MM} (C : CX_X9_leastParting G X) (h : (((l2 < 0) → (0 ≤ l1) ∧ (l1 < 256) ∧ P (M 22 l1) w M) ∧ ((¬ (l2 < 0)) → A_X9_leastParting_47 G X P l1 l2 0 w M))) : A_X9_leastParting_41 G X P l1 l2 w M := by
  unfold A_X9_leastParting_41
  refine s_iload_n C dX9_leastParting_41 rfl ?_
  refine s_iflt C dX9_leastParting_42 rfl (fun hc => ?_) (fun hc => ?_)
  · have h := h.1 hc
    refine s_aload_n C dX9_leastParting_110 rfl ?_
    refine WA.fix (fun hF1 => ?_)
    refine gf_X9_86 C (sh_1 hF1) dX9_leastParting_111 (fx_1_15 hF1) ?_
    refine gf_X9_355 C (sh_20 hF1) dX9_leastParting_114 (fx_20_1 hF1) ?_
    refine s_iload_n C dX9_leastParting_117 rfl ?_
    obtain ⟨o2, h⟩ := h
    obtain ⟨o3, h⟩ := h
    refine s_lald (v0 := (M 22 l1)) C (sh_22 hF1) o2 o3 dX9_leastParting_118 rfl ?_
    exact s_lreturn C dX9_leastParting_119 h
  · have h := h.2 hc
    refine s_iconst C dX9_leastParting_45 (by decide) ?_
    refine s_istore_n (ls' := [(2, 1), (0, l1), (0, l2), (0, 0)]) C dX9_leastParting_46 (by decide) rfl rfl ?_
    exact h
set_option maxHeartbeats 4000000 in
set_option maxRecDepth 100000 in
theorem B_X9_leastParting_47 {G : GP} {X : BX} {P : Int → NS → MM → Prop} {l1 : Int} {l2 : Int} {l3 : Int} {w : NS} {M : MM} (C : CX_X9_leastParting G X) (h : ((((M 1 2) ≤ l3) → (0 ≤ l2) ∧ (l2 < 4) ∧ ∃ Q4 : Int → NS → MM → Prop, CT_X5_offerTo G X.2.1 [(2, 20), (2, (M 19 l2)), (0, l2), (0, l1)] w M Q4 ∧ ∀ (z4 : Int) (w4 : NS) (M4 : MM), Q4 z4 w4 M4 → (inR (l2 + (-1))) ∧ A_X9_leastParting_41 G X P l1 (l2 + (-1)) w4 M4) ∧ ((¬ ((M 1 2) ≤ l3)) → (0 ≤ l2) ∧ (l2 < 4) ∧ (w.2 (M 19 l2) = (8, 4)) ∧ (0 ≤ l3) ∧ (l3 < 8) ∧ (w.2 (M 3 l3) = (5, 5)) ∧ (0 ≤ (M (M 3 l3) 1)) ∧ ((M (M 3 l3) 1) < 10) ∧ (inR (l3 + 1)) ∧ A_X9_leastParting_47 G X P l1 l2 (l3 + 1) w (up M 21 l3 (M ((M 19 l2) + 1) (M (M 3 l3) 1)))))) : A_X9_leastParting_47 G X P l1 l2 l3 w M := by
  unfold A_X9_leastParting_47
  refine s_iload_n C dX9_leastParting_47 rfl ?_
  refine s_aload_n C dX9_leastParting_48 rfl ?_
  refine WA.fix (fun hF1 => ?_)
  refine gf_X9_19 (v0 := (M 1 2)) C (sh_1 hF1) dX9_leastParting_49 rfl ?_
  refine s_icmpge C dX9_leastParting_52 rfl (fun hc => ?_) (fun hc => ?_)
  · have h := h.1 hc
    refine s_aload_n C dX9_leastParting_89 rfl ?_
    refine gf_X9_86 C (sh_1 hF1) dX9_leastParting_90 (fx_1_15 hF1) ?_
    refine s_aload_n C dX9_leastParting_93 rfl ?_
    refine gf_X9_79 C (sh_1 hF1) dX9_leastParting_94 (fx_1_14 hF1) ?_
    refine s_iload_n C dX9_leastParting_97 rfl ?_
    obtain ⟨o2, h⟩ := h
    obtain ⟨o3, h⟩ := h
    refine s_aald (v0 := (M 19 l2)) (t0 := 7) C (sh_19 hF1) (by decide) rfl o2 o3 dX9_leastParting_98 rfl ?_
    refine s_iload_n C dX9_leastParting_99 rfl ?_
    refine s_iload_n C dX9_leastParting_100 rfl ?_
    obtain ⟨Q4, hKQ4, h⟩ := h
    refine s_callV (ci := 5) (av := [(2, (M 19 l2)), (0, l2), (0, l1)]) (rest := []) (mc := 0) (ms := 0) C dX9_leastParting_101 lk_X9_351 (sh_20 hF1) (by decide) rfl rfl rfl (Nat.le_of_ble_eq_true rfl) (by decide) (by decide) hKQ4 (fun z4 w4 M4 hq => ?_)
    have h := h z4 w4 M4 hq
    obtain ⟨o5, h⟩ := h
    refine s_iinc (ls' := [(2, 1), (0, l1), (0, (l2 + (-1))), (0, l3)]) C dX9_leastParting_104 (by decide) rfl o5 rfl rfl ?_
    refine s_goto C dX9_leastParting_107 rfl ?_
    exact WA.wk h ⟨Or.inr rfl, Or.inr rfl, Or.inr rfl, Or.inl rfl, trivial⟩
  · have h := h.2 hc
    refine s_aload_n C dX9_leastParting_55 rfl ?_
    refine gf_X9_86 C (sh_1 hF1) dX9_leastParting_56 (fx_1_15 hF1) ?_
    refine gf_X9_344 C (sh_20 hF1) dX9_leastParting_59 (fx_20_0 hF1) ?_
    refine s_iload_n C dX9_leastParting_62 rfl ?_
    refine s_aload_n C dX9_leastParting_63 rfl ?_
    refine gf_X9_79 C (sh_1 hF1) dX9_leastParting_64 (fx_1_14 hF1) ?_
    refine s_iload_n C dX9_leastParting_67 rfl ?_
    obtain ⟨o6, h⟩ := h
    obtain ⟨o7, h⟩ := h
    refine s_aald (v0 := (M 19 l2)) (t0 := 7) C (sh_19 hF1) (by decide) rfl o6 o7 dX9_leastParting_68 rfl ?_
    obtain ⟨o8, h⟩ := h
    have hd9 := FixA.dy (t := 8) (n := 4) (k := 2) (m := 10) hF1 (by decide) o8
    refine gf_X9_289 C o8 dX9_leastParting_69 hd9.1 ?_
    refine s_aload_n C dX9_leastParting_72 rfl ?_
    refine gf_X9_15 C (sh_1 hF1) dX9_leastParting_73 (fx_1_1 hF1) ?_
    refine s_iload_n C dX9_leastParting_76 rfl ?_
    obtain ⟨o10, h⟩ := h
    obtain ⟨o11, h⟩ := h
    refine s_aald (v0 := (M 3 l3)) (t0 := 5) C (sh_3 hF1) (by decide) rfl o10 o11 dX9_leastParting_77 rfl ?_
    obtain ⟨o12, h⟩ := h
    refine gf_X9_128 (v0 := (M (M 3 l3) 1)) C o12 dX9_leastParting_78 rfl ?_
    obtain ⟨o13, h⟩ := h
    obtain ⟨o14, h⟩ := h
    refine s_iald (v0 := (M ((M 19 l2) + 1) (M (M 3 l3) 1))) C hd9.2 o13 o14 dX9_leastParting_81 rfl ?_
    refine s_iast C (sh_21 hF1) o10 o11 (fun _ => by decide) dX9_leastParting_82 ?_
    obtain ⟨o15, h⟩ := h
    refine s_iinc (ls' := [(2, 1), (0, l1), (0, l2), (0, (l3 + 1))]) C dX9_leastParting_83 (by decide) rfl o15 rfl rfl ?_
    refine s_goto C dX9_leastParting_86 rfl ?_
    exact h
theorem E_X9_leastParting {G : GP} {l : Launch} {P : Int → NS → MM → Prop} {l1 : Int} {w : NS} {M : MM} (h : inR l1 → ∀ X : BX, X.2.1 = l → CX_X9_leastParting G X → A_X9_leastParting_0 G X P l1 w M) : CT_X9_leastParting G l [(2, 1), (0, l1)] w M P :=
  CT.of RX9 "leastParting" (by decide +kernel) rfl rfl rfl (Nat.le_of_ble_eq_true rfl) (fun hr X hX C => h (hr (0, l1) (by simp)) X hX C)
def A_X5_sumOf_0 (G : GP) (X : BX) (P : Int → NS → MM → Prop) (l0 : Int) (w : NS) (M : MM) : Prop := WA true G X (QM G X true 0 P) 2 0 [(1, l0), (3, 0)] [] 0 0 w M
set_option maxHeartbeats 4000000 in
set_option maxRecDepth 100000 in
theorem B_X5_sumOf_0 {G : GP} {X : BX} {P : Int → NS → MM → Prop} {l0 : Int} {w : NS} {M : MM} (C : CX_X5_sumOf G X) (h : (0 ≤ l0) ∧ (inR (l0 / 390625)) ∧ P (l0 / 390625) w M) : A_X5_sumOf_0 G X P l0 w M := by
  unfold A_X5_sumOf_0
  refine s_lload_n C dX5_sumOf_0 rfl ?_
  refine s_ldc2 (z := 390625) C dX5_sumOf_1 (mG (wd_700) rfl) ⟨rfl, by decide⟩ ?_
  obtain ⟨o1, h⟩ := h
  refine s_ldiv C dX5_sumOf_4 o1 (by decide) ?_
  obtain ⟨o2, h⟩ := h
  refine s_l2i C dX5_sumOf_5 o2 ?_
  exact s_ireturn C dX5_sumOf_6 h
theorem E_X5_sumOf {G : GP} {l : Launch} {P : Int → NS → MM → Prop} {l0 : Int} {w : NS} {M : MM} (h : inL l0 → ∀ X : BX, X.2.1 = l → CX_X5_sumOf G X → A_X5_sumOf_0 G X P l0 w M) : CT_X5_sumOf G l [(1, l0)] w M P :=
  CT.of RX5 "sumOf" (by decide +kernel) rfl rfl rfl (Nat.le_of_ble_eq_true rfl) (fun hr X hX C => h (hr (1, l0) (by simp)) X hX C)
def A_X5_readerOf_0 (G : GP) (X : BX) (P : Int → NS → MM → Prop) (l0 : Int) (l2 : Int) (w : NS) (M : MM) : Prop := WA true G X (QM G X true 0 P) 6 0 [(1, l0), (3, 0), (0, l2), (3, 0), (3, 0), (3, 0)] [] 0 0 w M
def A_X5_readerOf_6 (G : GP) (X : BX) (P : Int → NS → MM → Prop) (l2 : Int) (l3 : Int) (l5 : Int) (w : NS) (M : MM) : Prop := WA true G X (QM G X true 0 P) 6 6 [(3, 0), (3, 0), (0, l2), (1, l3), (3, 0), (0, l5)] [] 0 0 w M
set_option maxHeartbeats 4000000 in
set_option maxRecDepth 100000 in
theorem B_X5_readerOf_0 {G : GP} {X : BX} {P : Int → NS → MM → Prop} {l0 : Int} {l2 : Int} {w : NS} {M : MM} (C : CX_X5_readerOf G X) (h : A_X5_readerOf_6 G X P l2 l0 7 w M) : A_X5_readerOf_0 G X P l0 l2 w M := by
  unfold A_X5_readerOf_0
  refine s_lload_n C dX5_readerOf_0 rfl ?_
  refine s_lstore_n (ls' := [(1, l0), (3, 0), (0, l2), (1, l0), (3, 0), (3, 0)]) C dX5_readerOf_1 (by decide) rfl rfl ?_
  refine s_bipush C dX5_readerOf_2 ⟨rfl, by decide, by decide⟩ ?_
  refine s_istore (ls' := [(1, l0), (3, 0), (0, l2), (1, l0), (3, 0), (0, 7)]) C dX5_readerOf_4 (by decide) rfl rfl ?_
  exact WA.wk h ⟨Or.inl rfl, Or.inl rfl, Or.inr rfl, Or.inr rfl, Or.inl rfl, Or.inr rfl, trivial⟩
set_option maxHeartbeats 4000000 in
set_option maxRecDepth 100000 in
theorem B_X5_readerOf_6 {G : GP} {X : BX} {P : Int → NS → MM → Prop} {l2 : Int} {l3 : Int} {l5 : Int} {w : NS} {M : MM} (C : CX_X5_readerOf G X) (h : (((l5 ≤ l2) → (0 ≤ l3) ∧ (inR (l3 % 5)) ∧ P (l3 % 5) w M) ∧ ((¬ (l5 ≤ l2)) → (0 ≤ l3) ∧ (inR (l5 + (-1))) ∧ A_X5_readerOf_6 G X P l2 (l3 / 5) (l5 + (-1)) w M))) : A_X5_readerOf_6 G X P l2 l3 l5 w M := by
  unfold A_X5_readerOf_6
  refine s_iload C dX5_readerOf_6 rfl ?_
  refine s_iload_n C dX5_readerOf_8 rfl ?_
  refine s_icmple C dX5_readerOf_9 rfl (fun hc => ?_) (fun hc => ?_)
  · have h := h.1 hc
    refine s_lload_n C dX5_readerOf_24 rfl ?_
    refine s_ldc2 (z := 5) C dX5_readerOf_25 (mG (wd_717) rfl) ⟨rfl, by decide⟩ ?_
    obtain ⟨o1, h⟩ := h
    refine s_lrem C dX5_readerOf_28 o1 (by decide) ?_
    obtain ⟨o2, h⟩ := h
    refine s_l2i C dX5_readerOf_29 o2 ?_
    exact s_ireturn C dX5_readerOf_30 h
  · have h := h.2 hc
    refine s_lload_n C dX5_readerOf_12 rfl ?_
    refine s_ldc2 (z := 5) C dX5_readerOf_13 (mG (wd_717) rfl) ⟨rfl, by decide⟩ ?_
    obtain ⟨o3, h⟩ := h
    refine s_ldiv C dX5_readerOf_16 o3 (by decide) ?_
    refine s_lstore_n (ls' := [(3, 0), (3, 0), (0, l2), (1, (l3 / 5)), (3, 0), (0, l5)]) C dX5_readerOf_17 (by decide) rfl rfl ?_
    obtain ⟨o4, h⟩ := h
    refine s_iinc (ls' := [(3, 0), (3, 0), (0, l2), (1, (l3 / 5)), (3, 0), (0, (l5 + (-1)))]) C dX5_readerOf_18 (by decide) rfl o4 rfl rfl ?_
    refine s_goto C dX5_readerOf_21 rfl ?_
    exact h
theorem E_X5_readerOf {G : GP} {l : Launch} {P : Int → NS → MM → Prop} {l0 : Int} {l2 : Int} {w : NS} {M : MM} (h : inL l0 → inR l2 → ∀ X : BX, X.2.1 = l → CX_X5_readerOf G X → A_X5_readerOf_0 G X P l0 l2 w M) : CT_X5_readerOf G l [(1, l0), (0, l2)] w M P :=
  CT.of RX5 "readerOf" (by decide +kernel) rfl rfl rfl (Nat.le_of_ble_eq_true rfl) (fun hr X hX C => h (hr (1, l0) (by simp)) (hr (0, l2) (by simp)) X hX C)
def A_X9_parted_0 (G : GP) (X : BX) (P : Int → NS → MM → Prop) (l1 : Int) (l2 : Int) (w : NS) (M : MM) : Prop := WA true G X (QM G X true 0 P) 5 0 [(2, 1), (0, l1), (0, l2), (3, 0), (3, 0)] [] 0 0 w M
set_option maxHeartbeats 4000000 in
set_option maxRecDepth 100000 in
theorem B_X9_parted_0 {G : GP} {X : BX} {P : Int → NS → MM → Prop} {l1 : Int} {l2 : Int} {w : NS} {M : MM} (C : CX_X9_parted G X) (h : (inR ((zshl 1 (M 1 2)) - 1)) ∧ ((((0 ≤ l1 ∧ l1 ≤ ((zshl 1 (M 1 2)) - 1))) → (((l2 = (-1)) → ∃ Q4 : Int → NS → MM → Prop, CT_X9_leastParting G X.2.1 [(2, 1), (0, l1)] w M Q4 ∧ ∀ (z4 : Int) (w4 : NS) (M4 : MM), Q4 z4 w4 M4 → (((l2 ≠ (-1)) → ∃ Q5 : Int → NS → MM → Prop, CT_X5_readerOf G X.2.1 [(1, z4), (0, l2)] w4 M4 Q5 ∧ ∀ (z5 : Int) (w5 : NS) (M5 : MM), Q5 z5 w5 M5 → P z5 w5 M5) ∧ ((¬ (l2 ≠ (-1))) → ∃ Q6 : Int → NS → MM → Prop, CT_X5_sumOf G X.2.1 [(1, z4)] w4 M4 Q6 ∧ ∀ (z6 : Int) (w6 : NS) (M6 : MM), Q6 z6 w6 M6 → P z6 w6 M6))) ∧ ((¬ (l2 = (-1))) → (inR ((M 1 2) - 1)) ∧ (((¬ (0 ≤ l2 ∧ l2 ≤ ((M 1 2) - 1))) → P (-6) w M) ∧ (((0 ≤ l2 ∧ l2 ≤ ((M 1 2) - 1))) → ((((zand (zshr l1 l2) 1 = 1)) → ∃ Q10 : Int → NS → MM → Prop, CT_X9_leastParting G X.2.1 [(2, 1), (0, l1)] w M Q10 ∧ ∀ (z10 : Int) (w10 : NS) (M10 : MM), Q10 z10 w10 M10 → (((l2 ≠ (-1)) → ∃ Q11 : Int → NS → MM → Prop, CT_X5_readerOf G X.2.1 [(1, z10), (0, l2)] w10 M10 Q11 ∧ ∀ (z11 : Int) (w11 : NS) (M11 : MM), Q11 z11 w11 M11 → P z11 w11 M11) ∧ ((¬ (l2 ≠ (-1))) → ∃ Q12 : Int → NS → MM → Prop, CT_X5_sumOf G X.2.1 [(1, z10)] w10 M10 Q12 ∧ ∀ (z12 : Int) (w12 : NS) (M12 : MM), Q12 z12 w12 M12 → P z12 w12 M12))) ∧ ((¬ (zand (zshr l1 l2) 1 = 1)) → P (-6) w M))))))) ∧ ((¬ (0 ≤ l1 ∧ l1 ≤ ((zshl 1 (M 1 2)) - 1))) → P (-2) w M))) : A_X9_parted_0 G X P l1 l2 w M := by
  unfold A_X9_parted_0
  refine s_iload_n C dX9_parted_0 rfl ?_
  refine s_iconst C dX9_parted_1 (by decide) ?_
  refine s_iconst C dX9_parted_2 (by decide) ?_
  refine s_aload_n C dX9_parted_3 rfl ?_
  refine WA.fix (fun hF1 => ?_)
  refine gf_X9_19 (v0 := (M 1 2)) C (sh_1 hF1) dX9_parted_4 rfl ?_
  refine s_ishl C dX9_parted_7 ?_
  refine s_iconst C dX9_parted_8 (by decide) ?_
  obtain ⟨o2, h⟩ := h
  refine s_isub C dX9_parted_9 o2 ?_
  refine s_callS (av := [(0, l1), (0, 0), (0, ((zshl 1 (M 1 2)) - 1))]) (rest := []) (mc := 0) (ms := 0) C dX9_parted_10 lk_X9_95 rfl rfl (Nat.le_of_ble_eq_true rfl) (by decide) (by decide) (pc_X9_within) (fun z3 wz3 Mz3 hq => ?_)
  obtain ⟨hq1, hq2, hq3⟩ := hq
  have hq2 := hq2.symm
  have hq3 := hq3.symm
  subst hq1 hq2 hq3
  refine s_ifne C dX9_parted_13 rfl (fun hc => ?_) (fun hc => ?_)
  · have h := h.1 (b2i_n0 hc)
    refine s_iload_n C dX9_parted_19 rfl ?_
    refine s_iconst C dX9_parted_20 (by decide) ?_
    refine s_icmpeq C dX9_parted_21 rfl (fun hc => ?_) (fun hc => ?_)
    · have h := h.1 hc
      refine s_aload_n C dX9_parted_49 rfl ?_
      refine s_iload_n C dX9_parted_50 rfl ?_
      obtain ⟨Q4, hKQ4, h⟩ := h
      refine s_callV (ci := 9) (av := [(0, l1)]) (rest := []) (mc := 0) (ms := 0) C dX9_parted_51 lk_X9_296 (sh_1 hF1) (by decide) rfl rfl rfl (Nat.le_of_ble_eq_true rfl) (by decide) (by decide) hKQ4 (fun z4 w4 M4 hq => ?_)
      have h := h z4 w4 M4 hq
      refine s_lstore_n (ls' := [(2, 1), (0, l1), (0, l2), (1, z4), (3, 0)]) C dX9_parted_54 (by decide) rfl rfl ?_
      refine s_iload_n C dX9_parted_55 rfl ?_
      refine s_iconst C dX9_parted_56 (by decide) ?_
      refine s_icmpne C dX9_parted_57 rfl (fun hc => ?_) (fun hc => ?_)
      · have h := h.1 hc
        refine s_lload_n C dX9_parted_67 rfl ?_
        refine s_iload_n C dX9_parted_68 rfl ?_
        obtain ⟨Q5, hKQ5, h⟩ := h
        refine s_callS (av := [(1, z4), (0, l2)]) (rest := []) (mc := 0) (ms := 0) C dX9_parted_69 lk_X9_304 rfl rfl (Nat.le_of_ble_eq_true rfl) (by decide) (by decide) hKQ5 (fun z5 w5 M5 hq => ?_)
        have h := h z5 w5 M5 hq
        exact s_ireturn C dX9_parted_72 h
      · have h := h.2 hc
        refine s_lload_n C dX9_parted_60 rfl ?_
        obtain ⟨Q6, hKQ6, h⟩ := h
        refine s_callS (av := [(1, z4)]) (rest := []) (mc := 0) (ms := 0) C dX9_parted_61 lk_X9_300 rfl rfl (Nat.le_of_ble_eq_true rfl) (by decide) (by decide) hKQ6 (fun z6 w6 M6 hq => ?_)
        have h := h z6 w6 M6 hq
        refine s_goto C dX9_parted_64 rfl ?_
        exact s_ireturn C dX9_parted_72 h
    · have h := h.2 hc
      refine s_iload_n C dX9_parted_24 rfl ?_
      refine s_iconst C dX9_parted_25 (by decide) ?_
      refine s_aload_n C dX9_parted_26 rfl ?_
      refine gf_X9_19 (v0 := (M 1 2)) C (sh_1 hF1) dX9_parted_27 rfl ?_
      refine s_iconst C dX9_parted_30 (by decide) ?_
      obtain ⟨o7, h⟩ := h
      refine s_isub C dX9_parted_31 o7 ?_
      refine s_callS (av := [(0, l2), (0, 0), (0, ((M 1 2) - 1))]) (rest := []) (mc := 0) (ms := 0) C dX9_parted_32 lk_X9_95 rfl rfl (Nat.le_of_ble_eq_true rfl) (by decide) (by decide) (pc_X9_within) (fun z8 wz8 Mz8 hq => ?_)
      obtain ⟨hq1, hq2, hq3⟩ := hq
      have hq2 := hq2.symm
      have hq3 := hq3.symm
      subst hq1 hq2 hq3
      refine s_ifeq C dX9_parted_35 rfl (fun hc => ?_) (fun hc => ?_)
      · have h := h.1 (b2i_0.mp hc)
        refine s_bipush C dX9_parted_46 ⟨rfl, by decide, by decide⟩ ?_
        exact s_ireturn C dX9_parted_48 h
      · have h := h.2 (b2i_n0 hc)
        refine s_iload_n C dX9_parted_38 rfl ?_
        refine s_iload_n C dX9_parted_39 rfl ?_
        refine s_callS (av := [(0, l1), (0, l2)]) (rest := []) (mc := 0) (ms := 0) C dX9_parted_40 lk_X9_292 rfl rfl (Nat.le_of_ble_eq_true rfl) (by decide) (by decide) (pc_X9_hasBit) (fun z9 wz9 Mz9 hq => ?_)
        obtain ⟨hq1, hq2, hq3⟩ := hq
        have hq2 := hq2.symm
        have hq3 := hq3.symm
        subst hq1 hq2 hq3
        refine s_ifne C dX9_parted_43 rfl (fun hc => ?_) (fun hc => ?_)
        · have h := h.1 (b2i_n0 hc)
          refine s_aload_n C dX9_parted_49 rfl ?_
          refine s_iload_n C dX9_parted_50 rfl ?_
          obtain ⟨Q10, hKQ10, h⟩ := h
          refine s_callV (ci := 9) (av := [(0, l1)]) (rest := []) (mc := 0) (ms := 0) C dX9_parted_51 lk_X9_296 (sh_1 hF1) (by decide) rfl rfl rfl (Nat.le_of_ble_eq_true rfl) (by decide) (by decide) hKQ10 (fun z10 w10 M10 hq => ?_)
          have h := h z10 w10 M10 hq
          refine s_lstore_n (ls' := [(2, 1), (0, l1), (0, l2), (1, z10), (3, 0)]) C dX9_parted_54 (by decide) rfl rfl ?_
          refine s_iload_n C dX9_parted_55 rfl ?_
          refine s_iconst C dX9_parted_56 (by decide) ?_
          refine s_icmpne C dX9_parted_57 rfl (fun hc => ?_) (fun hc => ?_)
          · have h := h.1 hc
            refine s_lload_n C dX9_parted_67 rfl ?_
            refine s_iload_n C dX9_parted_68 rfl ?_
            obtain ⟨Q11, hKQ11, h⟩ := h
            refine s_callS (av := [(1, z10), (0, l2)]) (rest := []) (mc := 0) (ms := 0) C dX9_parted_69 lk_X9_304 rfl rfl (Nat.le_of_ble_eq_true rfl) (by decide) (by decide) hKQ11 (fun z11 w11 M11 hq => ?_)
            have h := h z11 w11 M11 hq
            exact s_ireturn C dX9_parted_72 h
          · have h := h.2 hc
            refine s_lload_n C dX9_parted_60 rfl ?_
            obtain ⟨Q12, hKQ12, h⟩ := h
            refine s_callS (av := [(1, z10)]) (rest := []) (mc := 0) (ms := 0) C dX9_parted_61 lk_X9_300 rfl rfl (Nat.le_of_ble_eq_true rfl) (by decide) (by decide) hKQ12 (fun z12 w12 M12 hq => ?_)
            have h := h z12 w12 M12 hq
            refine s_goto C dX9_parted_64 rfl ?_
            exact s_ireturn C dX9_parted_72 h
        · have h := h.2 (b2i_nn hc)
          refine s_bipush C dX9_parted_46 ⟨rfl, by decide, by decide⟩ ?_
          exact s_ireturn C dX9_parted_48 h
  · have h := h.2 (b2i_nn hc)
    refine s_bipush C dX9_parted_16 ⟨rfl, by decide, by decide⟩ ?_
    exact s_ireturn C dX9_parted_18 h
theorem E_X9_parted {G : GP} {l : Launch} {P : Int → NS → MM → Prop} {l1 : Int} {l2 : Int} {w : NS} {M : MM} (h : inR l1 → inR l2 → ∀ X : BX, X.2.1 = l → CX_X9_parted G X → A_X9_parted_0 G X P l1 l2 w M) : CT_X9_parted G l [(2, 1), (0, l1), (0, l2)] w M P :=
  CT.of RX9 "parted" (by decide +kernel) rfl rfl rfl (Nat.le_of_ble_eq_true rfl) (fun hr X hX C => h (hr (0, l1) (by simp)) (hr (0, l2) (by simp)) X hX C)
def A_X9_isListed_0 (G : GP) (X : BX) (P : Int → NS → MM → Prop) (l1 : Int) (l2 : Int) (w : NS) (M : MM) : Prop := WA true G X (QM G X true 0 P) 4 0 [(2, 1), (2, l1), (2, l2), (3, 0)] [] 0 0 w M
def A_X9_isListed_14 (G : GP) (X : BX) (P : Int → NS → MM → Prop) (l1 : Int) (l3 : Int) (w : NS) (M : MM) : Prop := WA true G X (QM G X true 0 P) 4 14 [(2, 1), (2, l1), (3, 0), (0, l3)] [] 0 0 w M
set_option maxHeartbeats 4000000 in
set_option maxRecDepth 100000 in
theorem B_X9_isListed_0 {G : GP} {X : BX} {P : Int → NS → MM → Prop} {l1 : Int} {l2 : Int} {w : NS} {M : MM} (C : CX_X9_isListed G X) (h : (w.2 l1 = (7, 12)) ∧ (w.2 (M l1 1) = (5, 5)) ∧ ∃ Q4 : Int → NS → MM → Prop, CT_X9_gatherList G X.2.1 [(2, 1), (2, l2), (0, (M (M l1 1) 2))] w M Q4 ∧ ∀ (z4 : Int) (w4 : NS) (M4 : MM), Q4 z4 w4 M4 → A_X9_isListed_14 G X P l1 0 w4 M4) : A_X9_isListed_0 G X P l1 l2 w M := by
  unfold A_X9_isListed_0
  refine s_aload_n C dX9_isListed_0 rfl ?_
  refine s_aload_n C dX9_isListed_1 rfl ?_
  refine s_aload_n C dX9_isListed_2 rfl ?_
  obtain ⟨o1, h⟩ := h
  refine gf_X9_166 (v0 := (M l1 1)) C o1 dX9_isListed_3 rfl ?_
  obtain ⟨o2, h⟩ := h
  refine gf_X9_131 (v0 := (M (M l1 1) 2)) C o2 dX9_isListed_6 rfl ?_
  refine WA.fix (fun hF3 => ?_)
  obtain ⟨Q4, hKQ4, h⟩ := h
  refine s_callV (ci := 9) (av := [(2, l2), (0, (M (M l1 1) 2))]) (rest := []) (mc := 0) (ms := 0) C dX9_isListed_9 lk_X9_231 (sh_1 hF3) (by decide) rfl rfl rfl (Nat.le_of_ble_eq_true rfl) (by decide) (by decide) hKQ4 (fun z4 w4 M4 hq => ?_)
  have h := h z4 w4 M4 hq
  refine s_iconst C dX9_isListed_12 (by decide) ?_
  refine s_istore_n (ls' := [(2, 1), (2, l1), (2, l2), (0, 0)]) C dX9_isListed_13 (by decide) rfl rfl ?_
  exact WA.wk h ⟨Or.inr rfl, Or.inr rfl, Or.inl rfl, Or.inr rfl, trivial⟩
set_option maxHeartbeats 4000000 in
set_option maxRecDepth 100000 in
theorem B_X9_isListed_14 {G : GP} {X : BX} {P : Int → NS → MM → Prop} {l1 : Int} {l3 : Int} {w : NS} {M : MM} (C : CX_X9_isListed G X) (h : ((((M 1 11) ≤ l3) → P 0 w M) ∧ ((¬ ((M 1 11) ≤ l3)) → (0 ≤ l3) ∧ (l3 < 24) ∧ (w.2 l1 = (7, 12)) ∧ ((((M 12 l3) ≠ (M l1 0)) → (inR (l3 + 1)) ∧ A_X9_isListed_14 G X P l1 (l3 + 1) w M) ∧ ((¬ ((M 12 l3) ≠ (M l1 0))) → P 1 w M))))) : A_X9_isListed_14 G X P l1 l3 w M := by
  unfold A_X9_isListed_14
  refine s_iload_n C dX9_isListed_14 rfl ?_
  refine s_aload_n C dX9_isListed_15 rfl ?_
  refine WA.fix (fun hF1 => ?_)
  refine gf_X9_61 (v0 := (M 1 11)) C (sh_1 hF1) dX9_isListed_16 rfl ?_
  refine s_icmpge C dX9_isListed_19 rfl (fun hc => ?_) (fun hc => ?_)
  · have h := h.1 hc
    refine s_iconst C dX9_isListed_43 (by decide) ?_
    exact s_zreturn C dX9_isListed_44 (by decide) h
  · have h := h.2 hc
    refine s_aload_n C dX9_isListed_22 rfl ?_
    refine gf_X9_58 C (sh_1 hF1) dX9_isListed_23 (fx_1_10 hF1) ?_
    refine s_iload_n C dX9_isListed_26 rfl ?_
    obtain ⟨o2, h⟩ := h
    obtain ⟨o3, h⟩ := h
    refine s_iald (v0 := (M 12 l3)) C (sh_12 hF1) o2 o3 dX9_isListed_27 rfl ?_
    refine s_aload_n C dX9_isListed_28 rfl ?_
    obtain ⟨o4, h⟩ := h
    refine gf_X9_324 (v0 := (M l1 0)) C o4 dX9_isListed_29 rfl ?_
    refine s_icmpne C dX9_isListed_32 rfl (fun hc => ?_) (fun hc => ?_)
    · have h := h.1 hc
      obtain ⟨o5, h⟩ := h
      refine s_iinc (ls' := [(2, 1), (2, l1), (3, 0), (0, (l3 + 1))]) C dX9_isListed_37 (by decide) rfl o5 rfl rfl ?_
      refine s_goto C dX9_isListed_40 rfl ?_
      exact h
    · have h := h.2 hc
      refine s_iconst C dX9_isListed_35 (by decide) ?_
      exact s_zreturn C dX9_isListed_36 (by decide) h
theorem E_X9_isListed {G : GP} {l : Launch} {P : Int → NS → MM → Prop} {l1 : Int} {l2 : Int} {w : NS} {M : MM} (h : ∀ X : BX, X.2.1 = l → CX_X9_isListed G X → A_X9_isListed_0 G X P l1 l2 w M) : CT_X9_isListed G l [(2, 1), (2, l1), (2, l2)] w M P :=
  CT.of RX9 "isListed" (by decide +kernel) rfl rfl rfl (Nat.le_of_ble_eq_true rfl) (fun hr X hX C => h  X hX C)
def A_X9_send_0 (G : GP) (X : BX) (P : Int → NS → MM → Prop) (l1 : Int) (l2 : Int) (w : NS) (M : MM) : Prop := WA true G X (QM G X true 0 P) 5 0 [(2, 1), (0, l1), (0, l2), (3, 0), (3, 0)] [] 0 0 w M
set_option maxHeartbeats 4000000 in
set_option maxRecDepth 100000 in
theorem B_X9_send_0 {G : GP} {X : BX} {P : Int → NS → MM → Prop} {l1 : Int} {l2 : Int} {w : NS} {M : MM} (C : CX_X9_send G X) (h : (0 ≤ M 1 4) ∧ (M 1 4 ≤ 24) ∧ (0 ≤ M 1 7) ∧ (M 1 7 ≤ 10) ∧ ((((pcO M l1) = 0) → P (-1) w M) ∧ ((¬ ((pcO M l1) = 0)) → ((((orO M l2) ≠ 0) → ∃ Q8 : Int → NS → MM → Prop, CT_X9_isListed G X.2.1 [(2, 1), (2, (pcO M l1)), (2, (orO M l2))] w M Q8 ∧ ∀ (z8 : Int) (w8 : NS) (M8 : MM), Q8 z8 w8 M8 → (((z8 ≠ 0) → (w8.2 (pcO M l1) = (7, 12)) ∧ (((¬ (zand (zshr (M8 (pcO M l1) 11) l2) 1 = 1)) → P 1 w8 (up M8 (pcO M l1) 11 (zor (M8 (pcO M l1) 11) (zshl 1 l2)))) ∧ (((zand (zshr (M8 (pcO M l1) 11) l2) 1 = 1)) → P (-5) w8 M8))) ∧ ((¬ (z8 ≠ 0)) → P (-3) w8 M8))) ∧ ((¬ ((orO M l2) ≠ 0)) → P (-1) w M))))) : A_X9_send_0 G X P l1 l2 w M := by
  unfold A_X9_send_0
  refine s_aload_n C dX9_send_0 rfl ?_
  refine s_iload_n C dX9_send_1 rfl ?_
  refine WA.fix (fun hF1 => ?_)
  obtain ⟨o2, h⟩ := h
  obtain ⟨o3, h⟩ := h
  refine s_callV (ci := 9) (av := [(0, l1)]) (rest := []) (mc := 0) (ms := 0) C dX9_send_2 lk_X9_158 (sh_1 hF1) (by decide) rfl rfl rfl (Nat.le_of_ble_eq_true rfl) (by decide) (by decide) (pc_X9_pieceOf o2 o3) (fun z4 wz4 Mz4 hq => ?_)
  obtain ⟨hq1, hq2, hq3⟩ := hq
  have hq2 := hq2.symm
  have hq3 := hq3.symm
  subst hq1 hq2 hq3
  refine s_astore_n (ls' := [(2, 1), (0, l1), (0, l2), (2, (pcO M l1)), (3, 0)]) C dX9_send_5 (by decide) rfl rfl ?_
  refine s_aload_n C dX9_send_6 rfl ?_
  refine s_iload_n C dX9_send_7 rfl ?_
  obtain ⟨o5, h⟩ := h
  obtain ⟨o6, h⟩ := h
  refine s_callV (ci := 9) (av := [(0, l2)]) (rest := []) (mc := 0) (ms := 0) C dX9_send_8 lk_X9_208 (sh_1 hF1) (by decide) rfl rfl rfl (Nat.le_of_ble_eq_true rfl) (by decide) (by decide) (pc_X9_orderOf o5 o6) (fun z7 wz7 Mz7 hq => ?_)
  obtain ⟨hq1, hq2, hq3⟩ := hq
  have hq2 := hq2.symm
  have hq3 := hq3.symm
  subst hq1 hq2 hq3
  refine s_astore (ls' := [(2, 1), (0, l1), (0, l2), (2, (pcO M l1)), (2, (orO M l2))]) C dX9_send_11 (by decide) rfl rfl ?_
  refine s_aload_n C dX9_send_13 rfl ?_
  refine s_ifnull C dX9_send_14 rfl (fun hc => ?_) (fun hc => ?_)
  · have h := h.1 hc
    refine s_iconst C dX9_send_22 (by decide) ?_
    exact s_ireturn C dX9_send_23 h
  · have h := h.2 hc
    refine s_aload C dX9_send_17 rfl ?_
    refine s_ifnonnull C dX9_send_19 rfl (fun hc => ?_) (fun hc => ?_)
    · have h := h.1 hc
      refine s_aload_n C dX9_send_24 rfl ?_
      refine s_aload_n C dX9_send_25 rfl ?_
      refine s_aload C dX9_send_26 rfl ?_
      obtain ⟨Q8, hKQ8, h⟩ := h
      refine s_callV (ci := 9) (av := [(2, (pcO M l1)), (2, (orO M l2))]) (rest := []) (mc := 0) (ms := 0) C dX9_send_28 lk_X9_308 (sh_1 hF1) (by decide) rfl rfl rfl (Nat.le_of_ble_eq_true rfl) (by decide) (by decide) hKQ8 (fun z8 w8 M8 hq => ?_)
      have h := h z8 w8 M8 hq
      refine s_ifne C dX9_send_31 rfl (fun hc => ?_) (fun hc => ?_)
      · have h := h.1 hc
        refine s_aload_n C dX9_send_37 rfl ?_
        obtain ⟨o9, h⟩ := h
        refine gf_X9_174 (v0 := (M8 (pcO M l1) 11)) C o9 dX9_send_38 rfl ?_
        refine s_iload_n C dX9_send_41 rfl ?_
        refine s_callS (av := [(0, (M8 (pcO M l1) 11)), (0, l2)]) (rest := []) (mc := 0) (ms := 0) C dX9_send_42 lk_X9_292 rfl rfl (Nat.le_of_ble_eq_true rfl) (by decide) (by decide) (pc_X9_hasBit) (fun z10 wz10 Mz10 hq => ?_)
        obtain ⟨hq1, hq2, hq3⟩ := hq
        have hq2 := hq2.symm
        have hq3 := hq3.symm
        subst hq1 hq2 hq3
        refine s_ifeq C dX9_send_45 rfl (fun hc => ?_) (fun hc => ?_)
        · have h := h.1 (b2i_0.mp hc)
          refine s_aload_n C dX9_send_51 rfl ?_
          refine s_dup C (by simp) dX9_send_52 ?_
          refine gf_X9_174 (v0 := (M8 (pcO M l1) 11)) C o9 dX9_send_53 rfl ?_
          refine s_iconst C dX9_send_56 (by decide) ?_
          refine s_iload_n C dX9_send_57 rfl ?_
          refine s_ishl C dX9_send_58 ?_
          refine s_ior C dX9_send_59 ?_
          refine pf_X9_174 C o9 (fun _ => by decide) dX9_send_60 ?_
          refine s_iconst C dX9_send_63 (by decide) ?_
          exact s_ireturn C dX9_send_64 h
        · have h := h.2 (b2i_n0 hc)
          refine s_bipush C dX9_send_48 ⟨rfl, by decide, by decide⟩ ?_
          exact s_ireturn C dX9_send_50 h
      · have h := h.2 hc
        refine s_bipush C dX9_send_34 ⟨rfl, by decide, by decide⟩ ?_
        exact s_ireturn C dX9_send_36 h
    · have h := h.2 hc
      refine s_iconst C dX9_send_22 (by decide) ?_
      exact s_ireturn C dX9_send_23 h
theorem E_X9_send {G : GP} {l : Launch} {P : Int → NS → MM → Prop} {l1 : Int} {l2 : Int} {w : NS} {M : MM} (h : inR l1 → inR l2 → ∀ X : BX, X.2.1 = l → CX_X9_send G X → A_X9_send_0 G X P l1 l2 w M) : CT_X9_send G l [(2, 1), (0, l1), (0, l2)] w M P :=
  CT.of RX9 "send" (by decide +kernel) rfl rfl rfl (Nat.le_of_ble_eq_true rfl) (fun hr X hX C => h (hr (0, l1) (by simp)) (hr (0, l2) (by simp)) X hX C)
def A_X9_miss_0 (G : GP) (X : BX) (P : Int → NS → MM → Prop) (l1 : Int) (w : NS) (M : MM) : Prop := WA true G X (QM G X true 0 P) 2 0 [(2, 1), (0, l1)] [] 0 0 w M
set_option maxHeartbeats 4000000 in
set_option maxRecDepth 100000 in
theorem B_X9_miss_0 {G : GP} {X : BX} {P : Int → NS → MM → Prop} {l1 : Int} {w : NS} {M : MM} (C : CX_X9_miss G X) (h : ((((0 ≤ l1 ∧ l1 ≤ 5)) → (0 ≤ l1) ∧ (l1 < 6) ∧ (inR ((M 24 l1) + 1)) ∧ P ((M 24 l1) + 1) w (up M 24 l1 ((M 24 l1) + 1))) ∧ ((¬ (0 ≤ l1 ∧ l1 ≤ 5)) → P (-1) w M))) : A_X9_miss_0 G X P l1 w M := by
  unfold A_X9_miss_0
  refine s_iload_n C dX9_miss_0 rfl ?_
  refine s_callS (av := [(0, l1)]) (rest := []) (mc := 0) (ms := 0) C dX9_miss_1 lk_X9_202 rfl rfl (Nat.le_of_ble_eq_true rfl) (by decide) (by decide) (pc_X9_isClient) (fun z1 wz1 Mz1 hq => ?_)
  obtain ⟨hq1, hq2, hq3⟩ := hq
  have hq2 := hq2.symm
  have hq3 := hq3.symm
  subst hq1 hq2 hq3
  refine s_ifne C dX9_miss_4 rfl (fun hc => ?_) (fun hc => ?_)
  · have h := h.1 (b2i_n0 hc)
    refine s_aload_n C dX9_miss_9 rfl ?_
    refine WA.fix (fun hF2 => ?_)
    refine gf_X9_90 C (sh_1 hF2) dX9_miss_10 (fx_1_16 hF2) ?_
    refine s_iload_n C dX9_miss_13 rfl ?_
    refine s_dup2 C (by simp) (by simp) dX9_miss_14 ?_
    obtain ⟨o3, h⟩ := h
    obtain ⟨o4, h⟩ := h
    refine s_iald (v0 := (M 24 l1)) C (sh_24 hF2) o3 o4 dX9_miss_15 rfl ?_
    refine s_iconst C dX9_miss_16 (by decide) ?_
    obtain ⟨o5, h⟩ := h
    refine s_iadd C dX9_miss_17 o5 ?_
    refine s_iast C (sh_24 hF2) o3 o4 (fun _ => by decide) dX9_miss_18 ?_
    refine s_aload_n C dX9_miss_19 rfl ?_
    refine WA.fix (fun hF6 => ?_)
    refine gf_X9_90 C (sh_1 hF2) dX9_miss_20 (fx_1_16 hF6) ?_
    refine s_iload_n C dX9_miss_23 rfl ?_
    refine s_iald (v0 := ((M 24 l1) + 1)) C (sh_24 hF2) o3 o4 dX9_miss_24 (up_eq) ?_
    exact s_ireturn C dX9_miss_25 h
  · have h := h.2 (b2i_nn hc)
    refine s_iconst C dX9_miss_7 (by decide) ?_
    exact s_ireturn C dX9_miss_8 h
theorem E_X9_miss {G : GP} {l : Launch} {P : Int → NS → MM → Prop} {l1 : Int} {w : NS} {M : MM} (h : inR l1 → ∀ X : BX, X.2.1 = l → CX_X9_miss G X → A_X9_miss_0 G X P l1 w M) : CT_X9_miss G l [(2, 1), (0, l1)] w M P :=
  CT.of RX9 "miss" (by decide +kernel) rfl rfl rfl (Nat.le_of_ble_eq_true rfl) (fun hr X hX C => h (hr (0, l1) (by simp)) X hX C)
def A_X9_countSentTo_0 (G : GP) (X : BX) (P : Int → NS → MM → Prop) (l1 : Int) (w : NS) (M : MM) : Prop := WA true G X (QM G X true 0 P) 5 0 [(2, 1), (0, l1), (3, 0), (3, 0), (3, 0)] [] 0 0 w M
def A_X9_countSentTo_4 (G : GP) (X : BX) (P : Int → NS → MM → Prop) (l1 : Int) (l2 : Int) (l3 : Int) (w : NS) (M : MM) : Prop := WA true G X (QM G X true 0 P) 5 4 [(2, 1), (0, l1), (0, l2), (0, l3), (3, 0)] [] 0 0 w M
def A_X9_countSentTo_15 (G : GP) (X : BX) (P : Int → NS → MM → Prop) (l1 : Int) (l2 : Int) (l3 : Int) (l4 : Int) (w : NS) (M : MM) : Prop := WA true G X (QM G X true 0 P) 5 15 [(2, 1), (0, l1), (0, l2), (0, l3), (0, l4)] [] 0 0 w M
set_option maxHeartbeats 4000000 in
set_option maxRecDepth 100000 in
theorem B_X9_countSentTo_0 {G : GP} {X : BX} {P : Int → NS → MM → Prop} {l1 : Int} {w : NS} {M : MM} (C : CX_X9_countSentTo G X) (h : A_X9_countSentTo_4 G X P l1 0 0 w M) : A_X9_countSentTo_0 G X P l1 w M := by
  unfold A_X9_countSentTo_0
  refine s_iconst C dX9_countSentTo_0 (by decide) ?_
  refine s_istore_n (ls' := [(2, 1), (0, l1), (0, 0), (3, 0), (3, 0)]) C dX9_countSentTo_1 (by decide) rfl rfl ?_
  refine s_iconst C dX9_countSentTo_2 (by decide) ?_
  refine s_istore_n (ls' := [(2, 1), (0, l1), (0, 0), (0, 0), (3, 0)]) C dX9_countSentTo_3 (by decide) rfl rfl ?_
  exact h
set_option maxHeartbeats 4000000 in
set_option maxRecDepth 100000 in
theorem B_X9_countSentTo_4 {G : GP} {X : BX} {P : Int → NS → MM → Prop} {l1 : Int} {l2 : Int} {l3 : Int} {w : NS} {M : MM} (C : CX_X9_countSentTo G X) (h : ((((M 1 7) ≤ l3) → P l2 w M) ∧ ((¬ ((M 1 7) ≤ l3)) → A_X9_countSentTo_15 G X P l1 l2 l3 0 w M))) : A_X9_countSentTo_4 G X P l1 l2 l3 w M := by
  unfold A_X9_countSentTo_4
  refine s_iload_n C dX9_countSentTo_4 rfl ?_
  refine s_aload_n C dX9_countSentTo_5 rfl ?_
  refine WA.fix (fun hF1 => ?_)
  refine gf_X9_41 (v0 := (M 1 7)) C (sh_1 hF1) dX9_countSentTo_6 rfl ?_
  refine s_icmpge C dX9_countSentTo_9 rfl (fun hc => ?_) (fun hc => ?_)
  · have h := h.1 hc
    refine s_iload_n C dX9_countSentTo_69 rfl ?_
    exact s_ireturn C dX9_countSentTo_70 h
  · have h := h.2 hc
    refine s_iconst C dX9_countSentTo_12 (by decide) ?_
    refine s_istore (ls' := [(2, 1), (0, l1), (0, l2), (0, l3), (0, 0)]) C dX9_countSentTo_13 (by decide) rfl rfl ?_
    exact h
set_option maxHeartbeats 4000000 in
set_option maxRecDepth 100000 in
theorem B_X9_countSentTo_15 {G : GP} {X : BX} {P : Int → NS → MM → Prop} {l1 : Int} {l2 : Int} {l3 : Int} {l4 : Int} {w : NS} {M : MM} (C : CX_X9_countSentTo G X) (h : (0 ≤ l3) ∧ (l3 < 10) ∧ (w.2 (M 6 l3) = (4, 7)) ∧ ((((M (M 6 l3) 0) ≠ l1) → (inR (l3 + 1)) ∧ A_X9_countSentTo_4 G X P l1 l2 (l3 + 1) w M) ∧ ((¬ ((M (M 6 l3) 0) ≠ l1)) → ((((M 1 4) ≤ l4) → (inR (l3 + 1)) ∧ A_X9_countSentTo_4 G X P l1 l2 (l3 + 1) w M) ∧ ((¬ ((M 1 4) ≤ l4)) → (0 ≤ l4) ∧ (l4 < 24) ∧ (w.2 (M 4 l4) = (7, 12)) ∧ (inR (l2 + (b2i (zand (zshr (M (M 4 l4) 11) l3) 1 = 1)))) ∧ (inR (l4 + 1)) ∧ A_X9_countSentTo_15 G X P l1 (l2 + (b2i (zand (zshr (M (M 4 l4) 11) l3) 1 = 1))) l3 (l4 + 1) w M))))) : A_X9_countSentTo_15 G X P l1 l2 l3 l4 w M := by
  unfold A_X9_countSentTo_15
  refine s_aload_n C dX9_countSentTo_15 rfl ?_
  refine WA.fix (fun hF1 => ?_)
  refine gf_X9_37 C (sh_1 hF1) dX9_countSentTo_16 (fx_1_6 hF1) ?_
  refine s_iload_n C dX9_countSentTo_19 rfl ?_
  obtain ⟨o2, h⟩ := h
  obtain ⟨o3, h⟩ := h
  refine s_aald (v0 := (M 6 l3)) (t0 := 4) C (sh_6 hF1) (by decide) rfl o2 o3 dX9_countSentTo_20 rfl ?_
  obtain ⟨o4, h⟩ := h
  refine gf_X9_359 (v0 := (M (M 6 l3) 0)) C o4 dX9_countSentTo_21 rfl ?_
  refine s_iload_n C dX9_countSentTo_24 rfl ?_
  refine s_icmpne C dX9_countSentTo_25 rfl (fun hc => ?_) (fun hc => ?_)
  · have h := h.1 hc
    obtain ⟨o5, h⟩ := h
    refine s_iinc (ls' := [(2, 1), (0, l1), (0, l2), (0, (l3 + 1)), (0, l4)]) C dX9_countSentTo_63 (by decide) rfl o5 rfl rfl ?_
    refine s_goto C dX9_countSentTo_66 rfl ?_
    exact WA.wk h ⟨Or.inr rfl, Or.inr rfl, Or.inr rfl, Or.inr rfl, Or.inl rfl, trivial⟩
  · have h := h.2 hc
    refine s_iload C dX9_countSentTo_28 rfl ?_
    refine s_aload_n C dX9_countSentTo_30 rfl ?_
    refine gf_X9_29 (v0 := (M 1 4)) C (sh_1 hF1) dX9_countSentTo_31 rfl ?_
    refine s_icmpge C dX9_countSentTo_34 rfl (fun hc => ?_) (fun hc => ?_)
    · have h := h.1 hc
      obtain ⟨o6, h⟩ := h
      refine s_iinc (ls' := [(2, 1), (0, l1), (0, l2), (0, (l3 + 1)), (0, l4)]) C dX9_countSentTo_63 (by decide) rfl o6 rfl rfl ?_
      refine s_goto C dX9_countSentTo_66 rfl ?_
      exact WA.wk h ⟨Or.inr rfl, Or.inr rfl, Or.inr rfl, Or.inr rfl, Or.inl rfl, trivial⟩
    · have h := h.2 hc
      refine s_iload_n C dX9_countSentTo_37 rfl ?_
      refine s_aload_n C dX9_countSentTo_38 rfl ?_
      refine gf_X9_25 C (sh_1 hF1) dX9_countSentTo_39 (fx_1_3 hF1) ?_
      refine s_iload C dX9_countSentTo_42 rfl ?_
      obtain ⟨o7, h⟩ := h
      obtain ⟨o8, h⟩ := h
      refine s_aald (v0 := (M 4 l4)) (t0 := 6) C (sh_4 hF1) (by decide) rfl o7 o8 dX9_countSentTo_44 rfl ?_
      obtain ⟨o9, h⟩ := h
      refine gf_X9_174 (v0 := (M (M 4 l4) 11)) C o9 dX9_countSentTo_45 rfl ?_
      refine s_iload_n C dX9_countSentTo_48 rfl ?_
      refine s_callS (av := [(0, (M (M 4 l4) 11)), (0, l3)]) (rest := [(0, l2)]) (mc := 0) (ms := 0) C dX9_countSentTo_49 lk_X9_292 rfl rfl (Nat.le_of_ble_eq_true rfl) (by decide) (by decide) (pc_X9_hasBit) (fun z10 wz10 Mz10 hq => ?_)
      obtain ⟨hq1, hq2, hq3⟩ := hq
      have hq2 := hq2.symm
      have hq3 := hq3.symm
      subst hq1 hq2 hq3
      refine s_callS (av := [(0, (b2i (zand (zshr (M (M 4 l4) 11) l3) 1 = 1)))]) (rest := [(0, l2)]) (mc := 0) (ms := 0) C dX9_countSentTo_52 lk_X9_188 rfl rfl (Nat.le_of_ble_eq_true rfl) (by decide) (by decide) (pc_X9_oneIf') (fun z11 wz11 Mz11 hq => ?_)
      obtain ⟨hq1, hq2, hq3⟩ := hq
      have hq2 := hq2.symm
      have hq3 := hq3.symm
      subst hq1 hq2 hq3
      obtain ⟨o12, h⟩ := h
      refine s_iadd C dX9_countSentTo_55 o12 ?_
      refine s_istore_n (ls' := [(2, 1), (0, l1), (0, (l2 + (b2i (zand (zshr (M (M 4 l4) 11) l3) 1 = 1)))), (0, l3), (0, l4)]) C dX9_countSentTo_56 (by decide) rfl rfl ?_
      obtain ⟨o13, h⟩ := h
      refine s_iinc (ls' := [(2, 1), (0, l1), (0, (l2 + (b2i (zand (zshr (M (M 4 l4) 11) l3) 1 = 1)))), (0, l3), (0, (l4 + 1))]) C dX9_countSentTo_57 (by decide) rfl o13 rfl rfl ?_
      refine s_goto C dX9_countSentTo_60 rfl ?_
      exact h
theorem E_X9_countSentTo {G : GP} {l : Launch} {P : Int → NS → MM → Prop} {l1 : Int} {w : NS} {M : MM} (h : inR l1 → ∀ X : BX, X.2.1 = l → CX_X9_countSentTo G X → A_X9_countSentTo_0 G X P l1 w M) : CT_X9_countSentTo G l [(2, 1), (0, l1)] w M P :=
  CT.of RX9 "countSentTo" (by decide +kernel) rfl rfl rfl (Nat.le_of_ble_eq_true rfl) (fun hr X hX C => h (hr (0, l1) (by simp)) X hX C)
def A_X9_priceOf_0 (G : GP) (X : BX) (P : Int → NS → MM → Prop) (l1 : Int) (w : NS) (M : MM) : Prop := WA true G X (QM G X true 0 P) 5 0 [(2, 1), (0, l1), (3, 0), (3, 0), (3, 0)] [] 0 0 w M
set_option maxHeartbeats 4000000 in
set_option maxRecDepth 100000 in
theorem B_X9_priceOf_0 {G : GP} {X : BX} {P : Int → NS → MM → Prop} {l1 : Int} {w : NS} {M : MM} (C : CX_X9_priceOf G X) (h : (inR (l1 - (min l1 (M 2 4)))) ∧ (inR ((l1 - (min l1 (M 2 4))) - (min (l1 - (min l1 (M 2 4))) (M 2 4)))) ∧ (inR ((min l1 (M 2 4)) * (M 2 5))) ∧ (inR ((min (l1 - (min l1 (M 2 4))) (M 2 4)) * (M 2 6))) ∧ (inR (((min l1 (M 2 4)) * (M 2 5)) + ((min (l1 - (min l1 (M 2 4))) (M 2 4)) * (M 2 6)))) ∧ (inR (((l1 - (min l1 (M 2 4))) - (min (l1 - (min l1 (M 2 4))) (M 2 4))) * (M 2 7))) ∧ (inR ((((min l1 (M 2 4)) * (M 2 5)) + ((min (l1 - (min l1 (M 2 4))) (M 2 4)) * (M 2 6))) + (((l1 - (min l1 (M 2 4))) - (min (l1 - (min l1 (M 2 4))) (M 2 4))) * (M 2 7)))) ∧ P ((((min l1 (M 2 4)) * (M 2 5)) + ((min (l1 - (min l1 (M 2 4))) (M 2 4)) * (M 2 6))) + (((l1 - (min l1 (M 2 4))) - (min (l1 - (min l1 (M 2 4))) (M 2 4))) * (M 2 7))) w M) : A_X9_priceOf_0 G X P l1 w M := by
  unfold A_X9_priceOf_0
  refine s_iload_n C dX9_priceOf_0 rfl ?_
  refine s_aload_n C dX9_priceOf_1 rfl ?_
  refine WA.fix (fun hF1 => ?_)
  refine gf_X9_7 C (sh_1 hF1) dX9_priceOf_2 (fx_1_0 hF1) ?_
  refine s_iconst C dX9_priceOf_5 (by decide) ?_
  refine s_iald (v0 := (M 2 4)) C (sh_2 hF1) (by decide) (by decide) dX9_priceOf_6 rfl ?_
  refine s_mmin (st := []) C dX9_priceOf_7 wd_742 (Nat.le_of_ble_eq_true rfl) (by decide) (by decide) ?_
  refine s_istore_n (ls' := [(2, 1), (0, l1), (0, (min l1 (M 2 4))), (3, 0), (3, 0)]) C dX9_priceOf_10 (by decide) rfl rfl ?_
  refine s_iload_n C dX9_priceOf_11 rfl ?_
  refine s_iload_n C dX9_priceOf_12 rfl ?_
  obtain ⟨o2, h⟩ := h
  refine s_isub C dX9_priceOf_13 o2 ?_
  refine s_aload_n C dX9_priceOf_14 rfl ?_
  refine gf_X9_7 C (sh_1 hF1) dX9_priceOf_15 (fx_1_0 hF1) ?_
  refine s_iconst C dX9_priceOf_18 (by decide) ?_
  refine s_iald (v0 := (M 2 4)) C (sh_2 hF1) (by decide) (by decide) dX9_priceOf_19 rfl ?_
  refine s_mmin (st := []) C dX9_priceOf_20 wd_742 (Nat.le_of_ble_eq_true rfl) (by decide) (by decide) ?_
  refine s_istore_n (ls' := [(2, 1), (0, l1), (0, (min l1 (M 2 4))), (0, (min (l1 - (min l1 (M 2 4))) (M 2 4))), (3, 0)]) C dX9_priceOf_23 (by decide) rfl rfl ?_
  refine s_iload_n C dX9_priceOf_24 rfl ?_
  refine s_iload_n C dX9_priceOf_25 rfl ?_
  refine s_isub C dX9_priceOf_26 o2 ?_
  refine s_iload_n C dX9_priceOf_27 rfl ?_
  obtain ⟨o3, h⟩ := h
  refine s_isub C dX9_priceOf_28 o3 ?_
  refine s_istore (ls' := [(2, 1), (0, l1), (0, (min l1 (M 2 4))), (0, (min (l1 - (min l1 (M 2 4))) (M 2 4))), (0, ((l1 - (min l1 (M 2 4))) - (min (l1 - (min l1 (M 2 4))) (M 2 4))))]) C dX9_priceOf_29 (by decide) rfl rfl ?_
  refine s_iload_n C dX9_priceOf_31 rfl ?_
  refine s_aload_n C dX9_priceOf_32 rfl ?_
  refine gf_X9_7 C (sh_1 hF1) dX9_priceOf_33 (fx_1_0 hF1) ?_
  refine s_iconst C dX9_priceOf_36 (by decide) ?_
  refine s_iald (v0 := (M 2 5)) C (sh_2 hF1) (by decide) (by decide) dX9_priceOf_37 rfl ?_
  obtain ⟨o4, h⟩ := h
  refine s_imul C dX9_priceOf_38 o4 ?_
  refine s_iload_n C dX9_priceOf_39 rfl ?_
  refine s_aload_n C dX9_priceOf_40 rfl ?_
  refine gf_X9_7 C (sh_1 hF1) dX9_priceOf_41 (fx_1_0 hF1) ?_
  refine s_bipush C dX9_priceOf_44 ⟨rfl, by decide, by decide⟩ ?_
  refine s_iald (v0 := (M 2 6)) C (sh_2 hF1) (by decide) (by decide) dX9_priceOf_46 rfl ?_
  obtain ⟨o5, h⟩ := h
  refine s_imul C dX9_priceOf_47 o5 ?_
  obtain ⟨o6, h⟩ := h
  refine s_iadd C dX9_priceOf_48 o6 ?_
  refine s_iload C dX9_priceOf_49 rfl ?_
  refine s_aload_n C dX9_priceOf_51 rfl ?_
  refine gf_X9_7 C (sh_1 hF1) dX9_priceOf_52 (fx_1_0 hF1) ?_
  refine s_bipush C dX9_priceOf_55 ⟨rfl, by decide, by decide⟩ ?_
  refine s_iald (v0 := (M 2 7)) C (sh_2 hF1) (by decide) (by decide) dX9_priceOf_57 rfl ?_
  obtain ⟨o7, h⟩ := h
  refine s_imul C dX9_priceOf_58 o7 ?_
  obtain ⟨o8, h⟩ := h
  refine s_iadd C dX9_priceOf_59 o8 ?_
  exact s_ireturn C dX9_priceOf_60 h
theorem E_X9_priceOf {G : GP} {l : Launch} {P : Int → NS → MM → Prop} {l1 : Int} {w : NS} {M : MM} (h : inR l1 → ∀ X : BX, X.2.1 = l → CX_X9_priceOf G X → A_X9_priceOf_0 G X P l1 w M) : CT_X9_priceOf G l [(2, 1), (0, l1)] w M P :=
  CT.of RX9 "priceOf" (by decide +kernel) rfl rfl rfl (Nat.le_of_ble_eq_true rfl) (fun hr X hX C => h (hr (0, l1) (by simp)) X hX C)
def A_X9_bill_0 (G : GP) (X : BX) (P : Int → NS → MM → Prop) (l1 : Int) (l2 : Int) (w : NS) (M : MM) : Prop := WA true G X (QM G X true 0 P) 3 0 [(2, 1), (0, l1), (0, l2)] [] 0 0 w M
set_option maxHeartbeats 4000000 in
set_option maxRecDepth 100000 in
theorem B_X9_bill_0 {G : GP} {X : BX} {P : Int → NS → MM → Prop} {l1 : Int} {l2 : Int} {w : NS} {M : MM} (C : CX_X9_bill G X) (h : ((((0 ≤ l1 ∧ l1 ≤ 5)) → (((l2 ≠ 0 ∧ l2 ≠ 1) → P (-2) w M) ∧ (l2 = 0 → ∃ Q3 : Int → NS → MM → Prop, CT_X9_countSentTo G X.2.1 [(2, 1), (0, l1)] w M Q3 ∧ ∀ (z3 : Int) (w3 : NS) (M3 : MM), Q3 z3 w3 M3 → ∃ Q5 : Int → NS → MM → Prop, CT_X9_priceOf G X.2.1 [(2, 1), (0, z3)] w3 M3 Q5 ∧ ∀ (z5 : Int) (w5 : NS) (M5 : MM), Q5 z5 w5 M5 → (0 ≤ l1) ∧ (l1 < 6) ∧ (inR ((M5 2 8) * (M5 24 l1))) ∧ (inR (z5 - ((M5 2 8) * (M5 24 l1)))) ∧ P (max 0 (z5 - ((M5 2 8) * (M5 24 l1)))) w5 M5) ∧ (l2 = 1 → ∃ Q12 : Int → NS → MM → Prop, CT_X9_countSentTo G X.2.1 [(2, 1), (0, l1)] w M Q12 ∧ ∀ (z12 : Int) (w12 : NS) (M12 : MM), Q12 z12 w12 M12 → P z12 w12 M12))) ∧ ((¬ (0 ≤ l1 ∧ l1 ≤ 5)) → P (-1) w M))) : A_X9_bill_0 G X P l1 l2 w M := by
  unfold A_X9_bill_0
  refine s_iload_n C dX9_bill_0 rfl ?_
  refine s_callS (av := [(0, l1)]) (rest := []) (mc := 0) (ms := 0) C dX9_bill_1 lk_X9_202 rfl rfl (Nat.le_of_ble_eq_true rfl) (by decide) (by decide) (pc_X9_isClient) (fun z1 wz1 Mz1 hq => ?_)
  obtain ⟨hq1, hq2, hq3⟩ := hq
  have hq2 := hq2.symm
  have hq3 := hq3.symm
  subst hq1 hq2 hq3
  refine s_ifne C dX9_bill_4 rfl (fun hc => ?_) (fun hc => ?_)
  · have h := h.1 (b2i_n0 hc)
    refine s_iload_n C dX9_bill_9 rfl ?_
    rcases (show (l2 ≠ 0 ∧ l2 ≠ 1) ∨ l2 = 0 ∨ l2 = 1 from by omega) with hc | hc | hc
    · have h := h.1 hc
      refine s_lookup (off := 61) (tgt := 71) C dX9_bill_10 rfl (by simp [Op.lookupswitch.offset, Ne.symm hc.1, Ne.symm hc.2]) rfl ?_
      refine s_bipush C dX9_bill_71 ⟨rfl, by decide, by decide⟩ ?_
      exact s_ireturn C dX9_bill_73 h
    · have h := h.2.1 hc
      refine s_lookup (off := 26) (tgt := 36) C dX9_bill_10 rfl (by simp [Op.lookupswitch.offset, hc]) rfl ?_
      refine s_iconst C dX9_bill_36 (by decide) ?_
      refine s_aload_n C dX9_bill_37 rfl ?_
      refine s_aload_n C dX9_bill_38 rfl ?_
      refine s_iload_n C dX9_bill_39 rfl ?_
      refine WA.fix (fun hF2 => ?_)
      obtain ⟨Q3, hKQ3, h⟩ := h
      refine s_callV (ci := 9) (av := [(0, l1)]) (rest := [(2, 1), (0, 0)]) (mc := 0) (ms := 0) C dX9_bill_40 lk_X9_312 (sh_1 hF2) (by decide) rfl rfl rfl (Nat.le_of_ble_eq_true rfl) (by decide) (by decide) hKQ3 (fun z3 w3 M3 hq => ?_)
      have h := h z3 w3 M3 hq
      refine WA.fix (fun hF4 => ?_)
      obtain ⟨Q5, hKQ5, h⟩ := h
      refine s_callV (ci := 9) (av := [(0, z3)]) (rest := [(0, 0)]) (mc := 0) (ms := 0) C dX9_bill_43 lk_X9_315 (sh_1 hF4) (by decide) rfl rfl rfl (Nat.le_of_ble_eq_true rfl) (by decide) (by decide) hKQ5 (fun z5 w5 M5 hq => ?_)
      have h := h z5 w5 M5 hq
      refine s_aload_n C dX9_bill_46 rfl ?_
      refine WA.fix (fun hF6 => ?_)
      refine gf_X9_7 C (sh_1 hF6) dX9_bill_47 (fx_1_0 hF6) ?_
      refine s_bipush C dX9_bill_50 ⟨rfl, by decide, by decide⟩ ?_
      refine s_iald (v0 := (M5 2 8)) C (sh_2 hF6) (by decide) (by decide) dX9_bill_52 rfl ?_
      refine s_aload_n C dX9_bill_53 rfl ?_
      refine gf_X9_90 C (sh_1 hF6) dX9_bill_54 (fx_1_16 hF6) ?_
      refine s_iload_n C dX9_bill_57 rfl ?_
      obtain ⟨o7, h⟩ := h
      obtain ⟨o8, h⟩ := h
      refine s_iald (v0 := (M5 24 l1)) C (sh_24 hF6) o7 o8 dX9_bill_58 rfl ?_
      obtain ⟨o9, h⟩ := h
      refine s_imul C dX9_bill_59 o9 ?_
      obtain ⟨o10, h⟩ := h
      refine s_isub C dX9_bill_60 o10 ?_
      refine s_mmax (st := []) C dX9_bill_61 wd_743 (Nat.le_of_ble_eq_true rfl) (by decide) (by decide) ?_
      exact s_ireturn C dX9_bill_64 h
    · have h := h.2.2 hc
      refine s_lookup (off := 55) (tgt := 65) C dX9_bill_10 rfl (by simp [Op.lookupswitch.offset, hc]) rfl ?_
      refine s_aload_n C dX9_bill_65 rfl ?_
      refine s_iload_n C dX9_bill_66 rfl ?_
      refine WA.fix (fun hF11 => ?_)
      obtain ⟨Q12, hKQ12, h⟩ := h
      refine s_callV (ci := 9) (av := [(0, l1)]) (rest := []) (mc := 0) (ms := 0) C dX9_bill_67 lk_X9_312 (sh_1 hF11) (by decide) rfl rfl rfl (Nat.le_of_ble_eq_true rfl) (by decide) (by decide) hKQ12 (fun z12 w12 M12 hq => ?_)
      have h := h z12 w12 M12 hq
      exact s_ireturn C dX9_bill_70 h
  · have h := h.2 (b2i_nn hc)
    refine s_iconst C dX9_bill_7 (by decide) ?_
    exact s_ireturn C dX9_bill_8 h
theorem E_X9_bill {G : GP} {l : Launch} {P : Int → NS → MM → Prop} {l1 : Int} {l2 : Int} {w : NS} {M : MM} (h : inR l1 → inR l2 → ∀ X : BX, X.2.1 = l → CX_X9_bill G X → A_X9_bill_0 G X P l1 l2 w M) : CT_X9_bill G l [(2, 1), (0, l1), (0, l2)] w M P :=
  CT.of RX9 "bill" (by decide +kernel) rfl rfl rfl (Nat.le_of_ble_eq_true rfl) (fun hr X hX C => h (hr (0, l1) (by simp)) (hr (0, l2) (by simp)) X hX C)
def A_X9_file_0 (G : GP) (X : BX) (P : Int → NS → MM → Prop) (l1 : Int) (l2 : Int) (w : NS) (M : MM) : Prop := WA true G X (QM G X true 0 P) 5 0 [(2, 1), (0, l1), (0, l2), (3, 0), (3, 0)] [] 0 0 w M
set_option maxHeartbeats 4000000 in
set_option maxRecDepth 100000 in
theorem B_X9_file_0 {G : GP} {X : BX} {P : Int → NS → MM → Prop} {l1 : Int} {l2 : Int} {w : NS} {M : MM} (C : CX_X9_file G X) (h : (0 ≤ M 1 4) ∧ (M 1 4 ≤ 24) ∧ ((((pcO M l1) ≠ 0) → ((((0 ≤ l2 ∧ l2 ≤ 15)) → (w.2 (pcO M l1) = (7, 12)) ∧ P (M (pcO M l1) 10) w (up M (pcO M l1) 10 l2)) ∧ ((¬ (0 ≤ l2 ∧ l2 ≤ 15)) → P (-2) w M))) ∧ ((¬ ((pcO M l1) ≠ 0)) → P (-1) w M))) : A_X9_file_0 G X P l1 l2 w M := by
  unfold A_X9_file_0
  refine s_aload_n C dX9_file_0 rfl ?_
  refine s_iload_n C dX9_file_1 rfl ?_
  refine WA.fix (fun hF1 => ?_)
  obtain ⟨o2, h⟩ := h
  obtain ⟨o3, h⟩ := h
  refine s_callV (ci := 9) (av := [(0, l1)]) (rest := []) (mc := 0) (ms := 0) C dX9_file_2 lk_X9_158 (sh_1 hF1) (by decide) rfl rfl rfl (Nat.le_of_ble_eq_true rfl) (by decide) (by decide) (pc_X9_pieceOf o2 o3) (fun z4 wz4 Mz4 hq => ?_)
  obtain ⟨hq1, hq2, hq3⟩ := hq
  have hq2 := hq2.symm
  have hq3 := hq3.symm
  subst hq1 hq2 hq3
  refine s_astore_n (ls' := [(2, 1), (0, l1), (0, l2), (2, (pcO M l1)), (3, 0)]) C dX9_file_5 (by decide) rfl rfl ?_
  refine s_aload_n C dX9_file_6 rfl ?_
  refine s_ifnonnull C dX9_file_7 rfl (fun hc => ?_) (fun hc => ?_)
  · have h := h.1 hc
    refine s_iload_n C dX9_file_12 rfl ?_
    refine s_iconst C dX9_file_13 (by decide) ?_
    refine s_bipush C dX9_file_14 ⟨rfl, by decide, by decide⟩ ?_
    refine s_callS (av := [(0, l2), (0, 0), (0, 15)]) (rest := []) (mc := 0) (ms := 0) C dX9_file_16 lk_X9_95 rfl rfl (Nat.le_of_ble_eq_true rfl) (by decide) (by decide) (pc_X9_within) (fun z5 wz5 Mz5 hq => ?_)
    obtain ⟨hq1, hq2, hq3⟩ := hq
    have hq2 := hq2.symm
    have hq3 := hq3.symm
    subst hq1 hq2 hq3
    refine s_ifne C dX9_file_19 rfl (fun hc => ?_) (fun hc => ?_)
    · have h := h.1 (b2i_n0 hc)
      refine s_aload_n C dX9_file_25 rfl ?_
      obtain ⟨o6, h⟩ := h
      refine gf_X9_172 (v0 := (M (pcO M l1) 10)) C o6 dX9_file_26 rfl ?_
      refine s_istore (ls' := [(2, 1), (0, l1), (0, l2), (2, (pcO M l1)), (0, (M (pcO M l1) 10))]) C dX9_file_29 (by decide) rfl rfl ?_
      refine s_aload_n C dX9_file_31 rfl ?_
      refine s_iload_n C dX9_file_32 rfl ?_
      refine pf_X9_172 C o6 (fun _ => by decide) dX9_file_33 ?_
      refine s_iload C dX9_file_36 rfl ?_
      exact s_ireturn C dX9_file_38 h
    · have h := h.2 (b2i_nn hc)
      refine s_bipush C dX9_file_22 ⟨rfl, by decide, by decide⟩ ?_
      exact s_ireturn C dX9_file_24 h
  · have h := h.2 hc
    refine s_iconst C dX9_file_10 (by decide) ?_
    exact s_ireturn C dX9_file_11 h
theorem E_X9_file {G : GP} {l : Launch} {P : Int → NS → MM → Prop} {l1 : Int} {l2 : Int} {w : NS} {M : MM} (h : inR l1 → inR l2 → ∀ X : BX, X.2.1 = l → CX_X9_file G X → A_X9_file_0 G X P l1 l2 w M) : CT_X9_file G l [(2, 1), (0, l1), (0, l2)] w M P :=
  CT.of RX9 "file" (by decide +kernel) rfl rfl rfl (Nat.le_of_ble_eq_true rfl) (fun hr X hX C => h (hr (0, l1) (by simp)) (hr (0, l2) (by simp)) X hX C)
def A_X9_old_0 (G : GP) (X : BX) (P : Int → NS → MM → Prop) (l1 : Int) (l2 : Int) (l3 : Int) (l4 : Int) (w : NS) (M : MM) : Prop := WA true G X (QM G X true 0 P) 8 0 [(2, 1), (0, l1), (0, l2), (0, l3), (0, l4), (3, 0), (3, 0), (3, 0)] [] 0 0 w M
def A_X9_old_32 (G : GP) (X : BX) (P : Int → NS → MM → Prop) (l1 : Int) (l2 : Int) (l3 : Int) (l4 : Int) (l5 : Int) (l6 : Int) (w : NS) (M : MM) : Prop := WA true G X (QM G X true 0 P) 8 32 [(2, 1), (0, l1), (0, l2), (0, l3), (0, l4), (0, l5), (0, l6), (3, 0)] [] 0 0 w M
set_option maxHeartbeats 4000000 in
set_option maxRecDepth 100000 in
theorem B_X9_old_0 {G : GP} {X : BX} {P : Int → NS → MM → Prop} {l1 : Int} {l2 : Int} {l3 : Int} {l4 : Int} {w : NS} {M : MM} (C : CX_X9_old G X) (h : ((((0 ≤ l1 ∧ l1 ≤ 3)) → (((¬ (0 ≤ l2 ∧ l2 ≤ 99)) → P (-2) w M) ∧ (((0 ≤ l2 ∧ l2 ≤ 99)) → ((((0 ≤ l3 ∧ l3 ≤ 99)) → A_X9_old_32 G X P l1 l2 l3 l4 0 0 w M) ∧ ((¬ (0 ≤ l3 ∧ l3 ≤ 99)) → P (-2) w M))))) ∧ ((¬ (0 ≤ l1 ∧ l1 ≤ 3)) → P (-1) w M))) : A_X9_old_0 G X P l1 l2 l3 l4 w M := by
  unfold A_X9_old_0
  refine s_iload_n C dX9_old_0 rfl ?_
  refine s_callS (av := [(0, l1)]) (rest := []) (mc := 0) (ms := 0) C dX9_old_1 lk_X9_235 rfl rfl (Nat.le_of_ble_eq_true rfl) (by decide) (by decide) (pc_X9_isName) (fun z1 wz1 Mz1 hq => ?_)
  obtain ⟨hq1, hq2, hq3⟩ := hq
  have hq2 := hq2.symm
  have hq3 := hq3.symm
  subst hq1 hq2 hq3
  refine s_ifne C dX9_old_4 rfl (fun hc => ?_) (fun hc => ?_)
  · have h := h.1 (b2i_n0 hc)
    refine s_iload_n C dX9_old_9 rfl ?_
    refine s_callS (av := [(0, l2)]) (rest := []) (mc := 0) (ms := 0) C dX9_old_10 lk_X9_99 rfl rfl (Nat.le_of_ble_eq_true rfl) (by decide) (by decide) (pc_X9_isDay) (fun z2 wz2 Mz2 hq => ?_)
    obtain ⟨hq1, hq2, hq3⟩ := hq
    have hq2 := hq2.symm
    have hq3 := hq3.symm
    subst hq1 hq2 hq3
    refine s_ifeq C dX9_old_13 rfl (fun hc => ?_) (fun hc => ?_)
    · have h := h.1 (b2i_0.mp hc)
      refine s_bipush C dX9_old_23 ⟨rfl, by decide, by decide⟩ ?_
      exact s_ireturn C dX9_old_25 h
    · have h := h.2 (b2i_n0 hc)
      refine s_iload_n C dX9_old_16 rfl ?_
      refine s_callS (av := [(0, l3)]) (rest := []) (mc := 0) (ms := 0) C dX9_old_17 lk_X9_99 rfl rfl (Nat.le_of_ble_eq_true rfl) (by decide) (by decide) (pc_X9_isDay) (fun z3 wz3 Mz3 hq => ?_)
      obtain ⟨hq1, hq2, hq3⟩ := hq
      have hq2 := hq2.symm
      have hq3 := hq3.symm
      subst hq1 hq2 hq3
      refine s_ifne C dX9_old_20 rfl (fun hc => ?_) (fun hc => ?_)
      · have h := h.1 (b2i_n0 hc)
        refine s_iconst C dX9_old_26 (by decide) ?_
        refine s_istore (ls' := [(2, 1), (0, l1), (0, l2), (0, l3), (0, l4), (0, 0), (3, 0), (3, 0)]) C dX9_old_27 (by decide) rfl rfl ?_
        refine s_iconst C dX9_old_29 (by decide) ?_
        refine s_istore (ls' := [(2, 1), (0, l1), (0, l2), (0, l3), (0, l4), (0, 0), (0, 0), (3, 0)]) C dX9_old_30 (by decide) rfl rfl ?_
        exact h
      · have h := h.2 (b2i_nn hc)
        refine s_bipush C dX9_old_23 ⟨rfl, by decide, by decide⟩ ?_
        exact s_ireturn C dX9_old_25 h
  · have h := h.2 (b2i_nn hc)
    refine s_iconst C dX9_old_7 (by decide) ?_
    exact s_ireturn C dX9_old_8 h
set_option maxHeartbeats 4000000 in
set_option maxRecDepth 100000 in
theorem B_X9_old_32 {G : GP} {X : BX} {P : Int → NS → MM → Prop} {l1 : Int} {l2 : Int} {l3 : Int} {l4 : Int} {l5 : Int} {l6 : Int} {w : NS} {M : MM} (C : CX_X9_old G X) (h : ((((M 1 4) ≤ l6) → (((l4 ≠ (-1)) → P (-6) w M) ∧ ((¬ (l4 ≠ (-1))) → P l5 w M))) ∧ ((¬ ((M 1 4) ≤ l6)) → (0 ≤ l6) ∧ (l6 < 24) ∧ (w.2 (M 5 l6) = (7, 12)) ∧ (((¬ (zand (zshr (M (M 5 l6) 10) l1) 1 = 1)) → (inR (l6 + 1)) ∧ A_X9_old_32 G X P l1 l2 l3 l4 l5 (l6 + 1) w M) ∧ (((zand (zshr (M (M 5 l6) 10) l1) 1 = 1)) → (w.2 (M (M 5 l6) 1) = (5, 5)) ∧ (((¬ (l2 ≤ (M (M (M 5 l6) 1) 2) ∧ (M (M (M 5 l6) 1) 2) ≤ l3)) → (inR (l6 + 1)) ∧ A_X9_old_32 G X P l1 l2 l3 l4 l5 (l6 + 1) w M) ∧ (((l2 ≤ (M (M (M 5 l6) 1) 2) ∧ (M (M (M 5 l6) 1) 2) ≤ l3)) → (((l5 ≠ l4) → (inR (l5 + 1)) ∧ (inR (l6 + 1)) ∧ A_X9_old_32 G X P l1 l2 l3 l4 (l5 + 1) (l6 + 1) w M) ∧ ((¬ (l5 ≠ l4)) → P (M (M 5 l6) 0) w M))))))))) : A_X9_old_32 G X P l1 l2 l3 l4 l5 l6 w M := by
  unfold A_X9_old_32
  refine s_iload C dX9_old_32 rfl ?_
  refine s_aload_n C dX9_old_34 rfl ?_
  refine WA.fix (fun hF1 => ?_)
  refine gf_X9_29 (v0 := (M 1 4)) C (sh_1 hF1) dX9_old_35 rfl ?_
  refine s_icmpge C dX9_old_38 rfl (fun hc => ?_) (fun hc => ?_)
  · have h := h.1 hc
    refine s_iload C dX9_old_100 rfl ?_
    refine s_iconst C dX9_old_102 (by decide) ?_
    refine s_icmpne C dX9_old_103 rfl (fun hc => ?_) (fun hc => ?_)
    · have h := h.1 hc
      refine s_bipush C dX9_old_111 ⟨rfl, by decide, by decide⟩ ?_
      exact s_ireturn C dX9_old_113 h
    · have h := h.2 hc
      refine s_iload C dX9_old_106 rfl ?_
      refine s_goto C dX9_old_108 rfl ?_
      exact s_ireturn C dX9_old_113 h
  · have h := h.2 hc
    refine s_aload_n C dX9_old_41 rfl ?_
    refine gf_X9_32 C (sh_1 hF1) dX9_old_42 (fx_1_5 hF1) ?_
    refine s_iload C dX9_old_45 rfl ?_
    obtain ⟨o2, h⟩ := h
    obtain ⟨o3, h⟩ := h
    refine s_aald (v0 := (M 5 l6)) (t0 := 6) C (sh_5 hF1) (by decide) rfl o2 o3 dX9_old_47 rfl ?_
    refine s_astore (ls' := [(2, 1), (0, l1), (0, l2), (0, l3), (0, l4), (0, l5), (0, l6), (2, (M 5 l6))]) C dX9_old_48 (by decide) rfl rfl ?_
    refine s_aload C dX9_old_50 rfl ?_
    obtain ⟨o4, h⟩ := h
    refine gf_X9_172 (v0 := (M (M 5 l6) 10)) C o4 dX9_old_52 rfl ?_
    refine s_iload_n C dX9_old_55 rfl ?_
    refine s_callS (av := [(0, (M (M 5 l6) 10)), (0, l1)]) (rest := []) (mc := 0) (ms := 0) C dX9_old_56 lk_X9_292 rfl rfl (Nat.le_of_ble_eq_true rfl) (by decide) (by decide) (pc_X9_hasBit) (fun z5 wz5 Mz5 hq => ?_)
    obtain ⟨hq1, hq2, hq3⟩ := hq
    have hq2 := hq2.symm
    have hq3 := hq3.symm
    subst hq1 hq2 hq3
    refine s_ifeq C dX9_old_59 rfl (fun hc => ?_) (fun hc => ?_)
    · have h := h.1 (b2i_0.mp hc)
      obtain ⟨o6, h⟩ := h
      refine s_iinc (ls' := [(2, 1), (0, l1), (0, l2), (0, l3), (0, l4), (0, l5), (0, (l6 + 1)), (2, (M 5 l6))]) C dX9_old_94 (by decide) rfl o6 rfl rfl ?_
      refine s_goto C dX9_old_97 rfl ?_
      exact WA.wk h ⟨Or.inr rfl, Or.inr rfl, Or.inr rfl, Or.inr rfl, Or.inr rfl, Or.inr rfl, Or.inr rfl, Or.inl rfl, trivial⟩
    · have h := h.2 (b2i_n0 hc)
      refine s_aload C dX9_old_62 rfl ?_
      refine gf_X9_166 (v0 := (M (M 5 l6) 1)) C o4 dX9_old_64 rfl ?_
      obtain ⟨o7, h⟩ := h
      refine gf_X9_131 (v0 := (M (M (M 5 l6) 1) 2)) C o7 dX9_old_67 rfl ?_
      refine s_iload_n C dX9_old_70 rfl ?_
      refine s_iload_n C dX9_old_71 rfl ?_
      refine s_callS (av := [(0, (M (M (M 5 l6) 1) 2)), (0, l2), (0, l3)]) (rest := []) (mc := 0) (ms := 0) C dX9_old_72 lk_X9_95 rfl rfl (Nat.le_of_ble_eq_true rfl) (by decide) (by decide) (pc_X9_within) (fun z8 wz8 Mz8 hq => ?_)
      obtain ⟨hq1, hq2, hq3⟩ := hq
      have hq2 := hq2.symm
      have hq3 := hq3.symm
      subst hq1 hq2 hq3
      refine s_ifeq C dX9_old_75 rfl (fun hc => ?_) (fun hc => ?_)
      · have h := h.1 (b2i_0.mp hc)
        obtain ⟨o9, h⟩ := h
        refine s_iinc (ls' := [(2, 1), (0, l1), (0, l2), (0, l3), (0, l4), (0, l5), (0, (l6 + 1)), (2, (M 5 l6))]) C dX9_old_94 (by decide) rfl o9 rfl rfl ?_
        refine s_goto C dX9_old_97 rfl ?_
        exact WA.wk h ⟨Or.inr rfl, Or.inr rfl, Or.inr rfl, Or.inr rfl, Or.inr rfl, Or.inr rfl, Or.inr rfl, Or.inl rfl, trivial⟩
      · have h := h.2 (b2i_n0 hc)
        refine s_iload C dX9_old_78 rfl ?_
        refine s_iload C dX9_old_80 rfl ?_
        refine s_icmpne C dX9_old_82 rfl (fun hc => ?_) (fun hc => ?_)
        · have h := h.1 hc
          obtain ⟨o10, h⟩ := h
          refine s_iinc (ls' := [(2, 1), (0, l1), (0, l2), (0, l3), (0, l4), (0, (l5 + 1)), (0, l6), (2, (M 5 l6))]) C dX9_old_91 (by decide) rfl o10 rfl rfl ?_
          obtain ⟨o11, h⟩ := h
          refine s_iinc (ls' := [(2, 1), (0, l1), (0, l2), (0, l3), (0, l4), (0, (l5 + 1)), (0, (l6 + 1)), (2, (M 5 l6))]) C dX9_old_94 (by decide) rfl o11 rfl rfl ?_
          refine s_goto C dX9_old_97 rfl ?_
          exact WA.wk h ⟨Or.inr rfl, Or.inr rfl, Or.inr rfl, Or.inr rfl, Or.inr rfl, Or.inr rfl, Or.inr rfl, Or.inl rfl, trivial⟩
        · have h := h.2 hc
          refine s_aload C dX9_old_85 rfl ?_
          refine gf_X9_324 (v0 := (M (M 5 l6) 0)) C o4 dX9_old_87 rfl ?_
          exact s_ireturn C dX9_old_90 h
theorem E_X9_old {G : GP} {l : Launch} {P : Int → NS → MM → Prop} {l1 : Int} {l2 : Int} {l3 : Int} {l4 : Int} {w : NS} {M : MM} (h : inR l1 → inR l2 → inR l3 → inR l4 → ∀ X : BX, X.2.1 = l → CX_X9_old G X → A_X9_old_0 G X P l1 l2 l3 l4 w M) : CT_X9_old G l [(2, 1), (0, l1), (0, l2), (0, l3), (0, l4)] w M P :=
  CT.of RX9 "old" (by decide +kernel) rfl rfl rfl (Nat.le_of_ble_eq_true rfl) (fun hr X hX C => h (hr (0, l1) (by simp)) (hr (0, l2) (by simp)) (hr (0, l3) (by simp)) (hr (0, l4) (by simp)) X hX C)
def A_X9_countSent_0 (G : GP) (X : BX) (P : Int → NS → MM → Prop) (w : NS) (M : MM) : Prop := WA true G X (QM G X true 0 P) 3 0 [(2, 1), (3, 0), (3, 0)] [] 0 0 w M
def A_X9_countSent_4 (G : GP) (X : BX) (P : Int → NS → MM → Prop) (l1 : Int) (l2 : Int) (w : NS) (M : MM) : Prop := WA true G X (QM G X true 0 P) 3 4 [(2, 1), (0, l1), (0, l2)] [] 0 0 w M
set_option maxHeartbeats 4000000 in
set_option maxRecDepth 100000 in
theorem B_X9_countSent_0 {G : GP} {X : BX} {P : Int → NS → MM → Prop} {w : NS} {M : MM} (C : CX_X9_countSent G X) (h : A_X9_countSent_4 G X P 0 0 w M) : A_X9_countSent_0 G X P w M := by
  unfold A_X9_countSent_0
  refine s_iconst C dX9_countSent_0 (by decide) ?_
  refine s_istore_n (ls' := [(2, 1), (0, 0), (3, 0)]) C dX9_countSent_1 (by decide) rfl rfl ?_
  refine s_iconst C dX9_countSent_2 (by decide) ?_
  refine s_istore_n (ls' := [(2, 1), (0, 0), (0, 0)]) C dX9_countSent_3 (by decide) rfl rfl ?_
  exact h
set_option maxHeartbeats 4000000 in
set_option maxRecDepth 100000 in
theorem B_X9_countSent_4 {G : GP} {X : BX} {P : Int → NS → MM → Prop} {l1 : Int} {l2 : Int} {w : NS} {M : MM} (C : CX_X9_countSent G X) (h : ((((M 1 4) ≤ l2) → P l1 w M) ∧ ((¬ ((M 1 4) ≤ l2)) → (0 ≤ l2) ∧ (l2 < 24) ∧ (w.2 (M 4 l2) = (7, 12)) ∧ (0 ≤ (M (M 4 l2) 11)) ∧ ((M (M 4 l2) 11) < 16777216) ∧ (inR (l1 + (popc (M (M 4 l2) 11)))) ∧ (inR (l2 + 1)) ∧ A_X9_countSent_4 G X P (l1 + (popc (M (M 4 l2) 11))) (l2 + 1) w M))) : A_X9_countSent_4 G X P l1 l2 w M := by
  unfold A_X9_countSent_4
  refine s_iload_n C dX9_countSent_4 rfl ?_
  refine s_aload_n C dX9_countSent_5 rfl ?_
  refine WA.fix (fun hF1 => ?_)
  refine gf_X9_29 (v0 := (M 1 4)) C (sh_1 hF1) dX9_countSent_6 rfl ?_
  refine s_icmpge C dX9_countSent_9 rfl (fun hc => ?_) (fun hc => ?_)
  · have h := h.1 hc
    refine s_iload_n C dX9_countSent_33 rfl ?_
    exact s_ireturn C dX9_countSent_34 h
  · have h := h.2 hc
    refine s_iload_n C dX9_countSent_12 rfl ?_
    refine s_aload_n C dX9_countSent_13 rfl ?_
    refine gf_X9_25 C (sh_1 hF1) dX9_countSent_14 (fx_1_3 hF1) ?_
    refine s_iload_n C dX9_countSent_17 rfl ?_
    obtain ⟨o2, h⟩ := h
    obtain ⟨o3, h⟩ := h
    refine s_aald (v0 := (M 4 l2)) (t0 := 6) C (sh_4 hF1) (by decide) rfl o2 o3 dX9_countSent_18 rfl ?_
    obtain ⟨o4, h⟩ := h
    refine gf_X9_174 (v0 := (M (M 4 l2) 11)) C o4 dX9_countSent_19 rfl ?_
    obtain ⟨o5, h⟩ := h
    obtain ⟨o6, h⟩ := h
    refine s_callS (av := [(0, (M (M 4 l2) 11))]) (rest := [(0, l1)]) (mc := 0) (ms := 0) C dX9_countSent_22 lk_X9_268 rfl rfl (Nat.le_of_ble_eq_true rfl) (by decide) (by decide) (pc_J6_bitCount o5 o6) (fun z7 wz7 Mz7 hq => ?_)
    obtain ⟨hq1, hq2, hq3⟩ := hq
    have hq2 := hq2.symm
    have hq3 := hq3.symm
    subst hq1 hq2 hq3
    obtain ⟨o8, h⟩ := h
    refine s_iadd C dX9_countSent_25 o8 ?_
    refine s_istore_n (ls' := [(2, 1), (0, (l1 + (popc (M (M 4 l2) 11)))), (0, l2)]) C dX9_countSent_26 (by decide) rfl rfl ?_
    obtain ⟨o9, h⟩ := h
    refine s_iinc (ls' := [(2, 1), (0, (l1 + (popc (M (M 4 l2) 11)))), (0, (l2 + 1))]) C dX9_countSent_27 (by decide) rfl o9 rfl rfl ?_
    refine s_goto C dX9_countSent_30 rfl ?_
    exact h
theorem E_X9_countSent {G : GP} {l : Launch} {P : Int → NS → MM → Prop} {w : NS} {M : MM} (h : ∀ X : BX, X.2.1 = l → CX_X9_countSent G X → A_X9_countSent_0 G X P w M) : CT_X9_countSent G l [(2, 1)] w M P :=
  CT.of RX9 "countSent" (by decide +kernel) rfl rfl rfl (Nat.le_of_ble_eq_true rfl) (fun hr X hX C => h  X hX C)
def A_X9_countMissed_0 (G : GP) (X : BX) (P : Int → NS → MM → Prop) (w : NS) (M : MM) : Prop := WA true G X (QM G X true 0 P) 3 0 [(2, 1), (3, 0), (3, 0)] [] 0 0 w M
def A_X9_countMissed_4 (G : GP) (X : BX) (P : Int → NS → MM → Prop) (l1 : Int) (l2 : Int) (w : NS) (M : MM) : Prop := WA true G X (QM G X true 0 P) 3 4 [(2, 1), (0, l1), (0, l2)] [] 0 0 w M
set_option maxHeartbeats 4000000 in
set_option maxRecDepth 100000 in
theorem B_X9_countMissed_0 {G : GP} {X : BX} {P : Int → NS → MM → Prop} {w : NS} {M : MM} (C : CX_X9_countMissed G X) (h : A_X9_countMissed_4 G X P 0 0 w M) : A_X9_countMissed_0 G X P w M := by
  unfold A_X9_countMissed_0
  refine s_iconst C dX9_countMissed_0 (by decide) ?_
  refine s_istore_n (ls' := [(2, 1), (0, 0), (3, 0)]) C dX9_countMissed_1 (by decide) rfl rfl ?_
  refine s_iconst C dX9_countMissed_2 (by decide) ?_
  refine s_istore_n (ls' := [(2, 1), (0, 0), (0, 0)]) C dX9_countMissed_3 (by decide) rfl rfl ?_
  exact h
set_option maxHeartbeats 4000000 in
set_option maxRecDepth 100000 in
theorem B_X9_countMissed_4 {G : GP} {X : BX} {P : Int → NS → MM → Prop} {l1 : Int} {l2 : Int} {w : NS} {M : MM} (C : CX_X9_countMissed G X) (h : (((6 ≤ l2) → P l1 w M) ∧ ((¬ (6 ≤ l2)) → (0 ≤ l2) ∧ (l2 < 6) ∧ (inR (l1 + (M 24 l2))) ∧ (inR (l2 + 1)) ∧ A_X9_countMissed_4 G X P (l1 + (M 24 l2)) (l2 + 1) w M))) : A_X9_countMissed_4 G X P l1 l2 w M := by
  unfold A_X9_countMissed_4
  refine s_iload_n C dX9_countMissed_4 rfl ?_
  refine s_bipush C dX9_countMissed_5 ⟨rfl, by decide, by decide⟩ ?_
  refine s_icmpge C dX9_countMissed_7 rfl (fun hc => ?_) (fun hc => ?_)
  · have h := h.1 hc
    refine s_iload_n C dX9_countMissed_25 rfl ?_
    exact s_ireturn C dX9_countMissed_26 h
  · have h := h.2 hc
    refine s_iload_n C dX9_countMissed_10 rfl ?_
    refine s_aload_n C dX9_countMissed_11 rfl ?_
    refine WA.fix (fun hF1 => ?_)
    refine gf_X9_90 C (sh_1 hF1) dX9_countMissed_12 (fx_1_16 hF1) ?_
    refine s_iload_n C dX9_countMissed_15 rfl ?_
    obtain ⟨o2, h⟩ := h
    obtain ⟨o3, h⟩ := h
    refine s_iald (v0 := (M 24 l2)) C (sh_24 hF1) o2 o3 dX9_countMissed_16 rfl ?_
    obtain ⟨o4, h⟩ := h
    refine s_iadd C dX9_countMissed_17 o4 ?_
    refine s_istore_n (ls' := [(2, 1), (0, (l1 + (M 24 l2))), (0, l2)]) C dX9_countMissed_18 (by decide) rfl rfl ?_
    obtain ⟨o5, h⟩ := h
    refine s_iinc (ls' := [(2, 1), (0, (l1 + (M 24 l2))), (0, (l2 + 1))]) C dX9_countMissed_19 (by decide) rfl o5 rfl rfl ?_
    refine s_goto C dX9_countMissed_22 rfl ?_
    exact h
theorem E_X9_countMissed {G : GP} {l : Launch} {P : Int → NS → MM → Prop} {w : NS} {M : MM} (h : ∀ X : BX, X.2.1 = l → CX_X9_countMissed G X → A_X9_countMissed_0 G X P w M) : CT_X9_countMissed G l [(2, 1)] w M P :=
  CT.of RX9 "countMissed" (by decide +kernel) rfl rfl rfl (Nat.le_of_ble_eq_true rfl) (fun hr X hX C => h  X hX C)
def A_X9_told_0 (G : GP) (X : BX) (P : Int → NS → MM → Prop) (l1 : Int) (w : NS) (M : MM) : Prop := WA true G X (QM G X true 0 P) 2 0 [(2, 1), (0, l1)] [] 0 0 w M
set_option maxHeartbeats 4000000 in
set_option maxRecDepth 100000 in
theorem B_X9_told_0 {G : GP} {X : BX} {P : Int → NS → MM → Prop} {l1 : Int} {w : NS} {M : MM} (C : CX_X9_told G X) (h : (((¬ (10 ≤ l1 ∧ l1 ≤ 18)) → (((l1 < 0 ∨ 5 < l1) → P (-2) w M) ∧ (l1 = 0 → P (M 1 2) w M) ∧ (l1 = 1 → P (M 1 4) w M) ∧ (l1 = 2 → P (M 1 7) w M) ∧ (l1 = 3 → (w.2 (M 1 8) = (9, 2)) ∧ P (M (M 1 8) 1) w M) ∧ (l1 = 4 → ∃ Q8 : Int → NS → MM → Prop, CT_X9_countSent G X.2.1 [(2, 1)] w M Q8 ∧ ∀ (z8 : Int) (w8 : NS) (M8 : MM), Q8 z8 w8 M8 → P z8 w8 M8) ∧ (l1 = 5 → ∃ Q10 : Int → NS → MM → Prop, CT_X9_countMissed G X.2.1 [(2, 1)] w M Q10 ∧ ∀ (z10 : Int) (w10 : NS) (M10 : MM), Q10 z10 w10 M10 → P z10 w10 M10))) ∧ (((10 ≤ l1 ∧ l1 ≤ 18)) → (inR (l1 - 10)) ∧ (0 ≤ (l1 - 10)) ∧ ((l1 - 10) < 9) ∧ P (M 2 (l1 - 10)) w M))) : A_X9_told_0 G X P l1 w M := by
  unfold A_X9_told_0
  refine s_iload_n C dX9_told_0 rfl ?_
  refine s_bipush C dX9_told_1 ⟨rfl, by decide, by decide⟩ ?_
  refine s_bipush C dX9_told_3 ⟨rfl, by decide, by decide⟩ ?_
  refine s_callS (av := [(0, l1), (0, 10), (0, 18)]) (rest := []) (mc := 0) (ms := 0) C dX9_told_5 lk_X9_95 rfl rfl (Nat.le_of_ble_eq_true rfl) (by decide) (by decide) (pc_X9_within) (fun z1 wz1 Mz1 hq => ?_)
  obtain ⟨hq1, hq2, hq3⟩ := hq
  have hq2 := hq2.symm
  have hq3 := hq3.symm
  subst hq1 hq2 hq3
  refine s_ifeq C dX9_told_8 rfl (fun hc => ?_) (fun hc => ?_)
  · have h := h.1 (b2i_0.mp hc)
    refine s_iload_n C dX9_told_21 rfl ?_
    rcases (show (l1 < 0 ∨ 5 < l1) ∨ l1 = 0 ∨ l1 = 1 ∨ l1 = 2 ∨ l1 = 3 ∨ l1 = 4 ∨ l1 = 5 from by omega) with hc | hc | hc | hc | hc | hc | hc
    · have h := h.1 hc
      refine s_tabOut C dX9_told_22 hc rfl ?_
      refine s_bipush C dX9_told_93 ⟨rfl, by decide, by decide⟩ ?_
      exact s_ireturn C dX9_told_95 h
    · have h := h.2.1 hc
      refine s_tabIn C dX9_told_22 hc (by decide) (by decide) rfl rfl ?_
      refine s_aload_n C dX9_told_60 rfl ?_
      refine WA.fix (fun hF2 => ?_)
      refine gf_X9_19 (v0 := (M 1 2)) C (sh_1 hF2) dX9_told_61 rfl ?_
      exact s_ireturn C dX9_told_64 h
    · have h := h.2.2.1 hc
      refine s_tabIn C dX9_told_22 hc (by decide) (by decide) rfl rfl ?_
      refine s_aload_n C dX9_told_65 rfl ?_
      refine WA.fix (fun hF3 => ?_)
      refine gf_X9_29 (v0 := (M 1 4)) C (sh_1 hF3) dX9_told_66 rfl ?_
      exact s_ireturn C dX9_told_69 h
    · have h := h.2.2.2.1 hc
      refine s_tabIn C dX9_told_22 hc (by decide) (by decide) rfl rfl ?_
      refine s_aload_n C dX9_told_70 rfl ?_
      refine WA.fix (fun hF4 => ?_)
      refine gf_X9_41 (v0 := (M 1 7)) C (sh_1 hF4) dX9_told_71 rfl ?_
      exact s_ireturn C dX9_told_74 h
    · have h := h.2.2.2.2.1 hc
      refine s_tabIn C dX9_told_22 hc (by decide) (by decide) rfl rfl ?_
      refine s_aload_n C dX9_told_75 rfl ?_
      refine WA.fix (fun hF5 => ?_)
      refine gf_X9_47 (v0 := (M 1 8)) C (sh_1 hF5) dX9_told_76 rfl ?_
      obtain ⟨o6, h⟩ := h
      refine gf_X9_192 (v0 := (M (M 1 8) 1)) C o6 dX9_told_79 rfl ?_
      exact s_ireturn C dX9_told_82 h
    · have h := h.2.2.2.2.2.1 hc
      refine s_tabIn C dX9_told_22 hc (by decide) (by decide) rfl rfl ?_
      refine s_aload_n C dX9_told_83 rfl ?_
      refine WA.fix (fun hF7 => ?_)
      obtain ⟨Q8, hKQ8, h⟩ := h
      refine s_callV (ci := 9) (av := []) (rest := []) (mc := 0) (ms := 0) C dX9_told_84 lk_X9_325 (sh_1 hF7) (by decide) rfl rfl rfl (Nat.le_of_ble_eq_true rfl) (by decide) (by decide) hKQ8 (fun z8 w8 M8 hq => ?_)
      have h := h z8 w8 M8 hq
      exact s_ireturn C dX9_told_87 h
    · have h := h.2.2.2.2.2.2 hc
      refine s_tabIn C dX9_told_22 hc (by decide) (by decide) rfl rfl ?_
      refine s_aload_n C dX9_told_88 rfl ?_
      refine WA.fix (fun hF9 => ?_)
      obtain ⟨Q10, hKQ10, h⟩ := h
      refine s_callV (ci := 9) (av := []) (rest := []) (mc := 0) (ms := 0) C dX9_told_89 lk_X9_328 (sh_1 hF9) (by decide) rfl rfl rfl (Nat.le_of_ble_eq_true rfl) (by decide) (by decide) hKQ10 (fun z10 w10 M10 hq => ?_)
      have h := h z10 w10 M10 hq
      exact s_ireturn C dX9_told_92 h
  · have h := h.2 (b2i_n0 hc)
    refine s_aload_n C dX9_told_11 rfl ?_
    refine WA.fix (fun hF11 => ?_)
    refine gf_X9_7 C (sh_1 hF11) dX9_told_12 (fx_1_0 hF11) ?_
    refine s_iload_n C dX9_told_15 rfl ?_
    refine s_bipush C dX9_told_16 ⟨rfl, by decide, by decide⟩ ?_
    obtain ⟨o12, h⟩ := h
    refine s_isub C dX9_told_18 o12 ?_
    obtain ⟨o13, h⟩ := h
    obtain ⟨o14, h⟩ := h
    refine s_iald (v0 := (M 2 (l1 - 10))) C (sh_2 hF11) o13 o14 dX9_told_19 rfl ?_
    exact s_ireturn C dX9_told_20 h
theorem E_X9_told {G : GP} {l : Launch} {P : Int → NS → MM → Prop} {l1 : Int} {w : NS} {M : MM} (h : inR l1 → ∀ X : BX, X.2.1 = l → CX_X9_told G X → A_X9_told_0 G X P l1 w M) : CT_X9_told G l [(2, 1), (0, l1)] w M P :=
  CT.of RX9 "told" (by decide +kernel) rfl rfl rfl (Nat.le_of_ble_eq_true rfl) (fun hr X hX C => h (hr (0, l1) (by simp)) X hX C)
