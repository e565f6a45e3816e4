def A_X3_asksFor_0 (G : GP) (X : BX) (P : Int → NS → MM → Prop) (l0 : Int) (l1 : Int) (w : NS) (M : MM) : Prop := WA true G X (QM G X true 0 P) 3 0 [(2, l0), (2, l1), (3, 0)] [] 0 0 w M
set_option maxHeartbeats 4000000 in
set_option maxRecDepth 100000 in
theorem B_X3_asksFor_0 {G : GP} {X : BX} {P : Int → NS → MM → Prop} {l0 : Int} {l1 : Int} {w : NS} {M : MM} (C : CX_X3_asksFor G X) (h : (w.2 l1 = (7, 12)) ∧ (w.2 (M l1 1) = (5, 5)) ∧ (w.2 l0 = (4, 7)) ∧ ((((M (M l1 1) 2) < (M l0 3)) → P 0 w M) ∧ ((¬ ((M (M l1 1) 2) < (M l0 3))) → ((((M l0 4) < (M (M l1 1) 2)) → P 0 w M) ∧ ((¬ ((M l0 4) < (M (M l1 1) 2))) → (((¬ (zand (zshr (M l0 2) (M (M l1 1) 1)) 1 = 1)) → P 0 w M) ∧ (((zand (zshr (M l0 2) (M (M l1 1) 1)) 1 = 1)) → (w.2 (M l0 1) = (9, 2)) ∧ ∃ Q6 : Int → NS → MM → Prop, CT_X8_isSo G X.2.1 [(2, (M l0 1)), (2, l1)] w M Q6 ∧ ∀ (z6 : Int) (w6 : NS) (M6 : MM), Q6 z6 w6 M6 → (((z6 = 0) → P 0 w6 M6) ∧ ((¬ (z6 = 0)) → P 1 w6 M6))))))))) : A_X3_asksFor_0 G X P l0 l1 w M := by
  unfold A_X3_asksFor_0
  refine s_aload_n C (d_of DX3_asksFor 0 rfl) rfl ?_
  obtain ⟨o1, h⟩ := h
  refine gf_X3_33 (v0 := (M l1 1)) C o1 (d_of DX3_asksFor 1 rfl) rfl ?_
  refine s_astore_n (ls' := [(2, l0), (2, l1), (2, (M l1 1))]) C (d_of DX3_asksFor 2 rfl) (by decide) rfl rfl ?_
  refine s_aload_n C (d_of DX3_asksFor 3 rfl) rfl ?_
  obtain ⟨o2, h⟩ := h
  refine gf_X3_39 (v0 := (M (M l1 1) 2)) C o2 (d_of DX3_asksFor 4 rfl) rfl ?_
  refine s_aload_n C (d_of DX3_asksFor 5 rfl) rfl ?_
  obtain ⟨o3, h⟩ := h
  refine gf_X3_20 (v0 := (M l0 3)) C o3 (d_of DX3_asksFor 6 rfl) rfl ?_
  refine s_icmplt C (d_of DX3_asksFor 7 rfl) rfl (fun hc => ?_) (fun hc => ?_)
  · have h := h.1 hc
    refine s_iconst C (d_of DX3_asksFor 26 rfl) (by decide) ?_
    exact s_zreturn C (d_of DX3_asksFor 27 rfl) (by decide) h
  · have h := h.2 hc
    refine s_aload_n C (d_of DX3_asksFor 8 rfl) rfl ?_
    refine gf_X3_39 (v0 := (M (M l1 1) 2)) C o2 (d_of DX3_asksFor 9 rfl) rfl ?_
    refine s_aload_n C (d_of DX3_asksFor 10 rfl) rfl ?_
    refine gf_X3_23 (v0 := (M l0 4)) C o3 (d_of DX3_asksFor 11 rfl) rfl ?_
    refine s_icmpgt C (d_of DX3_asksFor 12 rfl) rfl (fun hc => ?_) (fun hc => ?_)
    · have h := h.1 hc
      refine s_iconst C (d_of DX3_asksFor 26 rfl) (by decide) ?_
      exact s_zreturn C (d_of DX3_asksFor 27 rfl) (by decide) h
    · have h := h.2 hc
      refine s_aload_n C (d_of DX3_asksFor 13 rfl) rfl ?_
      refine gf_X3_17 (v0 := (M l0 2)) C o3 (d_of DX3_asksFor 14 rfl) rfl ?_
      refine s_aload_n C (d_of DX3_asksFor 15 rfl) rfl ?_
      refine gf_X3_44 (v0 := (M (M l1 1) 1)) C o2 (d_of DX3_asksFor 16 rfl) rfl ?_
      refine s_callSN (av := [(0, (M l0 2)), (0, (M (M l1 1) 1))]) (rest := []) (mc := 0) (ms := 0) C (d_of DX3_asksFor 17 rfl) lk_X3_47 rfl rfl (Nat.le_of_ble_eq_true rfl) (by decide) (by decide) (pc_X9_hasBit) (fun z4 wz4 Mz4 hq => ?_)
      obtain ⟨hq1, hq2, hq3⟩ := hq
      have hq2 := hq2.symm
      have hq3 := hq3.symm
      subst hq1 hq2 hq3
      refine s_ifeq C (d_of DX3_asksFor 18 rfl) rfl (fun hc => ?_) (fun hc => ?_)
      · have h := h.1 (b2i_0.mp hc)
        refine s_iconst C (d_of DX3_asksFor 26 rfl) (by decide) ?_
        exact s_zreturn C (d_of DX3_asksFor 27 rfl) (by decide) h
      · have h := h.2 (b2i_n0 hc)
        refine s_aload_n C (d_of DX3_asksFor 19 rfl) rfl ?_
        refine gf_X3_13 (v0 := (M l0 1)) C o3 (d_of DX3_asksFor 20 rfl) rfl ?_
        refine s_aload_n C (d_of DX3_asksFor 21 rfl) rfl ?_
        obtain ⟨o5, h⟩ := h
        obtain ⟨Q6, hKQ6, h⟩ := h
        refine s_callV (ci := 8) (av := [(2, l1)]) (rest := []) (mc := 0) (ms := 0) C (d_of DX3_asksFor 22 rfl) lk_X3_53 o5 (by decide) rfl rfl rfl (Nat.le_of_ble_eq_true rfl) (by decide) (by decide) hKQ6 (fun z6 w6 M6 hq => ?_)
        have h := h z6 w6 M6 hq
        refine s_ifeq C (d_of DX3_asksFor 23 rfl) rfl (fun hc => ?_) (fun hc => ?_)
        · have h := h.1 hc
          refine s_iconst C (d_of DX3_asksFor 26 rfl) (by decide) ?_
          exact s_zreturn C (d_of DX3_asksFor 27 rfl) (by decide) h
        · have h := h.2 hc
          refine s_iconst C (d_of DX3_asksFor 24 rfl) (by decide) ?_
          refine s_goto C (d_of DX3_asksFor 25 rfl) rfl ?_
          exact s_zreturn C (d_of DX3_asksFor 27 rfl) (by decide) h
theorem E_X3_asksFor {G : GP} {l : Launch} {P : Int → NS → MM → Prop} {l0 : Int} {l1 : Int} {w : NS} {M : MM} (h : ∀ X : BX, X.2.1 = l → CX_X3_asksFor G X → A_X3_asksFor_0 G X P l0 l1 w M) : CT_X3_asksFor G l [(2, l0), (2, l1)] w M P :=
  CT.of RX3 "asksFor" (by decide +kernel) rfl rfl rfl (Nat.le_of_ble_eq_true rfl) (fun hr X hX C => h  X hX C)
def A_X9_wants_0 (G : GP) (X : BX) (P : Int → NS → MM → Prop) (l1 : Int) (l2 : Int) (l3 : Int) (w : NS) (M : MM) : Prop := WA true G X (QM G X true 0 P) 6 0 [(2, 1), (0, l1), (0, l2), (0, l3), (3, 0), (3, 0)] [] 0 0 w M
set_option maxHeartbeats 4000000 in
set_option maxRecDepth 100000 in
theorem B_X9_wants_0 {G : GP} {X : BX} {P : Int → NS → MM → Prop} {l1 : Int} {l2 : Int} {l3 : Int} {w : NS} {M : MM} (C : CX_X9_wants G X) (h : (0 ≤ M 1 7) ∧ (M 1 7 ≤ 10) ∧ (0 ≤ M 1 4) ∧ (M 1 4 ≤ 24) ∧ ((((orO M l1) = 0) → P (-1) w M) ∧ ((¬ ((orO M l1) = 0)) → ((((pcO M l2) ≠ 0) → (((l3 ≠ 0 ∧ l3 ≠ 1) → P (-2) w M) ∧ (l3 = 0 → (w.2 (orO M l1) = (4, 7)) ∧ ∃ Q9 : Int → NS → MM → Prop, CT_X3_asksFor G X.2.1 [(2, (orO M l1)), (2, (pcO M l2))] w M Q9 ∧ ∀ (z9 : Int) (w9 : NS) (M9 : MM), Q9 z9 w9 M9 → P (b2i (z9 ≠ 0)) w9 M9) ∧ (l3 = 1 → (w.2 (orO M l1) = (4, 7)) ∧ (w.2 (M (orO M l1) 1) = (9, 2)) ∧ ∃ Q13 : Int → NS → MM → Prop, CT_X8_isSo G X.2.1 [(2, (M (orO M l1) 1)), (2, (pcO M l2))] w M Q13 ∧ ∀ (z13 : Int) (w13 : NS) (M13 : MM), Q13 z13 w13 M13 → P (b2i (z13 ≠ 0)) w13 M13))) ∧ ((¬ ((pcO M l2) ≠ 0)) → P (-1) w M))))) : A_X9_wants_0 G X P l1 l2 l3 w M := by
  unfold A_X9_wants_0
  refine s_aload_n C (d_of DX9_wants 0 rfl) rfl ?_
  refine s_iload_n C (d_of DX9_wants 1 rfl) rfl ?_
  refine WA.fix (fun hF1 => ?_)
  obtain ⟨o2, h⟩ := h
  obtain ⟨o3, h⟩ := h
  refine s_callV (ci := 9) (av := [(0, l1)]) (rest := []) (mc := 0) (ms := 0) C (d_of DX9_wants 2 rfl) lk_X9_208 (sh_1 hF1) (by decide) rfl rfl rfl (Nat.le_of_ble_eq_true rfl) (by decide) (by decide) (pc_X9_orderOf o2 o3) (fun z4 wz4 Mz4 hq => ?_)
  obtain ⟨hq1, hq2, hq3⟩ := hq
  have hq2 := hq2.symm
  have hq3 := hq3.symm
  subst hq1 hq2 hq3
  refine s_astore (ls' := [(2, 1), (0, l1), (0, l2), (0, l3), (2, (orO M l1)), (3, 0)]) C (d_of DX9_wants 3 rfl) (by decide) rfl rfl ?_
  refine s_aload_n C (d_of DX9_wants 4 rfl) rfl ?_
  refine s_iload_n C (d_of DX9_wants 5 rfl) rfl ?_
  obtain ⟨o5, h⟩ := h
  obtain ⟨o6, h⟩ := h
  refine s_callV (ci := 9) (av := [(0, l2)]) (rest := []) (mc := 0) (ms := 0) C (d_of DX9_wants 6 rfl) lk_X9_158 (sh_1 hF1) (by decide) rfl rfl rfl (Nat.le_of_ble_eq_true rfl) (by decide) (by decide) (pc_X9_pieceOf o5 o6) (fun z7 wz7 Mz7 hq => ?_)
  obtain ⟨hq1, hq2, hq3⟩ := hq
  have hq2 := hq2.symm
  have hq3 := hq3.symm
  subst hq1 hq2 hq3
  refine s_astore (ls' := [(2, 1), (0, l1), (0, l2), (0, l3), (2, (orO M l1)), (2, (pcO M l2))]) C (d_of DX9_wants 7 rfl) (by decide) rfl rfl ?_
  refine s_aload C (d_of DX9_wants 8 rfl) rfl ?_
  refine s_ifnull C (d_of DX9_wants 9 rfl) rfl (fun hc => ?_) (fun hc => ?_)
  · have h := h.1 hc
    refine s_iconst C (d_of DX9_wants 12 rfl) (by decide) ?_
    exact s_ireturn C (d_of DX9_wants 13 rfl) h
  · have h := h.2 hc
    refine s_aload C (d_of DX9_wants 10 rfl) rfl ?_
    refine s_ifnonnull C (d_of DX9_wants 11 rfl) rfl (fun hc => ?_) (fun hc => ?_)
    · have h := h.1 hc
      refine s_iload_n C (d_of DX9_wants 14 rfl) rfl ?_
      rcases (show (l3 ≠ 0 ∧ l3 ≠ 1) ∨ l3 = 0 ∨ l3 = 1 from by omega) with hc | hc | hc
      · have h := h.1 hc
        refine s_lookup (off := 50) (tgt := 77) C (d_of DX9_wants 15 rfl) rfl (by simp [Op.lookupswitch.offset, Ne.symm hc.1, Ne.symm hc.2]) rfl ?_
        refine s_bipush C (d_of DX9_wants 27 rfl) ⟨rfl, by decide, by decide⟩ ?_
        exact s_ireturn C (d_of DX9_wants 28 rfl) h
      · have h := h.2.1 hc
        refine s_lookup (off := 25) (tgt := 52) C (d_of DX9_wants 15 rfl) rfl (by simp [Op.lookupswitch.offset, hc]) rfl ?_
        refine s_aload C (d_of DX9_wants 16 rfl) rfl ?_
        refine s_aload C (d_of DX9_wants 17 rfl) rfl ?_
        obtain ⟨o8, h⟩ := h
        obtain ⟨Q9, hKQ9, h⟩ := h
        refine s_callV (ci := 3) (av := [(2, (pcO M l2))]) (rest := []) (mc := 0) (ms := 0) C (d_of DX9_wants 18 rfl) lk_X9_212 o8 (by decide) rfl rfl rfl (Nat.le_of_ble_eq_true rfl) (by decide) (by decide) hKQ9 (fun z9 w9 M9 hq => ?_)
        have h := h z9 w9 M9 hq
        refine s_callS (av := [(0, z9)]) (rest := []) (mc := 0) (ms := 0) C (d_of DX9_wants 19 rfl) lk_X9_188 rfl rfl (Nat.le_of_ble_eq_true rfl) (by decide) (by decide) (pc_X9_oneIf) (fun z10 wz10 Mz10 hq => ?_)
        obtain ⟨hq1, hq2, hq3⟩ := hq
        have hq2 := hq2.symm
        have hq3 := hq3.symm
        subst hq1 hq2 hq3
        exact s_ireturn C (d_of DX9_wants 20 rfl) h
      · have h := h.2.2 hc
        refine s_lookup (off := 36) (tgt := 63) C (d_of DX9_wants 15 rfl) rfl (by simp [Op.lookupswitch.offset, hc]) rfl ?_
        refine s_aload C (d_of DX9_wants 21 rfl) rfl ?_
        obtain ⟨o11, h⟩ := h
        refine gf_X9_215 (v0 := (M (orO M l1) 1)) C o11 (d_of DX9_wants 22 rfl) rfl ?_
        refine s_aload C (d_of DX9_wants 23 rfl) rfl ?_
        obtain ⟨o12, h⟩ := h
        obtain ⟨Q13, hKQ13, h⟩ := h
        refine s_callV (ci := 8) (av := [(2, (pcO M l2))]) (rest := []) (mc := 0) (ms := 0) C (d_of DX9_wants 24 rfl) lk_X9_218 o12 (by decide) rfl rfl rfl (Nat.le_of_ble_eq_true rfl) (by decide) (by decide) hKQ13 (fun z13 w13 M13 hq => ?_)
        have h := h z13 w13 M13 hq
        refine s_callS (av := [(0, z13)]) (rest := []) (mc := 0) (ms := 0) C (d_of DX9_wants 25 rfl) lk_X9_188 rfl rfl (Nat.le_of_ble_eq_true rfl) (by decide) (by decide) (pc_X9_oneIf) (fun z14 wz14 Mz14 hq => ?_)
        obtain ⟨hq1, hq2, hq3⟩ := hq
        have hq2 := hq2.symm
        have hq3 := hq3.symm
        subst hq1 hq2 hq3
        exact s_ireturn C (d_of DX9_wants 26 rfl) h
    · have h := h.2 hc
      refine s_iconst C (d_of DX9_wants 12 rfl) (by decide) ?_
      exact s_ireturn C (d_of DX9_wants 13 rfl) h
theorem E_X9_wants {G : GP} {l : Launch} {P : Int → NS → MM → Prop} {l1 : Int} {l2 : Int} {l3 : Int} {w : NS} {M : MM} (h : inR l1 → inR l2 → inR l3 → ∀ X : BX, X.2.1 = l → CX_X9_wants G X → A_X9_wants_0 G X P l1 l2 l3 w M) : CT_X9_wants G l [(2, 1), (0, l1), (0, l2), (0, l3)] w M P :=
  CT.of RX9 "wants" (by decide +kernel) rfl rfl rfl (Nat.le_of_ble_eq_true rfl) (fun hr X hX C => h (hr (0, l1) (by simp)) (hr (0, l2) (by simp)) (hr (0, l3) (by simp)) X hX C)
def A_X9_changes_0 (G : GP) (X : BX) (P : Int → NS → MM → Prop) (l1 : Int) (l2 : Int) (w : NS) (M : MM) : Prop := WA true G X (QM G X true 0 P) 5 0 [(2, 1), (0, l1), (0, l2), (3, 0), (3, 0)] [] 0 0 w M
set_option maxHeartbeats 4000000 in
set_option maxRecDepth 100000 in
theorem B_X9_changes_0 {G : GP} {X : BX} {P : Int → NS → MM → Prop} {l1 : Int} {l2 : Int} {w : NS} {M : MM} (C : CX_X9_changes G X) (h : (0 ≤ M 1 4) ∧ (M 1 4 ≤ 24) ∧ ((((pcO M l1) = 0) → P (-1) w M) ∧ ((¬ ((pcO M l1) = 0)) → ((((pcO M l2) ≠ 0) → ∃ Q6 : Int → NS → MM → Prop, CT_X1_leastChanges G X.2.1 [(2, 9), (2, (pcO M l1)), (2, (pcO M l2))] w M Q6 ∧ ∀ (z6 : Int) (w6 : NS) (M6 : MM), Q6 z6 w6 M6 → P z6 w6 M6) ∧ ((¬ ((pcO M l2) ≠ 0)) → P (-1) w M))))) : A_X9_changes_0 G X P l1 l2 w M := by
  unfold A_X9_changes_0
  refine s_aload_n C (d_of DX9_changes 0 rfl) rfl ?_
  refine s_iload_n C (d_of DX9_changes 1 rfl) rfl ?_
  refine WA.fix (fun hF1 => ?_)
  obtain ⟨o2, h⟩ := h
  obtain ⟨o3, h⟩ := h
  refine s_callV (ci := 9) (av := [(0, l1)]) (rest := []) (mc := 0) (ms := 0) C (d_of DX9_changes 2 rfl) lk_X9_158 (sh_1 hF1) (by decide) rfl rfl rfl (Nat.le_of_ble_eq_true rfl) (by decide) (by decide) (pc_X9_pieceOf o2 o3) (fun z4 wz4 Mz4 hq => ?_)
  obtain ⟨hq1, hq2, hq3⟩ := hq
  have hq2 := hq2.symm
  have hq3 := hq3.symm
  subst hq1 hq2 hq3
  refine s_astore_n (ls' := [(2, 1), (0, l1), (0, l2), (2, (pcO M l1)), (3, 0)]) C (d_of DX9_changes 3 rfl) (by decide) rfl rfl ?_
  refine s_aload_n C (d_of DX9_changes 4 rfl) rfl ?_
  refine s_iload_n C (d_of DX9_changes 5 rfl) rfl ?_
  refine s_callV (ci := 9) (av := [(0, l2)]) (rest := []) (mc := 0) (ms := 0) C (d_of DX9_changes 6 rfl) lk_X9_158 (sh_1 hF1) (by decide) rfl rfl rfl (Nat.le_of_ble_eq_true rfl) (by decide) (by decide) (pc_X9_pieceOf o2 o3) (fun z5 wz5 Mz5 hq => ?_)
  obtain ⟨hq1, hq2, hq3⟩ := hq
  have hq2 := hq2.symm
  have hq3 := hq3.symm
  subst hq1 hq2 hq3
  refine s_astore (ls' := [(2, 1), (0, l1), (0, l2), (2, (pcO M l1)), (2, (pcO M l2))]) C (d_of DX9_changes 7 rfl) (by decide) rfl rfl ?_
  refine s_aload_n C (d_of DX9_changes 8 rfl) rfl ?_
  refine s_ifnull C (d_of DX9_changes 9 rfl) rfl (fun hc => ?_) (fun hc => ?_)
  · have h := h.1 hc
    refine s_iconst C (d_of DX9_changes 12 rfl) (by decide) ?_
    exact s_ireturn C (d_of DX9_changes 13 rfl) h
  · have h := h.2 hc
    refine s_aload C (d_of DX9_changes 10 rfl) rfl ?_
    refine s_ifnonnull C (d_of DX9_changes 11 rfl) rfl (fun hc => ?_) (fun hc => ?_)
    · have h := h.1 hc
      refine s_aload_n C (d_of DX9_changes 14 rfl) rfl ?_
      refine gf_X9_54 C (sh_1 hF1) (d_of DX9_changes 15 rfl) (fx_1_9 hF1) ?_
      refine s_aload_n C (d_of DX9_changes 16 rfl) rfl ?_
      refine s_aload C (d_of DX9_changes 17 rfl) rfl ?_
      obtain ⟨Q6, hKQ6, h⟩ := h
      refine s_callV (ci := 1) (av := [(2, (pcO M l1)), (2, (pcO M l2))]) (rest := []) (mc := 0) (ms := 0) C (d_of DX9_changes 18 rfl) lk_X9_221 (sh_9 hF1) (by decide) rfl rfl rfl (Nat.le_of_ble_eq_true rfl) (by decide) (by decide) hKQ6 (fun z6 w6 M6 hq => ?_)
      have h := h z6 w6 M6 hq
      exact s_ireturn C (d_of DX9_changes 19 rfl) h
    · have h := h.2 hc
      refine s_iconst C (d_of DX9_changes 12 rfl) (by decide) ?_
      exact s_ireturn C (d_of DX9_changes 13 rfl) h
theorem E_X9_changes {G : GP} {l : Launch} {P : Int → NS → MM → Prop} {l1 : Int} {l2 : Int} {w : NS} {M : MM} (h : inR l1 → inR l2 → ∀ X : BX, X.2.1 = l → CX_X9_changes G X → A_X9_changes_0 G X P l1 l2 w M) : CT_X9_changes G l [(2, 1), (0, l1), (0, l2)] w M P :=
  CT.of RX9 "changes" (by decide +kernel) rfl rfl rfl (Nat.le_of_ble_eq_true rfl) (fun hr X hX C => h (hr (0, l1) (by simp)) (hr (0, l2) (by simp)) X hX C)
def A_X9_set_0 (G : GP) (X : BX) (P : Int → NS → MM → Prop) (l1 : Int) (l2 : Int) (w : NS) (M : MM) : Prop := WA true G X (QM G X true 0 P) 4 0 [(2, 1), (0, l1), (0, l2), (3, 0)] [] 0 0 w M
set_option maxHeartbeats 4000000 in
set_option maxRecDepth 100000 in
theorem B_X9_set_0 {G : GP} {X : BX} {P : Int → NS → MM → Prop} {l1 : Int} {l2 : Int} {w : NS} {M : MM} (C : CX_X9_set G X) (h : (((¬ (0 ≤ l1 ∧ l1 ≤ 8)) → P (-2) w M) ∧ (((0 ≤ l1 ∧ l1 ≤ 8)) → (0 ≤ l1) ∧ (l1 < 9) ∧ (((((LSf l1.toNat) ≤ l2 ∧ l2 ≤ (GSf l1.toNat))) → (((l1 ≠ 0) → P (M 2 l1) w (up M 2 l1 l2)) ∧ ((¬ (l1 ≠ 0)) → P (M 2 l1) w (up (up M 2 l1 l2) 9 0 0)))) ∧ ((¬ ((LSf l1.toNat) ≤ l2 ∧ l2 ≤ (GSf l1.toNat))) → P (-2) w M))))) : A_X9_set_0 G X P l1 l2 w M := by
  unfold A_X9_set_0
  refine s_iload_n C (d_of DX9_set 0 rfl) rfl ?_
  refine s_iconst C (d_of DX9_set 1 rfl) (by decide) ?_
  refine s_bipush C (d_of DX9_set 2 rfl) ⟨rfl, by decide, by decide⟩ ?_
  refine s_callS (av := [(0, l1), (0, 0), (0, 8)]) (rest := []) (mc := 0) (ms := 0) C (d_of DX9_set 3 rfl) lk_X9_95 rfl rfl (Nat.le_of_ble_eq_true rfl) (by decide) (by decide) (pc_X9_within) (fun z1 wz1 Mz1 hq => ?_)
  obtain ⟨hq1, hq2, hq3⟩ := hq
  have hq2 := hq2.symm
  have hq3 := hq3.symm
  subst hq1 hq2 hq3
  refine s_ifeq C (d_of DX9_set 4 rfl) rfl (fun hc => ?_) (fun hc => ?_)
  · have h := h.1 (b2i_0.mp hc)
    refine s_bipush C (d_of DX9_set 14 rfl) ⟨rfl, by decide, by decide⟩ ?_
    exact s_ireturn C (d_of DX9_set 15 rfl) h
  · have h := h.2 (b2i_n0 hc)
    refine s_iload_n C (d_of DX9_set 5 rfl) rfl ?_
    refine s_gets (e := 1) C (by decide) C.2.2.2.2.2.2.1.1.1 (mG (wd_573) rfl) (d_of DX9_set 6 rfl) ?_
    refine s_iload_n C (d_of DX9_set 7 rfl) rfl ?_
    obtain ⟨o2, h⟩ := h
    obtain ⟨o3, h⟩ := h
    refine s_tald (e := 1) C (by decide) C.2.2.2.2.2.2.1.1.2 LSf_r o2 o3 (d_of DX9_set 8 rfl) ?_
    refine s_gets (e := 2) C (by decide) C.2.2.2.2.2.2.1.2.1.1 (mG (wd_575) rfl) (d_of DX9_set 9 rfl) ?_
    refine s_iload_n C (d_of DX9_set 10 rfl) rfl ?_
    refine s_tald (e := 2) C (by decide) C.2.2.2.2.2.2.1.2.1.2 GSf_r o2 o3 (d_of DX9_set 11 rfl) ?_
    refine s_callS (av := [(0, l2), (0, (LSf l1.toNat)), (0, (GSf l1.toNat))]) (rest := []) (mc := 0) (ms := 0) C (d_of DX9_set 12 rfl) lk_X9_95 rfl rfl (Nat.le_of_ble_eq_true rfl) (by decide) (by decide) (pc_X9_within) (fun z4 wz4 Mz4 hq => ?_)
    obtain ⟨hq1, hq2, hq3⟩ := hq
    have hq2 := hq2.symm
    have hq3 := hq3.symm
    subst hq1 hq2 hq3
    refine s_ifne C (d_of DX9_set 13 rfl) rfl (fun hc => ?_) (fun hc => ?_)
    · have h := h.1 (b2i_n0 hc)
      refine s_aload_n C (d_of DX9_set 16 rfl) rfl ?_
      refine WA.fix (fun hF5 => ?_)
      refine gf_X9_7 C (sh_1 hF5) (d_of DX9_set 17 rfl) (fx_1_0 hF5) ?_
      refine s_iload_n C (d_of DX9_set 18 rfl) rfl ?_
      refine s_iald (v0 := (M 2 l1)) C (sh_2 hF5) o2 o3 (d_of DX9_set 19 rfl) rfl ?_
      refine s_istore_n (ls' := [(2, 1), (0, l1), (0, l2), (0, (M 2 l1))]) C (d_of DX9_set 20 rfl) (by decide) rfl rfl ?_
      refine s_aload_n C (d_of DX9_set 21 rfl) rfl ?_
      refine gf_X9_7 C (sh_1 hF5) (d_of DX9_set 22 rfl) (fx_1_0 hF5) ?_
      refine s_iload_n C (d_of DX9_set 23 rfl) rfl ?_
      refine s_iload_n C (d_of DX9_set 24 rfl) rfl ?_
      refine s_iast C (sh_2 hF5) o2 o3 (fun _ => by decide) (d_of DX9_set 25 rfl) ?_
      refine s_iload_n C (d_of DX9_set 26 rfl) rfl ?_
      refine s_ifne C (d_of DX9_set 27 rfl) rfl (fun hc => ?_) (fun hc => ?_)
      · have h := h.1 hc
        refine s_iload_n C (d_of DX9_set 32 rfl) rfl ?_
        exact s_ireturn C (d_of DX9_set 33 rfl) h
      · have h := h.2 hc
        refine s_aload_n C (d_of DX9_set 28 rfl) rfl ?_
        refine WA.fix (fun hF6 => ?_)
        refine gf_X9_54 C (sh_1 hF5) (d_of DX9_set 29 rfl) (fx_1_9 hF6) ?_
        refine s_iconst C (d_of DX9_set 30 rfl) (by decide) ?_
        refine pf_X9_124 C (sh_9 hF6) (by decide) (fun _ => by decide) (d_of DX9_set 31 rfl) ?_
        refine s_iload_n C (d_of DX9_set 32 rfl) rfl ?_
        exact s_ireturn C (d_of DX9_set 33 rfl) h
    · have h := h.2 (b2i_nn hc)
      refine s_bipush C (d_of DX9_set 14 rfl) ⟨rfl, by decide, by decide⟩ ?_
      exact s_ireturn C (d_of DX9_set 15 rfl) h
theorem E_X9_set {G : GP} {l : Launch} {P : Int → NS → MM → Prop} {l1 : Int} {l2 : Int} {w : NS} {M : MM} (h : inR l1 → inR l2 → ∀ X : BX, X.2.1 = l → CX_X9_set G X → A_X9_set_0 G X P l1 l2 w M) : CT_X9_set G l [(2, 1), (0, l1), (0, l2)] w M P :=
  CT.of RX9 "set" (by decide +kernel) rfl rfl rfl (Nat.le_of_ble_eq_true rfl) (fun hr X hX C => h (hr (0, l1) (by simp)) (hr (0, l2) (by simp)) X hX C)
def A_X9_gatherList_0 (G : GP) (X : BX) (P : Int → NS → MM → Prop) (l1 : Int) (l2 : Int) (w : NS) (M : MM) : Prop := WA true G X (QM G X true 4 P) 6 0 [(2, 1), (2, l1), (0, l2), (3, 0), (3, 0), (3, 0)] [] 0 0 w M
def A_X9_gatherList_38 (G : GP) (X : BX) (P : Int → NS → MM → Prop) (l1 : Int) (l2 : Int) (l3 : Int) (l4 : Int) (w : NS) (M : MM) : Prop := WA true G X (QM G X true 4 P) 6 38 [(2, 1), (2, l1), (0, l2), (0, l3), (0, l4), (3, 0)] [] 0 0 w M
set_option maxHeartbeats 4000000 in
set_option maxRecDepth 100000 in
theorem B_X9_gatherList_0 {G : GP} {X : BX} {P : Int → NS → MM → Prop} {l1 : Int} {l2 : Int} {w : NS} {M : MM} (C : CX_X9_gatherList G X) (h : (w.2 l1 = (4, 7)) ∧ ((((M l1 6) = 0) → A_X9_gatherList_38 G X P l1 l2 0 0 w (up M 1 11 0)) ∧ ((¬ ((M l1 6) = 0)) → ∃ Q4 : Int → NS → MM → Prop, CT_X1_gather G X.2.1 [(2, 9), (2, 5), (0, (M 1 4)), (0, (M 2 0))] w M Q4 ∧ ∀ (z4 : Int) (w4 : NS) (M4 : MM), Q4 z4 w4 M4 → A_X9_gatherList_38 G X P l1 l2 0 0 w4 (up M4 1 11 0)))) : A_X9_gatherList_0 G X P l1 l2 w M := by
  unfold A_X9_gatherList_0
  refine s_aload_n C (d_of DX9_gatherList 0 rfl) rfl ?_
  obtain ⟨o1, h⟩ := h
  refine gf_X9_334 (v0 := (M l1 6)) C o1 (d_of DX9_gatherList 1 rfl) rfl ?_
  refine s_ifeq C (d_of DX9_gatherList 2 rfl) rfl (fun hc => ?_) (fun hc => ?_)
  · have h := h.1 hc
    refine s_aload_n C (d_of DX9_gatherList 14 rfl) rfl ?_
    refine s_iconst C (d_of DX9_gatherList 15 rfl) (by decide) ?_
    refine WA.fix (fun hF2 => ?_)
    refine pf_X9_61 C (sh_1 hF2) (fun _ => by decide) (d_of DX9_gatherList 16 rfl) ?_
    refine s_iconst C (d_of DX9_gatherList 17 rfl) (by decide) ?_
    refine s_istore_n (ls' := [(2, 1), (2, l1), (0, l2), (0, 0), (3, 0), (3, 0)]) C (d_of DX9_gatherList 18 rfl) (by decide) rfl rfl ?_
    refine s_iconst C (d_of DX9_gatherList 19 rfl) (by decide) ?_
    refine s_istore (ls' := [(2, 1), (2, l1), (0, l2), (0, 0), (0, 0), (3, 0)]) C (d_of DX9_gatherList 20 rfl) (by decide) rfl rfl ?_
    exact h
  · have h := h.2 hc
    refine s_aload_n C (d_of DX9_gatherList 3 rfl) rfl ?_
    refine WA.fix (fun hF3 => ?_)
    refine gf_X9_54 C (sh_1 hF3) (d_of DX9_gatherList 4 rfl) (fx_1_9 hF3) ?_
    refine s_aload_n C (d_of DX9_gatherList 5 rfl) rfl ?_
    refine gf_X9_32 C (sh_1 hF3) (d_of DX9_gatherList 6 rfl) (fx_1_5 hF3) ?_
    refine s_aload_n C (d_of DX9_gatherList 7 rfl) rfl ?_
    refine gf_X9_29 (v0 := (M 1 4)) C (sh_1 hF3) (d_of DX9_gatherList 8 rfl) rfl ?_
    refine s_aload_n C (d_of DX9_gatherList 9 rfl) rfl ?_
    refine gf_X9_7 C (sh_1 hF3) (d_of DX9_gatherList 10 rfl) (fx_1_0 hF3) ?_
    refine s_iconst C (d_of DX9_gatherList 11 rfl) (by decide) ?_
    refine s_iald (v0 := (M 2 0)) C (sh_2 hF3) (by decide) (by decide) (d_of DX9_gatherList 12 rfl) rfl ?_
    obtain ⟨Q4, hKQ4, h⟩ := h
    refine s_callV (ci := 1) (av := [(2, 5), (0, (M 1 4)), (0, (M 2 0))]) (rest := []) (mc := 0) (ms := 0) C (d_of DX9_gatherList 13 rfl) lk_X9_162 (sh_9 hF3) (by decide) rfl rfl rfl (Nat.le_of_ble_eq_true rfl) (by decide) (by decide) hKQ4 (fun z4 w4 M4 hq => ?_)
    have h := h z4 w4 M4 hq
    refine s_aload_n C (d_of DX9_gatherList 14 rfl) rfl ?_
    refine s_iconst C (d_of DX9_gatherList 15 rfl) (by decide) ?_
    refine WA.fix (fun hF5 => ?_)
    refine pf_X9_61 C (sh_1 hF5) (fun _ => by decide) (d_of DX9_gatherList 16 rfl) ?_
    refine s_iconst C (d_of DX9_gatherList 17 rfl) (by decide) ?_
    refine s_istore_n (ls' := [(2, 1), (2, l1), (0, l2), (0, 0), (3, 0), (3, 0)]) C (d_of DX9_gatherList 18 rfl) (by decide) rfl rfl ?_
    refine s_iconst C (d_of DX9_gatherList 19 rfl) (by decide) ?_
    refine s_istore (ls' := [(2, 1), (2, l1), (0, l2), (0, 0), (0, 0), (3, 0)]) C (d_of DX9_gatherList 20 rfl) (by decide) rfl rfl ?_
    exact h
set_option maxHeartbeats 4000000 in
set_option maxRecDepth 100000 in
theorem B_X9_gatherList_38 {G : GP} {X : BX} {P : Int → NS → MM → Prop} {l1 : Int} {l2 : Int} {l3 : Int} {l4 : Int} {w : NS} {M : MM} (C : CX_X9_gatherList G X) (h : ((((M 1 4) ≤ l4) → P 0 w M) ∧ ((¬ ((M 1 4) ≤ l4)) → (0 ≤ l4) ∧ (l4 < 24) ∧ (w.2 l1 = (4, 7)) ∧ ∃ Q5 : Int → NS → MM → Prop, CT_X3_asksFor G X.2.1 [(2, l1), (2, (M 5 l4))] w M Q5 ∧ ∀ (z5 : Int) (w5 : NS) (M5 : MM), Q5 z5 w5 M5 → (((z5 ≠ 0) → (w5.2 l1 = (4, 7)) ∧ ((((M5 l1 6) = 0) → (w5.2 (M 5 l4) = (7, 12)) ∧ (w5.2 (M5 (M 5 l4) 1) = (5, 5)) ∧ ((((M5 (M5 (M 5 l4) 1) 2) ≠ l2) → (inR (l4 + 1)) ∧ A_X9_gatherList_38 G X P l1 l2 (zor l3 (zshl 1 (M5 (M 5 l4) 8))) (l4 + 1) w5 M5) ∧ ((¬ ((M5 (M5 (M 5 l4) 1) 2) ≠ l2)) → ((((M5 l1 5) ≤ (M5 1 11)) → (inR (l4 + 1)) ∧ A_X9_gatherList_38 G X P l1 l2 (zor l3 (zshl 1 (M5 (M 5 l4) 8))) (l4 + 1) w5 M5) ∧ ((¬ ((M5 l1 5) ≤ (M5 1 11))) → (0 ≤ (M5 1 11)) ∧ ((M5 1 11) < 24) ∧ (inR ((M5 1 11) + 1)) ∧ (inR (l4 + 1)) ∧ A_X9_gatherList_38 G X P l1 l2 (zor l3 (zshl 1 (M5 (M 5 l4) 8))) (l4 + 1) w5 (up (up M5 12 (M5 1 11) (M5 (M 5 l4) 0)) 1 11 ((M5 1 11) + 1))))))) ∧ ((¬ ((M5 l1 6) = 0)) → (w5.2 (M 5 l4) = (7, 12)) ∧ (((¬ (zand (zshr l3 (M5 (M 5 l4) 8)) 1 = 1)) → (w5.2 (M5 (M 5 l4) 1) = (5, 5)) ∧ ((((M5 (M5 (M 5 l4) 1) 2) ≠ l2) → (inR (l4 + 1)) ∧ A_X9_gatherList_38 G X P l1 l2 (zor l3 (zshl 1 (M5 (M 5 l4) 8))) (l4 + 1) w5 M5) ∧ ((¬ ((M5 (M5 (M 5 l4) 1) 2) ≠ l2)) → ((((M5 l1 5) ≤ (M5 1 11)) → (inR (l4 + 1)) ∧ A_X9_gatherList_38 G X P l1 l2 (zor l3 (zshl 1 (M5 (M 5 l4) 8))) (l4 + 1) w5 M5) ∧ ((¬ ((M5 l1 5) ≤ (M5 1 11))) → (0 ≤ (M5 1 11)) ∧ ((M5 1 11) < 24) ∧ (inR ((M5 1 11) + 1)) ∧ (inR (l4 + 1)) ∧ A_X9_gatherList_38 G X P l1 l2 (zor l3 (zshl 1 (M5 (M 5 l4) 8))) (l4 + 1) w5 (up (up M5 12 (M5 1 11) (M5 (M 5 l4) 0)) 1 11 ((M5 1 11) + 1))))))) ∧ (((zand (zshr l3 (M5 (M 5 l4) 8)) 1 = 1)) → (inR (l4 + 1)) ∧ A_X9_gatherList_38 G X P l1 l2 l3 (l4 + 1) w5 M5))))) ∧ ((¬ (z5 ≠ 0)) → (inR (l4 + 1)) ∧ A_X9_gatherList_38 G X P l1 l2 l3 (l4 + 1) w5 M5))))) : A_X9_gatherList_38 G X P l1 l2 l3 l4 w M := by
  unfold A_X9_gatherList_38
  refine s_iload C (d_of DX9_gatherList 21 rfl) rfl ?_
  refine s_aload_n C (d_of DX9_gatherList 22 rfl) rfl ?_
  refine WA.fix (fun hF1 => ?_)
  refine gf_X9_29 (v0 := (M 1 4)) C (sh_1 hF1) (d_of DX9_gatherList 23 rfl) rfl ?_
  refine s_icmpge C (d_of DX9_gatherList 24 rfl) rfl (fun hc => ?_) (fun hc => ?_)
  · have h := h.1 hc
    exact s_vreturn C (d_of DX9_gatherList 76 rfl) h
  · have h := h.2 hc
    refine s_aload_n C (d_of DX9_gatherList 25 rfl) rfl ?_
    refine gf_X9_32 C (sh_1 hF1) (d_of DX9_gatherList 26 rfl) (fx_1_5 hF1) ?_
    refine s_iload C (d_of DX9_gatherList 27 rfl) rfl ?_
    obtain ⟨o2, h⟩ := h
    obtain ⟨o3, h⟩ := h
    refine s_aald (v0 := (M 5 l4)) (t0 := 6) C (sh_5 hF1) (by decide) rfl o2 o3 (d_of DX9_gatherList 28 rfl) rfl ?_
    refine s_astore (ls' := [(2, 1), (2, l1), (0, l2), (0, l3), (0, l4), (2, (M 5 l4))]) C (d_of DX9_gatherList 29 rfl) (by decide) rfl rfl ?_
    refine s_aload_n C (d_of DX9_gatherList 30 rfl) rfl ?_
    refine s_aload C (d_of DX9_gatherList 31 rfl) rfl ?_
    obtain ⟨o4, h⟩ := h
    obtain ⟨Q5, hKQ5, h⟩ := h
    refine s_callV (ci := 3) (av := [(2, (M 5 l4))]) (rest := []) (mc := 0) (ms := 0) C (d_of DX9_gatherList 32 rfl) lk_X9_212 o4 (by decide) rfl rfl rfl (Nat.le_of_ble_eq_true rfl) (by decide) (by decide) hKQ5 (fun z5 w5 M5 hq => ?_)
    have h := h z5 w5 M5 hq
    refine s_ifne C (d_of DX9_gatherList 33 rfl) rfl (fun hc => ?_) (fun hc => ?_)
    · have h := h.1 hc
      refine s_aload_n C (d_of DX9_gatherList 35 rfl) rfl ?_
      obtain ⟨o6, h⟩ := h
      refine gf_X9_334 (v0 := (M5 l1 6)) C o6 (d_of DX9_gatherList 36 rfl) rfl ?_
      refine s_ifeq C (d_of DX9_gatherList 37 rfl) rfl (fun hc => ?_) (fun hc => ?_)
      · have h := h.1 hc
        refine s_iload_n C (d_of DX9_gatherList 44 rfl) rfl ?_
        refine s_iconst C (d_of DX9_gatherList 45 rfl) (by decide) ?_
        refine s_aload C (d_of DX9_gatherList 46 rfl) rfl ?_
        obtain ⟨o7, h⟩ := h
        refine gf_X9_177 (v0 := (M5 (M 5 l4) 8)) C o7 (d_of DX9_gatherList 47 rfl) rfl ?_
        refine s_ishl C (d_of DX9_gatherList 48 rfl) ?_
        refine s_ior C (d_of DX9_gatherList 49 rfl) ?_
        refine s_istore_n (ls' := [(2, 1), (2, l1), (0, l2), (0, (zor l3 (zshl 1 (M5 (M 5 l4) 8)))), (0, l4), (2, (M 5 l4))]) C (d_of DX9_gatherList 50 rfl) (by decide) rfl rfl ?_
        refine s_aload C (d_of DX9_gatherList 51 rfl) rfl ?_
        refine gf_X9_166 (v0 := (M5 (M 5 l4) 1)) C o7 (d_of DX9_gatherList 52 rfl) rfl ?_
        obtain ⟨o8, h⟩ := h
        refine gf_X9_131 (v0 := (M5 (M5 (M 5 l4) 1) 2)) C o8 (d_of DX9_gatherList 53 rfl) rfl ?_
        refine s_iload_n C (d_of DX9_gatherList 54 rfl) rfl ?_
        refine s_icmpne C (d_of DX9_gatherList 55 rfl) rfl (fun hc => ?_) (fun hc => ?_)
        · have h := h.1 hc
          obtain ⟨o9, h⟩ := h
          refine s_iinc (ls' := [(2, 1), (2, l1), (0, l2), (0, (zor l3 (zshl 1 (M5 (M 5 l4) 8)))), (0, (l4 + 1)), (2, (M 5 l4))]) C (d_of DX9_gatherList 74 rfl) (by decide) rfl o9 rfl rfl ?_
          refine s_goto C (d_of DX9_gatherList 75 rfl) rfl ?_
          exact WA.wk h ⟨Or.inr rfl, Or.inr rfl, Or.inr rfl, Or.inr rfl, Or.inr rfl, Or.inl rfl, trivial⟩
        · have h := h.2 hc
          refine s_aload_n C (d_of DX9_gatherList 56 rfl) rfl ?_
          refine WA.fix (fun hF10 => ?_)
          refine gf_X9_61 (v0 := (M5 1 11)) C (sh_1 hF10) (d_of DX9_gatherList 57 rfl) rfl ?_
          refine s_aload_n C (d_of DX9_gatherList 58 rfl) rfl ?_
          refine gf_X9_337 (v0 := (M5 l1 5)) C o6 (d_of DX9_gatherList 59 rfl) rfl ?_
          refine s_icmpge C (d_of DX9_gatherList 60 rfl) rfl (fun hc => ?_) (fun hc => ?_)
          · have h := h.1 hc
            obtain ⟨o11, h⟩ := h
            refine s_iinc (ls' := [(2, 1), (2, l1), (0, l2), (0, (zor l3 (zshl 1 (M5 (M 5 l4) 8)))), (0, (l4 + 1)), (2, (M 5 l4))]) C (d_of DX9_gatherList 74 rfl) (by decide) rfl o11 rfl rfl ?_
            refine s_goto C (d_of DX9_gatherList 75 rfl) rfl ?_
            exact WA.wk h ⟨Or.inr rfl, Or.inr rfl, Or.inr rfl, Or.inr rfl, Or.inr rfl, Or.inl rfl, trivial⟩
          · have h := h.2 hc
            refine s_aload_n C (d_of DX9_gatherList 61 rfl) rfl ?_
            refine gf_X9_58 C (sh_1 hF10) (d_of DX9_gatherList 62 rfl) (fx_1_10 hF10) ?_
            refine s_aload_n C (d_of DX9_gatherList 63 rfl) rfl ?_
            refine gf_X9_61 (v0 := (M5 1 11)) C (sh_1 hF10) (d_of DX9_gatherList 64 rfl) rfl ?_
            refine s_aload C (d_of DX9_gatherList 65 rfl) rfl ?_
            refine gf_X9_324 (v0 := (M5 (M 5 l4) 0)) C o7 (d_of DX9_gatherList 66 rfl) rfl ?_
            obtain ⟨o12, h⟩ := h
            obtain ⟨o13, h⟩ := h
            refine s_iast C (sh_12 hF10) o12 o13 (fun _ => by decide) (d_of DX9_gatherList 67 rfl) ?_
            refine s_aload_n C (d_of DX9_gatherList 68 rfl) rfl ?_
            refine s_dup C (by simp) (d_of DX9_gatherList 69 rfl) ?_
            refine gf_X9_61 (v0 := (M5 1 11)) C (sh_1 hF10) (d_of DX9_gatherList 70 rfl) (up_na (by decide)) ?_
            refine s_iconst C (d_of DX9_gatherList 71 rfl) (by decide) ?_
            obtain ⟨o14, h⟩ := h
            refine s_iadd C (d_of DX9_gatherList 72 rfl) o14 ?_
            refine pf_X9_61 C (sh_1 hF10) (fun _ => by decide) (d_of DX9_gatherList 73 rfl) ?_
            obtain ⟨o15, h⟩ := h
            refine s_iinc (ls' := [(2, 1), (2, l1), (0, l2), (0, (zor l3 (zshl 1 (M5 (M 5 l4) 8)))), (0, (l4 + 1)), (2, (M 5 l4))]) C (d_of DX9_gatherList 74 rfl) (by decide) rfl o15 rfl rfl ?_
            refine s_goto C (d_of DX9_gatherList 75 rfl) rfl ?_
            exact WA.wk h ⟨Or.inr rfl, Or.inr rfl, Or.inr rfl, Or.inr rfl, Or.inr rfl, Or.inl rfl, trivial⟩
      · have h := h.2 hc
        refine s_iload_n C (d_of DX9_gatherList 38 rfl) rfl ?_
        refine s_aload C (d_of DX9_gatherList 39 rfl) rfl ?_
        obtain ⟨o16, h⟩ := h
        refine gf_X9_177 (v0 := (M5 (M 5 l4) 8)) C o16 (d_of DX9_gatherList 40 rfl) rfl ?_
        refine s_callS (av := [(0, l3), (0, (M5 (M 5 l4) 8))]) (rest := []) (mc := 0) (ms := 0) C (d_of DX9_gatherList 41 rfl) lk_X9_292 rfl rfl (Nat.le_of_ble_eq_true rfl) (by decide) (by decide) (pc_X9_hasBit) (fun z17 wz17 Mz17 hq => ?_)
        obtain ⟨hq1, hq2, hq3⟩ := hq
        have hq2 := hq2.symm
        have hq3 := hq3.symm
        subst hq1 hq2 hq3
        refine s_ifeq C (d_of DX9_gatherList 42 rfl) rfl (fun hc => ?_) (fun hc => ?_)
        · have h := h.1 (b2i_0.mp hc)
          refine s_iload_n C (d_of DX9_gatherList 44 rfl) rfl ?_
          refine s_iconst C (d_of DX9_gatherList 45 rfl) (by decide) ?_
          refine s_aload C (d_of DX9_gatherList 46 rfl) rfl ?_
          refine gf_X9_177 (v0 := (M5 (M 5 l4) 8)) C o16 (d_of DX9_gatherList 47 rfl) rfl ?_
          refine s_ishl C (d_of DX9_gatherList 48 rfl) ?_
          refine s_ior C (d_of DX9_gatherList 49 rfl) ?_
          refine s_istore_n (ls' := [(2, 1), (2, l1), (0, l2), (0, (zor l3 (zshl 1 (M5 (M 5 l4) 8)))), (0, l4), (2, (M 5 l4))]) C (d_of DX9_gatherList 50 rfl) (by decide) rfl rfl ?_
          refine s_aload C (d_of DX9_gatherList 51 rfl) rfl ?_
          refine gf_X9_166 (v0 := (M5 (M 5 l4) 1)) C o16 (d_of DX9_gatherList 52 rfl) rfl ?_
          obtain ⟨o18, h⟩ := h
          refine gf_X9_131 (v0 := (M5 (M5 (M 5 l4) 1) 2)) C o18 (d_of DX9_gatherList 53 rfl) rfl ?_
          refine s_iload_n C (d_of DX9_gatherList 54 rfl) rfl ?_
          refine s_icmpne C (d_of DX9_gatherList 55 rfl) rfl (fun hc => ?_) (fun hc => ?_)
          · have h := h.1 hc
            obtain ⟨o19, h⟩ := h
            refine s_iinc (ls' := [(2, 1), (2, l1), (0, l2), (0, (zor l3 (zshl 1 (M5 (M 5 l4) 8)))), (0, (l4 + 1)), (2, (M 5 l4))]) C (d_of DX9_gatherList 74 rfl) (by decide) rfl o19 rfl rfl ?_
            refine s_goto C (d_of DX9_gatherList 75 rfl) rfl ?_
            exact WA.wk h ⟨Or.inr rfl, Or.inr rfl, Or.inr rfl, Or.inr rfl, Or.inr rfl, Or.inl rfl, trivial⟩
          · have h := h.2 hc
            refine s_aload_n C (d_of DX9_gatherList 56 rfl) rfl ?_
            refine WA.fix (fun hF20 => ?_)
            refine gf_X9_61 (v0 := (M5 1 11)) C (sh_1 hF20) (d_of DX9_gatherList 57 rfl) rfl ?_
            refine s_aload_n C (d_of DX9_gatherList 58 rfl) rfl ?_
            refine gf_X9_337 (v0 := (M5 l1 5)) C o6 (d_of DX9_gatherList 59 rfl) rfl ?_
            refine s_icmpge C (d_of DX9_gatherList 60 rfl) rfl (fun hc => ?_) (fun hc => ?_)
            · have h := h.1 hc
              obtain ⟨o21, h⟩ := h
              refine s_iinc (ls' := [(2, 1), (2, l1), (0, l2), (0, (zor l3 (zshl 1 (M5 (M 5 l4) 8)))), (0, (l4 + 1)), (2, (M 5 l4))]) C (d_of DX9_gatherList 74 rfl) (by decide) rfl o21 rfl rfl ?_
              refine s_goto C (d_of DX9_gatherList 75 rfl) rfl ?_
              exact WA.wk h ⟨Or.inr rfl, Or.inr rfl, Or.inr rfl, Or.inr rfl, Or.inr rfl, Or.inl rfl, trivial⟩
            · have h := h.2 hc
              refine s_aload_n C (d_of DX9_gatherList 61 rfl) rfl ?_
              refine gf_X9_58 C (sh_1 hF20) (d_of DX9_gatherList 62 rfl) (fx_1_10 hF20) ?_
              refine s_aload_n C (d_of DX9_gatherList 63 rfl) rfl ?_
              refine gf_X9_61 (v0 := (M5 1 11)) C (sh_1 hF20) (d_of DX9_gatherList 64 rfl) rfl ?_
              refine s_aload C (d_of DX9_gatherList 65 rfl) rfl ?_
              refine gf_X9_324 (v0 := (M5 (M 5 l4) 0)) C o16 (d_of DX9_gatherList 66 rfl) rfl ?_
              obtain ⟨o22, h⟩ := h
              obtain ⟨o23, h⟩ := h
              refine s_iast C (sh_12 hF20) o22 o23 (fun _ => by decide) (d_of DX9_gatherList 67 rfl) ?_
              refine s_aload_n C (d_of DX9_gatherList 68 rfl) rfl ?_
              refine s_dup C (by simp) (d_of DX9_gatherList 69 rfl) ?_
              refine gf_X9_61 (v0 := (M5 1 11)) C (sh_1 hF20) (d_of DX9_gatherList 70 rfl) (up_na (by decide)) ?_
              refine s_iconst C (d_of DX9_gatherList 71 rfl) (by decide) ?_
              obtain ⟨o24, h⟩ := h
              refine s_iadd C (d_of DX9_gatherList 72 rfl) o24 ?_
              refine pf_X9_61 C (sh_1 hF20) (fun _ => by decide) (d_of DX9_gatherList 73 rfl) ?_
              obtain ⟨o25, h⟩ := h
              refine s_iinc (ls' := [(2, 1), (2, l1), (0, l2), (0, (zor l3 (zshl 1 (M5 (M 5 l4) 8)))), (0, (l4 + 1)), (2, (M 5 l4))]) C (d_of DX9_gatherList 74 rfl) (by decide) rfl o25 rfl rfl ?_
              refine s_goto C (d_of DX9_gatherList 75 rfl) rfl ?_
              exact WA.wk h ⟨Or.inr rfl, Or.inr rfl, Or.inr rfl, Or.inr rfl, Or.inr rfl, Or.inl rfl, trivial⟩
        · have h := h.2 (b2i_n0 hc)
          refine s_goto C (d_of DX9_gatherList 43 rfl) rfl ?_
          obtain ⟨o26, h⟩ := h
          refine s_iinc (ls' := [(2, 1), (2, l1), (0, l2), (0, l3), (0, (l4 + 1)), (2, (M 5 l4))]) C (d_of DX9_gatherList 74 rfl) (by decide) rfl o26 rfl rfl ?_
          refine s_goto C (d_of DX9_gatherList 75 rfl) rfl ?_
          exact WA.wk h ⟨Or.inr rfl, Or.inr rfl, Or.inr rfl, Or.inr rfl, Or.inr rfl, Or.inl rfl, trivial⟩
    · have h := h.2 hc
      refine s_goto C (d_of DX9_gatherList 34 rfl) rfl ?_
      obtain ⟨o27, h⟩ := h
      refine s_iinc (ls' := [(2, 1), (2, l1), (0, l2), (0, l3), (0, (l4 + 1)), (2, (M 5 l4))]) C (d_of DX9_gatherList 74 rfl) (by decide) rfl o27 rfl rfl ?_
      refine s_goto C (d_of DX9_gatherList 75 rfl) rfl ?_
      exact WA.wk h ⟨Or.inr rfl, Or.inr rfl, Or.inr rfl, Or.inr rfl, Or.inr rfl, Or.inl rfl, trivial⟩
theorem E_X9_gatherList {G : GP} {l : Launch} {P : Int → NS → MM → Prop} {l1 : Int} {l2 : Int} {w : NS} {M : MM} (h : inR l2 → ∀ X : BX, X.2.1 = l → CX_X9_gatherList G X → A_X9_gatherList_0 G X P l1 l2 w M) : CT_X9_gatherList G l [(2, 1), (2, l1), (0, l2)] w M P :=
  CT.of RX9 "gatherList" (by decide +kernel) rfl rfl rfl (Nat.le_of_ble_eq_true rfl) (fun hr X hX C => h (hr (0, l2) (by simp)) X hX C)
def A_X9_list_0 (G : GP) (X : BX) (P : Int → NS → MM → Prop) (l1 : Int) (l2 : Int) (l3 : Int) (w : NS) (M : MM) : Prop := WA true G X (QM G X true 0 P) 5 0 [(2, 1), (0, l1), (0, l2), (0, l3), (3, 0)] [] 0 0 w M
set_option maxHeartbeats 4000000 in
set_option maxRecDepth 100000 in
theorem B_X9_list_0 {G : GP} {X : BX} {P : Int → NS → MM → Prop} {l1 : Int} {l2 : Int} {l3 : Int} {w : NS} {M : MM} (C : CX_X9_list G X) (h : (0 ≤ M 1 7) ∧ (M 1 7 ≤ 10) ∧ ((((orO M l1) ≠ 0) → ((((0 ≤ l2 ∧ l2 ≤ 99)) → ∃ Q6 : Int → NS → MM → Prop, CT_X9_gatherList G X.2.1 [(2, 1), (2, (orO M l1)), (0, l2)] w M Q6 ∧ ∀ (z6 : Int) (w6 : NS) (M6 : MM), Q6 z6 w6 M6 → (((l3 ≠ (-1)) → (inR ((M6 1 11) - 1)) ∧ (((¬ (0 ≤ l3 ∧ l3 ≤ ((M6 1 11) - 1))) → P (-6) w6 M6) ∧ (((0 ≤ l3 ∧ l3 ≤ ((M6 1 11) - 1))) → (0 ≤ l3) ∧ (l3 < 24) ∧ P (M6 12 l3) w6 M6))) ∧ ((¬ (l3 ≠ (-1))) → P (M6 1 11) w6 M6))) ∧ ((¬ (0 ≤ l2 ∧ l2 ≤ 99)) → P (-2) w M))) ∧ ((¬ ((orO M l1) ≠ 0)) → P (-1) w M))) : A_X9_list_0 G X P l1 l2 l3 w M := by
  unfold A_X9_list_0
  refine s_aload_n C (d_of DX9_list 0 rfl) rfl ?_
  refine s_iload_n C (d_of DX9_list 1 rfl) rfl ?_
  refine WA.fix (fun hF1 => ?_)
  obtain ⟨o2, h⟩ := h
  obtain ⟨o3, h⟩ := h
  refine s_callV (ci := 9) (av := [(0, l1)]) (rest := []) (mc := 0) (ms := 0) C (d_of DX9_list 2 rfl) lk_X9_208 (sh_1 hF1) (by decide) rfl rfl rfl (Nat.le_of_ble_eq_true rfl) (by decide) (by decide) (pc_X9_orderOf o2 o3) (fun z4 wz4 Mz4 hq => ?_)
  obtain ⟨hq1, hq2, hq3⟩ := hq
  have hq2 := hq2.symm
  have hq3 := hq3.symm
  subst hq1 hq2 hq3
  refine s_astore (ls' := [(2, 1), (0, l1), (0, l2), (0, l3), (2, (orO M l1))]) C (d_of DX9_list 3 rfl) (by decide) rfl rfl ?_
  refine s_aload C (d_of DX9_list 4 rfl) rfl ?_
  refine s_ifnonnull C (d_of DX9_list 5 rfl) rfl (fun hc => ?_) (fun hc => ?_)
  · have h := h.1 hc
    refine s_iload_n C (d_of DX9_list 8 rfl) rfl ?_
    refine s_callS (av := [(0, l2)]) (rest := []) (mc := 0) (ms := 0) C (d_of DX9_list 9 rfl) lk_X9_99 rfl rfl (Nat.le_of_ble_eq_true rfl) (by decide) (by decide) (pc_X9_isDay) (fun z5 wz5 Mz5 hq => ?_)
    obtain ⟨hq1, hq2, hq3⟩ := hq
    have hq2 := hq2.symm
    have hq3 := hq3.symm
    subst hq1 hq2 hq3
    refine s_ifne C (d_of DX9_list 10 rfl) rfl (fun hc => ?_) (fun hc => ?_)
    · have h := h.1 (b2i_n0 hc)
      refine s_aload_n C (d_of DX9_list 13 rfl) rfl ?_
      refine s_aload C (d_of DX9_list 14 rfl) rfl ?_
      refine s_iload_n C (d_of DX9_list 15 rfl) rfl ?_
      obtain ⟨Q6, hKQ6, h⟩ := h
      refine s_callV (ci := 9) (av := [(2, (orO M l1)), (0, l2)]) (rest := []) (mc := 0) (ms := 0) C (d_of DX9_list 16 rfl) lk_X9_231 (sh_1 hF1) (by decide) rfl rfl rfl (Nat.le_of_ble_eq_true rfl) (by decide) (by decide) hKQ6 (fun z6 w6 M6 hq => ?_)
      have h := h z6 w6 M6 hq
      refine s_iload_n C (d_of DX9_list 17 rfl) rfl ?_
      refine s_iconst C (d_of DX9_list 18 rfl) (by decide) ?_
      refine s_icmpne C (d_of DX9_list 19 rfl) rfl (fun hc => ?_) (fun hc => ?_)
      · have h := h.1 hc
        refine s_iload_n C (d_of DX9_list 23 rfl) rfl ?_
        refine s_iconst C (d_of DX9_list 24 rfl) (by decide) ?_
        refine s_aload_n C (d_of DX9_list 25 rfl) rfl ?_
        refine WA.fix (fun hF7 => ?_)
        refine gf_X9_61 (v0 := (M6 1 11)) C (sh_1 hF7) (d_of DX9_list 26 rfl) rfl ?_
        refine s_iconst C (d_of DX9_list 27 rfl) (by decide) ?_
        obtain ⟨o8, h⟩ := h
        refine s_isub C (d_of DX9_list 28 rfl) o8 ?_
        refine s_callS (av := [(0, l3), (0, 0), (0, ((M6 1 11) - 1))]) (rest := []) (mc := 0) (ms := 0) C (d_of DX9_list 29 rfl) lk_X9_95 rfl rfl (Nat.le_of_ble_eq_true rfl) (by decide) (by decide) (pc_X9_within) (fun z9 wz9 Mz9 hq => ?_)
        obtain ⟨hq1, hq2, hq3⟩ := hq
        have hq2 := hq2.symm
        have hq3 := hq3.symm
        subst hq1 hq2 hq3
        refine s_ifeq C (d_of DX9_list 30 rfl) rfl (fun hc => ?_) (fun hc => ?_)
        · have h := h.1 (b2i_0.mp hc)
          refine s_bipush C (d_of DX9_list 36 rfl) ⟨rfl, by decide, by decide⟩ ?_
          exact s_ireturn C (d_of DX9_list 37 rfl) h
        · have h := h.2 (b2i_n0 hc)
          refine s_aload_n C (d_of DX9_list 31 rfl) rfl ?_
          refine gf_X9_58 C (sh_1 hF7) (d_of DX9_list 32 rfl) (fx_1_10 hF7) ?_
          refine s_iload_n C (d_of DX9_list 33 rfl) rfl ?_
          obtain ⟨o10, h⟩ := h
          obtain ⟨o11, h⟩ := h
          refine s_iald (v0 := (M6 12 l3)) C (sh_12 hF7) o10 o11 (d_of DX9_list 34 rfl) rfl ?_
          refine s_goto C (d_of DX9_list 35 rfl) rfl ?_
          exact s_ireturn C (d_of DX9_list 37 rfl) h
      · have h := h.2 hc
        refine s_aload_n C (d_of DX9_list 20 rfl) rfl ?_
        refine WA.fix (fun hF12 => ?_)
        refine gf_X9_61 (v0 := (M6 1 11)) C (sh_1 hF12) (d_of DX9_list 21 rfl) rfl ?_
        exact s_ireturn C (d_of DX9_list 22 rfl) h
    · have h := h.2 (b2i_nn hc)
      refine s_bipush C (d_of DX9_list 11 rfl) ⟨rfl, by decide, by decide⟩ ?_
      exact s_ireturn C (d_of DX9_list 12 rfl) h
  · have h := h.2 hc
    refine s_iconst C (d_of DX9_list 6 rfl) (by decide) ?_
    exact s_ireturn C (d_of DX9_list 7 rfl) h
theorem E_X9_list {G : GP} {l : Launch} {P : Int → NS → MM → Prop} {l1 : Int} {l2 : Int} {l3 : Int} {w : NS} {M : MM} (h : inR l1 → inR l2 → inR l3 → ∀ X : BX, X.2.1 = l → CX_X9_list G X → A_X9_list_0 G X P l1 l2 l3 w M) : CT_X9_list G l [(2, 1), (0, l1), (0, l2), (0, l3)] w M P :=
  CT.of RX9 "list" (by decide +kernel) rfl rfl rfl (Nat.le_of_ble_eq_true rfl) (fun hr X hX C => h (hr (0, l1) (by simp)) (hr (0, l2) (by simp)) (hr (0, l3) (by simp)) X hX C)
def A_X9_name_0 (G : GP) (X : BX) (P : Int → NS → MM → Prop) (l1 : Int) (l2 : Int) (w : NS) (M : MM) : Prop := WA true G X (QM G X true 0 P) 4 0 [(2, 1), (0, l1), (0, l2), (3, 0)] [] 0 0 w M
set_option maxHeartbeats 4000000 in
set_option maxRecDepth 100000 in
theorem B_X9_name_0 {G : GP} {X : BX} {P : Int → NS → MM → Prop} {l1 : Int} {l2 : Int} {w : NS} {M : MM} (C : CX_X9_name G X) (h : ((((0 ≤ l1 ∧ l1 ≤ 3)) → ((((-1 ≤ l2 ∧ l2 ≤ 99)) → (0 ≤ l1) ∧ (l1 < 4) ∧ (w.2 (M 13 l1) = (3, 2)) ∧ (((0 ≤ l2) → P (M (M 13 l1) 0) w (up M (M 13 l1) 0 l2)) ∧ ((¬ (0 ≤ l2)) → P (M (M 13 l1) 0) w (up M (M 13 l1) 0 (-6))))) ∧ ((¬ (-1 ≤ l2 ∧ l2 ≤ 99)) → P (-2) w M))) ∧ ((¬ (0 ≤ l1 ∧ l1 ≤ 3)) → P (-1) w M))) : A_X9_name_0 G X P l1 l2 w M := by
  unfold A_X9_name_0
  refine s_iload_n C (d_of DX9_name 0 rfl) rfl ?_
  refine s_callS (av := [(0, l1)]) (rest := []) (mc := 0) (ms := 0) C (d_of DX9_name 1 rfl) lk_X9_235 rfl rfl (Nat.le_of_ble_eq_true rfl) (by decide) (by decide) (pc_X9_isName) (fun z1 wz1 Mz1 hq => ?_)
  obtain ⟨hq1, hq2, hq3⟩ := hq
  have hq2 := hq2.symm
  have hq3 := hq3.symm
  subst hq1 hq2 hq3
  refine s_ifne C (d_of DX9_name 2 rfl) rfl (fun hc => ?_) (fun hc => ?_)
  · have h := h.1 (b2i_n0 hc)
    refine s_iload_n C (d_of DX9_name 5 rfl) rfl ?_
    refine s_callS (av := [(0, l2)]) (rest := []) (mc := 0) (ms := 0) C (d_of DX9_name 6 rfl) lk_X9_110 rfl rfl (Nat.le_of_ble_eq_true rfl) (by decide) (by decide) (pc_X9_isWordOrNone) (fun z2 wz2 Mz2 hq => ?_)
    obtain ⟨hq1, hq2, hq3⟩ := hq
    have hq2 := hq2.symm
    have hq3 := hq3.symm
    subst hq1 hq2 hq3
    refine s_ifne C (d_of DX9_name 7 rfl) rfl (fun hc => ?_) (fun hc => ?_)
    · have h := h.1 (b2i_n0 hc)
      refine s_aload_n C (d_of DX9_name 10 rfl) rfl ?_
      refine WA.fix (fun hF3 => ?_)
      refine gf_X9_66 C (sh_1 hF3) (d_of DX9_name 11 rfl) (fx_1_12 hF3) ?_
      refine s_iload_n C (d_of DX9_name 12 rfl) rfl ?_
      obtain ⟨o4, h⟩ := h
      obtain ⟨o5, h⟩ := h
      refine s_aald (v0 := (M 13 l1)) (t0 := 3) C (sh_13 hF3) (by decide) rfl o4 o5 (d_of DX9_name 13 rfl) rfl ?_
      obtain ⟨o6, h⟩ := h
      refine gf_X9_238 (v0 := (M (M 13 l1) 0)) C o6 (d_of DX9_name 14 rfl) rfl ?_
      refine s_istore_n (ls' := [(2, 1), (0, l1), (0, l2), (0, (M (M 13 l1) 0))]) C (d_of DX9_name 15 rfl) (by decide) rfl rfl ?_
      refine s_aload_n C (d_of DX9_name 16 rfl) rfl ?_
      refine gf_X9_66 C (sh_1 hF3) (d_of DX9_name 17 rfl) (fx_1_12 hF3) ?_
      refine s_iload_n C (d_of DX9_name 18 rfl) rfl ?_
      refine s_aald (v0 := (M 13 l1)) (t0 := 3) C (sh_13 hF3) (by decide) rfl o4 o5 (d_of DX9_name 19 rfl) rfl ?_
      refine s_iload_n C (d_of DX9_name 20 rfl) rfl ?_
      refine s_ifge C (d_of DX9_name 21 rfl) rfl (fun hc => ?_) (fun hc => ?_)
      · have h := h.1 hc
        refine s_iload_n C (d_of DX9_name 24 rfl) rfl ?_
        refine pf_X9_238 C o6 (fun _ => by decide) (d_of DX9_name 25 rfl) ?_
        refine s_iload_n C (d_of DX9_name 26 rfl) rfl ?_
        exact s_ireturn C (d_of DX9_name 27 rfl) h
      · have h := h.2 hc
        refine s_bipush C (d_of DX9_name 22 rfl) ⟨rfl, by decide, by decide⟩ ?_
        refine s_goto C (d_of DX9_name 23 rfl) rfl ?_
        refine pf_X9_238 C o6 (fun _ => by decide) (d_of DX9_name 25 rfl) ?_
        refine s_iload_n C (d_of DX9_name 26 rfl) rfl ?_
        exact s_ireturn C (d_of DX9_name 27 rfl) h
    · have h := h.2 (b2i_nn hc)
      refine s_bipush C (d_of DX9_name 8 rfl) ⟨rfl, by decide, by decide⟩ ?_
      exact s_ireturn C (d_of DX9_name 9 rfl) h
  · have h := h.2 (b2i_nn hc)
    refine s_iconst C (d_of DX9_name 3 rfl) (by decide) ?_
    exact s_ireturn C (d_of DX9_name 4 rfl) h
theorem E_X9_name {G : GP} {l : Launch} {P : Int → NS → MM → Prop} {l1 : Int} {l2 : Int} {w : NS} {M : MM} (h : inR l1 → inR l2 → ∀ X : BX, X.2.1 = l → CX_X9_name G X → A_X9_name_0 G X P l1 l2 w M) : CT_X9_name G l [(2, 1), (0, l1), (0, l2)] w M P :=
  CT.of RX9 "name" (by decide +kernel) rfl rfl rfl (Nat.le_of_ble_eq_true rfl) (fun hr X hX C => h (hr (0, l1) (by simp)) (hr (0, l2) (by simp)) X hX C)
def A_X9_counts_0 (G : GP) (X : BX) (P : Int → NS → MM → Prop) (l1 : Int) (l2 : Int) (l3 : Int) (w : NS) (M : MM) : Prop := WA true G X (QM G X true 0 P) 5 0 [(2, 1), (0, l1), (0, l2), (0, l3), (3, 0)] [] 0 0 w M
set_option maxHeartbeats 4000000 in
set_option maxRecDepth 100000 in
theorem B_X9_counts_0 {G : GP} {X : BX} {P : Int → NS → MM → Prop} {l1 : Int} {l2 : Int} {l3 : Int} {w : NS} {M : MM} (C : CX_X9_counts G X) (h : ((((0 ≤ l1 ∧ l1 ≤ 3)) → (((¬ (0 ≤ l2 ∧ l2 ≤ 99)) → P (-2) w M) ∧ (((0 ≤ l2 ∧ l2 ≤ 99)) → (((((-100) ≤ l3 ∧ l3 ≤ 100)) → (0 ≤ l1) ∧ (l1 < 4) ∧ (w.2 (M 13 l1) = (3, 2)) ∧ (0 ≤ l2) ∧ (l2 < 100) ∧ P (M ((M 13 l1) + 1) l2) w (up M ((M 13 l1) + 1) l2 l3)) ∧ ((¬ ((-100) ≤ l3 ∧ l3 ≤ 100)) → P (-2) w M))))) ∧ ((¬ (0 ≤ l1 ∧ l1 ≤ 3)) → P (-1) w M))) : A_X9_counts_0 G X P l1 l2 l3 w M := by
  unfold A_X9_counts_0
  refine s_iload_n C (d_of DX9_counts 0 rfl) rfl ?_
  refine s_callS (av := [(0, l1)]) (rest := []) (mc := 0) (ms := 0) C (d_of DX9_counts 1 rfl) lk_X9_235 rfl rfl (Nat.le_of_ble_eq_true rfl) (by decide) (by decide) (pc_X9_isName) (fun z1 wz1 Mz1 hq => ?_)
  obtain ⟨hq1, hq2, hq3⟩ := hq
  have hq2 := hq2.symm
  have hq3 := hq3.symm
  subst hq1 hq2 hq3
  refine s_ifne C (d_of DX9_counts 2 rfl) rfl (fun hc => ?_) (fun hc => ?_)
  · have h := h.1 (b2i_n0 hc)
    refine s_iload_n C (d_of DX9_counts 5 rfl) rfl ?_
    refine s_iconst C (d_of DX9_counts 6 rfl) (by decide) ?_
    refine s_bipush C (d_of DX9_counts 7 rfl) ⟨rfl, by decide, by decide⟩ ?_
    refine s_callS (av := [(0, l2), (0, 0), (0, 99)]) (rest := []) (mc := 0) (ms := 0) C (d_of DX9_counts 8 rfl) lk_X9_95 rfl rfl (Nat.le_of_ble_eq_true rfl) (by decide) (by decide) (pc_X9_within) (fun z2 wz2 Mz2 hq => ?_)
    obtain ⟨hq1, hq2, hq3⟩ := hq
    have hq2 := hq2.symm
    have hq3 := hq3.symm
    subst hq1 hq2 hq3
    refine s_ifeq C (d_of DX9_counts 9 rfl) rfl (fun hc => ?_) (fun hc => ?_)
    · have h := h.1 (b2i_0.mp hc)
      refine s_bipush C (d_of DX9_counts 15 rfl) ⟨rfl, by decide, by decide⟩ ?_
      exact s_ireturn C (d_of DX9_counts 16 rfl) h
    · have h := h.2 (b2i_n0 hc)
      refine s_iload_n C (d_of DX9_counts 10 rfl) rfl ?_
      refine s_bipush C (d_of DX9_counts 11 rfl) ⟨rfl, by decide, by decide⟩ ?_
      refine s_bipush C (d_of DX9_counts 12 rfl) ⟨rfl, by decide, by decide⟩ ?_
      refine s_callS (av := [(0, l3), (0, (-100)), (0, 100)]) (rest := []) (mc := 0) (ms := 0) C (d_of DX9_counts 13 rfl) lk_X9_95 rfl rfl (Nat.le_of_ble_eq_true rfl) (by decide) (by decide) (pc_X9_within) (fun z3 wz3 Mz3 hq => ?_)
      obtain ⟨hq1, hq2, hq3⟩ := hq
      have hq2 := hq2.symm
      have hq3 := hq3.symm
      subst hq1 hq2 hq3
      refine s_ifne C (d_of DX9_counts 14 rfl) rfl (fun hc => ?_) (fun hc => ?_)
      · have h := h.1 (b2i_n0 hc)
        refine s_aload_n C (d_of DX9_counts 17 rfl) rfl ?_
        refine WA.fix (fun hF4 => ?_)
        refine gf_X9_66 C (sh_1 hF4) (d_of DX9_counts 18 rfl) (fx_1_12 hF4) ?_
        refine s_iload_n C (d_of DX9_counts 19 rfl) rfl ?_
        obtain ⟨o5, h⟩ := h
        obtain ⟨o6, h⟩ := h
        refine s_aald (v0 := (M 13 l1)) (t0 := 3) C (sh_13 hF4) (by decide) rfl o5 o6 (d_of DX9_counts 20 rfl) rfl ?_
        obtain ⟨o7, h⟩ := h
        have hd8 := FixA.dy (t := 3) (n := 2) (k := 1) (m := 100) hF4 (by decide) o7
        refine gf_X9_241 C o7 (d_of DX9_counts 21 rfl) hd8.1 ?_
        refine s_iload_n C (d_of DX9_counts 22 rfl) rfl ?_
        obtain ⟨o9, h⟩ := h
        obtain ⟨o10, h⟩ := h
        refine s_iald (v0 := (M ((M 13 l1) + 1) l2)) C hd8.2 o9 o10 (d_of DX9_counts 23 rfl) rfl ?_
        refine s_istore (ls' := [(2, 1), (0, l1), (0, l2), (0, l3), (0, (M ((M 13 l1) + 1) l2))]) C (d_of DX9_counts 24 rfl) (by decide) rfl rfl ?_
        refine s_aload_n C (d_of DX9_counts 25 rfl) rfl ?_
        refine gf_X9_66 C (sh_1 hF4) (d_of DX9_counts 26 rfl) (fx_1_12 hF4) ?_
        refine s_iload_n C (d_of DX9_counts 27 rfl) rfl ?_
        refine s_aald (v0 := (M 13 l1)) (t0 := 3) C (sh_13 hF4) (by decide) rfl o5 o6 (d_of DX9_counts 28 rfl) rfl ?_
        have hd11 := FixA.dy (t := 3) (n := 2) (k := 1) (m := 100) hF4 (by decide) o7
        refine gf_X9_241 C o7 (d_of DX9_counts 29 rfl) hd11.1 ?_
        refine s_iload_n C (d_of DX9_counts 30 rfl) rfl ?_
        refine s_iload_n C (d_of DX9_counts 31 rfl) rfl ?_
        refine s_iast C hd11.2 o9 o10 (fun _ => by decide) (d_of DX9_counts 32 rfl) ?_
        refine s_iload C (d_of DX9_counts 33 rfl) rfl ?_
        exact s_ireturn C (d_of DX9_counts 34 rfl) h
      · have h := h.2 (b2i_nn hc)
        refine s_bipush C (d_of DX9_counts 15 rfl) ⟨rfl, by decide, by decide⟩ ?_
        exact s_ireturn C (d_of DX9_counts 16 rfl) h
  · have h := h.2 (b2i_nn hc)
    refine s_iconst C (d_of DX9_counts 3 rfl) (by decide) ?_
    exact s_ireturn C (d_of DX9_counts 4 rfl) h
theorem E_X9_counts {G : GP} {l : Launch} {P : Int → NS → MM → Prop} {l1 : Int} {l2 : Int} {l3 : Int} {w : NS} {M : MM} (h : inR l1 → inR l2 → inR l3 → ∀ X : BX, X.2.1 = l → CX_X9_counts G X → A_X9_counts_0 G X P l1 l2 l3 w M) : CT_X9_counts G l [(2, 1), (0, l1), (0, l2), (0, l3)] w M P :=
  CT.of RX9 "counts" (by decide +kernel) rfl rfl rfl (Nat.le_of_ble_eq_true rfl) (fun hr X hX C => h (hr (0, l1) (by simp)) (hr (0, l2) (by simp)) (hr (0, l3) (by simp)) X hX C)
def A_X2_sumAround_0 (G : GP) (X : BX) (P : Int → NS → MM → Prop) (l0 : Int) (l1 : Int) (l2 : Int) (l3 : Int) (w : NS) (M : MM) : Prop := WA true G X (QM G X true 0 P) 6 0 [(2, l0), (2, l1), (0, l2), (0, l3), (3, 0), (3, 0)] [] 0 0 w M
def A_X2_sumAround_12 (G : GP) (X : BX) (P : Int → NS → MM → Prop) (l0 : Int) (l1 : Int) (l2 : Int) (l3 : Int) (l4 : Int) (l5 : Int) (w : NS) (M : MM) : Prop := WA true G X (QM G X true 0 P) 6 12 [(2, l0), (2, l1), (0, l2), (0, l3), (0, l4), (0, l5)] [] 0 0 w M
set_option maxHeartbeats 4000000 in
set_option maxRecDepth 100000 in
theorem B_X2_sumAround_0 {G : GP} {X : BX} {P : Int → NS → MM → Prop} {l0 : Int} {l1 : Int} {l2 : Int} {l3 : Int} {w : NS} {M : MM} (C : CX_X2_sumAround G X) (h : (inR (l2 - l3)) ∧ A_X2_sumAround_12 G X P l0 l1 l2 l3 0 (max 0 (l2 - l3)) w M) : A_X2_sumAround_0 G X P l0 l1 l2 l3 w M := by
  unfold A_X2_sumAround_0
  refine s_iconst C (d_of DX2_sumAround 0 rfl) (by decide) ?_
  refine s_istore (ls' := [(2, l0), (2, l1), (0, l2), (0, l3), (0, 0), (3, 0)]) C (d_of DX2_sumAround 1 rfl) (by decide) rfl rfl ?_
  refine s_iconst C (d_of DX2_sumAround 2 rfl) (by decide) ?_
  refine s_iload_n C (d_of DX2_sumAround 3 rfl) rfl ?_
  refine s_iload_n C (d_of DX2_sumAround 4 rfl) rfl ?_
  obtain ⟨o1, h⟩ := h
  refine s_isub C (d_of DX2_sumAround 5 rfl) o1 ?_
  refine s_mmax (st := []) C (d_of DX2_sumAround 6 rfl) wd_609 (Nat.le_of_ble_eq_true rfl) (by decide) (by decide) ?_
  refine s_istore (ls' := [(2, l0), (2, l1), (0, l2), (0, l3), (0, 0), (0, (max 0 (l2 - l3)))]) C (d_of DX2_sumAround 7 rfl) (by decide) rfl rfl ?_
  exact h
set_option maxHeartbeats 4000000 in
set_option maxRecDepth 100000 in
theorem B_X2_sumAround_12 {G : GP} {X : BX} {P : Int → NS → MM → Prop} {l0 : Int} {l1 : Int} {l2 : Int} {l3 : Int} {l4 : Int} {l5 : Int} {w : NS} {M : MM} (C : CX_X2_sumAround G X) (h : (w.2 l1 = (7, 12)) ∧ ((((M l1 7) ≤ l5) → P l4 w M) ∧ ((¬ ((M l1 7) ≤ l5)) → (inR (l2 + l3)) ∧ ((((l2 + l3) < l5) → P l4 w M) ∧ ((¬ ((l2 + l3) < l5)) → (((l5 = l2) → (inR (l5 + 1)) ∧ A_X2_sumAround_12 G X P l0 l1 l2 l3 l4 (l5 + 1) w M) ∧ ((¬ (l5 = l2)) → (w.2 l0 = (3, 2)) ∧ (0 ≤ l5) ∧ (l5 < 60) ∧ (0 ≤ (M (l1 + 1) l5)) ∧ ((M (l1 + 1) l5) < 100) ∧ (inR (l4 + (M (l0 + 1) (M (l1 + 1) l5)))) ∧ (inR (l5 + 1)) ∧ A_X2_sumAround_12 G X P l0 l1 l2 l3 (l4 + (M (l0 + 1) (M (l1 + 1) l5))) (l5 + 1) w M))))))) : A_X2_sumAround_12 G X P l0 l1 l2 l3 l4 l5 w M := by
  unfold A_X2_sumAround_12
  refine s_iload C (d_of DX2_sumAround 8 rfl) rfl ?_
  refine s_aload_n C (d_of DX2_sumAround 9 rfl) rfl ?_
  obtain ⟨o1, h⟩ := h
  refine gf_X2_19 (v0 := (M l1 7)) C o1 (d_of DX2_sumAround 10 rfl) rfl ?_
  refine s_icmpge C (d_of DX2_sumAround 11 rfl) rfl (fun hc => ?_) (fun hc => ?_)
  · have h := h.1 hc
    refine s_iload C (d_of DX2_sumAround 32 rfl) rfl ?_
    exact s_ireturn C (d_of DX2_sumAround 33 rfl) h
  · have h := h.2 hc
    refine s_iload C (d_of DX2_sumAround 12 rfl) rfl ?_
    refine s_iload_n C (d_of DX2_sumAround 13 rfl) rfl ?_
    refine s_iload_n C (d_of DX2_sumAround 14 rfl) rfl ?_
    obtain ⟨o2, h⟩ := h
    refine s_iadd C (d_of DX2_sumAround 15 rfl) o2 ?_
    refine s_icmpgt C (d_of DX2_sumAround 16 rfl) rfl (fun hc => ?_) (fun hc => ?_)
    · have h := h.1 hc
      refine s_iload C (d_of DX2_sumAround 32 rfl) rfl ?_
      exact s_ireturn C (d_of DX2_sumAround 33 rfl) h
    · have h := h.2 hc
      refine s_iload C (d_of DX2_sumAround 17 rfl) rfl ?_
      refine s_iload_n C (d_of DX2_sumAround 18 rfl) rfl ?_
      refine s_icmpeq C (d_of DX2_sumAround 19 rfl) rfl (fun hc => ?_) (fun hc => ?_)
      · have h := h.1 hc
        obtain ⟨o3, h⟩ := h
        refine s_iinc (ls' := [(2, l0), (2, l1), (0, l2), (0, l3), (0, l4), (0, (l5 + 1))]) C (d_of DX2_sumAround 30 rfl) (by decide) rfl o3 rfl rfl ?_
        refine s_goto C (d_of DX2_sumAround 31 rfl) rfl ?_
        exact h
      · have h := h.2 hc
        refine s_iload C (d_of DX2_sumAround 20 rfl) rfl ?_
        refine s_aload_n C (d_of DX2_sumAround 21 rfl) rfl ?_
        obtain ⟨o4, h⟩ := h
        refine WA.fix (fun hF5 => ?_)
        have hd6 := FixA.dy (t := 3) (n := 2) (k := 1) (m := 100) hF5 (by decide) o4
        refine gf_X2_15 C o4 (d_of DX2_sumAround 22 rfl) hd6.1 ?_
        refine s_aload_n C (d_of DX2_sumAround 23 rfl) rfl ?_
        have hd7 := FixA.dy (t := 7) (n := 12) (k := 6) (m := 60) hF5 (by decide) o1
        refine gf_X2_24 C o1 (d_of DX2_sumAround 24 rfl) hd7.1 ?_
        refine s_iload C (d_of DX2_sumAround 25 rfl) rfl ?_
        obtain ⟨o8, h⟩ := h
        obtain ⟨o9, h⟩ := h
        refine s_iald (v0 := (M (l1 + 1) l5)) C hd7.2 o8 o9 (d_of DX2_sumAround 26 rfl) rfl ?_
        obtain ⟨o10, h⟩ := h
        obtain ⟨o11, h⟩ := h
        refine s_iald (v0 := (M (l0 + 1) (M (l1 + 1) l5))) C hd6.2 o10 o11 (d_of DX2_sumAround 27 rfl) rfl ?_
        obtain ⟨o12, h⟩ := h
        refine s_iadd C (d_of DX2_sumAround 28 rfl) o12 ?_
        refine s_istore (ls' := [(2, l0), (2, l1), (0, l2), (0, l3), (0, (l4 + (M (l0 + 1) (M (l1 + 1) l5)))), (0, l5)]) C (d_of DX2_sumAround 29 rfl) (by decide) rfl rfl ?_
        obtain ⟨o13, h⟩ := h
        refine s_iinc (ls' := [(2, l0), (2, l1), (0, l2), (0, l3), (0, (l4 + (M (l0 + 1) (M (l1 + 1) l5)))), (0, (l5 + 1))]) C (d_of DX2_sumAround 30 rfl) (by decide) rfl o13 rfl rfl ?_
        refine s_goto C (d_of DX2_sumAround 31 rfl) rfl ?_
        exact h
theorem E_X2_sumAround {G : GP} {l : Launch} {P : Int → NS → MM → Prop} {l0 : Int} {l1 : Int} {l2 : Int} {l3 : Int} {w : NS} {M : MM} (h : inR l2 → inR l3 → ∀ X : BX, X.2.1 = l → CX_X2_sumAround G X → A_X2_sumAround_0 G X P l0 l1 l2 l3 w M) : CT_X2_sumAround G l [(2, l0), (2, l1), (0, l2), (0, l3)] w M P :=
  CT.of RX2 "sumAround" (by decide +kernel) rfl rfl rfl (Nat.le_of_ble_eq_true rfl) (fun hr X hX C => h (hr (0, l2) (by simp)) (hr (0, l3) (by simp)) X hX C)
def A_X2_likeliestPlace_0 (G : GP) (X : BX) (P : Int → NS → MM → Prop) (l0 : Int) (l1 : Int) (l2 : Int) (w : NS) (M : MM) : Prop := WA true G X (QM G X true 0 P) 7 0 [(2, l0), (2, l1), (0, l2), (3, 0), (3, 0), (3, 0), (3, 0)] [] 0 0 w M
def A_X2_likeliestPlace_9 (G : GP) (X : BX) (P : Int → NS → MM → Prop) (l0 : Int) (l1 : Int) (l2 : Int) (l3 : Int) (l4 : Int) (l5 : Int) (w : NS) (M : MM) : Prop := WA true G X (QM G X true 0 P) 7 9 [(2, l0), (2, l1), (0, l2), (0, l3), (0, l4), (0, l5), (3, 0)] [] 0 0 w M
set_option maxHeartbeats 4000000 in
set_option maxRecDepth 100000 in
theorem B_X2_likeliestPlace_0 {G : GP} {X : BX} {P : Int → NS → MM → Prop} {l0 : Int} {l1 : Int} {l2 : Int} {w : NS} {M : MM} (C : CX_X2_likeliestPlace G X) (h : A_X2_likeliestPlace_9 G X P l0 l1 l2 (-6) 0 0 w M) : A_X2_likeliestPlace_0 G X P l0 l1 l2 w M := by
  unfold A_X2_likeliestPlace_0
  refine s_bipush C (d_of DX2_likeliestPlace 0 rfl) ⟨rfl, by decide, by decide⟩ ?_
  refine s_istore_n (ls' := [(2, l0), (2, l1), (0, l2), (0, (-6)), (3, 0), (3, 0), (3, 0)]) C (d_of DX2_likeliestPlace 1 rfl) (by decide) rfl rfl ?_
  refine s_iconst C (d_of DX2_likeliestPlace 2 rfl) (by decide) ?_
  refine s_istore (ls' := [(2, l0), (2, l1), (0, l2), (0, (-6)), (0, 0), (3, 0), (3, 0)]) C (d_of DX2_likeliestPlace 3 rfl) (by decide) rfl rfl ?_
  refine s_iconst C (d_of DX2_likeliestPlace 4 rfl) (by decide) ?_
  refine s_istore (ls' := [(2, l0), (2, l1), (0, l2), (0, (-6)), (0, 0), (0, 0), (3, 0)]) C (d_of DX2_likeliestPlace 5 rfl) (by decide) rfl rfl ?_
  exact h
set_option maxHeartbeats 4000000 in
set_option maxRecDepth 100000 in
theorem B_X2_likeliestPlace_9 {G : GP} {X : BX} {P : Int → NS → MM → Prop} {l0 : Int} {l1 : Int} {l2 : Int} {l3 : Int} {l4 : Int} {l5 : Int} {w : NS} {M : MM} (C : CX_X2_likeliestPlace G X) (h : (w.2 l1 = (7, 12)) ∧ ((((M l1 7) ≤ l5) → P l3 w M) ∧ ((¬ ((M l1 7) ≤ l5)) → (0 ≤ l5) ∧ (l5 < 60) ∧ (w.2 l0 = (3, 2)) ∧ ((((M (l1 + 1) l5) ≠ (M l0 0)) → (inR (l5 + 1)) ∧ A_X2_likeliestPlace_9 G X P l0 l1 l2 l3 l4 (l5 + 1) w M) ∧ ((¬ ((M (l1 + 1) l5) ≠ (M l0 0))) → ∃ Q8 : Int → NS → MM → Prop, CT_X2_sumAround G X.2.1 [(2, l0), (2, l1), (0, l5), (0, l2)] w M Q8 ∧ ∀ (z8 : Int) (w8 : NS) (M8 : MM), Q8 z8 w8 M8 → (((l3 = (-6)) → (inR (l5 + 1)) ∧ A_X2_likeliestPlace_9 G X P l0 l1 l2 l5 z8 (l5 + 1) w8 M8) ∧ ((¬ (l3 = (-6))) → (((z8 ≤ l4) → (inR (l5 + 1)) ∧ A_X2_likeliestPlace_9 G X P l0 l1 l2 l3 l4 (l5 + 1) w8 M8) ∧ ((¬ (z8 ≤ l4)) → (inR (l5 + 1)) ∧ A_X2_likeliestPlace_9 G X P l0 l1 l2 l5 z8 (l5 + 1) w8 M8))))))))) : A_X2_likeliestPlace_9 G X P l0 l1 l2 l3 l4 l5 w M := by
  unfold A_X2_likeliestPlace_9
  refine s_iload C (d_of DX2_likeliestPlace 6 rfl) rfl ?_
  refine s_aload_n C (d_of DX2_likeliestPlace 7 rfl) rfl ?_
  obtain ⟨o1, h⟩ := h
  refine gf_X2_19 (v0 := (M l1 7)) C o1 (d_of DX2_likeliestPlace 8 rfl) rfl ?_
  refine s_icmpge C (d_of DX2_likeliestPlace 9 rfl) rfl (fun hc => ?_) (fun hc => ?_)
  · have h := h.1 hc
    refine s_iload_n C (d_of DX2_likeliestPlace 35 rfl) rfl ?_
    exact s_ireturn C (d_of DX2_likeliestPlace 36 rfl) h
  · have h := h.2 hc
    refine s_aload_n C (d_of DX2_likeliestPlace 10 rfl) rfl ?_
    refine WA.fix (fun hF2 => ?_)
    have hd3 := FixA.dy (t := 7) (n := 12) (k := 6) (m := 60) hF2 (by decide) o1
    refine gf_X2_24 C o1 (d_of DX2_likeliestPlace 11 rfl) hd3.1 ?_
    refine s_iload C (d_of DX2_likeliestPlace 12 rfl) rfl ?_
    obtain ⟨o4, h⟩ := h
    obtain ⟨o5, h⟩ := h
    refine s_iald (v0 := (M (l1 + 1) l5)) C hd3.2 o4 o5 (d_of DX2_likeliestPlace 13 rfl) rfl ?_
    refine s_aload_n C (d_of DX2_likeliestPlace 14 rfl) rfl ?_
    obtain ⟨o6, h⟩ := h
    refine gf_X2_9 (v0 := (M l0 0)) C o6 (d_of DX2_likeliestPlace 15 rfl) rfl ?_
    refine s_icmpne C (d_of DX2_likeliestPlace 16 rfl) rfl (fun hc => ?_) (fun hc => ?_)
    · have h := h.1 hc
      obtain ⟨o7, h⟩ := h
      refine s_iinc (ls' := [(2, l0), (2, l1), (0, l2), (0, l3), (0, l4), (0, (l5 + 1)), (3, 0)]) C (d_of DX2_likeliestPlace 33 rfl) (by decide) rfl o7 rfl rfl ?_
      refine s_goto C (d_of DX2_likeliestPlace 34 rfl) rfl ?_
      exact h
    · have h := h.2 hc
      refine s_aload_n C (d_of DX2_likeliestPlace 17 rfl) rfl ?_
      refine s_aload_n C (d_of DX2_likeliestPlace 18 rfl) rfl ?_
      refine s_iload C (d_of DX2_likeliestPlace 19 rfl) rfl ?_
      refine s_iload_n C (d_of DX2_likeliestPlace 20 rfl) rfl ?_
      obtain ⟨Q8, hKQ8, h⟩ := h
      refine s_callV (ci := 2) (av := [(2, l1), (0, l5), (0, l2)]) (rest := []) (mc := 0) (ms := 0) C (d_of DX2_likeliestPlace 21 rfl) lk_X2_27 o6 (by decide) rfl rfl rfl (Nat.le_of_ble_eq_true rfl) (by decide) (by decide) hKQ8 (fun z8 w8 M8 hq => ?_)
      have h := h z8 w8 M8 hq
      refine s_istore (ls' := [(2, l0), (2, l1), (0, l2), (0, l3), (0, l4), (0, l5), (0, z8)]) C (d_of DX2_likeliestPlace 22 rfl) (by decide) rfl rfl ?_
      refine s_iload_n C (d_of DX2_likeliestPlace 23 rfl) rfl ?_
      refine s_bipush C (d_of DX2_likeliestPlace 24 rfl) ⟨rfl, by decide, by decide⟩ ?_
      refine s_icmpeq C (d_of DX2_likeliestPlace 25 rfl) rfl (fun hc => ?_) (fun hc => ?_)
      · have h := h.1 hc
        refine s_iload C (d_of DX2_likeliestPlace 29 rfl) rfl ?_
        refine s_istore_n (ls' := [(2, l0), (2, l1), (0, l2), (0, l5), (0, l4), (0, l5), (0, z8)]) C (d_of DX2_likeliestPlace 30 rfl) (by decide) rfl rfl ?_
        refine s_iload C (d_of DX2_likeliestPlace 31 rfl) rfl ?_
        refine s_istore (ls' := [(2, l0), (2, l1), (0, l2), (0, l5), (0, z8), (0, l5), (0, z8)]) C (d_of DX2_likeliestPlace 32 rfl) (by decide) rfl rfl ?_
        obtain ⟨o9, h⟩ := h
        refine s_iinc (ls' := [(2, l0), (2, l1), (0, l2), (0, l5), (0, z8), (0, (l5 + 1)), (0, z8)]) C (d_of DX2_likeliestPlace 33 rfl) (by decide) rfl o9 rfl rfl ?_
        refine s_goto C (d_of DX2_likeliestPlace 34 rfl) rfl ?_
        exact WA.wk h ⟨Or.inr rfl, Or.inr rfl, Or.inr rfl, Or.inr rfl, Or.inr rfl, Or.inr rfl, Or.inl rfl, trivial⟩
      · have h := h.2 hc
        refine s_iload C (d_of DX2_likeliestPlace 26 rfl) rfl ?_
        refine s_iload C (d_of DX2_likeliestPlace 27 rfl) rfl ?_
        refine s_icmple C (d_of DX2_likeliestPlace 28 rfl) rfl (fun hc => ?_) (fun hc => ?_)
        · have h := h.1 hc
          obtain ⟨o10, h⟩ := h
          refine s_iinc (ls' := [(2, l0), (2, l1), (0, l2), (0, l3), (0, l4), (0, (l5 + 1)), (0, z8)]) C (d_of DX2_likeliestPlace 33 rfl) (by decide) rfl o10 rfl rfl ?_
          refine s_goto C (d_of DX2_likeliestPlace 34 rfl) rfl ?_
          exact WA.wk h ⟨Or.inr rfl, Or.inr rfl, Or.inr rfl, Or.inr rfl, Or.inr rfl, Or.inr rfl, Or.inl rfl, trivial⟩
        · have h := h.2 hc
          refine s_iload C (d_of DX2_likeliestPlace 29 rfl) rfl ?_
          refine s_istore_n (ls' := [(2, l0), (2, l1), (0, l2), (0, l5), (0, l4), (0, l5), (0, z8)]) C (d_of DX2_likeliestPlace 30 rfl) (by decide) rfl rfl ?_
          refine s_iload C (d_of DX2_likeliestPlace 31 rfl) rfl ?_
          refine s_istore (ls' := [(2, l0), (2, l1), (0, l2), (0, l5), (0, z8), (0, l5), (0, z8)]) C (d_of DX2_likeliestPlace 32 rfl) (by decide) rfl rfl ?_
          obtain ⟨o11, h⟩ := h
          refine s_iinc (ls' := [(2, l0), (2, l1), (0, l2), (0, l5), (0, z8), (0, (l5 + 1)), (0, z8)]) C (d_of DX2_likeliestPlace 33 rfl) (by decide) rfl o11 rfl rfl ?_
          refine s_goto C (d_of DX2_likeliestPlace 34 rfl) rfl ?_
          exact WA.wk h ⟨Or.inr rfl, Or.inr rfl, Or.inr rfl, Or.inr rfl, Or.inr rfl, Or.inr rfl, Or.inl rfl, trivial⟩
theorem E_X2_likeliestPlace {G : GP} {l : Launch} {P : Int → NS → MM → Prop} {l0 : Int} {l1 : Int} {l2 : Int} {w : NS} {M : MM} (h : inR l2 → ∀ X : BX, X.2.1 = l → CX_X2_likeliestPlace G X → A_X2_likeliestPlace_0 G X P l0 l1 l2 w M) : CT_X2_likeliestPlace G l [(2, l0), (2, l1), (0, l2)] w M P :=
  CT.of RX2 "likeliestPlace" (by decide +kernel) rfl rfl rfl (Nat.le_of_ble_eq_true rfl) (fun hr X hX C => h (hr (0, l2) (by simp)) X hX C)
def A_X9_verdictOf_0 (G : GP) (X : BX) (P : Int → NS → MM → Prop) (l1 : Int) (w : NS) (M : MM) : Prop := WA true G X (QM G X true 0 P) 2 0 [(2, 1), (0, l1)] [] 0 0 w M
set_option maxHeartbeats 4000000 in
set_option maxRecDepth 100000 in
theorem B_X9_verdictOf_0 {G : GP} {X : BX} {P : Int → NS → MM → Prop} {l1 : Int} {w : NS} {M : MM} (C : CX_X9_verdictOf G X) (h : (((l1 < (M 2 2)) → (inR (-(M 2 2))) ∧ ((((-(M 2 2)) < l1) → P 3 w M) ∧ ((¬ ((-(M 2 2)) < l1)) → P 2 w M))) ∧ ((¬ (l1 < (M 2 2))) → P 1 w M))) : A_X9_verdictOf_0 G X P l1 w M := by
  unfold A_X9_verdictOf_0
  refine s_iload_n C (d_of DX9_verdictOf 0 rfl) rfl ?_
  refine s_aload_n C (d_of DX9_verdictOf 1 rfl) rfl ?_
  refine WA.fix (fun hF1 => ?_)
  refine gf_X9_7 C (sh_1 hF1) (d_of DX9_verdictOf 2 rfl) (fx_1_0 hF1) ?_
  refine s_iconst C (d_of DX9_verdictOf 3 rfl) (by decide) ?_
  refine s_iald (v0 := (M 2 2)) C (sh_2 hF1) (by decide) (by decide) (d_of DX9_verdictOf 4 rfl) rfl ?_
  refine s_icmplt C (d_of DX9_verdictOf 5 rfl) rfl (fun hc => ?_) (fun hc => ?_)
  · have h := h.1 hc
    refine s_iload_n C (d_of DX9_verdictOf 8 rfl) rfl ?_
    refine s_aload_n C (d_of DX9_verdictOf 9 rfl) rfl ?_
    refine gf_X9_7 C (sh_1 hF1) (d_of DX9_verdictOf 10 rfl) (fx_1_0 hF1) ?_
    refine s_iconst C (d_of DX9_verdictOf 11 rfl) (by decide) ?_
    refine s_iald (v0 := (M 2 2)) C (sh_2 hF1) (by decide) (by decide) (d_of DX9_verdictOf 12 rfl) rfl ?_
    obtain ⟨o2, h⟩ := h
    refine s_ineg C (d_of DX9_verdictOf 13 rfl) o2 ?_
    refine s_icmpgt C (d_of DX9_verdictOf 14 rfl) rfl (fun hc => ?_) (fun hc => ?_)
    · have h := h.1 hc
      refine s_iconst C (d_of DX9_verdictOf 17 rfl) (by decide) ?_
      exact s_ireturn C (d_of DX9_verdictOf 18 rfl) h
    · have h := h.2 hc
      refine s_iconst C (d_of DX9_verdictOf 15 rfl) (by decide) ?_
      refine s_goto C (d_of DX9_verdictOf 16 rfl) rfl ?_
      exact s_ireturn C (d_of DX9_verdictOf 18 rfl) h
  · have h := h.2 hc
    refine s_iconst C (d_of DX9_verdictOf 6 rfl) (by decide) ?_
    exact s_ireturn C (d_of DX9_verdictOf 7 rfl) h
theorem E_X9_verdictOf {G : GP} {l : Launch} {P : Int → NS → MM → Prop} {l1 : Int} {w : NS} {M : MM} (h : inR l1 → ∀ X : BX, X.2.1 = l → CX_X9_verdictOf G X → A_X9_verdictOf_0 G X P l1 w M) : CT_X9_verdictOf G l [(2, 1), (0, l1)] w M P :=
  CT.of RX9 "verdictOf" (by decide +kernel) rfl rfl rfl (Nat.le_of_ble_eq_true rfl) (fun hr X hX C => h (hr (0, l1) (by simp)) X hX C)
def A_X9_likely_0 (G : GP) (X : BX) (P : Int → NS → MM → Prop) (l1 : Int) (l2 : Int) (l3 : Int) (w : NS) (M : MM) : Prop := WA true G X (QM G X true 0 P) 7 0 [(2, 1), (0, l1), (0, l2), (0, l3), (3, 0), (3, 0), (3, 0)] [] 0 0 w M
set_option maxHeartbeats 4000000 in
set_option maxRecDepth 100000 in
theorem B_X9_likely_0 {G : GP} {X : BX} {P : Int → NS → MM → Prop} {l1 : Int} {l2 : Int} {l3 : Int} {w : NS} {M : MM} (C : CX_X9_likely G X) (h : (0 ≤ M 1 4) ∧ (M 1 4 ≤ 24) ∧ (((¬ (0 ≤ l1 ∧ l1 ≤ 3)) → P (-1) w M) ∧ (((0 ≤ l1 ∧ l1 ≤ 3)) → ((((pcO M l2) ≠ 0) → (0 ≤ l1) ∧ (l1 < 4) ∧ (w.2 (M 13 l1) = (3, 2)) ∧ ∃ Q9 : Int → NS → MM → Prop, CT_X2_likeliestPlace G X.2.1 [(2, (M 13 l1)), (2, (pcO M l2)), (0, (M 2 1))] w M Q9 ∧ ∀ (z9 : Int) (w9 : NS) (M9 : MM), Q9 z9 w9 M9 → (((z9 ≠ (-6)) → (w9.2 (M9 13 l1) = (3, 2)) ∧ ∃ Q12 : Int → NS → MM → Prop, CT_X2_sumAround G X.2.1 [(2, (M9 13 l1)), (2, (pcO M l2)), (0, z9), (0, (M9 2 1))] w9 M9 Q12 ∧ ∀ (z12 : Int) (w12 : NS) (M12 : MM), Q12 z12 w12 M12 → (((l3 < 0 ∨ 2 < l3) → P (-2) w12 M12) ∧ (l3 = 0 → (((z9 ≠ (-6)) → ∃ Q14 : Int → NS → MM → Prop, CT_X9_verdictOf G X.2.1 [(2, 1), (0, z12)] w12 M12 Q14 ∧ ∀ (z14 : Int) (w14 : NS) (M14 : MM), Q14 z14 w14 M14 → P z14 w14 M14) ∧ ((¬ (z9 ≠ (-6))) → P 0 w12 M12))) ∧ (l3 = 1 → P z12 w12 M12) ∧ (l3 = 2 → P z9 w12 M12))) ∧ ((¬ (z9 ≠ (-6))) → (((l3 < 0 ∨ 2 < l3) → P (-2) w9 M9) ∧ (l3 = 0 → (((z9 ≠ (-6)) → ∃ Q16 : Int → NS → MM → Prop, CT_X9_verdictOf G X.2.1 [(2, 1), (0, 0)] w9 M9 Q16 ∧ ∀ (z16 : Int) (w16 : NS) (M16 : MM), Q16 z16 w16 M16 → P z16 w16 M16) ∧ ((¬ (z9 ≠ (-6))) → P 0 w9 M9))) ∧ (l3 = 1 → P 0 w9 M9) ∧ (l3 = 2 → P z9 w9 M9))))) ∧ ((¬ ((pcO M l2) ≠ 0)) → P (-1) w M))))) : A_X9_likely_0 G X P l1 l2 l3 w M := by
  unfold A_X9_likely_0
  refine s_aload_n C (d_of DX9_likely 0 rfl) rfl ?_
  refine s_iload_n C (d_of DX9_likely 1 rfl) rfl ?_
  refine WA.fix (fun hF1 => ?_)
  obtain ⟨o2, h⟩ := h
  obtain ⟨o3, h⟩ := h
  refine s_callV (ci := 9) (av := [(0, l2)]) (rest := []) (mc := 0) (ms := 0) C (d_of DX9_likely 2 rfl) lk_X9_158 (sh_1 hF1) (by decide) rfl rfl rfl (Nat.le_of_ble_eq_true rfl) (by decide) (by decide) (pc_X9_pieceOf o2 o3) (fun z4 wz4 Mz4 hq => ?_)
  obtain ⟨hq1, hq2, hq3⟩ := hq
  have hq2 := hq2.symm
  have hq3 := hq3.symm
  subst hq1 hq2 hq3
  refine s_astore (ls' := [(2, 1), (0, l1), (0, l2), (0, l3), (2, (pcO M l2)), (3, 0), (3, 0)]) C (d_of DX9_likely 3 rfl) (by decide) rfl rfl ?_
  refine s_iload_n C (d_of DX9_likely 4 rfl) rfl ?_
  refine s_callS (av := [(0, l1)]) (rest := []) (mc := 0) (ms := 0) C (d_of DX9_likely 5 rfl) lk_X9_235 rfl rfl (Nat.le_of_ble_eq_true rfl) (by decide) (by decide) (pc_X9_isName) (fun z5 wz5 Mz5 hq => ?_)
  obtain ⟨hq1, hq2, hq3⟩ := hq
  have hq2 := hq2.symm
  have hq3 := hq3.symm
  subst hq1 hq2 hq3
  refine s_ifeq C (d_of DX9_likely 6 rfl) rfl (fun hc => ?_) (fun hc => ?_)
  · have h := h.1 (b2i_0.mp hc)
    refine s_iconst C (d_of DX9_likely 9 rfl) (by decide) ?_
    exact s_ireturn C (d_of DX9_likely 10 rfl) h
  · have h := h.2 (b2i_n0 hc)
    refine s_aload C (d_of DX9_likely 7 rfl) rfl ?_
    refine s_ifnonnull C (d_of DX9_likely 8 rfl) rfl (fun hc => ?_) (fun hc => ?_)
    · have h := h.1 hc
      refine s_aload_n C (d_of DX9_likely 11 rfl) rfl ?_
      refine gf_X9_66 C (sh_1 hF1) (d_of DX9_likely 12 rfl) (fx_1_12 hF1) ?_
      refine s_iload_n C (d_of DX9_likely 13 rfl) rfl ?_
      obtain ⟨o6, h⟩ := h
      obtain ⟨o7, h⟩ := h
      refine s_aald (v0 := (M 13 l1)) (t0 := 3) C (sh_13 hF1) (by decide) rfl o6 o7 (d_of DX9_likely 14 rfl) rfl ?_
      refine s_aload C (d_of DX9_likely 15 rfl) rfl ?_
      refine s_aload_n C (d_of DX9_likely 16 rfl) rfl ?_
      refine gf_X9_7 C (sh_1 hF1) (d_of DX9_likely 17 rfl) (fx_1_0 hF1) ?_
      refine s_iconst C (d_of DX9_likely 18 rfl) (by decide) ?_
      refine s_iald (v0 := (M 2 1)) C (sh_2 hF1) (by decide) (by decide) (d_of DX9_likely 19 rfl) rfl ?_
      obtain ⟨o8, h⟩ := h
      obtain ⟨Q9, hKQ9, h⟩ := h
      refine s_callV (ci := 2) (av := [(2, (pcO M l2)), (0, (M 2 1))]) (rest := []) (mc := 0) (ms := 0) C (d_of DX9_likely 20 rfl) lk_X9_244 o8 (by decide) rfl rfl rfl (Nat.le_of_ble_eq_true rfl) (by decide) (by decide) hKQ9 (fun z9 w9 M9 hq => ?_)
      have h := h z9 w9 M9 hq
      refine s_istore (ls' := [(2, 1), (0, l1), (0, l2), (0, l3), (2, (pcO M l2)), (0, z9), (3, 0)]) C (d_of DX9_likely 21 rfl) (by decide) rfl rfl ?_
      refine s_iload C (d_of DX9_likely 22 rfl) rfl ?_
      refine s_bipush C (d_of DX9_likely 23 rfl) ⟨rfl, by decide, by decide⟩ ?_
      refine s_icmpne C (d_of DX9_likely 24 rfl) rfl (fun hc => ?_) (fun hc => ?_)
      · have h := h.1 hc
        refine s_aload_n C (d_of DX9_likely 27 rfl) rfl ?_
        refine WA.fix (fun hF10 => ?_)
        refine gf_X9_66 C (sh_1 hF10) (d_of DX9_likely 28 rfl) (fx_1_12 hF10) ?_
        refine s_iload_n C (d_of DX9_likely 29 rfl) rfl ?_
        refine s_aald (v0 := (M9 13 l1)) (t0 := 3) C (sh_13 hF10) (by decide) rfl o6 o7 (d_of DX9_likely 30 rfl) rfl ?_
        refine s_aload C (d_of DX9_likely 31 rfl) rfl ?_
        refine s_iload C (d_of DX9_likely 32 rfl) rfl ?_
        refine s_aload_n C (d_of DX9_likely 33 rfl) rfl ?_
        refine gf_X9_7 C (sh_1 hF10) (d_of DX9_likely 34 rfl) (fx_1_0 hF10) ?_
        refine s_iconst C (d_of DX9_likely 35 rfl) (by decide) ?_
        refine s_iald (v0 := (M9 2 1)) C (sh_2 hF10) (by decide) (by decide) (d_of DX9_likely 36 rfl) rfl ?_
        obtain ⟨o11, h⟩ := h
        obtain ⟨Q12, hKQ12, h⟩ := h
        refine s_callV (ci := 2) (av := [(2, (pcO M l2)), (0, z9), (0, (M9 2 1))]) (rest := []) (mc := 0) (ms := 0) C (d_of DX9_likely 37 rfl) lk_X9_248 o11 (by decide) rfl rfl rfl (Nat.le_of_ble_eq_true rfl) (by decide) (by decide) hKQ12 (fun z12 w12 M12 hq => ?_)
        have h := h z12 w12 M12 hq
        refine s_istore (ls' := [(2, 1), (0, l1), (0, l2), (0, l3), (2, (pcO M l2)), (0, z9), (0, z12)]) C (d_of DX9_likely 38 rfl) (by decide) rfl rfl ?_
        refine s_iload_n C (d_of DX9_likely 39 rfl) rfl ?_
        rcases (show (l3 < 0 ∨ 2 < l3) ∨ l3 = 0 ∨ l3 = 1 ∨ l3 = 2 from by omega) with hc | hc | hc | hc
        · have h := h.1 hc
          refine s_tabOut C (d_of DX9_likely 40 rfl) hc rfl ?_
          refine s_bipush C (d_of DX9_likely 54 rfl) ⟨rfl, by decide, by decide⟩ ?_
          exact s_ireturn C (d_of DX9_likely 55 rfl) h
        · have h := h.2.1 hc
          refine s_tabIn C (d_of DX9_likely 40 rfl) hc (by decide) (by decide) rfl rfl ?_
          refine s_iload C (d_of DX9_likely 41 rfl) rfl ?_
          refine s_bipush C (d_of DX9_likely 42 rfl) ⟨rfl, by decide, by decide⟩ ?_
          refine s_icmpne C (d_of DX9_likely 43 rfl) rfl (fun hc => ?_) (fun hc => ?_)
          · have h := h.1 hc
            refine s_aload_n C (d_of DX9_likely 46 rfl) rfl ?_
            refine s_iload C (d_of DX9_likely 47 rfl) rfl ?_
            refine WA.fix (fun hF13 => ?_)
            obtain ⟨Q14, hKQ14, h⟩ := h
            refine s_callV (ci := 9) (av := [(0, z12)]) (rest := []) (mc := 0) (ms := 0) C (d_of DX9_likely 48 rfl) lk_X9_252 (sh_1 hF13) (by decide) rfl rfl rfl (Nat.le_of_ble_eq_true rfl) (by decide) (by decide) hKQ14 (fun z14 w14 M14 hq => ?_)
            have h := h z14 w14 M14 hq
            exact s_ireturn C (d_of DX9_likely 49 rfl) h
          · have h := h.2 hc
            refine s_iconst C (d_of DX9_likely 44 rfl) (by decide) ?_
            refine s_goto C (d_of DX9_likely 45 rfl) rfl ?_
            exact s_ireturn C (d_of DX9_likely 49 rfl) h
        · have h := h.2.2.1 hc
          refine s_tabIn C (d_of DX9_likely 40 rfl) hc (by decide) (by decide) rfl rfl ?_
          refine s_iload C (d_of DX9_likely 50 rfl) rfl ?_
          exact s_ireturn C (d_of DX9_likely 51 rfl) h
        · have h := h.2.2.2 hc
          refine s_tabIn C (d_of DX9_likely 40 rfl) hc (by decide) (by decide) rfl rfl ?_
          refine s_iload C (d_of DX9_likely 52 rfl) rfl ?_
          exact s_ireturn C (d_of DX9_likely 53 rfl) h
      · have h := h.2 hc
        refine s_iconst C (d_of DX9_likely 25 rfl) (by decide) ?_
        refine s_goto C (d_of DX9_likely 26 rfl) rfl ?_
        refine s_istore (ls' := [(2, 1), (0, l1), (0, l2), (0, l3), (2, (pcO M l2)), (0, z9), (0, 0)]) C (d_of DX9_likely 38 rfl) (by decide) rfl rfl ?_
        refine s_iload_n C (d_of DX9_likely 39 rfl) rfl ?_
        rcases (show (l3 < 0 ∨ 2 < l3) ∨ l3 = 0 ∨ l3 = 1 ∨ l3 = 2 from by omega) with hc | hc | hc | hc
        · have h := h.1 hc
          refine s_tabOut C (d_of DX9_likely 40 rfl) hc rfl ?_
          refine s_bipush C (d_of DX9_likely 54 rfl) ⟨rfl, by decide, by decide⟩ ?_
          exact s_ireturn C (d_of DX9_likely 55 rfl) h
        · have h := h.2.1 hc
          refine s_tabIn C (d_of DX9_likely 40 rfl) hc (by decide) (by decide) rfl rfl ?_
          refine s_iload C (d_of DX9_likely 41 rfl) rfl ?_
          refine s_bipush C (d_of DX9_likely 42 rfl) ⟨rfl, by decide, by decide⟩ ?_
          refine s_icmpne C (d_of DX9_likely 43 rfl) rfl (fun hc => ?_) (fun hc => ?_)
          · have h := h.1 hc
            refine s_aload_n C (d_of DX9_likely 46 rfl) rfl ?_
            refine s_iload C (d_of DX9_likely 47 rfl) rfl ?_
            refine WA.fix (fun hF15 => ?_)
            obtain ⟨Q16, hKQ16, h⟩ := h
            refine s_callV (ci := 9) (av := [(0, 0)]) (rest := []) (mc := 0) (ms := 0) C (d_of DX9_likely 48 rfl) lk_X9_252 (sh_1 hF15) (by decide) rfl rfl rfl (Nat.le_of_ble_eq_true rfl) (by decide) (by decide) hKQ16 (fun z16 w16 M16 hq => ?_)
            have h := h z16 w16 M16 hq
            exact s_ireturn C (d_of DX9_likely 49 rfl) h
          · have h := h.2 hc
            refine s_iconst C (d_of DX9_likely 44 rfl) (by decide) ?_
            refine s_goto C (d_of DX9_likely 45 rfl) rfl ?_
            exact s_ireturn C (d_of DX9_likely 49 rfl) h
        · have h := h.2.2.1 hc
          refine s_tabIn C (d_of DX9_likely 40 rfl) hc (by decide) (by decide) rfl rfl ?_
          refine s_iload C (d_of DX9_likely 50 rfl) rfl ?_
          exact s_ireturn C (d_of DX9_likely 51 rfl) h
        · have h := h.2.2.2 hc
          refine s_tabIn C (d_of DX9_likely 40 rfl) hc (by decide) (by decide) rfl rfl ?_
          refine s_iload C (d_of DX9_likely 52 rfl) rfl ?_
          exact s_ireturn C (d_of DX9_likely 53 rfl) h
    · have h := h.2 hc
      refine s_iconst C (d_of DX9_likely 9 rfl) (by decide) ?_
      exact s_ireturn C (d_of DX9_likely 10 rfl) h
theorem E_X9_likely {G : GP} {l : Launch} {P : Int → NS → MM → Prop} {l1 : Int} {l2 : Int} {l3 : Int} {w : NS} {M : MM} (h : inR l1 → inR l2 → inR l3 → ∀ X : BX, X.2.1 = l → CX_X9_likely G X → A_X9_likely_0 G X P l1 l2 l3 w M) : CT_X9_likely G l [(2, 1), (0, l1), (0, l2), (0, l3)] w M P :=
  CT.of RX9 "likely" (by decide +kernel) rfl rfl rfl (Nat.le_of_ble_eq_true rfl) (fun hr X hX C => h (hr (0, l1) (by simp)) (hr (0, l2) (by simp)) (hr (0, l3) (by simp)) X hX C)
def A_X0_add_0 (G : GP) (X : BX) (P : Int → NS → MM → Prop) (l1 : Int) (l2 : Int) (w : NS) (M : MM) : Prop := WA true G X (QM G X true 4 P) 3 0 [(2, 14), (0, l1), (0, l2)] [] 0 0 w M
set_option maxHeartbeats 4000000 in
set_option maxRecDepth 100000 in
theorem B_X0_add_0 {G : GP} {X : BX} {P : Int → NS → MM → Prop} {l1 : Int} {l2 : Int} {w : NS} {M : MM} (C : CX_X0_add G X) (h : (((9 ≤ (M 14 2)) → P 0 w M) ∧ ((¬ (9 ≤ (M 14 2))) → (0 ≤ (M 14 2)) ∧ ((M 14 2) < 9) ∧ (inR ((M 14 2) + 1)) ∧ P 0 w (up (up (up M 15 (M 14 2) l1) 16 (M 14 2) l2) 14 2 ((M 14 2) + 1))))) : A_X0_add_0 G X P l1 l2 w M := by
  unfold A_X0_add_0
  refine s_aload_n C (d_of DX0_add 0 rfl) rfl ?_
  refine WA.fix (fun hF1 => ?_)
  refine gf_X0_16 (v0 := (M 14 2)) C (sh_14 hF1) (d_of DX0_add 1 rfl) rfl ?_
  refine s_bipush C (d_of DX0_add 2 rfl) ⟨rfl, by decide, by decide⟩ ?_
  refine s_icmpge C (d_of DX0_add 3 rfl) rfl (fun hc => ?_) (fun hc => ?_)
  · have h := h.1 hc
    exact s_vreturn C (d_of DX0_add 22 rfl) h
  · have h := h.2 hc
    refine s_aload_n C (d_of DX0_add 4 rfl) rfl ?_
    refine gf_X0_9 C (sh_14 hF1) (d_of DX0_add 5 rfl) (fx_14_0 hF1) ?_
    refine s_aload_n C (d_of DX0_add 6 rfl) rfl ?_
    refine gf_X0_16 (v0 := (M 14 2)) C (sh_14 hF1) (d_of DX0_add 7 rfl) rfl ?_
    refine s_iload_n C (d_of DX0_add 8 rfl) rfl ?_
    obtain ⟨o2, h⟩ := h
    obtain ⟨o3, h⟩ := h
    refine s_iast C (sh_15 hF1) o2 o3 (fun _ => by decide) (d_of DX0_add 9 rfl) ?_
    refine s_aload_n C (d_of DX0_add 10 rfl) rfl ?_
    refine WA.fix (fun hF4 => ?_)
    refine gf_X0_13 C (sh_14 hF1) (d_of DX0_add 11 rfl) (fx_14_1 hF4) ?_
    refine s_aload_n C (d_of DX0_add 12 rfl) rfl ?_
    refine gf_X0_16 (v0 := (M 14 2)) C (sh_14 hF1) (d_of DX0_add 13 rfl) (up_na (by decide)) ?_
    refine s_iload_n C (d_of DX0_add 14 rfl) rfl ?_
    refine s_iast C (sh_16 hF4) o2 o3 (fun _ => by decide) (d_of DX0_add 15 rfl) ?_
    refine s_aload_n C (d_of DX0_add 16 rfl) rfl ?_
    refine s_dup C (by simp) (d_of DX0_add 17 rfl) ?_
    refine gf_X0_16 (v0 := (M 14 2)) C (sh_14 hF1) (d_of DX0_add 18 rfl) ((up_na (by decide)).trans (up_na (by decide))) ?_
    refine s_iconst C (d_of DX0_add 19 rfl) (by decide) ?_
    obtain ⟨o5, h⟩ := h
    refine s_iadd C (d_of DX0_add 20 rfl) o5 ?_
    refine pf_X0_16 C (sh_14 hF1) (fun _ => by decide) (d_of DX0_add 21 rfl) ?_
    exact s_vreturn C (d_of DX0_add 22 rfl) h
theorem E_X0_add {G : GP} {l : Launch} {P : Int → NS → MM → Prop} {l1 : Int} {l2 : Int} {w : NS} {M : MM} (h : inR l1 → inR l2 → ∀ X : BX, X.2.1 = l → CX_X0_add G X → A_X0_add_0 G X P l1 l2 w M) : CT_X0_add G l [(2, 14), (0, l1), (0, l2)] w M P :=
  CT.of RX0 "add" (by decide +kernel) rfl rfl rfl (Nat.le_of_ble_eq_true rfl) (fun hr X hX C => h (hr (0, l1) (by simp)) (hr (0, l2) (by simp)) X hX C)
def A_X9_gatherAsked_0 (G : GP) (X : BX) (P : Int → NS → MM → Prop) (l1 : Int) (w : NS) (M : MM) : Prop := WA true G X (QM G X true 4 P) 5 0 [(2, 1), (2, l1), (3, 0), (3, 0), (3, 0)] [] 0 0 w M
def A_X9_gatherAsked_10 (G : GP) (X : BX) (P : Int → NS → MM → Prop) (l1 : Int) (l2 : Int) (w : NS) (M : MM) : Prop := WA true G X (QM G X true 4 P) 5 10 [(2, 1), (2, l1), (0, l2), (3, 0), (3, 0)] [] 0 0 w M
def A_X9_gatherAsked_34 (G : GP) (X : BX) (P : Int → NS → MM → Prop) (l1 : Int) (l2 : Int) (l3 : Int) (w : NS) (M : MM) : Prop := WA true G X (QM G X true 4 P) 5 34 [(2, 1), (2, l1), (0, l2), (0, l3), (3, 0)] [] 0 0 w M
set_option maxHeartbeats 4000000 in
set_option maxRecDepth 100000 in
theorem B_X9_gatherAsked_0 {G : GP} {X : BX} {P : Int → NS → MM → Prop} {l1 : Int} {w : NS} {M : MM} (C : CX_X9_gatherAsked G X) (h : A_X9_gatherAsked_10 G X P l1 0 w (up M 14 2 0)) : A_X9_gatherAsked_0 G X P l1 w M := by
  unfold A_X9_gatherAsked_0
  refine s_aload_n C (d_of DX9_gatherAsked 0 rfl) rfl ?_
  refine WA.fix (fun hF1 => ?_)
  refine gf_X9_73 C (sh_1 hF1) (d_of DX9_gatherAsked 1 rfl) (fx_1_13 hF1) ?_
  refine s_iconst C (d_of DX9_gatherAsked 2 rfl) (by decide) ?_
  refine pf_X9_259 C (sh_14 hF1) (fun _ => by decide) (d_of DX9_gatherAsked 3 rfl) ?_
  refine s_iconst C (d_of DX9_gatherAsked 4 rfl) (by decide) ?_
  refine s_istore_n (ls' := [(2, 1), (2, l1), (0, 0), (3, 0), (3, 0)]) C (d_of DX9_gatherAsked 5 rfl) (by decide) rfl rfl ?_
  exact h
set_option maxHeartbeats 4000000 in
set_option maxRecDepth 100000 in
theorem B_X9_gatherAsked_10 {G : GP} {X : BX} {P : Int → NS → MM → Prop} {l1 : Int} {l2 : Int} {w : NS} {M : MM} (C : CX_X9_gatherAsked G X) (h : ((((M 1 7) ≤ l2) → P 0 w M) ∧ ((¬ ((M 1 7) ≤ l2)) → (0 ≤ l2) ∧ (l2 < 10) ∧ (w.2 l1 = (5, 5)) ∧ ∃ Q5 : Int → NS → MM → Prop, CT_X9_gatherList G X.2.1 [(2, 1), (2, (M 6 l2)), (0, (M l1 2))] w M Q5 ∧ ∀ (z5 : Int) (w5 : NS) (M5 : MM), Q5 z5 w5 M5 → A_X9_gatherAsked_34 G X P l1 l2 0 w5 M5))) : A_X9_gatherAsked_10 G X P l1 l2 w M := by
  unfold A_X9_gatherAsked_10
  refine s_iload_n C (d_of DX9_gatherAsked 6 rfl) rfl ?_
  refine s_aload_n C (d_of DX9_gatherAsked 7 rfl) rfl ?_
  refine WA.fix (fun hF1 => ?_)
  refine gf_X9_41 (v0 := (M 1 7)) C (sh_1 hF1) (d_of DX9_gatherAsked 8 rfl) rfl ?_
  refine s_icmpge C (d_of DX9_gatherAsked 9 rfl) rfl (fun hc => ?_) (fun hc => ?_)
  · have h := h.1 hc
    exact s_vreturn C (d_of DX9_gatherAsked 52 rfl) h
  · have h := h.2 hc
    refine s_aload_n C (d_of DX9_gatherAsked 10 rfl) rfl ?_
    refine s_aload_n C (d_of DX9_gatherAsked 11 rfl) rfl ?_
    refine gf_X9_37 C (sh_1 hF1) (d_of DX9_gatherAsked 12 rfl) (fx_1_6 hF1) ?_
    refine s_iload_n C (d_of DX9_gatherAsked 13 rfl) rfl ?_
    obtain ⟨o2, h⟩ := h
    obtain ⟨o3, h⟩ := h
    refine s_aald (v0 := (M 6 l2)) (t0 := 4) C (sh_6 hF1) (by decide) rfl o2 o3 (d_of DX9_gatherAsked 14 rfl) rfl ?_
    refine s_aload_n C (d_of DX9_gatherAsked 15 rfl) rfl ?_
    obtain ⟨o4, h⟩ := h
    refine gf_X9_131 (v0 := (M l1 2)) C o4 (d_of DX9_gatherAsked 16 rfl) rfl ?_
    obtain ⟨Q5, hKQ5, h⟩ := h
    refine s_callV (ci := 9) (av := [(2, (M 6 l2)), (0, (M l1 2))]) (rest := []) (mc := 0) (ms := 0) C (d_of DX9_gatherAsked 17 rfl) lk_X9_231 (sh_1 hF1) (by decide) rfl rfl rfl (Nat.le_of_ble_eq_true rfl) (by decide) (by decide) hKQ5 (fun z5 w5 M5 hq => ?_)
    have h := h z5 w5 M5 hq
    refine s_iconst C (d_of DX9_gatherAsked 18 rfl) (by decide) ?_
    refine s_istore_n (ls' := [(2, 1), (2, l1), (0, l2), (0, 0), (3, 0)]) C (d_of DX9_gatherAsked 19 rfl) (by decide) rfl rfl ?_
    exact h
set_option maxHeartbeats 4000000 in
set_option maxRecDepth 100000 in
theorem B_X9_gatherAsked_34 {G : GP} {X : BX} {P : Int → NS → MM → Prop} {l1 : Int} {l2 : Int} {l3 : Int} {w : NS} {M : MM} (C : CX_X9_gatherAsked G X) (h : ((((M 1 11) ≤ l3) → (inR (l2 + 1)) ∧ A_X9_gatherAsked_10 G X P l1 (l2 + 1) w M) ∧ ((¬ ((M 1 11) ≤ l3)) → (0 ≤ l3) ∧ (l3 < 24) ∧ (0 ≤ (M 12 l3)) ∧ ((M 12 l3) < 24) ∧ (w.2 (M 4 (M 12 l3)) = (7, 12)) ∧ (0 ≤ (M (M 4 (M 12 l3)) 1)) ∧ (0 ≤ l1) ∧ ((((M (M 4 (M 12 l3)) 1) = l1) → ∃ Q10 : Int → NS → MM → Prop, CT_X0_add G X.2.1 [(2, 14), (0, l2), (0, (M 12 l3))] w M Q10 ∧ ∀ (z10 : Int) (w10 : NS) (M10 : MM), Q10 z10 w10 M10 → (inR (l3 + 1)) ∧ A_X9_gatherAsked_34 G X P l1 l2 (l3 + 1) w10 M10) ∧ ((¬ ((M (M 4 (M 12 l3)) 1) = l1)) → (w.2 l1 = (5, 5)) ∧ (0 ≤ (M l1 4)) ∧ ((((M (M 4 (M 12 l3)) 1) ≠ (M l1 4)) → (inR (l3 + 1)) ∧ A_X9_gatherAsked_34 G X P l1 l2 (l3 + 1) w M) ∧ ((¬ ((M (M 4 (M 12 l3)) 1) ≠ (M l1 4))) → ∃ Q15 : Int → NS → MM → Prop, CT_X0_add G X.2.1 [(2, 14), (0, l2), (0, (M 12 l3))] w M Q15 ∧ ∀ (z15 : Int) (w15 : NS) (M15 : MM), Q15 z15 w15 M15 → (inR (l3 + 1)) ∧ A_X9_gatherAsked_34 G X P l1 l2 (l3 + 1) w15 M15))))))) : A_X9_gatherAsked_34 G X P l1 l2 l3 w M := by
  unfold A_X9_gatherAsked_34
  refine s_iload_n C (d_of DX9_gatherAsked 20 rfl) rfl ?_
  refine s_aload_n C (d_of DX9_gatherAsked 21 rfl) rfl ?_
  refine WA.fix (fun hF1 => ?_)
  refine gf_X9_61 (v0 := (M 1 11)) C (sh_1 hF1) (d_of DX9_gatherAsked 22 rfl) rfl ?_
  refine s_icmpge C (d_of DX9_gatherAsked 23 rfl) rfl (fun hc => ?_) (fun hc => ?_)
  · have h := h.1 hc
    obtain ⟨o2, h⟩ := h
    refine s_iinc (ls' := [(2, 1), (2, l1), (0, (l2 + 1)), (0, l3), (3, 0)]) C (d_of DX9_gatherAsked 50 rfl) (by decide) rfl o2 rfl rfl ?_
    refine s_goto C (d_of DX9_gatherAsked 51 rfl) rfl ?_
    exact WA.wk h ⟨Or.inr rfl, Or.inr rfl, Or.inr rfl, Or.inl rfl, Or.inl rfl, trivial⟩
  · have h := h.2 hc
    refine s_aload_n C (d_of DX9_gatherAsked 24 rfl) rfl ?_
    refine gf_X9_25 C (sh_1 hF1) (d_of DX9_gatherAsked 25 rfl) (fx_1_3 hF1) ?_
    refine s_aload_n C (d_of DX9_gatherAsked 26 rfl) rfl ?_
    refine gf_X9_58 C (sh_1 hF1) (d_of DX9_gatherAsked 27 rfl) (fx_1_10 hF1) ?_
    refine s_iload_n C (d_of DX9_gatherAsked 28 rfl) rfl ?_
    obtain ⟨o3, h⟩ := h
    obtain ⟨o4, h⟩ := h
    refine s_iald (v0 := (M 12 l3)) C (sh_12 hF1) o3 o4 (d_of DX9_gatherAsked 29 rfl) rfl ?_
    obtain ⟨o5, h⟩ := h
    obtain ⟨o6, h⟩ := h
    refine s_aald (v0 := (M 4 (M 12 l3))) (t0 := 6) C (sh_4 hF1) (by decide) rfl o5 o6 (d_of DX9_gatherAsked 30 rfl) rfl ?_
    obtain ⟨o7, h⟩ := h
    refine gf_X9_166 (v0 := (M (M 4 (M 12 l3)) 1)) C o7 (d_of DX9_gatherAsked 31 rfl) rfl ?_
    refine s_astore (ls' := [(2, 1), (2, l1), (0, l2), (0, l3), (2, (M (M 4 (M 12 l3)) 1))]) C (d_of DX9_gatherAsked 32 rfl) (by decide) rfl rfl ?_
    refine s_aload C (d_of DX9_gatherAsked 33 rfl) rfl ?_
    refine s_aload_n C (d_of DX9_gatherAsked 34 rfl) rfl ?_
    obtain ⟨o8, h⟩ := h
    obtain ⟨o9, h⟩ := h
    refine s_acmpeq C (d_of DX9_gatherAsked 35 rfl) rfl o8 o9 (fun hc => ?_) (fun hc => ?_)
    · have h := h.1 hc
      refine s_aload_n C (d_of DX9_gatherAsked 40 rfl) rfl ?_
      refine gf_X9_73 C (sh_1 hF1) (d_of DX9_gatherAsked 41 rfl) (fx_1_13 hF1) ?_
      refine s_iload_n C (d_of DX9_gatherAsked 42 rfl) rfl ?_
      refine s_aload_n C (d_of DX9_gatherAsked 43 rfl) rfl ?_
      refine gf_X9_58 C (sh_1 hF1) (d_of DX9_gatherAsked 44 rfl) (fx_1_10 hF1) ?_
      refine s_iload_n C (d_of DX9_gatherAsked 45 rfl) rfl ?_
      refine s_iald (v0 := (M 12 l3)) C (sh_12 hF1) o3 o4 (d_of DX9_gatherAsked 46 rfl) rfl ?_
      obtain ⟨Q10, hKQ10, h⟩ := h
      refine s_callV (ci := 0) (av := [(0, l2), (0, (M 12 l3))]) (rest := []) (mc := 0) (ms := 0) C (d_of DX9_gatherAsked 47 rfl) lk_X9_340 (sh_14 hF1) (by decide) rfl rfl rfl (Nat.le_of_ble_eq_true rfl) (by decide) (by decide) hKQ10 (fun z10 w10 M10 hq => ?_)
      have h := h z10 w10 M10 hq
      obtain ⟨o11, h⟩ := h
      refine s_iinc (ls' := [(2, 1), (2, l1), (0, l2), (0, (l3 + 1)), (2, (M (M 4 (M 12 l3)) 1))]) C (d_of DX9_gatherAsked 48 rfl) (by decide) rfl o11 rfl rfl ?_
      refine s_goto C (d_of DX9_gatherAsked 49 rfl) rfl ?_
      exact WA.wk h ⟨Or.inr rfl, Or.inr rfl, Or.inr rfl, Or.inr rfl, Or.inl rfl, trivial⟩
    · have h := h.2 hc
      refine s_aload C (d_of DX9_gatherAsked 36 rfl) rfl ?_
      refine s_aload_n C (d_of DX9_gatherAsked 37 rfl) rfl ?_
      obtain ⟨o12, h⟩ := h
      refine gf_X9_134 (v0 := (M l1 4)) C o12 (d_of DX9_gatherAsked 38 rfl) rfl ?_
      obtain ⟨o13, h⟩ := h
      refine s_acmpne C (d_of DX9_gatherAsked 39 rfl) rfl o8 o13 (fun hc => ?_) (fun hc => ?_)
      · have h := h.1 hc
        obtain ⟨o14, h⟩ := h
        refine s_iinc (ls' := [(2, 1), (2, l1), (0, l2), (0, (l3 + 1)), (2, (M (M 4 (M 12 l3)) 1))]) C (d_of DX9_gatherAsked 48 rfl) (by decide) rfl o14 rfl rfl ?_
        refine s_goto C (d_of DX9_gatherAsked 49 rfl) rfl ?_
        exact WA.wk h ⟨Or.inr rfl, Or.inr rfl, Or.inr rfl, Or.inr rfl, Or.inl rfl, trivial⟩
      · have h := h.2 hc
        refine s_aload_n C (d_of DX9_gatherAsked 40 rfl) rfl ?_
        refine gf_X9_73 C (sh_1 hF1) (d_of DX9_gatherAsked 41 rfl) (fx_1_13 hF1) ?_
        refine s_iload_n C (d_of DX9_gatherAsked 42 rfl) rfl ?_
        refine s_aload_n C (d_of DX9_gatherAsked 43 rfl) rfl ?_
        refine gf_X9_58 C (sh_1 hF1) (d_of DX9_gatherAsked 44 rfl) (fx_1_10 hF1) ?_
        refine s_iload_n C (d_of DX9_gatherAsked 45 rfl) rfl ?_
        refine s_iald (v0 := (M 12 l3)) C (sh_12 hF1) o3 o4 (d_of DX9_gatherAsked 46 rfl) rfl ?_
        obtain ⟨Q15, hKQ15, h⟩ := h
        refine s_callV (ci := 0) (av := [(0, l2), (0, (M 12 l3))]) (rest := []) (mc := 0) (ms := 0) C (d_of DX9_gatherAsked 47 rfl) lk_X9_340 (sh_14 hF1) (by decide) rfl rfl rfl (Nat.le_of_ble_eq_true rfl) (by decide) (by decide) hKQ15 (fun z15 w15 M15 hq => ?_)
        have h := h z15 w15 M15 hq
        obtain ⟨o16, h⟩ := h
        refine s_iinc (ls' := [(2, 1), (2, l1), (0, l2), (0, (l3 + 1)), (2, (M (M 4 (M 12 l3)) 1))]) C (d_of DX9_gatherAsked 48 rfl) (by decide) rfl o16 rfl rfl ?_
        refine s_goto C (d_of DX9_gatherAsked 49 rfl) rfl ?_
        exact WA.wk h ⟨Or.inr rfl, Or.inr rfl, Or.inr rfl, Or.inr rfl, Or.inl rfl, trivial⟩
theorem E_X9_gatherAsked {G : GP} {l : Launch} {P : Int → NS → MM → Prop} {l1 : Int} {w : NS} {M : MM} (h : ∀ X : BX, X.2.1 = l → CX_X9_gatherAsked G X → A_X9_gatherAsked_0 G X P l1 w M) : CT_X9_gatherAsked G l [(2, 1), (2, l1)] w M P :=
  CT.of RX9 "gatherAsked" (by decide +kernel) rfl rfl rfl (Nat.le_of_ble_eq_true rfl) (fun hr X hX C => h  X hX C)
def A_X9_asked_0 (G : GP) (X : BX) (P : Int → NS → MM → Prop) (l1 : Int) (l2 : Int) (w : NS) (M : MM) : Prop := WA true G X (QM G X true 0 P) 4 0 [(2, 1), (0, l1), (0, l2), (3, 0)] [] 0 0 w M
set_option maxHeartbeats 4000000 in
set_option maxRecDepth 100000 in
theorem B_X9_asked_0 {G : GP} {X : BX} {P : Int → NS → MM → Prop} {l1 : Int} {l2 : Int} {w : NS} {M : MM} (C : CX_X9_asked G X) (h : (0 ≤ M 1 2) ∧ (M 1 2 ≤ 8) ∧ ((((pgO M l1) ≠ 0) → ∃ Q5 : Int → NS → MM → Prop, CT_X9_gatherAsked G X.2.1 [(2, 1), (2, (pgO M l1))] w M Q5 ∧ ∀ (z5 : Int) (w5 : NS) (M5 : MM), Q5 z5 w5 M5 → (((l2 ≠ (-1)) → (inR ((M5 14 2) - 1)) ∧ (((¬ (0 ≤ l2 ∧ l2 ≤ ((M5 14 2) - 1))) → P (-6) w5 M5) ∧ (((0 ≤ l2 ∧ l2 ≤ ((M5 14 2) - 1))) → (0 ≤ l2) ∧ (l2 < 9) ∧ (inR (100 * (M5 15 l2))) ∧ (inR ((100 * (M5 15 l2)) + (M5 16 l2))) ∧ P ((100 * (M5 15 l2)) + (M5 16 l2)) w5 M5))) ∧ ((¬ (l2 ≠ (-1))) → P (M5 14 2) w5 M5))) ∧ ((¬ ((pgO M l1) ≠ 0)) → P (-1) w M))) : A_X9_asked_0 G X P l1 l2 w M := by
  unfold A_X9_asked_0
  refine s_aload_n C (d_of DX9_asked 0 rfl) rfl ?_
  refine s_iload_n C (d_of DX9_asked 1 rfl) rfl ?_
  refine WA.fix (fun hF1 => ?_)
  obtain ⟨o2, h⟩ := h
  obtain ⟨o3, h⟩ := h
  refine s_callV (ci := 9) (av := [(0, l1)]) (rest := []) (mc := 0) (ms := 0) C (d_of DX9_asked 2 rfl) lk_X9_106 (sh_1 hF1) (by decide) rfl rfl rfl (Nat.le_of_ble_eq_true rfl) (by decide) (by decide) (pc_X9_pageOf o2 o3) (fun z4 wz4 Mz4 hq => ?_)
  obtain ⟨hq1, hq2, hq3⟩ := hq
  have hq2 := hq2.symm
  have hq3 := hq3.symm
  subst hq1 hq2 hq3
  refine s_astore_n (ls' := [(2, 1), (0, l1), (0, l2), (2, (pgO M l1))]) C (d_of DX9_asked 3 rfl) (by decide) rfl rfl ?_
  refine s_aload_n C (d_of DX9_asked 4 rfl) rfl ?_
  refine s_ifnonnull C (d_of DX9_asked 5 rfl) rfl (fun hc => ?_) (fun hc => ?_)
  · have h := h.1 hc
    refine s_aload_n C (d_of DX9_asked 8 rfl) rfl ?_
    refine s_aload_n C (d_of DX9_asked 9 rfl) rfl ?_
    obtain ⟨Q5, hKQ5, h⟩ := h
    refine s_callV (ci := 9) (av := [(2, (pgO M l1))]) (rest := []) (mc := 0) (ms := 0) C (d_of DX9_asked 10 rfl) lk_X9_256 (sh_1 hF1) (by decide) rfl rfl rfl (Nat.le_of_ble_eq_true rfl) (by decide) (by decide) hKQ5 (fun z5 w5 M5 hq => ?_)
    have h := h z5 w5 M5 hq
    refine s_iload_n C (d_of DX9_asked 11 rfl) rfl ?_
    refine s_iconst C (d_of DX9_asked 12 rfl) (by decide) ?_
    refine s_icmpne C (d_of DX9_asked 13 rfl) rfl (fun hc => ?_) (fun hc => ?_)
    · have h := h.1 hc
      refine s_iload_n C (d_of DX9_asked 18 rfl) rfl ?_
      refine s_iconst C (d_of DX9_asked 19 rfl) (by decide) ?_
      refine s_aload_n C (d_of DX9_asked 20 rfl) rfl ?_
      refine WA.fix (fun hF6 => ?_)
      refine gf_X9_73 C (sh_1 hF6) (d_of DX9_asked 21 rfl) (fx_1_13 hF6) ?_
      refine gf_X9_259 (v0 := (M5 14 2)) C (sh_14 hF6) (d_of DX9_asked 22 rfl) rfl ?_
      refine s_iconst C (d_of DX9_asked 23 rfl) (by decide) ?_
      obtain ⟨o7, h⟩ := h
      refine s_isub C (d_of DX9_asked 24 rfl) o7 ?_
      refine s_callS (av := [(0, l2), (0, 0), (0, ((M5 14 2) - 1))]) (rest := []) (mc := 0) (ms := 0) C (d_of DX9_asked 25 rfl) lk_X9_95 rfl rfl (Nat.le_of_ble_eq_true rfl) (by decide) (by decide) (pc_X9_within) (fun z8 wz8 Mz8 hq => ?_)
      obtain ⟨hq1, hq2, hq3⟩ := hq
      have hq2 := hq2.symm
      have hq3 := hq3.symm
      subst hq1 hq2 hq3
      refine s_ifeq C (d_of DX9_asked 26 rfl) rfl (fun hc => ?_) (fun hc => ?_)
      · have h := h.1 (b2i_0.mp hc)
        refine s_bipush C (d_of DX9_asked 41 rfl) ⟨rfl, by decide, by decide⟩ ?_
        exact s_ireturn C (d_of DX9_asked 42 rfl) h
      · have h := h.2 (b2i_n0 hc)
        refine s_bipush C (d_of DX9_asked 27 rfl) ⟨rfl, by decide, by decide⟩ ?_
        refine s_aload_n C (d_of DX9_asked 28 rfl) rfl ?_
        refine gf_X9_73 C (sh_1 hF6) (d_of DX9_asked 29 rfl) (fx_1_13 hF6) ?_
        refine gf_X9_260 C (sh_14 hF6) (d_of DX9_asked 30 rfl) (fx_14_0 hF6) ?_
        refine s_iload_n C (d_of DX9_asked 31 rfl) rfl ?_
        obtain ⟨o9, h⟩ := h
        obtain ⟨o10, h⟩ := h
        refine s_iald (v0 := (M5 15 l2)) C (sh_15 hF6) o9 o10 (d_of DX9_asked 32 rfl) rfl ?_
        obtain ⟨o11, h⟩ := h
        refine s_imul C (d_of DX9_asked 33 rfl) o11 ?_
        refine s_aload_n C (d_of DX9_asked 34 rfl) rfl ?_
        refine gf_X9_73 C (sh_1 hF6) (d_of DX9_asked 35 rfl) (fx_1_13 hF6) ?_
        refine gf_X9_262 C (sh_14 hF6) (d_of DX9_asked 36 rfl) (fx_14_1 hF6) ?_
        refine s_iload_n C (d_of DX9_asked 37 rfl) rfl ?_
        refine s_iald (v0 := (M5 16 l2)) C (sh_16 hF6) o9 o10 (d_of DX9_asked 38 rfl) rfl ?_
        obtain ⟨o12, h⟩ := h
        refine s_iadd C (d_of DX9_asked 39 rfl) o12 ?_
        refine s_goto C (d_of DX9_asked 40 rfl) rfl ?_
        exact s_ireturn C (d_of DX9_asked 42 rfl) h
    · have h := h.2 hc
      refine s_aload_n C (d_of DX9_asked 14 rfl) rfl ?_
      refine WA.fix (fun hF13 => ?_)
      refine gf_X9_73 C (sh_1 hF13) (d_of DX9_asked 15 rfl) (fx_1_13 hF13) ?_
      refine gf_X9_259 (v0 := (M5 14 2)) C (sh_14 hF13) (d_of DX9_asked 16 rfl) rfl ?_
      exact s_ireturn C (d_of DX9_asked 17 rfl) h
  · have h := h.2 hc
    refine s_iconst C (d_of DX9_asked 6 rfl) (by decide) ?_
    exact s_ireturn C (d_of DX9_asked 7 rfl) h
theorem E_X9_asked {G : GP} {l : Launch} {P : Int → NS → MM → Prop} {l1 : Int} {l2 : Int} {w : NS} {M : MM} (h : inR l1 → inR l2 → ∀ X : BX, X.2.1 = l → CX_X9_asked G X → A_X9_asked_0 G X P l1 l2 w M) : CT_X9_asked G l [(2, 1), (0, l1), (0, l2)] w M P :=
  CT.of RX9 "asked" (by decide +kernel) rfl rfl rfl (Nat.le_of_ble_eq_true rfl) (fun hr X hX C => h (hr (0, l1) (by simp)) (hr (0, l2) (by simp)) X hX C)
def A_X0_findClashes_0 (G : GP) (X : BX) (P : Int → NS → MM → Prop) (l1 : Int) (w : NS) (M : MM) : Prop := WA true G X (QM G X true 4 P) 5 0 [(2, 14), (2, l1), (3, 0), (3, 0), (3, 0)] [] 0 0 w M
def A_X0_findClashes_2 (G : GP) (X : BX) (P : Int → NS → MM → Prop) (l1 : Int) (l2 : Int) (w : NS) (M : MM) : Prop := WA true G X (QM G X true 4 P) 5 2 [(2, 14), (2, l1), (0, l2), (3, 0), (3, 0)] [] 0 0 w M
def A_X0_findClashes_15 (G : GP) (X : BX) (P : Int → NS → MM → Prop) (l1 : Int) (l2 : Int) (l3 : Int) (l4 : Int) (w : NS) (M : MM) : Prop := WA true G X (QM G X true 4 P) 5 15 [(2, 14), (2, l1), (0, l2), (0, l3), (0, l4)] [] 0 0 w M
set_option maxHeartbeats 4000000 in
set_option maxRecDepth 100000 in
theorem B_X0_findClashes_0 {G : GP} {X : BX} {P : Int → NS → MM → Prop} {l1 : Int} {w : NS} {M : MM} (C : CX_X0_findClashes G X) (h : A_X0_findClashes_2 G X P l1 0 w M) : A_X0_findClashes_0 G X P l1 w M := by
  unfold A_X0_findClashes_0
  refine s_iconst C (d_of DX0_findClashes 0 rfl) (by decide) ?_
  refine s_istore_n (ls' := [(2, 14), (2, l1), (0, 0), (3, 0), (3, 0)]) C (d_of DX0_findClashes 1 rfl) (by decide) rfl rfl ?_
  exact h
set_option maxHeartbeats 4000000 in
set_option maxRecDepth 100000 in
theorem B_X0_findClashes_2 {G : GP} {X : BX} {P : Int → NS → MM → Prop} {l1 : Int} {l2 : Int} {w : NS} {M : MM} (C : CX_X0_findClashes G X) (h : ((((M 14 2) ≤ l2) → P 0 w M) ∧ ((¬ ((M 14 2) ≤ l2)) → A_X0_findClashes_15 G X P l1 l2 0 0 w M))) : A_X0_findClashes_2 G X P l1 l2 w M := by
  unfold A_X0_findClashes_2
  refine s_iload_n C (d_of DX0_findClashes 2 rfl) rfl ?_
  refine s_aload_n C (d_of DX0_findClashes 3 rfl) rfl ?_
  refine WA.fix (fun hF1 => ?_)
  refine gf_X0_16 (v0 := (M 14 2)) C (sh_14 hF1) (d_of DX0_findClashes 4 rfl) rfl ?_
  refine s_icmpge C (d_of DX0_findClashes 5 rfl) rfl (fun hc => ?_) (fun hc => ?_)
  · have h := h.1 hc
    exact s_vreturn C (d_of DX0_findClashes 56 rfl) h
  · have h := h.2 hc
    refine s_iconst C (d_of DX0_findClashes 6 rfl) (by decide) ?_
    refine s_istore_n (ls' := [(2, 14), (2, l1), (0, l2), (0, 0), (3, 0)]) C (d_of DX0_findClashes 7 rfl) (by decide) rfl rfl ?_
    refine s_iconst C (d_of DX0_findClashes 8 rfl) (by decide) ?_
    refine s_istore (ls' := [(2, 14), (2, l1), (0, l2), (0, 0), (0, 0)]) C (d_of DX0_findClashes 9 rfl) (by decide) rfl rfl ?_
    exact h
set_option maxHeartbeats 4000000 in
set_option maxRecDepth 100000 in
theorem B_X0_findClashes_15 {G : GP} {X : BX} {P : Int → NS → MM → Prop} {l1 : Int} {l2 : Int} {l3 : Int} {l4 : Int} {w : NS} {M : MM} (C : CX_X0_findClashes G X) (h : ((((M 14 2) ≤ l4) → (inR ((M 14 2) - 1)) ∧ (inR (((M 14 2) - 1) - l2)) ∧ (0 ≤ (((M 14 2) - 1) - l2)) ∧ ((((M 14 2) - 1) - l2) < 9) ∧ (inR (l2 + 1)) ∧ A_X0_findClashes_2 G X P l1 (l2 + 1) w (up M 17 (((M 14 2) - 1) - l2) l3)) ∧ ((¬ ((M 14 2) ≤ l4)) → (((l4 = l2) → (inR (l4 + 1)) ∧ A_X0_findClashes_15 G X P l1 l2 l3 (l4 + 1) w M) ∧ ((¬ (l4 = l2)) → (0 ≤ l2) ∧ (l2 < 9) ∧ (w.2 l1 = (18, 24)) ∧ (0 ≤ (M 16 l2)) ∧ ((M 16 l2) < 24) ∧ (0 ≤ l4) ∧ (l4 < 9) ∧ (0 ≤ (M 16 l4)) ∧ ((M 16 l4) < 24) ∧ (w.2 (M l1 (M 16 l2)) = (7, 12)) ∧ ∃ Q18 : Int → NS → MM → Prop, CT_X6_clashesWith G X.2.1 [(2, (M l1 (M 16 l2))), (2, (M l1 (M 16 l4)))] w M Q18 ∧ ∀ (z18 : Int) (w18 : NS) (M18 : MM), Q18 z18 w18 M18 → (((z18 = 0) → (inR (l4 + 1)) ∧ A_X0_findClashes_15 G X P l1 l2 l3 (l4 + 1) w18 M18) ∧ ((¬ (z18 = 0)) → (inR ((M18 14 2) - 1)) ∧ (inR (((M18 14 2) - 1) - l4)) ∧ (inR (l4 + 1)) ∧ A_X0_findClashes_15 G X P l1 l2 (zor l3 (zshl 1 (((M18 14 2) - 1) - l4))) (l4 + 1) w18 M18))))))) : A_X0_findClashes_15 G X P l1 l2 l3 l4 w M := by
  unfold A_X0_findClashes_15
  refine s_iload C (d_of DX0_findClashes 10 rfl) rfl ?_
  refine s_aload_n C (d_of DX0_findClashes 11 rfl) rfl ?_
  refine WA.fix (fun hF1 => ?_)
  refine gf_X0_16 (v0 := (M 14 2)) C (sh_14 hF1) (d_of DX0_findClashes 12 rfl) rfl ?_
  refine s_icmpge C (d_of DX0_findClashes 13 rfl) rfl (fun hc => ?_) (fun hc => ?_)
  · have h := h.1 hc
    refine s_aload_n C (d_of DX0_findClashes 44 rfl) rfl ?_
    refine gf_X0_20 C (sh_14 hF1) (d_of DX0_findClashes 45 rfl) (fx_14_3 hF1) ?_
    refine s_aload_n C (d_of DX0_findClashes 46 rfl) rfl ?_
    refine gf_X0_16 (v0 := (M 14 2)) C (sh_14 hF1) (d_of DX0_findClashes 47 rfl) rfl ?_
    refine s_iconst C (d_of DX0_findClashes 48 rfl) (by decide) ?_
    obtain ⟨o2, h⟩ := h
    refine s_isub C (d_of DX0_findClashes 49 rfl) o2 ?_
    refine s_iload_n C (d_of DX0_findClashes 50 rfl) rfl ?_
    obtain ⟨o3, h⟩ := h
    refine s_isub C (d_of DX0_findClashes 51 rfl) o3 ?_
    refine s_iload_n C (d_of DX0_findClashes 52 rfl) rfl ?_
    obtain ⟨o4, h⟩ := h
    obtain ⟨o5, h⟩ := h
    refine s_iast C (sh_17 hF1) o4 o5 (fun _ => by decide) (d_of DX0_findClashes 53 rfl) ?_
    obtain ⟨o6, h⟩ := h
    refine s_iinc (ls' := [(2, 14), (2, l1), (0, (l2 + 1)), (0, l3), (0, l4)]) C (d_of DX0_findClashes 54 rfl) (by decide) rfl o6 rfl rfl ?_
    refine s_goto C (d_of DX0_findClashes 55 rfl) rfl ?_
    exact WA.wk h ⟨Or.inr rfl, Or.inr rfl, Or.inr rfl, Or.inl rfl, Or.inl rfl, trivial⟩
  · have h := h.2 hc
    refine s_iload C (d_of DX0_findClashes 14 rfl) rfl ?_
    refine s_iload_n C (d_of DX0_findClashes 15 rfl) rfl ?_
    refine s_icmpeq C (d_of DX0_findClashes 16 rfl) rfl (fun hc => ?_) (fun hc => ?_)
    · have h := h.1 hc
      obtain ⟨o7, h⟩ := h
      refine s_iinc (ls' := [(2, 14), (2, l1), (0, l2), (0, l3), (0, (l4 + 1))]) C (d_of DX0_findClashes 42 rfl) (by decide) rfl o7 rfl rfl ?_
      refine s_goto C (d_of DX0_findClashes 43 rfl) rfl ?_
      exact h
    · have h := h.2 hc
      refine s_aload_n C (d_of DX0_findClashes 17 rfl) rfl ?_
      refine s_aload_n C (d_of DX0_findClashes 18 rfl) rfl ?_
      refine gf_X0_13 C (sh_14 hF1) (d_of DX0_findClashes 19 rfl) (fx_14_1 hF1) ?_
      refine s_iload_n C (d_of DX0_findClashes 20 rfl) rfl ?_
      obtain ⟨o8, h⟩ := h
      obtain ⟨o9, h⟩ := h
      refine s_iald (v0 := (M 16 l2)) C (sh_16 hF1) o8 o9 (d_of DX0_findClashes 21 rfl) rfl ?_
      obtain ⟨o10, h⟩ := h
      obtain ⟨o11, h⟩ := h
      obtain ⟨o12, h⟩ := h
      refine s_aald (v0 := (M l1 (M 16 l2))) (t0 := 6) C o10 (by decide) rfl o11 o12 (d_of DX0_findClashes 22 rfl) rfl ?_
      refine s_aload_n C (d_of DX0_findClashes 23 rfl) rfl ?_
      refine s_aload_n C (d_of DX0_findClashes 24 rfl) rfl ?_
      refine gf_X0_13 C (sh_14 hF1) (d_of DX0_findClashes 25 rfl) (fx_14_1 hF1) ?_
      refine s_iload C (d_of DX0_findClashes 26 rfl) rfl ?_
      obtain ⟨o13, h⟩ := h
      obtain ⟨o14, h⟩ := h
      refine s_iald (v0 := (M 16 l4)) C (sh_16 hF1) o13 o14 (d_of DX0_findClashes 27 rfl) rfl ?_
      obtain ⟨o15, h⟩ := h
      obtain ⟨o16, h⟩ := h
      refine s_aald (v0 := (M l1 (M 16 l4))) (t0 := 6) C o10 (by decide) rfl o15 o16 (d_of DX0_findClashes 28 rfl) rfl ?_
      obtain ⟨o17, h⟩ := h
      obtain ⟨Q18, hKQ18, h⟩ := h
      refine s_callV (ci := 6) (av := [(2, (M l1 (M 16 l4)))]) (rest := []) (mc := 0) (ms := 0) C (d_of DX0_findClashes 29 rfl) lk_X0_39 o17 (by decide) rfl rfl rfl (Nat.le_of_ble_eq_true rfl) (by decide) (by decide) hKQ18 (fun z18 w18 M18 hq => ?_)
      have h := h z18 w18 M18 hq
      refine s_ifeq C (d_of DX0_findClashes 30 rfl) rfl (fun hc => ?_) (fun hc => ?_)
      · have h := h.1 hc
        obtain ⟨o19, h⟩ := h
        refine s_iinc (ls' := [(2, 14), (2, l1), (0, l2), (0, l3), (0, (l4 + 1))]) C (d_of DX0_findClashes 42 rfl) (by decide) rfl o19 rfl rfl ?_
        refine s_goto C (d_of DX0_findClashes 43 rfl) rfl ?_
        exact h
      · have h := h.2 hc
        refine s_iload_n C (d_of DX0_findClashes 31 rfl) rfl ?_
        refine s_iconst C (d_of DX0_findClashes 32 rfl) (by decide) ?_
        refine s_aload_n C (d_of DX0_findClashes 33 rfl) rfl ?_
        refine WA.fix (fun hF20 => ?_)
        refine gf_X0_16 (v0 := (M18 14 2)) C (sh_14 hF20) (d_of DX0_findClashes 34 rfl) rfl ?_
        refine s_iconst C (d_of DX0_findClashes 35 rfl) (by decide) ?_
        obtain ⟨o21, h⟩ := h
        refine s_isub C (d_of DX0_findClashes 36 rfl) o21 ?_
        refine s_iload C (d_of DX0_findClashes 37 rfl) rfl ?_
        obtain ⟨o22, h⟩ := h
        refine s_isub C (d_of DX0_findClashes 38 rfl) o22 ?_
        refine s_ishl C (d_of DX0_findClashes 39 rfl) ?_
        refine s_ior C (d_of DX0_findClashes 40 rfl) ?_
        refine s_istore_n (ls' := [(2, 14), (2, l1), (0, l2), (0, (zor l3 (zshl 1 (((M18 14 2) - 1) - l4)))), (0, l4)]) C (d_of DX0_findClashes 41 rfl) (by decide) rfl rfl ?_
        obtain ⟨o23, h⟩ := h
        refine s_iinc (ls' := [(2, 14), (2, l1), (0, l2), (0, (zor l3 (zshl 1 (((M18 14 2) - 1) - l4)))), (0, (l4 + 1))]) C (d_of DX0_findClashes 42 rfl) (by decide) rfl o23 rfl rfl ?_
        refine s_goto C (d_of DX0_findClashes 43 rfl) rfl ?_
        exact h
theorem E_X0_findClashes {G : GP} {l : Launch} {P : Int → NS → MM → Prop} {l1 : Int} {w : NS} {M : MM} (h : ∀ X : BX, X.2.1 = l → CX_X0_findClashes G X → A_X0_findClashes_0 G X P l1 w M) : CT_X0_findClashes G l [(2, 14), (2, l1)] w M P :=
  CT.of RX0 "findClashes" (by decide +kernel) rfl rfl rfl (Nat.le_of_ble_eq_true rfl) (fun hr X hX C => h  X hX C)
def A_X0_fitsOneSheet_0 (G : GP) (X : BX) (P : Int → NS → MM → Prop) (l1 : Int) (w : NS) (M : MM) : Prop := WA true G X (QM G X true 0 P) 3 0 [(2, 14), (0, l1), (3, 0)] [] 0 0 w M
def A_X0_fitsOneSheet_2 (G : GP) (X : BX) (P : Int → NS → MM → Prop) (l1 : Int) (l2 : Int) (w : NS) (M : MM) : Prop := WA true G X (QM G X true 0 P) 3 2 [(2, 14), (0, l1), (0, l2)] [] 0 0 w M
set_option maxHeartbeats 4000000 in
set_option maxRecDepth 100000 in
theorem B_X0_fitsOneSheet_0 {G : GP} {X : BX} {P : Int → NS → MM → Prop} {l1 : Int} {w : NS} {M : MM} (C : CX_X0_fitsOneSheet G X) (h : A_X0_fitsOneSheet_2 G X P l1 0 w M) : A_X0_fitsOneSheet_0 G X P l1 w M := by
  unfold A_X0_fitsOneSheet_0
  refine s_iconst C (d_of DX0_fitsOneSheet 0 rfl) (by decide) ?_
  refine s_istore_n (ls' := [(2, 14), (0, l1), (0, 0)]) C (d_of DX0_fitsOneSheet 1 rfl) (by decide) rfl rfl ?_
  exact h
set_option maxHeartbeats 4000000 in
set_option maxRecDepth 100000 in
theorem B_X0_fitsOneSheet_2 {G : GP} {X : BX} {P : Int → NS → MM → Prop} {l1 : Int} {l2 : Int} {w : NS} {M : MM} (C : CX_X0_fitsOneSheet G X) (h : ((((M 14 2) ≤ l2) → P 1 w M) ∧ ((¬ ((M 14 2) ≤ l2)) → (((¬ (zand (zshr l1 l2) 1 = 1)) → (inR (l2 + 1)) ∧ A_X0_fitsOneSheet_2 G X P l1 (l2 + 1) w M) ∧ (((zand (zshr l1 l2) 1 = 1)) → (0 ≤ l2) ∧ (l2 < 9) ∧ ((((zand (M 17 l2) l1) = 0) → (inR (l2 + 1)) ∧ A_X0_fitsOneSheet_2 G X P l1 (l2 + 1) w M) ∧ ((¬ ((zand (M 17 l2) l1) = 0)) → P 0 w M))))))) : A_X0_fitsOneSheet_2 G X P l1 l2 w M := by
  unfold A_X0_fitsOneSheet_2
  refine s_iload_n C (d_of DX0_fitsOneSheet 2 rfl) rfl ?_
  refine s_aload_n C (d_of DX0_fitsOneSheet 3 rfl) rfl ?_
  refine WA.fix (fun hF1 => ?_)
  refine gf_X0_16 (v0 := (M 14 2)) C (sh_14 hF1) (d_of DX0_fitsOneSheet 4 rfl) rfl ?_
  refine s_icmpge C (d_of DX0_fitsOneSheet 5 rfl) rfl (fun hc => ?_) (fun hc => ?_)
  · have h := h.1 hc
    refine s_iconst C (d_of DX0_fitsOneSheet 21 rfl) (by decide) ?_
    exact s_zreturn C (d_of DX0_fitsOneSheet 22 rfl) (by decide) h
  · have h := h.2 hc
    refine s_iload_n C (d_of DX0_fitsOneSheet 6 rfl) rfl ?_
    refine s_iload_n C (d_of DX0_fitsOneSheet 7 rfl) rfl ?_
    refine s_callSN (av := [(0, l1), (0, l2)]) (rest := []) (mc := 0) (ms := 0) C (d_of DX0_fitsOneSheet 8 rfl) lk_X0_52 rfl rfl (Nat.le_of_ble_eq_true rfl) (by decide) (by decide) (pc_X9_hasBit) (fun z2 wz2 Mz2 hq => ?_)
    obtain ⟨hq1, hq2, hq3⟩ := hq
    have hq2 := hq2.symm
    have hq3 := hq3.symm
    subst hq1 hq2 hq3
    refine s_ifeq C (d_of DX0_fitsOneSheet 9 rfl) rfl (fun hc => ?_) (fun hc => ?_)
    · have h := h.1 (b2i_0.mp hc)
      obtain ⟨o3, h⟩ := h
      refine s_iinc (ls' := [(2, 14), (0, l1), (0, (l2 + 1))]) C (d_of DX0_fitsOneSheet 19 rfl) (by decide) rfl o3 rfl rfl ?_
      refine s_goto C (d_of DX0_fitsOneSheet 20 rfl) rfl ?_
      exact h
    · have h := h.2 (b2i_n0 hc)
      refine s_aload_n C (d_of DX0_fitsOneSheet 10 rfl) rfl ?_
      refine gf_X0_20 C (sh_14 hF1) (d_of DX0_fitsOneSheet 11 rfl) (fx_14_3 hF1) ?_
      refine s_iload_n C (d_of DX0_fitsOneSheet 12 rfl) rfl ?_
      obtain ⟨o4, h⟩ := h
      obtain ⟨o5, h⟩ := h
      refine s_iald (v0 := (M 17 l2)) C (sh_17 hF1) o4 o5 (d_of DX0_fitsOneSheet 13 rfl) rfl ?_
      refine s_iload_n C (d_of DX0_fitsOneSheet 14 rfl) rfl ?_
      refine s_iand C (d_of DX0_fitsOneSheet 15 rfl) ?_
      refine s_ifeq C (d_of DX0_fitsOneSheet 16 rfl) rfl (fun hc => ?_) (fun hc => ?_)
      · have h := h.1 hc
        obtain ⟨o6, h⟩ := h
        refine s_iinc (ls' := [(2, 14), (0, l1), (0, (l2 + 1))]) C (d_of DX0_fitsOneSheet 19 rfl) (by decide) rfl o6 rfl rfl ?_
        refine s_goto C (d_of DX0_fitsOneSheet 20 rfl) rfl ?_
        exact h
      · have h := h.2 hc
        refine s_iconst C (d_of DX0_fitsOneSheet 17 rfl) (by decide) ?_
        exact s_zreturn C (d_of DX0_fitsOneSheet 18 rfl) (by decide) h
theorem E_X0_fitsOneSheet {G : GP} {l : Launch} {P : Int → NS → MM → Prop} {l1 : Int} {w : NS} {M : MM} (h : inR l1 → ∀ X : BX, X.2.1 = l → CX_X0_fitsOneSheet G X → A_X0_fitsOneSheet_0 G X P l1 w M) : CT_X0_fitsOneSheet G l [(2, 14), (0, l1)] w M P :=
  CT.of RX0 "fitsOneSheet" (by decide +kernel) rfl rfl rfl (Nat.le_of_ble_eq_true rfl) (fun hr X hX C => h (hr (0, l1) (by simp)) X hX C)
def A_X0_leastSheets_0 (G : GP) (X : BX) (P : Int → NS → MM → Prop) (l1 : Int) (w : NS) (M : MM) : Prop := WA true G X (QM G X true 0 P) 4 0 [(2, 14), (0, l1), (3, 0), (3, 0)] [] 0 0 w M
def A_X0_leastSheets_9 (G : GP) (X : BX) (P : Int → NS → MM → Prop) (l1 : Int) (l2 : Int) (l3 : Int) (w : NS) (M : MM) : Prop := WA true G X (QM G X true 0 P) 4 9 [(2, 14), (0, l1), (0, l2), (0, l3)] [] 0 0 w M
set_option maxHeartbeats 4000000 in
set_option maxRecDepth 100000 in
theorem B_X0_leastSheets_0 {G : GP} {X : BX} {P : Int → NS → MM → Prop} {l1 : Int} {w : NS} {M : MM} (C : CX_X0_leastSheets G X) (h : (inR (l1 - 1)) ∧ A_X0_leastSheets_9 G X P l1 9 (zand (l1 - 1) l1) w M) : A_X0_leastSheets_0 G X P l1 w M := by
  unfold A_X0_leastSheets_0
  refine s_bipush C (d_of DX0_leastSheets 0 rfl) ⟨rfl, by decide, by decide⟩ ?_
  refine s_istore_n (ls' := [(2, 14), (0, l1), (0, 9), (3, 0)]) C (d_of DX0_leastSheets 1 rfl) (by decide) rfl rfl ?_
  refine s_iload_n C (d_of DX0_leastSheets 2 rfl) rfl ?_
  refine s_iconst C (d_of DX0_leastSheets 3 rfl) (by decide) ?_
  obtain ⟨o1, h⟩ := h
  refine s_isub C (d_of DX0_leastSheets 4 rfl) o1 ?_
  refine s_iload_n C (d_of DX0_leastSheets 5 rfl) rfl ?_
  refine s_iand C (d_of DX0_leastSheets 6 rfl) ?_
  refine s_istore_n (ls' := [(2, 14), (0, l1), (0, 9), (0, (zand (l1 - 1) l1))]) C (d_of DX0_leastSheets 7 rfl) (by decide) rfl rfl ?_
  exact h
set_option maxHeartbeats 4000000 in
set_option maxRecDepth 100000 in
theorem B_X0_leastSheets_9 {G : GP} {X : BX} {P : Int → NS → MM → Prop} {l1 : Int} {l2 : Int} {l3 : Int} {w : NS} {M : MM} (C : CX_X0_leastSheets G X) (h : (((l3 ≤ 0) → (inR (l2 + 1)) ∧ P (l2 + 1) w M) ∧ ((¬ (l3 ≤ 0)) → (0 ≤ l3) ∧ (l3 < 512) ∧ ((((M 18 l3) ≠ 1) → (inR (l3 - 1)) ∧ A_X0_leastSheets_9 G X P l1 l2 (zand (l3 - 1) l1) w M) ∧ ((¬ ((M 18 l3) ≠ 1)) → (0 ≤ (zxor l1 l3)) ∧ ((zxor l1 l3) < 512) ∧ (((l2 ≤ (M 18 (zxor l1 l3))) → (inR (l3 - 1)) ∧ A_X0_leastSheets_9 G X P l1 l2 (zand (l3 - 1) l1) w M) ∧ ((¬ (l2 ≤ (M 18 (zxor l1 l3)))) → (inR (l3 - 1)) ∧ A_X0_leastSheets_9 G X P l1 (M 18 (zxor l1 l3)) (zand (l3 - 1) l1) w M))))))) : A_X0_leastSheets_9 G X P l1 l2 l3 w M := by
  unfold A_X0_leastSheets_9
  refine s_iload_n C (d_of DX0_leastSheets 8 rfl) rfl ?_
  refine s_ifle C (d_of DX0_leastSheets 9 rfl) rfl (fun hc => ?_) (fun hc => ?_)
  · have h := h.1 hc
    refine s_iload_n C (d_of DX0_leastSheets 38 rfl) rfl ?_
    refine s_iconst C (d_of DX0_leastSheets 39 rfl) (by decide) ?_
    obtain ⟨o1, h⟩ := h
    refine s_iadd C (d_of DX0_leastSheets 40 rfl) o1 ?_
    exact s_ireturn C (d_of DX0_leastSheets 41 rfl) h
  · have h := h.2 hc
    refine s_aload_n C (d_of DX0_leastSheets 10 rfl) rfl ?_
    refine WA.fix (fun hF2 => ?_)
    refine gf_X0_23 C (sh_14 hF2) (d_of DX0_leastSheets 11 rfl) (fx_14_4 hF2) ?_
    refine s_iload_n C (d_of DX0_leastSheets 12 rfl) rfl ?_
    obtain ⟨o3, h⟩ := h
    obtain ⟨o4, h⟩ := h
    refine s_iald (v0 := (M 18 l3)) C (sh_18 hF2) o3 o4 (d_of DX0_leastSheets 13 rfl) rfl ?_
    refine s_iconst C (d_of DX0_leastSheets 14 rfl) (by decide) ?_
    refine s_icmpne C (d_of DX0_leastSheets 15 rfl) rfl (fun hc => ?_) (fun hc => ?_)
    · have h := h.1 hc
      refine s_iload_n C (d_of DX0_leastSheets 31 rfl) rfl ?_
      refine s_iconst C (d_of DX0_leastSheets 32 rfl) (by decide) ?_
      obtain ⟨o5, h⟩ := h
      refine s_isub C (d_of DX0_leastSheets 33 rfl) o5 ?_
      refine s_iload_n C (d_of DX0_leastSheets 34 rfl) rfl ?_
      refine s_iand C (d_of DX0_leastSheets 35 rfl) ?_
      refine s_istore_n (ls' := [(2, 14), (0, l1), (0, l2), (0, (zand (l3 - 1) l1))]) C (d_of DX0_leastSheets 36 rfl) (by decide) rfl rfl ?_
      refine s_goto C (d_of DX0_leastSheets 37 rfl) rfl ?_
      exact h
    · have h := h.2 hc
      refine s_aload_n C (d_of DX0_leastSheets 16 rfl) rfl ?_
      refine gf_X0_23 C (sh_14 hF2) (d_of DX0_leastSheets 17 rfl) (fx_14_4 hF2) ?_
      refine s_iload_n C (d_of DX0_leastSheets 18 rfl) rfl ?_
      refine s_iload_n C (d_of DX0_leastSheets 19 rfl) rfl ?_
      refine s_ixor C (d_of DX0_leastSheets 20 rfl) ?_
      obtain ⟨o6, h⟩ := h
      obtain ⟨o7, h⟩ := h
      refine s_iald (v0 := (M 18 (zxor l1 l3))) C (sh_18 hF2) o6 o7 (d_of DX0_leastSheets 21 rfl) rfl ?_
      refine s_iload_n C (d_of DX0_leastSheets 22 rfl) rfl ?_
      refine s_icmpge C (d_of DX0_leastSheets 23 rfl) rfl (fun hc => ?_) (fun hc => ?_)
      · have h := h.1 hc
        refine s_iload_n C (d_of DX0_leastSheets 31 rfl) rfl ?_
        refine s_iconst C (d_of DX0_leastSheets 32 rfl) (by decide) ?_
        obtain ⟨o8, h⟩ := h
        refine s_isub C (d_of DX0_leastSheets 33 rfl) o8 ?_
        refine s_iload_n C (d_of DX0_leastSheets 34 rfl) rfl ?_
        refine s_iand C (d_of DX0_leastSheets 35 rfl) ?_
        refine s_istore_n (ls' := [(2, 14), (0, l1), (0, l2), (0, (zand (l3 - 1) l1))]) C (d_of DX0_leastSheets 36 rfl) (by decide) rfl rfl ?_
        refine s_goto C (d_of DX0_leastSheets 37 rfl) rfl ?_
        exact h
      · have h := h.2 hc
        refine s_aload_n C (d_of DX0_leastSheets 24 rfl) rfl ?_
        refine gf_X0_23 C (sh_14 hF2) (d_of DX0_leastSheets 25 rfl) (fx_14_4 hF2) ?_
        refine s_iload_n C (d_of DX0_leastSheets 26 rfl) rfl ?_
        refine s_iload_n C (d_of DX0_leastSheets 27 rfl) rfl ?_
        refine s_ixor C (d_of DX0_leastSheets 28 rfl) ?_
        refine s_iald (v0 := (M 18 (zxor l1 l3))) C (sh_18 hF2) o6 o7 (d_of DX0_leastSheets 29 rfl) rfl ?_
        refine s_istore_n (ls' := [(2, 14), (0, l1), (0, (M 18 (zxor l1 l3))), (0, l3)]) C (d_of DX0_leastSheets 30 rfl) (by decide) rfl rfl ?_
        refine s_iload_n C (d_of DX0_leastSheets 31 rfl) rfl ?_
        refine s_iconst C (d_of DX0_leastSheets 32 rfl) (by decide) ?_
        obtain ⟨o9, h⟩ := h
        refine s_isub C (d_of DX0_leastSheets 33 rfl) o9 ?_
        refine s_iload_n C (d_of DX0_leastSheets 34 rfl) rfl ?_
        refine s_iand C (d_of DX0_leastSheets 35 rfl) ?_
        refine s_istore_n (ls' := [(2, 14), (0, l1), (0, (M 18 (zxor l1 l3))), (0, (zand (l3 - 1) l1))]) C (d_of DX0_leastSheets 36 rfl) (by decide) rfl rfl ?_
        refine s_goto C (d_of DX0_leastSheets 37 rfl) rfl ?_
        exact h
theorem E_X0_leastSheets {G : GP} {l : Launch} {P : Int → NS → MM → Prop} {l1 : Int} {w : NS} {M : MM} (h : inR l1 → ∀ X : BX, X.2.1 = l → CX_X0_leastSheets G X → A_X0_leastSheets_0 G X P l1 w M) : CT_X0_leastSheets G l [(2, 14), (0, l1)] w M P :=
  CT.of RX0 "leastSheets" (by decide +kernel) rfl rfl rfl (Nat.le_of_ble_eq_true rfl) (fun hr X hX C => h (hr (0, l1) (by simp)) X hX C)
def A_X0_countSheets_0 (G : GP) (X : BX) (P : Int → NS → MM → Prop) (w : NS) (M : MM) : Prop := WA true G X (QM G X true 4 P) 2 0 [(2, 14), (3, 0)] [] 0 0 w M
def A_X0_countSheets_9 (G : GP) (X : BX) (P : Int → NS → MM → Prop) (l1 : Int) (w : NS) (M : MM) : Prop := WA true G X (QM G X true 4 P) 2 9 [(2, 14), (0, l1)] [] 0 0 w M
set_option maxHeartbeats 4000000 in
set_option maxRecDepth 100000 in
theorem B_X0_countSheets_0 {G : GP} {X : BX} {P : Int → NS → MM → Prop} {w : NS} {M : MM} (C : CX_X0_countSheets G X) (h : A_X0_countSheets_9 G X P 1 w (up M 18 0 0)) : A_X0_countSheets_0 G X P w M := by
  unfold A_X0_countSheets_0
  refine s_aload_n C (d_of DX0_countSheets 0 rfl) rfl ?_
  refine WA.fix (fun hF1 => ?_)
  refine gf_X0_23 C (sh_14 hF1) (d_of DX0_countSheets 1 rfl) (fx_14_4 hF1) ?_
  refine s_iconst C (d_of DX0_countSheets 2 rfl) (by decide) ?_
  refine s_iconst C (d_of DX0_countSheets 3 rfl) (by decide) ?_
  refine s_iast C (sh_18 hF1) (by decide) (by decide) (fun _ => by decide) (d_of DX0_countSheets 4 rfl) ?_
  refine s_iconst C (d_of DX0_countSheets 5 rfl) (by decide) ?_
  refine s_istore_n (ls' := [(2, 14), (0, 1)]) C (d_of DX0_countSheets 6 rfl) (by decide) rfl rfl ?_
  exact h
set_option maxHeartbeats 4000000 in
set_option maxRecDepth 100000 in
theorem B_X0_countSheets_9 {G : GP} {X : BX} {P : Int → NS → MM → Prop} {l1 : Int} {w : NS} {M : MM} (C : CX_X0_countSheets G X) (h : ((((zshl 1 (M 14 2)) ≤ l1) → P 0 w M) ∧ ((¬ ((zshl 1 (M 14 2)) ≤ l1)) → ∃ Q2 : Int → NS → MM → Prop, CT_X0_fitsOneSheet G X.2.1 [(2, 14), (0, l1)] w M Q2 ∧ ∀ (z2 : Int) (w2 : NS) (M2 : MM), Q2 z2 w2 M2 → (((z2 = 0) → ∃ Q4 : Int → NS → MM → Prop, CT_X0_leastSheets G X.2.1 [(2, 14), (0, l1)] w2 M2 Q4 ∧ ∀ (z4 : Int) (w4 : NS) (M4 : MM), Q4 z4 w4 M4 → (0 ≤ l1) ∧ (l1 < 512) ∧ (inR (l1 + 1)) ∧ A_X0_countSheets_9 G X P (l1 + 1) w4 (up M4 18 l1 z4)) ∧ ((¬ (z2 = 0)) → (0 ≤ l1) ∧ (l1 < 512) ∧ (inR (l1 + 1)) ∧ A_X0_countSheets_9 G X P (l1 + 1) w2 (up M2 18 l1 1)))))) : A_X0_countSheets_9 G X P l1 w M := by
  unfold A_X0_countSheets_9
  refine s_iload_n C (d_of DX0_countSheets 7 rfl) rfl ?_
  refine s_iconst C (d_of DX0_countSheets 8 rfl) (by decide) ?_
  refine s_aload_n C (d_of DX0_countSheets 9 rfl) rfl ?_
  refine WA.fix (fun hF1 => ?_)
  refine gf_X0_16 (v0 := (M 14 2)) C (sh_14 hF1) (d_of DX0_countSheets 10 rfl) rfl ?_
  refine s_ishl C (d_of DX0_countSheets 11 rfl) ?_
  refine s_icmpge C (d_of DX0_countSheets 12 rfl) rfl (fun hc => ?_) (fun hc => ?_)
  · have h := h.1 hc
    exact s_vreturn C (d_of DX0_countSheets 28 rfl) h
  · have h := h.2 hc
    refine s_aload_n C (d_of DX0_countSheets 13 rfl) rfl ?_
    refine gf_X0_23 C (sh_14 hF1) (d_of DX0_countSheets 14 rfl) (fx_14_4 hF1) ?_
    refine s_iload_n C (d_of DX0_countSheets 15 rfl) rfl ?_
    refine s_aload_n C (d_of DX0_countSheets 16 rfl) rfl ?_
    refine s_iload_n C (d_of DX0_countSheets 17 rfl) rfl ?_
    obtain ⟨Q2, hKQ2, h⟩ := h
    refine s_callV (ci := 0) (av := [(0, l1)]) (rest := [(0, l1), (2, 18)]) (mc := 0) (ms := 0) C (d_of DX0_countSheets 18 rfl) lk_X0_45 (sh_14 hF1) (by decide) rfl rfl rfl (Nat.le_of_ble_eq_true rfl) (by decide) (by decide) hKQ2 (fun z2 w2 M2 hq => ?_)
    have h := h z2 w2 M2 hq
    refine s_ifeq C (d_of DX0_countSheets 19 rfl) rfl (fun hc => ?_) (fun hc => ?_)
    · have h := h.1 hc
      refine s_aload_n C (d_of DX0_countSheets 22 rfl) rfl ?_
      refine s_iload_n C (d_of DX0_countSheets 23 rfl) rfl ?_
      refine WA.fix (fun hF3 => ?_)
      obtain ⟨Q4, hKQ4, h⟩ := h
      refine s_callV (ci := 0) (av := [(0, l1)]) (rest := [(0, l1), (2, 18)]) (mc := 0) (ms := 0) C (d_of DX0_countSheets 24 rfl) lk_X0_49 (sh_14 hF3) (by decide) rfl rfl rfl (Nat.le_of_ble_eq_true rfl) (by decide) (by decide) hKQ4 (fun z4 w4 M4 hq => ?_)
      have h := h z4 w4 M4 hq
      refine WA.fix (fun hF5 => ?_)
      obtain ⟨o6, h⟩ := h
      obtain ⟨o7, h⟩ := h
      refine s_iast C (sh_18 hF5) o6 o7 (fun _ => by decide) (d_of DX0_countSheets 25 rfl) ?_
      obtain ⟨o8, h⟩ := h
      refine s_iinc (ls' := [(2, 14), (0, (l1 + 1))]) C (d_of DX0_countSheets 26 rfl) (by decide) rfl o8 rfl rfl ?_
      refine s_goto C (d_of DX0_countSheets 27 rfl) rfl ?_
      exact h
    · have h := h.2 hc
      refine s_iconst C (d_of DX0_countSheets 20 rfl) (by decide) ?_
      refine s_goto C (d_of DX0_countSheets 21 rfl) rfl ?_
      refine WA.fix (fun hF9 => ?_)
      obtain ⟨o10, h⟩ := h
      obtain ⟨o11, h⟩ := h
      refine s_iast C (sh_18 hF9) o10 o11 (fun _ => by decide) (d_of DX0_countSheets 25 rfl) ?_
      obtain ⟨o12, h⟩ := h
      refine s_iinc (ls' := [(2, 14), (0, (l1 + 1))]) C (d_of DX0_countSheets 26 rfl) (by decide) rfl o12 rfl rfl ?_
      refine s_goto C (d_of DX0_countSheets 27 rfl) rfl ?_
      exact h
theorem E_X0_countSheets {G : GP} {l : Launch} {P : Int → NS → MM → Prop} {w : NS} {M : MM} (h : ∀ X : BX, X.2.1 = l → CX_X0_countSheets G X → A_X0_countSheets_0 G X P w M) : CT_X0_countSheets G l [(2, 14)] w M P :=
  CT.of RX0 "countSheets" (by decide +kernel) rfl rfl rfl (Nat.le_of_ble_eq_true rfl) (fun hr X hX C => h  X hX C)
def A_X0_bestSet_0 (G : GP) (X : BX) (P : Int → NS → MM → Prop) (l1 : Int) (l2 : Int) (w : NS) (M : MM) : Prop := WA true G X (QM G X true 0 P) 6 0 [(2, 14), (2, l1), (0, l2), (3, 0), (3, 0), (3, 0)] [] 0 0 w M
def A_X0_bestSet_14 (G : GP) (X : BX) (P : Int → NS → MM → Prop) (l2 : Int) (l3 : Int) (l4 : Int) (w : NS) (M : MM) : Prop := WA true G X (QM G X true 0 P) 6 14 [(2, 14), (3, 0), (0, l2), (0, l3), (0, l4), (3, 0)] [] 0 0 w M
def A_X0_bestSet_63 (G : GP) (X : BX) (P : Int → NS → MM → Prop) (l3 : Int) (l4 : Int) (l5 : Int) (w : NS) (M : MM) : Prop := WA true G X (QM G X true 0 P) 6 63 [(2, 14), (3, 0), (3, 0), (0, l3), (0, l4), (0, l5)] [] 0 0 w M
set_option maxHeartbeats 4000000 in
set_option maxRecDepth 100000 in
theorem B_X0_bestSet_0 {G : GP} {X : BX} {P : Int → NS → MM → Prop} {l1 : Int} {l2 : Int} {w : NS} {M : MM} (C : CX_X0_bestSet G X) (h : ∃ Q2 : Int → NS → MM → Prop, CT_X0_findClashes G X.2.1 [(2, 14), (2, l1)] w M Q2 ∧ ∀ (z2 : Int) (w2 : NS) (M2 : MM), Q2 z2 w2 M2 → ∃ Q4 : Int → NS → MM → Prop, CT_X0_countSheets G X.2.1 [(2, 14)] w2 M2 Q4 ∧ ∀ (z4 : Int) (w4 : NS) (M4 : MM), Q4 z4 w4 M4 → A_X0_bestSet_14 G X P l2 0 1 w4 M4) : A_X0_bestSet_0 G X P l1 l2 w M := by
  unfold A_X0_bestSet_0
  refine s_aload_n C (d_of DX0_bestSet 0 rfl) rfl ?_
  refine s_aload_n C (d_of DX0_bestSet 1 rfl) rfl ?_
  refine WA.fix (fun hF1 => ?_)
  obtain ⟨Q2, hKQ2, h⟩ := h
  refine s_callV (ci := 0) (av := [(2, l1)]) (rest := []) (mc := 0) (ms := 0) C (d_of DX0_bestSet 2 rfl) lk_X0_26 (sh_14 hF1) (by decide) rfl rfl rfl (Nat.le_of_ble_eq_true rfl) (by decide) (by decide) hKQ2 (fun z2 w2 M2 hq => ?_)
  have h := h z2 w2 M2 hq
  refine s_aload_n C (d_of DX0_bestSet 3 rfl) rfl ?_
  refine WA.fix (fun hF3 => ?_)
  obtain ⟨Q4, hKQ4, h⟩ := h
  refine s_callV (ci := 0) (av := []) (rest := []) (mc := 0) (ms := 0) C (d_of DX0_bestSet 4 rfl) lk_X0_30 (sh_14 hF3) (by decide) rfl rfl rfl (Nat.le_of_ble_eq_true rfl) (by decide) (by decide) hKQ4 (fun z4 w4 M4 hq => ?_)
  have h := h z4 w4 M4 hq
  refine s_iconst C (d_of DX0_bestSet 5 rfl) (by decide) ?_
  refine s_istore_n (ls' := [(2, 14), (2, l1), (0, l2), (0, 0), (3, 0), (3, 0)]) C (d_of DX0_bestSet 6 rfl) (by decide) rfl rfl ?_
  refine s_iconst C (d_of DX0_bestSet 7 rfl) (by decide) ?_
  refine s_istore (ls' := [(2, 14), (2, l1), (0, l2), (0, 0), (0, 1), (3, 0)]) C (d_of DX0_bestSet 8 rfl) (by decide) rfl rfl ?_
  exact WA.wk h ⟨Or.inr rfl, Or.inl rfl, Or.inr rfl, Or.inr rfl, Or.inr rfl, Or.inl rfl, trivial⟩
set_option maxHeartbeats 4000000 in
set_option maxRecDepth 100000 in
theorem B_X0_bestSet_14 {G : GP} {X : BX} {P : Int → NS → MM → Prop} {l2 : Int} {l3 : Int} {l4 : Int} {w : NS} {M : MM} (C : CX_X0_bestSet G X) (h : ((((zshl 1 (M 14 2)) ≤ l4) → A_X0_bestSet_63 G X P l3 0 0 w M) ∧ ((¬ ((zshl 1 (M 14 2)) ≤ l4)) → (0 ≤ l4) ∧ (l4 < 512) ∧ (((l2 < (M 18 l4)) → (inR (l4 + 1)) ∧ A_X0_bestSet_14 G X P l2 l3 (l4 + 1) w M) ∧ ((¬ (l2 < (M 18 l4))) → (l4 < 16777216) ∧ (0 ≤ l3) ∧ (l3 < 16777216) ∧ ((((popc l4) < (popc l3)) → (inR (l4 + 1)) ∧ A_X0_bestSet_14 G X P l2 l3 (l4 + 1) w M) ∧ ((¬ ((popc l4) < (popc l3))) → (inR (l4 + 1)) ∧ A_X0_bestSet_14 G X P l2 l4 (l4 + 1) w M))))))) : A_X0_bestSet_14 G X P l2 l3 l4 w M := by
  unfold A_X0_bestSet_14
  refine s_iload C (d_of DX0_bestSet 9 rfl) rfl ?_
  refine s_iconst C (d_of DX0_bestSet 10 rfl) (by decide) ?_
  refine s_aload_n C (d_of DX0_bestSet 11 rfl) rfl ?_
  refine WA.fix (fun hF1 => ?_)
  refine gf_X0_16 (v0 := (M 14 2)) C (sh_14 hF1) (d_of DX0_bestSet 12 rfl) rfl ?_
  refine s_ishl C (d_of DX0_bestSet 13 rfl) ?_
  refine s_icmpge C (d_of DX0_bestSet 14 rfl) rfl (fun hc => ?_) (fun hc => ?_)
  · have h := h.1 hc
    refine s_iconst C (d_of DX0_bestSet 30 rfl) (by decide) ?_
    refine s_istore (ls' := [(2, 14), (3, 0), (0, l2), (0, l3), (0, 0), (3, 0)]) C (d_of DX0_bestSet 31 rfl) (by decide) rfl rfl ?_
    refine s_iconst C (d_of DX0_bestSet 32 rfl) (by decide) ?_
    refine s_istore (ls' := [(2, 14), (3, 0), (0, l2), (0, l3), (0, 0), (0, 0)]) C (d_of DX0_bestSet 33 rfl) (by decide) rfl rfl ?_
    exact WA.wk h ⟨Or.inr rfl, Or.inl rfl, Or.inl rfl, Or.inr rfl, Or.inr rfl, Or.inr rfl, trivial⟩
  · have h := h.2 hc
    refine s_aload_n C (d_of DX0_bestSet 15 rfl) rfl ?_
    refine gf_X0_23 C (sh_14 hF1) (d_of DX0_bestSet 16 rfl) (fx_14_4 hF1) ?_
    refine s_iload C (d_of DX0_bestSet 17 rfl) rfl ?_
    obtain ⟨o2, h⟩ := h
    obtain ⟨o3, h⟩ := h
    refine s_iald (v0 := (M 18 l4)) C (sh_18 hF1) o2 o3 (d_of DX0_bestSet 18 rfl) rfl ?_
    refine s_iload_n C (d_of DX0_bestSet 19 rfl) rfl ?_
    refine s_icmpgt C (d_of DX0_bestSet 20 rfl) rfl (fun hc => ?_) (fun hc => ?_)
    · have h := h.1 hc
      obtain ⟨o4, h⟩ := h
      refine s_iinc (ls' := [(2, 14), (3, 0), (0, l2), (0, l3), (0, (l4 + 1)), (3, 0)]) C (d_of DX0_bestSet 28 rfl) (by decide) rfl o4 rfl rfl ?_
      refine s_goto C (d_of DX0_bestSet 29 rfl) rfl ?_
      exact h
    · have h := h.2 hc
      refine s_iload C (d_of DX0_bestSet 21 rfl) rfl ?_
      obtain ⟨o5, h⟩ := h
      refine s_callS (av := [(0, l4)]) (rest := []) (mc := 0) (ms := 0) C (d_of DX0_bestSet 22 rfl) lk_X0_33 rfl rfl (Nat.le_of_ble_eq_true rfl) (by decide) (by decide) (pc_J6_bitCount o2 o5) (fun z6 wz6 Mz6 hq => ?_)
      obtain ⟨hq1, hq2, hq3⟩ := hq
      have hq2 := hq2.symm
      have hq3 := hq3.symm
      subst hq1 hq2 hq3
      refine s_iload_n C (d_of DX0_bestSet 23 rfl) rfl ?_
      obtain ⟨o7, h⟩ := h
      obtain ⟨o8, h⟩ := h
      refine s_callS (av := [(0, l3)]) (rest := [(0, (popc l4))]) (mc := 0) (ms := 0) C (d_of DX0_bestSet 24 rfl) lk_X0_33 rfl rfl (Nat.le_of_ble_eq_true rfl) (by decide) (by decide) (pc_J6_bitCount o7 o8) (fun z9 wz9 Mz9 hq => ?_)
      obtain ⟨hq1, hq2, hq3⟩ := hq
      have hq2 := hq2.symm
      have hq3 := hq3.symm
      subst hq1 hq2 hq3
      refine s_icmplt C (d_of DX0_bestSet 25 rfl) rfl (fun hc => ?_) (fun hc => ?_)
      · have h := h.1 hc
        obtain ⟨o10, h⟩ := h
        refine s_iinc (ls' := [(2, 14), (3, 0), (0, l2), (0, l3), (0, (l4 + 1)), (3, 0)]) C (d_of DX0_bestSet 28 rfl) (by decide) rfl o10 rfl rfl ?_
        refine s_goto C (d_of DX0_bestSet 29 rfl) rfl ?_
        exact h
      · have h := h.2 hc
        refine s_iload C (d_of DX0_bestSet 26 rfl) rfl ?_
        refine s_istore_n (ls' := [(2, 14), (3, 0), (0, l2), (0, l4), (0, l4), (3, 0)]) C (d_of DX0_bestSet 27 rfl) (by decide) rfl rfl ?_
        obtain ⟨o11, h⟩ := h
        refine s_iinc (ls' := [(2, 14), (3, 0), (0, l2), (0, l4), (0, (l4 + 1)), (3, 0)]) C (d_of DX0_bestSet 28 rfl) (by decide) rfl o11 rfl rfl ?_
        refine s_goto C (d_of DX0_bestSet 29 rfl) rfl ?_
        exact h
set_option maxHeartbeats 4000000 in
set_option maxRecDepth 100000 in
theorem B_X0_bestSet_63 {G : GP} {X : BX} {P : Int → NS → MM → Prop} {l3 : Int} {l4 : Int} {l5 : Int} {w : NS} {M : MM} (C : CX_X0_bestSet G X) (h : ((((M 14 2) ≤ l5) → P l4 w M) ∧ ((¬ ((M 14 2) ≤ l5)) → (inR ((M 14 2) - 1)) ∧ (inR (((M 14 2) - 1) - l5)) ∧ (inR (l5 + 1)) ∧ A_X0_bestSet_63 G X P l3 (zor l4 (zshl (zand (zshr l3 (((M 14 2) - 1) - l5)) 1) l5)) (l5 + 1) w M))) : A_X0_bestSet_63 G X P l3 l4 l5 w M := by
  unfold A_X0_bestSet_63
  refine s_iload C (d_of DX0_bestSet 34 rfl) rfl ?_
  refine s_aload_n C (d_of DX0_bestSet 35 rfl) rfl ?_
  refine WA.fix (fun hF1 => ?_)
  refine gf_X0_16 (v0 := (M 14 2)) C (sh_14 hF1) (d_of DX0_bestSet 36 rfl) rfl ?_
  refine s_icmpge C (d_of DX0_bestSet 37 rfl) rfl (fun hc => ?_) (fun hc => ?_)
  · have h := h.1 hc
    refine s_iload C (d_of DX0_bestSet 55 rfl) rfl ?_
    exact s_ireturn C (d_of DX0_bestSet 56 rfl) h
  · have h := h.2 hc
    refine s_iload C (d_of DX0_bestSet 38 rfl) rfl ?_
    refine s_iload_n C (d_of DX0_bestSet 39 rfl) rfl ?_
    refine s_aload_n C (d_of DX0_bestSet 40 rfl) rfl ?_
    refine gf_X0_16 (v0 := (M 14 2)) C (sh_14 hF1) (d_of DX0_bestSet 41 rfl) rfl ?_
    refine s_iconst C (d_of DX0_bestSet 42 rfl) (by decide) ?_
    obtain ⟨o2, h⟩ := h
    refine s_isub C (d_of DX0_bestSet 43 rfl) o2 ?_
    refine s_iload C (d_of DX0_bestSet 44 rfl) rfl ?_
    obtain ⟨o3, h⟩ := h
    refine s_isub C (d_of DX0_bestSet 45 rfl) o3 ?_
    refine s_ishr C (d_of DX0_bestSet 46 rfl) ?_
    refine s_iconst C (d_of DX0_bestSet 47 rfl) (by decide) ?_
    refine s_iand C (d_of DX0_bestSet 48 rfl) ?_
    refine s_iload C (d_of DX0_bestSet 49 rfl) rfl ?_
    refine s_ishl C (d_of DX0_bestSet 50 rfl) ?_
    refine s_ior C (d_of DX0_bestSet 51 rfl) ?_
    refine s_istore (ls' := [(2, 14), (3, 0), (3, 0), (0, l3), (0, (zor l4 (zshl (zand (zshr l3 (((M 14 2) - 1) - l5)) 1) l5))), (0, l5)]) C (d_of DX0_bestSet 52 rfl) (by decide) rfl rfl ?_
    obtain ⟨o4, h⟩ := h
    refine s_iinc (ls' := [(2, 14), (3, 0), (3, 0), (0, l3), (0, (zor l4 (zshl (zand (zshr l3 (((M 14 2) - 1) - l5)) 1) l5))), (0, (l5 + 1))]) C (d_of DX0_bestSet 53 rfl) (by decide) rfl o4 rfl rfl ?_
    refine s_goto C (d_of DX0_bestSet 54 rfl) rfl ?_
    exact h
theorem E_X0_bestSet {G : GP} {l : Launch} {P : Int → NS → MM → Prop} {l1 : Int} {l2 : Int} {w : NS} {M : MM} (h : inR l2 → ∀ X : BX, X.2.1 = l → CX_X0_bestSet G X → A_X0_bestSet_0 G X P l1 l2 w M) : CT_X0_bestSet G l [(2, 14), (2, l1), (0, l2)] w M P :=
  CT.of RX0 "bestSet" (by decide +kernel) rfl rfl rfl (Nat.le_of_ble_eq_true rfl) (fun hr X hX C => h (hr (0, l2) (by simp)) X hX C)
def A_X9_served_0 (G : GP) (X : BX) (P : Int → NS → MM → Prop) (l1 : Int) (l2 : Int) (l3 : Int) (w : NS) (M : MM) : Prop := WA true G X (QM G X true 0 P) 6 0 [(2, 1), (0, l1), (0, l2), (0, l3), (3, 0), (3, 0)] [] 0 0 w M
set_option maxHeartbeats 4000000 in
set_option maxRecDepth 100000 in
theorem B_X9_served_0 {G : GP} {X : BX} {P : Int → NS → MM → Prop} {l1 : Int} {l2 : Int} {l3 : Int} {w : NS} {M : MM} (C : CX_X9_served G X) (h : (0 ≤ M 1 2) ∧ (M 1 2 ≤ 8) ∧ ((((pgO M l1) ≠ 0) → (((¬ (1 ≤ l2 ∧ l2 ≤ 4)) → P (-2) w M) ∧ (((1 ≤ l2 ∧ l2 ≤ 4)) → ((((0 ≤ l3 ∧ l3 ≤ 1)) → ∃ Q7 : Int → NS → MM → Prop, CT_X9_gatherAsked G X.2.1 [(2, 1), (2, (pgO M l1))] w M Q7 ∧ ∀ (z7 : Int) (w7 : NS) (M7 : MM), Q7 z7 w7 M7 → ∃ Q9 : Int → NS → MM → Prop, CT_X0_bestSet G X.2.1 [(2, 14), (2, 4), (0, l2)] w7 M7 Q9 ∧ ∀ (z9 : Int) (w9 : NS) (M9 : MM), Q9 z9 w9 M9 → (((l3 ≠ 0) → P z9 w9 M9) ∧ ((¬ (l3 ≠ 0)) → (0 ≤ z9) ∧ (z9 < 16777216) ∧ P (popc z9) w9 M9))) ∧ ((¬ (0 ≤ l3 ∧ l3 ≤ 1)) → P (-2) w M))))) ∧ ((¬ ((pgO M l1) ≠ 0)) → P (-1) w M))) : A_X9_served_0 G X P l1 l2 l3 w M := by
  unfold A_X9_served_0
  refine s_aload_n C (d_of DX9_served 0 rfl) rfl ?_
  refine s_iload_n C (d_of DX9_served 1 rfl) rfl ?_
  refine WA.fix (fun hF1 => ?_)
  obtain ⟨o2, h⟩ := h
  obtain ⟨o3, h⟩ := h
  refine s_callV (ci := 9) (av := [(0, l1)]) (rest := []) (mc := 0) (ms := 0) C (d_of DX9_served 2 rfl) lk_X9_106 (sh_1 hF1) (by decide) rfl rfl rfl (Nat.le_of_ble_eq_true rfl) (by decide) (by decide) (pc_X9_pageOf o2 o3) (fun z4 wz4 Mz4 hq => ?_)
  obtain ⟨hq1, hq2, hq3⟩ := hq
  have hq2 := hq2.symm
  have hq3 := hq3.symm
  subst hq1 hq2 hq3
  refine s_astore (ls' := [(2, 1), (0, l1), (0, l2), (0, l3), (2, (pgO M l1)), (3, 0)]) C (d_of DX9_served 3 rfl) (by decide) rfl rfl ?_
  refine s_aload C (d_of DX9_served 4 rfl) rfl ?_
  refine s_ifnonnull C (d_of DX9_served 5 rfl) rfl (fun hc => ?_) (fun hc => ?_)
  · have h := h.1 hc
    refine s_iload_n C (d_of DX9_served 8 rfl) rfl ?_
    refine s_iconst C (d_of DX9_served 9 rfl) (by decide) ?_
    refine s_iconst C (d_of DX9_served 10 rfl) (by decide) ?_
    refine s_callS (av := [(0, l2), (0, 1), (0, 4)]) (rest := []) (mc := 0) (ms := 0) C (d_of DX9_served 11 rfl) lk_X9_95 rfl rfl (Nat.le_of_ble_eq_true rfl) (by decide) (by decide) (pc_X9_within) (fun z5 wz5 Mz5 hq => ?_)
    obtain ⟨hq1, hq2, hq3⟩ := hq
    have hq2 := hq2.symm
    have hq3 := hq3.symm
    subst hq1 hq2 hq3
    refine s_ifeq C (d_of DX9_served 12 rfl) rfl (fun hc => ?_) (fun hc => ?_)
    · have h := h.1 (b2i_0.mp hc)
      refine s_bipush C (d_of DX9_served 18 rfl) ⟨rfl, by decide, by decide⟩ ?_
      exact s_ireturn C (d_of DX9_served 19 rfl) h
    · have h := h.2 (b2i_n0 hc)
      refine s_iload_n C (d_of DX9_served 13 rfl) rfl ?_
      refine s_iconst C (d_of DX9_served 14 rfl) (by decide) ?_
      refine s_iconst C (d_of DX9_served 15 rfl) (by decide) ?_
      refine s_callS (av := [(0, l3), (0, 0), (0, 1)]) (rest := []) (mc := 0) (ms := 0) C (d_of DX9_served 16 rfl) lk_X9_95 rfl rfl (Nat.le_of_ble_eq_true rfl) (by decide) (by decide) (pc_X9_within) (fun z6 wz6 Mz6 hq => ?_)
      obtain ⟨hq1, hq2, hq3⟩ := hq
      have hq2 := hq2.symm
      have hq3 := hq3.symm
      subst hq1 hq2 hq3
      refine s_ifne C (d_of DX9_served 17 rfl) rfl (fun hc => ?_) (fun hc => ?_)
      · have h := h.1 (b2i_n0 hc)
        refine s_aload_n C (d_of DX9_served 20 rfl) rfl ?_
        refine s_aload C (d_of DX9_served 21 rfl) rfl ?_
        obtain ⟨Q7, hKQ7, h⟩ := h
        refine s_callV (ci := 9) (av := [(2, (pgO M l1))]) (rest := []) (mc := 0) (ms := 0) C (d_of DX9_served 22 rfl) lk_X9_256 (sh_1 hF1) (by decide) rfl rfl rfl (Nat.le_of_ble_eq_true rfl) (by decide) (by decide) hKQ7 (fun z7 w7 M7 hq => ?_)
        have h := h z7 w7 M7 hq
        refine s_aload_n C (d_of DX9_served 23 rfl) rfl ?_
        refine WA.fix (fun hF8 => ?_)
        refine gf_X9_73 C (sh_1 hF8) (d_of DX9_served 24 rfl) (fx_1_13 hF8) ?_
        refine s_aload_n C (d_of DX9_served 25 rfl) rfl ?_
        refine gf_X9_25 C (sh_1 hF8) (d_of DX9_served 26 rfl) (fx_1_3 hF8) ?_
        refine s_iload_n C (d_of DX9_served 27 rfl) rfl ?_
        obtain ⟨Q9, hKQ9, h⟩ := h
        refine s_callV (ci := 0) (av := [(2, 4), (0, l2)]) (rest := []) (mc := 0) (ms := 0) C (d_of DX9_served 28 rfl) lk_X9_264 (sh_14 hF8) (by decide) rfl rfl rfl (Nat.le_of_ble_eq_true rfl) (by decide) (by decide) hKQ9 (fun z9 w9 M9 hq => ?_)
        have h := h z9 w9 M9 hq
        refine s_istore (ls' := [(2, 1), (0, l1), (0, l2), (0, l3), (2, (pgO M l1)), (0, z9)]) C (d_of DX9_served 29 rfl) (by decide) rfl rfl ?_
        refine s_iload_n C (d_of DX9_served 30 rfl) rfl ?_
        refine s_ifne C (d_of DX9_served 31 rfl) rfl (fun hc => ?_) (fun hc => ?_)
        · have h := h.1 hc
          refine s_iload C (d_of DX9_served 35 rfl) rfl ?_
          exact s_ireturn C (d_of DX9_served 36 rfl) h
        · have h := h.2 hc
          refine s_iload C (d_of DX9_served 32 rfl) rfl ?_
          obtain ⟨o10, h⟩ := h
          obtain ⟨o11, h⟩ := h
          refine s_callS (av := [(0, z9)]) (rest := []) (mc := 0) (ms := 0) C (d_of DX9_served 33 rfl) lk_X9_268 rfl rfl (Nat.le_of_ble_eq_true rfl) (by decide) (by decide) (pc_J6_bitCount o10 o11) (fun z12 wz12 Mz12 hq => ?_)
          obtain ⟨hq1, hq2, hq3⟩ := hq
          have hq2 := hq2.symm
          have hq3 := hq3.symm
          subst hq1 hq2 hq3
          refine s_goto C (d_of DX9_served 34 rfl) rfl ?_
          exact s_ireturn C (d_of DX9_served 36 rfl) h
      · have h := h.2 (b2i_nn hc)
        refine s_bipush C (d_of DX9_served 18 rfl) ⟨rfl, by decide, by decide⟩ ?_
        exact s_ireturn C (d_of DX9_served 19 rfl) h
  · have h := h.2 hc
    refine s_iconst C (d_of DX9_served 6 rfl) (by decide) ?_
    exact s_ireturn C (d_of DX9_served 7 rfl) h
theorem E_X9_served {G : GP} {l : Launch} {P : Int → NS → MM → Prop} {l1 : Int} {l2 : Int} {l3 : Int} {w : NS} {M : MM} (h : inR l1 → inR l2 → inR l3 → ∀ X : BX, X.2.1 = l → CX_X9_served G X → A_X9_served_0 G X P l1 l2 l3 w M) : CT_X9_served G l [(2, 1), (0, l1), (0, l2), (0, l3)] w M P :=
  CT.of RX9 "served" (by decide +kernel) rfl rfl rfl (Nat.le_of_ble_eq_true rfl) (fun hr X hX C => h (hr (0, l1) (by simp)) (hr (0, l2) (by simp)) (hr (0, l3) (by simp)) X hX C)
def A_X9_find_0 (G : GP) (X : BX) (P : Int → NS → MM → Prop) (l1 : Int) (l2 : Int) (l3 : Int) (w : NS) (M : MM) : Prop := WA true G X (QM G X true 0 P) 6 0 [(2, 1), (0, l1), (0, l2), (0, l3), (3, 0), (3, 0)] [] 0 0 w M
set_option maxHeartbeats 4000000 in
set_option maxRecDepth 100000 in
theorem B_X9_find_0 {G : GP} {X : BX} {P : Int → NS → MM → Prop} {l1 : Int} {l2 : Int} {l3 : Int} {w : NS} {M : MM} (C : CX_X9_find G X) (h : (((¬ (0 ≤ l1 ∧ l1 ≤ 3)) → P (-1) w M) ∧ (((0 ≤ l1 ∧ l1 ≤ 3)) → (0 ≤ M 1 4) ∧ (M 1 4 ≤ 24) ∧ ((((pcO M l2) ≠ 0) → (0 ≤ l1) ∧ (l1 < 4) ∧ (w.2 (M 19 l1) = (8, 4)) ∧ (((l3 = 0) → ((((zand (M (M 19 l1) 3) (zshl 1 l2)) = 0) → P (b2i (0 ≠ 0)) w (up M (M 19 l1) 3 (zand (M (M 19 l1) 3) (zxor (zshl 1 l2) (-1))))) ∧ ((¬ ((zand (M (M 19 l1) 3) (zshl 1 l2)) = 0)) → P (b2i (1 ≠ 0)) w (up M (M 19 l1) 3 (zand (M (M 19 l1) 3) (zxor (zshl 1 l2) (-1))))))) ∧ ((¬ (l3 = 0)) → ((((zand (M (M 19 l1) 3) (zshl 1 l2)) = 0) → P (b2i (0 ≠ 0)) w (up M (M 19 l1) 3 (zor (M (M 19 l1) 3) (zshl 1 l2)))) ∧ ((¬ ((zand (M (M 19 l1) 3) (zshl 1 l2)) = 0)) → P (b2i (1 ≠ 0)) w (up M (M 19 l1) 3 (zor (M (M 19 l1) 3) (zshl 1 l2)))))))) ∧ ((¬ ((pcO M l2) ≠ 0)) → P (-1) w M))))) : A_X9_find_0 G X P l1 l2 l3 w M := by
  unfold A_X9_find_0
  refine s_iload_n C (d_of DX9_find 0 rfl) rfl ?_
  refine s_callS (av := [(0, l1)]) (rest := []) (mc := 0) (ms := 0) C (d_of DX9_find 1 rfl) lk_X9_273 rfl rfl (Nat.le_of_ble_eq_true rfl) (by decide) (by decide) (pc_X9_isReader) (fun z1 wz1 Mz1 hq => ?_)
  obtain ⟨hq1, hq2, hq3⟩ := hq
  have hq2 := hq2.symm
  have hq3 := hq3.symm
  subst hq1 hq2 hq3
  refine s_ifeq C (d_of DX9_find 2 rfl) rfl (fun hc => ?_) (fun hc => ?_)
  · have h := h.1 (b2i_0.mp hc)
    refine s_iconst C (d_of DX9_find 7 rfl) (by decide) ?_
    exact s_ireturn C (d_of DX9_find 8 rfl) h
  · have h := h.2 (b2i_n0 hc)
    refine s_aload_n C (d_of DX9_find 3 rfl) rfl ?_
    refine s_iload_n C (d_of DX9_find 4 rfl) rfl ?_
    refine WA.fix (fun hF2 => ?_)
    obtain ⟨o3, h⟩ := h
    obtain ⟨o4, h⟩ := h
    refine s_callV (ci := 9) (av := [(0, l2)]) (rest := []) (mc := 0) (ms := 0) C (d_of DX9_find 5 rfl) lk_X9_158 (sh_1 hF2) (by decide) rfl rfl rfl (Nat.le_of_ble_eq_true rfl) (by decide) (by decide) (pc_X9_pieceOf o3 o4) (fun z5 wz5 Mz5 hq => ?_)
    obtain ⟨hq1, hq2, hq3⟩ := hq
    have hq2 := hq2.symm
    have hq3 := hq3.symm
    subst hq1 hq2 hq3
    refine s_ifnonnull C (d_of DX9_find 6 rfl) rfl (fun hc => ?_) (fun hc => ?_)
    · have h := h.1 hc
      refine s_aload_n C (d_of DX9_find 9 rfl) rfl ?_
      refine gf_X9_79 C (sh_1 hF2) (d_of DX9_find 10 rfl) (fx_1_14 hF2) ?_
      refine s_iload_n C (d_of DX9_find 11 rfl) rfl ?_
      obtain ⟨o6, h⟩ := h
      obtain ⟨o7, h⟩ := h
      refine s_aald (v0 := (M 19 l1)) (t0 := 7) C (sh_19 hF2) (by decide) rfl o6 o7 (d_of DX9_find 12 rfl) rfl ?_
      obtain ⟨o8, h⟩ := h
      refine gf_X9_276 (v0 := (M (M 19 l1) 3)) C o8 (d_of DX9_find 13 rfl) rfl ?_
      refine s_istore (ls' := [(2, 1), (0, l1), (0, l2), (0, l3), (0, (M (M 19 l1) 3)), (3, 0)]) C (d_of DX9_find 14 rfl) (by decide) rfl rfl ?_
      refine s_iconst C (d_of DX9_find 15 rfl) (by decide) ?_
      refine s_iload_n C (d_of DX9_find 16 rfl) rfl ?_
      refine s_ishl C (d_of DX9_find 17 rfl) ?_
      refine s_istore (ls' := [(2, 1), (0, l1), (0, l2), (0, l3), (0, (M (M 19 l1) 3)), (0, (zshl 1 l2))]) C (d_of DX9_find 18 rfl) (by decide) rfl rfl ?_
      refine s_aload_n C (d_of DX9_find 19 rfl) rfl ?_
      refine gf_X9_79 C (sh_1 hF2) (d_of DX9_find 20 rfl) (fx_1_14 hF2) ?_
      refine s_iload_n C (d_of DX9_find 21 rfl) rfl ?_
      refine s_aald (v0 := (M 19 l1)) (t0 := 7) C (sh_19 hF2) (by decide) rfl o6 o7 (d_of DX9_find 22 rfl) rfl ?_
      refine s_iload_n C (d_of DX9_find 23 rfl) rfl ?_
      refine s_ifeq C (d_of DX9_find 24 rfl) rfl (fun hc => ?_) (fun hc => ?_)
      · have h := h.1 hc
        refine s_iload C (d_of DX9_find 29 rfl) rfl ?_
        refine s_iload C (d_of DX9_find 30 rfl) rfl ?_
        refine s_iconst C (d_of DX9_find 31 rfl) (by decide) ?_
        refine s_ixor C (d_of DX9_find 32 rfl) ?_
        refine s_iand C (d_of DX9_find 33 rfl) ?_
        refine pf_X9_276 C o8 (fun _ => by decide) (d_of DX9_find 34 rfl) ?_
        refine s_iload C (d_of DX9_find 35 rfl) rfl ?_
        refine s_iload C (d_of DX9_find 36 rfl) rfl ?_
        refine s_iand C (d_of DX9_find 37 rfl) ?_
        refine s_ifeq C (d_of DX9_find 38 rfl) rfl (fun hc => ?_) (fun hc => ?_)
        · have h := h.1 hc
          refine s_iconst C (d_of DX9_find 41 rfl) (by decide) ?_
          refine s_callS (av := [(0, 0)]) (rest := []) (mc := 0) (ms := 0) C (d_of DX9_find 42 rfl) lk_X9_188 rfl rfl (Nat.le_of_ble_eq_true rfl) (by decide) (by decide) (pc_X9_oneIf) (fun z9 wz9 Mz9 hq => ?_)
          obtain ⟨hq1, hq2, hq3⟩ := hq
          have hq2 := hq2.symm
          have hq3 := hq3.symm
          subst hq1 hq2 hq3
          exact s_ireturn C (d_of DX9_find 43 rfl) h
        · have h := h.2 hc
          refine s_iconst C (d_of DX9_find 39 rfl) (by decide) ?_
          refine s_goto C (d_of DX9_find 40 rfl) rfl ?_
          refine s_callS (av := [(0, 1)]) (rest := []) (mc := 0) (ms := 0) C (d_of DX9_find 42 rfl) lk_X9_188 rfl rfl (Nat.le_of_ble_eq_true rfl) (by decide) (by decide) (pc_X9_oneIf) (fun z10 wz10 Mz10 hq => ?_)
          obtain ⟨hq1, hq2, hq3⟩ := hq
          have hq2 := hq2.symm
          have hq3 := hq3.symm
          subst hq1 hq2 hq3
          exact s_ireturn C (d_of DX9_find 43 rfl) h
      · have h := h.2 hc
        refine s_iload C (d_of DX9_find 25 rfl) rfl ?_
        refine s_iload C (d_of DX9_find 26 rfl) rfl ?_
        refine s_ior C (d_of DX9_find 27 rfl) ?_
        refine s_goto C (d_of DX9_find 28 rfl) rfl ?_
        refine pf_X9_276 C o8 (fun _ => by decide) (d_of DX9_find 34 rfl) ?_
        refine s_iload C (d_of DX9_find 35 rfl) rfl ?_
        refine s_iload C (d_of DX9_find 36 rfl) rfl ?_
        refine s_iand C (d_of DX9_find 37 rfl) ?_
        refine s_ifeq C (d_of DX9_find 38 rfl) rfl (fun hc => ?_) (fun hc => ?_)
        · have h := h.1 hc
          refine s_iconst C (d_of DX9_find 41 rfl) (by decide) ?_
          refine s_callS (av := [(0, 0)]) (rest := []) (mc := 0) (ms := 0) C (d_of DX9_find 42 rfl) lk_X9_188 rfl rfl (Nat.le_of_ble_eq_true rfl) (by decide) (by decide) (pc_X9_oneIf) (fun z11 wz11 Mz11 hq => ?_)
          obtain ⟨hq1, hq2, hq3⟩ := hq
          have hq2 := hq2.symm
          have hq3 := hq3.symm
          subst hq1 hq2 hq3
          exact s_ireturn C (d_of DX9_find 43 rfl) h
        · have h := h.2 hc
          refine s_iconst C (d_of DX9_find 39 rfl) (by decide) ?_
          refine s_goto C (d_of DX9_find 40 rfl) rfl ?_
          refine s_callS (av := [(0, 1)]) (rest := []) (mc := 0) (ms := 0) C (d_of DX9_find 42 rfl) lk_X9_188 rfl rfl (Nat.le_of_ble_eq_true rfl) (by decide) (by decide) (pc_X9_oneIf) (fun z12 wz12 Mz12 hq => ?_)
          obtain ⟨hq1, hq2, hq3⟩ := hq
          have hq2 := hq2.symm
          have hq3 := hq3.symm
          subst hq1 hq2 hq3
          exact s_ireturn C (d_of DX9_find 43 rfl) h
    · have h := h.2 hc
      refine s_iconst C (d_of DX9_find 7 rfl) (by decide) ?_
      exact s_ireturn C (d_of DX9_find 8 rfl) h
theorem E_X9_find {G : GP} {l : Launch} {P : Int → NS → MM → Prop} {l1 : Int} {l2 : Int} {l3 : Int} {w : NS} {M : MM} (h : inR l1 → inR l2 → inR l3 → ∀ X : BX, X.2.1 = l → CX_X9_find G X → A_X9_find_0 G X P l1 l2 l3 w M) : CT_X9_find G l [(2, 1), (0, l1), (0, l2), (0, l3)] w M P :=
  CT.of RX9 "find" (by decide +kernel) rfl rfl rfl (Nat.le_of_ble_eq_true rfl) (fun hr X hX C => h (hr (0, l1) (by simp)) (hr (0, l2) (by simp)) (hr (0, l3) (by simp)) X hX C)
def A_X9_inLowestTerms_0 (G : GP) (X : BX) (P : Int → NS → MM → Prop) (l0 : Int) (l1 : Int) (l2 : Int) (w : NS) (M : MM) : Prop := WA true G X (QM G X true 0 P) 4 0 [(0, l0), (0, l1), (0, l2), (3, 0)] [] 0 0 w M
def A_X9_inLowestTerms_2 (G : GP) (X : BX) (P : Int → NS → MM → Prop) (l0 : Int) (l1 : Int) (l2 : Int) (l3 : Int) (w : NS) (M : MM) : Prop := WA true G X (QM G X true 0 P) 4 2 [(0, l0), (0, l1), (0, l2), (0, l3)] [] 0 0 w M
set_option maxHeartbeats 4000000 in
set_option maxRecDepth 100000 in
theorem B_X9_inLowestTerms_0 {G : GP} {X : BX} {P : Int → NS → MM → Prop} {l0 : Int} {l1 : Int} {l2 : Int} {w : NS} {M : MM} (C : CX_X9_inLowestTerms G X) (h : A_X9_inLowestTerms_2 G X P l0 l1 l2 l2 w M) : A_X9_inLowestTerms_0 G X P l0 l1 l2 w M := by
  unfold A_X9_inLowestTerms_0
  refine s_iload_n C (d_of DX9_inLowestTerms 0 rfl) rfl ?_
  refine s_istore_n (ls' := [(0, l0), (0, l1), (0, l2), (0, l2)]) C (d_of DX9_inLowestTerms 1 rfl) (by decide) rfl rfl ?_
  exact h
set_option maxHeartbeats 4000000 in
set_option maxRecDepth 100000 in
theorem B_X9_inLowestTerms_2 {G : GP} {X : BX} {P : Int → NS → MM → Prop} {l0 : Int} {l1 : Int} {l2 : Int} {l3 : Int} {w : NS} {M : MM} (C : CX_X9_inLowestTerms G X) (h : (((l3 ≤ 1) → P l0 w M) ∧ ((¬ (l3 ≤ 1)) → (0 ≤ l1) ∧ (0 < l3) ∧ ((((l1 % l3) ≠ 0) → (inR (l3 + (-1))) ∧ A_X9_inLowestTerms_2 G X P l0 l1 l2 (l3 + (-1)) w M) ∧ ((¬ ((l1 % l3) ≠ 0)) → (0 ≤ l2) ∧ ((((l2 % l3) ≠ 0) → (inR (l3 + (-1))) ∧ A_X9_inLowestTerms_2 G X P l0 l1 l2 (l3 + (-1)) w M) ∧ ((¬ ((l2 % l3) ≠ 0)) → (0 ≤ l0) ∧ P (l0 / l3) w M))))))) : A_X9_inLowestTerms_2 G X P l0 l1 l2 l3 w M := by
  unfold A_X9_inLowestTerms_2
  refine s_iload_n C (d_of DX9_inLowestTerms 2 rfl) rfl ?_
  refine s_iconst C (d_of DX9_inLowestTerms 3 rfl) (by decide) ?_
  refine s_icmple C (d_of DX9_inLowestTerms 4 rfl) rfl (fun hc => ?_) (fun hc => ?_)
  · have h := h.1 hc
    refine s_iload_n C (d_of DX9_inLowestTerms 19 rfl) rfl ?_
    exact s_ireturn C (d_of DX9_inLowestTerms 20 rfl) h
  · have h := h.2 hc
    refine s_iload_n C (d_of DX9_inLowestTerms 5 rfl) rfl ?_
    refine s_iload_n C (d_of DX9_inLowestTerms 6 rfl) rfl ?_
    obtain ⟨o1, h⟩ := h
    obtain ⟨o2, h⟩ := h
    refine s_irem C (d_of DX9_inLowestTerms 7 rfl) o1 o2 ?_
    refine s_ifne C (d_of DX9_inLowestTerms 8 rfl) rfl (fun hc => ?_) (fun hc => ?_)
    · have h := h.1 hc
      obtain ⟨o3, h⟩ := h
      refine s_iinc (ls' := [(0, l0), (0, l1), (0, l2), (0, (l3 + (-1)))]) C (d_of DX9_inLowestTerms 17 rfl) (by decide) rfl o3 rfl rfl ?_
      refine s_goto C (d_of DX9_inLowestTerms 18 rfl) rfl ?_
      exact h
    · have h := h.2 hc
      refine s_iload_n C (d_of DX9_inLowestTerms 9 rfl) rfl ?_
      refine s_iload_n C (d_of DX9_inLowestTerms 10 rfl) rfl ?_
      obtain ⟨o4, h⟩ := h
      refine s_irem C (d_of DX9_inLowestTerms 11 rfl) o4 o2 ?_
      refine s_ifne C (d_of DX9_inLowestTerms 12 rfl) rfl (fun hc => ?_) (fun hc => ?_)
      · have h := h.1 hc
        obtain ⟨o5, h⟩ := h
        refine s_iinc (ls' := [(0, l0), (0, l1), (0, l2), (0, (l3 + (-1)))]) C (d_of DX9_inLowestTerms 17 rfl) (by decide) rfl o5 rfl rfl ?_
        refine s_goto C (d_of DX9_inLowestTerms 18 rfl) rfl ?_
        exact h
      · have h := h.2 hc
        refine s_iload_n C (d_of DX9_inLowestTerms 13 rfl) rfl ?_
        refine s_iload_n C (d_of DX9_inLowestTerms 14 rfl) rfl ?_
        obtain ⟨o6, h⟩ := h
        refine s_idiv C (d_of DX9_inLowestTerms 15 rfl) o6 o2 ?_
        exact s_ireturn C (d_of DX9_inLowestTerms 16 rfl) h
theorem E_X9_inLowestTerms {G : GP} {l : Launch} {P : Int → NS → MM → Prop} {l0 : Int} {l1 : Int} {l2 : Int} {w : NS} {M : MM} (h : inR l0 → inR l1 → inR l2 → ∀ X : BX, X.2.1 = l → CX_X9_inLowestTerms G X → A_X9_inLowestTerms_0 G X P l0 l1 l2 w M) : CT_X9_inLowestTerms G l [(0, l0), (0, l1), (0, l2)] w M P :=
  CT.of RX9 "inLowestTerms" (by decide +kernel) rfl rfl rfl (Nat.le_of_ble_eq_true rfl) (fun hr X hX C => h (hr (0, l0) (by simp)) (hr (0, l1) (by simp)) (hr (0, l2) (by simp)) X hX C)
def A_X9_misses_0 (G : GP) (X : BX) (P : Int → NS → MM → Prop) (l1 : Int) (l2 : Int) (l3 : Int) (l4 : Int) (w : NS) (M : MM) : Prop := WA true G X (QM G X true 0 P) 9 0 [(2, 1), (0, l1), (0, l2), (0, l3), (0, l4), (3, 0), (3, 0), (3, 0), (3, 0)] [] 0 0 w M
set_option maxHeartbeats 4000000 in
set_option maxRecDepth 100000 in
theorem B_X9_misses_0 {G : GP} {X : BX} {P : Int → NS → MM → Prop} {l1 : Int} {l2 : Int} {l3 : Int} {l4 : Int} {w : NS} {M : MM} (C : CX_X9_misses G X) (h : (((¬ (0 ≤ l1 ∧ l1 ≤ 3)) → P (-1) w M) ∧ (((0 ≤ l1 ∧ l1 ≤ 3)) → (((¬ (0 ≤ l2 ∧ l2 ≤ 3)) → P (-1) w M) ∧ (((0 ≤ l2 ∧ l2 ≤ 3)) → (((l1 ≠ l2) → (((¬ (0 ≤ l3 ∧ l3 ≤ 1)) → P (-2) w M) ∧ (((0 ≤ l3 ∧ l3 ≤ 1)) → ((((0 ≤ l4 ∧ l4 ≤ 1)) → (0 ≤ l1) ∧ (l1 < 4) ∧ (w.2 (M 19 l1) = (8, 4)) ∧ (0 ≤ (M (M 19 l1) 3)) ∧ ((M (M 19 l1) 3) < 16777216) ∧ (0 ≤ l2) ∧ (l2 < 4) ∧ (w.2 (M 19 l2) = (8, 4)) ∧ (0 ≤ (M (M 19 l2) 3)) ∧ ((M (M 19 l2) 3) < 16777216) ∧ (0 ≤ (zand (M (M 19 l1) 3) (M (M 19 l2) 3))) ∧ ((zand (M (M 19 l1) 3) (M (M 19 l2) 3)) < 16777216) ∧ ((((popc (zand (M (M 19 l1) 3) (M (M 19 l2) 3))) ≠ 0) → (((l3 ≠ 0) → (inR ((popc (M (M 19 l1) 3)) - (popc (zand (M (M 19 l1) 3) (M (M 19 l2) 3))))) ∧ (inR ((popc (M (M 19 l2) 3)) - (popc (zand (M (M 19 l1) 3) (M (M 19 l2) 3))))) ∧ (inR (((popc (M (M 19 l1) 3)) - (popc (zand (M (M 19 l1) 3) (M (M 19 l2) 3)))) * ((popc (M (M 19 l2) 3)) - (popc (zand (M (M 19 l1) 3) (M (M 19 l2) 3)))))) ∧ (((l4 ≠ 0) → ∃ Q24 : Int → NS → MM → Prop, CT_X9_inLowestTerms G X.2.1 [(0, (popc (zand (M (M 19 l1) 3) (M (M 19 l2) 3)))), (0, (((popc (M (M 19 l1) 3)) - (popc (zand (M (M 19 l1) 3) (M (M 19 l2) 3)))) * ((popc (M (M 19 l2) 3)) - (popc (zand (M (M 19 l1) 3) (M (M 19 l2) 3)))))), (0, (popc (zand (M (M 19 l1) 3) (M (M 19 l2) 3))))] w M Q24 ∧ ∀ (z24 : Int) (w24 : NS) (M24 : MM), Q24 z24 w24 M24 → P z24 w24 M24) ∧ ((¬ (l4 ≠ 0)) → ∃ Q25 : Int → NS → MM → Prop, CT_X9_inLowestTerms G X.2.1 [(0, (((popc (M (M 19 l1) 3)) - (popc (zand (M (M 19 l1) 3) (M (M 19 l2) 3)))) * ((popc (M (M 19 l2) 3)) - (popc (zand (M (M 19 l1) 3) (M (M 19 l2) 3)))))), (0, (((popc (M (M 19 l1) 3)) - (popc (zand (M (M 19 l1) 3) (M (M 19 l2) 3)))) * ((popc (M (M 19 l2) 3)) - (popc (zand (M (M 19 l1) 3) (M (M 19 l2) 3)))))), (0, (popc (zand (M (M 19 l1) 3) (M (M 19 l2) 3))))] w M Q25 ∧ ∀ (z25 : Int) (w25 : NS) (M25 : MM), Q25 z25 w25 M25 → P z25 w25 M25))) ∧ ((¬ (l3 ≠ 0)) → (inR ((popc (M (M 19 l1) 3)) * (popc (M (M 19 l2) 3)))) ∧ (((l4 ≠ 0) → ∃ Q27 : Int → NS → MM → Prop, CT_X9_inLowestTerms G X.2.1 [(0, (popc (zand (M (M 19 l1) 3) (M (M 19 l2) 3)))), (0, ((popc (M (M 19 l1) 3)) * (popc (M (M 19 l2) 3)))), (0, (popc (zand (M (M 19 l1) 3) (M (M 19 l2) 3))))] w M Q27 ∧ ∀ (z27 : Int) (w27 : NS) (M27 : MM), Q27 z27 w27 M27 → P z27 w27 M27) ∧ ((¬ (l4 ≠ 0)) → ∃ Q28 : Int → NS → MM → Prop, CT_X9_inLowestTerms G X.2.1 [(0, ((popc (M (M 19 l1) 3)) * (popc (M (M 19 l2) 3)))), (0, ((popc (M (M 19 l1) 3)) * (popc (M (M 19 l2) 3)))), (0, (popc (zand (M (M 19 l1) 3) (M (M 19 l2) 3))))] w M Q28 ∧ ∀ (z28 : Int) (w28 : NS) (M28 : MM), Q28 z28 w28 M28 → P z28 w28 M28))))) ∧ ((¬ ((popc (zand (M (M 19 l1) 3) (M (M 19 l2) 3))) ≠ 0)) → P l4 w M))) ∧ ((¬ (0 ≤ l4 ∧ l4 ≤ 1)) → P (-2) w M))))) ∧ ((¬ (l1 ≠ l2)) → P (-1) w M))))))) : A_X9_misses_0 G X P l1 l2 l3 l4 w M := by
  unfold A_X9_misses_0
  refine s_iload_n C (d_of DX9_misses 0 rfl) rfl ?_
  refine s_callS (av := [(0, l1)]) (rest := []) (mc := 0) (ms := 0) C (d_of DX9_misses 1 rfl) lk_X9_273 rfl rfl (Nat.le_of_ble_eq_true rfl) (by decide) (by decide) (pc_X9_isReader) (fun z1 wz1 Mz1 hq => ?_)
  obtain ⟨hq1, hq2, hq3⟩ := hq
  have hq2 := hq2.symm
  have hq3 := hq3.symm
  subst hq1 hq2 hq3
  refine s_ifeq C (d_of DX9_misses 2 rfl) rfl (fun hc => ?_) (fun hc => ?_)
  · have h := h.1 (b2i_0.mp hc)
    refine s_iconst C (d_of DX9_misses 9 rfl) (by decide) ?_
    exact s_ireturn C (d_of DX9_misses 10 rfl) h
  · have h := h.2 (b2i_n0 hc)
    refine s_iload_n C (d_of DX9_misses 3 rfl) rfl ?_
    refine s_callS (av := [(0, l2)]) (rest := []) (mc := 0) (ms := 0) C (d_of DX9_misses 4 rfl) lk_X9_273 rfl rfl (Nat.le_of_ble_eq_true rfl) (by decide) (by decide) (pc_X9_isReader) (fun z2 wz2 Mz2 hq => ?_)
    obtain ⟨hq1, hq2, hq3⟩ := hq
    have hq2 := hq2.symm
    have hq3 := hq3.symm
    subst hq1 hq2 hq3
    refine s_ifeq C (d_of DX9_misses 5 rfl) rfl (fun hc => ?_) (fun hc => ?_)
    · have h := h.1 (b2i_0.mp hc)
      refine s_iconst C (d_of DX9_misses 9 rfl) (by decide) ?_
      exact s_ireturn C (d_of DX9_misses 10 rfl) h
    · have h := h.2 (b2i_n0 hc)
      refine s_iload_n C (d_of DX9_misses 6 rfl) rfl ?_
      refine s_iload_n C (d_of DX9_misses 7 rfl) rfl ?_
      refine s_icmpne C (d_of DX9_misses 8 rfl) rfl (fun hc => ?_) (fun hc => ?_)
      · have h := h.1 hc
        refine s_iload_n C (d_of DX9_misses 11 rfl) rfl ?_
        refine s_iconst C (d_of DX9_misses 12 rfl) (by decide) ?_
        refine s_iconst C (d_of DX9_misses 13 rfl) (by decide) ?_
        refine s_callS (av := [(0, l3), (0, 0), (0, 1)]) (rest := []) (mc := 0) (ms := 0) C (d_of DX9_misses 14 rfl) lk_X9_95 rfl rfl (Nat.le_of_ble_eq_true rfl) (by decide) (by decide) (pc_X9_within) (fun z3 wz3 Mz3 hq => ?_)
        obtain ⟨hq1, hq2, hq3⟩ := hq
        have hq2 := hq2.symm
        have hq3 := hq3.symm
        subst hq1 hq2 hq3
        refine s_ifeq C (d_of DX9_misses 15 rfl) rfl (fun hc => ?_) (fun hc => ?_)
        · have h := h.1 (b2i_0.mp hc)
          refine s_bipush C (d_of DX9_misses 21 rfl) ⟨rfl, by decide, by decide⟩ ?_
          exact s_ireturn C (d_of DX9_misses 22 rfl) h
        · have h := h.2 (b2i_n0 hc)
          refine s_iload C (d_of DX9_misses 16 rfl) rfl ?_
          refine s_iconst C (d_of DX9_misses 17 rfl) (by decide) ?_
          refine s_iconst C (d_of DX9_misses 18 rfl) (by decide) ?_
          refine s_callS (av := [(0, l4), (0, 0), (0, 1)]) (rest := []) (mc := 0) (ms := 0) C (d_of DX9_misses 19 rfl) lk_X9_95 rfl rfl (Nat.le_of_ble_eq_true rfl) (by decide) (by decide) (pc_X9_within) (fun z4 wz4 Mz4 hq => ?_)
          obtain ⟨hq1, hq2, hq3⟩ := hq
          have hq2 := hq2.symm
          have hq3 := hq3.symm
          subst hq1 hq2 hq3
          refine s_ifne C (d_of DX9_misses 20 rfl) rfl (fun hc => ?_) (fun hc => ?_)
          · have h := h.1 (b2i_n0 hc)
            refine s_aload_n C (d_of DX9_misses 23 rfl) rfl ?_
            refine WA.fix (fun hF5 => ?_)
            refine gf_X9_79 C (sh_1 hF5) (d_of DX9_misses 24 rfl) (fx_1_14 hF5) ?_
            refine s_iload_n C (d_of DX9_misses 25 rfl) rfl ?_
            obtain ⟨o6, h⟩ := h
            obtain ⟨o7, h⟩ := h
            refine s_aald (v0 := (M 19 l1)) (t0 := 7) C (sh_19 hF5) (by decide) rfl o6 o7 (d_of DX9_misses 26 rfl) rfl ?_
            obtain ⟨o8, h⟩ := h
            refine gf_X9_276 (v0 := (M (M 19 l1) 3)) C o8 (d_of DX9_misses 27 rfl) rfl ?_
            obtain ⟨o9, h⟩ := h
            obtain ⟨o10, h⟩ := h
            refine s_callS (av := [(0, (M (M 19 l1) 3))]) (rest := []) (mc := 0) (ms := 0) C (d_of DX9_misses 28 rfl) lk_X9_268 rfl rfl (Nat.le_of_ble_eq_true rfl) (by decide) (by decide) (pc_J6_bitCount o9 o10) (fun z11 wz11 Mz11 hq => ?_)
            obtain ⟨hq1, hq2, hq3⟩ := hq
            have hq2 := hq2.symm
            have hq3 := hq3.symm
            subst hq1 hq2 hq3
            refine s_istore (ls' := [(2, 1), (0, l1), (0, l2), (0, l3), (0, l4), (0, (popc (M (M 19 l1) 3))), (3, 0), (3, 0), (3, 0)]) C (d_of DX9_misses 29 rfl) (by decide) rfl rfl ?_
            refine s_aload_n C (d_of DX9_misses 30 rfl) rfl ?_
            refine gf_X9_79 C (sh_1 hF5) (d_of DX9_misses 31 rfl) (fx_1_14 hF5) ?_
            refine s_iload_n C (d_of DX9_misses 32 rfl) rfl ?_
            obtain ⟨o12, h⟩ := h
            obtain ⟨o13, h⟩ := h
            refine s_aald (v0 := (M 19 l2)) (t0 := 7) C (sh_19 hF5) (by decide) rfl o12 o13 (d_of DX9_misses 33 rfl) rfl ?_
            obtain ⟨o14, h⟩ := h
            refine gf_X9_276 (v0 := (M (M 19 l2) 3)) C o14 (d_of DX9_misses 34 rfl) rfl ?_
            obtain ⟨o15, h⟩ := h
            obtain ⟨o16, h⟩ := h
            refine s_callS (av := [(0, (M (M 19 l2) 3))]) (rest := []) (mc := 0) (ms := 0) C (d_of DX9_misses 35 rfl) lk_X9_268 rfl rfl (Nat.le_of_ble_eq_true rfl) (by decide) (by decide) (pc_J6_bitCount o15 o16) (fun z17 wz17 Mz17 hq => ?_)
            obtain ⟨hq1, hq2, hq3⟩ := hq
            have hq2 := hq2.symm
            have hq3 := hq3.symm
            subst hq1 hq2 hq3
            refine s_istore (ls' := [(2, 1), (0, l1), (0, l2), (0, l3), (0, l4), (0, (popc (M (M 19 l1) 3))), (0, (popc (M (M 19 l2) 3))), (3, 0), (3, 0)]) C (d_of DX9_misses 36 rfl) (by decide) rfl rfl ?_
            refine s_aload_n C (d_of DX9_misses 37 rfl) rfl ?_
            refine gf_X9_79 C (sh_1 hF5) (d_of DX9_misses 38 rfl) (fx_1_14 hF5) ?_
            refine s_iload_n C (d_of DX9_misses 39 rfl) rfl ?_
            refine s_aald (v0 := (M 19 l1)) (t0 := 7) C (sh_19 hF5) (by decide) rfl o6 o7 (d_of DX9_misses 40 rfl) rfl ?_
            refine gf_X9_276 (v0 := (M (M 19 l1) 3)) C o8 (d_of DX9_misses 41 rfl) rfl ?_
            refine s_aload_n C (d_of DX9_misses 42 rfl) rfl ?_
            refine gf_X9_79 C (sh_1 hF5) (d_of DX9_misses 43 rfl) (fx_1_14 hF5) ?_
            refine s_iload_n C (d_of DX9_misses 44 rfl) rfl ?_
            refine s_aald (v0 := (M 19 l2)) (t0 := 7) C (sh_19 hF5) (by decide) rfl o12 o13 (d_of DX9_misses 45 rfl) rfl ?_
            refine gf_X9_276 (v0 := (M (M 19 l2) 3)) C o14 (d_of DX9_misses 46 rfl) rfl ?_
            refine s_iand C (d_of DX9_misses 47 rfl) ?_
            obtain ⟨o18, h⟩ := h
            obtain ⟨o19, h⟩ := h
            refine s_callS (av := [(0, (zand (M (M 19 l1) 3) (M (M 19 l2) 3)))]) (rest := []) (mc := 0) (ms := 0) C (d_of DX9_misses 48 rfl) lk_X9_268 rfl rfl (Nat.le_of_ble_eq_true rfl) (by decide) (by decide) (pc_J6_bitCount o18 o19) (fun z20 wz20 Mz20 hq => ?_)
            obtain ⟨hq1, hq2, hq3⟩ := hq
            have hq2 := hq2.symm
            have hq3 := hq3.symm
            subst hq1 hq2 hq3
            refine s_istore (ls' := [(2, 1), (0, l1), (0, l2), (0, l3), (0, l4), (0, (popc (M (M 19 l1) 3))), (0, (popc (M (M 19 l2) 3))), (0, (popc (zand (M (M 19 l1) 3) (M (M 19 l2) 3)))), (3, 0)]) C (d_of DX9_misses 49 rfl) (by decide) rfl rfl ?_
            refine s_iload C (d_of DX9_misses 50 rfl) rfl ?_
            refine s_ifne C (d_of DX9_misses 51 rfl) rfl (fun hc => ?_) (fun hc => ?_)
            · have h := h.1 hc
              refine s_iload_n C (d_of DX9_misses 54 rfl) rfl ?_
              refine s_ifne C (d_of DX9_misses 55 rfl) rfl (fun hc => ?_) (fun hc => ?_)
              · have h := h.1 hc
                refine s_iload C (d_of DX9_misses 60 rfl) rfl ?_
                refine s_iload C (d_of DX9_misses 61 rfl) rfl ?_
                obtain ⟨o21, h⟩ := h
                refine s_isub C (d_of DX9_misses 62 rfl) o21 ?_
                refine s_iload C (d_of DX9_misses 63 rfl) rfl ?_
                refine s_iload C (d_of DX9_misses 64 rfl) rfl ?_
                obtain ⟨o22, h⟩ := h
                refine s_isub C (d_of DX9_misses 65 rfl) o22 ?_
                obtain ⟨o23, h⟩ := h
                refine s_imul C (d_of DX9_misses 66 rfl) o23 ?_
                refine s_istore (ls' := [(2, 1), (0, l1), (0, l2), (0, l3), (0, l4), (0, (popc (M (M 19 l1) 3))), (0, (popc (M (M 19 l2) 3))), (0, (popc (zand (M (M 19 l1) 3) (M (M 19 l2) 3)))), (0, (((popc (M (M 19 l1) 3)) - (popc (zand (M (M 19 l1) 3) (M (M 19 l2) 3)))) * ((popc (M (M 19 l2) 3)) - (popc (zand (M (M 19 l1) 3) (M (M 19 l2) 3))))))]) C (d_of DX9_misses 67 rfl) (by decide) rfl rfl ?_
                refine s_iload C (d_of DX9_misses 68 rfl) rfl ?_
                refine s_ifne C (d_of DX9_misses 69 rfl) rfl (fun hc => ?_) (fun hc => ?_)
                · have h := h.1 hc
                  refine s_iload C (d_of DX9_misses 72 rfl) rfl ?_
                  refine s_iload C (d_of DX9_misses 73 rfl) rfl ?_
                  refine s_iload C (d_of DX9_misses 74 rfl) rfl ?_
                  obtain ⟨Q24, hKQ24, h⟩ := h
                  refine s_callS (av := [(0, (popc (zand (M (M 19 l1) 3) (M (M 19 l2) 3)))), (0, (((popc (M (M 19 l1) 3)) - (popc (zand (M (M 19 l1) 3) (M (M 19 l2) 3)))) * ((popc (M (M 19 l2) 3)) - (popc (zand (M (M 19 l1) 3) (M (M 19 l2) 3)))))), (0, (popc (zand (M (M 19 l1) 3) (M (M 19 l2) 3))))]) (rest := []) (mc := 0) (ms := 0) C (d_of DX9_misses 75 rfl) lk_X9_279 rfl rfl (Nat.le_of_ble_eq_true rfl) (by decide) (by decide) hKQ24 (fun z24 w24 M24 hq => ?_)
                  have h := h z24 w24 M24 hq
                  exact s_ireturn C (d_of DX9_misses 76 rfl) h
                · have h := h.2 hc
                  refine s_iload C (d_of DX9_misses 70 rfl) rfl ?_
                  refine s_goto C (d_of DX9_misses 71 rfl) rfl ?_
                  refine s_iload C (d_of DX9_misses 73 rfl) rfl ?_
                  refine s_iload C (d_of DX9_misses 74 rfl) rfl ?_
                  obtain ⟨Q25, hKQ25, h⟩ := h
                  refine s_callS (av := [(0, (((popc (M (M 19 l1) 3)) - (popc (zand (M (M 19 l1) 3) (M (M 19 l2) 3)))) * ((popc (M (M 19 l2) 3)) - (popc (zand (M (M 19 l1) 3) (M (M 19 l2) 3)))))), (0, (((popc (M (M 19 l1) 3)) - (popc (zand (M (M 19 l1) 3) (M (M 19 l2) 3)))) * ((popc (M (M 19 l2) 3)) - (popc (zand (M (M 19 l1) 3) (M (M 19 l2) 3)))))), (0, (popc (zand (M (M 19 l1) 3) (M (M 19 l2) 3))))]) (rest := []) (mc := 0) (ms := 0) C (d_of DX9_misses 75 rfl) lk_X9_279 rfl rfl (Nat.le_of_ble_eq_true rfl) (by decide) (by decide) hKQ25 (fun z25 w25 M25 hq => ?_)
                  have h := h z25 w25 M25 hq
                  exact s_ireturn C (d_of DX9_misses 76 rfl) h
              · have h := h.2 hc
                refine s_iload C (d_of DX9_misses 56 rfl) rfl ?_
                refine s_iload C (d_of DX9_misses 57 rfl) rfl ?_
                obtain ⟨o26, h⟩ := h
                refine s_imul C (d_of DX9_misses 58 rfl) o26 ?_
                refine s_goto C (d_of DX9_misses 59 rfl) rfl ?_
                refine s_istore (ls' := [(2, 1), (0, l1), (0, l2), (0, l3), (0, l4), (0, (popc (M (M 19 l1) 3))), (0, (popc (M (M 19 l2) 3))), (0, (popc (zand (M (M 19 l1) 3) (M (M 19 l2) 3)))), (0, ((popc (M (M 19 l1) 3)) * (popc (M (M 19 l2) 3))))]) C (d_of DX9_misses 67 rfl) (by decide) rfl rfl ?_
                refine s_iload C (d_of DX9_misses 68 rfl) rfl ?_
                refine s_ifne C (d_of DX9_misses 69 rfl) rfl (fun hc => ?_) (fun hc => ?_)
                · have h := h.1 hc
                  refine s_iload C (d_of DX9_misses 72 rfl) rfl ?_
                  refine s_iload C (d_of DX9_misses 73 rfl) rfl ?_
                  refine s_iload C (d_of DX9_misses 74 rfl) rfl ?_
                  obtain ⟨Q27, hKQ27, h⟩ := h
                  refine s_callS (av := [(0, (popc (zand (M (M 19 l1) 3) (M (M 19 l2) 3)))), (0, ((popc (M (M 19 l1) 3)) * (popc (M (M 19 l2) 3)))), (0, (popc (zand (M (M 19 l1) 3) (M (M 19 l2) 3))))]) (rest := []) (mc := 0) (ms := 0) C (d_of DX9_misses 75 rfl) lk_X9_279 rfl rfl (Nat.le_of_ble_eq_true rfl) (by decide) (by decide) hKQ27 (fun z27 w27 M27 hq => ?_)
                  have h := h z27 w27 M27 hq
                  exact s_ireturn C (d_of DX9_misses 76 rfl) h
                · have h := h.2 hc
                  refine s_iload C (d_of DX9_misses 70 rfl) rfl ?_
                  refine s_goto C (d_of DX9_misses 71 rfl) rfl ?_
                  refine s_iload C (d_of DX9_misses 73 rfl) rfl ?_
                  refine s_iload C (d_of DX9_misses 74 rfl) rfl ?_
                  obtain ⟨Q28, hKQ28, h⟩ := h
                  refine s_callS (av := [(0, ((popc (M (M 19 l1) 3)) * (popc (M (M 19 l2) 3)))), (0, ((popc (M (M 19 l1) 3)) * (popc (M (M 19 l2) 3)))), (0, (popc (zand (M (M 19 l1) 3) (M (M 19 l2) 3))))]) (rest := []) (mc := 0) (ms := 0) C (d_of DX9_misses 75 rfl) lk_X9_279 rfl rfl (Nat.le_of_ble_eq_true rfl) (by decide) (by decide) hKQ28 (fun z28 w28 M28 hq => ?_)
                  have h := h z28 w28 M28 hq
                  exact s_ireturn C (d_of DX9_misses 76 rfl) h
            · have h := h.2 hc
              refine s_iload C (d_of DX9_misses 52 rfl) rfl ?_
              exact s_ireturn C (d_of DX9_misses 53 rfl) h
          · have h := h.2 (b2i_nn hc)
            refine s_bipush C (d_of DX9_misses 21 rfl) ⟨rfl, by decide, by decide⟩ ?_
            exact s_ireturn C (d_of DX9_misses 22 rfl) h
      · have h := h.2 hc
        refine s_iconst C (d_of DX9_misses 9 rfl) (by decide) ?_
        exact s_ireturn C (d_of DX9_misses 10 rfl) h
theorem E_X9_misses {G : GP} {l : Launch} {P : Int → NS → MM → Prop} {l1 : Int} {l2 : Int} {l3 : Int} {l4 : Int} {w : NS} {M : MM} (h : inR l1 → inR l2 → inR l3 → inR l4 → ∀ X : BX, X.2.1 = l → CX_X9_misses G X → A_X9_misses_0 G X P l1 l2 l3 l4 w M) : CT_X9_misses G l [(2, 1), (0, l1), (0, l2), (0, l3), (0, l4)] w M P :=
  CT.of RX9 "misses" (by decide +kernel) rfl rfl rfl (Nat.le_of_ble_eq_true rfl) (fun hr X hX C => h (hr (0, l1) (by simp)) (hr (0, l2) (by simp)) (hr (0, l3) (by simp)) (hr (0, l4) (by simp)) X hX C)
def A_X9_reader_0 (G : GP) (X : BX) (P : Int → NS → MM → Prop) (l1 : Int) (l2 : Int) (l3 : Int) (w : NS) (M : MM) : Prop := WA true G X (QM G X true 0 P) 6 0 [(2, 1), (0, l1), (0, l2), (0, l3), (3, 0), (3, 0)] [] 0 0 w M
set_option maxHeartbeats 4000000 in
set_option maxRecDepth 100000 in
theorem B_X9_reader_0 {G : GP} {X : BX} {P : Int → NS → MM → Prop} {l1 : Int} {l2 : Int} {l3 : Int} {w : NS} {M : MM} (C : CX_X9_reader G X) (h : ((((0 ≤ l1 ∧ l1 ≤ 3)) → (0 ≤ l1) ∧ (l1 < 4) ∧ (((l2 ≠ 0) → (((l2 ≠ 1) → P (-2) w M) ∧ ((¬ (l2 ≠ 1)) → (((¬ (0 ≤ l3 ∧ l3 ≤ 1000)) → P (-2) w M) ∧ (((0 ≤ l3 ∧ l3 ≤ 1000)) → (w.2 (M 19 l1) = (8, 4)) ∧ P (M (M 19 l1) 1) w (up M (M 19 l1) 1 l3)))))) ∧ ((¬ (l2 ≠ 0)) → (((¬ (1 ≤ l3 ∧ l3 ≤ 100)) → (((l2 ≠ 1) → P (-2) w M) ∧ ((¬ (l2 ≠ 1)) → (((¬ (0 ≤ l3 ∧ l3 ≤ 1000)) → P (-2) w M) ∧ (((0 ≤ l3 ∧ l3 ≤ 1000)) → (w.2 (M 19 l1) = (8, 4)) ∧ P (M (M 19 l1) 1) w (up M (M 19 l1) 1 l3)))))) ∧ (((1 ≤ l3 ∧ l3 ≤ 100)) → (w.2 (M 19 l1) = (8, 4)) ∧ P (M (M 19 l1) 0) w (up M (M 19 l1) 0 l3)))))) ∧ ((¬ (0 ≤ l1 ∧ l1 ≤ 3)) → P (-1) w M))) : A_X9_reader_0 G X P l1 l2 l3 w M := by
  unfold A_X9_reader_0
  refine s_iload_n C (d_of DX9_reader 0 rfl) rfl ?_
  refine s_callS (av := [(0, l1)]) (rest := []) (mc := 0) (ms := 0) C (d_of DX9_reader 1 rfl) lk_X9_273 rfl rfl (Nat.le_of_ble_eq_true rfl) (by decide) (by decide) (pc_X9_isReader) (fun z1 wz1 Mz1 hq => ?_)
  obtain ⟨hq1, hq2, hq3⟩ := hq
  have hq2 := hq2.symm
  have hq3 := hq3.symm
  subst hq1 hq2 hq3
  refine s_ifne C (d_of DX9_reader 2 rfl) rfl (fun hc => ?_) (fun hc => ?_)
  · have h := h.1 (b2i_n0 hc)
    refine s_aload_n C (d_of DX9_reader 5 rfl) rfl ?_
    refine WA.fix (fun hF2 => ?_)
    refine gf_X9_79 C (sh_1 hF2) (d_of DX9_reader 6 rfl) (fx_1_14 hF2) ?_
    refine s_iload_n C (d_of DX9_reader 7 rfl) rfl ?_
    obtain ⟨o3, h⟩ := h
    obtain ⟨o4, h⟩ := h
    refine s_aald (v0 := (M 19 l1)) (t0 := 7) C (sh_19 hF2) (by decide) rfl o3 o4 (d_of DX9_reader 8 rfl) rfl ?_
    refine s_astore (ls' := [(2, 1), (0, l1), (0, l2), (0, l3), (2, (M 19 l1)), (3, 0)]) C (d_of DX9_reader 9 rfl) (by decide) rfl rfl ?_
    refine s_iload_n C (d_of DX9_reader 10 rfl) rfl ?_
    refine s_ifne C (d_of DX9_reader 11 rfl) rfl (fun hc => ?_) (fun hc => ?_)
    · have h := h.1 hc
      refine s_iload_n C (d_of DX9_reader 25 rfl) rfl ?_
      refine s_iconst C (d_of DX9_reader 26 rfl) (by decide) ?_
      refine s_icmpne C (d_of DX9_reader 27 rfl) rfl (fun hc => ?_) (fun hc => ?_)
      · have h := h.1 hc
        refine s_bipush C (d_of DX9_reader 41 rfl) ⟨rfl, by decide, by decide⟩ ?_
        exact s_ireturn C (d_of DX9_reader 42 rfl) h
      · have h := h.2 hc
        refine s_iload_n C (d_of DX9_reader 28 rfl) rfl ?_
        refine s_iconst C (d_of DX9_reader 29 rfl) (by decide) ?_
        refine s_sipush C (d_of DX9_reader 30 rfl) ⟨rfl, by decide, by decide⟩ ?_
        refine s_callS (av := [(0, l3), (0, 0), (0, 1000)]) (rest := []) (mc := 0) (ms := 0) C (d_of DX9_reader 31 rfl) lk_X9_95 rfl rfl (Nat.le_of_ble_eq_true rfl) (by decide) (by decide) (pc_X9_within) (fun z5 wz5 Mz5 hq => ?_)
        obtain ⟨hq1, hq2, hq3⟩ := hq
        have hq2 := hq2.symm
        have hq3 := hq3.symm
        subst hq1 hq2 hq3
        refine s_ifeq C (d_of DX9_reader 32 rfl) rfl (fun hc => ?_) (fun hc => ?_)
        · have h := h.1 (b2i_0.mp hc)
          refine s_bipush C (d_of DX9_reader 41 rfl) ⟨rfl, by decide, by decide⟩ ?_
          exact s_ireturn C (d_of DX9_reader 42 rfl) h
        · have h := h.2 (b2i_n0 hc)
          refine s_aload C (d_of DX9_reader 33 rfl) rfl ?_
          obtain ⟨o6, h⟩ := h
          refine gf_X9_286 (v0 := (M (M 19 l1) 1)) C o6 (d_of DX9_reader 34 rfl) rfl ?_
          refine s_istore (ls' := [(2, 1), (0, l1), (0, l2), (0, l3), (2, (M 19 l1)), (0, (M (M 19 l1) 1))]) C (d_of DX9_reader 35 rfl) (by decide) rfl rfl ?_
          refine s_aload C (d_of DX9_reader 36 rfl) rfl ?_
          refine s_iload_n C (d_of DX9_reader 37 rfl) rfl ?_
          refine pf_X9_286 C o6 (fun _ => by decide) (d_of DX9_reader 38 rfl) ?_
          refine s_iload C (d_of DX9_reader 39 rfl) rfl ?_
          exact s_ireturn C (d_of DX9_reader 40 rfl) h
    · have h := h.2 hc
      refine s_iload_n C (d_of DX9_reader 12 rfl) rfl ?_
      refine s_iconst C (d_of DX9_reader 13 rfl) (by decide) ?_
      refine s_bipush C (d_of DX9_reader 14 rfl) ⟨rfl, by decide, by decide⟩ ?_
      refine s_callS (av := [(0, l3), (0, 1), (0, 100)]) (rest := []) (mc := 0) (ms := 0) C (d_of DX9_reader 15 rfl) lk_X9_95 rfl rfl (Nat.le_of_ble_eq_true rfl) (by decide) (by decide) (pc_X9_within) (fun z7 wz7 Mz7 hq => ?_)
      obtain ⟨hq1, hq2, hq3⟩ := hq
      have hq2 := hq2.symm
      have hq3 := hq3.symm
      subst hq1 hq2 hq3
      refine s_ifeq C (d_of DX9_reader 16 rfl) rfl (fun hc => ?_) (fun hc => ?_)
      · have h := h.1 (b2i_0.mp hc)
        refine s_iload_n C (d_of DX9_reader 25 rfl) rfl ?_
        refine s_iconst C (d_of DX9_reader 26 rfl) (by decide) ?_
        refine s_icmpne C (d_of DX9_reader 27 rfl) rfl (fun hc => ?_) (fun hc => ?_)
        · have h := h.1 hc
          refine s_bipush C (d_of DX9_reader 41 rfl) ⟨rfl, by decide, by decide⟩ ?_
          exact s_ireturn C (d_of DX9_reader 42 rfl) h
        · have h := h.2 hc
          refine s_iload_n C (d_of DX9_reader 28 rfl) rfl ?_
          refine s_iconst C (d_of DX9_reader 29 rfl) (by decide) ?_
          refine s_sipush C (d_of DX9_reader 30 rfl) ⟨rfl, by decide, by decide⟩ ?_
          refine s_callS (av := [(0, l3), (0, 0), (0, 1000)]) (rest := []) (mc := 0) (ms := 0) C (d_of DX9_reader 31 rfl) lk_X9_95 rfl rfl (Nat.le_of_ble_eq_true rfl) (by decide) (by decide) (pc_X9_within) (fun z8 wz8 Mz8 hq => ?_)
          obtain ⟨hq1, hq2, hq3⟩ := hq
          have hq2 := hq2.symm
          have hq3 := hq3.symm
          subst hq1 hq2 hq3
          refine s_ifeq C (d_of DX9_reader 32 rfl) rfl (fun hc => ?_) (fun hc => ?_)
          · have h := h.1 (b2i_0.mp hc)
            refine s_bipush C (d_of DX9_reader 41 rfl) ⟨rfl, by decide, by decide⟩ ?_
            exact s_ireturn C (d_of DX9_reader 42 rfl) h
          · have h := h.2 (b2i_n0 hc)
            refine s_aload C (d_of DX9_reader 33 rfl) rfl ?_
            obtain ⟨o9, h⟩ := h
            refine gf_X9_286 (v0 := (M (M 19 l1) 1)) C o9 (d_of DX9_reader 34 rfl) rfl ?_
            refine s_istore (ls' := [(2, 1), (0, l1), (0, l2), (0, l3), (2, (M 19 l1)), (0, (M (M 19 l1) 1))]) C (d_of DX9_reader 35 rfl) (by decide) rfl rfl ?_
            refine s_aload C (d_of DX9_reader 36 rfl) rfl ?_
            refine s_iload_n C (d_of DX9_reader 37 rfl) rfl ?_
            refine pf_X9_286 C o9 (fun _ => by decide) (d_of DX9_reader 38 rfl) ?_
            refine s_iload C (d_of DX9_reader 39 rfl) rfl ?_
            exact s_ireturn C (d_of DX9_reader 40 rfl) h
      · have h := h.2 (b2i_n0 hc)
        refine s_aload C (d_of DX9_reader 17 rfl) rfl ?_
        obtain ⟨o10, h⟩ := h
        refine gf_X9_283 (v0 := (M (M 19 l1) 0)) C o10 (d_of DX9_reader 18 rfl) rfl ?_
        refine s_istore (ls' := [(2, 1), (0, l1), (0, l2), (0, l3), (2, (M 19 l1)), (0, (M (M 19 l1) 0))]) C (d_of DX9_reader 19 rfl) (by decide) rfl rfl ?_
        refine s_aload C (d_of DX9_reader 20 rfl) rfl ?_
        refine s_iload_n C (d_of DX9_reader 21 rfl) rfl ?_
        refine pf_X9_283 C o10 (fun _ => by decide) (d_of DX9_reader 22 rfl) ?_
        refine s_iload C (d_of DX9_reader 23 rfl) rfl ?_
        exact s_ireturn C (d_of DX9_reader 24 rfl) h
  · have h := h.2 (b2i_nn hc)
    refine s_iconst C (d_of DX9_reader 3 rfl) (by decide) ?_
    exact s_ireturn C (d_of DX9_reader 4 rfl) h
theorem E_X9_reader {G : GP} {l : Launch} {P : Int → NS → MM → Prop} {l1 : Int} {l2 : Int} {l3 : Int} {w : NS} {M : MM} (h : inR l1 → inR l2 → inR l3 → ∀ X : BX, X.2.1 = l → CX_X9_reader G X → A_X9_reader_0 G X P l1 l2 l3 w M) : CT_X9_reader G l [(2, 1), (0, l1), (0, l2), (0, l3)] w M P :=
  CT.of RX9 "reader" (by decide +kernel) rfl rfl rfl (Nat.le_of_ble_eq_true rfl) (fun hr X hX C => h (hr (0, l1) (by simp)) (hr (0, l2) (by simp)) (hr (0, l3) (by simp)) X hX C)
def A_X9_slips_0 (G : GP) (X : BX) (P : Int → NS → MM → Prop) (l1 : Int) (l2 : Int) (l3 : Int) (w : NS) (M : MM) : Prop := WA true G X (QM G X true 0 P) 5 0 [(2, 1), (0, l1), (0, l2), (0, l3), (3, 0)] [] 0 0 w M
set_option maxHeartbeats 4000000 in
set_option maxRecDepth 100000 in
theorem B_X9_slips_0 {G : GP} {X : BX} {P : Int → NS → MM → Prop} {l1 : Int} {l2 : Int} {l3 : Int} {w : NS} {M : MM} (C : CX_X9_slips G X) (h : ((((0 ≤ l1 ∧ l1 ≤ 3)) → (((¬ (0 ≤ l2 ∧ l2 ≤ 9)) → P (-2) w M) ∧ (((0 ≤ l2 ∧ l2 ≤ 9)) → ((((0 ≤ l3 ∧ l3 ≤ 100)) → (0 ≤ l1) ∧ (l1 < 4) ∧ (w.2 (M 19 l1) = (8, 4)) ∧ (0 ≤ l2) ∧ (l2 < 10) ∧ P (M ((M 19 l1) + 1) l2) w (up M ((M 19 l1) + 1) l2 l3)) ∧ ((¬ (0 ≤ l3 ∧ l3 ≤ 100)) → P (-2) w M))))) ∧ ((¬ (0 ≤ l1 ∧ l1 ≤ 3)) → P (-1) w M))) : A_X9_slips_0 G X P l1 l2 l3 w M := by
  unfold A_X9_slips_0
  refine s_iload_n C (d_of DX9_slips 0 rfl) rfl ?_
  refine s_callS (av := [(0, l1)]) (rest := []) (mc := 0) (ms := 0) C (d_of DX9_slips 1 rfl) lk_X9_273 rfl rfl (Nat.le_of_ble_eq_true rfl) (by decide) (by decide) (pc_X9_isReader) (fun z1 wz1 Mz1 hq => ?_)
  obtain ⟨hq1, hq2, hq3⟩ := hq
  have hq2 := hq2.symm
  have hq3 := hq3.symm
  subst hq1 hq2 hq3
  refine s_ifne C (d_of DX9_slips 2 rfl) rfl (fun hc => ?_) (fun hc => ?_)
  · have h := h.1 (b2i_n0 hc)
    refine s_iload_n C (d_of DX9_slips 5 rfl) rfl ?_
    refine s_iconst C (d_of DX9_slips 6 rfl) (by decide) ?_
    refine s_bipush C (d_of DX9_slips 7 rfl) ⟨rfl, by decide, by decide⟩ ?_
    refine s_callS (av := [(0, l2), (0, 0), (0, 9)]) (rest := []) (mc := 0) (ms := 0) C (d_of DX9_slips 8 rfl) lk_X9_95 rfl rfl (Nat.le_of_ble_eq_true rfl) (by decide) (by decide) (pc_X9_within) (fun z2 wz2 Mz2 hq => ?_)
    obtain ⟨hq1, hq2, hq3⟩ := hq
    have hq2 := hq2.symm
    have hq3 := hq3.symm
    subst hq1 hq2 hq3
    refine s_ifeq C (d_of DX9_slips 9 rfl) rfl (fun hc => ?_) (fun hc => ?_)
    · have h := h.1 (b2i_0.mp hc)
      refine s_bipush C (d_of DX9_slips 15 rfl) ⟨rfl, by decide, by decide⟩ ?_
      exact s_ireturn C (d_of DX9_slips 16 rfl) h
    · have h := h.2 (b2i_n0 hc)
      refine s_iload_n C (d_of DX9_slips 10 rfl) rfl ?_
      refine s_iconst C (d_of DX9_slips 11 rfl) (by decide) ?_
      refine s_bipush C (d_of DX9_slips 12 rfl) ⟨rfl, by decide, by decide⟩ ?_
      refine s_callS (av := [(0, l3), (0, 0), (0, 100)]) (rest := []) (mc := 0) (ms := 0) C (d_of DX9_slips 13 rfl) lk_X9_95 rfl rfl (Nat.le_of_ble_eq_true rfl) (by decide) (by decide) (pc_X9_within) (fun z3 wz3 Mz3 hq => ?_)
      obtain ⟨hq1, hq2, hq3⟩ := hq
      have hq2 := hq2.symm
      have hq3 := hq3.symm
      subst hq1 hq2 hq3
      refine s_ifne C (d_of DX9_slips 14 rfl) rfl (fun hc => ?_) (fun hc => ?_)
      · have h := h.1 (b2i_n0 hc)
        refine s_aload_n C (d_of DX9_slips 17 rfl) rfl ?_
        refine WA.fix (fun hF4 => ?_)
        refine gf_X9_79 C (sh_1 hF4) (d_of DX9_slips 18 rfl) (fx_1_14 hF4) ?_
        refine s_iload_n C (d_of DX9_slips 19 rfl) rfl ?_
        obtain ⟨o5, h⟩ := h
        obtain ⟨o6, h⟩ := h
        refine s_aald (v0 := (M 19 l1)) (t0 := 7) C (sh_19 hF4) (by decide) rfl o5 o6 (d_of DX9_slips 20 rfl) rfl ?_
        obtain ⟨o7, h⟩ := h
        have hd8 := FixA.dy (t := 8) (n := 4) (k := 2) (m := 10) hF4 (by decide) o7
        refine gf_X9_289 C o7 (d_of DX9_slips 21 rfl) hd8.1 ?_
        refine s_iload_n C (d_of DX9_slips 22 rfl) rfl ?_
        obtain ⟨o9, h⟩ := h
        obtain ⟨o10, h⟩ := h
        refine s_iald (v0 := (M ((M 19 l1) + 1) l2)) C hd8.2 o9 o10 (d_of DX9_slips 23 rfl) rfl ?_
        refine s_istore (ls' := [(2, 1), (0, l1), (0, l2), (0, l3), (0, (M ((M 19 l1) + 1) l2))]) C (d_of DX9_slips 24 rfl) (by decide) rfl rfl ?_
        refine s_aload_n C (d_of DX9_slips 25 rfl) rfl ?_
        refine gf_X9_79 C (sh_1 hF4) (d_of DX9_slips 26 rfl) (fx_1_14 hF4) ?_
        refine s_iload_n C (d_of DX9_slips 27 rfl) rfl ?_
        refine s_aald (v0 := (M 19 l1)) (t0 := 7) C (sh_19 hF4) (by decide) rfl o5 o6 (d_of DX9_slips 28 rfl) rfl ?_
        have hd11 := FixA.dy (t := 8) (n := 4) (k := 2) (m := 10) hF4 (by decide) o7
        refine gf_X9_289 C o7 (d_of DX9_slips 29 rfl) hd11.1 ?_
        refine s_iload_n C (d_of DX9_slips 30 rfl) rfl ?_
        refine s_iload_n C (d_of DX9_slips 31 rfl) rfl ?_
        refine s_iast C hd11.2 o9 o10 (fun _ => by decide) (d_of DX9_slips 32 rfl) ?_
        refine s_iload C (d_of DX9_slips 33 rfl) rfl ?_
        exact s_ireturn C (d_of DX9_slips 34 rfl) h
      · have h := h.2 (b2i_nn hc)
        refine s_bipush C (d_of DX9_slips 15 rfl) ⟨rfl, by decide, by decide⟩ ?_
        exact s_ireturn C (d_of DX9_slips 16 rfl) h
  · have h := h.2 (b2i_nn hc)
    refine s_iconst C (d_of DX9_slips 3 rfl) (by decide) ?_
    exact s_ireturn C (d_of DX9_slips 4 rfl) h
theorem E_X9_slips {G : GP} {l : Launch} {P : Int → NS → MM → Prop} {l1 : Int} {l2 : Int} {l3 : Int} {w : NS} {M : MM} (h : inR l1 → inR l2 → inR l3 → ∀ X : BX, X.2.1 = l → CX_X9_slips G X → A_X9_slips_0 G X P l1 l2 l3 w M) : CT_X9_slips G l [(2, 1), (0, l1), (0, l2), (0, l3)] w M P :=
  CT.of RX9 "slips" (by decide +kernel) rfl rfl rfl (Nat.le_of_ble_eq_true rfl) (fun hr X hX C => h (hr (0, l1) (by simp)) (hr (0, l2) (by simp)) (hr (0, l3) (by simp)) X hX C)
def A_X5_giveAll_0 (G : GP) (X : BX) (P : Int → NS → MM → Prop) (l1 : Int) (l2 : Int) (w : NS) (M : MM) : Prop := WA true G X (QM G X true 4 P) 7 0 [(2, 20), (0, l1), (0, l2), (3, 0), (3, 0), (3, 0), (3, 0)] [] 0 0 w M
def A_X5_giveAll_9 (G : GP) (X : BX) (P : Int → NS → MM → Prop) (l1 : Int) (l2 : Int) (l3 : Int) (w : NS) (M : MM) : Prop := WA true G X (QM G X true 4 P) 7 9 [(2, 20), (0, l1), (0, l2), (0, l3), (3, 0), (3, 0), (3, 0)] [] 0 0 w M
def A_X5_giveAll_42 (G : GP) (X : BX) (P : Int → NS → MM → Prop) (l1 : Int) (l2 : Int) (l3 : Int) (l4 : Int) (l6 : Int) (w : NS) (M : MM) : Prop := WA true G X (QM G X true 4 P) 7 42 [(2, 20), (0, l1), (0, l2), (0, l3), (1, l4), (3, 0), (0, l6)] [] 0 0 w M
set_option maxHeartbeats 4000000 in
set_option maxRecDepth 100000 in
theorem B_X5_giveAll_0 {G : GP} {X : BX} {P : Int → NS → MM → Prop} {l1 : Int} {l2 : Int} {w : NS} {M : MM} (C : CX_X5_giveAll G X) (h : A_X5_giveAll_9 G X P l1 l2 0 w (up M 23 0 0)) : A_X5_giveAll_0 G X P l1 l2 w M := by
  unfold A_X5_giveAll_0
  refine s_aload_n C (d_of DX5_giveAll 0 rfl) rfl ?_
  refine WA.fix (fun hF1 => ?_)
  refine gf_X5_19 C (sh_20 hF1) (d_of DX5_giveAll 1 rfl) (fx_20_2 hF1) ?_
  refine s_iconst C (d_of DX5_giveAll 2 rfl) (by decide) ?_
  refine s_lconst (z := 0) C (d_of DX5_giveAll 3 rfl) ⟨rfl, by decide⟩ ?_
  refine s_last C (sh_23 hF1) (by decide) (by decide) (fun _ => by decide) (d_of DX5_giveAll 4 rfl) ?_
  refine s_iconst C (d_of DX5_giveAll 5 rfl) (by decide) ?_
  refine s_istore_n (ls' := [(2, 20), (0, l1), (0, l2), (0, 0), (3, 0), (3, 0), (3, 0)]) C (d_of DX5_giveAll 6 rfl) (by decide) rfl rfl ?_
  exact h
set_option maxHeartbeats 4000000 in
set_option maxRecDepth 100000 in
theorem B_X5_giveAll_9 {G : GP} {X : BX} {P : Int → NS → MM → Prop} {l1 : Int} {l2 : Int} {l3 : Int} {w : NS} {M : MM} (C : CX_X5_giveAll G X) (h : (((8 ≤ l3) → P 0 w M) ∧ ((¬ (8 ≤ l3)) → (0 ≤ l3) ∧ (l3 < 8) ∧ (inL ((M 21 l3) * 390625)) ∧ (inR (l1 * (PUf l3.toNat))) ∧ (inL (((M 21 l3) * 390625) + (l1 * (PUf l3.toNat)))) ∧ A_X5_giveAll_42 G X P l1 l2 l3 (((M 21 l3) * 390625) + (l1 * (PUf l3.toNat))) (zshl 1 l3) w M))) : A_X5_giveAll_9 G X P l1 l2 l3 w M := by
  unfold A_X5_giveAll_9
  refine s_iload_n C (d_of DX5_giveAll 7 rfl) rfl ?_
  refine s_bipush C (d_of DX5_giveAll 8 rfl) ⟨rfl, by decide, by decide⟩ ?_
  refine s_icmpge C (d_of DX5_giveAll 9 rfl) rfl (fun hc => ?_) (fun hc => ?_)
  · have h := h.1 hc
    exact s_vreturn C (d_of DX5_giveAll 55 rfl) h
  · have h := h.2 hc
    refine s_aload_n C (d_of DX5_giveAll 10 rfl) rfl ?_
    refine WA.fix (fun hF1 => ?_)
    refine gf_X5_9 C (sh_20 hF1) (d_of DX5_giveAll 11 rfl) (fx_20_0 hF1) ?_
    refine s_iload_n C (d_of DX5_giveAll 12 rfl) rfl ?_
    obtain ⟨o2, h⟩ := h
    obtain ⟨o3, h⟩ := h
    refine s_iald (v0 := (M 21 l3)) C (sh_21 hF1) o2 o3 (d_of DX5_giveAll 13 rfl) rfl ?_
    refine s_i2l C (d_of DX5_giveAll 14 rfl) ?_
    refine s_ldc2 (z := 390625) C (d_of DX5_giveAll 15 rfl) (mG (wd_700) rfl) ⟨rfl, by decide⟩ ?_
    obtain ⟨o4, h⟩ := h
    refine s_lmul C (d_of DX5_giveAll 16 rfl) o4 ?_
    refine s_iload_n C (d_of DX5_giveAll 17 rfl) rfl ?_
    refine s_gets (e := 3) C (by decide) C.2.2.2.2.2.2.1.2.2.1 (mG (wd_701) rfl) (d_of DX5_giveAll 18 rfl) ?_
    refine s_iload_n C (d_of DX5_giveAll 19 rfl) rfl ?_
    refine s_tald (e := 3) C (by decide) C.2.2.2.2.2.2.1.2.2.2 PUf_r o2 o3 (d_of DX5_giveAll 20 rfl) ?_
    obtain ⟨o5, h⟩ := h
    refine s_imul C (d_of DX5_giveAll 21 rfl) o5 ?_
    refine s_i2l C (d_of DX5_giveAll 22 rfl) ?_
    obtain ⟨o6, h⟩ := h
    refine s_ladd C (d_of DX5_giveAll 23 rfl) o6 ?_
    refine s_lstore (ls' := [(2, 20), (0, l1), (0, l2), (0, l3), (1, (((M 21 l3) * 390625) + (l1 * (PUf l3.toNat)))), (3, 0), (3, 0)]) C (d_of DX5_giveAll 24 rfl) (by decide) rfl rfl ?_
    refine s_iconst C (d_of DX5_giveAll 25 rfl) (by decide) ?_
    refine s_iload_n C (d_of DX5_giveAll 26 rfl) rfl ?_
    refine s_ishl C (d_of DX5_giveAll 27 rfl) ?_
    refine s_istore (ls' := [(2, 20), (0, l1), (0, l2), (0, l3), (1, (((M 21 l3) * 390625) + (l1 * (PUf l3.toNat)))), (3, 0), (0, (zshl 1 l3))]) C (d_of DX5_giveAll 28 rfl) (by decide) rfl rfl ?_
    exact h
set_option maxHeartbeats 4000000 in
set_option maxRecDepth 100000 in
theorem B_X5_giveAll_42 {G : GP} {X : BX} {P : Int → NS → MM → Prop} {l1 : Int} {l2 : Int} {l3 : Int} {l4 : Int} {l6 : Int} {w : NS} {M : MM} (C : CX_X5_giveAll G X) (h : ((((zshl 2 l3) ≤ l6) → (inR (l3 + 1)) ∧ A_X5_giveAll_9 G X P l1 l2 (l3 + 1) w M) ∧ ((¬ ((zshl 2 l3) ≤ l6)) → (((l2 < l6) → (inR (l3 + 1)) ∧ A_X5_giveAll_9 G X P l1 l2 (l3 + 1) w M) ∧ ((¬ (l2 < l6)) → (0 ≤ (zxor l6 (zshl 1 l3))) ∧ ((zxor l6 (zshl 1 l3)) < 256) ∧ (inL ((M 23 (zxor l6 (zshl 1 l3))) + l4)) ∧ (0 ≤ l6) ∧ (l6 < 256) ∧ (inR (l6 + 1)) ∧ A_X5_giveAll_42 G X P l1 l2 l3 l4 (l6 + 1) w (up M 23 l6 ((M 23 (zxor l6 (zshl 1 l3))) + l4))))))) : A_X5_giveAll_42 G X P l1 l2 l3 l4 l6 w M := by
  unfold A_X5_giveAll_42
  refine s_iload C (d_of DX5_giveAll 29 rfl) rfl ?_
  refine s_iconst C (d_of DX5_giveAll 30 rfl) (by decide) ?_
  refine s_iload_n C (d_of DX5_giveAll 31 rfl) rfl ?_
  refine s_ishl C (d_of DX5_giveAll 32 rfl) ?_
  refine s_icmpge C (d_of DX5_giveAll 33 rfl) rfl (fun hc => ?_) (fun hc => ?_)
  · have h := h.1 hc
    obtain ⟨o1, h⟩ := h
    refine s_iinc (ls' := [(2, 20), (0, l1), (0, l2), (0, (l3 + 1)), (1, l4), (3, 0), (0, l6)]) C (d_of DX5_giveAll 53 rfl) (by decide) rfl o1 rfl rfl ?_
    refine s_goto C (d_of DX5_giveAll 54 rfl) rfl ?_
    exact WA.wk h ⟨Or.inr rfl, Or.inr rfl, Or.inr rfl, Or.inr rfl, Or.inl rfl, Or.inl rfl, Or.inl rfl, trivial⟩
  · have h := h.2 hc
    refine s_iload C (d_of DX5_giveAll 34 rfl) rfl ?_
    refine s_iload_n C (d_of DX5_giveAll 35 rfl) rfl ?_
    refine s_icmpgt C (d_of DX5_giveAll 36 rfl) rfl (fun hc => ?_) (fun hc => ?_)
    · have h := h.1 hc
      obtain ⟨o2, h⟩ := h
      refine s_iinc (ls' := [(2, 20), (0, l1), (0, l2), (0, (l3 + 1)), (1, l4), (3, 0), (0, l6)]) C (d_of DX5_giveAll 53 rfl) (by decide) rfl o2 rfl rfl ?_
      refine s_goto C (d_of DX5_giveAll 54 rfl) rfl ?_
      exact WA.wk h ⟨Or.inr rfl, Or.inr rfl, Or.inr rfl, Or.inr rfl, Or.inl rfl, Or.inl rfl, Or.inl rfl, trivial⟩
    · have h := h.2 hc
      refine s_aload_n C (d_of DX5_giveAll 37 rfl) rfl ?_
      refine WA.fix (fun hF3 => ?_)
      refine gf_X5_19 C (sh_20 hF3) (d_of DX5_giveAll 38 rfl) (fx_20_2 hF3) ?_
      refine s_iload C (d_of DX5_giveAll 39 rfl) rfl ?_
      refine s_aload_n C (d_of DX5_giveAll 40 rfl) rfl ?_
      refine gf_X5_19 C (sh_20 hF3) (d_of DX5_giveAll 41 rfl) (fx_20_2 hF3) ?_
      refine s_iload C (d_of DX5_giveAll 42 rfl) rfl ?_
      refine s_iconst C (d_of DX5_giveAll 43 rfl) (by decide) ?_
      refine s_iload_n C (d_of DX5_giveAll 44 rfl) rfl ?_
      refine s_ishl C (d_of DX5_giveAll 45 rfl) ?_
      refine s_ixor C (d_of DX5_giveAll 46 rfl) ?_
      obtain ⟨o4, h⟩ := h
      obtain ⟨o5, h⟩ := h
      refine s_lald (v0 := (M 23 (zxor l6 (zshl 1 l3)))) C (sh_23 hF3) o4 o5 (d_of DX5_giveAll 47 rfl) rfl ?_
      refine s_lload C (d_of DX5_giveAll 48 rfl) rfl ?_
      obtain ⟨o6, h⟩ := h
      refine s_ladd C (d_of DX5_giveAll 49 rfl) o6 ?_
      obtain ⟨o7, h⟩ := h
      obtain ⟨o8, h⟩ := h
      refine s_last C (sh_23 hF3) o7 o8 (fun _ => by decide) (d_of DX5_giveAll 50 rfl) ?_
      obtain ⟨o9, h⟩ := h
      refine s_iinc (ls' := [(2, 20), (0, l1), (0, l2), (0, l3), (1, l4), (3, 0), (0, (l6 + 1))]) C (d_of DX5_giveAll 51 rfl) (by decide) rfl o9 rfl rfl ?_
      refine s_goto C (d_of DX5_giveAll 52 rfl) rfl ?_
      exact h
theorem E_X5_giveAll {G : GP} {l : Launch} {P : Int → NS → MM → Prop} {l1 : Int} {l2 : Int} {w : NS} {M : MM} (h : inR l1 → inR l2 → ∀ X : BX, X.2.1 = l → CX_X5_giveAll G X → A_X5_giveAll_0 G X P l1 l2 w M) : CT_X5_giveAll G l [(2, 20), (0, l1), (0, l2)] w M P :=
  CT.of RX5 "giveAll" (by decide +kernel) rfl rfl rfl (Nat.le_of_ble_eq_true rfl) (fun hr X hX C => h (hr (0, l1) (by simp)) (hr (0, l2) (by simp)) X hX C)
def A_X5_leaveUnread_0 (G : GP) (X : BX) (P : Int → NS → MM → Prop) (l1 : Int) (w : NS) (M : MM) : Prop := WA true G X (QM G X true 4 P) 3 0 [(2, 20), (0, l1), (3, 0)] [] 0 0 w M
def A_X5_leaveUnread_8 (G : GP) (X : BX) (P : Int → NS → MM → Prop) (l1 : Int) (l2 : Int) (w : NS) (M : MM) : Prop := WA true G X (QM G X true 4 P) 3 8 [(2, 20), (0, l1), (0, l2)] [] 0 0 w M
set_option maxHeartbeats 4000000 in
set_option maxRecDepth 100000 in
theorem B_X5_leaveUnread_0 {G : GP} {X : BX} {P : Int → NS → MM → Prop} {l1 : Int} {w : NS} {M : MM} (C : CX_X5_leaveUnread G X) (h : ∃ Q2 : Int → NS → MM → Prop, CT_X5_giveAll G X.2.1 [(2, 20), (0, 4), (0, l1)] w M Q2 ∧ ∀ (z2 : Int) (w2 : NS) (M2 : MM), Q2 z2 w2 M2 → A_X5_leaveUnread_8 G X P l1 0 w2 M2) : A_X5_leaveUnread_0 G X P l1 w M := by
  unfold A_X5_leaveUnread_0
  refine s_aload_n C (d_of DX5_leaveUnread 0 rfl) rfl ?_
  refine s_iconst C (d_of DX5_leaveUnread 1 rfl) (by decide) ?_
  refine s_iload_n C (d_of DX5_leaveUnread 2 rfl) rfl ?_
  refine WA.fix (fun hF1 => ?_)
  obtain ⟨Q2, hKQ2, h⟩ := h
  refine s_callV (ci := 5) (av := [(0, 4), (0, l1)]) (rest := []) (mc := 0) (ms := 0) C (d_of DX5_leaveUnread 3 rfl) lk_X5_22 (sh_20 hF1) (by decide) rfl rfl rfl (Nat.le_of_ble_eq_true rfl) (by decide) (by decide) hKQ2 (fun z2 w2 M2 hq => ?_)
  have h := h z2 w2 M2 hq
  refine s_iconst C (d_of DX5_leaveUnread 4 rfl) (by decide) ?_
  refine s_istore_n (ls' := [(2, 20), (0, l1), (0, 0)]) C (d_of DX5_leaveUnread 5 rfl) (by decide) rfl rfl ?_
  exact h
set_option maxHeartbeats 4000000 in
set_option maxRecDepth 100000 in
theorem B_X5_leaveUnread_8 {G : GP} {X : BX} {P : Int → NS → MM → Prop} {l1 : Int} {l2 : Int} {w : NS} {M : MM} (C : CX_X5_leaveUnread G X) (h : (((l1 < l2) → P 0 w M) ∧ ((¬ (l1 < l2)) → (0 ≤ l2) ∧ (l2 < 256) ∧ (inR (l2 + 1)) ∧ A_X5_leaveUnread_8 G X P l1 (l2 + 1) w (up M 22 l2 (M 23 l2))))) : A_X5_leaveUnread_8 G X P l1 l2 w M := by
  unfold A_X5_leaveUnread_8
  refine s_iload_n C (d_of DX5_leaveUnread 6 rfl) rfl ?_
  refine s_iload_n C (d_of DX5_leaveUnread 7 rfl) rfl ?_
  refine s_icmpgt C (d_of DX5_leaveUnread 8 rfl) rfl (fun hc => ?_) (fun hc => ?_)
  · have h := h.1 hc
    exact s_vreturn C (d_of DX5_leaveUnread 19 rfl) h
  · have h := h.2 hc
    refine s_aload_n C (d_of DX5_leaveUnread 9 rfl) rfl ?_
    refine WA.fix (fun hF1 => ?_)
    refine gf_X5_15 C (sh_20 hF1) (d_of DX5_leaveUnread 10 rfl) (fx_20_1 hF1) ?_
    refine s_iload_n C (d_of DX5_leaveUnread 11 rfl) rfl ?_
    refine s_aload_n C (d_of DX5_leaveUnread 12 rfl) rfl ?_
    refine gf_X5_19 C (sh_20 hF1) (d_of DX5_leaveUnread 13 rfl) (fx_20_2 hF1) ?_
    refine s_iload_n C (d_of DX5_leaveUnread 14 rfl) rfl ?_
    obtain ⟨o2, h⟩ := h
    obtain ⟨o3, h⟩ := h
    refine s_lald (v0 := (M 23 l2)) C (sh_23 hF1) o2 o3 (d_of DX5_leaveUnread 15 rfl) rfl ?_
    refine s_last C (sh_22 hF1) o2 o3 (fun _ => by decide) (d_of DX5_leaveUnread 16 rfl) ?_
    obtain ⟨o4, h⟩ := h
    refine s_iinc (ls' := [(2, 20), (0, l1), (0, (l2 + 1))]) C (d_of DX5_leaveUnread 17 rfl) (by decide) rfl o4 rfl rfl ?_
    refine s_goto C (d_of DX5_leaveUnread 18 rfl) rfl ?_
    exact h
theorem E_X5_leaveUnread {G : GP} {l : Launch} {P : Int → NS → MM → Prop} {l1 : Int} {w : NS} {M : MM} (h : inR l1 → ∀ X : BX, X.2.1 = l → CX_X5_leaveUnread G X → A_X5_leaveUnread_0 G X P l1 w M) : CT_X5_leaveUnread G l [(2, 20), (0, l1)] w M P :=
  CT.of RX5 "leaveUnread" (by decide +kernel) rfl rfl rfl (Nat.le_of_ble_eq_true rfl) (fun hr X hX C => h (hr (0, l1) (by simp)) X hX C)
def A_X5_offerTo_0 (G : GP) (X : BX) (P : Int → NS → MM → Prop) (l1 : Int) (l2 : Int) (l3 : Int) (w : NS) (M : MM) : Prop := WA true G X (QM G X true 4 P) 6 0 [(2, 20), (2, l1), (0, l2), (0, l3), (3, 0), (3, 0)] [] 0 0 w M
def A_X5_offerTo_9 (G : GP) (X : BX) (P : Int → NS → MM → Prop) (l1 : Int) (l3 : Int) (l4 : Int) (w : NS) (M : MM) : Prop := WA true G X (QM G X true 4 P) 6 9 [(2, 20), (2, l1), (3, 0), (0, l3), (0, l4), (3, 0)] [] 0 0 w M
def A_X5_offerTo_18 (G : GP) (X : BX) (P : Int → NS → MM → Prop) (l1 : Int) (l3 : Int) (l4 : Int) (l5 : Int) (w : NS) (M : MM) : Prop := WA true G X (QM G X true 4 P) 6 18 [(2, 20), (2, l1), (3, 0), (0, l3), (0, l4), (0, l5)] [] 0 0 w M
set_option maxHeartbeats 4000000 in
set_option maxRecDepth 100000 in
theorem B_X5_offerTo_0 {G : GP} {X : BX} {P : Int → NS → MM → Prop} {l1 : Int} {l2 : Int} {l3 : Int} {w : NS} {M : MM} (C : CX_X5_offerTo G X) (h : ∃ Q2 : Int → NS → MM → Prop, CT_X5_giveAll G X.2.1 [(2, 20), (0, l2), (0, l3)] w M Q2 ∧ ∀ (z2 : Int) (w2 : NS) (M2 : MM), Q2 z2 w2 M2 → A_X5_offerTo_9 G X P l1 l3 l3 w2 M2) : A_X5_offerTo_0 G X P l1 l2 l3 w M := by
  unfold A_X5_offerTo_0
  refine s_aload_n C (d_of DX5_offerTo 0 rfl) rfl ?_
  refine s_iload_n C (d_of DX5_offerTo 1 rfl) rfl ?_
  refine s_iload_n C (d_of DX5_offerTo 2 rfl) rfl ?_
  refine WA.fix (fun hF1 => ?_)
  obtain ⟨Q2, hKQ2, h⟩ := h
  refine s_callV (ci := 5) (av := [(0, l2), (0, l3)]) (rest := []) (mc := 0) (ms := 0) C (d_of DX5_offerTo 3 rfl) lk_X5_22 (sh_20 hF1) (by decide) rfl rfl rfl (Nat.le_of_ble_eq_true rfl) (by decide) (by decide) hKQ2 (fun z2 w2 M2 hq => ?_)
  have h := h z2 w2 M2 hq
  refine s_iload_n C (d_of DX5_offerTo 4 rfl) rfl ?_
  refine s_istore (ls' := [(2, 20), (2, l1), (0, l2), (0, l3), (0, l3), (3, 0)]) C (d_of DX5_offerTo 5 rfl) (by decide) rfl rfl ?_
  exact WA.wk h ⟨Or.inr rfl, Or.inr rfl, Or.inl rfl, Or.inr rfl, Or.inr rfl, Or.inl rfl, trivial⟩
set_option maxHeartbeats 4000000 in
set_option maxRecDepth 100000 in
theorem B_X5_offerTo_9 {G : GP} {X : BX} {P : Int → NS → MM → Prop} {l1 : Int} {l3 : Int} {l4 : Int} {w : NS} {M : MM} (C : CX_X5_offerTo G X) (h : (((l4 ≤ 0) → P 0 w M) ∧ ((¬ (l4 ≤ 0)) → A_X5_offerTo_18 G X P l1 l3 l4 l4 w M))) : A_X5_offerTo_9 G X P l1 l3 l4 w M := by
  unfold A_X5_offerTo_9
  refine s_iload C (d_of DX5_offerTo 6 rfl) rfl ?_
  refine s_ifle C (d_of DX5_offerTo 7 rfl) rfl (fun hc => ?_) (fun hc => ?_)
  · have h := h.1 hc
    exact s_vreturn C (d_of DX5_offerTo 54 rfl) h
  · have h := h.2 hc
    refine s_iload C (d_of DX5_offerTo 8 rfl) rfl ?_
    refine s_istore (ls' := [(2, 20), (2, l1), (3, 0), (0, l3), (0, l4), (0, l4)]) C (d_of DX5_offerTo 9 rfl) (by decide) rfl rfl ?_
    exact h
set_option maxHeartbeats 4000000 in
set_option maxRecDepth 100000 in
theorem B_X5_offerTo_18 {G : GP} {X : BX} {P : Int → NS → MM → Prop} {l1 : Int} {l3 : Int} {l4 : Int} {l5 : Int} {w : NS} {M : MM} (C : CX_X5_offerTo G X) (h : (((l5 ≤ 0) → (inR (l4 - 1)) ∧ A_X5_offerTo_9 G X P l1 l3 (zand (l4 - 1) l3) w M) ∧ ((¬ (l5 ≤ 0)) → (0 ≤ l5) ∧ (l5 < 16777216) ∧ (w.2 l1 = (8, 4)) ∧ (inR ((popc l5) * (M l1 0))) ∧ ((((M l1 1) < ((popc l5) * (M l1 0))) → (inR (l5 - 1)) ∧ A_X5_offerTo_18 G X P l1 l3 l4 (zand (l5 - 1) l4) w M) ∧ ((¬ ((M l1 1) < ((popc l5) * (M l1 0)))) → (0 ≤ l4) ∧ (l4 < 256) ∧ (l5 < 256) ∧ (0 ≤ (zxor l4 l5)) ∧ ((zxor l4 l5) < 256) ∧ (inL ((M 23 l5) + (M 22 (zxor l4 l5)))) ∧ (inR (l5 - 1)) ∧ A_X5_offerTo_18 G X P l1 l3 l4 (zand (l5 - 1) l4) w (up M 22 l4 (min (M 22 l4) ((M 23 l5) + (M 22 (zxor l4 l5)))))))))) : A_X5_offerTo_18 G X P l1 l3 l4 l5 w M := by
  unfold A_X5_offerTo_18
  refine s_iload C (d_of DX5_offerTo 10 rfl) rfl ?_
  refine s_ifle C (d_of DX5_offerTo 11 rfl) rfl (fun hc => ?_) (fun hc => ?_)
  · have h := h.1 hc
    refine s_iload C (d_of DX5_offerTo 47 rfl) rfl ?_
    refine s_iconst C (d_of DX5_offerTo 48 rfl) (by decide) ?_
    obtain ⟨o1, h⟩ := h
    refine s_isub C (d_of DX5_offerTo 49 rfl) o1 ?_
    refine s_iload_n C (d_of DX5_offerTo 50 rfl) rfl ?_
    refine s_iand C (d_of DX5_offerTo 51 rfl) ?_
    refine s_istore (ls' := [(2, 20), (2, l1), (3, 0), (0, l3), (0, (zand (l4 - 1) l3)), (0, l5)]) C (d_of DX5_offerTo 52 rfl) (by decide) rfl rfl ?_
    refine s_goto C (d_of DX5_offerTo 53 rfl) rfl ?_
    exact WA.wk h ⟨Or.inr rfl, Or.inr rfl, Or.inl rfl, Or.inr rfl, Or.inr rfl, Or.inl rfl, trivial⟩
  · have h := h.2 hc
    refine s_iload C (d_of DX5_offerTo 12 rfl) rfl ?_
    obtain ⟨o2, h⟩ := h
    obtain ⟨o3, h⟩ := h
    refine s_callS (av := [(0, l5)]) (rest := []) (mc := 0) (ms := 0) C (d_of DX5_offerTo 13 rfl) lk_X5_26 rfl rfl (Nat.le_of_ble_eq_true rfl) (by decide) (by decide) (pc_J6_bitCount o2 o3) (fun z4 wz4 Mz4 hq => ?_)
    obtain ⟨hq1, hq2, hq3⟩ := hq
    have hq2 := hq2.symm
    have hq3 := hq3.symm
    subst hq1 hq2 hq3
    refine s_aload_n C (d_of DX5_offerTo 14 rfl) rfl ?_
    obtain ⟨o5, h⟩ := h
    refine gf_X5_32 (v0 := (M l1 0)) C o5 (d_of DX5_offerTo 15 rfl) rfl ?_
    obtain ⟨o6, h⟩ := h
    refine s_imul C (d_of DX5_offerTo 16 rfl) o6 ?_
    refine s_aload_n C (d_of DX5_offerTo 17 rfl) rfl ?_
    refine gf_X5_38 (v0 := (M l1 1)) C o5 (d_of DX5_offerTo 18 rfl) rfl ?_
    refine s_icmpgt C (d_of DX5_offerTo 19 rfl) rfl (fun hc => ?_) (fun hc => ?_)
    · have h := h.1 hc
      refine s_iload C (d_of DX5_offerTo 40 rfl) rfl ?_
      refine s_iconst C (d_of DX5_offerTo 41 rfl) (by decide) ?_
      obtain ⟨o7, h⟩ := h
      refine s_isub C (d_of DX5_offerTo 42 rfl) o7 ?_
      refine s_iload C (d_of DX5_offerTo 43 rfl) rfl ?_
      refine s_iand C (d_of DX5_offerTo 44 rfl) ?_
      refine s_istore (ls' := [(2, 20), (2, l1), (3, 0), (0, l3), (0, l4), (0, (zand (l5 - 1) l4))]) C (d_of DX5_offerTo 45 rfl) (by decide) rfl rfl ?_
      refine s_goto C (d_of DX5_offerTo 46 rfl) rfl ?_
      exact h
    · have h := h.2 hc
      refine s_aload_n C (d_of DX5_offerTo 20 rfl) rfl ?_
      refine WA.fix (fun hF8 => ?_)
      refine gf_X5_15 C (sh_20 hF8) (d_of DX5_offerTo 21 rfl) (fx_20_1 hF8) ?_
      refine s_iload C (d_of DX5_offerTo 22 rfl) rfl ?_
      refine s_aload_n C (d_of DX5_offerTo 23 rfl) rfl ?_
      refine gf_X5_15 C (sh_20 hF8) (d_of DX5_offerTo 24 rfl) (fx_20_1 hF8) ?_
      refine s_iload C (d_of DX5_offerTo 25 rfl) rfl ?_
      obtain ⟨o9, h⟩ := h
      obtain ⟨o10, h⟩ := h
      refine s_lald (v0 := (M 22 l4)) C (sh_22 hF8) o9 o10 (d_of DX5_offerTo 26 rfl) rfl ?_
      refine s_aload_n C (d_of DX5_offerTo 27 rfl) rfl ?_
      refine gf_X5_19 C (sh_20 hF8) (d_of DX5_offerTo 28 rfl) (fx_20_2 hF8) ?_
      refine s_iload C (d_of DX5_offerTo 29 rfl) rfl ?_
      obtain ⟨o11, h⟩ := h
      refine s_lald (v0 := (M 23 l5)) C (sh_23 hF8) o2 o11 (d_of DX5_offerTo 30 rfl) rfl ?_
      refine s_aload_n C (d_of DX5_offerTo 31 rfl) rfl ?_
      refine gf_X5_15 C (sh_20 hF8) (d_of DX5_offerTo 32 rfl) (fx_20_1 hF8) ?_
      refine s_iload C (d_of DX5_offerTo 33 rfl) rfl ?_
      refine s_iload C (d_of DX5_offerTo 34 rfl) rfl ?_
      refine s_ixor C (d_of DX5_offerTo 35 rfl) ?_
      obtain ⟨o12, h⟩ := h
      obtain ⟨o13, h⟩ := h
      refine s_lald (v0 := (M 22 (zxor l4 l5))) C (sh_22 hF8) o12 o13 (d_of DX5_offerTo 36 rfl) rfl ?_
      obtain ⟨o14, h⟩ := h
      refine s_ladd C (d_of DX5_offerTo 37 rfl) o14 ?_
      refine s_lmin (st := [(0, l4), (2, 22)]) C (d_of DX5_offerTo 38 rfl) wd_708 (Nat.le_of_ble_eq_true rfl) (by decide) (by decide) ?_
      refine s_last C (sh_22 hF8) o9 o10 (fun _ => by decide) (d_of DX5_offerTo 39 rfl) ?_
      refine s_iload C (d_of DX5_offerTo 40 rfl) rfl ?_
      refine s_iconst C (d_of DX5_offerTo 41 rfl) (by decide) ?_
      obtain ⟨o15, h⟩ := h
      refine s_isub C (d_of DX5_offerTo 42 rfl) o15 ?_
      refine s_iload C (d_of DX5_offerTo 43 rfl) rfl ?_
      refine s_iand C (d_of DX5_offerTo 44 rfl) ?_
      refine s_istore (ls' := [(2, 20), (2, l1), (3, 0), (0, l3), (0, l4), (0, (zand (l5 - 1) l4))]) C (d_of DX5_offerTo 45 rfl) (by decide) rfl rfl ?_
      refine s_goto C (d_of DX5_offerTo 46 rfl) rfl ?_
      exact h
theorem E_X5_offerTo {G : GP} {l : Launch} {P : Int → NS → MM → Prop} {l1 : Int} {l2 : Int} {l3 : Int} {w : NS} {M : MM} (h : inR l2 → inR l3 → ∀ X : BX, X.2.1 = l → CX_X5_offerTo G X → A_X5_offerTo_0 G X P l1 l2 l3 w M) : CT_X5_offerTo G l [(2, 20), (2, l1), (0, l2), (0, l3)] w M P :=
  CT.of RX5 "offerTo" (by decide +kernel) rfl rfl rfl (Nat.le_of_ble_eq_true rfl) (fun hr X hX C => h (hr (0, l2) (by simp)) (hr (0, l3) (by simp)) X hX C)
def A_X9_leastParting_0 (G : GP) (X : BX) (P : Int → NS → MM → Prop) (l1 : Int) (w : NS) (M : MM) : Prop := WA true G X (QM G X true 1 P) 4 0 [(2, 1), (0, l1), (3, 0), (3, 0)] [] 0 0 w M
def A_X9_leastParting_2 (G : GP) (X : BX) (P : Int → NS → MM → Prop) (l1 : Int) (l2 : Int) (w : NS) (M : MM) : Prop := WA true G X (QM G X true 1 P) 4 2 [(2, 1), (0, l1), (0, l2), (3, 0)] [] 0 0 w M
def A_X9_leastParting_41 (G : GP) (X : BX) (P : Int → NS → MM → Prop) (l1 : Int) (l2 : Int) (w : NS) (M : MM) : Prop := WA true G X (QM G X true 1 P) 4 41 [(2, 1), (0, l1), (0, l2), (3, 0)] [] 0 0 w M
def A_X9_leastParting_47 (G : GP) (X : BX) (P : Int → NS → MM → Prop) (l1 : Int) (l2 : Int) (l3 : Int) (w : NS) (M : MM) : Prop := WA true G X (QM G X true 1 P) 4 47 [(2, 1), (0, l1), (0, l2), (0, l3)] [] 0 0 w M
set_option maxHeartbeats 4000000 in
set_option maxRecDepth 100000 in
theorem B_X9_leastParting_0 {G : GP} {X : BX} {P : Int → NS → MM → Prop} {l1 : Int} {w : NS} {M : MM} (C : CX_X9_leastParting G X) (h : A_X9_leastParting_2 G X P l1 0 w M) : A_X9_leastParting_0 G X P l1 w M := by
  unfold A_X9_leastParting_0
  refine s_iconst C (d_of DX9_leastParting 0 rfl) (by decide) ?_
  refine s_istore_n (ls' := [(2, 1), (0, l1), (0, 0), (3, 0)]) C (d_of DX9_leastParting 1 rfl) (by decide) rfl rfl ?_
  exact h
set_option maxHeartbeats 4000000 in
set_option maxRecDepth 100000 in
theorem B_X9_leastParting_2 {G : GP} {X : BX} {P : Int → NS → MM → Prop} {l1 : Int} {l2 : Int} {w : NS} {M : MM} (C : CX_X9_leastParting G X) (h : ((((M 1 2) ≤ l2) → ∃ Q2 : Int → NS → MM → Prop, CT_X5_leaveUnread G X.2.1 [(2, 20), (0, l1)] w M Q2 ∧ ∀ (z2 : Int) (w2 : NS) (M2 : MM), Q2 z2 w2 M2 → A_X9_leastParting_41 G X P l1 3 w2 M2) ∧ ((¬ ((M 1 2) ≤ l2)) → (0 ≤ l2) ∧ (l2 < 8) ∧ (inR (l2 + 1)) ∧ A_X9_leastParting_2 G X P l1 (l2 + 1) w (up M 21 l2 (M 2 3))))) : A_X9_leastParting_2 G X P l1 l2 w M := by
  unfold A_X9_leastParting_2
  refine s_iload_n C (d_of DX9_leastParting 2 rfl) rfl ?_
  refine s_aload_n C (d_of DX9_leastParting 3 rfl) rfl ?_
  refine WA.fix (fun hF1 => ?_)
  refine gf_X9_19 (v0 := (M 1 2)) C (sh_1 hF1) (d_of DX9_leastParting 4 rfl) rfl ?_
  refine s_icmpge C (d_of DX9_leastParting 5 rfl) rfl (fun hc => ?_) (fun hc => ?_)
  · have h := h.1 hc
    refine s_aload_n C (d_of DX9_leastParting 17 rfl) rfl ?_
    refine gf_X9_86 C (sh_1 hF1) (d_of DX9_leastParting 18 rfl) (fx_1_15 hF1) ?_
    refine s_iload_n C (d_of DX9_leastParting 19 rfl) rfl ?_
    obtain ⟨Q2, hKQ2, h⟩ := h
    refine s_callV (ci := 5) (av := [(0, l1)]) (rest := []) (mc := 0) (ms := 0) C (d_of DX9_leastParting 20 rfl) lk_X9_347 (sh_20 hF1) (by decide) rfl rfl rfl (Nat.le_of_ble_eq_true rfl) (by decide) (by decide) hKQ2 (fun z2 w2 M2 hq => ?_)
    have h := h z2 w2 M2 hq
    refine s_iconst C (d_of DX9_leastParting 21 rfl) (by decide) ?_
    refine s_istore_n (ls' := [(2, 1), (0, l1), (0, 3), (3, 0)]) C (d_of DX9_leastParting 22 rfl) (by decide) rfl rfl ?_
    exact h
  · have h := h.2 hc
    refine s_aload_n C (d_of DX9_leastParting 6 rfl) rfl ?_
    refine gf_X9_86 C (sh_1 hF1) (d_of DX9_leastParting 7 rfl) (fx_1_15 hF1) ?_
    refine gf_X9_344 C (sh_20 hF1) (d_of DX9_leastParting 8 rfl) (fx_20_0 hF1) ?_
    refine s_iload_n C (d_of DX9_leastParting 9 rfl) rfl ?_
    refine s_aload_n C (d_of DX9_leastParting 10 rfl) rfl ?_
    refine gf_X9_7 C (sh_1 hF1) (d_of DX9_leastParting 11 rfl) (fx_1_0 hF1) ?_
    refine s_iconst C (d_of DX9_leastParting 12 rfl) (by decide) ?_
    refine s_iald (v0 := (M 2 3)) C (sh_2 hF1) (by decide) (by decide) (d_of DX9_leastParting 13 rfl) rfl ?_
    obtain ⟨o3, h⟩ := h
    obtain ⟨o4, h⟩ := h
    refine s_iast C (sh_21 hF1) o3 o4 (fun _ => by decide) (d_of DX9_leastParting 14 rfl) ?_
    obtain ⟨o5, h⟩ := h
    refine s_iinc (ls' := [(2, 1), (0, l1), (0, (l2 + 1)), (3, 0)]) C (d_of DX9_leastParting 15 rfl) (by decide) rfl o5 rfl rfl ?_
    refine s_goto C (d_of DX9_leastParting 16 rfl) rfl ?_
    exact h
set_option maxHeartbeats 4000000 in
set_option maxRecDepth 100000 in
theorem B_X9_leastParting_41 {G : GP} {X : BX} {P : Int → NS → MM → Prop} {l1 : Int} {l2 : Int} {w : NS} {M : MM} (C : CX_X9_leastParting G X) (h : (((l2 < 0) → (0 ≤ l1) ∧ (l1 < 256) ∧ P (M 22 l1) w M) ∧ ((¬ (l2 < 0)) → A_X9_leastParting_47 G X P l1 l2 0 w M))) : A_X9_leastParting_41 G X P l1 l2 w M := by
  unfold A_X9_leastParting_41
  refine s_iload_n C (d_of DX9_leastParting 23 rfl) rfl ?_
  refine s_iflt C (d_of DX9_leastParting 24 rfl) rfl (fun hc => ?_) (fun hc => ?_)
  · have h := h.1 hc
    refine s_aload_n C (d_of DX9_leastParting 60 rfl) rfl ?_
    refine WA.fix (fun hF1 => ?_)
    refine gf_X9_86 C (sh_1 hF1) (d_of DX9_leastParting 61 rfl) (fx_1_15 hF1) ?_
    refine gf_X9_355 C (sh_20 hF1) (d_of DX9_leastParting 62 rfl) (fx_20_1 hF1) ?_
    refine s_iload_n C (d_of DX9_leastParting 63 rfl) rfl ?_
    obtain ⟨o2, h⟩ := h
    obtain ⟨o3, h⟩ := h
    refine s_lald (v0 := (M 22 l1)) C (sh_22 hF1) o2 o3 (d_of DX9_leastParting 64 rfl) rfl ?_
    exact s_lreturn C (d_of DX9_leastParting 65 rfl) h
  · have h := h.2 hc
    refine s_iconst C (d_of DX9_leastParting 25 rfl) (by decide) ?_
    refine s_istore_n (ls' := [(2, 1), (0, l1), (0, l2), (0, 0)]) C (d_of DX9_leastParting 26 rfl) (by decide) rfl rfl ?_
    exact h
set_option maxHeartbeats 4000000 in
set_option maxRecDepth 100000 in
theorem B_X9_leastParting_47 {G : GP} {X : BX} {P : Int → NS → MM → Prop} {l1 : Int} {l2 : Int} {l3 : Int} {w : NS} {M : MM} (C : CX_X9_leastParting G X) (h : ((((M 1 2) ≤ l3) → (0 ≤ l2) ∧ (l2 < 4) ∧ ∃ Q4 : Int → NS → MM → Prop, CT_X5_offerTo G X.2.1 [(2, 20), (2, (M 19 l2)), (0, l2), (0, l1)] w M Q4 ∧ ∀ (z4 : Int) (w4 : NS) (M4 : MM), Q4 z4 w4 M4 → (inR (l2 + (-1))) ∧ A_X9_leastParting_41 G X P l1 (l2 + (-1)) w4 M4) ∧ ((¬ ((M 1 2) ≤ l3)) → (0 ≤ l2) ∧ (l2 < 4) ∧ (w.2 (M 19 l2) = (8, 4)) ∧ (0 ≤ l3) ∧ (l3 < 8) ∧ (w.2 (M 3 l3) = (5, 5)) ∧ (0 ≤ (M (M 3 l3) 1)) ∧ ((M (M 3 l3) 1) < 10) ∧ (inR (l3 + 1)) ∧ A_X9_leastParting_47 G X P l1 l2 (l3 + 1) w (up M 21 l3 (M ((M 19 l2) + 1) (M (M 3 l3) 1)))))) : A_X9_leastParting_47 G X P l1 l2 l3 w M := by
  unfold A_X9_leastParting_47
  refine s_iload_n C (d_of DX9_leastParting 27 rfl) rfl ?_
  refine s_aload_n C (d_of DX9_leastParting 28 rfl) rfl ?_
  refine WA.fix (fun hF1 => ?_)
  refine gf_X9_19 (v0 := (M 1 2)) C (sh_1 hF1) (d_of DX9_leastParting 29 rfl) rfl ?_
  refine s_icmpge C (d_of DX9_leastParting 30 rfl) rfl (fun hc => ?_) (fun hc => ?_)
  · have h := h.1 hc
    refine s_aload_n C (d_of DX9_leastParting 49 rfl) rfl ?_
    refine gf_X9_86 C (sh_1 hF1) (d_of DX9_leastParting 50 rfl) (fx_1_15 hF1) ?_
    refine s_aload_n C (d_of DX9_leastParting 51 rfl) rfl ?_
    refine gf_X9_79 C (sh_1 hF1) (d_of DX9_leastParting 52 rfl) (fx_1_14 hF1) ?_
    refine s_iload_n C (d_of DX9_leastParting 53 rfl) rfl ?_
    obtain ⟨o2, h⟩ := h
    obtain ⟨o3, h⟩ := h
    refine s_aald (v0 := (M 19 l2)) (t0 := 7) C (sh_19 hF1) (by decide) rfl o2 o3 (d_of DX9_leastParting 54 rfl) rfl ?_
    refine s_iload_n C (d_of DX9_leastParting 55 rfl) rfl ?_
    refine s_iload_n C (d_of DX9_leastParting 56 rfl) rfl ?_
    obtain ⟨Q4, hKQ4, h⟩ := h
    refine s_callV (ci := 5) (av := [(2, (M 19 l2)), (0, l2), (0, l1)]) (rest := []) (mc := 0) (ms := 0) C (d_of DX9_leastParting 57 rfl) lk_X9_351 (sh_20 hF1) (by decide) rfl rfl rfl (Nat.le_of_ble_eq_true rfl) (by decide) (by decide) hKQ4 (fun z4 w4 M4 hq => ?_)
    have h := h z4 w4 M4 hq
    obtain ⟨o5, h⟩ := h
    refine s_iinc (ls' := [(2, 1), (0, l1), (0, (l2 + (-1))), (0, l3)]) C (d_of DX9_leastParting 58 rfl) (by decide) rfl o5 rfl rfl ?_
    refine s_goto C (d_of DX9_leastParting 59 rfl) rfl ?_
    exact WA.wk h ⟨Or.inr rfl, Or.inr rfl, Or.inr rfl, Or.inl rfl, trivial⟩
  · have h := h.2 hc
    refine s_aload_n C (d_of DX9_leastParting 31 rfl) rfl ?_
    refine gf_X9_86 C (sh_1 hF1) (d_of DX9_leastParting 32 rfl) (fx_1_15 hF1) ?_
    refine gf_X9_344 C (sh_20 hF1) (d_of DX9_leastParting 33 rfl) (fx_20_0 hF1) ?_
    refine s_iload_n C (d_of DX9_leastParting 34 rfl) rfl ?_
    refine s_aload_n C (d_of DX9_leastParting 35 rfl) rfl ?_
    refine gf_X9_79 C (sh_1 hF1) (d_of DX9_leastParting 36 rfl) (fx_1_14 hF1) ?_
    refine s_iload_n C (d_of DX9_leastParting 37 rfl) rfl ?_
    obtain ⟨o6, h⟩ := h
    obtain ⟨o7, h⟩ := h
    refine s_aald (v0 := (M 19 l2)) (t0 := 7) C (sh_19 hF1) (by decide) rfl o6 o7 (d_of DX9_leastParting 38 rfl) rfl ?_
    obtain ⟨o8, h⟩ := h
    have hd9 := FixA.dy (t := 8) (n := 4) (k := 2) (m := 10) hF1 (by decide) o8
    refine gf_X9_289 C o8 (d_of DX9_leastParting 39 rfl) hd9.1 ?_
    refine s_aload_n C (d_of DX9_leastParting 40 rfl) rfl ?_
    refine gf_X9_15 C (sh_1 hF1) (d_of DX9_leastParting 41 rfl) (fx_1_1 hF1) ?_
    refine s_iload_n C (d_of DX9_leastParting 42 rfl) rfl ?_
    obtain ⟨o10, h⟩ := h
    obtain ⟨o11, h⟩ := h
    refine s_aald (v0 := (M 3 l3)) (t0 := 5) C (sh_3 hF1) (by decide) rfl o10 o11 (d_of DX9_leastParting 43 rfl) rfl ?_
    obtain ⟨o12, h⟩ := h
    refine gf_X9_128 (v0 := (M (M 3 l3) 1)) C o12 (d_of DX9_leastParting 44 rfl) rfl ?_
    obtain ⟨o13, h⟩ := h
    obtain ⟨o14, h⟩ := h
    refine s_iald (v0 := (M ((M 19 l2) + 1) (M (M 3 l3) 1))) C hd9.2 o13 o14 (d_of DX9_leastParting 45 rfl) rfl ?_
    refine s_iast C (sh_21 hF1) o10 o11 (fun _ => by decide) (d_of DX9_leastParting 46 rfl) ?_
    obtain ⟨o15, h⟩ := h
    refine s_iinc (ls' := [(2, 1), (0, l1), (0, l2), (0, (l3 + 1))]) C (d_of DX9_leastParting 47 rfl) (by decide) rfl o15 rfl rfl ?_
    refine s_goto C (d_of DX9_leastParting 48 rfl) rfl ?_
    exact h
theorem E_X9_leastParting {G : GP} {l : Launch} {P : Int → NS → MM → Prop} {l1 : Int} {w : NS} {M : MM} (h : inR l1 → ∀ X : BX, X.2.1 = l → CX_X9_leastParting G X → A_X9_leastParting_0 G X P l1 w M) : CT_X9_leastParting G l [(2, 1), (0, l1)] w M P :=
  CT.of RX9 "leastParting" (by decide +kernel) rfl rfl rfl (Nat.le_of_ble_eq_true rfl) (fun hr X hX C => h (hr (0, l1) (by simp)) X hX C)
def A_X5_sumOf_0 (G : GP) (X : BX) (P : Int → NS → MM → Prop) (l0 : Int) (w : NS) (M : MM) : Prop := WA true G X (QM G X true 0 P) 2 0 [(1, l0), (3, 0)] [] 0 0 w M
set_option maxHeartbeats 4000000 in
set_option maxRecDepth 100000 in
theorem B_X5_sumOf_0 {G : GP} {X : BX} {P : Int → NS → MM → Prop} {l0 : Int} {w : NS} {M : MM} (C : CX_X5_sumOf G X) (h : (0 ≤ l0) ∧ (inR (l0 / 390625)) ∧ P (l0 / 390625) w M) : A_X5_sumOf_0 G X P l0 w M := by
  unfold A_X5_sumOf_0
  refine s_lload_n C (d_of DX5_sumOf 0 rfl) rfl ?_
  refine s_ldc2 (z := 390625) C (d_of DX5_sumOf 1 rfl) (mG (wd_700) rfl) ⟨rfl, by decide⟩ ?_
  obtain ⟨o1, h⟩ := h
  refine s_ldiv C (d_of DX5_sumOf 2 rfl) o1 (by decide) ?_
  obtain ⟨o2, h⟩ := h
  refine s_l2i C (d_of DX5_sumOf 3 rfl) o2 ?_
  exact s_ireturn C (d_of DX5_sumOf 4 rfl) h
theorem E_X5_sumOf {G : GP} {l : Launch} {P : Int → NS → MM → Prop} {l0 : Int} {w : NS} {M : MM} (h : inL l0 → ∀ X : BX, X.2.1 = l → CX_X5_sumOf G X → A_X5_sumOf_0 G X P l0 w M) : CT_X5_sumOf G l [(1, l0)] w M P :=
  CT.of RX5 "sumOf" (by decide +kernel) rfl rfl rfl (Nat.le_of_ble_eq_true rfl) (fun hr X hX C => h (hr (1, l0) (by simp)) X hX C)
def A_X5_readerOf_0 (G : GP) (X : BX) (P : Int → NS → MM → Prop) (l0 : Int) (l2 : Int) (w : NS) (M : MM) : Prop := WA true G X (QM G X true 0 P) 6 0 [(1, l0), (3, 0), (0, l2), (3, 0), (3, 0), (3, 0)] [] 0 0 w M
def A_X5_readerOf_6 (G : GP) (X : BX) (P : Int → NS → MM → Prop) (l2 : Int) (l3 : Int) (l5 : Int) (w : NS) (M : MM) : Prop := WA true G X (QM G X true 0 P) 6 6 [(3, 0), (3, 0), (0, l2), (1, l3), (3, 0), (0, l5)] [] 0 0 w M
set_option maxHeartbeats 4000000 in
set_option maxRecDepth 100000 in
theorem B_X5_readerOf_0 {G : GP} {X : BX} {P : Int → NS → MM → Prop} {l0 : Int} {l2 : Int} {w : NS} {M : MM} (C : CX_X5_readerOf G X) (h : A_X5_readerOf_6 G X P l2 l0 7 w M) : A_X5_readerOf_0 G X P l0 l2 w M := by
  unfold A_X5_readerOf_0
  refine s_lload_n C (d_of DX5_readerOf 0 rfl) rfl ?_
  refine s_lstore_n (ls' := [(1, l0), (3, 0), (0, l2), (1, l0), (3, 0), (3, 0)]) C (d_of DX5_readerOf 1 rfl) (by decide) rfl rfl ?_
  refine s_bipush C (d_of DX5_readerOf 2 rfl) ⟨rfl, by decide, by decide⟩ ?_
  refine s_istore (ls' := [(1, l0), (3, 0), (0, l2), (1, l0), (3, 0), (0, 7)]) C (d_of DX5_readerOf 3 rfl) (by decide) rfl rfl ?_
  exact WA.wk h ⟨Or.inl rfl, Or.inl rfl, Or.inr rfl, Or.inr rfl, Or.inl rfl, Or.inr rfl, trivial⟩
set_option maxHeartbeats 4000000 in
set_option maxRecDepth 100000 in
theorem B_X5_readerOf_6 {G : GP} {X : BX} {P : Int → NS → MM → Prop} {l2 : Int} {l3 : Int} {l5 : Int} {w : NS} {M : MM} (C : CX_X5_readerOf G X) (h : (((l5 ≤ l2) → (0 ≤ l3) ∧ (inR (l3 % 5)) ∧ P (l3 % 5) w M) ∧ ((¬ (l5 ≤ l2)) → (0 ≤ l3) ∧ (inR (l5 + (-1))) ∧ A_X5_readerOf_6 G X P l2 (l3 / 5) (l5 + (-1)) w M))) : A_X5_readerOf_6 G X P l2 l3 l5 w M := by
  unfold A_X5_readerOf_6
  refine s_iload C (d_of DX5_readerOf 4 rfl) rfl ?_
  refine s_iload_n C (d_of DX5_readerOf 5 rfl) rfl ?_
  refine s_icmple C (d_of DX5_readerOf 6 rfl) rfl (fun hc => ?_) (fun hc => ?_)
  · have h := h.1 hc
    refine s_lload_n C (d_of DX5_readerOf 13 rfl) rfl ?_
    refine s_ldc2 (z := 5) C (d_of DX5_readerOf 14 rfl) (mG (wd_717) rfl) ⟨rfl, by decide⟩ ?_
    obtain ⟨o1, h⟩ := h
    refine s_lrem C (d_of DX5_readerOf 15 rfl) o1 (by decide) ?_
    obtain ⟨o2, h⟩ := h
    refine s_l2i C (d_of DX5_readerOf 16 rfl) o2 ?_
    exact s_ireturn C (d_of DX5_readerOf 17 rfl) h
  · have h := h.2 hc
    refine s_lload_n C (d_of DX5_readerOf 7 rfl) rfl ?_
    refine s_ldc2 (z := 5) C (d_of DX5_readerOf 8 rfl) (mG (wd_717) rfl) ⟨rfl, by decide⟩ ?_
    obtain ⟨o3, h⟩ := h
    refine s_ldiv C (d_of DX5_readerOf 9 rfl) o3 (by decide) ?_
    refine s_lstore_n (ls' := [(3, 0), (3, 0), (0, l2), (1, (l3 / 5)), (3, 0), (0, l5)]) C (d_of DX5_readerOf 10 rfl) (by decide) rfl rfl ?_
    obtain ⟨o4, h⟩ := h
    refine s_iinc (ls' := [(3, 0), (3, 0), (0, l2), (1, (l3 / 5)), (3, 0), (0, (l5 + (-1)))]) C (d_of DX5_readerOf 11 rfl) (by decide) rfl o4 rfl rfl ?_
    refine s_goto C (d_of DX5_readerOf 12 rfl) rfl ?_
    exact h
theorem E_X5_readerOf {G : GP} {l : Launch} {P : Int → NS → MM → Prop} {l0 : Int} {l2 : Int} {w : NS} {M : MM} (h : inL l0 → inR l2 → ∀ X : BX, X.2.1 = l → CX_X5_readerOf G X → A_X5_readerOf_0 G X P l0 l2 w M) : CT_X5_readerOf G l [(1, l0), (0, l2)] w M P :=
  CT.of RX5 "readerOf" (by decide +kernel) rfl rfl rfl (Nat.le_of_ble_eq_true rfl) (fun hr X hX C => h (hr (1, l0) (by simp)) (hr (0, l2) (by simp)) X hX C)
def A_X9_parted_0 (G : GP) (X : BX) (P : Int → NS → MM → Prop) (l1 : Int) (l2 : Int) (w : NS) (M : MM) : Prop := WA true G X (QM G X true 0 P) 5 0 [(2, 1), (0, l1), (0, l2), (3, 0), (3, 0)] [] 0 0 w M
set_option maxHeartbeats 4000000 in
set_option maxRecDepth 100000 in
theorem B_X9_parted_0 {G : GP} {X : BX} {P : Int → NS → MM → Prop} {l1 : Int} {l2 : Int} {w : NS} {M : MM} (C : CX_X9_parted G X) (h : (inR ((zshl 1 (M 1 2)) - 1)) ∧ ((((0 ≤ l1 ∧ l1 ≤ ((zshl 1 (M 1 2)) - 1))) → (((l2 = (-1)) → ∃ Q4 : Int → NS → MM → Prop, CT_X9_leastParting G X.2.1 [(2, 1), (0, l1)] w M Q4 ∧ ∀ (z4 : Int) (w4 : NS) (M4 : MM), Q4 z4 w4 M4 → (((l2 ≠ (-1)) → ∃ Q5 : Int → NS → MM → Prop, CT_X5_readerOf G X.2.1 [(1, z4), (0, l2)] w4 M4 Q5 ∧ ∀ (z5 : Int) (w5 : NS) (M5 : MM), Q5 z5 w5 M5 → P z5 w5 M5) ∧ ((¬ (l2 ≠ (-1))) → ∃ Q6 : Int → NS → MM → Prop, CT_X5_sumOf G X.2.1 [(1, z4)] w4 M4 Q6 ∧ ∀ (z6 : Int) (w6 : NS) (M6 : MM), Q6 z6 w6 M6 → P z6 w6 M6))) ∧ ((¬ (l2 = (-1))) → (inR ((M 1 2) - 1)) ∧ (((¬ (0 ≤ l2 ∧ l2 ≤ ((M 1 2) - 1))) → P (-6) w M) ∧ (((0 ≤ l2 ∧ l2 ≤ ((M 1 2) - 1))) → ((((zand (zshr l1 l2) 1 = 1)) → ∃ Q10 : Int → NS → MM → Prop, CT_X9_leastParting G X.2.1 [(2, 1), (0, l1)] w M Q10 ∧ ∀ (z10 : Int) (w10 : NS) (M10 : MM), Q10 z10 w10 M10 → (((l2 ≠ (-1)) → ∃ Q11 : Int → NS → MM → Prop, CT_X5_readerOf G X.2.1 [(1, z10), (0, l2)] w10 M10 Q11 ∧ ∀ (z11 : Int) (w11 : NS) (M11 : MM), Q11 z11 w11 M11 → P z11 w11 M11) ∧ ((¬ (l2 ≠ (-1))) → ∃ Q12 : Int → NS → MM → Prop, CT_X5_sumOf G X.2.1 [(1, z10)] w10 M10 Q12 ∧ ∀ (z12 : Int) (w12 : NS) (M12 : MM), Q12 z12 w12 M12 → P z12 w12 M12))) ∧ ((¬ (zand (zshr l1 l2) 1 = 1)) → P (-6) w M))))))) ∧ ((¬ (0 ≤ l1 ∧ l1 ≤ ((zshl 1 (M 1 2)) - 1))) → P (-2) w M))) : A_X9_parted_0 G X P l1 l2 w M := by
  unfold A_X9_parted_0
  refine s_iload_n C (d_of DX9_parted 0 rfl) rfl ?_
  refine s_iconst C (d_of DX9_parted 1 rfl) (by decide) ?_
  refine s_iconst C (d_of DX9_parted 2 rfl) (by decide) ?_
  refine s_aload_n C (d_of DX9_parted 3 rfl) rfl ?_
  refine WA.fix (fun hF1 => ?_)
  refine gf_X9_19 (v0 := (M 1 2)) C (sh_1 hF1) (d_of DX9_parted 4 rfl) rfl ?_
  refine s_ishl C (d_of DX9_parted 5 rfl) ?_
  refine s_iconst C (d_of DX9_parted 6 rfl) (by decide) ?_
  obtain ⟨o2, h⟩ := h
  refine s_isub C (d_of DX9_parted 7 rfl) o2 ?_
  refine s_callS (av := [(0, l1), (0, 0), (0, ((zshl 1 (M 1 2)) - 1))]) (rest := []) (mc := 0) (ms := 0) C (d_of DX9_parted 8 rfl) lk_X9_95 rfl rfl (Nat.le_of_ble_eq_true rfl) (by decide) (by decide) (pc_X9_within) (fun z3 wz3 Mz3 hq => ?_)
  obtain ⟨hq1, hq2, hq3⟩ := hq
  have hq2 := hq2.symm
  have hq3 := hq3.symm
  subst hq1 hq2 hq3
  refine s_ifne C (d_of DX9_parted 9 rfl) rfl (fun hc => ?_) (fun hc => ?_)
  · have h := h.1 (b2i_n0 hc)
    refine s_iload_n C (d_of DX9_parted 12 rfl) rfl ?_
    refine s_iconst C (d_of DX9_parted 13 rfl) (by decide) ?_
    refine s_icmpeq C (d_of DX9_parted 14 rfl) rfl (fun hc => ?_) (fun hc => ?_)
    · have h := h.1 hc
      refine s_aload_n C (d_of DX9_parted 29 rfl) rfl ?_
      refine s_iload_n C (d_of DX9_parted 30 rfl) rfl ?_
      obtain ⟨Q4, hKQ4, h⟩ := h
      refine s_callV (ci := 9) (av := [(0, l1)]) (rest := []) (mc := 0) (ms := 0) C (d_of DX9_parted 31 rfl) lk_X9_296 (sh_1 hF1) (by decide) rfl rfl rfl (Nat.le_of_ble_eq_true rfl) (by decide) (by decide) hKQ4 (fun z4 w4 M4 hq => ?_)
      have h := h z4 w4 M4 hq
      refine s_lstore_n (ls' := [(2, 1), (0, l1), (0, l2), (1, z4), (3, 0)]) C (d_of DX9_parted 32 rfl) (by decide) rfl rfl ?_
      refine s_iload_n C (d_of DX9_parted 33 rfl) rfl ?_
      refine s_iconst C (d_of DX9_parted 34 rfl) (by decide) ?_
      refine s_icmpne C (d_of DX9_parted 35 rfl) rfl (fun hc => ?_) (fun hc => ?_)
      · have h := h.1 hc
        refine s_lload_n C (d_of DX9_parted 39 rfl) rfl ?_
        refine s_iload_n C (d_of DX9_parted 40 rfl) rfl ?_
        obtain ⟨Q5, hKQ5, h⟩ := h
        refine s_callS (av := [(1, z4), (0, l2)]) (rest := []) (mc := 0) (ms := 0) C (d_of DX9_parted 41 rfl) lk_X9_304 rfl rfl (Nat.le_of_ble_eq_true rfl) (by decide) (by decide) hKQ5 (fun z5 w5 M5 hq => ?_)
        have h := h z5 w5 M5 hq
        exact s_ireturn C (d_of DX9_parted 42 rfl) h
      · have h := h.2 hc
        refine s_lload_n C (d_of DX9_parted 36 rfl) rfl ?_
        obtain ⟨Q6, hKQ6, h⟩ := h
        refine s_callS (av := [(1, z4)]) (rest := []) (mc := 0) (ms := 0) C (d_of DX9_parted 37 rfl) lk_X9_300 rfl rfl (Nat.le_of_ble_eq_true rfl) (by decide) (by decide) hKQ6 (fun z6 w6 M6 hq => ?_)
        have h := h z6 w6 M6 hq
        refine s_goto C (d_of DX9_parted 38 rfl) rfl ?_
        exact s_ireturn C (d_of DX9_parted 42 rfl) h
    · have h := h.2 hc
      refine s_iload_n C (d_of DX9_parted 15 rfl) rfl ?_
      refine s_iconst C (d_of DX9_parted 16 rfl) (by decide) ?_
      refine s_aload_n C (d_of DX9_parted 17 rfl) rfl ?_
      refine gf_X9_19 (v0 := (M 1 2)) C (sh_1 hF1) (d_of DX9_parted 18 rfl) rfl ?_
      refine s_iconst C (d_of DX9_parted 19 rfl) (by decide) ?_
      obtain ⟨o7, h⟩ := h
      refine s_isub C (d_of DX9_parted 20 rfl) o7 ?_
      refine s_callS (av := [(0, l2), (0, 0), (0, ((M 1 2) - 1))]) (rest := []) (mc := 0) (ms := 0) C (d_of DX9_parted 21 rfl) lk_X9_95 rfl rfl (Nat.le_of_ble_eq_true rfl) (by decide) (by decide) (pc_X9_within) (fun z8 wz8 Mz8 hq => ?_)
      obtain ⟨hq1, hq2, hq3⟩ := hq
      have hq2 := hq2.symm
      have hq3 := hq3.symm
      subst hq1 hq2 hq3
      refine s_ifeq C (d_of DX9_parted 22 rfl) rfl (fun hc => ?_) (fun hc => ?_)
      · have h := h.1 (b2i_0.mp hc)
        refine s_bipush C (d_of DX9_parted 27 rfl) ⟨rfl, by decide, by decide⟩ ?_
        exact s_ireturn C (d_of DX9_parted 28 rfl) h
      · have h := h.2 (b2i_n0 hc)
        refine s_iload_n C (d_of DX9_parted 23 rfl) rfl ?_
        refine s_iload_n C (d_of DX9_parted 24 rfl) rfl ?_
        refine s_callS (av := [(0, l1), (0, l2)]) (rest := []) (mc := 0) (ms := 0) C (d_of DX9_parted 25 rfl) lk_X9_292 rfl rfl (Nat.le_of_ble_eq_true rfl) (by decide) (by decide) (pc_X9_hasBit) (fun z9 wz9 Mz9 hq => ?_)
        obtain ⟨hq1, hq2, hq3⟩ := hq
        have hq2 := hq2.symm
        have hq3 := hq3.symm
        subst hq1 hq2 hq3
        refine s_ifne C (d_of DX9_parted 26 rfl) rfl (fun hc => ?_) (fun hc => ?_)
        · have h := h.1 (b2i_n0 hc)
          refine s_aload_n C (d_of DX9_parted 29 rfl) rfl ?_
          refine s_iload_n C (d_of DX9_parted 30 rfl) rfl ?_
          obtain ⟨Q10, hKQ10, h⟩ := h
          refine s_callV (ci := 9) (av := [(0, l1)]) (rest := []) (mc := 0) (ms := 0) C (d_of DX9_parted 31 rfl) lk_X9_296 (sh_1 hF1) (by decide) rfl rfl rfl (Nat.le_of_ble_eq_true rfl) (by decide) (by decide) hKQ10 (fun z10 w10 M10 hq => ?_)
          have h := h z10 w10 M10 hq
          refine s_lstore_n (ls' := [(2, 1), (0, l1), (0, l2), (1, z10), (3, 0)]) C (d_of DX9_parted 32 rfl) (by decide) rfl rfl ?_
          refine s_iload_n C (d_of DX9_parted 33 rfl) rfl ?_
          refine s_iconst C (d_of DX9_parted 34 rfl) (by decide) ?_
          refine s_icmpne C (d_of DX9_parted 35 rfl) rfl (fun hc => ?_) (fun hc => ?_)
          · have h := h.1 hc
            refine s_lload_n C (d_of DX9_parted 39 rfl) rfl ?_
            refine s_iload_n C (d_of DX9_parted 40 rfl) rfl ?_
            obtain ⟨Q11, hKQ11, h⟩ := h
            refine s_callS (av := [(1, z10), (0, l2)]) (rest := []) (mc := 0) (ms := 0) C (d_of DX9_parted 41 rfl) lk_X9_304 rfl rfl (Nat.le_of_ble_eq_true rfl) (by decide) (by decide) hKQ11 (fun z11 w11 M11 hq => ?_)
            have h := h z11 w11 M11 hq
            exact s_ireturn C (d_of DX9_parted 42 rfl) h
          · have h := h.2 hc
            refine s_lload_n C (d_of DX9_parted 36 rfl) rfl ?_
            obtain ⟨Q12, hKQ12, h⟩ := h
            refine s_callS (av := [(1, z10)]) (rest := []) (mc := 0) (ms := 0) C (d_of DX9_parted 37 rfl) lk_X9_300 rfl rfl (Nat.le_of_ble_eq_true rfl) (by decide) (by decide) hKQ12 (fun z12 w12 M12 hq => ?_)
            have h := h z12 w12 M12 hq
            refine s_goto C (d_of DX9_parted 38 rfl) rfl ?_
            exact s_ireturn C (d_of DX9_parted 42 rfl) h
        · have h := h.2 (b2i_nn hc)
          refine s_bipush C (d_of DX9_parted 27 rfl) ⟨rfl, by decide, by decide⟩ ?_
          exact s_ireturn C (d_of DX9_parted 28 rfl) h
  · have h := h.2 (b2i_nn hc)
    refine s_bipush C (d_of DX9_parted 10 rfl) ⟨rfl, by decide, by decide⟩ ?_
    exact s_ireturn C (d_of DX9_parted 11 rfl) h
theorem E_X9_parted {G : GP} {l : Launch} {P : Int → NS → MM → Prop} {l1 : Int} {l2 : Int} {w : NS} {M : MM} (h : inR l1 → inR l2 → ∀ X : BX, X.2.1 = l → CX_X9_parted G X → A_X9_parted_0 G X P l1 l2 w M) : CT_X9_parted G l [(2, 1), (0, l1), (0, l2)] w M P :=
  CT.of RX9 "parted" (by decide +kernel) rfl rfl rfl (Nat.le_of_ble_eq_true rfl) (fun hr X hX C => h (hr (0, l1) (by simp)) (hr (0, l2) (by simp)) X hX C)
def A_X9_isListed_0 (G : GP) (X : BX) (P : Int → NS → MM → Prop) (l1 : Int) (l2 : Int) (w : NS) (M : MM) : Prop := WA true G X (QM G X true 0 P) 4 0 [(2, 1), (2, l1), (2, l2), (3, 0)] [] 0 0 w M
def A_X9_isListed_14 (G : GP) (X : BX) (P : Int → NS → MM → Prop) (l1 : Int) (l3 : Int) (w : NS) (M : MM) : Prop := WA true G X (QM G X true 0 P) 4 14 [(2, 1), (2, l1), (3, 0), (0, l3)] [] 0 0 w M
set_option maxHeartbeats 4000000 in
set_option maxRecDepth 100000 in
theorem B_X9_isListed_0 {G : GP} {X : BX} {P : Int → NS → MM → Prop} {l1 : Int} {l2 : Int} {w : NS} {M : MM} (C : CX_X9_isListed G X) (h : (w.2 l1 = (7, 12)) ∧ (w.2 (M l1 1) = (5, 5)) ∧ ∃ Q4 : Int → NS → MM → Prop, CT_X9_gatherList G X.2.1 [(2, 1), (2, l2), (0, (M (M l1 1) 2))] w M Q4 ∧ ∀ (z4 : Int) (w4 : NS) (M4 : MM), Q4 z4 w4 M4 → A_X9_isListed_14 G X P l1 0 w4 M4) : A_X9_isListed_0 G X P l1 l2 w M := by
  unfold A_X9_isListed_0
  refine s_aload_n C (d_of DX9_isListed 0 rfl) rfl ?_
  refine s_aload_n C (d_of DX9_isListed 1 rfl) rfl ?_
  refine s_aload_n C (d_of DX9_isListed 2 rfl) rfl ?_
  obtain ⟨o1, h⟩ := h
  refine gf_X9_166 (v0 := (M l1 1)) C o1 (d_of DX9_isListed 3 rfl) rfl ?_
  obtain ⟨o2, h⟩ := h
  refine gf_X9_131 (v0 := (M (M l1 1) 2)) C o2 (d_of DX9_isListed 4 rfl) rfl ?_
  refine WA.fix (fun hF3 => ?_)
  obtain ⟨Q4, hKQ4, h⟩ := h
  refine s_callV (ci := 9) (av := [(2, l2), (0, (M (M l1 1) 2))]) (rest := []) (mc := 0) (ms := 0) C (d_of DX9_isListed 5 rfl) lk_X9_231 (sh_1 hF3) (by decide) rfl rfl rfl (Nat.le_of_ble_eq_true rfl) (by decide) (by decide) hKQ4 (fun z4 w4 M4 hq => ?_)
  have h := h z4 w4 M4 hq
  refine s_iconst C (d_of DX9_isListed 6 rfl) (by decide) ?_
  refine s_istore_n (ls' := [(2, 1), (2, l1), (2, l2), (0, 0)]) C (d_of DX9_isListed 7 rfl) (by decide) rfl rfl ?_
  exact WA.wk h ⟨Or.inr rfl, Or.inr rfl, Or.inl rfl, Or.inr rfl, trivial⟩
set_option maxHeartbeats 4000000 in
set_option maxRecDepth 100000 in
theorem B_X9_isListed_14 {G : GP} {X : BX} {P : Int → NS → MM → Prop} {l1 : Int} {l3 : Int} {w : NS} {M : MM} (C : CX_X9_isListed G X) (h : ((((M 1 11) ≤ l3) → P 0 w M) ∧ ((¬ ((M 1 11) ≤ l3)) → (0 ≤ l3) ∧ (l3 < 24) ∧ (w.2 l1 = (7, 12)) ∧ ((((M 12 l3) ≠ (M l1 0)) → (inR (l3 + 1)) ∧ A_X9_isListed_14 G X P l1 (l3 + 1) w M) ∧ ((¬ ((M 12 l3) ≠ (M l1 0))) → P 1 w M))))) : A_X9_isListed_14 G X P l1 l3 w M := by
  unfold A_X9_isListed_14
  refine s_iload_n C (d_of DX9_isListed 8 rfl) rfl ?_
  refine s_aload_n C (d_of DX9_isListed 9 rfl) rfl ?_
  refine WA.fix (fun hF1 => ?_)
  refine gf_X9_61 (v0 := (M 1 11)) C (sh_1 hF1) (d_of DX9_isListed 10 rfl) rfl ?_
  refine s_icmpge C (d_of DX9_isListed 11 rfl) rfl (fun hc => ?_) (fun hc => ?_)
  · have h := h.1 hc
    refine s_iconst C (d_of DX9_isListed 23 rfl) (by decide) ?_
    exact s_zreturn C (d_of DX9_isListed 24 rfl) (by decide) h
  · have h := h.2 hc
    refine s_aload_n C (d_of DX9_isListed 12 rfl) rfl ?_
    refine gf_X9_58 C (sh_1 hF1) (d_of DX9_isListed 13 rfl) (fx_1_10 hF1) ?_
    refine s_iload_n C (d_of DX9_isListed 14 rfl) rfl ?_
    obtain ⟨o2, h⟩ := h
    obtain ⟨o3, h⟩ := h
    refine s_iald (v0 := (M 12 l3)) C (sh_12 hF1) o2 o3 (d_of DX9_isListed 15 rfl) rfl ?_
    refine s_aload_n C (d_of DX9_isListed 16 rfl) rfl ?_
    obtain ⟨o4, h⟩ := h
    refine gf_X9_324 (v0 := (M l1 0)) C o4 (d_of DX9_isListed 17 rfl) rfl ?_
    refine s_icmpne C (d_of DX9_isListed 18 rfl) rfl (fun hc => ?_) (fun hc => ?_)
    · have h := h.1 hc
      obtain ⟨o5, h⟩ := h
      refine s_iinc (ls' := [(2, 1), (2, l1), (3, 0), (0, (l3 + 1))]) C (d_of DX9_isListed 21 rfl) (by decide) rfl o5 rfl rfl ?_
      refine s_goto C (d_of DX9_isListed 22 rfl) rfl ?_
      exact h
    · have h := h.2 hc
      refine s_iconst C (d_of DX9_isListed 19 rfl) (by decide) ?_
      exact s_zreturn C (d_of DX9_isListed 20 rfl) (by decide) h
theorem E_X9_isListed {G : GP} {l : Launch} {P : Int → NS → MM → Prop} {l1 : Int} {l2 : Int} {w : NS} {M : MM} (h : ∀ X : BX, X.2.1 = l → CX_X9_isListed G X → A_X9_isListed_0 G X P l1 l2 w M) : CT_X9_isListed G l [(2, 1), (2, l1), (2, l2)] w M P :=
  CT.of RX9 "isListed" (by decide +kernel) rfl rfl rfl (Nat.le_of_ble_eq_true rfl) (fun hr X hX C => h  X hX C)
def A_X9_send_0 (G : GP) (X : BX) (P : Int → NS → MM → Prop) (l1 : Int) (l2 : Int) (w : NS) (M : MM) : Prop := WA true G X (QM G X true 0 P) 5 0 [(2, 1), (0, l1), (0, l2), (3, 0), (3, 0)] [] 0 0 w M
set_option maxHeartbeats 4000000 in
set_option maxRecDepth 100000 in
theorem B_X9_send_0 {G : GP} {X : BX} {P : Int → NS → MM → Prop} {l1 : Int} {l2 : Int} {w : NS} {M : MM} (C : CX_X9_send G X) (h : (0 ≤ M 1 4) ∧ (M 1 4 ≤ 24) ∧ (0 ≤ M 1 7) ∧ (M 1 7 ≤ 10) ∧ ((((pcO M l1) = 0) → P (-1) w M) ∧ ((¬ ((pcO M l1) = 0)) → ((((orO M l2) ≠ 0) → ∃ Q8 : Int → NS → MM → Prop, CT_X9_isListed G X.2.1 [(2, 1), (2, (pcO M l1)), (2, (orO M l2))] w M Q8 ∧ ∀ (z8 : Int) (w8 : NS) (M8 : MM), Q8 z8 w8 M8 → (((z8 ≠ 0) → (w8.2 (pcO M l1) = (7, 12)) ∧ (((¬ (zand (zshr (M8 (pcO M l1) 11) l2) 1 = 1)) → P 1 w8 (up M8 (pcO M l1) 11 (zor (M8 (pcO M l1) 11) (zshl 1 l2)))) ∧ (((zand (zshr (M8 (pcO M l1) 11) l2) 1 = 1)) → P (-5) w8 M8))) ∧ ((¬ (z8 ≠ 0)) → P (-3) w8 M8))) ∧ ((¬ ((orO M l2) ≠ 0)) → P (-1) w M))))) : A_X9_send_0 G X P l1 l2 w M := by
  unfold A_X9_send_0
  refine s_aload_n C (d_of DX9_send 0 rfl) rfl ?_
  refine s_iload_n C (d_of DX9_send 1 rfl) rfl ?_
  refine WA.fix (fun hF1 => ?_)
  obtain ⟨o2, h⟩ := h
  obtain ⟨o3, h⟩ := h
  refine s_callV (ci := 9) (av := [(0, l1)]) (rest := []) (mc := 0) (ms := 0) C (d_of DX9_send 2 rfl) lk_X9_158 (sh_1 hF1) (by decide) rfl rfl rfl (Nat.le_of_ble_eq_true rfl) (by decide) (by decide) (pc_X9_pieceOf o2 o3) (fun z4 wz4 Mz4 hq => ?_)
  obtain ⟨hq1, hq2, hq3⟩ := hq
  have hq2 := hq2.symm
  have hq3 := hq3.symm
  subst hq1 hq2 hq3
  refine s_astore_n (ls' := [(2, 1), (0, l1), (0, l2), (2, (pcO M l1)), (3, 0)]) C (d_of DX9_send 3 rfl) (by decide) rfl rfl ?_
  refine s_aload_n C (d_of DX9_send 4 rfl) rfl ?_
  refine s_iload_n C (d_of DX9_send 5 rfl) rfl ?_
  obtain ⟨o5, h⟩ := h
  obtain ⟨o6, h⟩ := h
  refine s_callV (ci := 9) (av := [(0, l2)]) (rest := []) (mc := 0) (ms := 0) C (d_of DX9_send 6 rfl) lk_X9_208 (sh_1 hF1) (by decide) rfl rfl rfl (Nat.le_of_ble_eq_true rfl) (by decide) (by decide) (pc_X9_orderOf o5 o6) (fun z7 wz7 Mz7 hq => ?_)
  obtain ⟨hq1, hq2, hq3⟩ := hq
  have hq2 := hq2.symm
  have hq3 := hq3.symm
  subst hq1 hq2 hq3
  refine s_astore (ls' := [(2, 1), (0, l1), (0, l2), (2, (pcO M l1)), (2, (orO M l2))]) C (d_of DX9_send 7 rfl) (by decide) rfl rfl ?_
  refine s_aload_n C (d_of DX9_send 8 rfl) rfl ?_
  refine s_ifnull C (d_of DX9_send 9 rfl) rfl (fun hc => ?_) (fun hc => ?_)
  · have h := h.1 hc
    refine s_iconst C (d_of DX9_send 12 rfl) (by decide) ?_
    exact s_ireturn C (d_of DX9_send 13 rfl) h
  · have h := h.2 hc
    refine s_aload C (d_of DX9_send 10 rfl) rfl ?_
    refine s_ifnonnull C (d_of DX9_send 11 rfl) rfl (fun hc => ?_) (fun hc => ?_)
    · have h := h.1 hc
      refine s_aload_n C (d_of DX9_send 14 rfl) rfl ?_
      refine s_aload_n C (d_of DX9_send 15 rfl) rfl ?_
      refine s_aload C (d_of DX9_send 16 rfl) rfl ?_
      obtain ⟨Q8, hKQ8, h⟩ := h
      refine s_callV (ci := 9) (av := [(2, (pcO M l1)), (2, (orO M l2))]) (rest := []) (mc := 0) (ms := 0) C (d_of DX9_send 17 rfl) lk_X9_308 (sh_1 hF1) (by decide) rfl rfl rfl (Nat.le_of_ble_eq_true rfl) (by decide) (by decide) hKQ8 (fun z8 w8 M8 hq => ?_)
      have h := h z8 w8 M8 hq
      refine s_ifne C (d_of DX9_send 18 rfl) rfl (fun hc => ?_) (fun hc => ?_)
      · have h := h.1 hc
        refine s_aload_n C (d_of DX9_send 21 rfl) rfl ?_
        obtain ⟨o9, h⟩ := h
        refine gf_X9_174 (v0 := (M8 (pcO M l1) 11)) C o9 (d_of DX9_send 22 rfl) rfl ?_
        refine s_iload_n C (d_of DX9_send 23 rfl) rfl ?_
        refine s_callS (av := [(0, (M8 (pcO M l1) 11)), (0, l2)]) (rest := []) (mc := 0) (ms := 0) C (d_of DX9_send 24 rfl) lk_X9_292 rfl rfl (Nat.le_of_ble_eq_true rfl) (by decide) (by decide) (pc_X9_hasBit) (fun z10 wz10 Mz10 hq => ?_)
        obtain ⟨hq1, hq2, hq3⟩ := hq
        have hq2 := hq2.symm
        have hq3 := hq3.symm
        subst hq1 hq2 hq3
        refine s_ifeq C (d_of DX9_send 25 rfl) rfl (fun hc => ?_) (fun hc => ?_)
        · have h := h.1 (b2i_0.mp hc)
          refine s_aload_n C (d_of DX9_send 28 rfl) rfl ?_
          refine s_dup C (by simp) (d_of DX9_send 29 rfl) ?_
          refine gf_X9_174 (v0 := (M8 (pcO M l1) 11)) C o9 (d_of DX9_send 30 rfl) rfl ?_
          refine s_iconst C (d_of DX9_send 31 rfl) (by decide) ?_
          refine s_iload_n C (d_of DX9_send 32 rfl) rfl ?_
          refine s_ishl C (d_of DX9_send 33 rfl) ?_
          refine s_ior C (d_of DX9_send 34 rfl) ?_
          refine pf_X9_174 C o9 (fun _ => by decide) (d_of DX9_send 35 rfl) ?_
          refine s_iconst C (d_of DX9_send 36 rfl) (by decide) ?_
          exact s_ireturn C (d_of DX9_send 37 rfl) h
        · have h := h.2 (b2i_n0 hc)
          refine s_bipush C (d_of DX9_send 26 rfl) ⟨rfl, by decide, by decide⟩ ?_
          exact s_ireturn C (d_of DX9_send 27 rfl) h
      · have h := h.2 hc
        refine s_bipush C (d_of DX9_send 19 rfl) ⟨rfl, by decide, by decide⟩ ?_
        exact s_ireturn C (d_of DX9_send 20 rfl) h
    · have h := h.2 hc
      refine s_iconst C (d_of DX9_send 12 rfl) (by decide) ?_
      exact s_ireturn C (d_of DX9_send 13 rfl) h
theorem E_X9_send {G : GP} {l : Launch} {P : Int → NS → MM → Prop} {l1 : Int} {l2 : Int} {w : NS} {M : MM} (h : inR l1 → inR l2 → ∀ X : BX, X.2.1 = l → CX_X9_send G X → A_X9_send_0 G X P l1 l2 w M) : CT_X9_send G l [(2, 1), (0, l1), (0, l2)] w M P :=
  CT.of RX9 "send" (by decide +kernel) rfl rfl rfl (Nat.le_of_ble_eq_true rfl) (fun hr X hX C => h (hr (0, l1) (by simp)) (hr (0, l2) (by simp)) X hX C)
def A_X9_miss_0 (G : GP) (X : BX) (P : Int → NS → MM → Prop) (l1 : Int) (w : NS) (M : MM) : Prop := WA true G X (QM G X true 0 P) 2 0 [(2, 1), (0, l1)] [] 0 0 w M
set_option maxHeartbeats 4000000 in
set_option maxRecDepth 100000 in
theorem B_X9_miss_0 {G : GP} {X : BX} {P : Int → NS → MM → Prop} {l1 : Int} {w : NS} {M : MM} (C : CX_X9_miss G X) (h : ((((0 ≤ l1 ∧ l1 ≤ 5)) → (0 ≤ l1) ∧ (l1 < 6) ∧ (inR ((M 24 l1) + 1)) ∧ P ((M 24 l1) + 1) w (up M 24 l1 ((M 24 l1) + 1))) ∧ ((¬ (0 ≤ l1 ∧ l1 ≤ 5)) → P (-1) w M))) : A_X9_miss_0 G X P l1 w M := by
  unfold A_X9_miss_0
  refine s_iload_n C (d_of DX9_miss 0 rfl) rfl ?_
  refine s_callS (av := [(0, l1)]) (rest := []) (mc := 0) (ms := 0) C (d_of DX9_miss 1 rfl) lk_X9_202 rfl rfl (Nat.le_of_ble_eq_true rfl) (by decide) (by decide) (pc_X9_isClient) (fun z1 wz1 Mz1 hq => ?_)
  obtain ⟨hq1, hq2, hq3⟩ := hq
  have hq2 := hq2.symm
  have hq3 := hq3.symm
  subst hq1 hq2 hq3
  refine s_ifne C (d_of DX9_miss 2 rfl) rfl (fun hc => ?_) (fun hc => ?_)
  · have h := h.1 (b2i_n0 hc)
    refine s_aload_n C (d_of DX9_miss 5 rfl) rfl ?_
    refine WA.fix (fun hF2 => ?_)
    refine gf_X9_90 C (sh_1 hF2) (d_of DX9_miss 6 rfl) (fx_1_16 hF2) ?_
    refine s_iload_n C (d_of DX9_miss 7 rfl) rfl ?_
    refine s_dup2 C (by simp) (by simp) (d_of DX9_miss 8 rfl) ?_
    obtain ⟨o3, h⟩ := h
    obtain ⟨o4, h⟩ := h
    refine s_iald (v0 := (M 24 l1)) C (sh_24 hF2) o3 o4 (d_of DX9_miss 9 rfl) rfl ?_
    refine s_iconst C (d_of DX9_miss 10 rfl) (by decide) ?_
    obtain ⟨o5, h⟩ := h
    refine s_iadd C (d_of DX9_miss 11 rfl) o5 ?_
    refine s_iast C (sh_24 hF2) o3 o4 (fun _ => by decide) (d_of DX9_miss 12 rfl) ?_
    refine s_aload_n C (d_of DX9_miss 13 rfl) rfl ?_
    refine WA.fix (fun hF6 => ?_)
    refine gf_X9_90 C (sh_1 hF2) (d_of DX9_miss 14 rfl) (fx_1_16 hF6) ?_
    refine s_iload_n C (d_of DX9_miss 15 rfl) rfl ?_
    refine s_iald (v0 := ((M 24 l1) + 1)) C (sh_24 hF2) o3 o4 (d_of DX9_miss 16 rfl) (up_eq) ?_
    exact s_ireturn C (d_of DX9_miss 17 rfl) h
  · have h := h.2 (b2i_nn hc)
    refine s_iconst C (d_of DX9_miss 3 rfl) (by decide) ?_
    exact s_ireturn C (d_of DX9_miss 4 rfl) h
theorem E_X9_miss {G : GP} {l : Launch} {P : Int → NS → MM → Prop} {l1 : Int} {w : NS} {M : MM} (h : inR l1 → ∀ X : BX, X.2.1 = l → CX_X9_miss G X → A_X9_miss_0 G X P l1 w M) : CT_X9_miss G l [(2, 1), (0, l1)] w M P :=
  CT.of RX9 "miss" (by decide +kernel) rfl rfl rfl (Nat.le_of_ble_eq_true rfl) (fun hr X hX C => h (hr (0, l1) (by simp)) X hX C)
def A_X9_countSentTo_0 (G : GP) (X : BX) (P : Int → NS → MM → Prop) (l1 : Int) (w : NS) (M : MM) : Prop := WA true G X (QM G X true 0 P) 5 0 [(2, 1), (0, l1), (3, 0), (3, 0), (3, 0)] [] 0 0 w M
def A_X9_countSentTo_4 (G : GP) (X : BX) (P : Int → NS → MM → Prop) (l1 : Int) (l2 : Int) (l3 : Int) (w : NS) (M : MM) : Prop := WA true G X (QM G X true 0 P) 5 4 [(2, 1), (0, l1), (0, l2), (0, l3), (3, 0)] [] 0 0 w M
def A_X9_countSentTo_15 (G : GP) (X : BX) (P : Int → NS → MM → Prop) (l1 : Int) (l2 : Int) (l3 : Int) (l4 : Int) (w : NS) (M : MM) : Prop := WA true G X (QM G X true 0 P) 5 15 [(2, 1), (0, l1), (0, l2), (0, l3), (0, l4)] [] 0 0 w M
set_option maxHeartbeats 4000000 in
set_option maxRecDepth 100000 in
theorem B_X9_countSentTo_0 {G : GP} {X : BX} {P : Int → NS → MM → Prop} {l1 : Int} {w : NS} {M : MM} (C : CX_X9_countSentTo G X) (h : A_X9_countSentTo_4 G X P l1 0 0 w M) : A_X9_countSentTo_0 G X P l1 w M := by
  unfold A_X9_countSentTo_0
  refine s_iconst C (d_of DX9_countSentTo 0 rfl) (by decide) ?_
  refine s_istore_n (ls' := [(2, 1), (0, l1), (0, 0), (3, 0), (3, 0)]) C (d_of DX9_countSentTo 1 rfl) (by decide) rfl rfl ?_
  refine s_iconst C (d_of DX9_countSentTo 2 rfl) (by decide) ?_
  refine s_istore_n (ls' := [(2, 1), (0, l1), (0, 0), (0, 0), (3, 0)]) C (d_of DX9_countSentTo 3 rfl) (by decide) rfl rfl ?_
  exact h
set_option maxHeartbeats 4000000 in
set_option maxRecDepth 100000 in
theorem B_X9_countSentTo_4 {G : GP} {X : BX} {P : Int → NS → MM → Prop} {l1 : Int} {l2 : Int} {l3 : Int} {w : NS} {M : MM} (C : CX_X9_countSentTo G X) (h : ((((M 1 7) ≤ l3) → P l2 w M) ∧ ((¬ ((M 1 7) ≤ l3)) → A_X9_countSentTo_15 G X P l1 l2 l3 0 w M))) : A_X9_countSentTo_4 G X P l1 l2 l3 w M := by
  unfold A_X9_countSentTo_4
  refine s_iload_n C (d_of DX9_countSentTo 4 rfl) rfl ?_
  refine s_aload_n C (d_of DX9_countSentTo 5 rfl) rfl ?_
  refine WA.fix (fun hF1 => ?_)
  refine gf_X9_41 (v0 := (M 1 7)) C (sh_1 hF1) (d_of DX9_countSentTo 6 rfl) rfl ?_
  refine s_icmpge C (d_of DX9_countSentTo 7 rfl) rfl (fun hc => ?_) (fun hc => ?_)
  · have h := h.1 hc
    refine s_iload_n C (d_of DX9_countSentTo 36 rfl) rfl ?_
    exact s_ireturn C (d_of DX9_countSentTo 37 rfl) h
  · have h := h.2 hc
    refine s_iconst C (d_of DX9_countSentTo 8 rfl) (by decide) ?_
    refine s_istore (ls' := [(2, 1), (0, l1), (0, l2), (0, l3), (0, 0)]) C (d_of DX9_countSentTo 9 rfl) (by decide) rfl rfl ?_
    exact h
set_option maxHeartbeats 4000000 in
set_option maxRecDepth 100000 in
theorem B_X9_countSentTo_15 {G : GP} {X : BX} {P : Int → NS → MM → Prop} {l1 : Int} {l2 : Int} {l3 : Int} {l4 : Int} {w : NS} {M : MM} (C : CX_X9_countSentTo G X) (h : (0 ≤ l3) ∧ (l3 < 10) ∧ (w.2 (M 6 l3) = (4, 7)) ∧ ((((M (M 6 l3) 0) ≠ l1) → (inR (l3 + 1)) ∧ A_X9_countSentTo_4 G X P l1 l2 (l3 + 1) w M) ∧ ((¬ ((M (M 6 l3) 0) ≠ l1)) → ((((M 1 4) ≤ l4) → (inR (l3 + 1)) ∧ A_X9_countSentTo_4 G X P l1 l2 (l3 + 1) w M) ∧ ((¬ ((M 1 4) ≤ l4)) → (0 ≤ l4) ∧ (l4 < 24) ∧ (w.2 (M 4 l4) = (7, 12)) ∧ (inR (l2 + (b2i (zand (zshr (M (M 4 l4) 11) l3) 1 = 1)))) ∧ (inR (l4 + 1)) ∧ A_X9_countSentTo_15 G X P l1 (l2 + (b2i (zand (zshr (M (M 4 l4) 11) l3) 1 = 1))) l3 (l4 + 1) w M))))) : A_X9_countSentTo_15 G X P l1 l2 l3 l4 w M := by
  unfold A_X9_countSentTo_15
  refine s_aload_n C (d_of DX9_countSentTo 10 rfl) rfl ?_
  refine WA.fix (fun hF1 => ?_)
  refine gf_X9_37 C (sh_1 hF1) (d_of DX9_countSentTo 11 rfl) (fx_1_6 hF1) ?_
  refine s_iload_n C (d_of DX9_countSentTo 12 rfl) rfl ?_
  obtain ⟨o2, h⟩ := h
  obtain ⟨o3, h⟩ := h
  refine s_aald (v0 := (M 6 l3)) (t0 := 4) C (sh_6 hF1) (by decide) rfl o2 o3 (d_of DX9_countSentTo 13 rfl) rfl ?_
  obtain ⟨o4, h⟩ := h
  refine gf_X9_359 (v0 := (M (M 6 l3) 0)) C o4 (d_of DX9_countSentTo 14 rfl) rfl ?_
  refine s_iload_n C (d_of DX9_countSentTo 15 rfl) rfl ?_
  refine s_icmpne C (d_of DX9_countSentTo 16 rfl) rfl (fun hc => ?_) (fun hc => ?_)
  · have h := h.1 hc
    obtain ⟨o5, h⟩ := h
    refine s_iinc (ls' := [(2, 1), (0, l1), (0, l2), (0, (l3 + 1)), (0, l4)]) C (d_of DX9_countSentTo 34 rfl) (by decide) rfl o5 rfl rfl ?_
    refine s_goto C (d_of DX9_countSentTo 35 rfl) rfl ?_
    exact WA.wk h ⟨Or.inr rfl, Or.inr rfl, Or.inr rfl, Or.inr rfl, Or.inl rfl, trivial⟩
  · have h := h.2 hc
    refine s_iload C (d_of DX9_countSentTo 17 rfl) rfl ?_
    refine s_aload_n C (d_of DX9_countSentTo 18 rfl) rfl ?_
    refine gf_X9_29 (v0 := (M 1 4)) C (sh_1 hF1) (d_of DX9_countSentTo 19 rfl) rfl ?_
    refine s_icmpge C (d_of DX9_countSentTo 20 rfl) rfl (fun hc => ?_) (fun hc => ?_)
    · have h := h.1 hc
      obtain ⟨o6, h⟩ := h
      refine s_iinc (ls' := [(2, 1), (0, l1), (0, l2), (0, (l3 + 1)), (0, l4)]) C (d_of DX9_countSentTo 34 rfl) (by decide) rfl o6 rfl rfl ?_
      refine s_goto C (d_of DX9_countSentTo 35 rfl) rfl ?_
      exact WA.wk h ⟨Or.inr rfl, Or.inr rfl, Or.inr rfl, Or.inr rfl, Or.inl rfl, trivial⟩
    · have h := h.2 hc
      refine s_iload_n C (d_of DX9_countSentTo 21 rfl) rfl ?_
      refine s_aload_n C (d_of DX9_countSentTo 22 rfl) rfl ?_
      refine gf_X9_25 C (sh_1 hF1) (d_of DX9_countSentTo 23 rfl) (fx_1_3 hF1) ?_
      refine s_iload C (d_of DX9_countSentTo 24 rfl) rfl ?_
      obtain ⟨o7, h⟩ := h
      obtain ⟨o8, h⟩ := h
      refine s_aald (v0 := (M 4 l4)) (t0 := 6) C (sh_4 hF1) (by decide) rfl o7 o8 (d_of DX9_countSentTo 25 rfl) rfl ?_
      obtain ⟨o9, h⟩ := h
      refine gf_X9_174 (v0 := (M (M 4 l4) 11)) C o9 (d_of DX9_countSentTo 26 rfl) rfl ?_
      refine s_iload_n C (d_of DX9_countSentTo 27 rfl) rfl ?_
      refine s_callS (av := [(0, (M (M 4 l4) 11)), (0, l3)]) (rest := [(0, l2)]) (mc := 0) (ms := 0) C (d_of DX9_countSentTo 28 rfl) lk_X9_292 rfl rfl (Nat.le_of_ble_eq_true rfl) (by decide) (by decide) (pc_X9_hasBit) (fun z10 wz10 Mz10 hq => ?_)
      obtain ⟨hq1, hq2, hq3⟩ := hq
      have hq2 := hq2.symm
      have hq3 := hq3.symm
      subst hq1 hq2 hq3
      refine s_callS (av := [(0, (b2i (zand (zshr (M (M 4 l4) 11) l3) 1 = 1)))]) (rest := [(0, l2)]) (mc := 0) (ms := 0) C (d_of DX9_countSentTo 29 rfl) lk_X9_188 rfl rfl (Nat.le_of_ble_eq_true rfl) (by decide) (by decide) (pc_X9_oneIf') (fun z11 wz11 Mz11 hq => ?_)
      obtain ⟨hq1, hq2, hq3⟩ := hq
      have hq2 := hq2.symm
      have hq3 := hq3.symm
      subst hq1 hq2 hq3
      obtain ⟨o12, h⟩ := h
      refine s_iadd C (d_of DX9_countSentTo 30 rfl) o12 ?_
      refine s_istore_n (ls' := [(2, 1), (0, l1), (0, (l2 + (b2i (zand (zshr (M (M 4 l4) 11) l3) 1 = 1)))), (0, l3), (0, l4)]) C (d_of DX9_countSentTo 31 rfl) (by decide) rfl rfl ?_
      obtain ⟨o13, h⟩ := h
      refine s_iinc (ls' := [(2, 1), (0, l1), (0, (l2 + (b2i (zand (zshr (M (M 4 l4) 11) l3) 1 = 1)))), (0, l3), (0, (l4 + 1))]) C (d_of DX9_countSentTo 32 rfl) (by decide) rfl o13 rfl rfl ?_
      refine s_goto C (d_of DX9_countSentTo 33 rfl) rfl ?_
      exact h
theorem E_X9_countSentTo {G : GP} {l : Launch} {P : Int → NS → MM → Prop} {l1 : Int} {w : NS} {M : MM} (h : inR l1 → ∀ X : BX, X.2.1 = l → CX_X9_countSentTo G X → A_X9_countSentTo_0 G X P l1 w M) : CT_X9_countSentTo G l [(2, 1), (0, l1)] w M P :=
  CT.of RX9 "countSentTo" (by decide +kernel) rfl rfl rfl (Nat.le_of_ble_eq_true rfl) (fun hr X hX C => h (hr (0, l1) (by simp)) X hX C)
def A_X9_priceOf_0 (G : GP) (X : BX) (P : Int → NS → MM → Prop) (l1 : Int) (w : NS) (M : MM) : Prop := WA true G X (QM G X true 0 P) 5 0 [(2, 1), (0, l1), (3, 0), (3, 0), (3, 0)] [] 0 0 w M
set_option maxHeartbeats 4000000 in
set_option maxRecDepth 100000 in
theorem B_X9_priceOf_0 {G : GP} {X : BX} {P : Int → NS → MM → Prop} {l1 : Int} {w : NS} {M : MM} (C : CX_X9_priceOf G X) (h : (inR (l1 - (min l1 (M 2 4)))) ∧ (inR ((l1 - (min l1 (M 2 4))) - (min (l1 - (min l1 (M 2 4))) (M 2 4)))) ∧ (inR ((min l1 (M 2 4)) * (M 2 5))) ∧ (inR ((min (l1 - (min l1 (M 2 4))) (M 2 4)) * (M 2 6))) ∧ (inR (((min l1 (M 2 4)) * (M 2 5)) + ((min (l1 - (min l1 (M 2 4))) (M 2 4)) * (M 2 6)))) ∧ (inR (((l1 - (min l1 (M 2 4))) - (min (l1 - (min l1 (M 2 4))) (M 2 4))) * (M 2 7))) ∧ (inR ((((min l1 (M 2 4)) * (M 2 5)) + ((min (l1 - (min l1 (M 2 4))) (M 2 4)) * (M 2 6))) + (((l1 - (min l1 (M 2 4))) - (min (l1 - (min l1 (M 2 4))) (M 2 4))) * (M 2 7)))) ∧ P ((((min l1 (M 2 4)) * (M 2 5)) + ((min (l1 - (min l1 (M 2 4))) (M 2 4)) * (M 2 6))) + (((l1 - (min l1 (M 2 4))) - (min (l1 - (min l1 (M 2 4))) (M 2 4))) * (M 2 7))) w M) : A_X9_priceOf_0 G X P l1 w M := by
  unfold A_X9_priceOf_0
  refine s_iload_n C (d_of DX9_priceOf 0 rfl) rfl ?_
  refine s_aload_n C (d_of DX9_priceOf 1 rfl) rfl ?_
  refine WA.fix (fun hF1 => ?_)
  refine gf_X9_7 C (sh_1 hF1) (d_of DX9_priceOf 2 rfl) (fx_1_0 hF1) ?_
  refine s_iconst C (d_of DX9_priceOf 3 rfl) (by decide) ?_
  refine s_iald (v0 := (M 2 4)) C (sh_2 hF1) (by decide) (by decide) (d_of DX9_priceOf 4 rfl) rfl ?_
  refine s_mmin (st := []) C (d_of DX9_priceOf 5 rfl) wd_742 (Nat.le_of_ble_eq_true rfl) (by decide) (by decide) ?_
  refine s_istore_n (ls' := [(2, 1), (0, l1), (0, (min l1 (M 2 4))), (3, 0), (3, 0)]) C (d_of DX9_priceOf 6 rfl) (by decide) rfl rfl ?_
  refine s_iload_n C (d_of DX9_priceOf 7 rfl) rfl ?_
  refine s_iload_n C (d_of DX9_priceOf 8 rfl) rfl ?_
  obtain ⟨o2, h⟩ := h
  refine s_isub C (d_of DX9_priceOf 9 rfl) o2 ?_
  refine s_aload_n C (d_of DX9_priceOf 10 rfl) rfl ?_
  refine gf_X9_7 C (sh_1 hF1) (d_of DX9_priceOf 11 rfl) (fx_1_0 hF1) ?_
  refine s_iconst C (d_of DX9_priceOf 12 rfl) (by decide) ?_
  refine s_iald (v0 := (M 2 4)) C (sh_2 hF1) (by decide) (by decide) (d_of DX9_priceOf 13 rfl) rfl ?_
  refine s_mmin (st := []) C (d_of DX9_priceOf 14 rfl) wd_742 (Nat.le_of_ble_eq_true rfl) (by decide) (by decide) ?_
  refine s_istore_n (ls' := [(2, 1), (0, l1), (0, (min l1 (M 2 4))), (0, (min (l1 - (min l1 (M 2 4))) (M 2 4))), (3, 0)]) C (d_of DX9_priceOf 15 rfl) (by decide) rfl rfl ?_
  refine s_iload_n C (d_of DX9_priceOf 16 rfl) rfl ?_
  refine s_iload_n C (d_of DX9_priceOf 17 rfl) rfl ?_
  refine s_isub C (d_of DX9_priceOf 18 rfl) o2 ?_
  refine s_iload_n C (d_of DX9_priceOf 19 rfl) rfl ?_
  obtain ⟨o3, h⟩ := h
  refine s_isub C (d_of DX9_priceOf 20 rfl) o3 ?_
  refine s_istore (ls' := [(2, 1), (0, l1), (0, (min l1 (M 2 4))), (0, (min (l1 - (min l1 (M 2 4))) (M 2 4))), (0, ((l1 - (min l1 (M 2 4))) - (min (l1 - (min l1 (M 2 4))) (M 2 4))))]) C (d_of DX9_priceOf 21 rfl) (by decide) rfl rfl ?_
  refine s_iload_n C (d_of DX9_priceOf 22 rfl) rfl ?_
  refine s_aload_n C (d_of DX9_priceOf 23 rfl) rfl ?_
  refine gf_X9_7 C (sh_1 hF1) (d_of DX9_priceOf 24 rfl) (fx_1_0 hF1) ?_
  refine s_iconst C (d_of DX9_priceOf 25 rfl) (by decide) ?_
  refine s_iald (v0 := (M 2 5)) C (sh_2 hF1) (by decide) (by decide) (d_of DX9_priceOf 26 rfl) rfl ?_
  obtain ⟨o4, h⟩ := h
  refine s_imul C (d_of DX9_priceOf 27 rfl) o4 ?_
  refine s_iload_n C (d_of DX9_priceOf 28 rfl) rfl ?_
  refine s_aload_n C (d_of DX9_priceOf 29 rfl) rfl ?_
  refine gf_X9_7 C (sh_1 hF1) (d_of DX9_priceOf 30 rfl) (fx_1_0 hF1) ?_
  refine s_bipush C (d_of DX9_priceOf 31 rfl) ⟨rfl, by decide, by decide⟩ ?_
  refine s_iald (v0 := (M 2 6)) C (sh_2 hF1) (by decide) (by decide) (d_of DX9_priceOf 32 rfl) rfl ?_
  obtain ⟨o5, h⟩ := h
  refine s_imul C (d_of DX9_priceOf 33 rfl) o5 ?_
  obtain ⟨o6, h⟩ := h
  refine s_iadd C (d_of DX9_priceOf 34 rfl) o6 ?_
  refine s_iload C (d_of DX9_priceOf 35 rfl) rfl ?_
  refine s_aload_n C (d_of DX9_priceOf 36 rfl) rfl ?_
  refine gf_X9_7 C (sh_1 hF1) (d_of DX9_priceOf 37 rfl) (fx_1_0 hF1) ?_
  refine s_bipush C (d_of DX9_priceOf 38 rfl) ⟨rfl, by decide, by decide⟩ ?_
  refine s_iald (v0 := (M 2 7)) C (sh_2 hF1) (by decide) (by decide) (d_of DX9_priceOf 39 rfl) rfl ?_
  obtain ⟨o7, h⟩ := h
  refine s_imul C (d_of DX9_priceOf 40 rfl) o7 ?_
  obtain ⟨o8, h⟩ := h
  refine s_iadd C (d_of DX9_priceOf 41 rfl) o8 ?_
  exact s_ireturn C (d_of DX9_priceOf 42 rfl) h
theorem E_X9_priceOf {G : GP} {l : Launch} {P : Int → NS → MM → Prop} {l1 : Int} {w : NS} {M : MM} (h : inR l1 → ∀ X : BX, X.2.1 = l → CX_X9_priceOf G X → A_X9_priceOf_0 G X P l1 w M) : CT_X9_priceOf G l [(2, 1), (0, l1)] w M P :=
  CT.of RX9 "priceOf" (by decide +kernel) rfl rfl rfl (Nat.le_of_ble_eq_true rfl) (fun hr X hX C => h (hr (0, l1) (by simp)) X hX C)
def A_X9_bill_0 (G : GP) (X : BX) (P : Int → NS → MM → Prop) (l1 : Int) (l2 : Int) (w : NS) (M : MM) : Prop := WA true G X (QM G X true 0 P) 3 0 [(2, 1), (0, l1), (0, l2)] [] 0 0 w M
set_option maxHeartbeats 4000000 in
set_option maxRecDepth 100000 in
theorem B_X9_bill_0 {G : GP} {X : BX} {P : Int → NS → MM → Prop} {l1 : Int} {l2 : Int} {w : NS} {M : MM} (C : CX_X9_bill G X) (h : ((((0 ≤ l1 ∧ l1 ≤ 5)) → (((l2 ≠ 0 ∧ l2 ≠ 1) → P (-2) w M) ∧ (l2 = 0 → ∃ Q3 : Int → NS → MM → Prop, CT_X9_countSentTo G X.2.1 [(2, 1), (0, l1)] w M Q3 ∧ ∀ (z3 : Int) (w3 : NS) (M3 : MM), Q3 z3 w3 M3 → ∃ Q5 : Int → NS → MM → Prop, CT_X9_priceOf G X.2.1 [(2, 1), (0, z3)] w3 M3 Q5 ∧ ∀ (z5 : Int) (w5 : NS) (M5 : MM), Q5 z5 w5 M5 → (0 ≤ l1) ∧ (l1 < 6) ∧ (inR ((M5 2 8) * (M5 24 l1))) ∧ (inR (z5 - ((M5 2 8) * (M5 24 l1)))) ∧ P (max 0 (z5 - ((M5 2 8) * (M5 24 l1)))) w5 M5) ∧ (l2 = 1 → ∃ Q12 : Int → NS → MM → Prop, CT_X9_countSentTo G X.2.1 [(2, 1), (0, l1)] w M Q12 ∧ ∀ (z12 : Int) (w12 : NS) (M12 : MM), Q12 z12 w12 M12 → P z12 w12 M12))) ∧ ((¬ (0 ≤ l1 ∧ l1 ≤ 5)) → P (-1) w M))) : A_X9_bill_0 G X P l1 l2 w M := by
  unfold A_X9_bill_0
  refine s_iload_n C (d_of DX9_bill 0 rfl) rfl ?_
  refine s_callS (av := [(0, l1)]) (rest := []) (mc := 0) (ms := 0) C (d_of DX9_bill 1 rfl) lk_X9_202 rfl rfl (Nat.le_of_ble_eq_true rfl) (by decide) (by decide) (pc_X9_isClient) (fun z1 wz1 Mz1 hq => ?_)
  obtain ⟨hq1, hq2, hq3⟩ := hq
  have hq2 := hq2.symm
  have hq3 := hq3.symm
  subst hq1 hq2 hq3
  refine s_ifne C (d_of DX9_bill 2 rfl) rfl (fun hc => ?_) (fun hc => ?_)
  · have h := h.1 (b2i_n0 hc)
    refine s_iload_n C (d_of DX9_bill 5 rfl) rfl ?_
    rcases (show (l2 ≠ 0 ∧ l2 ≠ 1) ∨ l2 = 0 ∨ l2 = 1 from by omega) with hc | hc | hc
    · have h := h.1 hc
      refine s_lookup (off := 61) (tgt := 71) C (d_of DX9_bill 6 rfl) rfl (by simp [Op.lookupswitch.offset, Ne.symm hc.1, Ne.symm hc.2]) rfl ?_
      refine s_bipush C (d_of DX9_bill 29 rfl) ⟨rfl, by decide, by decide⟩ ?_
      exact s_ireturn C (d_of DX9_bill 30 rfl) h
    · have h := h.2.1 hc
      refine s_lookup (off := 26) (tgt := 36) C (d_of DX9_bill 6 rfl) rfl (by simp [Op.lookupswitch.offset, hc]) rfl ?_
      refine s_iconst C (d_of DX9_bill 7 rfl) (by decide) ?_
      refine s_aload_n C (d_of DX9_bill 8 rfl) rfl ?_
      refine s_aload_n C (d_of DX9_bill 9 rfl) rfl ?_
      refine s_iload_n C (d_of DX9_bill 10 rfl) rfl ?_
      refine WA.fix (fun hF2 => ?_)
      obtain ⟨Q3, hKQ3, h⟩ := h
      refine s_callV (ci := 9) (av := [(0, l1)]) (rest := [(2, 1), (0, 0)]) (mc := 0) (ms := 0) C (d_of DX9_bill 11 rfl) lk_X9_312 (sh_1 hF2) (by decide) rfl rfl rfl (Nat.le_of_ble_eq_true rfl) (by decide) (by decide) hKQ3 (fun z3 w3 M3 hq => ?_)
      have h := h z3 w3 M3 hq
      refine WA.fix (fun hF4 => ?_)
      obtain ⟨Q5, hKQ5, h⟩ := h
      refine s_callV (ci := 9) (av := [(0, z3)]) (rest := [(0, 0)]) (mc := 0) (ms := 0) C (d_of DX9_bill 12 rfl) lk_X9_315 (sh_1 hF4) (by decide) rfl rfl rfl (Nat.le_of_ble_eq_true rfl) (by decide) (by decide) hKQ5 (fun z5 w5 M5 hq => ?_)
      have h := h z5 w5 M5 hq
      refine s_aload_n C (d_of DX9_bill 13 rfl) rfl ?_
      refine WA.fix (fun hF6 => ?_)
      refine gf_X9_7 C (sh_1 hF6) (d_of DX9_bill 14 rfl) (fx_1_0 hF6) ?_
      refine s_bipush C (d_of DX9_bill 15 rfl) ⟨rfl, by decide, by decide⟩ ?_
      refine s_iald (v0 := (M5 2 8)) C (sh_2 hF6) (by decide) (by decide) (d_of DX9_bill 16 rfl) rfl ?_
      refine s_aload_n C (d_of DX9_bill 17 rfl) rfl ?_
      refine gf_X9_90 C (sh_1 hF6) (d_of DX9_bill 18 rfl) (fx_1_16 hF6) ?_
      refine s_iload_n C (d_of DX9_bill 19 rfl) rfl ?_
      obtain ⟨o7, h⟩ := h
      obtain ⟨o8, h⟩ := h
      refine s_iald (v0 := (M5 24 l1)) C (sh_24 hF6) o7 o8 (d_of DX9_bill 20 rfl) rfl ?_
      obtain ⟨o9, h⟩ := h
      refine s_imul C (d_of DX9_bill 21 rfl) o9 ?_
      obtain ⟨o10, h⟩ := h
      refine s_isub C (d_of DX9_bill 22 rfl) o10 ?_
      refine s_mmax (st := []) C (d_of DX9_bill 23 rfl) wd_743 (Nat.le_of_ble_eq_true rfl) (by decide) (by decide) ?_
      exact s_ireturn C (d_of DX9_bill 24 rfl) h
    · have h := h.2.2 hc
      refine s_lookup (off := 55) (tgt := 65) C (d_of DX9_bill 6 rfl) rfl (by simp [Op.lookupswitch.offset, hc]) rfl ?_
      refine s_aload_n C (d_of DX9_bill 25 rfl) rfl ?_
      refine s_iload_n C (d_of DX9_bill 26 rfl) rfl ?_
      refine WA.fix (fun hF11 => ?_)
      obtain ⟨Q12, hKQ12, h⟩ := h
      refine s_callV (ci := 9) (av := [(0, l1)]) (rest := []) (mc := 0) (ms := 0) C (d_of DX9_bill 27 rfl) lk_X9_312 (sh_1 hF11) (by decide) rfl rfl rfl (Nat.le_of_ble_eq_true rfl) (by decide) (by decide) hKQ12 (fun z12 w12 M12 hq => ?_)
      have h := h z12 w12 M12 hq
      exact s_ireturn C (d_of DX9_bill 28 rfl) h
  · have h := h.2 (b2i_nn hc)
    refine s_iconst C (d_of DX9_bill 3 rfl) (by decide) ?_
    exact s_ireturn C (d_of DX9_bill 4 rfl) h
theorem E_X9_bill {G : GP} {l : Launch} {P : Int → NS → MM → Prop} {l1 : Int} {l2 : Int} {w : NS} {M : MM} (h : inR l1 → inR l2 → ∀ X : BX, X.2.1 = l → CX_X9_bill G X → A_X9_bill_0 G X P l1 l2 w M) : CT_X9_bill G l [(2, 1), (0, l1), (0, l2)] w M P :=
  CT.of RX9 "bill" (by decide +kernel) rfl rfl rfl (Nat.le_of_ble_eq_true rfl) (fun hr X hX C => h (hr (0, l1) (by simp)) (hr (0, l2) (by simp)) X hX C)
def A_X9_file_0 (G : GP) (X : BX) (P : Int → NS → MM → Prop) (l1 : Int) (l2 : Int) (w : NS) (M : MM) : Prop := WA true G X (QM G X true 0 P) 5 0 [(2, 1), (0, l1), (0, l2), (3, 0), (3, 0)] [] 0 0 w M
set_option maxHeartbeats 4000000 in
set_option maxRecDepth 100000 in
theorem B_X9_file_0 {G : GP} {X : BX} {P : Int → NS → MM → Prop} {l1 : Int} {l2 : Int} {w : NS} {M : MM} (C : CX_X9_file G X) (h : (0 ≤ M 1 4) ∧ (M 1 4 ≤ 24) ∧ ((((pcO M l1) ≠ 0) → ((((0 ≤ l2 ∧ l2 ≤ 15)) → (w.2 (pcO M l1) = (7, 12)) ∧ P (M (pcO M l1) 10) w (up M (pcO M l1) 10 l2)) ∧ ((¬ (0 ≤ l2 ∧ l2 ≤ 15)) → P (-2) w M))) ∧ ((¬ ((pcO M l1) ≠ 0)) → P (-1) w M))) : A_X9_file_0 G X P l1 l2 w M := by
  unfold A_X9_file_0
  refine s_aload_n C (d_of DX9_file 0 rfl) rfl ?_
  refine s_iload_n C (d_of DX9_file 1 rfl) rfl ?_
  refine WA.fix (fun hF1 => ?_)
  obtain ⟨o2, h⟩ := h
  obtain ⟨o3, h⟩ := h
  refine s_callV (ci := 9) (av := [(0, l1)]) (rest := []) (mc := 0) (ms := 0) C (d_of DX9_file 2 rfl) lk_X9_158 (sh_1 hF1) (by decide) rfl rfl rfl (Nat.le_of_ble_eq_true rfl) (by decide) (by decide) (pc_X9_pieceOf o2 o3) (fun z4 wz4 Mz4 hq => ?_)
  obtain ⟨hq1, hq2, hq3⟩ := hq
  have hq2 := hq2.symm
  have hq3 := hq3.symm
  subst hq1 hq2 hq3
  refine s_astore_n (ls' := [(2, 1), (0, l1), (0, l2), (2, (pcO M l1)), (3, 0)]) C (d_of DX9_file 3 rfl) (by decide) rfl rfl ?_
  refine s_aload_n C (d_of DX9_file 4 rfl) rfl ?_
  refine s_ifnonnull C (d_of DX9_file 5 rfl) rfl (fun hc => ?_) (fun hc => ?_)
  · have h := h.1 hc
    refine s_iload_n C (d_of DX9_file 8 rfl) rfl ?_
    refine s_iconst C (d_of DX9_file 9 rfl) (by decide) ?_
    refine s_bipush C (d_of DX9_file 10 rfl) ⟨rfl, by decide, by decide⟩ ?_
    refine s_callS (av := [(0, l2), (0, 0), (0, 15)]) (rest := []) (mc := 0) (ms := 0) C (d_of DX9_file 11 rfl) lk_X9_95 rfl rfl (Nat.le_of_ble_eq_true rfl) (by decide) (by decide) (pc_X9_within) (fun z5 wz5 Mz5 hq => ?_)
    obtain ⟨hq1, hq2, hq3⟩ := hq
    have hq2 := hq2.symm
    have hq3 := hq3.symm
    subst hq1 hq2 hq3
    refine s_ifne C (d_of DX9_file 12 rfl) rfl (fun hc => ?_) (fun hc => ?_)
    · have h := h.1 (b2i_n0 hc)
      refine s_aload_n C (d_of DX9_file 15 rfl) rfl ?_
      obtain ⟨o6, h⟩ := h
      refine gf_X9_172 (v0 := (M (pcO M l1) 10)) C o6 (d_of DX9_file 16 rfl) rfl ?_
      refine s_istore (ls' := [(2, 1), (0, l1), (0, l2), (2, (pcO M l1)), (0, (M (pcO M l1) 10))]) C (d_of DX9_file 17 rfl) (by decide) rfl rfl ?_
      refine s_aload_n C (d_of DX9_file 18 rfl) rfl ?_
      refine s_iload_n C (d_of DX9_file 19 rfl) rfl ?_
      refine pf_X9_172 C o6 (fun _ => by decide) (d_of DX9_file 20 rfl) ?_
      refine s_iload C (d_of DX9_file 21 rfl) rfl ?_
      exact s_ireturn C (d_of DX9_file 22 rfl) h
    · have h := h.2 (b2i_nn hc)
      refine s_bipush C (d_of DX9_file 13 rfl) ⟨rfl, by decide, by decide⟩ ?_
      exact s_ireturn C (d_of DX9_file 14 rfl) h
  · have h := h.2 hc
    refine s_iconst C (d_of DX9_file 6 rfl) (by decide) ?_
    exact s_ireturn C (d_of DX9_file 7 rfl) h
theorem E_X9_file {G : GP} {l : Launch} {P : Int → NS → MM → Prop} {l1 : Int} {l2 : Int} {w : NS} {M : MM} (h : inR l1 → inR l2 → ∀ X : BX, X.2.1 = l → CX_X9_file G X → A_X9_file_0 G X P l1 l2 w M) : CT_X9_file G l [(2, 1), (0, l1), (0, l2)] w M P :=
  CT.of RX9 "file" (by decide +kernel) rfl rfl rfl (Nat.le_of_ble_eq_true rfl) (fun hr X hX C => h (hr (0, l1) (by simp)) (hr (0, l2) (by simp)) X hX C)
def A_X9_old_0 (G : GP) (X : BX) (P : Int → NS → MM → Prop) (l1 : Int) (l2 : Int) (l3 : Int) (l4 : Int) (w : NS) (M : MM) : Prop := WA true G X (QM G X true 0 P) 8 0 [(2, 1), (0, l1), (0, l2), (0, l3), (0, l4), (3, 0), (3, 0), (3, 0)] [] 0 0 w M
def A_X9_old_32 (G : GP) (X : BX) (P : Int → NS → MM → Prop) (l1 : Int) (l2 : Int) (l3 : Int) (l4 : Int) (l5 : Int) (l6 : Int) (w : NS) (M : MM) : Prop := WA true G X (QM G X true 0 P) 8 32 [(2, 1), (0, l1), (0, l2), (0, l3), (0, l4), (0, l5), (0, l6), (3, 0)] [] 0 0 w M
set_option maxHeartbeats 4000000 in
set_option maxRecDepth 100000 in
theorem B_X9_old_0 {G : GP} {X : BX} {P : Int → NS → MM → Prop} {l1 : Int} {l2 : Int} {l3 : Int} {l4 : Int} {w : NS} {M : MM} (C : CX_X9_old G X) (h : ((((0 ≤ l1 ∧ l1 ≤ 3)) → (((¬ (0 ≤ l2 ∧ l2 ≤ 99)) → P (-2) w M) ∧ (((0 ≤ l2 ∧ l2 ≤ 99)) → ((((0 ≤ l3 ∧ l3 ≤ 99)) → A_X9_old_32 G X P l1 l2 l3 l4 0 0 w M) ∧ ((¬ (0 ≤ l3 ∧ l3 ≤ 99)) → P (-2) w M))))) ∧ ((¬ (0 ≤ l1 ∧ l1 ≤ 3)) → P (-1) w M))) : A_X9_old_0 G X P l1 l2 l3 l4 w M := by
  unfold A_X9_old_0
  refine s_iload_n C (d_of DX9_old 0 rfl) rfl ?_
  refine s_callS (av := [(0, l1)]) (rest := []) (mc := 0) (ms := 0) C (d_of DX9_old 1 rfl) lk_X9_235 rfl rfl (Nat.le_of_ble_eq_true rfl) (by decide) (by decide) (pc_X9_isName) (fun z1 wz1 Mz1 hq => ?_)
  obtain ⟨hq1, hq2, hq3⟩ := hq
  have hq2 := hq2.symm
  have hq3 := hq3.symm
  subst hq1 hq2 hq3
  refine s_ifne C (d_of DX9_old 2 rfl) rfl (fun hc => ?_) (fun hc => ?_)
  · have h := h.1 (b2i_n0 hc)
    refine s_iload_n C (d_of DX9_old 5 rfl) rfl ?_
    refine s_callS (av := [(0, l2)]) (rest := []) (mc := 0) (ms := 0) C (d_of DX9_old 6 rfl) lk_X9_99 rfl rfl (Nat.le_of_ble_eq_true rfl) (by decide) (by decide) (pc_X9_isDay) (fun z2 wz2 Mz2 hq => ?_)
    obtain ⟨hq1, hq2, hq3⟩ := hq
    have hq2 := hq2.symm
    have hq3 := hq3.symm
    subst hq1 hq2 hq3
    refine s_ifeq C (d_of DX9_old 7 rfl) rfl (fun hc => ?_) (fun hc => ?_)
    · have h := h.1 (b2i_0.mp hc)
      refine s_bipush C (d_of DX9_old 11 rfl) ⟨rfl, by decide, by decide⟩ ?_
      exact s_ireturn C (d_of DX9_old 12 rfl) h
    · have h := h.2 (b2i_n0 hc)
      refine s_iload_n C (d_of DX9_old 8 rfl) rfl ?_
      refine s_callS (av := [(0, l3)]) (rest := []) (mc := 0) (ms := 0) C (d_of DX9_old 9 rfl) lk_X9_99 rfl rfl (Nat.le_of_ble_eq_true rfl) (by decide) (by decide) (pc_X9_isDay) (fun z3 wz3 Mz3 hq => ?_)
      obtain ⟨hq1, hq2, hq3⟩ := hq
      have hq2 := hq2.symm
      have hq3 := hq3.symm
      subst hq1 hq2 hq3
      refine s_ifne C (d_of DX9_old 10 rfl) rfl (fun hc => ?_) (fun hc => ?_)
      · have h := h.1 (b2i_n0 hc)
        refine s_iconst C (d_of DX9_old 13 rfl) (by decide) ?_
        refine s_istore (ls' := [(2, 1), (0, l1), (0, l2), (0, l3), (0, l4), (0, 0), (3, 0), (3, 0)]) C (d_of DX9_old 14 rfl) (by decide) rfl rfl ?_
        refine s_iconst C (d_of DX9_old 15 rfl) (by decide) ?_
        refine s_istore (ls' := [(2, 1), (0, l1), (0, l2), (0, l3), (0, l4), (0, 0), (0, 0), (3, 0)]) C (d_of DX9_old 16 rfl) (by decide) rfl rfl ?_
        exact h
      · have h := h.2 (b2i_nn hc)
        refine s_bipush C (d_of DX9_old 11 rfl) ⟨rfl, by decide, by decide⟩ ?_
        exact s_ireturn C (d_of DX9_old 12 rfl) h
  · have h := h.2 (b2i_nn hc)
    refine s_iconst C (d_of DX9_old 3 rfl) (by decide) ?_
    exact s_ireturn C (d_of DX9_old 4 rfl) h
set_option maxHeartbeats 4000000 in
set_option maxRecDepth 100000 in
theorem B_X9_old_32 {G : GP} {X : BX} {P : Int → NS → MM → Prop} {l1 : Int} {l2 : Int} {l3 : Int} {l4 : Int} {l5 : Int} {l6 : Int} {w : NS} {M : MM} (C : CX_X9_old G X) (h : ((((M 1 4) ≤ l6) → (((l4 ≠ (-1)) → P (-6) w M) ∧ ((¬ (l4 ≠ (-1))) → P l5 w M))) ∧ ((¬ ((M 1 4) ≤ l6)) → (0 ≤ l6) ∧ (l6 < 24) ∧ (w.2 (M 5 l6) = (7, 12)) ∧ (((¬ (zand (zshr (M (M 5 l6) 10) l1) 1 = 1)) → (inR (l6 + 1)) ∧ A_X9_old_32 G X P l1 l2 l3 l4 l5 (l6 + 1) w M) ∧ (((zand (zshr (M (M 5 l6) 10) l1) 1 = 1)) → (w.2 (M (M 5 l6) 1) = (5, 5)) ∧ (((¬ (l2 ≤ (M (M (M 5 l6) 1) 2) ∧ (M (M (M 5 l6) 1) 2) ≤ l3)) → (inR (l6 + 1)) ∧ A_X9_old_32 G X P l1 l2 l3 l4 l5 (l6 + 1) w M) ∧ (((l2 ≤ (M (M (M 5 l6) 1) 2) ∧ (M (M (M 5 l6) 1) 2) ≤ l3)) → (((l5 ≠ l4) → (inR (l5 + 1)) ∧ (inR (l6 + 1)) ∧ A_X9_old_32 G X P l1 l2 l3 l4 (l5 + 1) (l6 + 1) w M) ∧ ((¬ (l5 ≠ l4)) → P (M (M 5 l6) 0) w M))))))))) : A_X9_old_32 G X P l1 l2 l3 l4 l5 l6 w M := by
  unfold A_X9_old_32
  refine s_iload C (d_of DX9_old 17 rfl) rfl ?_
  refine s_aload_n C (d_of DX9_old 18 rfl) rfl ?_
  refine WA.fix (fun hF1 => ?_)
  refine gf_X9_29 (v0 := (M 1 4)) C (sh_1 hF1) (d_of DX9_old 19 rfl) rfl ?_
  refine s_icmpge C (d_of DX9_old 20 rfl) rfl (fun hc => ?_) (fun hc => ?_)
  · have h := h.1 hc
    refine s_iload C (d_of DX9_old 47 rfl) rfl ?_
    refine s_iconst C (d_of DX9_old 48 rfl) (by decide) ?_
    refine s_icmpne C (d_of DX9_old 49 rfl) rfl (fun hc => ?_) (fun hc => ?_)
    · have h := h.1 hc
      refine s_bipush C (d_of DX9_old 52 rfl) ⟨rfl, by decide, by decide⟩ ?_
      exact s_ireturn C (d_of DX9_old 53 rfl) h
    · have h := h.2 hc
      refine s_iload C (d_of DX9_old 50 rfl) rfl ?_
      refine s_goto C (d_of DX9_old 51 rfl) rfl ?_
      exact s_ireturn C (d_of DX9_old 53 rfl) h
  · have h := h.2 hc
    refine s_aload_n C (d_of DX9_old 21 rfl) rfl ?_
    refine gf_X9_32 C (sh_1 hF1) (d_of DX9_old 22 rfl) (fx_1_5 hF1) ?_
    refine s_iload C (d_of DX9_old 23 rfl) rfl ?_
    obtain ⟨o2, h⟩ := h
    obtain ⟨o3, h⟩ := h
    refine s_aald (v0 := (M 5 l6)) (t0 := 6) C (sh_5 hF1) (by decide) rfl o2 o3 (d_of DX9_old 24 rfl) rfl ?_
    refine s_astore (ls' := [(2, 1), (0, l1), (0, l2), (0, l3), (0, l4), (0, l5), (0, l6), (2, (M 5 l6))]) C (d_of DX9_old 25 rfl) (by decide) rfl rfl ?_
    refine s_aload C (d_of DX9_old 26 rfl) rfl ?_
    obtain ⟨o4, h⟩ := h
    refine gf_X9_172 (v0 := (M (M 5 l6) 10)) C o4 (d_of DX9_old 27 rfl) rfl ?_
    refine s_iload_n C (d_of DX9_old 28 rfl) rfl ?_
    refine s_callS (av := [(0, (M (M 5 l6) 10)), (0, l1)]) (rest := []) (mc := 0) (ms := 0) C (d_of DX9_old 29 rfl) lk_X9_292 rfl rfl (Nat.le_of_ble_eq_true rfl) (by decide) (by decide) (pc_X9_hasBit) (fun z5 wz5 Mz5 hq => ?_)
    obtain ⟨hq1, hq2, hq3⟩ := hq
    have hq2 := hq2.symm
    have hq3 := hq3.symm
    subst hq1 hq2 hq3
    refine s_ifeq C (d_of DX9_old 30 rfl) rfl (fun hc => ?_) (fun hc => ?_)
    · have h := h.1 (b2i_0.mp hc)
      obtain ⟨o6, h⟩ := h
      refine s_iinc (ls' := [(2, 1), (0, l1), (0, l2), (0, l3), (0, l4), (0, l5), (0, (l6 + 1)), (2, (M 5 l6))]) C (d_of DX9_old 45 rfl) (by decide) rfl o6 rfl rfl ?_
      refine s_goto C (d_of DX9_old 46 rfl) rfl ?_
      exact WA.wk h ⟨Or.inr rfl, Or.inr rfl, Or.inr rfl, Or.inr rfl, Or.inr rfl, Or.inr rfl, Or.inr rfl, Or.inl rfl, trivial⟩
    · have h := h.2 (b2i_n0 hc)
      refine s_aload C (d_of DX9_old 31 rfl) rfl ?_
      refine gf_X9_166 (v0 := (M (M 5 l6) 1)) C o4 (d_of DX9_old 32 rfl) rfl ?_
      obtain ⟨o7, h⟩ := h
      refine gf_X9_131 (v0 := (M (M (M 5 l6) 1) 2)) C o7 (d_of DX9_old 33 rfl) rfl ?_
      refine s_iload_n C (d_of DX9_old 34 rfl) rfl ?_
      refine s_iload_n C (d_of DX9_old 35 rfl) rfl ?_
      refine s_callS (av := [(0, (M (M (M 5 l6) 1) 2)), (0, l2), (0, l3)]) (rest := []) (mc := 0) (ms := 0) C (d_of DX9_old 36 rfl) lk_X9_95 rfl rfl (Nat.le_of_ble_eq_true rfl) (by decide) (by decide) (pc_X9_within) (fun z8 wz8 Mz8 hq => ?_)
      obtain ⟨hq1, hq2, hq3⟩ := hq
      have hq2 := hq2.symm
      have hq3 := hq3.symm
      subst hq1 hq2 hq3
      refine s_ifeq C (d_of DX9_old 37 rfl) rfl (fun hc => ?_) (fun hc => ?_)
      · have h := h.1 (b2i_0.mp hc)
        obtain ⟨o9, h⟩ := h
        refine s_iinc (ls' := [(2, 1), (0, l1), (0, l2), (0, l3), (0, l4), (0, l5), (0, (l6 + 1)), (2, (M 5 l6))]) C (d_of DX9_old 45 rfl) (by decide) rfl o9 rfl rfl ?_
        refine s_goto C (d_of DX9_old 46 rfl) rfl ?_
        exact WA.wk h ⟨Or.inr rfl, Or.inr rfl, Or.inr rfl, Or.inr rfl, Or.inr rfl, Or.inr rfl, Or.inr rfl, Or.inl rfl, trivial⟩
      · have h := h.2 (b2i_n0 hc)
        refine s_iload C (d_of DX9_old 38 rfl) rfl ?_
        refine s_iload C (d_of DX9_old 39 rfl) rfl ?_
        refine s_icmpne C (d_of DX9_old 40 rfl) rfl (fun hc => ?_) (fun hc => ?_)
        · have h := h.1 hc
          obtain ⟨o10, h⟩ := h
          refine s_iinc (ls' := [(2, 1), (0, l1), (0, l2), (0, l3), (0, l4), (0, (l5 + 1)), (0, l6), (2, (M 5 l6))]) C (d_of DX9_old 44 rfl) (by decide) rfl o10 rfl rfl ?_
          obtain ⟨o11, h⟩ := h
          refine s_iinc (ls' := [(2, 1), (0, l1), (0, l2), (0, l3), (0, l4), (0, (l5 + 1)), (0, (l6 + 1)), (2, (M 5 l6))]) C (d_of DX9_old 45 rfl) (by decide) rfl o11 rfl rfl ?_
          refine s_goto C (d_of DX9_old 46 rfl) rfl ?_
          exact WA.wk h ⟨Or.inr rfl, Or.inr rfl, Or.inr rfl, Or.inr rfl, Or.inr rfl, Or.inr rfl, Or.inr rfl, Or.inl rfl, trivial⟩
        · have h := h.2 hc
          refine s_aload C (d_of DX9_old 41 rfl) rfl ?_
          refine gf_X9_324 (v0 := (M (M 5 l6) 0)) C o4 (d_of DX9_old 42 rfl) rfl ?_
          exact s_ireturn C (d_of DX9_old 43 rfl) h
theorem E_X9_old {G : GP} {l : Launch} {P : Int → NS → MM → Prop} {l1 : Int} {l2 : Int} {l3 : Int} {l4 : Int} {w : NS} {M : MM} (h : inR l1 → inR l2 → inR l3 → inR l4 → ∀ X : BX, X.2.1 = l → CX_X9_old G X → A_X9_old_0 G X P l1 l2 l3 l4 w M) : CT_X9_old G l [(2, 1), (0, l1), (0, l2), (0, l3), (0, l4)] w M P :=
  CT.of RX9 "old" (by decide +kernel) rfl rfl rfl (Nat.le_of_ble_eq_true rfl) (fun hr X hX C => h (hr (0, l1) (by simp)) (hr (0, l2) (by simp)) (hr (0, l3) (by simp)) (hr (0, l4) (by simp)) X hX C)
def A_X9_countSent_0 (G : GP) (X : BX) (P : Int → NS → MM → Prop) (w : NS) (M : MM) : Prop := WA true G X (QM G X true 0 P) 3 0 [(2, 1), (3, 0), (3, 0)] [] 0 0 w M
def A_X9_countSent_4 (G : GP) (X : BX) (P : Int → NS → MM → Prop) (l1 : Int) (l2 : Int) (w : NS) (M : MM) : Prop := WA true G X (QM G X true 0 P) 3 4 [(2, 1), (0, l1), (0, l2)] [] 0 0 w M
set_option maxHeartbeats 4000000 in
set_option maxRecDepth 100000 in
theorem B_X9_countSent_0 {G : GP} {X : BX} {P : Int → NS → MM → Prop} {w : NS} {M : MM} (C : CX_X9_countSent G X) (h : A_X9_countSent_4 G X P 0 0 w M) : A_X9_countSent_0 G X P w M := by
  unfold A_X9_countSent_0
  refine s_iconst C (d_of DX9_countSent 0 rfl) (by decide) ?_
  refine s_istore_n (ls' := [(2, 1), (0, 0), (3, 0)]) C (d_of DX9_countSent 1 rfl) (by decide) rfl rfl ?_
  refine s_iconst C (d_of DX9_countSent 2 rfl) (by decide) ?_
  refine s_istore_n (ls' := [(2, 1), (0, 0), (0, 0)]) C (d_of DX9_countSent 3 rfl) (by decide) rfl rfl ?_
  exact h
set_option maxHeartbeats 4000000 in
set_option maxRecDepth 100000 in
theorem B_X9_countSent_4 {G : GP} {X : BX} {P : Int → NS → MM → Prop} {l1 : Int} {l2 : Int} {w : NS} {M : MM} (C : CX_X9_countSent G X) (h : ((((M 1 4) ≤ l2) → P l1 w M) ∧ ((¬ ((M 1 4) ≤ l2)) → (0 ≤ l2) ∧ (l2 < 24) ∧ (w.2 (M 4 l2) = (7, 12)) ∧ (0 ≤ (M (M 4 l2) 11)) ∧ ((M (M 4 l2) 11) < 16777216) ∧ (inR (l1 + (popc (M (M 4 l2) 11)))) ∧ (inR (l2 + 1)) ∧ A_X9_countSent_4 G X P (l1 + (popc (M (M 4 l2) 11))) (l2 + 1) w M))) : A_X9_countSent_4 G X P l1 l2 w M := by
  unfold A_X9_countSent_4
  refine s_iload_n C (d_of DX9_countSent 4 rfl) rfl ?_
  refine s_aload_n C (d_of DX9_countSent 5 rfl) rfl ?_
  refine WA.fix (fun hF1 => ?_)
  refine gf_X9_29 (v0 := (M 1 4)) C (sh_1 hF1) (d_of DX9_countSent 6 rfl) rfl ?_
  refine s_icmpge C (d_of DX9_countSent 7 rfl) rfl (fun hc => ?_) (fun hc => ?_)
  · have h := h.1 hc
    refine s_iload_n C (d_of DX9_countSent 19 rfl) rfl ?_
    exact s_ireturn C (d_of DX9_countSent 20 rfl) h
  · have h := h.2 hc
    refine s_iload_n C (d_of DX9_countSent 8 rfl) rfl ?_
    refine s_aload_n C (d_of DX9_countSent 9 rfl) rfl ?_
    refine gf_X9_25 C (sh_1 hF1) (d_of DX9_countSent 10 rfl) (fx_1_3 hF1) ?_
    refine s_iload_n C (d_of DX9_countSent 11 rfl) rfl ?_
    obtain ⟨o2, h⟩ := h
    obtain ⟨o3, h⟩ := h
    refine s_aald (v0 := (M 4 l2)) (t0 := 6) C (sh_4 hF1) (by decide) rfl o2 o3 (d_of DX9_countSent 12 rfl) rfl ?_
    obtain ⟨o4, h⟩ := h
    refine gf_X9_174 (v0 := (M (M 4 l2) 11)) C o4 (d_of DX9_countSent 13 rfl) rfl ?_
    obtain ⟨o5, h⟩ := h
    obtain ⟨o6, h⟩ := h
    refine s_callS (av := [(0, (M (M 4 l2) 11))]) (rest := [(0, l1)]) (mc := 0) (ms := 0) C (d_of DX9_countSent 14 rfl) lk_X9_268 rfl rfl (Nat.le_of_ble_eq_true rfl) (by decide) (by decide) (pc_J6_bitCount o5 o6) (fun z7 wz7 Mz7 hq => ?_)
    obtain ⟨hq1, hq2, hq3⟩ := hq
    have hq2 := hq2.symm
    have hq3 := hq3.symm
    subst hq1 hq2 hq3
    obtain ⟨o8, h⟩ := h
    refine s_iadd C (d_of DX9_countSent 15 rfl) o8 ?_
    refine s_istore_n (ls' := [(2, 1), (0, (l1 + (popc (M (M 4 l2) 11)))), (0, l2)]) C (d_of DX9_countSent 16 rfl) (by decide) rfl rfl ?_
    obtain ⟨o9, h⟩ := h
    refine s_iinc (ls' := [(2, 1), (0, (l1 + (popc (M (M 4 l2) 11)))), (0, (l2 + 1))]) C (d_of DX9_countSent 17 rfl) (by decide) rfl o9 rfl rfl ?_
    refine s_goto C (d_of DX9_countSent 18 rfl) rfl ?_
    exact h
theorem E_X9_countSent {G : GP} {l : Launch} {P : Int → NS → MM → Prop} {w : NS} {M : MM} (h : ∀ X : BX, X.2.1 = l → CX_X9_countSent G X → A_X9_countSent_0 G X P w M) : CT_X9_countSent G l [(2, 1)] w M P :=
  CT.of RX9 "countSent" (by decide +kernel) rfl rfl rfl (Nat.le_of_ble_eq_true rfl) (fun hr X hX C => h  X hX C)
def A_X9_countMissed_0 (G : GP) (X : BX) (P : Int → NS → MM → Prop) (w : NS) (M : MM) : Prop := WA true G X (QM G X true 0 P) 3 0 [(2, 1), (3, 0), (3, 0)] [] 0 0 w M
def A_X9_countMissed_4 (G : GP) (X : BX) (P : Int → NS → MM → Prop) (l1 : Int) (l2 : Int) (w : NS) (M : MM) : Prop := WA true G X (QM G X true 0 P) 3 4 [(2, 1), (0, l1), (0, l2)] [] 0 0 w M
set_option maxHeartbeats 4000000 in
set_option maxRecDepth 100000 in
theorem B_X9_countMissed_0 {G : GP} {X : BX} {P : Int → NS → MM → Prop} {w : NS} {M : MM} (C : CX_X9_countMissed G X) (h : A_X9_countMissed_4 G X P 0 0 w M) : A_X9_countMissed_0 G X P w M := by
  unfold A_X9_countMissed_0
  refine s_iconst C (d_of DX9_countMissed 0 rfl) (by decide) ?_
  refine s_istore_n (ls' := [(2, 1), (0, 0), (3, 0)]) C (d_of DX9_countMissed 1 rfl) (by decide) rfl rfl ?_
  refine s_iconst C (d_of DX9_countMissed 2 rfl) (by decide) ?_
  refine s_istore_n (ls' := [(2, 1), (0, 0), (0, 0)]) C (d_of DX9_countMissed 3 rfl) (by decide) rfl rfl ?_
  exact h
set_option maxHeartbeats 4000000 in
set_option maxRecDepth 100000 in
theorem B_X9_countMissed_4 {G : GP} {X : BX} {P : Int → NS → MM → Prop} {l1 : Int} {l2 : Int} {w : NS} {M : MM} (C : CX_X9_countMissed G X) (h : (((6 ≤ l2) → P l1 w M) ∧ ((¬ (6 ≤ l2)) → (0 ≤ l2) ∧ (l2 < 6) ∧ (inR (l1 + (M 24 l2))) ∧ (inR (l2 + 1)) ∧ A_X9_countMissed_4 G X P (l1 + (M 24 l2)) (l2 + 1) w M))) : A_X9_countMissed_4 G X P l1 l2 w M := by
  unfold A_X9_countMissed_4
  refine s_iload_n C (d_of DX9_countMissed 4 rfl) rfl ?_
  refine s_bipush C (d_of DX9_countMissed 5 rfl) ⟨rfl, by decide, by decide⟩ ?_
  refine s_icmpge C (d_of DX9_countMissed 6 rfl) rfl (fun hc => ?_) (fun hc => ?_)
  · have h := h.1 hc
    refine s_iload_n C (d_of DX9_countMissed 16 rfl) rfl ?_
    exact s_ireturn C (d_of DX9_countMissed 17 rfl) h
  · have h := h.2 hc
    refine s_iload_n C (d_of DX9_countMissed 7 rfl) rfl ?_
    refine s_aload_n C (d_of DX9_countMissed 8 rfl) rfl ?_
    refine WA.fix (fun hF1 => ?_)
    refine gf_X9_90 C (sh_1 hF1) (d_of DX9_countMissed 9 rfl) (fx_1_16 hF1) ?_
    refine s_iload_n C (d_of DX9_countMissed 10 rfl) rfl ?_
    obtain ⟨o2, h⟩ := h
    obtain ⟨o3, h⟩ := h
    refine s_iald (v0 := (M 24 l2)) C (sh_24 hF1) o2 o3 (d_of DX9_countMissed 11 rfl) rfl ?_
    obtain ⟨o4, h⟩ := h
    refine s_iadd C (d_of DX9_countMissed 12 rfl) o4 ?_
    refine s_istore_n (ls' := [(2, 1), (0, (l1 + (M 24 l2))), (0, l2)]) C (d_of DX9_countMissed 13 rfl) (by decide) rfl rfl ?_
    obtain ⟨o5, h⟩ := h
    refine s_iinc (ls' := [(2, 1), (0, (l1 + (M 24 l2))), (0, (l2 + 1))]) C (d_of DX9_countMissed 14 rfl) (by decide) rfl o5 rfl rfl ?_
    refine s_goto C (d_of DX9_countMissed 15 rfl) rfl ?_
    exact h
theorem E_X9_countMissed {G : GP} {l : Launch} {P : Int → NS → MM → Prop} {w : NS} {M : MM} (h : ∀ X : BX, X.2.1 = l → CX_X9_countMissed G X → A_X9_countMissed_0 G X P w M) : CT_X9_countMissed G l [(2, 1)] w M P :=
  CT.of RX9 "countMissed" (by decide +kernel) rfl rfl rfl (Nat.le_of_ble_eq_true rfl) (fun hr X hX C => h  X hX C)
def A_X9_told_0 (G : GP) (X : BX) (P : Int → NS → MM → Prop) (l1 : Int) (w : NS) (M : MM) : Prop := WA true G X (QM G X true 0 P) 2 0 [(2, 1), (0, l1)] [] 0 0 w M
set_option maxHeartbeats 4000000 in
set_option maxRecDepth 100000 in
theorem B_X9_told_0 {G : GP} {X : BX} {P : Int → NS → MM → Prop} {l1 : Int} {w : NS} {M : MM} (C : CX_X9_told G X) (h : (((¬ (10 ≤ l1 ∧ l1 ≤ 18)) → (((l1 < 0 ∨ 5 < l1) → P (-2) w M) ∧ (l1 = 0 → P (M 1 2) w M) ∧ (l1 = 1 → P (M 1 4) w M) ∧ (l1 = 2 → P (M 1 7) w M) ∧ (l1 = 3 → (w.2 (M 1 8) = (9, 2)) ∧ P (M (M 1 8) 1) w M) ∧ (l1 = 4 → ∃ Q8 : Int → NS → MM → Prop, CT_X9_countSent G X.2.1 [(2, 1)] w M Q8 ∧ ∀ (z8 : Int) (w8 : NS) (M8 : MM), Q8 z8 w8 M8 → P z8 w8 M8) ∧ (l1 = 5 → ∃ Q10 : Int → NS → MM → Prop, CT_X9_countMissed G X.2.1 [(2, 1)] w M Q10 ∧ ∀ (z10 : Int) (w10 : NS) (M10 : MM), Q10 z10 w10 M10 → P z10 w10 M10))) ∧ (((10 ≤ l1 ∧ l1 ≤ 18)) → (inR (l1 - 10)) ∧ (0 ≤ (l1 - 10)) ∧ ((l1 - 10) < 9) ∧ P (M 2 (l1 - 10)) w M))) : A_X9_told_0 G X P l1 w M := by
  unfold A_X9_told_0
  refine s_iload_n C (d_of DX9_told 0 rfl) rfl ?_
  refine s_bipush C (d_of DX9_told 1 rfl) ⟨rfl, by decide, by decide⟩ ?_
  refine s_bipush C (d_of DX9_told 2 rfl) ⟨rfl, by decide, by decide⟩ ?_
  refine s_callS (av := [(0, l1), (0, 10), (0, 18)]) (rest := []) (mc := 0) (ms := 0) C (d_of DX9_told 3 rfl) lk_X9_95 rfl rfl (Nat.le_of_ble_eq_true rfl) (by decide) (by decide) (pc_X9_within) (fun z1 wz1 Mz1 hq => ?_)
  obtain ⟨hq1, hq2, hq3⟩ := hq
  have hq2 := hq2.symm
  have hq3 := hq3.symm
  subst hq1 hq2 hq3
  refine s_ifeq C (d_of DX9_told 4 rfl) rfl (fun hc => ?_) (fun hc => ?_)
  · have h := h.1 (b2i_0.mp hc)
    refine s_iload_n C (d_of DX9_told 12 rfl) rfl ?_
    rcases (show (l1 < 0 ∨ 5 < l1) ∨ l1 = 0 ∨ l1 = 1 ∨ l1 = 2 ∨ l1 = 3 ∨ l1 = 4 ∨ l1 = 5 from by omega) with hc | hc | hc | hc | hc | hc | hc
    · have h := h.1 hc
      refine s_tabOut C (d_of DX9_told 13 rfl) hc rfl ?_
      refine s_bipush C (d_of DX9_told 33 rfl) ⟨rfl, by decide, by decide⟩ ?_
      exact s_ireturn C (d_of DX9_told 34 rfl) h
    · have h := h.2.1 hc
      refine s_tabIn C (d_of DX9_told 13 rfl) hc (by decide) (by decide) rfl rfl ?_
      refine s_aload_n C (d_of DX9_told 14 rfl) rfl ?_
      refine WA.fix (fun hF2 => ?_)
      refine gf_X9_19 (v0 := (M 1 2)) C (sh_1 hF2) (d_of DX9_told 15 rfl) rfl ?_
      exact s_ireturn C (d_of DX9_told 16 rfl) h
    · have h := h.2.2.1 hc
      refine s_tabIn C (d_of DX9_told 13 rfl) hc (by decide) (by decide) rfl rfl ?_
      refine s_aload_n C (d_of DX9_told 17 rfl) rfl ?_
      refine WA.fix (fun hF3 => ?_)
      refine gf_X9_29 (v0 := (M 1 4)) C (sh_1 hF3) (d_of DX9_told 18 rfl) rfl ?_
      exact s_ireturn C (d_of DX9_told 19 rfl) h
    · have h := h.2.2.2.1 hc
      refine s_tabIn C (d_of DX9_told 13 rfl) hc (by decide) (by decide) rfl rfl ?_
      refine s_aload_n C (d_of DX9_told 20 rfl) rfl ?_
      refine WA.fix (fun hF4 => ?_)
      refine gf_X9_41 (v0 := (M 1 7)) C (sh_1 hF4) (d_of DX9_told 21 rfl) rfl ?_
      exact s_ireturn C (d_of DX9_told 22 rfl) h
    · have h := h.2.2.2.2.1 hc
      refine s_tabIn C (d_of DX9_told 13 rfl) hc (by decide) (by decide) rfl rfl ?_
      refine s_aload_n C (d_of DX9_told 23 rfl) rfl ?_
      refine WA.fix (fun hF5 => ?_)
      refine gf_X9_47 (v0 := (M 1 8)) C (sh_1 hF5) (d_of DX9_told 24 rfl) rfl ?_
      obtain ⟨o6, h⟩ := h
      refine gf_X9_192 (v0 := (M (M 1 8) 1)) C o6 (d_of DX9_told 25 rfl) rfl ?_
      exact s_ireturn C (d_of DX9_told 26 rfl) h
    · have h := h.2.2.2.2.2.1 hc
      refine s_tabIn C (d_of DX9_told 13 rfl) hc (by decide) (by decide) rfl rfl ?_
      refine s_aload_n C (d_of DX9_told 27 rfl) rfl ?_
      refine WA.fix (fun hF7 => ?_)
      obtain ⟨Q8, hKQ8, h⟩ := h
      refine s_callV (ci := 9) (av := []) (rest := []) (mc := 0) (ms := 0) C (d_of DX9_told 28 rfl) lk_X9_325 (sh_1 hF7) (by decide) rfl rfl rfl (Nat.le_of_ble_eq_true rfl) (by decide) (by decide) hKQ8 (fun z8 w8 M8 hq => ?_)
      have h := h z8 w8 M8 hq
      exact s_ireturn C (d_of DX9_told 29 rfl) h
    · have h := h.2.2.2.2.2.2 hc
      refine s_tabIn C (d_of DX9_told 13 rfl) hc (by decide) (by decide) rfl rfl ?_
      refine s_aload_n C (d_of DX9_told 30 rfl) rfl ?_
      refine WA.fix (fun hF9 => ?_)
      obtain ⟨Q10, hKQ10, h⟩ := h
      refine s_callV (ci := 9) (av := []) (rest := []) (mc := 0) (ms := 0) C (d_of DX9_told 31 rfl) lk_X9_328 (sh_1 hF9) (by decide) rfl rfl rfl (Nat.le_of_ble_eq_true rfl) (by decide) (by decide) hKQ10 (fun z10 w10 M10 hq => ?_)
      have h := h z10 w10 M10 hq
      exact s_ireturn C (d_of DX9_told 32 rfl) h
  · have h := h.2 (b2i_n0 hc)
    refine s_aload_n C (d_of DX9_told 5 rfl) rfl ?_
    refine WA.fix (fun hF11 => ?_)
    refine gf_X9_7 C (sh_1 hF11) (d_of DX9_told 6 rfl) (fx_1_0 hF11) ?_
    refine s_iload_n C (d_of DX9_told 7 rfl) rfl ?_
    refine s_bipush C (d_of DX9_told 8 rfl) ⟨rfl, by decide, by decide⟩ ?_
    obtain ⟨o12, h⟩ := h
    refine s_isub C (d_of DX9_told 9 rfl) o12 ?_
    obtain ⟨o13, h⟩ := h
    obtain ⟨o14, h⟩ := h
    refine s_iald (v0 := (M 2 (l1 - 10))) C (sh_2 hF11) o13 o14 (d_of DX9_told 10 rfl) rfl ?_
    exact s_ireturn C (d_of DX9_told 11 rfl) h
theorem E_X9_told {G : GP} {l : Launch} {P : Int → NS → MM → Prop} {l1 : Int} {w : NS} {M : MM} (h : inR l1 → ∀ X : BX, X.2.1 = l → CX_X9_told G X → A_X9_told_0 G X P l1 w M) : CT_X9_told G l [(2, 1), (0, l1)] w M P :=
  CT.of RX9 "told" (by decide +kernel) rfl rfl rfl (Nat.le_of_ble_eq_true rfl) (fun hr X hX C => h (hr (0, l1) (by simp)) X hX C)
