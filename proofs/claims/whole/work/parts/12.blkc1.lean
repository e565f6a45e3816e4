def A_X8_init_0 (G : GP) (X : BX) (P : Int → NS → MM → Prop) (l0 : Int) (rc rs : Nat) (w : NS) (M : MM) : Prop := WA false G X (QM G X false 4 P) 1 0 [(2, l0)] [] rc rs w M
set_option maxHeartbeats 4000000 in
set_option maxRecDepth 100000 in
theorem B_X8_init_0 {G : GP} {X : BX} {P : Int → NS → MM → Prop} {l0 : Int} {rc rs : Nat} {w : NS} {M : MM} (C : CX_X8_init G X) (h : (w.2 l0 = (9, 2)) ∧ ∀ w2 : NS, w2 = (w.1 + 1, us w.2 w.1 12 40) → (l0 < (w.1 : Int)) ∧ ∀ M8 : MM, M8 = (up M l0 0 (w.1 : Int)) → ∀ M9 : MM, M9 = (up M8 l0 1 0) → P 0 w2 M9) : A_X8_init_0 G X P l0 (rc + 1) (rs + 40) w M := by
  unfold A_X8_init_0
  refine s_aload_n C dX8_init_0 rfl ?_
  obtain ⟨o1, h⟩ := h
  refine s_objInit C o1 (by decide) (mG (wd_94) rfl) (mG (wd_81) rfl) (mG (wd_82) rfl) (by decide) (by decide) (Nat.le_of_ble_eq_true rfl) dX8_init_1 ?_
  refine s_aload_n C dX8_init_4 rfl ?_
  refine s_bipush C dX8_init_5 ⟨rfl, by decide, by decide⟩ ?_
  refine na_12 (N := 40) C rfl (by decide) dX8_init_7 ?_
  refine WA.nmW (fun w2 ew2 => ?_)
  have h := h _ ew2
  obtain ⟨o3, h⟩ := h
  have k4 : w2.2 l0 = (9, 2) := by rw [ew2]; exact us_ne o1 (Int.ne_of_lt o3)
  have b5 : l0 < (w2.1 : Int) := by have := o3; rw [ew2]; show _ < ((w.1 + 1 : Nat) : Int); omega
  have k6 : w2.2 (w.1 : Int) = (12, 40) := by rw [ew2]; exact us_new _ _ _ _
  have b7 : (w.1 : Int) < (w2.1 : Int) := by rw [ew2]; show _ < ((w.1 + 1 : Nat) : Int); omega
  refine pf_X8_11 C k4 (fun e => by cases e) dX8_init_9 ?_
  refine WA.nmM (fun M8 eM8 => ?_)
  have h := h _ eM8
  refine s_aload_n C dX8_init_12 rfl ?_
  refine s_iconst C dX8_init_13 (by decide) ?_
  refine pf_X8_15 C k4 (fun e => by cases e) dX8_init_14 ?_
  refine WA.nmM (fun M9 eM9 => ?_)
  have h := h _ eM9
  exact s_vreturn C dX8_init_17 h
theorem E_X8_init {G : GP} {l : Launch} {P : Int → NS → MM → Prop} {l0 : Int} {w : NS} {M : MM} (h : ∀ X : BX, X.2.1 = l → CX_X8_init G X → A_X8_init_0 G X P l0 1 40 w M) : CT_X8_init G l [(2, l0)] w M P :=
  CT.of RX8 "<init>" (by decide +kernel) rfl rfl rfl (Nat.le_of_ble_eq_true rfl) (fun hr X hX C => h  X hX C)
def A_X1_init_0 (G : GP) (X : BX) (P : Int → NS → MM → Prop) (l0 : Int) (rc rs : Nat) (w : NS) (M : MM) : Prop := WA false G X (QM G X false 4 P) 1 0 [(2, l0)] [] rc rs w M
set_option maxHeartbeats 4000000 in
set_option maxRecDepth 100000 in
theorem B_X1_init_0 {G : GP} {X : BX} {P : Int → NS → MM → Prop} {l0 : Int} {rc rs : Nat} {w : NS} {M : MM} (C : CX_X1_init G X) (h : (w.2 l0 = (2, 3)) ∧ ∀ M2 : MM, M2 = (up M l0 0 0) → ∀ w3 : NS, w3 = (w.1 + 1, us w.2 w.1 18 24) → (l0 < (w.1 : Int)) ∧ ∀ M9 : MM, M9 = (up M2 l0 1 (w.1 : Int)) → ∀ w10 : NS, w10 = (w3.1 + 1, us w3.2 w3.1 12 61) → ∀ M17 : MM, M17 = (up M9 l0 2 (w3.1 : Int)) → P 0 w10 M17) : A_X1_init_0 G X P l0 (rc + 2) (rs + 85) w M := by
  unfold A_X1_init_0
  refine s_aload_n C dX1_init_0 rfl ?_
  obtain ⟨o1, h⟩ := h
  refine s_objInit C o1 (by decide) (mG (wd_110) rfl) (mG (wd_81) rfl) (mG (wd_82) rfl) (by decide) (by decide) (Nat.le_of_ble_eq_true rfl) dX1_init_1 ?_
  refine s_aload_n C dX1_init_4 rfl ?_
  refine s_iconst C dX1_init_5 (by decide) ?_
  refine pf_X1_9 C o1 (by decide) (fun e => by cases e) dX1_init_6 ?_
  refine WA.nmM (fun M2 eM2 => ?_)
  have h := h _ eM2
  refine s_aload_n C dX1_init_9 rfl ?_
  refine s_bipush C dX1_init_10 ⟨rfl, by decide, by decide⟩ ?_
  refine s_newq (t := 18) (N := 24) (t0 := 6) (Cn := "CutBureau$Piece") C (by decide) rfl (mG (wd_111) rfl) (wd_86) rfl (by decide) dX1_init_12 ?_
  refine WA.nmW (fun w3 ew3 => ?_)
  have h := h _ ew3
  obtain ⟨o4, h⟩ := h
  have k5 : w3.2 l0 = (2, 3) := by rw [ew3]; exact us_ne o1 (Int.ne_of_lt o4)
  have b6 : l0 < (w3.1 : Int) := by have := o4; rw [ew3]; show _ < ((w.1 + 1 : Nat) : Int); omega
  have k7 : w3.2 (w.1 : Int) = (18, 24) := by rw [ew3]; exact us_new _ _ _ _
  have b8 : (w.1 : Int) < (w3.1 : Int) := by rw [ew3]; show _ < ((w.1 + 1 : Nat) : Int); omega
  refine pf_X1_17 C k5 (fun e => by cases e) dX1_init_15 ?_
  refine WA.nmM (fun M9 eM9 => ?_)
  have h := h _ eM9
  refine s_aload_n C dX1_init_18 rfl ?_
  refine s_bipush C dX1_init_19 ⟨rfl, by decide, by decide⟩ ?_
  refine na_12 (N := 61) C rfl (by decide) dX1_init_21 ?_
  refine WA.nmW (fun w10 ew10 => ?_)
  have h := h _ ew10
  have k11 : w10.2 l0 = (2, 3) := by rw [ew10]; exact us_ne k5 (Int.ne_of_lt b6)
  have b12 : l0 < (w10.1 : Int) := by have := b6; rw [ew10]; show _ < ((w3.1 + 1 : Nat) : Int); omega
  have k13 : w10.2 (w.1 : Int) = (18, 24) := by rw [ew10]; exact us_ne k7 (Int.ne_of_lt b8)
  have b14 : (w.1 : Int) < (w10.1 : Int) := by have := b8; rw [ew10]; show _ < ((w3.1 + 1 : Nat) : Int); omega
  have k15 : w10.2 (w3.1 : Int) = (12, 61) := by rw [ew10]; exact us_new _ _ _ _
  have b16 : (w3.1 : Int) < (w10.1 : Int) := by rw [ew10]; show _ < ((w3.1 + 1 : Nat) : Int); omega
  refine pf_X1_21 C k11 (fun e => by cases e) dX1_init_23 ?_
  refine WA.nmM (fun M17 eM17 => ?_)
  have h := h _ eM17
  exact s_vreturn C dX1_init_26 h
theorem E_X1_init {G : GP} {l : Launch} {P : Int → NS → MM → Prop} {l0 : Int} {w : NS} {M : MM} (h : ∀ X : BX, X.2.1 = l → CX_X1_init G X → A_X1_init_0 G X P l0 2 85 w M) : CT_X1_init G l [(2, l0)] w M P :=
  CT.of RX1 "<init>" (by decide +kernel) rfl rfl rfl (Nat.le_of_ble_eq_true rfl) (fun hr X hX C => h  X hX C)
def A_X0_init_0 (G : GP) (X : BX) (P : Int → NS → MM → Prop) (l0 : Int) (rc rs : Nat) (w : NS) (M : MM) : Prop := WA false G X (QM G X false 4 P) 1 0 [(2, l0)] [] rc rs w M
set_option maxHeartbeats 4000000 in
set_option maxRecDepth 100000 in
theorem B_X0_init_0 {G : GP} {X : BX} {P : Int → NS → MM → Prop} {l0 : Int} {rc rs : Nat} {w : NS} {M : MM} (C : CX_X0_init G X) (h : (w.2 l0 = (1, 5)) ∧ ∀ w2 : NS, w2 = (w.1 + 1, us w.2 w.1 12 9) → (l0 < (w.1 : Int)) ∧ ∀ M8 : MM, M8 = (up M l0 0 (w.1 : Int)) → ∀ w9 : NS, w9 = (w2.1 + 1, us w2.2 w2.1 12 9) → ∀ M16 : MM, M16 = (up M8 l0 1 (w2.1 : Int)) → ∀ M17 : MM, M17 = (up M16 l0 2 0) → ∀ w18 : NS, w18 = (w9.1 + 1, us w9.2 w9.1 12 9) → ∀ M27 : MM, M27 = (up M17 l0 3 (w9.1 : Int)) → ∀ w28 : NS, w28 = (w18.1 + 1, us w18.2 w18.1 12 512) → ∀ M39 : MM, M39 = (up M27 l0 4 (w18.1 : Int)) → P 0 w28 M39) : A_X0_init_0 G X P l0 (rc + 4) (rs + 539) w M := by
  unfold A_X0_init_0
  refine s_aload_n C dX0_init_0 rfl ?_
  obtain ⟨o1, h⟩ := h
  refine s_objInit C o1 (by decide) (mG (wd_130) rfl) (mG (wd_81) rfl) (mG (wd_82) rfl) (by decide) (by decide) (Nat.le_of_ble_eq_true rfl) dX0_init_1 ?_
  refine s_aload_n C dX0_init_4 rfl ?_
  refine s_bipush C dX0_init_5 ⟨rfl, by decide, by decide⟩ ?_
  refine na_12 (N := 9) C rfl (by decide) dX0_init_7 ?_
  refine WA.nmW (fun w2 ew2 => ?_)
  have h := h _ ew2
  obtain ⟨o3, h⟩ := h
  have k4 : w2.2 l0 = (1, 5) := by rw [ew2]; exact us_ne o1 (Int.ne_of_lt o3)
  have b5 : l0 < (w2.1 : Int) := by have := o3; rw [ew2]; show _ < ((w.1 + 1 : Nat) : Int); omega
  have k6 : w2.2 (w.1 : Int) = (12, 9) := by rw [ew2]; exact us_new _ _ _ _
  have b7 : (w.1 : Int) < (w2.1 : Int) := by rw [ew2]; show _ < ((w.1 + 1 : Nat) : Int); omega
  refine pf_X0_9 C k4 (fun e => by cases e) dX0_init_9 ?_
  refine WA.nmM (fun M8 eM8 => ?_)
  have h := h _ eM8
  refine s_aload_n C dX0_init_12 rfl ?_
  refine s_bipush C dX0_init_13 ⟨rfl, by decide, by decide⟩ ?_
  refine na_12 (N := 9) C rfl (by decide) dX0_init_15 ?_
  refine WA.nmW (fun w9 ew9 => ?_)
  have h := h _ ew9
  have k10 : w9.2 l0 = (1, 5) := by rw [ew9]; exact us_ne k4 (Int.ne_of_lt b5)
  have b11 : l0 < (w9.1 : Int) := by have := b5; rw [ew9]; show _ < ((w2.1 + 1 : Nat) : Int); omega
  have k12 : w9.2 (w.1 : Int) = (12, 9) := by rw [ew9]; exact us_ne k6 (Int.ne_of_lt b7)
  have b13 : (w.1 : Int) < (w9.1 : Int) := by have := b7; rw [ew9]; show _ < ((w2.1 + 1 : Nat) : Int); omega
  have k14 : w9.2 (w2.1 : Int) = (12, 9) := by rw [ew9]; exact us_new _ _ _ _
  have b15 : (w2.1 : Int) < (w9.1 : Int) := by rw [ew9]; show _ < ((w2.1 + 1 : Nat) : Int); omega
  refine pf_X0_13 C k10 (fun e => by cases e) dX0_init_17 ?_
  refine WA.nmM (fun M16 eM16 => ?_)
  have h := h _ eM16
  refine s_aload_n C dX0_init_20 rfl ?_
  refine s_iconst C dX0_init_21 (by decide) ?_
  refine pf_X0_16 C k10 (fun e => by cases e) dX0_init_22 ?_
  refine WA.nmM (fun M17 eM17 => ?_)
  have h := h _ eM17
  refine s_aload_n C dX0_init_25 rfl ?_
  refine s_bipush C dX0_init_26 ⟨rfl, by decide, by decide⟩ ?_
  refine na_12 (N := 9) C rfl (by decide) dX0_init_28 ?_
  refine WA.nmW (fun w18 ew18 => ?_)
  have h := h _ ew18
  have k19 : w18.2 l0 = (1, 5) := by rw [ew18]; exact us_ne k10 (Int.ne_of_lt b11)
  have b20 : l0 < (w18.1 : Int) := by have := b11; rw [ew18]; show _ < ((w9.1 + 1 : Nat) : Int); omega
  have k21 : w18.2 (w.1 : Int) = (12, 9) := by rw [ew18]; exact us_ne k12 (Int.ne_of_lt b13)
  have b22 : (w.1 : Int) < (w18.1 : Int) := by have := b13; rw [ew18]; show _ < ((w9.1 + 1 : Nat) : Int); omega
  have k23 : w18.2 (w2.1 : Int) = (12, 9) := by rw [ew18]; exact us_ne k14 (Int.ne_of_lt b15)
  have b24 : (w2.1 : Int) < (w18.1 : Int) := by have := b15; rw [ew18]; show _ < ((w9.1 + 1 : Nat) : Int); omega
  have k25 : w18.2 (w9.1 : Int) = (12, 9) := by rw [ew18]; exact us_new _ _ _ _
  have b26 : (w9.1 : Int) < (w18.1 : Int) := by rw [ew18]; show _ < ((w9.1 + 1 : Nat) : Int); omega
  refine pf_X0_20 C k19 (fun e => by cases e) dX0_init_30 ?_
  refine WA.nmM (fun M27 eM27 => ?_)
  have h := h _ eM27
  refine s_aload_n C dX0_init_33 rfl ?_
  refine s_sipush C dX0_init_34 ⟨rfl, by decide, by decide⟩ ?_
  refine na_12 (N := 512) C rfl (by decide) dX0_init_37 ?_
  refine WA.nmW (fun w28 ew28 => ?_)
  have h := h _ ew28
  have k29 : w28.2 l0 = (1, 5) := by rw [ew28]; exact us_ne k19 (Int.ne_of_lt b20)
  have b30 : l0 < (w28.1 : Int) := by have := b20; rw [ew28]; show _ < ((w18.1 + 1 : Nat) : Int); omega
  have k31 : w28.2 (w.1 : Int) = (12, 9) := by rw [ew28]; exact us_ne k21 (Int.ne_of_lt b22)
  have b32 : (w.1 : Int) < (w28.1 : Int) := by have := b22; rw [ew28]; show _ < ((w18.1 + 1 : Nat) : Int); omega
  have k33 : w28.2 (w2.1 : Int) = (12, 9) := by rw [ew28]; exact us_ne k23 (Int.ne_of_lt b24)
  have b34 : (w2.1 : Int) < (w28.1 : Int) := by have := b24; rw [ew28]; show _ < ((w18.1 + 1 : Nat) : Int); omega
  have k35 : w28.2 (w9.1 : Int) = (12, 9) := by rw [ew28]; exact us_ne k25 (Int.ne_of_lt b26)
  have b36 : (w9.1 : Int) < (w28.1 : Int) := by have := b26; rw [ew28]; show _ < ((w18.1 + 1 : Nat) : Int); omega
  have k37 : w28.2 (w18.1 : Int) = (12, 512) := by rw [ew28]; exact us_new _ _ _ _
  have b38 : (w18.1 : Int) < (w28.1 : Int) := by rw [ew28]; show _ < ((w18.1 + 1 : Nat) : Int); omega
  refine pf_X0_23 C k29 (fun e => by cases e) dX0_init_39 ?_
  refine WA.nmM (fun M39 eM39 => ?_)
  have h := h _ eM39
  exact s_vreturn C dX0_init_42 h
theorem E_X0_init {G : GP} {l : Launch} {P : Int → NS → MM → Prop} {l0 : Int} {w : NS} {M : MM} (h : ∀ X : BX, X.2.1 = l → CX_X0_init G X → A_X0_init_0 G X P l0 4 539 w M) : CT_X0_init G l [(2, l0)] w M P :=
  CT.of RX0 "<init>" (by decide +kernel) rfl rfl rfl (Nat.le_of_ble_eq_true rfl) (fun hr X hX C => h  X hX C)
def A_X5_init_0 (G : GP) (X : BX) (P : Int → NS → MM → Prop) (l0 : Int) (rc rs : Nat) (w : NS) (M : MM) : Prop := WA false G X (QM G X false 4 P) 1 0 [(2, l0)] [] rc rs w M
set_option maxHeartbeats 4000000 in
set_option maxRecDepth 100000 in
theorem B_X5_init_0 {G : GP} {X : BX} {P : Int → NS → MM → Prop} {l0 : Int} {rc rs : Nat} {w : NS} {M : MM} (C : CX_X5_init G X) (h : (w.2 l0 = (6, 3)) ∧ ∀ w2 : NS, w2 = (w.1 + 1, us w.2 w.1 12 8) → (l0 < (w.1 : Int)) ∧ ∀ M8 : MM, M8 = (up M l0 0 (w.1 : Int)) → ∀ w9 : NS, w9 = (w2.1 + 1, us w2.2 w2.1 13 256) → ∀ M16 : MM, M16 = (up M8 l0 1 (w2.1 : Int)) → ∀ w17 : NS, w17 = (w9.1 + 1, us w9.2 w9.1 13 256) → ∀ M26 : MM, M26 = (up M16 l0 2 (w9.1 : Int)) → P 0 w17 M26) : A_X5_init_0 G X P l0 (rc + 3) (rs + 520) w M := by
  unfold A_X5_init_0
  refine s_aload_n C dX5_init_0 rfl ?_
  obtain ⟨o1, h⟩ := h
  refine s_objInit C o1 (by decide) (mG (wd_157) rfl) (mG (wd_81) rfl) (mG (wd_82) rfl) (by decide) (by decide) (Nat.le_of_ble_eq_true rfl) dX5_init_1 ?_
  refine s_aload_n C dX5_init_4 rfl ?_
  refine s_bipush C dX5_init_5 ⟨rfl, by decide, by decide⟩ ?_
  refine na_12 (N := 8) C rfl (by decide) dX5_init_7 ?_
  refine WA.nmW (fun w2 ew2 => ?_)
  have h := h _ ew2
  obtain ⟨o3, h⟩ := h
  have k4 : w2.2 l0 = (6, 3) := by rw [ew2]; exact us_ne o1 (Int.ne_of_lt o3)
  have b5 : l0 < (w2.1 : Int) := by have := o3; rw [ew2]; show _ < ((w.1 + 1 : Nat) : Int); omega
  have k6 : w2.2 (w.1 : Int) = (12, 8) := by rw [ew2]; exact us_new _ _ _ _
  have b7 : (w.1 : Int) < (w2.1 : Int) := by rw [ew2]; show _ < ((w.1 + 1 : Nat) : Int); omega
  refine pf_X5_9 C k4 (fun e => by cases e) dX5_init_9 ?_
  refine WA.nmM (fun M8 eM8 => ?_)
  have h := h _ eM8
  refine s_aload_n C dX5_init_12 rfl ?_
  refine s_sipush C dX5_init_13 ⟨rfl, by decide, by decide⟩ ?_
  refine na_13 (N := 256) C rfl (by decide) dX5_init_16 ?_
  refine WA.nmW (fun w9 ew9 => ?_)
  have h := h _ ew9
  have k10 : w9.2 l0 = (6, 3) := by rw [ew9]; exact us_ne k4 (Int.ne_of_lt b5)
  have b11 : l0 < (w9.1 : Int) := by have := b5; rw [ew9]; show _ < ((w2.1 + 1 : Nat) : Int); omega
  have k12 : w9.2 (w.1 : Int) = (12, 8) := by rw [ew9]; exact us_ne k6 (Int.ne_of_lt b7)
  have b13 : (w.1 : Int) < (w9.1 : Int) := by have := b7; rw [ew9]; show _ < ((w2.1 + 1 : Nat) : Int); omega
  have k14 : w9.2 (w2.1 : Int) = (13, 256) := by rw [ew9]; exact us_new _ _ _ _
  have b15 : (w2.1 : Int) < (w9.1 : Int) := by rw [ew9]; show _ < ((w2.1 + 1 : Nat) : Int); omega
  refine pf_X5_15 C k10 (fun e => by cases e) dX5_init_18 ?_
  refine WA.nmM (fun M16 eM16 => ?_)
  have h := h _ eM16
  refine s_aload_n C dX5_init_21 rfl ?_
  refine s_sipush C dX5_init_22 ⟨rfl, by decide, by decide⟩ ?_
  refine na_13 (N := 256) C rfl (by decide) dX5_init_25 ?_
  refine WA.nmW (fun w17 ew17 => ?_)
  have h := h _ ew17
  have k18 : w17.2 l0 = (6, 3) := by rw [ew17]; exact us_ne k10 (Int.ne_of_lt b11)
  have b19 : l0 < (w17.1 : Int) := by have := b11; rw [ew17]; show _ < ((w9.1 + 1 : Nat) : Int); omega
  have k20 : w17.2 (w.1 : Int) = (12, 8) := by rw [ew17]; exact us_ne k12 (Int.ne_of_lt b13)
  have b21 : (w.1 : Int) < (w17.1 : Int) := by have := b13; rw [ew17]; show _ < ((w9.1 + 1 : Nat) : Int); omega
  have k22 : w17.2 (w2.1 : Int) = (13, 256) := by rw [ew17]; exact us_ne k14 (Int.ne_of_lt b15)
  have b23 : (w2.1 : Int) < (w17.1 : Int) := by have := b15; rw [ew17]; show _ < ((w9.1 + 1 : Nat) : Int); omega
  have k24 : w17.2 (w9.1 : Int) = (13, 256) := by rw [ew17]; exact us_new _ _ _ _
  have b25 : (w9.1 : Int) < (w17.1 : Int) := by rw [ew17]; show _ < ((w9.1 + 1 : Nat) : Int); omega
  refine pf_X5_19 C k18 (fun e => by cases e) dX5_init_27 ?_
  refine WA.nmM (fun M26 eM26 => ?_)
  have h := h _ eM26
  exact s_vreturn C dX5_init_30 h
theorem E_X5_init {G : GP} {l : Launch} {P : Int → NS → MM → Prop} {l0 : Int} {w : NS} {M : MM} (h : ∀ X : BX, X.2.1 = l → CX_X5_init G X → A_X5_init_0 G X P l0 3 520 w M) : CT_X5_init G l [(2, l0)] w M P :=
  CT.of RX5 "<init>" (by decide +kernel) rfl rfl rfl (Nat.le_of_ble_eq_true rfl) (fun hr X hX C => h  X hX C)
def A_X2_init_0 (G : GP) (X : BX) (P : Int → NS → MM → Prop) (l0 : Int) (rc rs : Nat) (w : NS) (M : MM) : Prop := WA false G X (QM G X false 4 P) 1 0 [(2, l0)] [] rc rs w M
set_option maxHeartbeats 4000000 in
set_option maxRecDepth 100000 in
theorem B_X2_init_0 {G : GP} {X : BX} {P : Int → NS → MM → Prop} {l0 : Int} {rc rs : Nat} {w : NS} {M : MM} (C : CX_X2_init G X) (h : (w.2 l0 = (3, 2)) ∧ ∀ M2 : MM, M2 = (up M l0 0 (-6)) → ∀ w3 : NS, w3 = (w.1 + 1, us w.2 w.1 12 100) → (l0 < (w.1 : Int)) ∧ ∀ M9 : MM, M9 = (up M2 l0 1 (w.1 : Int)) → P 0 w3 M9) : A_X2_init_0 G X P l0 (rc + 1) (rs + 100) w M := by
  unfold A_X2_init_0
  refine s_aload_n C dX2_init_0 rfl ?_
  obtain ⟨o1, h⟩ := h
  refine s_objInit C o1 (by decide) (mG (wd_175) rfl) (mG (wd_81) rfl) (mG (wd_82) rfl) (by decide) (by decide) (Nat.le_of_ble_eq_true rfl) dX2_init_1 ?_
  refine s_aload_n C dX2_init_4 rfl ?_
  refine s_bipush C dX2_init_5 ⟨rfl, by decide, by decide⟩ ?_
  refine pf_X2_9 C o1 (fun e => by cases e) dX2_init_7 ?_
  refine WA.nmM (fun M2 eM2 => ?_)
  have h := h _ eM2
  refine s_aload_n C dX2_init_10 rfl ?_
  refine s_bipush C dX2_init_11 ⟨rfl, by decide, by decide⟩ ?_
  refine na_12 (N := 100) C rfl (by decide) dX2_init_13 ?_
  refine WA.nmW (fun w3 ew3 => ?_)
  have h := h _ ew3
  obtain ⟨o4, h⟩ := h
  have k5 : w3.2 l0 = (3, 2) := by rw [ew3]; exact us_ne o1 (Int.ne_of_lt o4)
  have b6 : l0 < (w3.1 : Int) := by have := o4; rw [ew3]; show _ < ((w.1 + 1 : Nat) : Int); omega
  have k7 : w3.2 (w.1 : Int) = (12, 100) := by rw [ew3]; exact us_new _ _ _ _
  have b8 : (w.1 : Int) < (w3.1 : Int) := by rw [ew3]; show _ < ((w.1 + 1 : Nat) : Int); omega
  refine pf_X2_15 C k5 (fun e => by cases e) dX2_init_15 ?_
  refine WA.nmM (fun M9 eM9 => ?_)
  have h := h _ eM9
  exact s_vreturn C dX2_init_18 h
theorem E_X2_init {G : GP} {l : Launch} {P : Int → NS → MM → Prop} {l0 : Int} {w : NS} {M : MM} (h : ∀ X : BX, X.2.1 = l → CX_X2_init G X → A_X2_init_0 G X P l0 1 100 w M) : CT_X2_init G l [(2, l0)] w M P :=
  CT.of RX2 "<init>" (by decide +kernel) rfl rfl rfl (Nat.le_of_ble_eq_true rfl) (fun hr X hX C => h  X hX C)
def A_X7_init_0 (G : GP) (X : BX) (P : Int → NS → MM → Prop) (l0 : Int) (rc rs : Nat) (w : NS) (M : MM) : Prop := WA false G X (QM G X false 4 P) 1 0 [(2, l0)] [] rc rs w M
set_option maxHeartbeats 4000000 in
set_option maxRecDepth 100000 in
theorem B_X7_init_0 {G : GP} {X : BX} {P : Int → NS → MM → Prop} {l0 : Int} {rc rs : Nat} {w : NS} {M : MM} (C : CX_X7_init G X) (h : (w.2 l0 = (8, 4)) ∧ ∀ M2 : MM, M2 = (up M l0 0 50) → ∀ M3 : MM, M3 = (up M2 l0 1 100) → ∀ w4 : NS, w4 = (w.1 + 1, us w.2 w.1 12 10) → (l0 < (w.1 : Int)) ∧ ∀ M10 : MM, M10 = (up M3 l0 2 (w.1 : Int)) → ∀ M11 : MM, M11 = (up M10 l0 3 0) → P 0 w4 M11) : A_X7_init_0 G X P l0 (rc + 1) (rs + 10) w M := by
  unfold A_X7_init_0
  refine s_aload_n C dX7_init_0 rfl ?_
  obtain ⟨o1, h⟩ := h
  refine s_objInit C o1 (by decide) (mG (wd_189) rfl) (mG (wd_81) rfl) (mG (wd_82) rfl) (by decide) (by decide) (Nat.le_of_ble_eq_true rfl) dX7_init_1 ?_
  refine s_aload_n C dX7_init_4 rfl ?_
  refine s_bipush C dX7_init_5 ⟨rfl, by decide, by decide⟩ ?_
  refine pf_X7_9 C o1 (fun e => by cases e) dX7_init_7 ?_
  refine WA.nmM (fun M2 eM2 => ?_)
  have h := h _ eM2
  refine s_aload_n C dX7_init_10 rfl ?_
  refine s_bipush C dX7_init_11 ⟨rfl, by decide, by decide⟩ ?_
  refine pf_X7_15 C o1 (fun e => by cases e) dX7_init_13 ?_
  refine WA.nmM (fun M3 eM3 => ?_)
  have h := h _ eM3
  refine s_aload_n C dX7_init_16 rfl ?_
  refine s_bipush C dX7_init_17 ⟨rfl, by decide, by decide⟩ ?_
  refine na_12 (N := 10) C rfl (by decide) dX7_init_19 ?_
  refine WA.nmW (fun w4 ew4 => ?_)
  have h := h _ ew4
  obtain ⟨o5, h⟩ := h
  have k6 : w4.2 l0 = (8, 4) := by rw [ew4]; exact us_ne o1 (Int.ne_of_lt o5)
  have b7 : l0 < (w4.1 : Int) := by have := o5; rw [ew4]; show _ < ((w.1 + 1 : Nat) : Int); omega
  have k8 : w4.2 (w.1 : Int) = (12, 10) := by rw [ew4]; exact us_new _ _ _ _
  have b9 : (w.1 : Int) < (w4.1 : Int) := by rw [ew4]; show _ < ((w.1 + 1 : Nat) : Int); omega
  refine pf_X7_18 C k6 (fun e => by cases e) dX7_init_21 ?_
  refine WA.nmM (fun M10 eM10 => ?_)
  have h := h _ eM10
  refine s_aload_n C dX7_init_24 rfl ?_
  refine s_iconst C dX7_init_25 (by decide) ?_
  refine pf_X7_22 C k6 (fun e => by cases e) dX7_init_26 ?_
  refine WA.nmM (fun M11 eM11 => ?_)
  have h := h _ eM11
  exact s_vreturn C dX7_init_29 h
theorem E_X7_init {G : GP} {l : Launch} {P : Int → NS → MM → Prop} {l0 : Int} {w : NS} {M : MM} (h : ∀ X : BX, X.2.1 = l → CX_X7_init G X → A_X7_init_0 G X P l0 1 10 w M) : CT_X7_init G l [(2, l0)] w M P :=
  CT.of RX7 "<init>" (by decide +kernel) rfl rfl rfl (Nat.le_of_ble_eq_true rfl) (fun hr X hX C => h  X hX C)
def A_X9_init_0 (G : GP) (X : BX) (P : Int → NS → MM → Prop) (l0 : Int) (rc rs : Nat) (w : NS) (M : MM) : Prop := WA false G X (QM G X false 4 P) 2 0 [(2, l0), (3, 0)] [] rc rs w M
def A_X9_init_65 (G : GP) (X : BX) (P : Int → NS → MM → Prop) (l0 : Int) (rc rs : Nat) (w : NS) (M : MM) : Prop := WA false G X (QM G X false 4 P) 2 65 [(2, l0), (3, 0)] [] rc rs w M
def A_X9_init_79 (G : GP) (X : BX) (P : Int → NS → MM → Prop) (l0 : Int) (rc rs : Nat) (w : NS) (M : MM) : Prop := WA false G X (QM G X false 4 P) 2 79 [(2, l0), (3, 0)] [] rc rs w M
def A_X9_init_93 (G : GP) (X : BX) (P : Int → NS → MM → Prop) (l0 : Int) (rc rs : Nat) (w : NS) (M : MM) : Prop := WA false G X (QM G X false 4 P) 2 93 [(2, l0), (3, 0)] [] rc rs w M
def A_X9_init_107 (G : GP) (X : BX) (P : Int → NS → MM → Prop) (l0 : Int) (rc rs : Nat) (w : NS) (M : MM) : Prop := WA false G X (QM G X false 4 P) 2 107 [(2, l0), (3, 0)] [] rc rs w M
def A_X9_init_129 (G : GP) (X : BX) (P : Int → NS → MM → Prop) (l0 : Int) (rc rs : Nat) (w : NS) (M : MM) : Prop := WA false G X (QM G X false 4 P) 2 129 [(2, l0), (3, 0)] [] rc rs w M
def A_X9_init_142 (G : GP) (X : BX) (P : Int → NS → MM → Prop) (l0 : Int) (rc rs : Nat) (w : NS) (M : MM) : Prop := WA false G X (QM G X false 4 P) 2 142 [(2, l0), (3, 0)] [] rc rs w M
def A_X9_init_161 (G : GP) (X : BX) (P : Int → NS → MM → Prop) (l0 : Int) (rc rs : Nat) (w : NS) (M : MM) : Prop := WA false G X (QM G X false 4 P) 2 161 [(2, l0), (3, 0)] [] rc rs w M
def A_X9_init_180 (G : GP) (X : BX) (P : Int → NS → MM → Prop) (l0 : Int) (rc rs : Nat) (w : NS) (M : MM) : Prop := WA false G X (QM G X false 4 P) 2 180 [(2, l0), (3, 0)] [] rc rs w M
def A_X9_init_190 (G : GP) (X : BX) (P : Int → NS → MM → Prop) (l0 : Int) (l1 : Int) (rc rs : Nat) (w : NS) (M : MM) : Prop := WA false G X (QM G X false 4 P) 2 190 [(2, l0), (0, l1)] [] rc rs w M
def A_X9_init_216 (G : GP) (X : BX) (P : Int → NS → MM → Prop) (l0 : Int) (l1 : Int) (rc rs : Nat) (w : NS) (M : MM) : Prop := WA false G X (QM G X false 4 P) 2 216 [(2, l0), (0, l1)] [] rc rs w M
set_option maxHeartbeats 4000000 in
set_option maxRecDepth 100000 in
theorem B_X9_init_0 {G : GP} {X : BX} {P : Int → NS → MM → Prop} {l0 : Int} {rc rs : Nat} {w : NS} {M : MM} (C : CX_X9_init G X) (h : (w.2 l0 = (10, 17)) ∧ ∀ w2 : NS, w2 = (w.1 + 1, us w.2 w.1 12 9) → (l0 < (w.1 : Int)) ∧ ∀ M8 : MM, M8 = (up M (w.1 : Int) 0 20) → ∀ M9 : MM, M9 = (up M8 (w.1 : Int) 1 5) → ∀ M10 : MM, M10 = (up M9 (w.1 : Int) 2 10) → ∀ M11 : MM, M11 = (up M10 (w.1 : Int) 3 500) → ∀ M12 : MM, M12 = (up M11 (w.1 : Int) 4 100) → ∀ M13 : MM, M13 = (up M12 (w.1 : Int) 5 3) → ∀ M14 : MM, M14 = (up M13 (w.1 : Int) 6 2) → ∀ M15 : MM, M15 = (up M14 (w.1 : Int) 7 1) → ∀ M16 : MM, M16 = (up M15 (w.1 : Int) 8 0) → ∀ M17 : MM, M17 = (up M16 l0 0 (w.1 : Int)) → ∀ w18 : NS, w18 = (w2.1 + 1, us w2.2 w2.1 17 8) → ∀ M25 : MM, M25 = (up M17 l0 1 (w2.1 : Int)) → A_X9_init_65 G X P l0 (rc + 0) (rs + 0) w18 M25) : A_X9_init_0 G X P l0 (rc + 2) (rs + 17) w M := by
  unfold A_X9_init_0
  refine s_aload_n C dX9_init_0 rfl ?_
  obtain ⟨o1, h⟩ := h
  refine s_objInit C o1 (by decide) (mG (wd_80) rfl) (mG (wd_81) rfl) (mG (wd_82) rfl) (by decide) (by decide) (Nat.le_of_ble_eq_true rfl) dX9_init_1 ?_
  refine s_aload_n C dX9_init_4 rfl ?_
  refine s_bipush C dX9_init_5 ⟨rfl, by decide, by decide⟩ ?_
  refine na_12 (N := 9) C rfl (by decide) dX9_init_7 ?_
  refine WA.nmW (fun w2 ew2 => ?_)
  have h := h _ ew2
  obtain ⟨o3, h⟩ := h
  have k4 : w2.2 l0 = (10, 17) := by rw [ew2]; exact us_ne o1 (Int.ne_of_lt o3)
  have b5 : l0 < (w2.1 : Int) := by have := o3; rw [ew2]; show _ < ((w.1 + 1 : Nat) : Int); omega
  have k6 : w2.2 (w.1 : Int) = (12, 9) := by rw [ew2]; exact us_new _ _ _ _
  have b7 : (w.1 : Int) < (w2.1 : Int) := by rw [ew2]; show _ < ((w.1 + 1 : Nat) : Int); omega
  refine s_dup C (by simp) dX9_init_9 ?_
  refine s_iconst C dX9_init_10 (by decide) ?_
  refine s_bipush C dX9_init_11 ⟨rfl, by decide, by decide⟩ ?_
  refine s_iast C k6 (by decide) (by decide) (fun e => by cases e) dX9_init_13 ?_
  refine WA.nmM (fun M8 eM8 => ?_)
  have h := h _ eM8
  refine s_dup C (by simp) dX9_init_14 ?_
  refine s_iconst C dX9_init_15 (by decide) ?_
  refine s_iconst C dX9_init_16 (by decide) ?_
  refine s_iast C k6 (by decide) (by decide) (fun e => by cases e) dX9_init_17 ?_
  refine WA.nmM (fun M9 eM9 => ?_)
  have h := h _ eM9
  refine s_dup C (by simp) dX9_init_18 ?_
  refine s_iconst C dX9_init_19 (by decide) ?_
  refine s_bipush C dX9_init_20 ⟨rfl, by decide, by decide⟩ ?_
  refine s_iast C k6 (by decide) (by decide) (fun e => by cases e) dX9_init_22 ?_
  refine WA.nmM (fun M10 eM10 => ?_)
  have h := h _ eM10
  refine s_dup C (by simp) dX9_init_23 ?_
  refine s_iconst C dX9_init_24 (by decide) ?_
  refine s_sipush C dX9_init_25 ⟨rfl, by decide, by decide⟩ ?_
  refine s_iast C k6 (by decide) (by decide) (fun e => by cases e) dX9_init_28 ?_
  refine WA.nmM (fun M11 eM11 => ?_)
  have h := h _ eM11
  refine s_dup C (by simp) dX9_init_29 ?_
  refine s_iconst C dX9_init_30 (by decide) ?_
  refine s_bipush C dX9_init_31 ⟨rfl, by decide, by decide⟩ ?_
  refine s_iast C k6 (by decide) (by decide) (fun e => by cases e) dX9_init_33 ?_
  refine WA.nmM (fun M12 eM12 => ?_)
  have h := h _ eM12
  refine s_dup C (by simp) dX9_init_34 ?_
  refine s_iconst C dX9_init_35 (by decide) ?_
  refine s_iconst C dX9_init_36 (by decide) ?_
  refine s_iast C k6 (by decide) (by decide) (fun e => by cases e) dX9_init_37 ?_
  refine WA.nmM (fun M13 eM13 => ?_)
  have h := h _ eM13
  refine s_dup C (by simp) dX9_init_38 ?_
  refine s_bipush C dX9_init_39 ⟨rfl, by decide, by decide⟩ ?_
  refine s_iconst C dX9_init_41 (by decide) ?_
  refine s_iast C k6 (by decide) (by decide) (fun e => by cases e) dX9_init_42 ?_
  refine WA.nmM (fun M14 eM14 => ?_)
  have h := h _ eM14
  refine s_dup C (by simp) dX9_init_43 ?_
  refine s_bipush C dX9_init_44 ⟨rfl, by decide, by decide⟩ ?_
  refine s_iconst C dX9_init_46 (by decide) ?_
  refine s_iast C k6 (by decide) (by decide) (fun e => by cases e) dX9_init_47 ?_
  refine WA.nmM (fun M15 eM15 => ?_)
  have h := h _ eM15
  refine s_dup C (by simp) dX9_init_48 ?_
  refine s_bipush C dX9_init_49 ⟨rfl, by decide, by decide⟩ ?_
  refine s_iconst C dX9_init_51 (by decide) ?_
  refine s_iast C k6 (by decide) (by decide) (fun e => by cases e) dX9_init_52 ?_
  refine WA.nmM (fun M16 eM16 => ?_)
  have h := h _ eM16
  refine pf_X9_7 C k4 (fun e => by cases e) dX9_init_53 ?_
  refine WA.nmM (fun M17 eM17 => ?_)
  have h := h _ eM17
  refine s_aload_n C dX9_init_56 rfl ?_
  refine s_bipush C dX9_init_57 ⟨rfl, by decide, by decide⟩ ?_
  refine s_newq (t := 17) (N := 8) (t0 := 5) (Cn := "CutBureau$Page") C (by decide) rfl (mG (wd_83) rfl) (wd_84) rfl (by decide) dX9_init_59 ?_
  refine WA.nmW (fun w18 ew18 => ?_)
  have h := h _ ew18
  have k19 : w18.2 l0 = (10, 17) := by rw [ew18]; exact us_ne k4 (Int.ne_of_lt b5)
  have b20 : l0 < (w18.1 : Int) := by have := b5; rw [ew18]; show _ < ((w2.1 + 1 : Nat) : Int); omega
  have k21 : w18.2 (w.1 : Int) = (12, 9) := by rw [ew18]; exact us_ne k6 (Int.ne_of_lt b7)
  have b22 : (w.1 : Int) < (w18.1 : Int) := by have := b7; rw [ew18]; show _ < ((w2.1 + 1 : Nat) : Int); omega
  have k23 : w18.2 (w2.1 : Int) = (17, 8) := by rw [ew18]; exact us_new _ _ _ _
  have b24 : (w2.1 : Int) < (w18.1 : Int) := by rw [ew18]; show _ < ((w2.1 + 1 : Nat) : Int); omega
  refine pf_X9_15 C k19 (fun e => by cases e) dX9_init_62 ?_
  refine WA.nmM (fun M25 eM25 => ?_)
  have h := h _ eM25
  exact h
set_option maxHeartbeats 4000000 in
set_option maxRecDepth 100000 in
theorem B_X9_init_65 {G : GP} {X : BX} {P : Int → NS → MM → Prop} {l0 : Int} {rc rs : Nat} {w : NS} {M : MM} (C : CX_X9_init G X) (h : (w.2 l0 = (10, 17)) ∧ ∀ M2 : MM, M2 = (up M l0 2 0) → ∀ w3 : NS, w3 = (w.1 + 1, us w.2 w.1 18 24) → (l0 < (w.1 : Int)) ∧ ∀ M9 : MM, M9 = (up M2 l0 3 (w.1 : Int)) → A_X9_init_79 G X P l0 (rc + 0) (rs + 0) w3 M9) : A_X9_init_65 G X P l0 (rc + 1) (rs + 24) w M := by
  unfold A_X9_init_65
  refine s_aload_n C dX9_init_65 rfl ?_
  refine s_iconst C dX9_init_66 (by decide) ?_
  obtain ⟨o1, h⟩ := h
  refine pf_X9_19 C o1 (fun e => by cases e) dX9_init_67 ?_
  refine WA.nmM (fun M2 eM2 => ?_)
  have h := h _ eM2
  refine s_aload_n C dX9_init_70 rfl ?_
  refine s_bipush C dX9_init_71 ⟨rfl, by decide, by decide⟩ ?_
  refine s_newq (t := 18) (N := 24) (t0 := 6) (Cn := "CutBureau$Piece") C (by decide) rfl (mG (wd_85) rfl) (wd_86) rfl (by decide) dX9_init_73 ?_
  refine WA.nmW (fun w3 ew3 => ?_)
  have h := h _ ew3
  obtain ⟨o4, h⟩ := h
  have k5 : w3.2 l0 = (10, 17) := by rw [ew3]; exact us_ne o1 (Int.ne_of_lt o4)
  have b6 : l0 < (w3.1 : Int) := by have := o4; rw [ew3]; show _ < ((w.1 + 1 : Nat) : Int); omega
  have k7 : w3.2 (w.1 : Int) = (18, 24) := by rw [ew3]; exact us_new _ _ _ _
  have b8 : (w.1 : Int) < (w3.1 : Int) := by rw [ew3]; show _ < ((w.1 + 1 : Nat) : Int); omega
  refine pf_X9_25 C k5 (fun e => by cases e) dX9_init_76 ?_
  refine WA.nmM (fun M9 eM9 => ?_)
  have h := h _ eM9
  exact h
set_option maxHeartbeats 4000000 in
set_option maxRecDepth 100000 in
theorem B_X9_init_79 {G : GP} {X : BX} {P : Int → NS → MM → Prop} {l0 : Int} {rc rs : Nat} {w : NS} {M : MM} (C : CX_X9_init G X) (h : (w.2 l0 = (10, 17)) ∧ ∀ M2 : MM, M2 = (up M l0 4 0) → ∀ w3 : NS, w3 = (w.1 + 1, us w.2 w.1 18 24) → (l0 < (w.1 : Int)) ∧ ∀ M9 : MM, M9 = (up M2 l0 5 (w.1 : Int)) → A_X9_init_93 G X P l0 (rc + 0) (rs + 0) w3 M9) : A_X9_init_79 G X P l0 (rc + 1) (rs + 24) w M := by
  unfold A_X9_init_79
  refine s_aload_n C dX9_init_79 rfl ?_
  refine s_iconst C dX9_init_80 (by decide) ?_
  obtain ⟨o1, h⟩ := h
  refine pf_X9_29 C o1 (fun e => by cases e) dX9_init_81 ?_
  refine WA.nmM (fun M2 eM2 => ?_)
  have h := h _ eM2
  refine s_aload_n C dX9_init_84 rfl ?_
  refine s_bipush C dX9_init_85 ⟨rfl, by decide, by decide⟩ ?_
  refine s_newq (t := 18) (N := 24) (t0 := 6) (Cn := "CutBureau$Piece") C (by decide) rfl (mG (wd_85) rfl) (wd_86) rfl (by decide) dX9_init_87 ?_
  refine WA.nmW (fun w3 ew3 => ?_)
  have h := h _ ew3
  obtain ⟨o4, h⟩ := h
  have k5 : w3.2 l0 = (10, 17) := by rw [ew3]; exact us_ne o1 (Int.ne_of_lt o4)
  have b6 : l0 < (w3.1 : Int) := by have := o4; rw [ew3]; show _ < ((w.1 + 1 : Nat) : Int); omega
  have k7 : w3.2 (w.1 : Int) = (18, 24) := by rw [ew3]; exact us_new _ _ _ _
  have b8 : (w.1 : Int) < (w3.1 : Int) := by rw [ew3]; show _ < ((w.1 + 1 : Nat) : Int); omega
  refine pf_X9_32 C k5 (fun e => by cases e) dX9_init_90 ?_
  refine WA.nmM (fun M9 eM9 => ?_)
  have h := h _ eM9
  exact h
set_option maxHeartbeats 4000000 in
set_option maxRecDepth 100000 in
theorem B_X9_init_93 {G : GP} {X : BX} {P : Int → NS → MM → Prop} {l0 : Int} {rc rs : Nat} {w : NS} {M : MM} (C : CX_X9_init G X) (h : ∀ w1 : NS, w1 = (w.1 + 1, us w.2 w.1 16 10) → (w1.2 l0 = (10, 17)) ∧ ∀ M5 : MM, M5 = (up M l0 6 (w.1 : Int)) → ∀ M6 : MM, M6 = (up M5 l0 7 0) → A_X9_init_107 G X P l0 (rc + 0) (rs + 0) w1 M6) : A_X9_init_93 G X P l0 (rc + 1) (rs + 10) w M := by
  unfold A_X9_init_93
  refine s_aload_n C dX9_init_93 rfl ?_
  refine s_bipush C dX9_init_94 ⟨rfl, by decide, by decide⟩ ?_
  refine s_newq (t := 16) (N := 10) (t0 := 4) (Cn := "CutBureau$Order") C (by decide) rfl (mG (wd_87) rfl) (wd_88) rfl (by decide) dX9_init_96 ?_
  refine WA.nmW (fun w1 ew1 => ?_)
  have h := h _ ew1
  have k2 : w1.2 (w.1 : Int) = (16, 10) := by rw [ew1]; exact us_new _ _ _ _
  have b3 : (w.1 : Int) < (w1.1 : Int) := by rw [ew1]; show _ < ((w.1 + 1 : Nat) : Int); omega
  obtain ⟨o4, h⟩ := h
  refine pf_X9_37 C o4 (fun e => by cases e) dX9_init_99 ?_
  refine WA.nmM (fun M5 eM5 => ?_)
  have h := h _ eM5
  refine s_aload_n C dX9_init_102 rfl ?_
  refine s_iconst C dX9_init_103 (by decide) ?_
  refine pf_X9_41 C o4 (fun e => by cases e) dX9_init_104 ?_
  refine WA.nmM (fun M6 eM6 => ?_)
  have h := h _ eM6
  exact h
set_option maxHeartbeats 4000000 in
set_option maxRecDepth 100000 in
theorem B_X9_init_107 {G : GP} {X : BX} {P : Int → NS → MM → Prop} {l0 : Int} {rc rs : Nat} {w : NS} {M : MM} (C : CX_X9_init G X) (h : ∀ w1 : NS, w1 = (w.1 + 1, us w.2 w.1 9 2) → ∃ Q4 : Int → NS → MM → Prop, CT_X8_init G X.2.1 [(2, (w.1 : Int))] w1 M Q4 ∧ ∀ (z4 : Int) (w4 : NS) (M4 : MM), Q4 z4 w4 M4 → (w4.2 (w.1 : Int) = (9, 2)) ∧ ((w.1 : Int) < (w4.1 : Int)) ∧ (w4.2 l0 = (10, 17)) ∧ ∀ M8 : MM, M8 = (up M4 l0 8 (w.1 : Int)) → ∀ w9 : NS, w9 = (w4.1 + 1, us w4.2 w4.1 2 3) → (l0 < (w4.1 : Int)) ∧ ∃ Q17 : Int → NS → MM → Prop, CT_X1_init G X.2.1 [(2, (w4.1 : Int))] w9 M8 Q17 ∧ ∀ (z17 : Int) (w17 : NS) (M17 : MM), Q17 z17 w17 M17 → (w17.2 (w.1 : Int) = (9, 2)) ∧ ((w.1 : Int) < (w17.1 : Int)) ∧ (w17.2 l0 = (10, 17)) ∧ (l0 < (w17.1 : Int)) ∧ (w17.2 (w4.1 : Int) = (2, 3)) ∧ ((w4.1 : Int) < (w17.1 : Int)) ∧ ∀ M24 : MM, M24 = (up M17 l0 9 (w4.1 : Int)) → A_X9_init_129 G X P l0 (rc + 0) (rs + 0) w17 M24) : A_X9_init_107 G X P l0 (rc + 5) (rs + 130) w M := by
  unfold A_X9_init_107
  refine s_aload_n C dX9_init_107 rfl ?_
  refine nw_X9_44 C dX9_init_108 ?_
  refine WA.nmW (fun w1 ew1 => ?_)
  have h := h _ ew1
  have k2 : w1.2 (w.1 : Int) = (9, 2) := by rw [ew1]; exact us_new _ _ _ _
  have b3 : (w.1 : Int) < (w1.1 : Int) := by rw [ew1]; show _ < ((w.1 + 1 : Nat) : Int); omega
  refine s_dup C (by simp) dX9_init_111 ?_
  obtain ⟨Q4, hKQ4, h⟩ := h
  refine s_callIN (av := []) (rest := [(2, (w.1 : Int)), (2, l0)]) (mc := 1) (ms := 40) C dX9_init_112 lk_X9_46 k2 (by decide) rfl rfl (Nat.le_of_ble_eq_true rfl) (by decide) (by decide) hKQ4 (fun z4 w4 M4 hq => ?_)
  have h := h z4 w4 M4 hq
  obtain ⟨o5, h⟩ := h
  obtain ⟨o6, h⟩ := h
  obtain ⟨o7, h⟩ := h
  refine pf_X9_47 C o7 (fun e => by cases e) dX9_init_115 ?_
  refine WA.nmM (fun M8 eM8 => ?_)
  have h := h _ eM8
  refine s_aload_n C dX9_init_118 rfl ?_
  refine nw_X9_51 C dX9_init_119 ?_
  refine WA.nmW (fun w9 ew9 => ?_)
  have h := h _ ew9
  have k10 : w9.2 (w.1 : Int) = (9, 2) := by rw [ew9]; exact us_ne o5 (Int.ne_of_lt o6)
  have b11 : (w.1 : Int) < (w9.1 : Int) := by have := o6; rw [ew9]; show _ < ((w4.1 + 1 : Nat) : Int); omega
  obtain ⟨o12, h⟩ := h
  have k13 : w9.2 l0 = (10, 17) := by rw [ew9]; exact us_ne o7 (Int.ne_of_lt o12)
  have b14 : l0 < (w9.1 : Int) := by have := o12; rw [ew9]; show _ < ((w4.1 + 1 : Nat) : Int); omega
  have k15 : w9.2 (w4.1 : Int) = (2, 3) := by rw [ew9]; exact us_new _ _ _ _
  have b16 : (w4.1 : Int) < (w9.1 : Int) := by rw [ew9]; show _ < ((w4.1 + 1 : Nat) : Int); omega
  refine s_dup C (by simp) dX9_init_122 ?_
  obtain ⟨Q17, hKQ17, h⟩ := h
  refine s_callIN (av := []) (rest := [(2, (w4.1 : Int)), (2, l0)]) (mc := 2) (ms := 85) C dX9_init_123 lk_X9_53 k15 (by decide) rfl rfl (Nat.le_of_ble_eq_true rfl) (by decide) (by decide) hKQ17 (fun z17 w17 M17 hq => ?_)
  have h := h z17 w17 M17 hq
  obtain ⟨o18, h⟩ := h
  obtain ⟨o19, h⟩ := h
  obtain ⟨o20, h⟩ := h
  obtain ⟨o21, h⟩ := h
  obtain ⟨o22, h⟩ := h
  obtain ⟨o23, h⟩ := h
  refine pf_X9_54 C o20 (fun e => by cases e) dX9_init_126 ?_
  refine WA.nmM (fun M24 eM24 => ?_)
  have h := h _ eM24
  exact h
set_option maxHeartbeats 4000000 in
set_option maxRecDepth 100000 in
theorem B_X9_init_129 {G : GP} {X : BX} {P : Int → NS → MM → Prop} {l0 : Int} {rc rs : Nat} {w : NS} {M : MM} (C : CX_X9_init G X) (h : ∀ w1 : NS, w1 = (w.1 + 1, us w.2 w.1 12 24) → (w1.2 l0 = (10, 17)) ∧ ∀ M5 : MM, M5 = (up M l0 10 (w.1 : Int)) → ∀ M6 : MM, M6 = (up M5 l0 11 0) → A_X9_init_142 G X P l0 (rc + 0) (rs + 0) w1 M6) : A_X9_init_129 G X P l0 (rc + 1) (rs + 24) w M := by
  unfold A_X9_init_129
  refine s_aload_n C dX9_init_129 rfl ?_
  refine s_bipush C dX9_init_130 ⟨rfl, by decide, by decide⟩ ?_
  refine na_12 (N := 24) C rfl (by decide) dX9_init_132 ?_
  refine WA.nmW (fun w1 ew1 => ?_)
  have h := h _ ew1
  have k2 : w1.2 (w.1 : Int) = (12, 24) := by rw [ew1]; exact us_new _ _ _ _
  have b3 : (w.1 : Int) < (w1.1 : Int) := by rw [ew1]; show _ < ((w.1 + 1 : Nat) : Int); omega
  obtain ⟨o4, h⟩ := h
  refine pf_X9_58 C o4 (fun e => by cases e) dX9_init_134 ?_
  refine WA.nmM (fun M5 eM5 => ?_)
  have h := h _ eM5
  refine s_aload_n C dX9_init_137 rfl ?_
  refine s_iconst C dX9_init_138 (by decide) ?_
  refine pf_X9_61 C o4 (fun e => by cases e) dX9_init_139 ?_
  refine WA.nmM (fun M6 eM6 => ?_)
  have h := h _ eM6
  exact h
set_option maxHeartbeats 4000000 in
set_option maxRecDepth 100000 in
theorem B_X9_init_142 {G : GP} {X : BX} {P : Int → NS → MM → Prop} {l0 : Int} {rc rs : Nat} {w : NS} {M : MM} (C : CX_X9_init G X) (h : ∀ w1 : NS, w1 = (w.1 + 1, us w.2 w.1 15 4) → (w1.2 l0 = (10, 17)) ∧ ∀ M5 : MM, M5 = (up M l0 12 (w.1 : Int)) → ∀ w6 : NS, w6 = (w1.1 + 1, us w1.2 w1.1 1 5) → (l0 < (w1.1 : Int)) ∧ ∃ Q14 : Int → NS → MM → Prop, CT_X0_init G X.2.1 [(2, (w1.1 : Int))] w6 M5 Q14 ∧ ∀ (z14 : Int) (w14 : NS) (M14 : MM), Q14 z14 w14 M14 → (w14.2 (w.1 : Int) = (15, 4)) ∧ ((w.1 : Int) < (w14.1 : Int)) ∧ (w14.2 l0 = (10, 17)) ∧ (l0 < (w14.1 : Int)) ∧ (w14.2 (w1.1 : Int) = (1, 5)) ∧ ((w1.1 : Int) < (w14.1 : Int)) ∧ ∀ M21 : MM, M21 = (up M14 l0 13 (w1.1 : Int)) → A_X9_init_161 G X P l0 (rc + 0) (rs + 0) w14 M21) : A_X9_init_142 G X P l0 (rc + 6) (rs + 548) w M := by
  unfold A_X9_init_142
  refine s_aload_n C dX9_init_142 rfl ?_
  refine s_iconst C dX9_init_143 (by decide) ?_
  refine s_newq (t := 15) (N := 4) (t0 := 3) (Cn := "CutBureau$Name") C (by decide) rfl (mG (wd_123) rfl) (wd_124) rfl (by decide) dX9_init_144 ?_
  refine WA.nmW (fun w1 ew1 => ?_)
  have h := h _ ew1
  have k2 : w1.2 (w.1 : Int) = (15, 4) := by rw [ew1]; exact us_new _ _ _ _
  have b3 : (w.1 : Int) < (w1.1 : Int) := by rw [ew1]; show _ < ((w.1 + 1 : Nat) : Int); omega
  obtain ⟨o4, h⟩ := h
  refine pf_X9_66 C o4 (fun e => by cases e) dX9_init_147 ?_
  refine WA.nmM (fun M5 eM5 => ?_)
  have h := h _ eM5
  refine s_aload_n C dX9_init_150 rfl ?_
  refine nw_X9_70 C dX9_init_151 ?_
  refine WA.nmW (fun w6 ew6 => ?_)
  have h := h _ ew6
  have k7 : w6.2 (w.1 : Int) = (15, 4) := by rw [ew6]; exact us_ne k2 (Int.ne_of_lt b3)
  have b8 : (w.1 : Int) < (w6.1 : Int) := by have := b3; rw [ew6]; show _ < ((w1.1 + 1 : Nat) : Int); omega
  obtain ⟨o9, h⟩ := h
  have k10 : w6.2 l0 = (10, 17) := by rw [ew6]; exact us_ne o4 (Int.ne_of_lt o9)
  have b11 : l0 < (w6.1 : Int) := by have := o9; rw [ew6]; show _ < ((w1.1 + 1 : Nat) : Int); omega
  have k12 : w6.2 (w1.1 : Int) = (1, 5) := by rw [ew6]; exact us_new _ _ _ _
  have b13 : (w1.1 : Int) < (w6.1 : Int) := by rw [ew6]; show _ < ((w1.1 + 1 : Nat) : Int); omega
  refine s_dup C (by simp) dX9_init_154 ?_
  obtain ⟨Q14, hKQ14, h⟩ := h
  refine s_callIN (av := []) (rest := [(2, (w1.1 : Int)), (2, l0)]) (mc := 4) (ms := 539) C dX9_init_155 lk_X9_72 k12 (by decide) rfl rfl (Nat.le_of_ble_eq_true rfl) (by decide) (by decide) hKQ14 (fun z14 w14 M14 hq => ?_)
  have h := h z14 w14 M14 hq
  obtain ⟨o15, h⟩ := h
  obtain ⟨o16, h⟩ := h
  obtain ⟨o17, h⟩ := h
  obtain ⟨o18, h⟩ := h
  obtain ⟨o19, h⟩ := h
  obtain ⟨o20, h⟩ := h
  refine pf_X9_73 C o17 (fun e => by cases e) dX9_init_158 ?_
  refine WA.nmM (fun M21 eM21 => ?_)
  have h := h _ eM21
  exact h
set_option maxHeartbeats 4000000 in
set_option maxRecDepth 100000 in
theorem B_X9_init_161 {G : GP} {X : BX} {P : Int → NS → MM → Prop} {l0 : Int} {rc rs : Nat} {w : NS} {M : MM} (C : CX_X9_init G X) (h : ∀ w1 : NS, w1 = (w.1 + 1, us w.2 w.1 19 4) → (w1.2 l0 = (10, 17)) ∧ ∀ M5 : MM, M5 = (up M l0 14 (w.1 : Int)) → ∀ w6 : NS, w6 = (w1.1 + 1, us w1.2 w1.1 6 3) → (l0 < (w1.1 : Int)) ∧ ∃ Q14 : Int → NS → MM → Prop, CT_X5_init G X.2.1 [(2, (w1.1 : Int))] w6 M5 Q14 ∧ ∀ (z14 : Int) (w14 : NS) (M14 : MM), Q14 z14 w14 M14 → (w14.2 (w.1 : Int) = (19, 4)) ∧ ((w.1 : Int) < (w14.1 : Int)) ∧ (w14.2 l0 = (10, 17)) ∧ (l0 < (w14.1 : Int)) ∧ (w14.2 (w1.1 : Int) = (6, 3)) ∧ ((w1.1 : Int) < (w14.1 : Int)) ∧ ∀ M21 : MM, M21 = (up M14 l0 15 (w1.1 : Int)) → A_X9_init_180 G X P l0 (rc + 0) (rs + 0) w14 M21) : A_X9_init_161 G X P l0 (rc + 5) (rs + 527) w M := by
  unfold A_X9_init_161
  refine s_aload_n C dX9_init_161 rfl ?_
  refine s_iconst C dX9_init_162 (by decide) ?_
  refine s_newq (t := 19) (N := 4) (t0 := 7) (Cn := "CutBureau$Reader") C (by decide) rfl (mG (wd_150) rfl) (wd_151) rfl (by decide) dX9_init_163 ?_
  refine WA.nmW (fun w1 ew1 => ?_)
  have h := h _ ew1
  have k2 : w1.2 (w.1 : Int) = (19, 4) := by rw [ew1]; exact us_new _ _ _ _
  have b3 : (w.1 : Int) < (w1.1 : Int) := by rw [ew1]; show _ < ((w.1 + 1 : Nat) : Int); omega
  obtain ⟨o4, h⟩ := h
  refine pf_X9_79 C o4 (fun e => by cases e) dX9_init_166 ?_
  refine WA.nmM (fun M5 eM5 => ?_)
  have h := h _ eM5
  refine s_aload_n C dX9_init_169 rfl ?_
  refine nw_X9_83 C dX9_init_170 ?_
  refine WA.nmW (fun w6 ew6 => ?_)
  have h := h _ ew6
  have k7 : w6.2 (w.1 : Int) = (19, 4) := by rw [ew6]; exact us_ne k2 (Int.ne_of_lt b3)
  have b8 : (w.1 : Int) < (w6.1 : Int) := by have := b3; rw [ew6]; show _ < ((w1.1 + 1 : Nat) : Int); omega
  obtain ⟨o9, h⟩ := h
  have k10 : w6.2 l0 = (10, 17) := by rw [ew6]; exact us_ne o4 (Int.ne_of_lt o9)
  have b11 : l0 < (w6.1 : Int) := by have := o9; rw [ew6]; show _ < ((w1.1 + 1 : Nat) : Int); omega
  have k12 : w6.2 (w1.1 : Int) = (6, 3) := by rw [ew6]; exact us_new _ _ _ _
  have b13 : (w1.1 : Int) < (w6.1 : Int) := by rw [ew6]; show _ < ((w1.1 + 1 : Nat) : Int); omega
  refine s_dup C (by simp) dX9_init_173 ?_
  obtain ⟨Q14, hKQ14, h⟩ := h
  refine s_callIN (av := []) (rest := [(2, (w1.1 : Int)), (2, l0)]) (mc := 3) (ms := 520) C dX9_init_174 lk_X9_85 k12 (by decide) rfl rfl (Nat.le_of_ble_eq_true rfl) (by decide) (by decide) hKQ14 (fun z14 w14 M14 hq => ?_)
  have h := h z14 w14 M14 hq
  obtain ⟨o15, h⟩ := h
  obtain ⟨o16, h⟩ := h
  obtain ⟨o17, h⟩ := h
  obtain ⟨o18, h⟩ := h
  obtain ⟨o19, h⟩ := h
  obtain ⟨o20, h⟩ := h
  refine pf_X9_86 C o17 (fun e => by cases e) dX9_init_177 ?_
  refine WA.nmM (fun M21 eM21 => ?_)
  have h := h _ eM21
  exact h
set_option maxHeartbeats 4000000 in
set_option maxRecDepth 100000 in
theorem B_X9_init_180 {G : GP} {X : BX} {P : Int → NS → MM → Prop} {l0 : Int} {rc rs : Nat} {w : NS} {M : MM} (C : CX_X9_init G X) (h : ∀ w1 : NS, w1 = (w.1 + 1, us w.2 w.1 12 6) → (w1.2 l0 = (10, 17)) ∧ ∀ M5 : MM, M5 = (up M l0 16 (w.1 : Int)) → A_X9_init_190 G X P l0 0 (rc + 0) (rs + 0) w1 M5) : A_X9_init_180 G X P l0 (rc + 1) (rs + 6) w M := by
  unfold A_X9_init_180
  refine s_aload_n C dX9_init_180 rfl ?_
  refine s_bipush C dX9_init_181 ⟨rfl, by decide, by decide⟩ ?_
  refine na_12 (N := 6) C rfl (by decide) dX9_init_183 ?_
  refine WA.nmW (fun w1 ew1 => ?_)
  have h := h _ ew1
  have k2 : w1.2 (w.1 : Int) = (12, 6) := by rw [ew1]; exact us_new _ _ _ _
  have b3 : (w.1 : Int) < (w1.1 : Int) := by rw [ew1]; show _ < ((w.1 + 1 : Nat) : Int); omega
  obtain ⟨o4, h⟩ := h
  refine pf_X9_90 C o4 (fun e => by cases e) dX9_init_185 ?_
  refine WA.nmM (fun M5 eM5 => ?_)
  have h := h _ eM5
  refine s_iconst C dX9_init_188 (by decide) ?_
  refine s_istore_n (ls' := [(2, l0), (0, 0)]) C dX9_init_189 (by decide) rfl rfl ?_
  exact h
set_option maxHeartbeats 4000000 in
set_option maxRecDepth 100000 in
theorem B_X9_init_190 {G : GP} {X : BX} {P : Int → NS → MM → Prop} {l0 : Int} {l1 : Int} {rc rs : Nat} {w : NS} {M : MM} (C : CX_X9_init G X) (h : (((4 ≤ l1) → A_X9_init_216 G X P l0 0 (rc + 2) (rs + 102) w M) ∧ ((¬ (4 ≤ l1)) → (w.2 l0 = (10, 17)) ∧ ∀ w2 : NS, w2 = (w.1 + 1, us w.2 w.1 3 2) → (l0 < (w.1 : Int)) ∧ ∃ Q8 : Int → NS → MM → Prop, CT_X2_init G X.2.1 [(2, (w.1 : Int))] w2 M Q8 ∧ ∀ (z8 : Int) (w8 : NS) (M8 : MM), Q8 z8 w8 M8 → (w8.2 l0 = (10, 17)) ∧ (l0 < (w8.1 : Int)) ∧ (w8.2 (w.1 : Int) = (3, 2)) ∧ ((w.1 : Int) < (w8.1 : Int)) ∧ (w8.2 (M l0 12) = (15, 4)) ∧ (0 ≤ l1) ∧ (l1 < 4) ∧ ∀ M16 : MM, M16 = (up M8 (M l0 12) l1 (w.1 : Int)) → (inR (l1 + 1)) ∧ A_X9_init_190 G X P l0 (l1 + 1) (rc + 0) (rs + 0) w8 M16))) : A_X9_init_190 G X P l0 l1 (rc + 2) (rs + 102) w M := by
  unfold A_X9_init_190
  refine s_iload_n C dX9_init_190 rfl ?_
  refine s_iconst C dX9_init_191 (by decide) ?_
  refine s_icmpge C dX9_init_192 rfl (fun hc => ?_) (fun hc => ?_)
  · have h := h.1 hc
    refine s_iconst C dX9_init_214 (by decide) ?_
    refine s_istore_n (ls' := [(2, l0), (0, 0)]) C dX9_init_215 (by decide) rfl rfl ?_
    exact h
  · have h := h.2 hc
    refine s_aload_n C dX9_init_195 rfl ?_
    obtain ⟨o1, h⟩ := h
    refine gf_X9_66 (v0 := (M l0 12)) C o1 dX9_init_196 rfl ?_
    refine s_iload_n C dX9_init_199 rfl ?_
    refine nw_X9_64 C dX9_init_200 ?_
    refine WA.nmW (fun w2 ew2 => ?_)
    have h := h _ ew2
    obtain ⟨o3, h⟩ := h
    have k4 : w2.2 l0 = (10, 17) := by rw [ew2]; exact us_ne o1 (Int.ne_of_lt o3)
    have b5 : l0 < (w2.1 : Int) := by have := o3; rw [ew2]; show _ < ((w.1 + 1 : Nat) : Int); omega
    have k6 : w2.2 (w.1 : Int) = (3, 2) := by rw [ew2]; exact us_new _ _ _ _
    have b7 : (w.1 : Int) < (w2.1 : Int) := by rw [ew2]; show _ < ((w.1 + 1 : Nat) : Int); omega
    refine s_dup C (by simp) dX9_init_203 ?_
    obtain ⟨Q8, hKQ8, h⟩ := h
    refine s_callIN (av := []) (rest := [(2, (w.1 : Int)), (0, l1), (2, (M l0 12))]) (mc := 1) (ms := 100) C dX9_init_204 lk_X9_93 k6 (by decide) rfl rfl (Nat.le_of_ble_eq_true rfl) (by decide) (by decide) hKQ8 (fun z8 w8 M8 hq => ?_)
    have h := h z8 w8 M8 hq
    obtain ⟨o9, h⟩ := h
    obtain ⟨o10, h⟩ := h
    obtain ⟨o11, h⟩ := h
    obtain ⟨o12, h⟩ := h
    obtain ⟨o13, h⟩ := h
    obtain ⟨o14, h⟩ := h
    obtain ⟨o15, h⟩ := h
    refine s_aast (t0 := 3) (ci := 2) C o13 (by decide) rfl rfl (by decide) o11 o14 o15 (fun e => by cases e) dX9_init_207 ?_
    refine WA.nmM (fun M16 eM16 => ?_)
    have h := h _ eM16
    obtain ⟨o17, h⟩ := h
    refine s_iinc (ls' := [(2, l0), (0, (l1 + 1))]) C dX9_init_208 (by decide) rfl o17 rfl rfl ?_
    refine s_goto C dX9_init_211 rfl ?_
    exact h
set_option maxHeartbeats 4000000 in
set_option maxRecDepth 100000 in
theorem B_X9_init_216 {G : GP} {X : BX} {P : Int → NS → MM → Prop} {l0 : Int} {l1 : Int} {rc rs : Nat} {w : NS} {M : MM} (C : CX_X9_init G X) (h : (((4 ≤ l1) → P 0 w M) ∧ ((¬ (4 ≤ l1)) → (w.2 l0 = (10, 17)) ∧ ∀ w2 : NS, w2 = (w.1 + 1, us w.2 w.1 8 4) → (l0 < (w.1 : Int)) ∧ ∃ Q8 : Int → NS → MM → Prop, CT_X7_init G X.2.1 [(2, (w.1 : Int))] w2 M Q8 ∧ ∀ (z8 : Int) (w8 : NS) (M8 : MM), Q8 z8 w8 M8 → (w8.2 l0 = (10, 17)) ∧ (l0 < (w8.1 : Int)) ∧ (w8.2 (w.1 : Int) = (8, 4)) ∧ ((w.1 : Int) < (w8.1 : Int)) ∧ (w8.2 (M l0 14) = (19, 4)) ∧ (0 ≤ l1) ∧ (l1 < 4) ∧ ∀ M16 : MM, M16 = (up M8 (M l0 14) l1 (w.1 : Int)) → (inR (l1 + 1)) ∧ A_X9_init_216 G X P l0 (l1 + 1) (rc + 0) (rs + 0) w8 M16))) : A_X9_init_216 G X P l0 l1 (rc + 2) (rs + 14) w M := by
  unfold A_X9_init_216
  refine s_iload_n C dX9_init_216 rfl ?_
  refine s_iconst C dX9_init_217 (by decide) ?_
  refine s_icmpge C dX9_init_218 rfl (fun hc => ?_) (fun hc => ?_)
  · have h := h.1 hc
    exact s_vreturn C dX9_init_240 h
  · have h := h.2 hc
    refine s_aload_n C dX9_init_221 rfl ?_
    obtain ⟨o1, h⟩ := h
    refine gf_X9_79 (v0 := (M l0 14)) C o1 dX9_init_222 rfl ?_
    refine s_iload_n C dX9_init_225 rfl ?_
    refine nw_X9_77 C dX9_init_226 ?_
    refine WA.nmW (fun w2 ew2 => ?_)
    have h := h _ ew2
    obtain ⟨o3, h⟩ := h
    have k4 : w2.2 l0 = (10, 17) := by rw [ew2]; exact us_ne o1 (Int.ne_of_lt o3)
    have b5 : l0 < (w2.1 : Int) := by have := o3; rw [ew2]; show _ < ((w.1 + 1 : Nat) : Int); omega
    have k6 : w2.2 (w.1 : Int) = (8, 4) := by rw [ew2]; exact us_new _ _ _ _
    have b7 : (w.1 : Int) < (w2.1 : Int) := by rw [ew2]; show _ < ((w.1 + 1 : Nat) : Int); omega
    refine s_dup C (by simp) dX9_init_229 ?_
    obtain ⟨Q8, hKQ8, h⟩ := h
    refine s_callIN (av := []) (rest := [(2, (w.1 : Int)), (0, l1), (2, (M l0 14))]) (mc := 1) (ms := 10) C dX9_init_230 lk_X9_94 k6 (by decide) rfl rfl (Nat.le_of_ble_eq_true rfl) (by decide) (by decide) hKQ8 (fun z8 w8 M8 hq => ?_)
    have h := h z8 w8 M8 hq
    obtain ⟨o9, h⟩ := h
    obtain ⟨o10, h⟩ := h
    obtain ⟨o11, h⟩ := h
    obtain ⟨o12, h⟩ := h
    obtain ⟨o13, h⟩ := h
    obtain ⟨o14, h⟩ := h
    obtain ⟨o15, h⟩ := h
    refine s_aast (t0 := 7) (ci := 7) C o13 (by decide) rfl rfl (by decide) o11 o14 o15 (fun e => by cases e) dX9_init_233 ?_
    refine WA.nmM (fun M16 eM16 => ?_)
    have h := h _ eM16
    obtain ⟨o17, h⟩ := h
    refine s_iinc (ls' := [(2, l0), (0, (l1 + 1))]) C dX9_init_234 (by decide) rfl o17 rfl rfl ?_
    refine s_goto C dX9_init_237 rfl ?_
    exact h
theorem E_X9_init {G : GP} {l : Launch} {P : Int → NS → MM → Prop} {l0 : Int} {w : NS} {M : MM} (h : ∀ X : BX, X.2.1 = l → CX_X9_init G X → A_X9_init_0 G X P l0 39 1774 w M) : CT_X9_init G l [(2, l0)] w M P :=
  CT.of RX9 "<init>" (by decide +kernel) rfl rfl rfl (Nat.le_of_ble_eq_true rfl) (fun hr X hX C => h  X hX C)
def A_X4_init_0 (G : GP) (X : BX) (P : Int → NS → MM → Prop) (l0 : Int) (l1 : Int) (l2 : Int) (l3 : Int) (rc rs : Nat) (w : NS) (M : MM) : Prop := WA false G X (QM G X false 4 P) 5 0 [(2, l0), (0, l1), (0, l2), (0, l3), (3, 0)] [] rc rs w M
def A_X4_init_35 (G : GP) (X : BX) (P : Int → NS → MM → Prop) (l0 : Int) (l4 : Int) (rc rs : Nat) (w : NS) (M : MM) : Prop := WA false G X (QM G X false 4 P) 5 35 [(2, l0), (3, 0), (3, 0), (3, 0), (0, l4)] [] rc rs w M
set_option maxHeartbeats 4000000 in
set_option maxRecDepth 100000 in
theorem B_X4_init_0 {G : GP} {X : BX} {P : Int → NS → MM → Prop} {l0 : Int} {l1 : Int} {l2 : Int} {l3 : Int} {rc rs : Nat} {w : NS} {M : MM} (C : CX_X4_init G X) (h : (w.2 l0 = (5, 5)) ∧ ∀ w2 : NS, w2 = (w.1 + 1, us w.2 w.1 12 60) → (l0 < (w.1 : Int)) ∧ ∀ M8 : MM, M8 = (up M l0 3 (w.1 : Int)) → ∀ M9 : MM, M9 = (up M8 l0 4 0) → ∀ M10 : MM, M10 = (up M9 l0 0 l1) → ∀ M11 : MM, M11 = (up M10 l0 1 l2) → ∀ M12 : MM, M12 = (up M11 l0 2 l3) → A_X4_init_35 G X P l0 0 (rc + 0) (rs + 0) w2 M12) : A_X4_init_0 G X P l0 l1 l2 l3 (rc + 1) (rs + 60) w M := by
  unfold A_X4_init_0
  refine s_aload_n C dX4_init_0 rfl ?_
  obtain ⟨o1, h⟩ := h
  refine s_objInit C o1 (by decide) (mG (wd_275) rfl) (mG (wd_81) rfl) (mG (wd_82) rfl) (by decide) (by decide) (Nat.le_of_ble_eq_true rfl) dX4_init_1 ?_
  refine s_aload_n C dX4_init_4 rfl ?_
  refine s_bipush C dX4_init_5 ⟨rfl, by decide, by decide⟩ ?_
  refine na_12 (N := 60) C rfl (by decide) dX4_init_7 ?_
  refine WA.nmW (fun w2 ew2 => ?_)
  have h := h _ ew2
  obtain ⟨o3, h⟩ := h
  have k4 : w2.2 l0 = (5, 5) := by rw [ew2]; exact us_ne o1 (Int.ne_of_lt o3)
  have b5 : l0 < (w2.1 : Int) := by have := o3; rw [ew2]; show _ < ((w.1 + 1 : Nat) : Int); omega
  have k6 : w2.2 (w.1 : Int) = (12, 60) := by rw [ew2]; exact us_new _ _ _ _
  have b7 : (w.1 : Int) < (w2.1 : Int) := by rw [ew2]; show _ < ((w.1 + 1 : Nat) : Int); omega
  refine pf_X4_9 C k4 (fun e => by cases e) dX4_init_9 ?_
  refine WA.nmM (fun M8 eM8 => ?_)
  have h := h _ eM8
  refine s_aload_n C dX4_init_12 rfl ?_
  refine s_aconst C dX4_init_13 ?_
  refine pf_X4_15 C k4 (fun e => by cases e) dX4_init_14 ?_
  refine WA.nmM (fun M9 eM9 => ?_)
  have h := h _ eM9
  refine s_aload_n C dX4_init_17 rfl ?_
  refine s_iload_n C dX4_init_18 rfl ?_
  refine pf_X4_19 C k4 (fun e => by cases e) dX4_init_19 ?_
  refine WA.nmM (fun M10 eM10 => ?_)
  have h := h _ eM10
  refine s_aload_n C dX4_init_22 rfl ?_
  refine s_iload_n C dX4_init_23 rfl ?_
  refine pf_X4_23 C k4 (fun e => by cases e) dX4_init_24 ?_
  refine WA.nmM (fun M11 eM11 => ?_)
  have h := h _ eM11
  refine s_aload_n C dX4_init_27 rfl ?_
  refine s_iload_n C dX4_init_28 rfl ?_
  refine pf_X4_26 C k4 (fun e => by cases e) dX4_init_29 ?_
  refine WA.nmM (fun M12 eM12 => ?_)
  have h := h _ eM12
  refine s_iconst C dX4_init_32 (by decide) ?_
  refine s_istore (ls' := [(2, l0), (0, l1), (0, l2), (0, l3), (0, 0)]) C dX4_init_33 (by decide) rfl rfl ?_
  exact WA.wk h ⟨Or.inr rfl, Or.inl rfl, Or.inl rfl, Or.inl rfl, Or.inr rfl, trivial⟩
set_option maxHeartbeats 4000000 in
set_option maxRecDepth 100000 in
theorem B_X4_init_35 {G : GP} {X : BX} {P : Int → NS → MM → Prop} {l0 : Int} {l4 : Int} {rc rs : Nat} {w : NS} {M : MM} (C : CX_X4_init G X) (h : (((60 ≤ l4) → P 0 w M) ∧ ((¬ (60 ≤ l4)) → (w.2 l0 = (5, 5)) ∧ (w.2 (M l0 3) = (12, 60)) ∧ (0 ≤ l4) ∧ (l4 < 60) ∧ ∀ M5 : MM, M5 = (up M (M l0 3) l4 (-6)) → (inR (l4 + 1)) ∧ A_X4_init_35 G X P l0 (l4 + 1) (rc + 0) (rs + 0) w M5))) : A_X4_init_35 G X P l0 l4 (rc + 0) (rs + 0) w M := by
  unfold A_X4_init_35
  refine s_iload C dX4_init_35 rfl ?_
  refine s_bipush C dX4_init_37 ⟨rfl, by decide, by decide⟩ ?_
  refine s_icmpge C dX4_init_39 rfl (fun hc => ?_) (fun hc => ?_)
  · have h := h.1 hc
    exact s_vreturn C dX4_init_57 h
  · have h := h.2 hc
    refine s_aload_n C dX4_init_42 rfl ?_
    obtain ⟨o1, h⟩ := h
    refine gf_X4_9 (v0 := (M l0 3)) C o1 dX4_init_43 rfl ?_
    refine s_iload C dX4_init_46 rfl ?_
    refine s_bipush C dX4_init_48 ⟨rfl, by decide, by decide⟩ ?_
    obtain ⟨o2, h⟩ := h
    obtain ⟨o3, h⟩ := h
    obtain ⟨o4, h⟩ := h
    refine s_iast C o2 o3 o4 (fun e => by cases e) dX4_init_50 ?_
    refine WA.nmM (fun M5 eM5 => ?_)
    have h := h _ eM5
    obtain ⟨o6, h⟩ := h
    refine s_iinc (ls' := [(2, l0), (3, 0), (3, 0), (3, 0), (0, (l4 + 1))]) C dX4_init_51 (by decide) rfl o6 rfl rfl ?_
    refine s_goto C dX4_init_54 rfl ?_
    exact h
theorem E_X4_init {G : GP} {l : Launch} {P : Int → NS → MM → Prop} {l0 : Int} {l1 : Int} {l2 : Int} {l3 : Int} {w : NS} {M : MM} (h : inR l1 → inR l2 → inR l3 → ∀ X : BX, X.2.1 = l → CX_X4_init G X → A_X4_init_0 G X P l0 l1 l2 l3 1 60 w M) : CT_X4_init G l [(2, l0), (0, l1), (0, l2), (0, l3)] w M P :=
  CT.of RX4 "<init>" (by decide +kernel) rfl rfl rfl (Nat.le_of_ble_eq_true rfl) (fun hr X hX C => h (hr (0, l1) (by simp)) (hr (0, l2) (by simp)) (hr (0, l3) (by simp)) X hX C)
def A_X9_page_0 (G : GP) (X : BX) (P : Int → NS → MM → Prop) (l1 : Int) (l2 : Int) (w : NS) (M : MM) : Prop := WA true G X (QM G X true 0 P) 3 0 [(2, 1), (0, l1), (0, l2)] [] 2 65 w M
set_option maxHeartbeats 4000000 in
set_option maxRecDepth 100000 in
theorem B_X9_page_0 {G : GP} {X : BX} {P : Int → NS → MM → Prop} {l1 : Int} {l2 : Int} {w : NS} {M : MM} (C : CX_X9_page G X) (h : (((¬ (0 ≤ l1 ∧ l1 ≤ 9)) → P (-2) w M) ∧ (((0 ≤ l1 ∧ l1 ≤ 9)) → ((((0 ≤ l2 ∧ l2 ≤ 99)) → ((((M 1 2) < 8) → ∀ w4 : NS, w4 = (w.1 + 1, us w.2 w.1 5 5) → (1 < (w.1 : Int)) ∧ ∃ Q10 : Int → NS → MM → Prop, CT_X4_init G X.2.1 [(2, (w.1 : Int)), (0, (M 1 2)), (0, l1), (0, l2)] w4 M Q10 ∧ ∀ (z10 : Int) (w10 : NS) (M10 : MM), Q10 z10 w10 M10 → (FixA w10 M10) ∧ (0 ≤ (M 1 2)) ∧ ((M 1 2) < 8) ∧ (w10.2 (w.1 : Int) = (5, 5)) ∧ (inR ((M10 1 2) + 1)) ∧ P (M10 1 2) w10 (up (up M10 3 (M 1 2) (w.1 : Int)) 1 2 ((M10 1 2) + 1))) ∧ ((¬ ((M 1 2) < 8)) → P (-4) w M))) ∧ ((¬ (0 ≤ l2 ∧ l2 ≤ 99)) → P (-2) w M))))) : A_X9_page_0 G X P l1 l2 w M := by
  unfold A_X9_page_0
  refine s_iload_n C dX9_page_0 rfl ?_
  refine s_iconst C dX9_page_1 (by decide) ?_
  refine s_bipush C dX9_page_2 ⟨rfl, by decide, by decide⟩ ?_
  refine s_callS (av := [(0, l1), (0, 0), (0, 9)]) (rest := []) (mc := 0) (ms := 0) C dX9_page_4 lk_X9_95 rfl rfl (Nat.le_of_ble_eq_true rfl) (by decide) (by decide) (pc_X9_within) (fun z1 wz1 Mz1 hq => ?_)
  obtain ⟨hq1, hq2, hq3⟩ := hq
  have hq2 := hq2.symm
  have hq3 := hq3.symm
  subst hq1 hq2 hq3
  refine s_ifeq C dX9_page_7 rfl (fun hc => ?_) (fun hc => ?_)
  · have h := h.1 (b2i_0.mp hc)
    refine s_bipush C dX9_page_17 ⟨rfl, by decide, by decide⟩ ?_
    exact s_ireturn C dX9_page_19 h
  · have h := h.2 (b2i_n0 hc)
    refine s_iload_n C dX9_page_10 rfl ?_
    refine s_callS (av := [(0, l2)]) (rest := []) (mc := 0) (ms := 0) C dX9_page_11 lk_X9_99 rfl rfl (Nat.le_of_ble_eq_true rfl) (by decide) (by decide) (pc_X9_isDay) (fun z2 wz2 Mz2 hq => ?_)
    obtain ⟨hq1, hq2, hq3⟩ := hq
    have hq2 := hq2.symm
    have hq3 := hq3.symm
    subst hq1 hq2 hq3
    refine s_ifne C dX9_page_14 rfl (fun hc => ?_) (fun hc => ?_)
    · have h := h.1 (b2i_n0 hc)
      refine s_aload_n C dX9_page_20 rfl ?_
      refine WA.fix (fun hF3 => ?_)
      refine gf_X9_19 (v0 := (M 1 2)) C (sh_1 hF3) dX9_page_21 rfl ?_
      refine s_bipush C dX9_page_24 ⟨rfl, by decide, by decide⟩ ?_
      refine s_icmplt C dX9_page_26 rfl (fun hc => ?_) (fun hc => ?_)
      · have h := h.1 hc
        refine s_aload_n C dX9_page_32 rfl ?_
        refine gf_X9_15 C (sh_1 hF3) dX9_page_33 (fx_1_1 hF3) ?_
        refine s_aload_n C dX9_page_36 rfl ?_
        refine gf_X9_19 (v0 := (M 1 2)) C (sh_1 hF3) dX9_page_37 rfl ?_
        refine nw_X9_13 C dX9_page_40 ?_
        refine WA.nmW (fun w4 ew4 => ?_)
        have h := h _ ew4
        obtain ⟨o5, h⟩ := h
        have k6 : w4.2 1 = (10, 17) := by rw [ew4]; exact us_ne (sh_1 hF3) (Int.ne_of_lt o5)
        have b7 : 1 < (w4.1 : Int) := by have := o5; rw [ew4]; show _ < ((w.1 + 1 : Nat) : Int); omega
        have k8 : w4.2 (w.1 : Int) = (5, 5) := by rw [ew4]; exact us_new _ _ _ _
        have b9 : (w.1 : Int) < (w4.1 : Int) := by rw [ew4]; show _ < ((w.1 + 1 : Nat) : Int); omega
        refine s_dup C (by simp) dX9_page_43 ?_
        refine s_aload_n C dX9_page_44 rfl ?_
        refine gf_X9_19 (v0 := (M 1 2)) C k6 dX9_page_45 rfl ?_
        refine s_iload_n C dX9_page_48 rfl ?_
        refine s_iload_n C dX9_page_49 rfl ?_
        obtain ⟨Q10, hKQ10, h⟩ := h
        refine s_callI (av := [(0, (M 1 2)), (0, l1), (0, l2)]) (rest := [(2, (w.1 : Int)), (0, (M 1 2)), (2, 3)]) (mc := 1) (ms := 60) C dX9_page_50 lk_X9_103 k8 (by decide) rfl rfl (Nat.le_of_ble_eq_true rfl) (by decide) (by decide) hKQ10 (fun z10 w10 M10 hq => ?_)
        have h := h z10 w10 M10 hq
        obtain ⟨o11, h⟩ := h
        refine WA.refix o11 ?_
        refine WA.fix (fun hF12 => ?_)
        obtain ⟨o13, h⟩ := h
        obtain ⟨o14, h⟩ := h
        obtain ⟨o15, h⟩ := h
        refine s_aast (t0 := 5) (ci := 4) C (sh_3 hF12) (by decide) rfl rfl (by decide) o15 o13 o14 (fun _ => by decide) dX9_page_53 ?_
        refine s_aload_n C dX9_page_54 rfl ?_
        refine s_dup C (by simp) dX9_page_55 ?_
        refine WA.fix (fun hF16 => ?_)
        refine gf_X9_19 (v0 := (M10 1 2)) C (sh_1 hF16) dX9_page_56 (up_na (by decide)) ?_
        refine s_dup_x1 C (by simp) (by simp) dX9_page_59 ?_
        refine s_iconst C dX9_page_60 (by decide) ?_
        obtain ⟨o17, h⟩ := h
        refine s_iadd C dX9_page_61 o17 ?_
        refine pf_X9_19 C (sh_1 hF16) (fun _ => by decide) dX9_page_62 ?_
        exact s_ireturn C dX9_page_65 h
      · have h := h.2 hc
        refine s_bipush C dX9_page_29 ⟨rfl, by decide, by decide⟩ ?_
        exact s_ireturn C dX9_page_31 h
    · have h := h.2 (b2i_nn hc)
      refine s_bipush C dX9_page_17 ⟨rfl, by decide, by decide⟩ ?_
      exact s_ireturn C dX9_page_19 h
theorem E_X9_page {G : GP} {l : Launch} {P : Int → NS → MM → Prop} {l1 : Int} {l2 : Int} {w : NS} {M : MM} (h : inR l1 → inR l2 → ∀ X : BX, X.2.1 = l → CX_X9_page G X → A_X9_page_0 G X P l1 l2 w M) : CT_X9_page G l [(2, 1), (0, l1), (0, l2)] w M P :=
  CT.of RX9 "page" (by decide +kernel) rfl rfl rfl (Nat.le_of_ble_eq_true rfl) (fun hr X hX C => h (hr (0, l1) (by simp)) (hr (0, l2) (by simp)) X hX C)
def A_X9_isKept_0 (G : GP) (X : BX) (P : Int → NS → MM → Prop) (l1 : Int) (w : NS) (M : MM) : Prop := WA true G X (QM G X true 0 P) 3 0 [(2, 1), (2, l1), (3, 0)] [] 0 0 w M
def A_X9_isKept_2 (G : GP) (X : BX) (P : Int → NS → MM → Prop) (l1 : Int) (l2 : Int) (w : NS) (M : MM) : Prop := WA true G X (QM G X true 0 P) 3 2 [(2, 1), (2, l1), (0, l2)] [] 0 0 w M
set_option maxHeartbeats 4000000 in
set_option maxRecDepth 100000 in
theorem B_X9_isKept_0 {G : GP} {X : BX} {P : Int → NS → MM → Prop} {l1 : Int} {w : NS} {M : MM} (C : CX_X9_isKept G X) (h : A_X9_isKept_2 G X P l1 0 w M) : A_X9_isKept_0 G X P l1 w M := by
  unfold A_X9_isKept_0
  refine s_iconst C dX9_isKept_0 (by decide) ?_
  refine s_istore_n (ls' := [(2, 1), (2, l1), (0, 0)]) C dX9_isKept_1 (by decide) rfl rfl ?_
  exact h
set_option maxHeartbeats 4000000 in
set_option maxRecDepth 100000 in
theorem B_X9_isKept_2 {G : GP} {X : BX} {P : Int → NS → MM → Prop} {l1 : Int} {l2 : Int} {w : NS} {M : MM} (C : CX_X9_isKept G X) (h : ((((M 1 4) ≤ l2) → P 0 w M) ∧ ((¬ ((M 1 4) ≤ l2)) → (0 ≤ l2) ∧ (l2 < 24) ∧ (w.2 (M 4 l2) = (7, 12)) ∧ (0 ≤ (M (M 4 l2) 1)) ∧ (0 ≤ l1) ∧ ((((M (M 4 l2) 1) ≠ l1) → (inR (l2 + 1)) ∧ A_X9_isKept_2 G X P l1 (l2 + 1) w M) ∧ ((¬ ((M (M 4 l2) 1) ≠ l1)) → ((((M (M 4 l2) 11) ≠ 0) → P 1 w M) ∧ ((¬ ((M (M 4 l2) 11) ≠ 0)) → ((((M (M 4 l2) 10) = 0) → (inR (l2 + 1)) ∧ A_X9_isKept_2 G X P l1 (l2 + 1) w M) ∧ ((¬ ((M (M 4 l2) 10) = 0)) → P 1 w M))))))))) : A_X9_isKept_2 G X P l1 l2 w M := by
  unfold A_X9_isKept_2
  refine s_iload_n C dX9_isKept_2 rfl ?_
  refine s_aload_n C dX9_isKept_3 rfl ?_
  refine WA.fix (fun hF1 => ?_)
  refine gf_X9_29 (v0 := (M 1 4)) C (sh_1 hF1) dX9_isKept_4 rfl ?_
  refine s_icmpge C dX9_isKept_7 rfl (fun hc => ?_) (fun hc => ?_)
  · have h := h.1 hc
    refine s_iconst C dX9_isKept_55 (by decide) ?_
    exact s_zreturn C dX9_isKept_56 (by decide) h
  · have h := h.2 hc
    refine s_aload_n C dX9_isKept_10 rfl ?_
    refine gf_X9_25 C (sh_1 hF1) dX9_isKept_11 (fx_1_3 hF1) ?_
    refine s_iload_n C dX9_isKept_14 rfl ?_
    obtain ⟨o2, h⟩ := h
    obtain ⟨o3, h⟩ := h
    refine s_aald (v0 := (M 4 l2)) (t0 := 6) C (sh_4 hF1) (by decide) rfl o2 o3 dX9_isKept_15 rfl ?_
    obtain ⟨o4, h⟩ := h
    refine gf_X9_166 (v0 := (M (M 4 l2) 1)) C o4 dX9_isKept_16 rfl ?_
    refine s_aload_n C dX9_isKept_19 rfl ?_
    obtain ⟨o5, h⟩ := h
    obtain ⟨o6, h⟩ := h
    refine s_acmpne C dX9_isKept_20 rfl o5 o6 (fun hc => ?_) (fun hc => ?_)
    · have h := h.1 hc
      obtain ⟨o7, h⟩ := h
      refine s_iinc (ls' := [(2, 1), (2, l1), (0, (l2 + 1))]) C dX9_isKept_49 (by decide) rfl o7 rfl rfl ?_
      refine s_goto C dX9_isKept_52 rfl ?_
      exact h
    · have h := h.2 hc
      refine s_aload_n C dX9_isKept_23 rfl ?_
      refine gf_X9_25 C (sh_1 hF1) dX9_isKept_24 (fx_1_3 hF1) ?_
      refine s_iload_n C dX9_isKept_27 rfl ?_
      refine s_aald (v0 := (M 4 l2)) (t0 := 6) C (sh_4 hF1) (by decide) rfl o2 o3 dX9_isKept_28 rfl ?_
      refine gf_X9_174 (v0 := (M (M 4 l2) 11)) C o4 dX9_isKept_29 rfl ?_
      refine s_ifne C dX9_isKept_32 rfl (fun hc => ?_) (fun hc => ?_)
      · have h := h.1 hc
        refine s_iconst C dX9_isKept_47 (by decide) ?_
        exact s_zreturn C dX9_isKept_48 (by decide) h
      · have h := h.2 hc
        refine s_aload_n C dX9_isKept_35 rfl ?_
        refine gf_X9_25 C (sh_1 hF1) dX9_isKept_36 (fx_1_3 hF1) ?_
        refine s_iload_n C dX9_isKept_39 rfl ?_
        refine s_aald (v0 := (M 4 l2)) (t0 := 6) C (sh_4 hF1) (by decide) rfl o2 o3 dX9_isKept_40 rfl ?_
        refine gf_X9_172 (v0 := (M (M 4 l2) 10)) C o4 dX9_isKept_41 rfl ?_
        refine s_ifeq C dX9_isKept_44 rfl (fun hc => ?_) (fun hc => ?_)
        · have h := h.1 hc
          obtain ⟨o8, h⟩ := h
          refine s_iinc (ls' := [(2, 1), (2, l1), (0, (l2 + 1))]) C dX9_isKept_49 (by decide) rfl o8 rfl rfl ?_
          refine s_goto C dX9_isKept_52 rfl ?_
          exact h
        · have h := h.2 hc
          refine s_iconst C dX9_isKept_47 (by decide) ?_
          exact s_zreturn C dX9_isKept_48 (by decide) h
theorem E_X9_isKept {G : GP} {l : Launch} {P : Int → NS → MM → Prop} {l1 : Int} {w : NS} {M : MM} (h : ∀ X : BX, X.2.1 = l → CX_X9_isKept G X → A_X9_isKept_0 G X P l1 w M) : CT_X9_isKept G l [(2, 1), (2, l1)] w M P :=
  CT.of RX9 "isKept" (by decide +kernel) rfl rfl rfl (Nat.le_of_ble_eq_true rfl) (fun hr X hX C => h  X hX C)
def A_X6_readWords_0 (G : GP) (X : BX) (P : Int → NS → MM → Prop) (l0 : Int) (w : NS) (M : MM) : Prop := WA true G X (QM G X true 4 P) 4 0 [(2, l0), (3, 0), (3, 0), (3, 0)] [] 0 0 w M
def A_X6_readWords_10 (G : GP) (X : BX) (P : Int → NS → MM → Prop) (l0 : Int) (l1 : Int) (w : NS) (M : MM) : Prop := WA true G X (QM G X true 4 P) 4 10 [(2, l0), (0, l1), (3, 0), (3, 0)] [] 0 0 w M
def A_X6_readWords_23 (G : GP) (X : BX) (P : Int → NS → MM → Prop) (l0 : Int) (l1 : Int) (l2 : Int) (w : NS) (M : MM) : Prop := WA true G X (QM G X true 4 P) 4 23 [(2, l0), (0, l1), (0, l2), (3, 0)] [] 0 0 w M
set_option maxHeartbeats 4000000 in
set_option maxRecDepth 100000 in
theorem B_X6_readWords_0 {G : GP} {X : BX} {P : Int → NS → MM → Prop} {l0 : Int} {w : NS} {M : MM} (C : CX_X6_readWords G X) (h : (w.2 l0 = (7, 12)) ∧ A_X6_readWords_10 G X P l0 (M l0 2) w (up M l0 7 0)) : A_X6_readWords_0 G X P l0 w M := by
  unfold A_X6_readWords_0
  refine s_aload_n C dX6_readWords_0 rfl ?_
  refine s_iconst C dX6_readWords_1 (by decide) ?_
  obtain ⟨o1, h⟩ := h
  refine pf_X6_15 C o1 (fun _ => by decide) dX6_readWords_2 ?_
  refine s_aload_n C dX6_readWords_5 rfl ?_
  refine gf_X6_38 (v0 := (M l0 2)) C o1 dX6_readWords_6 (up_ni (by decide)) ?_
  refine s_istore_n (ls' := [(2, l0), (0, (M l0 2)), (3, 0), (3, 0)]) C dX6_readWords_9 (by decide) rfl rfl ?_
  exact h
set_option maxHeartbeats 4000000 in
set_option maxRecDepth 100000 in
theorem B_X6_readWords_10 {G : GP} {X : BX} {P : Int → NS → MM → Prop} {l0 : Int} {l1 : Int} {w : NS} {M : MM} (C : CX_X6_readWords G X) (h : (w.2 l0 = (7, 12)) ∧ ((((M l0 3) < l1) → P 0 w M) ∧ ((¬ ((M l0 3) < l1)) → A_X6_readWords_23 G X P l0 l1 (M l0 4) w M))) : A_X6_readWords_10 G X P l0 l1 w M := by
  unfold A_X6_readWords_10
  refine s_iload_n C dX6_readWords_10 rfl ?_
  refine s_aload_n C dX6_readWords_11 rfl ?_
  obtain ⟨o1, h⟩ := h
  refine gf_X6_41 (v0 := (M l0 3)) C o1 dX6_readWords_12 rfl ?_
  refine s_icmpgt C dX6_readWords_15 rfl (fun hc => ?_) (fun hc => ?_)
  · have h := h.1 hc
    exact s_vreturn C dX6_readWords_84 h
  · have h := h.2 hc
    refine s_aload_n C dX6_readWords_18 rfl ?_
    refine gf_X6_44 (v0 := (M l0 4)) C o1 dX6_readWords_19 rfl ?_
    refine s_istore_n (ls' := [(2, l0), (0, l1), (0, (M l0 4)), (3, 0)]) C dX6_readWords_22 (by decide) rfl rfl ?_
    exact h
set_option maxHeartbeats 4000000 in
set_option maxRecDepth 100000 in
theorem B_X6_readWords_23 {G : GP} {X : BX} {P : Int → NS → MM → Prop} {l0 : Int} {l1 : Int} {l2 : Int} {w : NS} {M : MM} (C : CX_X6_readWords G X) (h : (w.2 l0 = (7, 12)) ∧ ((((M l0 5) < l2) → (inR (l1 + 1)) ∧ A_X6_readWords_10 G X P l0 (l1 + 1) w M) ∧ ((¬ ((M l0 5) < l2)) → (w.2 (M l0 1) = (5, 5)) ∧ (inR (l1 * 10)) ∧ (inR ((l1 * 10) + l2)) ∧ (0 ≤ ((l1 * 10) + l2)) ∧ (((l1 * 10) + l2) < 60) ∧ ((((M ((M l0 1) + 1) ((l1 * 10) + l2)) = (-6)) → (inR (l2 + 1)) ∧ A_X6_readWords_23 G X P l0 l1 (l2 + 1) w M) ∧ ((¬ ((M ((M l0 1) + 1) ((l1 * 10) + l2)) = (-6))) → (0 ≤ (M l0 7)) ∧ ((M l0 7) < 60) ∧ (inR (((up M (l0 + 1) (M l0 7) (M ((M l0 1) + 1) ((l1 * 10) + l2))) l0 7) + 1)) ∧ (inR (l2 + 1)) ∧ A_X6_readWords_23 G X P l0 l1 (l2 + 1) w (up (up M (l0 + 1) (M l0 7) (M ((M l0 1) + 1) ((l1 * 10) + l2))) l0 7 (((up M (l0 + 1) (M l0 7) (M ((M l0 1) + 1) ((l1 * 10) + l2))) l0 7) + 1))))))) : A_X6_readWords_23 G X P l0 l1 l2 w M := by
  unfold A_X6_readWords_23
  refine s_iload_n C dX6_readWords_23 rfl ?_
  refine s_aload_n C dX6_readWords_24 rfl ?_
  obtain ⟨o1, h⟩ := h
  refine gf_X6_47 (v0 := (M l0 5)) C o1 dX6_readWords_25 rfl ?_
  refine s_icmpgt C dX6_readWords_28 rfl (fun hc => ?_) (fun hc => ?_)
  · have h := h.1 hc
    obtain ⟨o2, h⟩ := h
    refine s_iinc (ls' := [(2, l0), (0, (l1 + 1)), (0, l2), (3, 0)]) C dX6_readWords_78 (by decide) rfl o2 rfl rfl ?_
    refine s_goto C dX6_readWords_81 rfl ?_
    exact WA.wk h ⟨Or.inr rfl, Or.inr rfl, Or.inl rfl, Or.inl rfl, trivial⟩
  · have h := h.2 hc
    refine s_aload_n C dX6_readWords_31 rfl ?_
    refine gf_X6_34 (v0 := (M l0 1)) C o1 dX6_readWords_32 rfl ?_
    obtain ⟨o3, h⟩ := h
    refine WA.fix (fun hF4 => ?_)
    have hd5 := FixA.dy (t := 5) (n := 5) (k := 3) (m := 60) hF4 (by decide) o3
    refine gf_X6_50 C o3 dX6_readWords_35 hd5.1 ?_
    refine s_iload_n C dX6_readWords_38 rfl ?_
    refine s_bipush C dX6_readWords_39 ⟨rfl, by decide, by decide⟩ ?_
    obtain ⟨o6, h⟩ := h
    refine s_imul C dX6_readWords_41 o6 ?_
    refine s_iload_n C dX6_readWords_42 rfl ?_
    obtain ⟨o7, h⟩ := h
    refine s_iadd C dX6_readWords_43 o7 ?_
    obtain ⟨o8, h⟩ := h
    obtain ⟨o9, h⟩ := h
    refine s_iald (v0 := (M ((M l0 1) + 1) ((l1 * 10) + l2))) C hd5.2 o8 o9 dX6_readWords_44 rfl ?_
    refine s_istore_n (ls' := [(2, l0), (0, l1), (0, l2), (0, (M ((M l0 1) + 1) ((l1 * 10) + l2)))]) C dX6_readWords_45 (by decide) rfl rfl ?_
    refine s_iload_n C dX6_readWords_46 rfl ?_
    refine s_bipush C dX6_readWords_47 ⟨rfl, by decide, by decide⟩ ?_
    refine s_icmpeq C dX6_readWords_49 rfl (fun hc => ?_) (fun hc => ?_)
    · have h := h.1 hc
      obtain ⟨o10, h⟩ := h
      refine s_iinc (ls' := [(2, l0), (0, l1), (0, (l2 + 1)), (0, (M ((M l0 1) + 1) ((l1 * 10) + l2)))]) C dX6_readWords_72 (by decide) rfl o10 rfl rfl ?_
      refine s_goto C dX6_readWords_75 rfl ?_
      exact WA.wk h ⟨Or.inr rfl, Or.inr rfl, Or.inr rfl, Or.inl rfl, trivial⟩
    · have h := h.2 hc
      refine s_aload_n C dX6_readWords_52 rfl ?_
      have hd11 := FixA.dy (t := 7) (n := 12) (k := 6) (m := 60) hF4 (by decide) o1
      refine gf_X6_9 C o1 dX6_readWords_53 hd11.1 ?_
      refine s_aload_n C dX6_readWords_56 rfl ?_
      refine gf_X6_15 (v0 := (M l0 7)) C o1 dX6_readWords_57 rfl ?_
      refine s_iload_n C dX6_readWords_60 rfl ?_
      obtain ⟨o12, h⟩ := h
      obtain ⟨o13, h⟩ := h
      refine s_iast C hd11.2 o12 o13 (fun _ => by decide) dX6_readWords_61 ?_
      refine s_aload_n C dX6_readWords_62 rfl ?_
      refine s_dup C (by simp) dX6_readWords_63 ?_
      refine gf_X6_15 (v0 := ((up M (l0 + 1) (M l0 7) (M ((M l0 1) + 1) ((l1 * 10) + l2))) l0 7)) C o1 dX6_readWords_64 rfl ?_
      refine s_iconst C dX6_readWords_67 (by decide) ?_
      obtain ⟨o14, h⟩ := h
      refine s_iadd C dX6_readWords_68 o14 ?_
      refine pf_X6_15 C o1 (fun _ => by decide) dX6_readWords_69 ?_
      obtain ⟨o15, h⟩ := h
      refine s_iinc (ls' := [(2, l0), (0, l1), (0, (l2 + 1)), (0, (M ((M l0 1) + 1) ((l1 * 10) + l2)))]) C dX6_readWords_72 (by decide) rfl o15 rfl rfl ?_
      refine s_goto C dX6_readWords_75 rfl ?_
      exact WA.wk h ⟨Or.inr rfl, Or.inr rfl, Or.inr rfl, Or.inl rfl, trivial⟩
theorem E_X6_readWords {G : GP} {l : Launch} {P : Int → NS → MM → Prop} {l0 : Int} {w : NS} {M : MM} (h : ∀ X : BX, X.2.1 = l → CX_X6_readWords G X → A_X6_readWords_0 G X P l0 w M) : CT_X6_readWords G l [(2, l0)] w M P :=
  CT.of RX6 "readWords" (by decide +kernel) rfl rfl rfl (Nat.le_of_ble_eq_true rfl) (fun hr X hX C => h  X hX C)
def A_X9_readAgain_0 (G : GP) (X : BX) (P : Int → NS → MM → Prop) (l1 : Int) (w : NS) (M : MM) : Prop := WA true G X (QM G X true 4 P) 3 0 [(2, 1), (2, l1), (3, 0)] [] 0 0 w M
def A_X9_readAgain_2 (G : GP) (X : BX) (P : Int → NS → MM → Prop) (l1 : Int) (l2 : Int) (w : NS) (M : MM) : Prop := WA true G X (QM G X true 4 P) 3 2 [(2, 1), (2, l1), (0, l2)] [] 0 0 w M
set_option maxHeartbeats 4000000 in
set_option maxRecDepth 100000 in
theorem B_X9_readAgain_0 {G : GP} {X : BX} {P : Int → NS → MM → Prop} {l1 : Int} {w : NS} {M : MM} (C : CX_X9_readAgain G X) (h : A_X9_readAgain_2 G X P l1 0 w M) : A_X9_readAgain_0 G X P l1 w M := by
  unfold A_X9_readAgain_0
  refine s_iconst C dX9_readAgain_0 (by decide) ?_
  refine s_istore_n (ls' := [(2, 1), (2, l1), (0, 0)]) C dX9_readAgain_1 (by decide) rfl rfl ?_
  exact h
set_option maxHeartbeats 4000000 in
set_option maxRecDepth 100000 in
theorem B_X9_readAgain_2 {G : GP} {X : BX} {P : Int → NS → MM → Prop} {l1 : Int} {l2 : Int} {w : NS} {M : MM} (C : CX_X9_readAgain G X) (h : ((((M 1 4) ≤ l2) → P 0 w M) ∧ ((¬ ((M 1 4) ≤ l2)) → (0 ≤ l2) ∧ (l2 < 24) ∧ (w.2 (M 4 l2) = (7, 12)) ∧ (0 ≤ (M (M 4 l2) 1)) ∧ (0 ≤ l1) ∧ ((((M (M 4 l2) 1) ≠ l1) → (inR (l2 + 1)) ∧ A_X9_readAgain_2 G X P l1 (l2 + 1) w M) ∧ ((¬ ((M (M 4 l2) 1) ≠ l1)) → ∃ Q8 : Int → NS → MM → Prop, CT_X6_readWords G X.2.1 [(2, (M 4 l2))] w M Q8 ∧ ∀ (z8 : Int) (w8 : NS) (M8 : MM), Q8 z8 w8 M8 → (inR (l2 + 1)) ∧ A_X9_readAgain_2 G X P l1 (l2 + 1) w8 M8))))) : A_X9_readAgain_2 G X P l1 l2 w M := by
  unfold A_X9_readAgain_2
  refine s_iload_n C dX9_readAgain_2 rfl ?_
  refine s_aload_n C dX9_readAgain_3 rfl ?_
  refine WA.fix (fun hF1 => ?_)
  refine gf_X9_29 (v0 := (M 1 4)) C (sh_1 hF1) dX9_readAgain_4 rfl ?_
  refine s_icmpge C dX9_readAgain_7 rfl (fun hc => ?_) (fun hc => ?_)
  · have h := h.1 hc
    exact s_vreturn C dX9_readAgain_38 h
  · have h := h.2 hc
    refine s_aload_n C dX9_readAgain_10 rfl ?_
    refine gf_X9_25 C (sh_1 hF1) dX9_readAgain_11 (fx_1_3 hF1) ?_
    refine s_iload_n C dX9_readAgain_14 rfl ?_
    obtain ⟨o2, h⟩ := h
    obtain ⟨o3, h⟩ := h
    refine s_aald (v0 := (M 4 l2)) (t0 := 6) C (sh_4 hF1) (by decide) rfl o2 o3 dX9_readAgain_15 rfl ?_
    obtain ⟨o4, h⟩ := h
    refine gf_X9_166 (v0 := (M (M 4 l2) 1)) C o4 dX9_readAgain_16 rfl ?_
    refine s_aload_n C dX9_readAgain_19 rfl ?_
    obtain ⟨o5, h⟩ := h
    obtain ⟨o6, h⟩ := h
    refine s_acmpne C dX9_readAgain_20 rfl o5 o6 (fun hc => ?_) (fun hc => ?_)
    · have h := h.1 hc
      obtain ⟨o7, h⟩ := h
      refine s_iinc (ls' := [(2, 1), (2, l1), (0, (l2 + 1))]) C dX9_readAgain_32 (by decide) rfl o7 rfl rfl ?_
      refine s_goto C dX9_readAgain_35 rfl ?_
      exact h
    · have h := h.2 hc
      refine s_aload_n C dX9_readAgain_23 rfl ?_
      refine gf_X9_25 C (sh_1 hF1) dX9_readAgain_24 (fx_1_3 hF1) ?_
      refine s_iload_n C dX9_readAgain_27 rfl ?_
      refine s_aald (v0 := (M 4 l2)) (t0 := 6) C (sh_4 hF1) (by decide) rfl o2 o3 dX9_readAgain_28 rfl ?_
      obtain ⟨Q8, hKQ8, h⟩ := h
      refine s_callV (ci := 6) (av := []) (rest := []) (mc := 0) (ms := 0) C dX9_readAgain_29 lk_X9_151 o4 (by decide) rfl rfl rfl (Nat.le_of_ble_eq_true rfl) (by decide) (by decide) hKQ8 (fun z8 w8 M8 hq => ?_)
      have h := h z8 w8 M8 hq
      obtain ⟨o9, h⟩ := h
      refine s_iinc (ls' := [(2, 1), (2, l1), (0, (l2 + 1))]) C dX9_readAgain_32 (by decide) rfl o9 rfl rfl ?_
      refine s_goto C dX9_readAgain_35 rfl ?_
      exact h
theorem E_X9_readAgain {G : GP} {l : Launch} {P : Int → NS → MM → Prop} {l1 : Int} {w : NS} {M : MM} (h : ∀ X : BX, X.2.1 = l → CX_X9_readAgain G X → A_X9_readAgain_0 G X P l1 w M) : CT_X9_readAgain G l [(2, 1), (2, l1)] w M P :=
  CT.of RX9 "readAgain" (by decide +kernel) rfl rfl rfl (Nat.le_of_ble_eq_true rfl) (fun hr X hX C => h  X hX C)
def A_X9_write_0 (G : GP) (X : BX) (P : Int → NS → MM → Prop) (l1 : Int) (l2 : Int) (l3 : Int) (w : NS) (M : MM) : Prop := WA true G X (QM G X true 0 P) 6 0 [(2, 1), (0, l1), (0, l2), (0, l3), (3, 0), (3, 0)] [] 0 0 w M
set_option maxHeartbeats 4000000 in
set_option maxRecDepth 100000 in
theorem B_X9_write_0 {G : GP} {X : BX} {P : Int → NS → MM → Prop} {l1 : Int} {l2 : Int} {l3 : Int} {w : NS} {M : MM} (C : CX_X9_write G X) (h : (0 ≤ M 1 2) ∧ (M 1 2 ≤ 8) ∧ ((((pgO M l1) ≠ 0) → (((¬ (0 ≤ l2 ∧ l2 ≤ 59)) → P (-2) w M) ∧ (((0 ≤ l2 ∧ l2 ≤ 59)) → ((((-1 ≤ l3 ∧ l3 ≤ 99)) → ∃ Q7 : Int → NS → MM → Prop, CT_X9_isKept G X.2.1 [(2, 1), (2, (pgO M l1))] w M Q7 ∧ ∀ (z7 : Int) (w7 : NS) (M7 : MM), Q7 z7 w7 M7 → (((z7 = 0) → (w7.2 (pgO M l1) = (5, 5)) ∧ (0 ≤ l2) ∧ (l2 < 60) ∧ (((0 ≤ l3) → ∃ Q15 : Int → NS → MM → Prop, CT_X9_readAgain G X.2.1 [(2, 1), (2, (pgO M l1))] w7 (up M7 ((pgO M l1) + 1) l2 l3) Q15 ∧ ∀ (z15 : Int) (w15 : NS) (M15 : MM), Q15 z15 w15 M15 → P (M7 ((pgO M l1) + 1) l2) w15 (up M15 9 0 0)) ∧ ((¬ (0 ≤ l3)) → ∃ Q18 : Int → NS → MM → Prop, CT_X9_readAgain G X.2.1 [(2, 1), (2, (pgO M l1))] w7 (up M7 ((pgO M l1) + 1) l2 (-6)) Q18 ∧ ∀ (z18 : Int) (w18 : NS) (M18 : MM), Q18 z18 w18 M18 → P (M7 ((pgO M l1) + 1) l2) w18 (up M18 9 0 0)))) ∧ ((¬ (z7 = 0)) → P (-3) w7 M7))) ∧ ((¬ (-1 ≤ l3 ∧ l3 ≤ 99)) → P (-2) w M))))) ∧ ((¬ ((pgO M l1) ≠ 0)) → P (-1) w M))) : A_X9_write_0 G X P l1 l2 l3 w M := by
  unfold A_X9_write_0
  refine s_aload_n C dX9_write_0 rfl ?_
  refine s_iload_n C dX9_write_1 rfl ?_
  refine WA.fix (fun hF1 => ?_)
  obtain ⟨o2, h⟩ := h
  obtain ⟨o3, h⟩ := h
  refine s_callV (ci := 9) (av := [(0, l1)]) (rest := []) (mc := 0) (ms := 0) C dX9_write_2 lk_X9_106 (sh_1 hF1) (by decide) rfl rfl rfl (Nat.le_of_ble_eq_true rfl) (by decide) (by decide) (pc_X9_pageOf o2 o3) (fun z4 wz4 Mz4 hq => ?_)
  obtain ⟨hq1, hq2, hq3⟩ := hq
  have hq2 := hq2.symm
  have hq3 := hq3.symm
  subst hq1 hq2 hq3
  refine s_astore (ls' := [(2, 1), (0, l1), (0, l2), (0, l3), (2, (pgO M l1)), (3, 0)]) C dX9_write_5 (by decide) rfl rfl ?_
  refine s_aload C dX9_write_7 rfl ?_
  refine s_ifnonnull C dX9_write_9 rfl (fun hc => ?_) (fun hc => ?_)
  · have h := h.1 hc
    refine s_iload_n C dX9_write_14 rfl ?_
    refine s_iconst C dX9_write_15 (by decide) ?_
    refine s_bipush C dX9_write_16 ⟨rfl, by decide, by decide⟩ ?_
    refine s_callS (av := [(0, l2), (0, 0), (0, 59)]) (rest := []) (mc := 0) (ms := 0) C dX9_write_18 lk_X9_95 rfl rfl (Nat.le_of_ble_eq_true rfl) (by decide) (by decide) (pc_X9_within) (fun z5 wz5 Mz5 hq => ?_)
    obtain ⟨hq1, hq2, hq3⟩ := hq
    have hq2 := hq2.symm
    have hq3 := hq3.symm
    subst hq1 hq2 hq3
    refine s_ifeq C dX9_write_21 rfl (fun hc => ?_) (fun hc => ?_)
    · have h := h.1 (b2i_0.mp hc)
      refine s_bipush C dX9_write_31 ⟨rfl, by decide, by decide⟩ ?_
      exact s_ireturn C dX9_write_33 h
    · have h := h.2 (b2i_n0 hc)
      refine s_iload_n C dX9_write_24 rfl ?_
      refine s_callS (av := [(0, l3)]) (rest := []) (mc := 0) (ms := 0) C dX9_write_25 lk_X9_110 rfl rfl (Nat.le_of_ble_eq_true rfl) (by decide) (by decide) (pc_X9_isWordOrNone) (fun z6 wz6 Mz6 hq => ?_)
      obtain ⟨hq1, hq2, hq3⟩ := hq
      have hq2 := hq2.symm
      have hq3 := hq3.symm
      subst hq1 hq2 hq3
      refine s_ifne C dX9_write_28 rfl (fun hc => ?_) (fun hc => ?_)
      · have h := h.1 (b2i_n0 hc)
        refine s_aload_n C dX9_write_34 rfl ?_
        refine s_aload C dX9_write_35 rfl ?_
        obtain ⟨Q7, hKQ7, h⟩ := h
        refine s_callV (ci := 9) (av := [(2, (pgO M l1))]) (rest := []) (mc := 0) (ms := 0) C dX9_write_37 lk_X9_113 (sh_1 hF1) (by decide) rfl rfl rfl (Nat.le_of_ble_eq_true rfl) (by decide) (by decide) hKQ7 (fun z7 w7 M7 hq => ?_)
        have h := h z7 w7 M7 hq
        refine s_ifeq C dX9_write_40 rfl (fun hc => ?_) (fun hc => ?_)
        · have h := h.1 hc
          refine s_aload C dX9_write_46 rfl ?_
          obtain ⟨o8, h⟩ := h
          refine WA.fix (fun hF9 => ?_)
          have hd10 := FixA.dy (t := 5) (n := 5) (k := 3) (m := 60) hF9 (by decide) o8
          refine gf_X9_117 C o8 dX9_write_48 hd10.1 ?_
          refine s_iload_n C dX9_write_51 rfl ?_
          obtain ⟨o11, h⟩ := h
          obtain ⟨o12, h⟩ := h
          refine s_iald (v0 := (M7 ((pgO M l1) + 1) l2)) C hd10.2 o11 o12 dX9_write_52 rfl ?_
          refine s_istore (ls' := [(2, 1), (0, l1), (0, l2), (0, l3), (2, (pgO M l1)), (0, (M7 ((pgO M l1) + 1) l2))]) C dX9_write_53 (by decide) rfl rfl ?_
          refine s_aload C dX9_write_55 rfl ?_
          have hd13 := FixA.dy (t := 5) (n := 5) (k := 3) (m := 60) hF9 (by decide) o8
          refine gf_X9_117 C o8 dX9_write_57 hd13.1 ?_
          refine s_iload_n C dX9_write_60 rfl ?_
          refine s_iload_n C dX9_write_61 rfl ?_
          refine s_ifge C dX9_write_62 rfl (fun hc => ?_) (fun hc => ?_)
          · have h := h.1 hc
            refine s_iload_n C dX9_write_70 rfl ?_
            refine s_iast C hd13.2 o11 o12 (fun _ => by decide) dX9_write_71 ?_
            refine s_aload_n C dX9_write_72 rfl ?_
            refine s_aload C dX9_write_73 rfl ?_
            refine WA.fix (fun hF14 => ?_)
            obtain ⟨Q15, hKQ15, h⟩ := h
            refine s_callV (ci := 9) (av := [(2, (pgO M l1))]) (rest := []) (mc := 0) (ms := 0) C dX9_write_75 lk_X9_120 (sh_1 hF14) (by decide) rfl rfl rfl (Nat.le_of_ble_eq_true rfl) (by decide) (by decide) hKQ15 (fun z15 w15 M15 hq => ?_)
            have h := h z15 w15 M15 hq
            refine s_aload_n C dX9_write_78 rfl ?_
            refine WA.fix (fun hF16 => ?_)
            refine gf_X9_54 C (sh_1 hF16) dX9_write_79 (fx_1_9 hF16) ?_
            refine s_iconst C dX9_write_82 (by decide) ?_
            refine pf_X9_124 C (sh_9 hF16) (by decide) (fun _ => by decide) dX9_write_83 ?_
            refine s_iload C dX9_write_86 rfl ?_
            exact s_ireturn C dX9_write_88 h
          · have h := h.2 hc
            refine s_bipush C dX9_write_65 ⟨rfl, by decide, by decide⟩ ?_
            refine s_goto C dX9_write_67 rfl ?_
            refine s_iast C hd13.2 o11 o12 (fun _ => by decide) dX9_write_71 ?_
            refine s_aload_n C dX9_write_72 rfl ?_
            refine s_aload C dX9_write_73 rfl ?_
            refine WA.fix (fun hF17 => ?_)
            obtain ⟨Q18, hKQ18, h⟩ := h
            refine s_callV (ci := 9) (av := [(2, (pgO M l1))]) (rest := []) (mc := 0) (ms := 0) C dX9_write_75 lk_X9_120 (sh_1 hF17) (by decide) rfl rfl rfl (Nat.le_of_ble_eq_true rfl) (by decide) (by decide) hKQ18 (fun z18 w18 M18 hq => ?_)
            have h := h z18 w18 M18 hq
            refine s_aload_n C dX9_write_78 rfl ?_
            refine WA.fix (fun hF19 => ?_)
            refine gf_X9_54 C (sh_1 hF19) dX9_write_79 (fx_1_9 hF19) ?_
            refine s_iconst C dX9_write_82 (by decide) ?_
            refine pf_X9_124 C (sh_9 hF19) (by decide) (fun _ => by decide) dX9_write_83 ?_
            refine s_iload C dX9_write_86 rfl ?_
            exact s_ireturn C dX9_write_88 h
        · have h := h.2 hc
          refine s_bipush C dX9_write_43 ⟨rfl, by decide, by decide⟩ ?_
          exact s_ireturn C dX9_write_45 h
      · have h := h.2 (b2i_nn hc)
        refine s_bipush C dX9_write_31 ⟨rfl, by decide, by decide⟩ ?_
        exact s_ireturn C dX9_write_33 h
  · have h := h.2 hc
    refine s_iconst C dX9_write_12 (by decide) ?_
    exact s_ireturn C dX9_write_13 h
theorem E_X9_write {G : GP} {l : Launch} {P : Int → NS → MM → Prop} {l1 : Int} {l2 : Int} {l3 : Int} {w : NS} {M : MM} (h : inR l1 → inR l2 → inR l3 → ∀ X : BX, X.2.1 = l → CX_X9_write G X → A_X9_write_0 G X P l1 l2 l3 w M) : CT_X9_write G l [(2, 1), (0, l1), (0, l2), (0, l3)] w M P :=
  CT.of RX9 "write" (by decide +kernel) rfl rfl rfl (Nat.le_of_ble_eq_true rfl) (fun hr X hX C => h (hr (0, l1) (by simp)) (hr (0, l2) (by simp)) (hr (0, l3) (by simp)) X hX C)
def A_X9_sides_0 (G : GP) (X : BX) (P : Int → NS → MM → Prop) (l1 : Int) (l2 : Int) (w : NS) (M : MM) : Prop := WA true G X (QM G X true 0 P) 5 0 [(2, 1), (0, l1), (0, l2), (3, 0), (3, 0)] [] 0 0 w M
set_option maxHeartbeats 4000000 in
set_option maxRecDepth 100000 in
theorem B_X9_sides_0 {G : GP} {X : BX} {P : Int → NS → MM → Prop} {l1 : Int} {l2 : Int} {w : NS} {M : MM} (C : CX_X9_sides G X) (h : (0 ≤ M 1 2) ∧ (M 1 2 ≤ 8) ∧ ((((pgO M l1) = 0) → P (-1) w M) ∧ ((¬ ((pgO M l1) = 0)) → ((((pgO M l2) = 0) → P (-1) w M) ∧ ((¬ ((pgO M l2) = 0)) → (0 ≤ (pgO M l1)) ∧ (0 ≤ (pgO M l2)) ∧ ((((pgO M l1) ≠ (pgO M l2)) → (w.2 (pgO M l1) = (5, 5)) ∧ (w.2 (pgO M l2) = (5, 5)) ∧ ((((M (pgO M l1) 1) ≠ (M (pgO M l2) 1)) → P (-3) w M) ∧ ((¬ ((M (pgO M l1) 1) ≠ (M (pgO M l2) 1))) → ((((M (pgO M l1) 2) = (M (pgO M l2) 2)) → ((((M (pgO M l1) 4) ≠ 0) → P (-5) w M) ∧ ((¬ ((M (pgO M l1) 4) ≠ 0)) → ((((M (pgO M l2) 4) = 0) → P 1 w (up (up M (pgO M l1) 4 (pgO M l2)) (pgO M l2) 4 (pgO M l1))) ∧ ((¬ ((M (pgO M l2) 4) = 0)) → P (-5) w M))))) ∧ ((¬ ((M (pgO M l1) 2) = (M (pgO M l2) 2))) → P (-3) w M))))) ∧ ((¬ ((pgO M l1) ≠ (pgO M l2))) → P (-1) w M))))))) : A_X9_sides_0 G X P l1 l2 w M := by
  unfold A_X9_sides_0
  refine s_aload_n C dX9_sides_0 rfl ?_
  refine s_iload_n C dX9_sides_1 rfl ?_
  refine WA.fix (fun hF1 => ?_)
  obtain ⟨o2, h⟩ := h
  obtain ⟨o3, h⟩ := h
  refine s_callV (ci := 9) (av := [(0, l1)]) (rest := []) (mc := 0) (ms := 0) C dX9_sides_2 lk_X9_106 (sh_1 hF1) (by decide) rfl rfl rfl (Nat.le_of_ble_eq_true rfl) (by decide) (by decide) (pc_X9_pageOf o2 o3) (fun z4 wz4 Mz4 hq => ?_)
  obtain ⟨hq1, hq2, hq3⟩ := hq
  have hq2 := hq2.symm
  have hq3 := hq3.symm
  subst hq1 hq2 hq3
  refine s_astore_n (ls' := [(2, 1), (0, l1), (0, l2), (2, (pgO M l1)), (3, 0)]) C dX9_sides_5 (by decide) rfl rfl ?_
  refine s_aload_n C dX9_sides_6 rfl ?_
  refine s_iload_n C dX9_sides_7 rfl ?_
  refine s_callV (ci := 9) (av := [(0, l2)]) (rest := []) (mc := 0) (ms := 0) C dX9_sides_8 lk_X9_106 (sh_1 hF1) (by decide) rfl rfl rfl (Nat.le_of_ble_eq_true rfl) (by decide) (by decide) (pc_X9_pageOf o2 o3) (fun z5 wz5 Mz5 hq => ?_)
  obtain ⟨hq1, hq2, hq3⟩ := hq
  have hq2 := hq2.symm
  have hq3 := hq3.symm
  subst hq1 hq2 hq3
  refine s_astore (ls' := [(2, 1), (0, l1), (0, l2), (2, (pgO M l1)), (2, (pgO M l2))]) C dX9_sides_11 (by decide) rfl rfl ?_
  refine s_aload_n C dX9_sides_13 rfl ?_
  refine s_ifnull C dX9_sides_14 rfl (fun hc => ?_) (fun hc => ?_)
  · have h := h.1 hc
    refine s_iconst C dX9_sides_28 (by decide) ?_
    exact s_ireturn C dX9_sides_29 h
  · have h := h.2 hc
    refine s_aload C dX9_sides_17 rfl ?_
    refine s_ifnull C dX9_sides_19 rfl (fun hc => ?_) (fun hc => ?_)
    · have h := h.1 hc
      refine s_iconst C dX9_sides_28 (by decide) ?_
      exact s_ireturn C dX9_sides_29 h
    · have h := h.2 hc
      refine s_aload_n C dX9_sides_22 rfl ?_
      refine s_aload C dX9_sides_23 rfl ?_
      obtain ⟨o6, h⟩ := h
      obtain ⟨o7, h⟩ := h
      refine s_acmpne C dX9_sides_25 rfl o6 o7 (fun hc => ?_) (fun hc => ?_)
      · have h := h.1 hc
        refine s_aload_n C dX9_sides_30 rfl ?_
        obtain ⟨o8, h⟩ := h
        refine gf_X9_128 (v0 := (M (pgO M l1) 1)) C o8 dX9_sides_31 rfl ?_
        refine s_aload C dX9_sides_34 rfl ?_
        obtain ⟨o9, h⟩ := h
        refine gf_X9_128 (v0 := (M (pgO M l2) 1)) C o9 dX9_sides_36 rfl ?_
        refine s_icmpne C dX9_sides_39 rfl (fun hc => ?_) (fun hc => ?_)
        · have h := h.1 hc
          refine s_bipush C dX9_sides_54 ⟨rfl, by decide, by decide⟩ ?_
          exact s_ireturn C dX9_sides_56 h
        · have h := h.2 hc
          refine s_aload_n C dX9_sides_42 rfl ?_
          refine gf_X9_131 (v0 := (M (pgO M l1) 2)) C o8 dX9_sides_43 rfl ?_
          refine s_aload C dX9_sides_46 rfl ?_
          refine gf_X9_131 (v0 := (M (pgO M l2) 2)) C o9 dX9_sides_48 rfl ?_
          refine s_icmpeq C dX9_sides_51 rfl (fun hc => ?_) (fun hc => ?_)
          · have h := h.1 hc
            refine s_aload_n C dX9_sides_57 rfl ?_
            refine gf_X9_134 (v0 := (M (pgO M l1) 4)) C o8 dX9_sides_58 rfl ?_
            refine s_ifnonnull C dX9_sides_61 rfl (fun hc => ?_) (fun hc => ?_)
            · have h := h.1 hc
              refine s_bipush C dX9_sides_72 ⟨rfl, by decide, by decide⟩ ?_
              exact s_ireturn C dX9_sides_74 h
            · have h := h.2 hc
              refine s_aload C dX9_sides_64 rfl ?_
              refine gf_X9_134 (v0 := (M (pgO M l2) 4)) C o9 dX9_sides_66 rfl ?_
              refine s_ifnull C dX9_sides_69 rfl (fun hc => ?_) (fun hc => ?_)
              · have h := h.1 hc
                refine s_aload_n C dX9_sides_75 rfl ?_
                refine s_aload C dX9_sides_76 rfl ?_
                refine pf_X9_134 C o8 (fun _ => by decide) dX9_sides_78 ?_
                refine s_aload C dX9_sides_81 rfl ?_
                refine s_aload_n C dX9_sides_83 rfl ?_
                refine pf_X9_134 C o9 (fun _ => by decide) dX9_sides_84 ?_
                refine s_iconst C dX9_sides_87 (by decide) ?_
                exact s_ireturn C dX9_sides_88 h
              · have h := h.2 hc
                refine s_bipush C dX9_sides_72 ⟨rfl, by decide, by decide⟩ ?_
                exact s_ireturn C dX9_sides_74 h
          · have h := h.2 hc
            refine s_bipush C dX9_sides_54 ⟨rfl, by decide, by decide⟩ ?_
            exact s_ireturn C dX9_sides_56 h
      · have h := h.2 hc
        refine s_iconst C dX9_sides_28 (by decide) ?_
        exact s_ireturn C dX9_sides_29 h
theorem E_X9_sides {G : GP} {l : Launch} {P : Int → NS → MM → Prop} {l1 : Int} {l2 : Int} {w : NS} {M : MM} (h : inR l1 → inR l2 → ∀ X : BX, X.2.1 = l → CX_X9_sides G X → A_X9_sides_0 G X P l1 l2 w M) : CT_X9_sides G l [(2, 1), (0, l1), (0, l2)] w M P :=
  CT.of RX9 "sides" (by decide +kernel) rfl rfl rfl (Nat.le_of_ble_eq_true rfl) (fun hr X hX C => h (hr (0, l1) (by simp)) (hr (0, l2) (by simp)) X hX C)
def A_X9_countPieces_0 (G : GP) (X : BX) (P : Int → NS → MM → Prop) (l1 : Int) (w : NS) (M : MM) : Prop := WA true G X (QM G X true 0 P) 4 0 [(2, 1), (2, l1), (3, 0), (3, 0)] [] 0 0 w M
def A_X9_countPieces_4 (G : GP) (X : BX) (P : Int → NS → MM → Prop) (l1 : Int) (l2 : Int) (l3 : Int) (w : NS) (M : MM) : Prop := WA true G X (QM G X true 0 P) 4 4 [(2, 1), (2, l1), (0, l2), (0, l3)] [] 0 0 w M
set_option maxHeartbeats 4000000 in
set_option maxRecDepth 100000 in
theorem B_X9_countPieces_0 {G : GP} {X : BX} {P : Int → NS → MM → Prop} {l1 : Int} {w : NS} {M : MM} (C : CX_X9_countPieces G X) (h : A_X9_countPieces_4 G X P l1 0 0 w M) : A_X9_countPieces_0 G X P l1 w M := by
  unfold A_X9_countPieces_0
  refine s_iconst C dX9_countPieces_0 (by decide) ?_
  refine s_istore_n (ls' := [(2, 1), (2, l1), (0, 0), (3, 0)]) C dX9_countPieces_1 (by decide) rfl rfl ?_
  refine s_iconst C dX9_countPieces_2 (by decide) ?_
  refine s_istore_n (ls' := [(2, 1), (2, l1), (0, 0), (0, 0)]) C dX9_countPieces_3 (by decide) rfl rfl ?_
  exact h
set_option maxHeartbeats 4000000 in
set_option maxRecDepth 100000 in
theorem B_X9_countPieces_4 {G : GP} {X : BX} {P : Int → NS → MM → Prop} {l1 : Int} {l2 : Int} {l3 : Int} {w : NS} {M : MM} (C : CX_X9_countPieces G X) (h : ((((M 1 4) ≤ l3) → P l2 w M) ∧ ((¬ ((M 1 4) ≤ l3)) → (0 ≤ l3) ∧ (l3 < 24) ∧ (w.2 (M 4 l3) = (7, 12)) ∧ (0 ≤ (M (M 4 l3) 1)) ∧ (0 ≤ l1) ∧ ((((M (M 4 l3) 1) ≠ l1) → (inR (l3 + 1)) ∧ A_X9_countPieces_4 G X P l1 l2 (l3 + 1) w M) ∧ ((¬ ((M (M 4 l3) 1) ≠ l1)) → (inR (l2 + 1)) ∧ (inR (l3 + 1)) ∧ A_X9_countPieces_4 G X P l1 (l2 + 1) (l3 + 1) w M))))) : A_X9_countPieces_4 G X P l1 l2 l3 w M := by
  unfold A_X9_countPieces_4
  refine s_iload_n C dX9_countPieces_4 rfl ?_
  refine s_aload_n C dX9_countPieces_5 rfl ?_
  refine WA.fix (fun hF1 => ?_)
  refine gf_X9_29 (v0 := (M 1 4)) C (sh_1 hF1) dX9_countPieces_6 rfl ?_
  refine s_icmpge C dX9_countPieces_9 rfl (fun hc => ?_) (fun hc => ?_)
  · have h := h.1 hc
    refine s_iload_n C dX9_countPieces_34 rfl ?_
    exact s_ireturn C dX9_countPieces_35 h
  · have h := h.2 hc
    refine s_aload_n C dX9_countPieces_12 rfl ?_
    refine gf_X9_25 C (sh_1 hF1) dX9_countPieces_13 (fx_1_3 hF1) ?_
    refine s_iload_n C dX9_countPieces_16 rfl ?_
    obtain ⟨o2, h⟩ := h
    obtain ⟨o3, h⟩ := h
    refine s_aald (v0 := (M 4 l3)) (t0 := 6) C (sh_4 hF1) (by decide) rfl o2 o3 dX9_countPieces_17 rfl ?_
    obtain ⟨o4, h⟩ := h
    refine gf_X9_166 (v0 := (M (M 4 l3) 1)) C o4 dX9_countPieces_18 rfl ?_
    refine s_aload_n C dX9_countPieces_21 rfl ?_
    obtain ⟨o5, h⟩ := h
    obtain ⟨o6, h⟩ := h
    refine s_acmpne C dX9_countPieces_22 rfl o5 o6 (fun hc => ?_) (fun hc => ?_)
    · have h := h.1 hc
      obtain ⟨o7, h⟩ := h
      refine s_iinc (ls' := [(2, 1), (2, l1), (0, l2), (0, (l3 + 1))]) C dX9_countPieces_28 (by decide) rfl o7 rfl rfl ?_
      refine s_goto C dX9_countPieces_31 rfl ?_
      exact h
    · have h := h.2 hc
      obtain ⟨o8, h⟩ := h
      refine s_iinc (ls' := [(2, 1), (2, l1), (0, (l2 + 1)), (0, l3)]) C dX9_countPieces_25 (by decide) rfl o8 rfl rfl ?_
      obtain ⟨o9, h⟩ := h
      refine s_iinc (ls' := [(2, 1), (2, l1), (0, (l2 + 1)), (0, (l3 + 1))]) C dX9_countPieces_28 (by decide) rfl o9 rfl rfl ?_
      refine s_goto C dX9_countPieces_31 rfl ?_
      exact h
theorem E_X9_countPieces {G : GP} {l : Launch} {P : Int → NS → MM → Prop} {l1 : Int} {w : NS} {M : MM} (h : ∀ X : BX, X.2.1 = l → CX_X9_countPieces G X → A_X9_countPieces_0 G X P l1 w M) : CT_X9_countPieces G l [(2, 1), (2, l1)] w M P :=
  CT.of RX9 "countPieces" (by decide +kernel) rfl rfl rfl (Nat.le_of_ble_eq_true rfl) (fun hr X hX C => h  X hX C)
def A_X9_ofPage_0 (G : GP) (X : BX) (P : Int → NS → MM → Prop) (l1 : Int) (l2 : Int) (w : NS) (M : MM) : Prop := WA true G X (QM G X true 0 P) 4 0 [(2, 1), (0, l1), (0, l2), (3, 0)] [] 0 0 w M
set_option maxHeartbeats 4000000 in
set_option maxRecDepth 100000 in
theorem B_X9_ofPage_0 {G : GP} {X : BX} {P : Int → NS → MM → Prop} {l1 : Int} {l2 : Int} {w : NS} {M : MM} (C : CX_X9_ofPage G X) (h : (0 ≤ M 1 2) ∧ (M 1 2 ≤ 8) ∧ ((((pgO M l1) ≠ 0) → (((¬ (100 ≤ l2 ∧ l2 ≤ 159)) → (((l2 < 0 ∨ 3 < l2) → P (-2) w M) ∧ (l2 = 0 → (w.2 (pgO M l1) = (5, 5)) ∧ P (M (pgO M l1) 1) w M) ∧ (l2 = 1 → (w.2 (pgO M l1) = (5, 5)) ∧ P (M (pgO M l1) 2) w M) ∧ (l2 = 2 → (w.2 (pgO M l1) = (5, 5)) ∧ ((((M (pgO M l1) 4) ≠ 0) → (w.2 (M (pgO M l1) 4) = (5, 5)) ∧ P (M (M (pgO M l1) 4) 0) w M) ∧ ((¬ ((M (pgO M l1) 4) ≠ 0)) → P (-6) w M))) ∧ (l2 = 3 → ∃ Q10 : Int → NS → MM → Prop, CT_X9_countPieces G X.2.1 [(2, 1), (2, (pgO M l1))] w M Q10 ∧ ∀ (z10 : Int) (w10 : NS) (M10 : MM), Q10 z10 w10 M10 → P z10 w10 M10))) ∧ (((100 ≤ l2 ∧ l2 ≤ 159)) → (w.2 (pgO M l1) = (5, 5)) ∧ (inR (l2 - 100)) ∧ (0 ≤ (l2 - 100)) ∧ ((l2 - 100) < 60) ∧ P (M ((pgO M l1) + 1) (l2 - 100)) w M))) ∧ ((¬ ((pgO M l1) ≠ 0)) → P (-1) w M))) : A_X9_ofPage_0 G X P l1 l2 w M := by
  unfold A_X9_ofPage_0
  refine s_aload_n C dX9_ofPage_0 rfl ?_
  refine s_iload_n C dX9_ofPage_1 rfl ?_
  refine WA.fix (fun hF1 => ?_)
  obtain ⟨o2, h⟩ := h
  obtain ⟨o3, h⟩ := h
  refine s_callV (ci := 9) (av := [(0, l1)]) (rest := []) (mc := 0) (ms := 0) C dX9_ofPage_2 lk_X9_106 (sh_1 hF1) (by decide) rfl rfl rfl (Nat.le_of_ble_eq_true rfl) (by decide) (by decide) (pc_X9_pageOf o2 o3) (fun z4 wz4 Mz4 hq => ?_)
  obtain ⟨hq1, hq2, hq3⟩ := hq
  have hq2 := hq2.symm
  have hq3 := hq3.symm
  subst hq1 hq2 hq3
  refine s_astore_n (ls' := [(2, 1), (0, l1), (0, l2), (2, (pgO M l1))]) C dX9_ofPage_5 (by decide) rfl rfl ?_
  refine s_aload_n C dX9_ofPage_6 rfl ?_
  refine s_ifnonnull C dX9_ofPage_7 rfl (fun hc => ?_) (fun hc => ?_)
  · have h := h.1 hc
    refine s_iload_n C dX9_ofPage_12 rfl ?_
    refine s_bipush C dX9_ofPage_13 ⟨rfl, by decide, by decide⟩ ?_
    refine s_sipush C dX9_ofPage_15 ⟨rfl, by decide, by decide⟩ ?_
    refine s_callS (av := [(0, l2), (0, 100), (0, 159)]) (rest := []) (mc := 0) (ms := 0) C dX9_ofPage_18 lk_X9_95 rfl rfl (Nat.le_of_ble_eq_true rfl) (by decide) (by decide) (pc_X9_within) (fun z5 wz5 Mz5 hq => ?_)
    obtain ⟨hq1, hq2, hq3⟩ := hq
    have hq2 := hq2.symm
    have hq3 := hq3.symm
    subst hq1 hq2 hq3
    refine s_ifeq C dX9_ofPage_21 rfl (fun hc => ?_) (fun hc => ?_)
    · have h := h.1 (b2i_0.mp hc)
      refine s_iload_n C dX9_ofPage_34 rfl ?_
      rcases (show (l2 < 0 ∨ 3 < l2) ∨ l2 = 0 ∨ l2 = 1 ∨ l2 = 2 ∨ l2 = 3 from by omega) with hc | hc | hc | hc | hc
      · have h := h.1 hc
        refine s_tabOut C dX9_ofPage_35 hc rfl ?_
        refine s_bipush C dX9_ofPage_100 ⟨rfl, by decide, by decide⟩ ?_
        exact s_ireturn C dX9_ofPage_102 h
      · have h := h.2.1 hc
        refine s_tabIn C dX9_ofPage_35 hc (by decide) (by decide) rfl rfl ?_
        refine s_aload_n C dX9_ofPage_64 rfl ?_
        obtain ⟨o6, h⟩ := h
        refine gf_X9_128 (v0 := (M (pgO M l1) 1)) C o6 dX9_ofPage_65 rfl ?_
        exact s_ireturn C dX9_ofPage_68 h
      · have h := h.2.2.1 hc
        refine s_tabIn C dX9_ofPage_35 hc (by decide) (by decide) rfl rfl ?_
        refine s_aload_n C dX9_ofPage_69 rfl ?_
        obtain ⟨o7, h⟩ := h
        refine gf_X9_131 (v0 := (M (pgO M l1) 2)) C o7 dX9_ofPage_70 rfl ?_
        exact s_ireturn C dX9_ofPage_73 h
      · have h := h.2.2.2.1 hc
        refine s_tabIn C dX9_ofPage_35 hc (by decide) (by decide) rfl rfl ?_
        refine s_aload_n C dX9_ofPage_74 rfl ?_
        obtain ⟨o8, h⟩ := h
        refine gf_X9_134 (v0 := (M (pgO M l1) 4)) C o8 dX9_ofPage_75 rfl ?_
        refine s_ifnonnull C dX9_ofPage_78 rfl (fun hc => ?_) (fun hc => ?_)
        · have h := h.1 hc
          refine s_aload_n C dX9_ofPage_86 rfl ?_
          refine gf_X9_134 (v0 := (M (pgO M l1) 4)) C o8 dX9_ofPage_87 rfl ?_
          obtain ⟨o9, h⟩ := h
          refine gf_X9_138 (v0 := (M (M (pgO M l1) 4) 0)) C o9 dX9_ofPage_90 rfl ?_
          exact s_ireturn C dX9_ofPage_93 h
        · have h := h.2 hc
          refine s_bipush C dX9_ofPage_81 ⟨rfl, by decide, by decide⟩ ?_
          refine s_goto C dX9_ofPage_83 rfl ?_
          exact s_ireturn C dX9_ofPage_93 h
      · have h := h.2.2.2.2 hc
        refine s_tabIn C dX9_ofPage_35 hc (by decide) (by decide) rfl rfl ?_
        refine s_aload_n C dX9_ofPage_94 rfl ?_
        refine s_aload_n C dX9_ofPage_95 rfl ?_
        obtain ⟨Q10, hKQ10, h⟩ := h
        refine s_callV (ci := 9) (av := [(2, (pgO M l1))]) (rest := []) (mc := 0) (ms := 0) C dX9_ofPage_96 lk_X9_141 (sh_1 hF1) (by decide) rfl rfl rfl (Nat.le_of_ble_eq_true rfl) (by decide) (by decide) hKQ10 (fun z10 w10 M10 hq => ?_)
        have h := h z10 w10 M10 hq
        exact s_ireturn C dX9_ofPage_99 h
    · have h := h.2 (b2i_n0 hc)
      refine s_aload_n C dX9_ofPage_24 rfl ?_
      obtain ⟨o11, h⟩ := h
      have hd12 := FixA.dy (t := 5) (n := 5) (k := 3) (m := 60) hF1 (by decide) o11
      refine gf_X9_117 C o11 dX9_ofPage_25 hd12.1 ?_
      refine s_iload_n C dX9_ofPage_28 rfl ?_
      refine s_bipush C dX9_ofPage_29 ⟨rfl, by decide, by decide⟩ ?_
      obtain ⟨o13, h⟩ := h
      refine s_isub C dX9_ofPage_31 o13 ?_
      obtain ⟨o14, h⟩ := h
      obtain ⟨o15, h⟩ := h
      refine s_iald (v0 := (M ((pgO M l1) + 1) (l2 - 100))) C hd12.2 o14 o15 dX9_ofPage_32 rfl ?_
      exact s_ireturn C dX9_ofPage_33 h
  · have h := h.2 hc
    refine s_iconst C dX9_ofPage_10 (by decide) ?_
    exact s_ireturn C dX9_ofPage_11 h
theorem E_X9_ofPage {G : GP} {l : Launch} {P : Int → NS → MM → Prop} {l1 : Int} {l2 : Int} {w : NS} {M : MM} (h : inR l1 → inR l2 → ∀ X : BX, X.2.1 = l → CX_X9_ofPage G X → A_X9_ofPage_0 G X P l1 l2 w M) : CT_X9_ofPage G l [(2, 1), (0, l1), (0, l2)] w M P :=
  CT.of RX9 "ofPage" (by decide +kernel) rfl rfl rfl (Nat.le_of_ble_eq_true rfl) (fun hr X hX C => h (hr (0, l1) (by simp)) (hr (0, l2) (by simp)) X hX C)
def A_X6_init_0 (G : GP) (X : BX) (P : Int → NS → MM → Prop) (l0 : Int) (l1 : Int) (l2 : Int) (l3 : Int) (l4 : Int) (l5 : Int) (l6 : Int) (rc rs : Nat) (w : NS) (M : MM) : Prop := WA false G X (QM G X false 4 P) 7 0 [(2, l0), (0, l1), (2, l2), (0, l3), (0, l4), (0, l5), (0, l6)] [] rc rs w M
set_option maxHeartbeats 4000000 in
set_option maxRecDepth 100000 in
theorem B_X6_init_0 {G : GP} {X : BX} {P : Int → NS → MM → Prop} {l0 : Int} {l1 : Int} {l2 : Int} {l3 : Int} {l4 : Int} {l5 : Int} {l6 : Int} {rc rs : Nat} {w : NS} {M : MM} (C : CX_X6_init G X) (h : (w.2 l0 = (7, 12)) ∧ ∀ w2 : NS, w2 = (w.1 + 1, us w.2 w.1 12 60) → (l0 < (w.1 : Int)) ∧ ∀ M8 : MM, M8 = (up M l0 6 (w.1 : Int)) → ∀ M9 : MM, M9 = (up M8 l0 7 0) → ∀ M10 : MM, M10 = (up M9 l0 8 0) → ∀ M11 : MM, M11 = (up M10 l0 9 0) → ∀ M12 : MM, M12 = (up M11 l0 10 0) → ∀ M13 : MM, M13 = (up M12 l0 11 0) → ∀ M14 : MM, M14 = (up M13 l0 0 l1) → ∀ M15 : MM, M15 = (up M14 l0 1 l2) → ∀ M16 : MM, M16 = (up M15 l0 2 l3) → ∀ M17 : MM, M17 = (up M16 l0 3 l4) → ∀ M18 : MM, M18 = (up M17 l0 4 l5) → ∀ M19 : MM, M19 = (up M18 l0 5 l6) → P 0 w2 M19) : A_X6_init_0 G X P l0 l1 l2 l3 l4 l5 l6 (rc + 1) (rs + 60) w M := by
  unfold A_X6_init_0
  refine s_aload_n C dX6_init_0 rfl ?_
  obtain ⟨o1, h⟩ := h
  refine s_objInit C o1 (by decide) (mG (wd_347) rfl) (mG (wd_81) rfl) (mG (wd_82) rfl) (by decide) (by decide) (Nat.le_of_ble_eq_true rfl) dX6_init_1 ?_
  refine s_aload_n C dX6_init_4 rfl ?_
  refine s_bipush C dX6_init_5 ⟨rfl, by decide, by decide⟩ ?_
  refine na_12 (N := 60) C rfl (by decide) dX6_init_7 ?_
  refine WA.nmW (fun w2 ew2 => ?_)
  have h := h _ ew2
  obtain ⟨o3, h⟩ := h
  have k4 : w2.2 l0 = (7, 12) := by rw [ew2]; exact us_ne o1 (Int.ne_of_lt o3)
  have b5 : l0 < (w2.1 : Int) := by have := o3; rw [ew2]; show _ < ((w.1 + 1 : Nat) : Int); omega
  have k6 : w2.2 (w.1 : Int) = (12, 60) := by rw [ew2]; exact us_new _ _ _ _
  have b7 : (w.1 : Int) < (w2.1 : Int) := by rw [ew2]; show _ < ((w.1 + 1 : Nat) : Int); omega
  refine pf_X6_9 C k4 (fun e => by cases e) dX6_init_9 ?_
  refine WA.nmM (fun M8 eM8 => ?_)
  have h := h _ eM8
  refine s_aload_n C dX6_init_12 rfl ?_
  refine s_iconst C dX6_init_13 (by decide) ?_
  refine pf_X6_15 C k4 (fun e => by cases e) dX6_init_14 ?_
  refine WA.nmM (fun M9 eM9 => ?_)
  have h := h _ eM9
  refine s_aload_n C dX6_init_17 rfl ?_
  refine s_iconst C dX6_init_18 (by decide) ?_
  refine pf_X6_19 C k4 (fun e => by cases e) dX6_init_19 ?_
  refine WA.nmM (fun M10 eM10 => ?_)
  have h := h _ eM10
  refine s_aload_n C dX6_init_22 rfl ?_
  refine s_iconst C dX6_init_23 (by decide) ?_
  refine pf_X6_22 C k4 (fun e => by cases e) dX6_init_24 ?_
  refine WA.nmM (fun M11 eM11 => ?_)
  have h := h _ eM11
  refine s_aload_n C dX6_init_27 rfl ?_
  refine s_iconst C dX6_init_28 (by decide) ?_
  refine pf_X6_25 C k4 (fun e => by cases e) dX6_init_29 ?_
  refine WA.nmM (fun M12 eM12 => ?_)
  have h := h _ eM12
  refine s_aload_n C dX6_init_32 rfl ?_
  refine s_iconst C dX6_init_33 (by decide) ?_
  refine pf_X6_28 C k4 (fun e => by cases e) dX6_init_34 ?_
  refine WA.nmM (fun M13 eM13 => ?_)
  have h := h _ eM13
  refine s_aload_n C dX6_init_37 rfl ?_
  refine s_iload_n C dX6_init_38 rfl ?_
  refine pf_X6_31 C k4 (fun e => by cases e) dX6_init_39 ?_
  refine WA.nmM (fun M14 eM14 => ?_)
  have h := h _ eM14
  refine s_aload_n C dX6_init_42 rfl ?_
  refine s_aload_n C dX6_init_43 rfl ?_
  refine pf_X6_34 C k4 (fun e => by cases e) dX6_init_44 ?_
  refine WA.nmM (fun M15 eM15 => ?_)
  have h := h _ eM15
  refine s_aload_n C dX6_init_47 rfl ?_
  refine s_iload_n C dX6_init_48 rfl ?_
  refine pf_X6_38 C k4 (fun e => by cases e) dX6_init_49 ?_
  refine WA.nmM (fun M16 eM16 => ?_)
  have h := h _ eM16
  refine s_aload_n C dX6_init_52 rfl ?_
  refine s_iload C dX6_init_53 rfl ?_
  refine pf_X6_41 C k4 (fun e => by cases e) dX6_init_55 ?_
  refine WA.nmM (fun M17 eM17 => ?_)
  have h := h _ eM17
  refine s_aload_n C dX6_init_58 rfl ?_
  refine s_iload C dX6_init_59 rfl ?_
  refine pf_X6_44 C k4 (fun e => by cases e) dX6_init_61 ?_
  refine WA.nmM (fun M18 eM18 => ?_)
  have h := h _ eM18
  refine s_aload_n C dX6_init_64 rfl ?_
  refine s_iload C dX6_init_65 rfl ?_
  refine pf_X6_47 C k4 (fun e => by cases e) dX6_init_67 ?_
  refine WA.nmM (fun M19 eM19 => ?_)
  have h := h _ eM19
  exact s_vreturn C dX6_init_70 h
theorem E_X6_init {G : GP} {l : Launch} {P : Int → NS → MM → Prop} {l0 : Int} {l1 : Int} {l2 : Int} {l3 : Int} {l4 : Int} {l5 : Int} {l6 : Int} {w : NS} {M : MM} (h : inR l1 → inR l3 → inR l4 → inR l5 → inR l6 → ∀ X : BX, X.2.1 = l → CX_X6_init G X → A_X6_init_0 G X P l0 l1 l2 l3 l4 l5 l6 1 60 w M) : CT_X6_init G l [(2, l0), (0, l1), (2, l2), (0, l3), (0, l4), (0, l5), (0, l6)] w M P :=
  CT.of RX6 "<init>" (by decide +kernel) rfl rfl rfl (Nat.le_of_ble_eq_true rfl) (fun hr X hX C => h (hr (0, l1) (by simp)) (hr (0, l3) (by simp)) (hr (0, l4) (by simp)) (hr (0, l5) (by simp)) (hr (0, l6) (by simp)) X hX C)
def A_X4_isLaterThan_0 (G : GP) (X : BX) (P : Int → NS → MM → Prop) (l0 : Int) (l1 : Int) (w : NS) (M : MM) : Prop := WA true G X (QM G X true 0 P) 2 0 [(2, l0), (2, l1)] [] 0 0 w M
set_option maxHeartbeats 4000000 in
set_option maxRecDepth 100000 in
theorem B_X4_isLaterThan_0 {G : GP} {X : BX} {P : Int → NS → MM → Prop} {l0 : Int} {l1 : Int} {w : NS} {M : MM} (C : CX_X4_isLaterThan G X) (h : (w.2 l0 = (5, 5)) ∧ (w.2 l1 = (5, 5)) ∧ ((((M l0 2) = (M l1 2)) → ((((M l0 1) ≤ (M l1 1)) → P 0 w M) ∧ ((¬ ((M l0 1) ≤ (M l1 1))) → P 1 w M))) ∧ ((¬ ((M l0 2) = (M l1 2))) → ((((M l0 2) ≤ (M l1 2)) → P 0 w M) ∧ ((¬ ((M l0 2) ≤ (M l1 2))) → P 1 w M))))) : A_X4_isLaterThan_0 G X P l0 l1 w M := by
  unfold A_X4_isLaterThan_0
  refine s_aload_n C dX4_isLaterThan_0 rfl ?_
  obtain ⟨o1, h⟩ := h
  refine gf_X4_26 (v0 := (M l0 2)) C o1 dX4_isLaterThan_1 rfl ?_
  refine s_aload_n C dX4_isLaterThan_4 rfl ?_
  obtain ⟨o2, h⟩ := h
  refine gf_X4_26 (v0 := (M l1 2)) C o2 dX4_isLaterThan_5 rfl ?_
  refine s_icmpeq C dX4_isLaterThan_8 rfl (fun hc => ?_) (fun hc => ?_)
  · have h := h.1 hc
    refine s_aload_n C dX4_isLaterThan_30 rfl ?_
    refine gf_X4_23 (v0 := (M l0 1)) C o1 dX4_isLaterThan_31 rfl ?_
    refine s_aload_n C dX4_isLaterThan_34 rfl ?_
    refine gf_X4_23 (v0 := (M l1 1)) C o2 dX4_isLaterThan_35 rfl ?_
    refine s_icmple C dX4_isLaterThan_38 rfl (fun hc => ?_) (fun hc => ?_)
    · have h := h.1 hc
      refine s_iconst C dX4_isLaterThan_45 (by decide) ?_
      exact s_zreturn C dX4_isLaterThan_46 (by decide) h
    · have h := h.2 hc
      refine s_iconst C dX4_isLaterThan_41 (by decide) ?_
      refine s_goto C dX4_isLaterThan_42 rfl ?_
      exact s_zreturn C dX4_isLaterThan_46 (by decide) h
  · have h := h.2 hc
    refine s_aload_n C dX4_isLaterThan_11 rfl ?_
    refine gf_X4_26 (v0 := (M l0 2)) C o1 dX4_isLaterThan_12 rfl ?_
    refine s_aload_n C dX4_isLaterThan_15 rfl ?_
    refine gf_X4_26 (v0 := (M l1 2)) C o2 dX4_isLaterThan_16 rfl ?_
    refine s_icmple C dX4_isLaterThan_19 rfl (fun hc => ?_) (fun hc => ?_)
    · have h := h.1 hc
      refine s_iconst C dX4_isLaterThan_26 (by decide) ?_
      refine s_goto C dX4_isLaterThan_27 rfl ?_
      exact s_zreturn C dX4_isLaterThan_46 (by decide) h
    · have h := h.2 hc
      refine s_iconst C dX4_isLaterThan_22 (by decide) ?_
      refine s_goto C dX4_isLaterThan_23 rfl ?_
      exact s_zreturn C dX4_isLaterThan_46 (by decide) h
theorem E_X4_isLaterThan {G : GP} {l : Launch} {P : Int → NS → MM → Prop} {l0 : Int} {l1 : Int} {w : NS} {M : MM} (h : ∀ X : BX, X.2.1 = l → CX_X4_isLaterThan G X → A_X4_isLaterThan_0 G X P l0 l1 w M) : CT_X4_isLaterThan G l [(2, l0), (2, l1)] w M P :=
  CT.of RX4 "isLaterThan" (by decide +kernel) rfl rfl rfl (Nat.le_of_ble_eq_true rfl) (fun hr X hX C => h  X hX C)
def A_X9_putInOrder_0 (G : GP) (X : BX) (P : Int → NS → MM → Prop) (l1 : Int) (w : NS) (M : MM) : Prop := WA true G X (QM G X true 4 P) 3 0 [(2, 1), (2, l1), (3, 0)] [] 0 0 w M
def A_X9_putInOrder_5 (G : GP) (X : BX) (P : Int → NS → MM → Prop) (l1 : Int) (l2 : Int) (w : NS) (M : MM) : Prop := WA true G X (QM G X true 4 P) 3 5 [(2, 1), (2, l1), (0, l2)] [] 0 0 w M
set_option maxHeartbeats 4000000 in
set_option maxRecDepth 100000 in
theorem B_X9_putInOrder_0 {G : GP} {X : BX} {P : Int → NS → MM → Prop} {l1 : Int} {w : NS} {M : MM} (C : CX_X9_putInOrder G X) (h : A_X9_putInOrder_5 G X P l1 (M 1 4) w M) : A_X9_putInOrder_0 G X P l1 w M := by
  unfold A_X9_putInOrder_0
  refine s_aload_n C dX9_putInOrder_0 rfl ?_
  refine WA.fix (fun hF1 => ?_)
  refine gf_X9_29 (v0 := (M 1 4)) C (sh_1 hF1) dX9_putInOrder_1 rfl ?_
  refine s_istore_n (ls' := [(2, 1), (2, l1), (0, (M 1 4))]) C dX9_putInOrder_4 (by decide) rfl rfl ?_
  exact h
set_option maxHeartbeats 4000000 in
set_option maxRecDepth 100000 in
theorem B_X9_putInOrder_5 {G : GP} {X : BX} {P : Int → NS → MM → Prop} {l1 : Int} {l2 : Int} {w : NS} {M : MM} (C : CX_X9_putInOrder G X) (h : (((l2 ≤ 0) → (0 ≤ l2) ∧ (l2 < 24) ∧ (w.2 l1 = (7, 12)) ∧ P 0 w (up M 5 l2 l1)) ∧ ((¬ (l2 ≤ 0)) → (inR (l2 - 1)) ∧ (0 ≤ (l2 - 1)) ∧ ((l2 - 1) < 24) ∧ (w.2 (M 5 (l2 - 1)) = (7, 12)) ∧ (w.2 l1 = (7, 12)) ∧ (w.2 (M (M 5 (l2 - 1)) 1) = (5, 5)) ∧ ∃ Q12 : Int → NS → MM → Prop, CT_X4_isLaterThan G X.2.1 [(2, (M (M 5 (l2 - 1)) 1)), (2, (M l1 1))] w M Q12 ∧ ∀ (z12 : Int) (w12 : NS) (M12 : MM), Q12 z12 w12 M12 → (((z12 = 0) → (0 ≤ l2) ∧ (l2 < 24) ∧ (w12.2 l1 = (7, 12)) ∧ P 0 w12 (up M12 5 l2 l1)) ∧ ((¬ (z12 = 0)) → (0 ≤ l2) ∧ (l2 < 24) ∧ (w12.2 (M12 5 (l2 - 1)) = (7, 12)) ∧ (inR (l2 + (-1))) ∧ A_X9_putInOrder_5 G X P l1 (l2 + (-1)) w12 (up M12 5 l2 (M12 5 (l2 - 1)))))))) : A_X9_putInOrder_5 G X P l1 l2 w M := by
  unfold A_X9_putInOrder_5
  refine s_iload_n C dX9_putInOrder_5 rfl ?_
  refine s_ifle C dX9_putInOrder_6 rfl (fun hc => ?_) (fun hc => ?_)
  · have h := h.1 hc
    refine s_aload_n C dX9_putInOrder_50 rfl ?_
    refine WA.fix (fun hF1 => ?_)
    refine gf_X9_32 C (sh_1 hF1) dX9_putInOrder_51 (fx_1_5 hF1) ?_
    refine s_iload_n C dX9_putInOrder_54 rfl ?_
    refine s_aload_n C dX9_putInOrder_55 rfl ?_
    obtain ⟨o2, h⟩ := h
    obtain ⟨o3, h⟩ := h
    obtain ⟨o4, h⟩ := h
    refine s_aast (t0 := 6) (ci := 6) C (sh_5 hF1) (by decide) rfl rfl (by decide) o4 o2 o3 (fun _ => by decide) dX9_putInOrder_56 ?_
    exact s_vreturn C dX9_putInOrder_57 h
  · have h := h.2 hc
    refine s_aload_n C dX9_putInOrder_9 rfl ?_
    refine WA.fix (fun hF5 => ?_)
    refine gf_X9_32 C (sh_1 hF5) dX9_putInOrder_10 (fx_1_5 hF5) ?_
    refine s_iload_n C dX9_putInOrder_13 rfl ?_
    refine s_iconst C dX9_putInOrder_14 (by decide) ?_
    obtain ⟨o6, h⟩ := h
    refine s_isub C dX9_putInOrder_15 o6 ?_
    obtain ⟨o7, h⟩ := h
    obtain ⟨o8, h⟩ := h
    refine s_aald (v0 := (M 5 (l2 - 1))) (t0 := 6) C (sh_5 hF5) (by decide) rfl o7 o8 dX9_putInOrder_16 rfl ?_
    obtain ⟨o9, h⟩ := h
    refine gf_X9_166 (v0 := (M (M 5 (l2 - 1)) 1)) C o9 dX9_putInOrder_17 rfl ?_
    refine s_aload_n C dX9_putInOrder_20 rfl ?_
    obtain ⟨o10, h⟩ := h
    refine gf_X9_166 (v0 := (M l1 1)) C o10 dX9_putInOrder_21 rfl ?_
    obtain ⟨o11, h⟩ := h
    obtain ⟨Q12, hKQ12, h⟩ := h
    refine s_callV (ci := 4) (av := [(2, (M l1 1))]) (rest := []) (mc := 0) (ms := 0) C dX9_putInOrder_24 lk_X9_331 o11 (by decide) rfl rfl rfl (Nat.le_of_ble_eq_true rfl) (by decide) (by decide) hKQ12 (fun z12 w12 M12 hq => ?_)
    have h := h z12 w12 M12 hq
    refine s_ifeq C dX9_putInOrder_27 rfl (fun hc => ?_) (fun hc => ?_)
    · have h := h.1 hc
      refine s_aload_n C dX9_putInOrder_50 rfl ?_
      refine WA.fix (fun hF13 => ?_)
      refine gf_X9_32 C (sh_1 hF13) dX9_putInOrder_51 (fx_1_5 hF13) ?_
      refine s_iload_n C dX9_putInOrder_54 rfl ?_
      refine s_aload_n C dX9_putInOrder_55 rfl ?_
      obtain ⟨o14, h⟩ := h
      obtain ⟨o15, h⟩ := h
      obtain ⟨o16, h⟩ := h
      refine s_aast (t0 := 6) (ci := 6) C (sh_5 hF13) (by decide) rfl rfl (by decide) o16 o14 o15 (fun _ => by decide) dX9_putInOrder_56 ?_
      exact s_vreturn C dX9_putInOrder_57 h
    · have h := h.2 hc
      refine s_aload_n C dX9_putInOrder_30 rfl ?_
      refine WA.fix (fun hF17 => ?_)
      refine gf_X9_32 C (sh_1 hF17) dX9_putInOrder_31 (fx_1_5 hF17) ?_
      refine s_iload_n C dX9_putInOrder_34 rfl ?_
      refine s_aload_n C dX9_putInOrder_35 rfl ?_
      refine gf_X9_32 C (sh_1 hF17) dX9_putInOrder_36 (fx_1_5 hF17) ?_
      refine s_iload_n C dX9_putInOrder_39 rfl ?_
      refine s_iconst C dX9_putInOrder_40 (by decide) ?_
      refine s_isub C dX9_putInOrder_41 o6 ?_
      refine s_aald (v0 := (M12 5 (l2 - 1))) (t0 := 6) C (sh_5 hF17) (by decide) rfl o7 o8 dX9_putInOrder_42 rfl ?_
      obtain ⟨o18, h⟩ := h
      obtain ⟨o19, h⟩ := h
      obtain ⟨o20, h⟩ := h
      refine s_aast (t0 := 6) (ci := 6) C (sh_5 hF17) (by decide) rfl rfl (by decide) o20 o18 o19 (fun _ => by decide) dX9_putInOrder_43 ?_
      obtain ⟨o21, h⟩ := h
      refine s_iinc (ls' := [(2, 1), (2, l1), (0, (l2 + (-1)))]) C dX9_putInOrder_44 (by decide) rfl o21 rfl rfl ?_
      refine s_goto C dX9_putInOrder_47 rfl ?_
      exact h
theorem E_X9_putInOrder {G : GP} {l : Launch} {P : Int → NS → MM → Prop} {l1 : Int} {w : NS} {M : MM} (h : ∀ X : BX, X.2.1 = l → CX_X9_putInOrder G X → A_X9_putInOrder_0 G X P l1 w M) : CT_X9_putInOrder G l [(2, 1), (2, l1)] w M P :=
  CT.of RX9 "putInOrder" (by decide +kernel) rfl rfl rfl (Nat.le_of_ble_eq_true rfl) (fun hr X hX C => h  X hX C)
def A_X9_piece_0 (G : GP) (X : BX) (P : Int → NS → MM → Prop) (l1 : Int) (l2 : Int) (l3 : Int) (l4 : Int) (l5 : Int) (w : NS) (M : MM) : Prop := WA true G X (QM G X true 0 P) 8 0 [(2, 1), (0, l1), (0, l2), (0, l3), (0, l4), (0, l5), (3, 0), (3, 0)] [] 2 72 w M
set_option maxHeartbeats 4000000 in
set_option maxRecDepth 100000 in
theorem B_X9_piece_0 {G : GP} {X : BX} {P : Int → NS → MM → Prop} {l1 : Int} {l2 : Int} {l3 : Int} {l4 : Int} {l5 : Int} {w : NS} {M : MM} (C : CX_X9_piece G X) (h : (0 ≤ M 1 2) ∧ (M 1 2 ≤ 8) ∧ ((((pgO M l1) ≠ 0) → (((¬ (0 ≤ l2 ∧ l2 ≤ l3 ∧ l3 < 6)) → P (-2) w M) ∧ (((0 ≤ l2 ∧ l2 ≤ l3 ∧ l3 < 6)) → ((((0 ≤ l4 ∧ l4 ≤ l5 ∧ l5 < 10)) → ((((M 1 4) < 24) → ∀ w7 : NS, w7 = (w.1 + 1, us w.2 w.1 7 12) → (1 < (w.1 : Int)) ∧ ∃ Q13 : Int → NS → MM → Prop, CT_X6_init G X.2.1 [(2, (w.1 : Int)), (0, (M 1 4)), (2, (pgO M l1)), (0, l2), (0, l3), (0, l4), (0, l5)] w7 M Q13 ∧ ∀ (z13 : Int) (w13 : NS) (M13 : MM), Q13 z13 w13 M13 → (FixA w13 M13) ∧ (w13.2 (w.1 : Int) = (7, 12)) ∧ ∃ Q16 : Int → NS → MM → Prop, CT_X6_readWords G X.2.1 [(2, (w.1 : Int))] w13 M13 Q16 ∧ ∀ (z16 : Int) (w16 : NS) (M16 : MM), Q16 z16 w16 M16 → (0 ≤ (M16 1 4)) ∧ ((M16 1 4) < 24) ∧ (w16.2 (w.1 : Int) = (7, 12)) ∧ ∃ Q21 : Int → NS → MM → Prop, CT_X9_putInOrder G X.2.1 [(2, 1), (2, (w.1 : Int))] w16 (up M16 4 (M16 1 4) (w.1 : Int)) Q21 ∧ ∀ (z21 : Int) (w21 : NS) (M21 : MM), Q21 z21 w21 M21 → (inR ((M21 1 4) + 1)) ∧ P (M21 1 4) w21 (up (up M21 9 0 0) 1 4 ((M21 1 4) + 1))) ∧ ((¬ ((M 1 4) < 24)) → P (-4) w M))) ∧ ((¬ (0 ≤ l4 ∧ l4 ≤ l5 ∧ l5 < 10)) → P (-2) w M))))) ∧ ((¬ ((pgO M l1) ≠ 0)) → P (-1) w M))) : A_X9_piece_0 G X P l1 l2 l3 l4 l5 w M := by
  unfold A_X9_piece_0
  refine s_aload_n C dX9_piece_0 rfl ?_
  refine s_iload_n C dX9_piece_1 rfl ?_
  refine WA.fix (fun hF1 => ?_)
  obtain ⟨o2, h⟩ := h
  obtain ⟨o3, h⟩ := h
  refine s_callV (ci := 9) (av := [(0, l1)]) (rest := []) (mc := 0) (ms := 0) C dX9_piece_2 lk_X9_106 (sh_1 hF1) (by decide) rfl rfl rfl (Nat.le_of_ble_eq_true rfl) (by decide) (by decide) (pc_X9_pageOf o2 o3) (fun z4 wz4 Mz4 hq => ?_)
  obtain ⟨hq1, hq2, hq3⟩ := hq
  have hq2 := hq2.symm
  have hq3 := hq3.symm
  subst hq1 hq2 hq3
  refine s_astore (ls' := [(2, 1), (0, l1), (0, l2), (0, l3), (0, l4), (0, l5), (2, (pgO M l1)), (3, 0)]) C dX9_piece_5 (by decide) rfl rfl ?_
  refine s_aload C dX9_piece_7 rfl ?_
  refine s_ifnonnull C dX9_piece_9 rfl (fun hc => ?_) (fun hc => ?_)
  · have h := h.1 hc
    refine s_iload_n C dX9_piece_14 rfl ?_
    refine s_iload_n C dX9_piece_15 rfl ?_
    refine s_bipush C dX9_piece_16 ⟨rfl, by decide, by decide⟩ ?_
    refine s_callS (av := [(0, l2), (0, l3), (0, 6)]) (rest := []) (mc := 0) (ms := 0) C dX9_piece_18 lk_X9_145 rfl rfl (Nat.le_of_ble_eq_true rfl) (by decide) (by decide) (pc_X9_isRange) (fun z5 wz5 Mz5 hq => ?_)
    obtain ⟨hq1, hq2, hq3⟩ := hq
    have hq2 := hq2.symm
    have hq3 := hq3.symm
    subst hq1 hq2 hq3
    refine s_ifeq C dX9_piece_21 rfl (fun hc => ?_) (fun hc => ?_)
    · have h := h.1 (b2i_0.mp hc)
      refine s_bipush C dX9_piece_36 ⟨rfl, by decide, by decide⟩ ?_
      exact s_ireturn C dX9_piece_38 h
    · have h := h.2 (b2i_n0 hc)
      refine s_iload C dX9_piece_24 rfl ?_
      refine s_iload C dX9_piece_26 rfl ?_
      refine s_bipush C dX9_piece_28 ⟨rfl, by decide, by decide⟩ ?_
      refine s_callS (av := [(0, l4), (0, l5), (0, 10)]) (rest := []) (mc := 0) (ms := 0) C dX9_piece_30 lk_X9_145 rfl rfl (Nat.le_of_ble_eq_true rfl) (by decide) (by decide) (pc_X9_isRange) (fun z6 wz6 Mz6 hq => ?_)
      obtain ⟨hq1, hq2, hq3⟩ := hq
      have hq2 := hq2.symm
      have hq3 := hq3.symm
      subst hq1 hq2 hq3
      refine s_ifne C dX9_piece_33 rfl (fun hc => ?_) (fun hc => ?_)
      · have h := h.1 (b2i_n0 hc)
        refine s_aload_n C dX9_piece_39 rfl ?_
        refine gf_X9_29 (v0 := (M 1 4)) C (sh_1 hF1) dX9_piece_40 rfl ?_
        refine s_bipush C dX9_piece_43 ⟨rfl, by decide, by decide⟩ ?_
        refine s_icmplt C dX9_piece_45 rfl (fun hc => ?_) (fun hc => ?_)
        · have h := h.1 hc
          refine nw_X9_23 C dX9_piece_51 ?_
          refine WA.nmW (fun w7 ew7 => ?_)
          have h := h _ ew7
          obtain ⟨o8, h⟩ := h
          have k9 : w7.2 1 = (10, 17) := by rw [ew7]; exact us_ne (sh_1 hF1) (Int.ne_of_lt o8)
          have b10 : 1 < (w7.1 : Int) := by have := o8; rw [ew7]; show _ < ((w.1 + 1 : Nat) : Int); omega
          have k11 : w7.2 (w.1 : Int) = (7, 12) := by rw [ew7]; exact us_new _ _ _ _
          have b12 : (w.1 : Int) < (w7.1 : Int) := by rw [ew7]; show _ < ((w.1 + 1 : Nat) : Int); omega
          refine s_dup C (by simp) dX9_piece_54 ?_
          refine s_aload_n C dX9_piece_55 rfl ?_
          refine gf_X9_29 (v0 := (M 1 4)) C k9 dX9_piece_56 rfl ?_
          refine s_aload C dX9_piece_59 rfl ?_
          refine s_iload_n C dX9_piece_61 rfl ?_
          refine s_iload_n C dX9_piece_62 rfl ?_
          refine s_iload C dX9_piece_63 rfl ?_
          refine s_iload C dX9_piece_65 rfl ?_
          obtain ⟨Q13, hKQ13, h⟩ := h
          refine s_callI (av := [(0, (M 1 4)), (2, (pgO M l1)), (0, l2), (0, l3), (0, l4), (0, l5)]) (rest := [(2, (w.1 : Int))]) (mc := 1) (ms := 60) C dX9_piece_67 lk_X9_148 k11 (by decide) rfl rfl (Nat.le_of_ble_eq_true rfl) (by decide) (by decide) hKQ13 (fun z13 w13 M13 hq => ?_)
          have h := h z13 w13 M13 hq
          obtain ⟨o14, h⟩ := h
          refine WA.refix o14 ?_
          refine s_astore (ls' := [(2, 1), (0, l1), (0, l2), (0, l3), (0, l4), (0, l5), (2, (pgO M l1)), (2, (w.1 : Int))]) C dX9_piece_70 (by decide) rfl rfl ?_
          refine s_aload C dX9_piece_72 rfl ?_
          obtain ⟨o15, h⟩ := h
          obtain ⟨Q16, hKQ16, h⟩ := h
          refine s_callV (ci := 6) (av := []) (rest := []) (mc := 0) (ms := 0) C dX9_piece_74 lk_X9_151 o15 (by decide) rfl rfl rfl (Nat.le_of_ble_eq_true rfl) (by decide) (by decide) hKQ16 (fun z16 w16 M16 hq => ?_)
          have h := h z16 w16 M16 hq
          refine s_aload_n C dX9_piece_77 rfl ?_
          refine WA.fix (fun hF17 => ?_)
          refine gf_X9_25 C (sh_1 hF17) dX9_piece_78 (fx_1_3 hF17) ?_
          refine s_aload_n C dX9_piece_81 rfl ?_
          refine gf_X9_29 (v0 := (M16 1 4)) C (sh_1 hF17) dX9_piece_82 rfl ?_
          refine s_aload C dX9_piece_85 rfl ?_
          obtain ⟨o18, h⟩ := h
          obtain ⟨o19, h⟩ := h
          obtain ⟨o20, h⟩ := h
          refine s_aast (t0 := 6) (ci := 6) C (sh_4 hF17) (by decide) rfl rfl (by decide) o20 o18 o19 (fun _ => by decide) dX9_piece_87 ?_
          refine s_aload_n C dX9_piece_88 rfl ?_
          refine s_aload C dX9_piece_89 rfl ?_
          obtain ⟨Q21, hKQ21, h⟩ := h
          refine s_callV (ci := 9) (av := [(2, (w.1 : Int))]) (rest := []) (mc := 0) (ms := 0) C dX9_piece_91 lk_X9_154 (sh_1 hF17) (by decide) rfl rfl rfl (Nat.le_of_ble_eq_true rfl) (by decide) (by decide) hKQ21 (fun z21 w21 M21 hq => ?_)
          have h := h z21 w21 M21 hq
          refine s_aload_n C dX9_piece_94 rfl ?_
          refine WA.fix (fun hF22 => ?_)
          refine gf_X9_54 C (sh_1 hF22) dX9_piece_95 (fx_1_9 hF22) ?_
          refine s_iconst C dX9_piece_98 (by decide) ?_
          refine pf_X9_124 C (sh_9 hF22) (by decide) (fun _ => by decide) dX9_piece_99 ?_
          refine s_aload_n C dX9_piece_102 rfl ?_
          refine s_dup C (by simp) dX9_piece_103 ?_
          refine gf_X9_29 (v0 := (M21 1 4)) C (sh_1 hF22) dX9_piece_104 (up_na (by decide)) ?_
          refine s_dup_x1 C (by simp) (by simp) dX9_piece_107 ?_
          refine s_iconst C dX9_piece_108 (by decide) ?_
          obtain ⟨o23, h⟩ := h
          refine s_iadd C dX9_piece_109 o23 ?_
          refine pf_X9_29 C (sh_1 hF22) (fun _ => by decide) dX9_piece_110 ?_
          exact s_ireturn C dX9_piece_113 h
        · have h := h.2 hc
          refine s_bipush C dX9_piece_48 ⟨rfl, by decide, by decide⟩ ?_
          exact s_ireturn C dX9_piece_50 h
      · have h := h.2 (b2i_nn hc)
        refine s_bipush C dX9_piece_36 ⟨rfl, by decide, by decide⟩ ?_
        exact s_ireturn C dX9_piece_38 h
  · have h := h.2 hc
    refine s_iconst C dX9_piece_12 (by decide) ?_
    exact s_ireturn C dX9_piece_13 h
theorem E_X9_piece {G : GP} {l : Launch} {P : Int → NS → MM → Prop} {l1 : Int} {l2 : Int} {l3 : Int} {l4 : Int} {l5 : Int} {w : NS} {M : MM} (h : inR l1 → inR l2 → inR l3 → inR l4 → inR l5 → ∀ X : BX, X.2.1 = l → CX_X9_piece G X → A_X9_piece_0 G X P l1 l2 l3 l4 l5 w M) : CT_X9_piece G l [(2, 1), (0, l1), (0, l2), (0, l3), (0, l4), (0, l5)] w M P :=
  CT.of RX9 "piece" (by decide +kernel) rfl rfl rfl (Nat.le_of_ble_eq_true rfl) (fun hr X hX C => h (hr (0, l1) (by simp)) (hr (0, l2) (by simp)) (hr (0, l3) (by simp)) (hr (0, l4) (by simp)) (hr (0, l5) (by simp)) X hX C)
def A_X1_leastChanges_0 (G : GP) (X : BX) (P : Int → NS → MM → Prop) (l1 : Int) (l2 : Int) (w : NS) (M : MM) : Prop := WA true G X (QM G X true 0 P) 7 0 [(2, 9), (2, l1), (2, l2), (3, 0), (3, 0), (3, 0), (3, 0)] [] 0 0 w M
def A_X1_leastChanges_2 (G : GP) (X : BX) (P : Int → NS → MM → Prop) (l1 : Int) (l2 : Int) (l3 : Int) (w : NS) (M : MM) : Prop := WA true G X (QM G X true 0 P) 7 2 [(2, 9), (2, l1), (2, l2), (0, l3), (3, 0), (3, 0), (3, 0)] [] 0 0 w M
def A_X1_leastChanges_25 (G : GP) (X : BX) (P : Int → NS → MM → Prop) (l1 : Int) (l2 : Int) (l3 : Int) (w : NS) (M : MM) : Prop := WA true G X (QM G X true 0 P) 7 25 [(2, 9), (2, l1), (2, l2), (0, l3), (3, 0), (3, 0), (3, 0)] [] 0 0 w M
def A_X1_leastChanges_51 (G : GP) (X : BX) (P : Int → NS → MM → Prop) (l1 : Int) (l2 : Int) (l3 : Int) (l4 : Int) (l5 : Int) (w : NS) (M : MM) : Prop := WA true G X (QM G X true 0 P) 7 51 [(2, 9), (2, l1), (2, l2), (0, l3), (0, l4), (0, l5), (3, 0)] [] 0 0 w M
set_option maxHeartbeats 4000000 in
set_option maxRecDepth 100000 in
theorem B_X1_leastChanges_0 {G : GP} {X : BX} {P : Int → NS → MM → Prop} {l1 : Int} {l2 : Int} {w : NS} {M : MM} (C : CX_X1_leastChanges G X) (h : A_X1_leastChanges_2 G X P l1 l2 0 w M) : A_X1_leastChanges_0 G X P l1 l2 w M := by
  unfold A_X1_leastChanges_0
  refine s_iconst C dX1_leastChanges_0 (by decide) ?_
  refine s_istore_n (ls' := [(2, 9), (2, l1), (2, l2), (0, 0), (3, 0), (3, 0), (3, 0)]) C dX1_leastChanges_1 (by decide) rfl rfl ?_
  exact h
set_option maxHeartbeats 4000000 in
set_option maxRecDepth 100000 in
theorem B_X1_leastChanges_2 {G : GP} {X : BX} {P : Int → NS → MM → Prop} {l1 : Int} {l2 : Int} {l3 : Int} {w : NS} {M : MM} (C : CX_X1_leastChanges G X) (h : (w.2 l2 = (7, 12)) ∧ ((((M l2 7) < l3) → A_X1_leastChanges_25 G X P l1 l2 1 w M) ∧ ((¬ ((M l2 7) < l3)) → (0 ≤ l3) ∧ (l3 < 61) ∧ (inR (l3 + 1)) ∧ A_X1_leastChanges_2 G X P l1 l2 (l3 + 1) w (up M 11 l3 l3)))) : A_X1_leastChanges_2 G X P l1 l2 l3 w M := by
  unfold A_X1_leastChanges_2
  refine s_iload_n C dX1_leastChanges_2 rfl ?_
  refine s_aload_n C dX1_leastChanges_3 rfl ?_
  obtain ⟨o1, h⟩ := h
  refine gf_X1_43 (v0 := (M l2 7)) C o1 dX1_leastChanges_4 rfl ?_
  refine s_icmpgt C dX1_leastChanges_7 rfl (fun hc => ?_) (fun hc => ?_)
  · have h := h.1 hc
    refine s_iconst C dX1_leastChanges_23 (by decide) ?_
    refine s_istore_n (ls' := [(2, 9), (2, l1), (2, l2), (0, 1), (3, 0), (3, 0), (3, 0)]) C dX1_leastChanges_24 (by decide) rfl rfl ?_
    exact h
  · have h := h.2 hc
    refine s_aload_n C dX1_leastChanges_10 rfl ?_
    refine WA.fix (fun hF2 => ?_)
    refine gf_X1_21 C (sh_9 hF2) dX1_leastChanges_11 (fx_9_2 hF2) ?_
    refine s_iload_n C dX1_leastChanges_14 rfl ?_
    refine s_iload_n C dX1_leastChanges_15 rfl ?_
    obtain ⟨o3, h⟩ := h
    obtain ⟨o4, h⟩ := h
    refine s_iast C (sh_11 hF2) o3 o4 (fun _ => by decide) dX1_leastChanges_16 ?_
    obtain ⟨o5, h⟩ := h
    refine s_iinc (ls' := [(2, 9), (2, l1), (2, l2), (0, (l3 + 1)), (3, 0), (3, 0), (3, 0)]) C dX1_leastChanges_17 (by decide) rfl o5 rfl rfl ?_
    refine s_goto C dX1_leastChanges_20 rfl ?_
    exact h
set_option maxHeartbeats 4000000 in
set_option maxRecDepth 100000 in
theorem B_X1_leastChanges_25 {G : GP} {X : BX} {P : Int → NS → MM → Prop} {l1 : Int} {l2 : Int} {l3 : Int} {w : NS} {M : MM} (C : CX_X1_leastChanges G X) (h : (w.2 l1 = (7, 12)) ∧ ((((M l1 7) < l3) → (w.2 l2 = (7, 12)) ∧ (0 ≤ (M l2 7)) ∧ ((M l2 7) < 61) ∧ P (M 11 (M l2 7)) w M) ∧ ((¬ ((M l1 7) < l3)) → A_X1_leastChanges_51 G X P l1 l2 l3 (M 11 0) 1 w (up M 11 0 l3)))) : A_X1_leastChanges_25 G X P l1 l2 l3 w M := by
  unfold A_X1_leastChanges_25
  refine s_iload_n C dX1_leastChanges_25 rfl ?_
  refine s_aload_n C dX1_leastChanges_26 rfl ?_
  obtain ⟨o1, h⟩ := h
  refine gf_X1_43 (v0 := (M l1 7)) C o1 dX1_leastChanges_27 rfl ?_
  refine s_icmpgt C dX1_leastChanges_30 rfl (fun hc => ?_) (fun hc => ?_)
  · have h := h.1 hc
    refine s_aload_n C dX1_leastChanges_147 rfl ?_
    refine WA.fix (fun hF2 => ?_)
    refine gf_X1_21 C (sh_9 hF2) dX1_leastChanges_148 (fx_9_2 hF2) ?_
    refine s_aload_n C dX1_leastChanges_151 rfl ?_
    obtain ⟨o3, h⟩ := h
    refine gf_X1_43 (v0 := (M l2 7)) C o3 dX1_leastChanges_152 rfl ?_
    obtain ⟨o4, h⟩ := h
    obtain ⟨o5, h⟩ := h
    refine s_iald (v0 := (M 11 (M l2 7))) C (sh_11 hF2) o4 o5 dX1_leastChanges_155 rfl ?_
    exact s_ireturn C dX1_leastChanges_156 h
  · have h := h.2 hc
    refine s_aload_n C dX1_leastChanges_33 rfl ?_
    refine WA.fix (fun hF6 => ?_)
    refine gf_X1_21 C (sh_9 hF6) dX1_leastChanges_34 (fx_9_2 hF6) ?_
    refine s_iconst C dX1_leastChanges_37 (by decide) ?_
    refine s_iald (v0 := (M 11 0)) C (sh_11 hF6) (by decide) (by decide) dX1_leastChanges_38 rfl ?_
    refine s_istore (ls' := [(2, 9), (2, l1), (2, l2), (0, l3), (0, (M 11 0)), (3, 0), (3, 0)]) C dX1_leastChanges_39 (by decide) rfl rfl ?_
    refine s_aload_n C dX1_leastChanges_41 rfl ?_
    refine gf_X1_21 C (sh_9 hF6) dX1_leastChanges_42 (fx_9_2 hF6) ?_
    refine s_iconst C dX1_leastChanges_45 (by decide) ?_
    refine s_iload_n C dX1_leastChanges_46 rfl ?_
    refine s_iast C (sh_11 hF6) (by decide) (by decide) (fun _ => by decide) dX1_leastChanges_47 ?_
    refine s_iconst C dX1_leastChanges_48 (by decide) ?_
    refine s_istore (ls' := [(2, 9), (2, l1), (2, l2), (0, l3), (0, (M 11 0)), (0, 1), (3, 0)]) C dX1_leastChanges_49 (by decide) rfl rfl ?_
    exact h
set_option maxHeartbeats 4000000 in
set_option maxRecDepth 100000 in
theorem B_X1_leastChanges_51 {G : GP} {X : BX} {P : Int → NS → MM → Prop} {l1 : Int} {l2 : Int} {l3 : Int} {l4 : Int} {l5 : Int} {w : NS} {M : MM} (C : CX_X1_leastChanges G X) (h : (w.2 l2 = (7, 12)) ∧ ((((M l2 7) < l5) → (inR (l3 + 1)) ∧ A_X1_leastChanges_25 G X P l1 l2 (l3 + 1) w M) ∧ ((¬ ((M l2 7) < l5)) → (w.2 l1 = (7, 12)) ∧ (inR (l3 - 1)) ∧ (0 ≤ (l3 - 1)) ∧ ((l3 - 1) < 60) ∧ (inR (l5 - 1)) ∧ (0 ≤ (l5 - 1)) ∧ ((l5 - 1) < 60) ∧ ((((M (l1 + 1) (l3 - 1)) = (M (l2 + 1) (l5 - 1))) → (inR (l4 + (b2i (0 ≠ 0)))) ∧ (0 ≤ l5) ∧ (l5 < 61) ∧ ((l5 - 1) < 61) ∧ (inR (1 + (min (M 11 l5) (M 11 (l5 - 1))))) ∧ (inR (l5 + 1)) ∧ A_X1_leastChanges_51 G X P l1 l2 l3 (M 11 l5) (l5 + 1) w (up M 11 l5 (min (l4 + (b2i (0 ≠ 0))) (1 + (min (M 11 l5) (M 11 (l5 - 1))))))) ∧ ((¬ ((M (l1 + 1) (l3 - 1)) = (M (l2 + 1) (l5 - 1)))) → (inR (l4 + (b2i (1 ≠ 0)))) ∧ (0 ≤ l5) ∧ (l5 < 61) ∧ ((l5 - 1) < 61) ∧ (inR (1 + (min (M 11 l5) (M 11 (l5 - 1))))) ∧ (inR (l5 + 1)) ∧ A_X1_leastChanges_51 G X P l1 l2 l3 (M 11 l5) (l5 + 1) w (up M 11 l5 (min (l4 + (b2i (1 ≠ 0))) (1 + (min (M 11 l5) (M 11 (l5 - 1))))))))))) : A_X1_leastChanges_51 G X P l1 l2 l3 l4 l5 w M := by
  unfold A_X1_leastChanges_51
  refine s_iload C dX1_leastChanges_51 rfl ?_
  refine s_aload_n C dX1_leastChanges_53 rfl ?_
  obtain ⟨o1, h⟩ := h
  refine gf_X1_43 (v0 := (M l2 7)) C o1 dX1_leastChanges_54 rfl ?_
  refine s_icmpgt C dX1_leastChanges_57 rfl (fun hc => ?_) (fun hc => ?_)
  · have h := h.1 hc
    obtain ⟨o2, h⟩ := h
    refine s_iinc (ls' := [(2, 9), (2, l1), (2, l2), (0, (l3 + 1)), (0, l4), (0, l5), (3, 0)]) C dX1_leastChanges_141 (by decide) rfl o2 rfl rfl ?_
    refine s_goto C dX1_leastChanges_144 rfl ?_
    exact WA.wk h ⟨Or.inr rfl, Or.inr rfl, Or.inr rfl, Or.inr rfl, Or.inl rfl, Or.inl rfl, Or.inl rfl, trivial⟩
  · have h := h.2 hc
    refine s_iload C dX1_leastChanges_60 rfl ?_
    refine s_aload_n C dX1_leastChanges_62 rfl ?_
    obtain ⟨o3, h⟩ := h
    refine WA.fix (fun hF4 => ?_)
    have hd5 := FixA.dy (t := 7) (n := 12) (k := 6) (m := 60) hF4 (by decide) o3
    refine gf_X1_50 C o3 dX1_leastChanges_63 hd5.1 ?_
    refine s_iload_n C dX1_leastChanges_66 rfl ?_
    refine s_iconst C dX1_leastChanges_67 (by decide) ?_
    obtain ⟨o6, h⟩ := h
    refine s_isub C dX1_leastChanges_68 o6 ?_
    obtain ⟨o7, h⟩ := h
    obtain ⟨o8, h⟩ := h
    refine s_iald (v0 := (M (l1 + 1) (l3 - 1))) C hd5.2 o7 o8 dX1_leastChanges_69 rfl ?_
    refine s_aload_n C dX1_leastChanges_70 rfl ?_
    have hd9 := FixA.dy (t := 7) (n := 12) (k := 6) (m := 60) hF4 (by decide) o1
    refine gf_X1_50 C o1 dX1_leastChanges_71 hd9.1 ?_
    refine s_iload C dX1_leastChanges_74 rfl ?_
    refine s_iconst C dX1_leastChanges_76 (by decide) ?_
    obtain ⟨o10, h⟩ := h
    refine s_isub C dX1_leastChanges_77 o10 ?_
    obtain ⟨o11, h⟩ := h
    obtain ⟨o12, h⟩ := h
    refine s_iald (v0 := (M (l2 + 1) (l5 - 1))) C hd9.2 o11 o12 dX1_leastChanges_78 rfl ?_
    refine s_icmpeq C dX1_leastChanges_79 rfl (fun hc => ?_) (fun hc => ?_)
    · have h := h.1 hc
      refine s_iconst C dX1_leastChanges_86 (by decide) ?_
      refine s_callSN (av := [(0, 0)]) (rest := [(0, l4)]) (mc := 0) (ms := 0) C dX1_leastChanges_87 lk_X1_53 rfl rfl (Nat.le_of_ble_eq_true rfl) (by decide) (by decide) (pc_X9_oneIf) (fun z13 wz13 Mz13 hq => ?_)
      obtain ⟨hq1, hq2, hq3⟩ := hq
      have hq2 := hq2.symm
      have hq3 := hq3.symm
      subst hq1 hq2 hq3
      obtain ⟨o14, h⟩ := h
      refine s_iadd C dX1_leastChanges_90 o14 ?_
      refine s_istore (ls' := [(2, 9), (2, l1), (2, l2), (0, l3), (0, l4), (0, l5), (0, (l4 + (b2i (0 ≠ 0))))]) C dX1_leastChanges_91 (by decide) rfl rfl ?_
      refine s_aload_n C dX1_leastChanges_93 rfl ?_
      refine gf_X1_21 C (sh_9 hF4) dX1_leastChanges_94 (fx_9_2 hF4) ?_
      refine s_iload C dX1_leastChanges_97 rfl ?_
      obtain ⟨o15, h⟩ := h
      obtain ⟨o16, h⟩ := h
      refine s_iald (v0 := (M 11 l5)) C (sh_11 hF4) o15 o16 dX1_leastChanges_99 rfl ?_
      refine s_istore (ls' := [(2, 9), (2, l1), (2, l2), (0, l3), (0, (M 11 l5)), (0, l5), (0, (l4 + (b2i (0 ≠ 0))))]) C dX1_leastChanges_100 (by decide) rfl rfl ?_
      refine s_aload_n C dX1_leastChanges_102 rfl ?_
      refine gf_X1_21 C (sh_9 hF4) dX1_leastChanges_103 (fx_9_2 hF4) ?_
      refine s_iload C dX1_leastChanges_106 rfl ?_
      refine s_iload C dX1_leastChanges_108 rfl ?_
      refine s_iconst C dX1_leastChanges_110 (by decide) ?_
      refine s_aload_n C dX1_leastChanges_111 rfl ?_
      refine gf_X1_21 C (sh_9 hF4) dX1_leastChanges_112 (fx_9_2 hF4) ?_
      refine s_iload C dX1_leastChanges_115 rfl ?_
      refine s_iald (v0 := (M 11 l5)) C (sh_11 hF4) o15 o16 dX1_leastChanges_117 rfl ?_
      refine s_aload_n C dX1_leastChanges_118 rfl ?_
      refine gf_X1_21 C (sh_9 hF4) dX1_leastChanges_119 (fx_9_2 hF4) ?_
      refine s_iload C dX1_leastChanges_122 rfl ?_
      refine s_iconst C dX1_leastChanges_124 (by decide) ?_
      refine s_isub C dX1_leastChanges_125 o10 ?_
      obtain ⟨o17, h⟩ := h
      refine s_iald (v0 := (M 11 (l5 - 1))) C (sh_11 hF4) o11 o17 dX1_leastChanges_126 rfl ?_
      refine s_mmin (st := [(0, 1), (0, (l4 + (b2i (0 ≠ 0)))), (0, l5), (2, 11)]) C dX1_leastChanges_127 wd_436 (Nat.le_of_ble_eq_true rfl) (by decide) (by decide) ?_
      obtain ⟨o18, h⟩ := h
      refine s_iadd C dX1_leastChanges_130 o18 ?_
      refine s_mmin (st := [(0, l5), (2, 11)]) C dX1_leastChanges_131 wd_436 (Nat.le_of_ble_eq_true rfl) (by decide) (by decide) ?_
      refine s_iast C (sh_11 hF4) o15 o16 (fun _ => by decide) dX1_leastChanges_134 ?_
      obtain ⟨o19, h⟩ := h
      refine s_iinc (ls' := [(2, 9), (2, l1), (2, l2), (0, l3), (0, (M 11 l5)), (0, (l5 + 1)), (0, (l4 + (b2i (0 ≠ 0))))]) C dX1_leastChanges_135 (by decide) rfl o19 rfl rfl ?_
      refine s_goto C dX1_leastChanges_138 rfl ?_
      exact WA.wk h ⟨Or.inr rfl, Or.inr rfl, Or.inr rfl, Or.inr rfl, Or.inr rfl, Or.inr rfl, Or.inl rfl, trivial⟩
    · have h := h.2 hc
      refine s_iconst C dX1_leastChanges_82 (by decide) ?_
      refine s_goto C dX1_leastChanges_83 rfl ?_
      refine s_callSN (av := [(0, 1)]) (rest := [(0, l4)]) (mc := 0) (ms := 0) C dX1_leastChanges_87 lk_X1_53 rfl rfl (Nat.le_of_ble_eq_true rfl) (by decide) (by decide) (pc_X9_oneIf) (fun z20 wz20 Mz20 hq => ?_)
      obtain ⟨hq1, hq2, hq3⟩ := hq
      have hq2 := hq2.symm
      have hq3 := hq3.symm
      subst hq1 hq2 hq3
      obtain ⟨o21, h⟩ := h
      refine s_iadd C dX1_leastChanges_90 o21 ?_
      refine s_istore (ls' := [(2, 9), (2, l1), (2, l2), (0, l3), (0, l4), (0, l5), (0, (l4 + (b2i (1 ≠ 0))))]) C dX1_leastChanges_91 (by decide) rfl rfl ?_
      refine s_aload_n C dX1_leastChanges_93 rfl ?_
      refine gf_X1_21 C (sh_9 hF4) dX1_leastChanges_94 (fx_9_2 hF4) ?_
      refine s_iload C dX1_leastChanges_97 rfl ?_
      obtain ⟨o22, h⟩ := h
      obtain ⟨o23, h⟩ := h
      refine s_iald (v0 := (M 11 l5)) C (sh_11 hF4) o22 o23 dX1_leastChanges_99 rfl ?_
      refine s_istore (ls' := [(2, 9), (2, l1), (2, l2), (0, l3), (0, (M 11 l5)), (0, l5), (0, (l4 + (b2i (1 ≠ 0))))]) C dX1_leastChanges_100 (by decide) rfl rfl ?_
      refine s_aload_n C dX1_leastChanges_102 rfl ?_
      refine gf_X1_21 C (sh_9 hF4) dX1_leastChanges_103 (fx_9_2 hF4) ?_
      refine s_iload C dX1_leastChanges_106 rfl ?_
      refine s_iload C dX1_leastChanges_108 rfl ?_
      refine s_iconst C dX1_leastChanges_110 (by decide) ?_
      refine s_aload_n C dX1_leastChanges_111 rfl ?_
      refine gf_X1_21 C (sh_9 hF4) dX1_leastChanges_112 (fx_9_2 hF4) ?_
      refine s_iload C dX1_leastChanges_115 rfl ?_
      refine s_iald (v0 := (M 11 l5)) C (sh_11 hF4) o22 o23 dX1_leastChanges_117 rfl ?_
      refine s_aload_n C dX1_leastChanges_118 rfl ?_
      refine gf_X1_21 C (sh_9 hF4) dX1_leastChanges_119 (fx_9_2 hF4) ?_
      refine s_iload C dX1_leastChanges_122 rfl ?_
      refine s_iconst C dX1_leastChanges_124 (by decide) ?_
      refine s_isub C dX1_leastChanges_125 o10 ?_
      obtain ⟨o24, h⟩ := h
      refine s_iald (v0 := (M 11 (l5 - 1))) C (sh_11 hF4) o11 o24 dX1_leastChanges_126 rfl ?_
      refine s_mmin (st := [(0, 1), (0, (l4 + (b2i (1 ≠ 0)))), (0, l5), (2, 11)]) C dX1_leastChanges_127 wd_436 (Nat.le_of_ble_eq_true rfl) (by decide) (by decide) ?_
      obtain ⟨o25, h⟩ := h
      refine s_iadd C dX1_leastChanges_130 o25 ?_
      refine s_mmin (st := [(0, l5), (2, 11)]) C dX1_leastChanges_131 wd_436 (Nat.le_of_ble_eq_true rfl) (by decide) (by decide) ?_
      refine s_iast C (sh_11 hF4) o22 o23 (fun _ => by decide) dX1_leastChanges_134 ?_
      obtain ⟨o26, h⟩ := h
      refine s_iinc (ls' := [(2, 9), (2, l1), (2, l2), (0, l3), (0, (M 11 l5)), (0, (l5 + 1)), (0, (l4 + (b2i (1 ≠ 0))))]) C dX1_leastChanges_135 (by decide) rfl o26 rfl rfl ?_
      refine s_goto C dX1_leastChanges_138 rfl ?_
      exact WA.wk h ⟨Or.inr rfl, Or.inr rfl, Or.inr rfl, Or.inr rfl, Or.inr rfl, Or.inr rfl, Or.inl rfl, trivial⟩
theorem E_X1_leastChanges {G : GP} {l : Launch} {P : Int → NS → MM → Prop} {l1 : Int} {l2 : Int} {w : NS} {M : MM} (h : ∀ X : BX, X.2.1 = l → CX_X1_leastChanges G X → A_X1_leastChanges_0 G X P l1 l2 w M) : CT_X1_leastChanges G l [(2, 9), (2, l1), (2, l2)] w M P :=
  CT.of RX1 "leastChanges" (by decide +kernel) rfl rfl rfl (Nat.le_of_ble_eq_true rfl) (fun hr X hX C => h  X hX C)
def A_X1_areDoubles_0 (G : GP) (X : BX) (P : Int → NS → MM → Prop) (l1 : Int) (l2 : Int) (l3 : Int) (w : NS) (M : MM) : Prop := WA true G X (QM G X true 0 P) 7 0 [(2, 9), (2, l1), (2, l2), (0, l3), (3, 0), (3, 0), (3, 0)] [] 0 0 w M
set_option maxHeartbeats 4000000 in
set_option maxRecDepth 100000 in
theorem B_X1_areDoubles_0 {G : GP} {X : BX} {P : Int → NS → MM → Prop} {l1 : Int} {l2 : Int} {l3 : Int} {w : NS} {M : MM} (C : CX_X1_areDoubles G X) (h : (w.2 l1 = (7, 12)) ∧ ((((M l1 7) = 0) → P 0 w M) ∧ ((¬ ((M l1 7) = 0)) → (w.2 l2 = (7, 12)) ∧ ((((M l2 7) ≠ 0) → ((((M l1 7) ≤ (M l2 7)) → (inR ((M l1 7) + (M l2 7))) ∧ (inR (((M l1 7) + (M l2 7)) - (M l2 7))) ∧ (inR (l3 * (M l2 7))) ∧ (inR ((M l2 7) - (((M l1 7) + (M l2 7)) - (M l2 7)))) ∧ (inR (((M l2 7) - (((M l1 7) + (M l2 7)) - (M l2 7))) * 100)) ∧ ((((l3 * (M l2 7)) < (((M l2 7) - (((M l1 7) + (M l2 7)) - (M l2 7))) * 100)) → P 0 w M) ∧ ((¬ ((l3 * (M l2 7)) < (((M l2 7) - (((M l1 7) + (M l2 7)) - (M l2 7))) * 100))) → ∃ Q9 : Int → NS → MM → Prop, CT_X1_leastChanges G X.2.1 [(2, 9), (2, l1), (2, l2)] w M Q9 ∧ ∀ (z9 : Int) (w9 : NS) (M9 : MM), Q9 z9 w9 M9 → (inR (z9 * 100)) ∧ ((((l3 * (M l2 7)) < (z9 * 100)) → P 0 w9 M9) ∧ ((¬ ((l3 * (M l2 7)) < (z9 * 100))) → P 1 w9 M9))))) ∧ ((¬ ((M l1 7) ≤ (M l2 7))) → (inR ((M l1 7) + (M l2 7))) ∧ (inR (((M l1 7) + (M l2 7)) - (M l1 7))) ∧ (inR (l3 * (M l1 7))) ∧ (inR ((M l1 7) - (((M l1 7) + (M l2 7)) - (M l1 7)))) ∧ (inR (((M l1 7) - (((M l1 7) + (M l2 7)) - (M l1 7))) * 100)) ∧ ((((l3 * (M l1 7)) < (((M l1 7) - (((M l1 7) + (M l2 7)) - (M l1 7))) * 100)) → P 0 w M) ∧ ((¬ ((l3 * (M l1 7)) < (((M l1 7) - (((M l1 7) + (M l2 7)) - (M l1 7))) * 100))) → ∃ Q17 : Int → NS → MM → Prop, CT_X1_leastChanges G X.2.1 [(2, 9), (2, l1), (2, l2)] w M Q17 ∧ ∀ (z17 : Int) (w17 : NS) (M17 : MM), Q17 z17 w17 M17 → (inR (z17 * 100)) ∧ ((((l3 * (M l1 7)) < (z17 * 100)) → P 0 w17 M17) ∧ ((¬ ((l3 * (M l1 7)) < (z17 * 100))) → P 1 w17 M17))))))) ∧ ((¬ ((M l2 7) ≠ 0)) → P 0 w M))))) : A_X1_areDoubles_0 G X P l1 l2 l3 w M := by
  unfold A_X1_areDoubles_0
  refine s_aload_n C dX1_areDoubles_0 rfl ?_
  obtain ⟨o1, h⟩ := h
  refine gf_X1_43 (v0 := (M l1 7)) C o1 dX1_areDoubles_1 rfl ?_
  refine s_ifeq C dX1_areDoubles_4 rfl (fun hc => ?_) (fun hc => ?_)
  · have h := h.1 hc
    refine s_iconst C dX1_areDoubles_14 (by decide) ?_
    exact s_zreturn C dX1_areDoubles_15 (by decide) h
  · have h := h.2 hc
    refine s_aload_n C dX1_areDoubles_7 rfl ?_
    obtain ⟨o2, h⟩ := h
    refine gf_X1_43 (v0 := (M l2 7)) C o2 dX1_areDoubles_8 rfl ?_
    refine s_ifne C dX1_areDoubles_11 rfl (fun hc => ?_) (fun hc => ?_)
    · have h := h.1 hc
      refine s_aload_n C dX1_areDoubles_16 rfl ?_
      refine gf_X1_43 (v0 := (M l1 7)) C o1 dX1_areDoubles_17 rfl ?_
      refine s_aload_n C dX1_areDoubles_20 rfl ?_
      refine gf_X1_43 (v0 := (M l2 7)) C o2 dX1_areDoubles_21 rfl ?_
      refine s_icmple C dX1_areDoubles_24 rfl (fun hc => ?_) (fun hc => ?_)
      · have h := h.1 hc
        refine s_aload_n C dX1_areDoubles_34 rfl ?_
        refine gf_X1_43 (v0 := (M l2 7)) C o2 dX1_areDoubles_35 rfl ?_
        refine s_istore (ls' := [(2, 9), (2, l1), (2, l2), (0, l3), (0, (M l2 7)), (3, 0), (3, 0)]) C dX1_areDoubles_38 (by decide) rfl rfl ?_
        refine s_aload_n C dX1_areDoubles_40 rfl ?_
        refine gf_X1_43 (v0 := (M l1 7)) C o1 dX1_areDoubles_41 rfl ?_
        refine s_aload_n C dX1_areDoubles_44 rfl ?_
        refine gf_X1_43 (v0 := (M l2 7)) C o2 dX1_areDoubles_45 rfl ?_
        obtain ⟨o3, h⟩ := h
        refine s_iadd C dX1_areDoubles_48 o3 ?_
        refine s_iload C dX1_areDoubles_49 rfl ?_
        obtain ⟨o4, h⟩ := h
        refine s_isub C dX1_areDoubles_51 o4 ?_
        refine s_istore (ls' := [(2, 9), (2, l1), (2, l2), (0, l3), (0, (M l2 7)), (0, (((M l1 7) + (M l2 7)) - (M l2 7))), (3, 0)]) C dX1_areDoubles_52 (by decide) rfl rfl ?_
        refine s_iload_n C dX1_areDoubles_54 rfl ?_
        refine s_iload C dX1_areDoubles_55 rfl ?_
        obtain ⟨o5, h⟩ := h
        refine s_imul C dX1_areDoubles_57 o5 ?_
        refine s_istore (ls' := [(2, 9), (2, l1), (2, l2), (0, l3), (0, (M l2 7)), (0, (((M l1 7) + (M l2 7)) - (M l2 7))), (0, (l3 * (M l2 7)))]) C dX1_areDoubles_58 (by decide) rfl rfl ?_
        refine s_iload C dX1_areDoubles_60 rfl ?_
        refine s_iload C dX1_areDoubles_62 rfl ?_
        obtain ⟨o6, h⟩ := h
        refine s_isub C dX1_areDoubles_64 o6 ?_
        refine s_bipush C dX1_areDoubles_65 ⟨rfl, by decide, by decide⟩ ?_
        obtain ⟨o7, h⟩ := h
        refine s_imul C dX1_areDoubles_67 o7 ?_
        refine s_iload C dX1_areDoubles_68 rfl ?_
        refine s_icmpgt C dX1_areDoubles_70 rfl (fun hc => ?_) (fun hc => ?_)
        · have h := h.1 hc
          refine s_iconst C dX1_areDoubles_91 (by decide) ?_
          exact s_zreturn C dX1_areDoubles_92 (by decide) h
        · have h := h.2 hc
          refine s_aload_n C dX1_areDoubles_73 rfl ?_
          refine s_aload_n C dX1_areDoubles_74 rfl ?_
          refine s_aload_n C dX1_areDoubles_75 rfl ?_
          refine WA.fix (fun hF8 => ?_)
          obtain ⟨Q9, hKQ9, h⟩ := h
          refine s_callV (ci := 1) (av := [(2, l1), (2, l2)]) (rest := []) (mc := 0) (ms := 0) C dX1_areDoubles_76 lk_X1_46 (sh_9 hF8) (by decide) rfl rfl rfl (Nat.le_of_ble_eq_true rfl) (by decide) (by decide) hKQ9 (fun z9 w9 M9 hq => ?_)
          have h := h z9 w9 M9 hq
          refine s_bipush C dX1_areDoubles_79 ⟨rfl, by decide, by decide⟩ ?_
          obtain ⟨o10, h⟩ := h
          refine s_imul C dX1_areDoubles_81 o10 ?_
          refine s_iload C dX1_areDoubles_82 rfl ?_
          refine s_icmpgt C dX1_areDoubles_84 rfl (fun hc => ?_) (fun hc => ?_)
          · have h := h.1 hc
            refine s_iconst C dX1_areDoubles_91 (by decide) ?_
            exact s_zreturn C dX1_areDoubles_92 (by decide) h
          · have h := h.2 hc
            refine s_iconst C dX1_areDoubles_87 (by decide) ?_
            refine s_goto C dX1_areDoubles_88 rfl ?_
            exact s_zreturn C dX1_areDoubles_92 (by decide) h
      · have h := h.2 hc
        refine s_aload_n C dX1_areDoubles_27 rfl ?_
        refine gf_X1_43 (v0 := (M l1 7)) C o1 dX1_areDoubles_28 rfl ?_
        refine s_goto C dX1_areDoubles_31 rfl ?_
        refine s_istore (ls' := [(2, 9), (2, l1), (2, l2), (0, l3), (0, (M l1 7)), (3, 0), (3, 0)]) C dX1_areDoubles_38 (by decide) rfl rfl ?_
        refine s_aload_n C dX1_areDoubles_40 rfl ?_
        refine gf_X1_43 (v0 := (M l1 7)) C o1 dX1_areDoubles_41 rfl ?_
        refine s_aload_n C dX1_areDoubles_44 rfl ?_
        refine gf_X1_43 (v0 := (M l2 7)) C o2 dX1_areDoubles_45 rfl ?_
        obtain ⟨o11, h⟩ := h
        refine s_iadd C dX1_areDoubles_48 o11 ?_
        refine s_iload C dX1_areDoubles_49 rfl ?_
        obtain ⟨o12, h⟩ := h
        refine s_isub C dX1_areDoubles_51 o12 ?_
        refine s_istore (ls' := [(2, 9), (2, l1), (2, l2), (0, l3), (0, (M l1 7)), (0, (((M l1 7) + (M l2 7)) - (M l1 7))), (3, 0)]) C dX1_areDoubles_52 (by decide) rfl rfl ?_
        refine s_iload_n C dX1_areDoubles_54 rfl ?_
        refine s_iload C dX1_areDoubles_55 rfl ?_
        obtain ⟨o13, h⟩ := h
        refine s_imul C dX1_areDoubles_57 o13 ?_
        refine s_istore (ls' := [(2, 9), (2, l1), (2, l2), (0, l3), (0, (M l1 7)), (0, (((M l1 7) + (M l2 7)) - (M l1 7))), (0, (l3 * (M l1 7)))]) C dX1_areDoubles_58 (by decide) rfl rfl ?_
        refine s_iload C dX1_areDoubles_60 rfl ?_
        refine s_iload C dX1_areDoubles_62 rfl ?_
        obtain ⟨o14, h⟩ := h
        refine s_isub C dX1_areDoubles_64 o14 ?_
        refine s_bipush C dX1_areDoubles_65 ⟨rfl, by decide, by decide⟩ ?_
        obtain ⟨o15, h⟩ := h
        refine s_imul C dX1_areDoubles_67 o15 ?_
        refine s_iload C dX1_areDoubles_68 rfl ?_
        refine s_icmpgt C dX1_areDoubles_70 rfl (fun hc => ?_) (fun hc => ?_)
        · have h := h.1 hc
          refine s_iconst C dX1_areDoubles_91 (by decide) ?_
          exact s_zreturn C dX1_areDoubles_92 (by decide) h
        · have h := h.2 hc
          refine s_aload_n C dX1_areDoubles_73 rfl ?_
          refine s_aload_n C dX1_areDoubles_74 rfl ?_
          refine s_aload_n C dX1_areDoubles_75 rfl ?_
          refine WA.fix (fun hF16 => ?_)
          obtain ⟨Q17, hKQ17, h⟩ := h
          refine s_callV (ci := 1) (av := [(2, l1), (2, l2)]) (rest := []) (mc := 0) (ms := 0) C dX1_areDoubles_76 lk_X1_46 (sh_9 hF16) (by decide) rfl rfl rfl (Nat.le_of_ble_eq_true rfl) (by decide) (by decide) hKQ17 (fun z17 w17 M17 hq => ?_)
          have h := h z17 w17 M17 hq
          refine s_bipush C dX1_areDoubles_79 ⟨rfl, by decide, by decide⟩ ?_
          obtain ⟨o18, h⟩ := h
          refine s_imul C dX1_areDoubles_81 o18 ?_
          refine s_iload C dX1_areDoubles_82 rfl ?_
          refine s_icmpgt C dX1_areDoubles_84 rfl (fun hc => ?_) (fun hc => ?_)
          · have h := h.1 hc
            refine s_iconst C dX1_areDoubles_91 (by decide) ?_
            exact s_zreturn C dX1_areDoubles_92 (by decide) h
          · have h := h.2 hc
            refine s_iconst C dX1_areDoubles_87 (by decide) ?_
            refine s_goto C dX1_areDoubles_88 rfl ?_
            exact s_zreturn C dX1_areDoubles_92 (by decide) h
    · have h := h.2 hc
      refine s_iconst C dX1_areDoubles_14 (by decide) ?_
      exact s_zreturn C dX1_areDoubles_15 (by decide) h
theorem E_X1_areDoubles {G : GP} {l : Launch} {P : Int → NS → MM → Prop} {l1 : Int} {l2 : Int} {l3 : Int} {w : NS} {M : MM} (h : inR l3 → ∀ X : BX, X.2.1 = l → CX_X1_areDoubles G X → A_X1_areDoubles_0 G X P l1 l2 l3 w M) : CT_X1_areDoubles G l [(2, 9), (2, l1), (2, l2), (0, l3)] w M P :=
  CT.of RX1 "areDoubles" (by decide +kernel) rfl rfl rfl (Nat.le_of_ble_eq_true rfl) (fun hr X hX C => h (hr (0, l3) (by simp)) X hX C)
def A_X1_gatherOne_0 (G : GP) (X : BX) (P : Int → NS → MM → Prop) (l1 : Int) (l2 : Int) (l3 : Int) (l4 : Int) (w : NS) (M : MM) : Prop := WA true G X (QM G X true 4 P) 10 0 [(2, 9), (2, l1), (0, l2), (0, l3), (0, l4), (3, 0), (3, 0), (3, 0), (3, 0), (3, 0)] [] 0 0 w M
def A_X1_gatherOne_29 (G : GP) (X : BX) (P : Int → NS → MM → Prop) (l1 : Int) (l2 : Int) (l3 : Int) (l4 : Int) (l5 : Int) (l6 : Int) (l7 : Int) (w : NS) (M : MM) : Prop := WA true G X (QM G X true 4 P) 10 29 [(2, 9), (2, l1), (0, l2), (0, l3), (0, l4), (2, l5), (0, l6), (0, l7), (3, 0), (3, 0)] [] 0 0 w M
def A_X1_gatherOne_124 (G : GP) (X : BX) (P : Int → NS → MM → Prop) (l6 : Int) (l7 : Int) (w : NS) (M : MM) : Prop := WA true G X (QM G X true 4 P) 10 124 [(2, 9), (3, 0), (3, 0), (3, 0), (3, 0), (3, 0), (0, l6), (0, l7), (3, 0), (3, 0)] [] 0 0 w M
def A_X1_gatherOne_47 (G : GP) (X : BX) (P : Int → NS → MM → Prop) (l1 : Int) (l2 : Int) (l3 : Int) (l4 : Int) (l5 : Int) (l6 : Int) (l7 : Int) (l8 : Int) (w : NS) (M : MM) : Prop := WA true G X (QM G X true 4 P) 10 47 [(2, 9), (2, l1), (0, l2), (0, l3), (0, l4), (2, l5), (0, l6), (0, l7), (0, l8), (3, 0)] [] 0 0 w M
set_option maxHeartbeats 4000000 in
set_option maxRecDepth 100000 in
theorem B_X1_gatherOne_0 {G : GP} {X : BX} {P : Int → NS → MM → Prop} {l1 : Int} {l2 : Int} {l3 : Int} {l4 : Int} {w : NS} {M : MM} (C : CX_X1_gatherOne G X) (h : (w.2 l1 = (18, 24)) ∧ (0 ≤ l3) ∧ (l3 < 24) ∧ (w.2 (M l1 l3) = (7, 12)) ∧ A_X1_gatherOne_29 G X P l1 l2 l3 l4 (M l1 l3) 1 0 w (up (up M (M l1 l3) 8 (M (M l1 l3) 0)) 10 0 (M l1 l3))) : A_X1_gatherOne_0 G X P l1 l2 l3 l4 w M := by
  unfold A_X1_gatherOne_0
  refine s_aload_n C dX1_gatherOne_0 rfl ?_
  refine s_iload_n C dX1_gatherOne_1 rfl ?_
  obtain ⟨o1, h⟩ := h
  obtain ⟨o2, h⟩ := h
  obtain ⟨o3, h⟩ := h
  refine s_aald (v0 := (M l1 l3)) (t0 := 6) C o1 (by decide) rfl o2 o3 dX1_gatherOne_2 rfl ?_
  refine s_astore (ls' := [(2, 9), (2, l1), (0, l2), (0, l3), (0, l4), (2, (M l1 l3)), (3, 0), (3, 0), (3, 0), (3, 0)]) C dX1_gatherOne_3 (by decide) rfl rfl ?_
  refine s_aload C dX1_gatherOne_5 rfl ?_
  refine s_aload C dX1_gatherOne_7 rfl ?_
  obtain ⟨o4, h⟩ := h
  refine gf_X1_33 (v0 := (M (M l1 l3) 0)) C o4 dX1_gatherOne_9 rfl ?_
  refine pf_X1_25 C o4 (fun _ => by decide) dX1_gatherOne_12 ?_
  refine s_aload_n C dX1_gatherOne_15 rfl ?_
  refine WA.fix (fun hF5 => ?_)
  refine gf_X1_17 C (sh_9 hF5) dX1_gatherOne_16 (fx_9_1 hF5) ?_
  refine s_iconst C dX1_gatherOne_19 (by decide) ?_
  refine s_aload C dX1_gatherOne_20 rfl ?_
  refine s_aast (t0 := 6) (ci := 6) C (sh_10 hF5) (by decide) rfl rfl (by decide) o4 (by decide) (by decide) (fun _ => by decide) dX1_gatherOne_22 ?_
  refine s_iconst C dX1_gatherOne_23 (by decide) ?_
  refine s_istore (ls' := [(2, 9), (2, l1), (0, l2), (0, l3), (0, l4), (2, (M l1 l3)), (0, 1), (3, 0), (3, 0), (3, 0)]) C dX1_gatherOne_24 (by decide) rfl rfl ?_
  refine s_iconst C dX1_gatherOne_26 (by decide) ?_
  refine s_istore (ls' := [(2, 9), (2, l1), (0, l2), (0, l3), (0, l4), (2, (M l1 l3)), (0, 1), (0, 0), (3, 0), (3, 0)]) C dX1_gatherOne_27 (by decide) rfl rfl ?_
  exact h
set_option maxHeartbeats 4000000 in
set_option maxRecDepth 100000 in
theorem B_X1_gatherOne_29 {G : GP} {X : BX} {P : Int → NS → MM → Prop} {l1 : Int} {l2 : Int} {l3 : Int} {l4 : Int} {l5 : Int} {l6 : Int} {l7 : Int} {w : NS} {M : MM} (C : CX_X1_gatherOne G X) (h : (((l6 ≤ l7) → A_X1_gatherOne_124 G X P l6 0 w M) ∧ ((¬ (l6 ≤ l7)) → (((l2 ≤ l7) → A_X1_gatherOne_124 G X P l6 0 w M) ∧ ((¬ (l2 ≤ l7)) → (inR (l3 + 1)) ∧ A_X1_gatherOne_47 G X P l1 l2 l3 l4 l5 l6 l7 (l3 + 1) w M))))) : A_X1_gatherOne_29 G X P l1 l2 l3 l4 l5 l6 l7 w M := by
  unfold A_X1_gatherOne_29
  refine s_iload C dX1_gatherOne_29 rfl ?_
  refine s_iload C dX1_gatherOne_31 rfl ?_
  refine s_icmpge C dX1_gatherOne_33 rfl (fun hc => ?_) (fun hc => ?_)
  · have h := h.1 hc
    refine s_iconst C dX1_gatherOne_121 (by decide) ?_
    refine s_istore (ls' := [(2, 9), (2, l1), (0, l2), (0, l3), (0, l4), (2, l5), (0, l6), (0, 0), (3, 0), (3, 0)]) C dX1_gatherOne_122 (by decide) rfl rfl ?_
    exact WA.wk h ⟨Or.inr rfl, Or.inl rfl, Or.inl rfl, Or.inl rfl, Or.inl rfl, Or.inl rfl, Or.inr rfl, Or.inr rfl, Or.inl rfl, Or.inl rfl, trivial⟩
  · have h := h.2 hc
    refine s_iload C dX1_gatherOne_36 rfl ?_
    refine s_iload_n C dX1_gatherOne_38 rfl ?_
    refine s_icmpge C dX1_gatherOne_39 rfl (fun hc => ?_) (fun hc => ?_)
    · have h := h.1 hc
      refine s_iconst C dX1_gatherOne_121 (by decide) ?_
      refine s_istore (ls' := [(2, 9), (2, l1), (0, l2), (0, l3), (0, l4), (2, l5), (0, l6), (0, 0), (3, 0), (3, 0)]) C dX1_gatherOne_122 (by decide) rfl rfl ?_
      exact WA.wk h ⟨Or.inr rfl, Or.inl rfl, Or.inl rfl, Or.inl rfl, Or.inl rfl, Or.inl rfl, Or.inr rfl, Or.inr rfl, Or.inl rfl, Or.inl rfl, trivial⟩
    · have h := h.2 hc
      refine s_iload_n C dX1_gatherOne_42 rfl ?_
      refine s_iconst C dX1_gatherOne_43 (by decide) ?_
      obtain ⟨o1, h⟩ := h
      refine s_iadd C dX1_gatherOne_44 o1 ?_
      refine s_istore (ls' := [(2, 9), (2, l1), (0, l2), (0, l3), (0, l4), (2, l5), (0, l6), (0, l7), (0, (l3 + 1)), (3, 0)]) C dX1_gatherOne_45 (by decide) rfl rfl ?_
      exact h
set_option maxHeartbeats 4000000 in
set_option maxRecDepth 100000 in
theorem B_X1_gatherOne_124 {G : GP} {X : BX} {P : Int → NS → MM → Prop} {l6 : Int} {l7 : Int} {w : NS} {M : MM} (C : CX_X1_gatherOne G X) (h : (((l6 ≤ l7) → P 0 w M) ∧ ((¬ (l6 ≤ l7)) → (0 ≤ l7) ∧ (l7 < 24) ∧ (w.2 (M 10 l7) = (7, 12)) ∧ (inR (l7 + 1)) ∧ A_X1_gatherOne_124 G X P l6 (l7 + 1) w (up M (M 10 l7) 9 l6)))) : A_X1_gatherOne_124 G X P l6 l7 w M := by
  unfold A_X1_gatherOne_124
  refine s_iload C dX1_gatherOne_124 rfl ?_
  refine s_iload C dX1_gatherOne_126 rfl ?_
  refine s_icmpge C dX1_gatherOne_128 rfl (fun hc => ?_) (fun hc => ?_)
  · have h := h.1 hc
    exact s_vreturn C dX1_gatherOne_149 h
  · have h := h.2 hc
    refine s_aload_n C dX1_gatherOne_131 rfl ?_
    refine WA.fix (fun hF1 => ?_)
    refine gf_X1_17 C (sh_9 hF1) dX1_gatherOne_132 (fx_9_1 hF1) ?_
    refine s_iload C dX1_gatherOne_135 rfl ?_
    obtain ⟨o2, h⟩ := h
    obtain ⟨o3, h⟩ := h
    refine s_aald (v0 := (M 10 l7)) (t0 := 6) C (sh_10 hF1) (by decide) rfl o2 o3 dX1_gatherOne_137 rfl ?_
    refine s_iload C dX1_gatherOne_138 rfl ?_
    obtain ⟨o4, h⟩ := h
    refine pf_X1_40 C o4 (fun _ => by decide) dX1_gatherOne_140 ?_
    obtain ⟨o5, h⟩ := h
    refine s_iinc (ls' := [(2, 9), (3, 0), (3, 0), (3, 0), (3, 0), (3, 0), (0, l6), (0, (l7 + 1)), (3, 0), (3, 0)]) C dX1_gatherOne_143 (by decide) rfl o5 rfl rfl ?_
    refine s_goto C dX1_gatherOne_146 rfl ?_
    exact h
set_option maxHeartbeats 4000000 in
set_option maxRecDepth 100000 in
theorem B_X1_gatherOne_47 {G : GP} {X : BX} {P : Int → NS → MM → Prop} {l1 : Int} {l2 : Int} {l3 : Int} {l4 : Int} {l5 : Int} {l6 : Int} {l7 : Int} {l8 : Int} {w : NS} {M : MM} (C : CX_X1_gatherOne G X) (h : (((l2 ≤ l8) → (inR (l7 + 1)) ∧ A_X1_gatherOne_29 G X P l1 l2 l3 l4 l5 l6 (l7 + 1) w M) ∧ ((¬ (l2 ≤ l8)) → (w.2 l1 = (18, 24)) ∧ (0 ≤ l8) ∧ (l8 < 24) ∧ (w.2 (M l1 l8) = (7, 12)) ∧ ((((M (M l1 l8) 8) ≠ (-6)) → (inR (l8 + 1)) ∧ A_X1_gatherOne_47 G X P l1 l2 l3 l4 l5 l6 l7 (l8 + 1) w M) ∧ ((¬ ((M (M l1 l8) 8) ≠ (-6))) → (0 ≤ l7) ∧ (l7 < 24) ∧ ∃ Q10 : Int → NS → MM → Prop, CT_X1_areDoubles G X.2.1 [(2, 9), (2, (M 10 l7)), (2, (M l1 l8)), (0, l4)] w M Q10 ∧ ∀ (z10 : Int) (w10 : NS) (M10 : MM), Q10 z10 w10 M10 → (((z10 = 0) → (inR (l8 + 1)) ∧ A_X1_gatherOne_47 G X P l1 l2 l3 l4 l5 l6 l7 (l8 + 1) w10 M10) ∧ ((¬ (z10 = 0)) → (w10.2 l5 = (7, 12)) ∧ (w10.2 (M l1 l8) = (7, 12)) ∧ (0 ≤ l6) ∧ (l6 < 24) ∧ (inR (l6 + 1)) ∧ (inR (l8 + 1)) ∧ A_X1_gatherOne_47 G X P l1 l2 l3 l4 l5 (l6 + 1) l7 (l8 + 1) w10 (up (up M10 (M l1 l8) 8 (M10 l5 0)) 10 l6 (M l1 l8))))))))) : A_X1_gatherOne_47 G X P l1 l2 l3 l4 l5 l6 l7 l8 w M := by
  unfold A_X1_gatherOne_47
  refine s_iload C dX1_gatherOne_47 rfl ?_
  refine s_iload_n C dX1_gatherOne_49 rfl ?_
  refine s_icmpge C dX1_gatherOne_50 rfl (fun hc => ?_) (fun hc => ?_)
  · have h := h.1 hc
    obtain ⟨o1, h⟩ := h
    refine s_iinc (ls' := [(2, 9), (2, l1), (0, l2), (0, l3), (0, l4), (2, l5), (0, l6), (0, (l7 + 1)), (0, l8), (3, 0)]) C dX1_gatherOne_115 (by decide) rfl o1 rfl rfl ?_
    refine s_goto C dX1_gatherOne_118 rfl ?_
    exact WA.wk h ⟨Or.inr rfl, Or.inr rfl, Or.inr rfl, Or.inr rfl, Or.inr rfl, Or.inr rfl, Or.inr rfl, Or.inr rfl, Or.inl rfl, Or.inl rfl, trivial⟩
  · have h := h.2 hc
    refine s_aload_n C dX1_gatherOne_53 rfl ?_
    refine s_iload C dX1_gatherOne_54 rfl ?_
    obtain ⟨o2, h⟩ := h
    obtain ⟨o3, h⟩ := h
    obtain ⟨o4, h⟩ := h
    refine s_aald (v0 := (M l1 l8)) (t0 := 6) C o2 (by decide) rfl o3 o4 dX1_gatherOne_56 rfl ?_
    refine s_astore (ls' := [(2, 9), (2, l1), (0, l2), (0, l3), (0, l4), (2, l5), (0, l6), (0, l7), (0, l8), (2, (M l1 l8))]) C dX1_gatherOne_57 (by decide) rfl rfl ?_
    refine s_aload C dX1_gatherOne_59 rfl ?_
    obtain ⟨o5, h⟩ := h
    refine gf_X1_25 (v0 := (M (M l1 l8) 8)) C o5 dX1_gatherOne_61 rfl ?_
    refine s_bipush C dX1_gatherOne_64 ⟨rfl, by decide, by decide⟩ ?_
    refine s_icmpne C dX1_gatherOne_66 rfl (fun hc => ?_) (fun hc => ?_)
    · have h := h.1 hc
      obtain ⟨o6, h⟩ := h
      refine s_iinc (ls' := [(2, 9), (2, l1), (0, l2), (0, l3), (0, l4), (2, l5), (0, l6), (0, l7), (0, (l8 + 1)), (2, (M l1 l8))]) C dX1_gatherOne_109 (by decide) rfl o6 rfl rfl ?_
      refine s_goto C dX1_gatherOne_112 rfl ?_
      exact WA.wk h ⟨Or.inr rfl, Or.inr rfl, Or.inr rfl, Or.inr rfl, Or.inr rfl, Or.inr rfl, Or.inr rfl, Or.inr rfl, Or.inr rfl, Or.inl rfl, trivial⟩
    · have h := h.2 hc
      refine s_aload_n C dX1_gatherOne_69 rfl ?_
      refine s_aload_n C dX1_gatherOne_70 rfl ?_
      refine WA.fix (fun hF7 => ?_)
      refine gf_X1_17 C (sh_9 hF7) dX1_gatherOne_71 (fx_9_1 hF7) ?_
      refine s_iload C dX1_gatherOne_74 rfl ?_
      obtain ⟨o8, h⟩ := h
      obtain ⟨o9, h⟩ := h
      refine s_aald (v0 := (M 10 l7)) (t0 := 6) C (sh_10 hF7) (by decide) rfl o8 o9 dX1_gatherOne_76 rfl ?_
      refine s_aload C dX1_gatherOne_77 rfl ?_
      refine s_iload C dX1_gatherOne_79 rfl ?_
      obtain ⟨Q10, hKQ10, h⟩ := h
      refine s_callV (ci := 1) (av := [(2, (M 10 l7)), (2, (M l1 l8)), (0, l4)]) (rest := []) (mc := 0) (ms := 0) C dX1_gatherOne_81 lk_X1_36 (sh_9 hF7) (by decide) rfl rfl rfl (Nat.le_of_ble_eq_true rfl) (by decide) (by decide) hKQ10 (fun z10 w10 M10 hq => ?_)
      have h := h z10 w10 M10 hq
      refine s_ifeq C dX1_gatherOne_84 rfl (fun hc => ?_) (fun hc => ?_)
      · have h := h.1 hc
        obtain ⟨o11, h⟩ := h
        refine s_iinc (ls' := [(2, 9), (2, l1), (0, l2), (0, l3), (0, l4), (2, l5), (0, l6), (0, l7), (0, (l8 + 1)), (2, (M l1 l8))]) C dX1_gatherOne_109 (by decide) rfl o11 rfl rfl ?_
        refine s_goto C dX1_gatherOne_112 rfl ?_
        exact WA.wk h ⟨Or.inr rfl, Or.inr rfl, Or.inr rfl, Or.inr rfl, Or.inr rfl, Or.inr rfl, Or.inr rfl, Or.inr rfl, Or.inr rfl, Or.inl rfl, trivial⟩
      · have h := h.2 hc
        refine s_aload C dX1_gatherOne_87 rfl ?_
        refine s_aload C dX1_gatherOne_89 rfl ?_
        obtain ⟨o12, h⟩ := h
        refine gf_X1_33 (v0 := (M10 l5 0)) C o12 dX1_gatherOne_91 rfl ?_
        obtain ⟨o13, h⟩ := h
        refine pf_X1_25 C o13 (fun _ => by decide) dX1_gatherOne_94 ?_
        refine s_aload_n C dX1_gatherOne_97 rfl ?_
        refine WA.fix (fun hF14 => ?_)
        refine gf_X1_17 C (sh_9 hF14) dX1_gatherOne_98 (fx_9_1 hF14) ?_
        refine s_iload C dX1_gatherOne_101 rfl ?_
        refine s_aload C dX1_gatherOne_103 rfl ?_
        obtain ⟨o15, h⟩ := h
        obtain ⟨o16, h⟩ := h
        refine s_aast (t0 := 6) (ci := 6) C (sh_10 hF14) (by decide) rfl rfl (by decide) o13 o15 o16 (fun _ => by decide) dX1_gatherOne_105 ?_
        obtain ⟨o17, h⟩ := h
        refine s_iinc (ls' := [(2, 9), (2, l1), (0, l2), (0, l3), (0, l4), (2, l5), (0, (l6 + 1)), (0, l7), (0, l8), (2, (M l1 l8))]) C dX1_gatherOne_106 (by decide) rfl o17 rfl rfl ?_
        obtain ⟨o18, h⟩ := h
        refine s_iinc (ls' := [(2, 9), (2, l1), (0, l2), (0, l3), (0, l4), (2, l5), (0, (l6 + 1)), (0, l7), (0, (l8 + 1)), (2, (M l1 l8))]) C dX1_gatherOne_109 (by decide) rfl o18 rfl rfl ?_
        refine s_goto C dX1_gatherOne_112 rfl ?_
        exact WA.wk h ⟨Or.inr rfl, Or.inr rfl, Or.inr rfl, Or.inr rfl, Or.inr rfl, Or.inr rfl, Or.inr rfl, Or.inr rfl, Or.inr rfl, Or.inl rfl, trivial⟩
theorem E_X1_gatherOne {G : GP} {l : Launch} {P : Int → NS → MM → Prop} {l1 : Int} {l2 : Int} {l3 : Int} {l4 : Int} {w : NS} {M : MM} (h : inR l2 → inR l3 → inR l4 → ∀ X : BX, X.2.1 = l → CX_X1_gatherOne G X → A_X1_gatherOne_0 G X P l1 l2 l3 l4 w M) : CT_X1_gatherOne G l [(2, 9), (2, l1), (0, l2), (0, l3), (0, l4)] w M P :=
  CT.of RX1 "gatherOne" (by decide +kernel) rfl rfl rfl (Nat.le_of_ble_eq_true rfl) (fun hr X hX C => h (hr (0, l2) (by simp)) (hr (0, l3) (by simp)) (hr (0, l4) (by simp)) X hX C)
def A_X1_gather_0 (G : GP) (X : BX) (P : Int → NS → MM → Prop) (l1 : Int) (l2 : Int) (l3 : Int) (w : NS) (M : MM) : Prop := WA true G X (QM G X true 4 P) 5 0 [(2, 9), (2, l1), (0, l2), (0, l3), (3, 0)] [] 0 0 w M
def A_X1_gather_11 (G : GP) (X : BX) (P : Int → NS → MM → Prop) (l1 : Int) (l2 : Int) (l3 : Int) (l4 : Int) (w : NS) (M : MM) : Prop := WA true G X (QM G X true 4 P) 5 11 [(2, 9), (2, l1), (0, l2), (0, l3), (0, l4)] [] 0 0 w M
def A_X1_gather_35 (G : GP) (X : BX) (P : Int → NS → MM → Prop) (l1 : Int) (l2 : Int) (l3 : Int) (l4 : Int) (w : NS) (M : MM) : Prop := WA true G X (QM G X true 4 P) 5 35 [(2, 9), (2, l1), (0, l2), (0, l3), (0, l4)] [] 0 0 w M
set_option maxHeartbeats 4000000 in
set_option maxRecDepth 100000 in
theorem B_X1_gather_0 {G : GP} {X : BX} {P : Int → NS → MM → Prop} {l1 : Int} {l2 : Int} {l3 : Int} {w : NS} {M : MM} (C : CX_X1_gather G X) (h : ((((M 9 0) = 0) → A_X1_gather_11 G X P l1 l2 l3 0 w M) ∧ ((¬ ((M 9 0) = 0)) → P 0 w M))) : A_X1_gather_0 G X P l1 l2 l3 w M := by
  unfold A_X1_gather_0
  refine s_aload_n C dX1_gather_0 rfl ?_
  refine WA.fix (fun hF1 => ?_)
  refine gf_X1_9 (v0 := (M 9 0)) C (sh_9 hF1) dX1_gather_1 rfl ?_
  refine s_ifeq C dX1_gather_4 rfl (fun hc => ?_) (fun hc => ?_)
  · have h := h.1 hc
    refine s_iconst C dX1_gather_8 (by decide) ?_
    refine s_istore (ls' := [(2, 9), (2, l1), (0, l2), (0, l3), (0, 0)]) C dX1_gather_9 (by decide) rfl rfl ?_
    exact h
  · have h := h.2 hc
    exact s_vreturn C dX1_gather_7 h
set_option maxHeartbeats 4000000 in
set_option maxRecDepth 100000 in
theorem B_X1_gather_11 {G : GP} {X : BX} {P : Int → NS → MM → Prop} {l1 : Int} {l2 : Int} {l3 : Int} {l4 : Int} {w : NS} {M : MM} (C : CX_X1_gather G X) (h : (((l2 ≤ l4) → A_X1_gather_35 G X P l1 l2 l3 0 w M) ∧ ((¬ (l2 ≤ l4)) → (w.2 l1 = (18, 24)) ∧ (0 ≤ l4) ∧ (l4 < 24) ∧ (w.2 (M l1 l4) = (7, 12)) ∧ (inR (l4 + 1)) ∧ A_X1_gather_11 G X P l1 l2 l3 (l4 + 1) w (up M (M l1 l4) 8 (-6))))) : A_X1_gather_11 G X P l1 l2 l3 l4 w M := by
  unfold A_X1_gather_11
  refine s_iload C dX1_gather_11 rfl ?_
  refine s_iload_n C dX1_gather_13 rfl ?_
  refine s_icmpge C dX1_gather_14 rfl (fun hc => ?_) (fun hc => ?_)
  · have h := h.1 hc
    refine s_iconst C dX1_gather_32 (by decide) ?_
    refine s_istore (ls' := [(2, 9), (2, l1), (0, l2), (0, l3), (0, 0)]) C dX1_gather_33 (by decide) rfl rfl ?_
    exact h
  · have h := h.2 hc
    refine s_aload_n C dX1_gather_17 rfl ?_
    refine s_iload C dX1_gather_18 rfl ?_
    obtain ⟨o1, h⟩ := h
    obtain ⟨o2, h⟩ := h
    obtain ⟨o3, h⟩ := h
    refine s_aald (v0 := (M l1 l4)) (t0 := 6) C o1 (by decide) rfl o2 o3 dX1_gather_20 rfl ?_
    refine s_bipush C dX1_gather_21 ⟨rfl, by decide, by decide⟩ ?_
    obtain ⟨o4, h⟩ := h
    refine pf_X1_25 C o4 (fun _ => by decide) dX1_gather_23 ?_
    obtain ⟨o5, h⟩ := h
    refine s_iinc (ls' := [(2, 9), (2, l1), (0, l2), (0, l3), (0, (l4 + 1))]) C dX1_gather_26 (by decide) rfl o5 rfl rfl ?_
    refine s_goto C dX1_gather_29 rfl ?_
    exact h
set_option maxHeartbeats 4000000 in
set_option maxRecDepth 100000 in
theorem B_X1_gather_35 {G : GP} {X : BX} {P : Int → NS → MM → Prop} {l1 : Int} {l2 : Int} {l3 : Int} {l4 : Int} {w : NS} {M : MM} (C : CX_X1_gather G X) (h : (((l2 ≤ l4) → P 0 w (up M 9 0 1)) ∧ ((¬ (l2 ≤ l4)) → (w.2 l1 = (18, 24)) ∧ (0 ≤ l4) ∧ (l4 < 24) ∧ (w.2 (M l1 l4) = (7, 12)) ∧ ((((M (M l1 l4) 8) ≠ (-6)) → (inR (l4 + 1)) ∧ A_X1_gather_35 G X P l1 l2 l3 (l4 + 1) w M) ∧ ((¬ ((M (M l1 l4) 8) ≠ (-6))) → ∃ Q8 : Int → NS → MM → Prop, CT_X1_gatherOne G X.2.1 [(2, 9), (2, l1), (0, l2), (0, l4), (0, l3)] w M Q8 ∧ ∀ (z8 : Int) (w8 : NS) (M8 : MM), Q8 z8 w8 M8 → (inR (l4 + 1)) ∧ A_X1_gather_35 G X P l1 l2 l3 (l4 + 1) w8 M8))))) : A_X1_gather_35 G X P l1 l2 l3 l4 w M := by
  unfold A_X1_gather_35
  refine s_iload C dX1_gather_35 rfl ?_
  refine s_iload_n C dX1_gather_37 rfl ?_
  refine s_icmpge C dX1_gather_38 rfl (fun hc => ?_) (fun hc => ?_)
  · have h := h.1 hc
    refine s_aload_n C dX1_gather_68 rfl ?_
    refine s_iconst C dX1_gather_69 (by decide) ?_
    refine WA.fix (fun hF1 => ?_)
    refine pf_X1_9 C (sh_9 hF1) (by decide) (fun _ => by decide) dX1_gather_70 ?_
    exact s_vreturn C dX1_gather_73 h
  · have h := h.2 hc
    refine s_aload_n C dX1_gather_41 rfl ?_
    refine s_iload C dX1_gather_42 rfl ?_
    obtain ⟨o2, h⟩ := h
    obtain ⟨o3, h⟩ := h
    obtain ⟨o4, h⟩ := h
    refine s_aald (v0 := (M l1 l4)) (t0 := 6) C o2 (by decide) rfl o3 o4 dX1_gather_44 rfl ?_
    obtain ⟨o5, h⟩ := h
    refine gf_X1_25 (v0 := (M (M l1 l4) 8)) C o5 dX1_gather_45 rfl ?_
    refine s_bipush C dX1_gather_48 ⟨rfl, by decide, by decide⟩ ?_
    refine s_icmpne C dX1_gather_50 rfl (fun hc => ?_) (fun hc => ?_)
    · have h := h.1 hc
      obtain ⟨o6, h⟩ := h
      refine s_iinc (ls' := [(2, 9), (2, l1), (0, l2), (0, l3), (0, (l4 + 1))]) C dX1_gather_62 (by decide) rfl o6 rfl rfl ?_
      refine s_goto C dX1_gather_65 rfl ?_
      exact h
    · have h := h.2 hc
      refine s_aload_n C dX1_gather_53 rfl ?_
      refine s_aload_n C dX1_gather_54 rfl ?_
      refine s_iload_n C dX1_gather_55 rfl ?_
      refine s_iload C dX1_gather_56 rfl ?_
      refine s_iload_n C dX1_gather_58 rfl ?_
      refine WA.fix (fun hF7 => ?_)
      obtain ⟨Q8, hKQ8, h⟩ := h
      refine s_callV (ci := 1) (av := [(2, l1), (0, l2), (0, l4), (0, l3)]) (rest := []) (mc := 0) (ms := 0) C dX1_gather_59 lk_X1_29 (sh_9 hF7) (by decide) rfl rfl rfl (Nat.le_of_ble_eq_true rfl) (by decide) (by decide) hKQ8 (fun z8 w8 M8 hq => ?_)
      have h := h z8 w8 M8 hq
      obtain ⟨o9, h⟩ := h
      refine s_iinc (ls' := [(2, 9), (2, l1), (0, l2), (0, l3), (0, (l4 + 1))]) C dX1_gather_62 (by decide) rfl o9 rfl rfl ?_
      refine s_goto C dX1_gather_65 rfl ?_
      exact h
theorem E_X1_gather {G : GP} {l : Launch} {P : Int → NS → MM → Prop} {l1 : Int} {l2 : Int} {l3 : Int} {w : NS} {M : MM} (h : inR l2 → inR l3 → ∀ X : BX, X.2.1 = l → CX_X1_gather G X → A_X1_gather_0 G X P l1 l2 l3 w M) : CT_X1_gather G l [(2, 9), (2, l1), (0, l2), (0, l3)] w M P :=
  CT.of RX1 "gather" (by decide +kernel) rfl rfl rfl (Nat.le_of_ble_eq_true rfl) (fun hr X hX C => h (hr (0, l2) (by simp)) (hr (0, l3) (by simp)) X hX C)
def A_X9_about_0 (G : GP) (X : BX) (P : Int → NS → MM → Prop) (l1 : Int) (l2 : Int) (w : NS) (M : MM) : Prop := WA true G X (QM G X true 0 P) 4 0 [(2, 1), (0, l1), (0, l2), (3, 0)] [] 0 0 w M
set_option maxHeartbeats 4000000 in
set_option maxRecDepth 100000 in
theorem B_X9_about_0 {G : GP} {X : BX} {P : Int → NS → MM → Prop} {l1 : Int} {l2 : Int} {w : NS} {M : MM} (C : CX_X9_about G X) (h : (0 ≤ M 1 4) ∧ (M 1 4 ≤ 24) ∧ ((((pcO M l1) ≠ 0) → (((l2 = 4) → ∃ Q5 : Int → NS → MM → Prop, CT_X1_gather G X.2.1 [(2, 9), (2, 5), (0, (M 1 4)), (0, (M 2 0))] w M Q5 ∧ ∀ (z5 : Int) (w5 : NS) (M5 : MM), Q5 z5 w5 M5 → (((l2 < 0 ∨ 5 < l2) → P (-2) w5 M5) ∧ (l2 = 0 → (w5.2 (pcO M l1) = (7, 12)) ∧ (w5.2 (M5 (pcO M l1) 1) = (5, 5)) ∧ P (M5 (M5 (pcO M l1) 1) 0) w5 M5) ∧ (l2 = 1 → (w5.2 (pcO M l1) = (7, 12)) ∧ P (M5 (pcO M l1) 7) w5 M5) ∧ (l2 = 2 → (w5.2 (pcO M l1) = (7, 12)) ∧ P (M5 (pcO M l1) 10) w5 M5) ∧ (l2 = 3 → (w5.2 (pcO M l1) = (7, 12)) ∧ P (M5 (pcO M l1) 11) w5 M5) ∧ (l2 = 4 → (w5.2 (pcO M l1) = (7, 12)) ∧ P (M5 (pcO M l1) 8) w5 M5) ∧ (l2 = 5 → (w5.2 (pcO M l1) = (7, 12)) ∧ P (M5 (pcO M l1) 9) w5 M5))) ∧ ((¬ (l2 = 4)) → (((l2 ≠ 5) → (((l2 < 0 ∨ 5 < l2) → P (-2) w M) ∧ (l2 = 0 → (w.2 (pcO M l1) = (7, 12)) ∧ (w.2 (M (pcO M l1) 1) = (5, 5)) ∧ P (M (M (pcO M l1) 1) 0) w M) ∧ (l2 = 1 → (w.2 (pcO M l1) = (7, 12)) ∧ P (M (pcO M l1) 7) w M) ∧ (l2 = 2 → (w.2 (pcO M l1) = (7, 12)) ∧ P (M (pcO M l1) 10) w M) ∧ (l2 = 3 → (w.2 (pcO M l1) = (7, 12)) ∧ P (M (pcO M l1) 11) w M) ∧ (l2 = 4 → (w.2 (pcO M l1) = (7, 12)) ∧ P (M (pcO M l1) 8) w M) ∧ (l2 = 5 → (w.2 (pcO M l1) = (7, 12)) ∧ P (M (pcO M l1) 9) w M))) ∧ ((¬ (l2 ≠ 5)) → ∃ Q20 : Int → NS → MM → Prop, CT_X1_gather G X.2.1 [(2, 9), (2, 5), (0, (M 1 4)), (0, (M 2 0))] w M Q20 ∧ ∀ (z20 : Int) (w20 : NS) (M20 : MM), Q20 z20 w20 M20 → (((l2 < 0 ∨ 5 < l2) → P (-2) w20 M20) ∧ (l2 = 0 → (w20.2 (pcO M l1) = (7, 12)) ∧ (w20.2 (M20 (pcO M l1) 1) = (5, 5)) ∧ P (M20 (M20 (pcO M l1) 1) 0) w20 M20) ∧ (l2 = 1 → (w20.2 (pcO M l1) = (7, 12)) ∧ P (M20 (pcO M l1) 7) w20 M20) ∧ (l2 = 2 → (w20.2 (pcO M l1) = (7, 12)) ∧ P (M20 (pcO M l1) 10) w20 M20) ∧ (l2 = 3 → (w20.2 (pcO M l1) = (7, 12)) ∧ P (M20 (pcO M l1) 11) w20 M20) ∧ (l2 = 4 → (w20.2 (pcO M l1) = (7, 12)) ∧ P (M20 (pcO M l1) 8) w20 M20) ∧ (l2 = 5 → (w20.2 (pcO M l1) = (7, 12)) ∧ P (M20 (pcO M l1) 9) w20 M20))))))) ∧ ((¬ ((pcO M l1) ≠ 0)) → P (-1) w M))) : A_X9_about_0 G X P l1 l2 w M := by
  unfold A_X9_about_0
  refine s_aload_n C dX9_about_0 rfl ?_
  refine s_iload_n C dX9_about_1 rfl ?_
  refine WA.fix (fun hF1 => ?_)
  obtain ⟨o2, h⟩ := h
  obtain ⟨o3, h⟩ := h
  refine s_callV (ci := 9) (av := [(0, l1)]) (rest := []) (mc := 0) (ms := 0) C dX9_about_2 lk_X9_158 (sh_1 hF1) (by decide) rfl rfl rfl (Nat.le_of_ble_eq_true rfl) (by decide) (by decide) (pc_X9_pieceOf o2 o3) (fun z4 wz4 Mz4 hq => ?_)
  obtain ⟨hq1, hq2, hq3⟩ := hq
  have hq2 := hq2.symm
  have hq3 := hq3.symm
  subst hq1 hq2 hq3
  refine s_astore_n (ls' := [(2, 1), (0, l1), (0, l2), (2, (pcO M l1))]) C dX9_about_5 (by decide) rfl rfl ?_
  refine s_aload_n C dX9_about_6 rfl ?_
  refine s_ifnonnull C dX9_about_7 rfl (fun hc => ?_) (fun hc => ?_)
  · have h := h.1 hc
    refine s_iload_n C dX9_about_12 rfl ?_
    refine s_iconst C dX9_about_13 (by decide) ?_
    refine s_icmpeq C dX9_about_14 rfl (fun hc => ?_) (fun hc => ?_)
    · have h := h.1 hc
      refine s_aload_n C dX9_about_22 rfl ?_
      refine gf_X9_54 C (sh_1 hF1) dX9_about_23 (fx_1_9 hF1) ?_
      refine s_aload_n C dX9_about_26 rfl ?_
      refine gf_X9_32 C (sh_1 hF1) dX9_about_27 (fx_1_5 hF1) ?_
      refine s_aload_n C dX9_about_30 rfl ?_
      refine gf_X9_29 (v0 := (M 1 4)) C (sh_1 hF1) dX9_about_31 rfl ?_
      refine s_aload_n C dX9_about_34 rfl ?_
      refine gf_X9_7 C (sh_1 hF1) dX9_about_35 (fx_1_0 hF1) ?_
      refine s_iconst C dX9_about_38 (by decide) ?_
      refine s_iald (v0 := (M 2 0)) C (sh_2 hF1) (by decide) (by decide) dX9_about_39 rfl ?_
      obtain ⟨Q5, hKQ5, h⟩ := h
      refine s_callV (ci := 1) (av := [(2, 5), (0, (M 1 4)), (0, (M 2 0))]) (rest := []) (mc := 0) (ms := 0) C dX9_about_40 lk_X9_162 (sh_9 hF1) (by decide) rfl rfl rfl (Nat.le_of_ble_eq_true rfl) (by decide) (by decide) hKQ5 (fun z5 w5 M5 hq => ?_)
      have h := h z5 w5 M5 hq
      refine s_iload_n C dX9_about_43 rfl ?_
      rcases (show (l2 < 0 ∨ 5 < l2) ∨ l2 = 0 ∨ l2 = 1 ∨ l2 = 2 ∨ l2 = 3 ∨ l2 = 4 ∨ l2 = 5 from by omega) with hc | hc | hc | hc | hc | hc | hc
      · have h := h.1 hc
        refine s_tabOut C dX9_about_44 hc rfl ?_
        refine s_bipush C dX9_about_117 ⟨rfl, by decide, by decide⟩ ?_
        exact s_ireturn C dX9_about_119 h
      · have h := h.2.1 hc
        refine s_tabIn C dX9_about_44 hc (by decide) (by decide) rfl rfl ?_
        refine s_aload_n C dX9_about_84 rfl ?_
        obtain ⟨o6, h⟩ := h
        refine gf_X9_166 (v0 := (M5 (pcO M l1) 1)) C o6 dX9_about_85 rfl ?_
        obtain ⟨o7, h⟩ := h
        refine gf_X9_138 (v0 := (M5 (M5 (pcO M l1) 1) 0)) C o7 dX9_about_88 rfl ?_
        exact s_ireturn C dX9_about_91 h
      · have h := h.2.2.1 hc
        refine s_tabIn C dX9_about_44 hc (by decide) (by decide) rfl rfl ?_
        refine s_aload_n C dX9_about_92 rfl ?_
        obtain ⟨o8, h⟩ := h
        refine gf_X9_169 (v0 := (M5 (pcO M l1) 7)) C o8 dX9_about_93 rfl ?_
        exact s_ireturn C dX9_about_96 h
      · have h := h.2.2.2.1 hc
        refine s_tabIn C dX9_about_44 hc (by decide) (by decide) rfl rfl ?_
        refine s_aload_n C dX9_about_97 rfl ?_
        obtain ⟨o9, h⟩ := h
        refine gf_X9_172 (v0 := (M5 (pcO M l1) 10)) C o9 dX9_about_98 rfl ?_
        exact s_ireturn C dX9_about_101 h
      · have h := h.2.2.2.2.1 hc
        refine s_tabIn C dX9_about_44 hc (by decide) (by decide) rfl rfl ?_
        refine s_aload_n C dX9_about_102 rfl ?_
        obtain ⟨o10, h⟩ := h
        refine gf_X9_174 (v0 := (M5 (pcO M l1) 11)) C o10 dX9_about_103 rfl ?_
        exact s_ireturn C dX9_about_106 h
      · have h := h.2.2.2.2.2.1 hc
        refine s_tabIn C dX9_about_44 hc (by decide) (by decide) rfl rfl ?_
        refine s_aload_n C dX9_about_107 rfl ?_
        obtain ⟨o11, h⟩ := h
        refine gf_X9_177 (v0 := (M5 (pcO M l1) 8)) C o11 dX9_about_108 rfl ?_
        exact s_ireturn C dX9_about_111 h
      · have h := h.2.2.2.2.2.2 hc
        refine s_tabIn C dX9_about_44 hc (by decide) (by decide) rfl rfl ?_
        refine s_aload_n C dX9_about_112 rfl ?_
        obtain ⟨o12, h⟩ := h
        refine gf_X9_180 (v0 := (M5 (pcO M l1) 9)) C o12 dX9_about_113 rfl ?_
        exact s_ireturn C dX9_about_116 h
    · have h := h.2 hc
      refine s_iload_n C dX9_about_17 rfl ?_
      refine s_iconst C dX9_about_18 (by decide) ?_
      refine s_icmpne C dX9_about_19 rfl (fun hc => ?_) (fun hc => ?_)
      · have h := h.1 hc
        refine s_iload_n C dX9_about_43 rfl ?_
        rcases (show (l2 < 0 ∨ 5 < l2) ∨ l2 = 0 ∨ l2 = 1 ∨ l2 = 2 ∨ l2 = 3 ∨ l2 = 4 ∨ l2 = 5 from by omega) with hc | hc | hc | hc | hc | hc | hc
        · have h := h.1 hc
          refine s_tabOut C dX9_about_44 hc rfl ?_
          refine s_bipush C dX9_about_117 ⟨rfl, by decide, by decide⟩ ?_
          exact s_ireturn C dX9_about_119 h
        · have h := h.2.1 hc
          refine s_tabIn C dX9_about_44 hc (by decide) (by decide) rfl rfl ?_
          refine s_aload_n C dX9_about_84 rfl ?_
          obtain ⟨o13, h⟩ := h
          refine gf_X9_166 (v0 := (M (pcO M l1) 1)) C o13 dX9_about_85 rfl ?_
          obtain ⟨o14, h⟩ := h
          refine gf_X9_138 (v0 := (M (M (pcO M l1) 1) 0)) C o14 dX9_about_88 rfl ?_
          exact s_ireturn C dX9_about_91 h
        · have h := h.2.2.1 hc
          refine s_tabIn C dX9_about_44 hc (by decide) (by decide) rfl rfl ?_
          refine s_aload_n C dX9_about_92 rfl ?_
          obtain ⟨o15, h⟩ := h
          refine gf_X9_169 (v0 := (M (pcO M l1) 7)) C o15 dX9_about_93 rfl ?_
          exact s_ireturn C dX9_about_96 h
        · have h := h.2.2.2.1 hc
          refine s_tabIn C dX9_about_44 hc (by decide) (by decide) rfl rfl ?_
          refine s_aload_n C dX9_about_97 rfl ?_
          obtain ⟨o16, h⟩ := h
          refine gf_X9_172 (v0 := (M (pcO M l1) 10)) C o16 dX9_about_98 rfl ?_
          exact s_ireturn C dX9_about_101 h
        · have h := h.2.2.2.2.1 hc
          refine s_tabIn C dX9_about_44 hc (by decide) (by decide) rfl rfl ?_
          refine s_aload_n C dX9_about_102 rfl ?_
          obtain ⟨o17, h⟩ := h
          refine gf_X9_174 (v0 := (M (pcO M l1) 11)) C o17 dX9_about_103 rfl ?_
          exact s_ireturn C dX9_about_106 h
        · have h := h.2.2.2.2.2.1 hc
          refine s_tabIn C dX9_about_44 hc (by decide) (by decide) rfl rfl ?_
          refine s_aload_n C dX9_about_107 rfl ?_
          obtain ⟨o18, h⟩ := h
          refine gf_X9_177 (v0 := (M (pcO M l1) 8)) C o18 dX9_about_108 rfl ?_
          exact s_ireturn C dX9_about_111 h
        · have h := h.2.2.2.2.2.2 hc
          refine s_tabIn C dX9_about_44 hc (by decide) (by decide) rfl rfl ?_
          refine s_aload_n C dX9_about_112 rfl ?_
          obtain ⟨o19, h⟩ := h
          refine gf_X9_180 (v0 := (M (pcO M l1) 9)) C o19 dX9_about_113 rfl ?_
          exact s_ireturn C dX9_about_116 h
      · have h := h.2 hc
        refine s_aload_n C dX9_about_22 rfl ?_
        refine gf_X9_54 C (sh_1 hF1) dX9_about_23 (fx_1_9 hF1) ?_
        refine s_aload_n C dX9_about_26 rfl ?_
        refine gf_X9_32 C (sh_1 hF1) dX9_about_27 (fx_1_5 hF1) ?_
        refine s_aload_n C dX9_about_30 rfl ?_
        refine gf_X9_29 (v0 := (M 1 4)) C (sh_1 hF1) dX9_about_31 rfl ?_
        refine s_aload_n C dX9_about_34 rfl ?_
        refine gf_X9_7 C (sh_1 hF1) dX9_about_35 (fx_1_0 hF1) ?_
        refine s_iconst C dX9_about_38 (by decide) ?_
        refine s_iald (v0 := (M 2 0)) C (sh_2 hF1) (by decide) (by decide) dX9_about_39 rfl ?_
        obtain ⟨Q20, hKQ20, h⟩ := h
        refine s_callV (ci := 1) (av := [(2, 5), (0, (M 1 4)), (0, (M 2 0))]) (rest := []) (mc := 0) (ms := 0) C dX9_about_40 lk_X9_162 (sh_9 hF1) (by decide) rfl rfl rfl (Nat.le_of_ble_eq_true rfl) (by decide) (by decide) hKQ20 (fun z20 w20 M20 hq => ?_)
        have h := h z20 w20 M20 hq
        refine s_iload_n C dX9_about_43 rfl ?_
        rcases (show (l2 < 0 ∨ 5 < l2) ∨ l2 = 0 ∨ l2 = 1 ∨ l2 = 2 ∨ l2 = 3 ∨ l2 = 4 ∨ l2 = 5 from by omega) with hc | hc | hc | hc | hc | hc | hc
        · have h := h.1 hc
          refine s_tabOut C dX9_about_44 hc rfl ?_
          refine s_bipush C dX9_about_117 ⟨rfl, by decide, by decide⟩ ?_
          exact s_ireturn C dX9_about_119 h
        · have h := h.2.1 hc
          refine s_tabIn C dX9_about_44 hc (by decide) (by decide) rfl rfl ?_
          refine s_aload_n C dX9_about_84 rfl ?_
          obtain ⟨o21, h⟩ := h
          refine gf_X9_166 (v0 := (M20 (pcO M l1) 1)) C o21 dX9_about_85 rfl ?_
          obtain ⟨o22, h⟩ := h
          refine gf_X9_138 (v0 := (M20 (M20 (pcO M l1) 1) 0)) C o22 dX9_about_88 rfl ?_
          exact s_ireturn C dX9_about_91 h
        · have h := h.2.2.1 hc
          refine s_tabIn C dX9_about_44 hc (by decide) (by decide) rfl rfl ?_
          refine s_aload_n C dX9_about_92 rfl ?_
          obtain ⟨o23, h⟩ := h
          refine gf_X9_169 (v0 := (M20 (pcO M l1) 7)) C o23 dX9_about_93 rfl ?_
          exact s_ireturn C dX9_about_96 h
        · have h := h.2.2.2.1 hc
          refine s_tabIn C dX9_about_44 hc (by decide) (by decide) rfl rfl ?_
          refine s_aload_n C dX9_about_97 rfl ?_
          obtain ⟨o24, h⟩ := h
          refine gf_X9_172 (v0 := (M20 (pcO M l1) 10)) C o24 dX9_about_98 rfl ?_
          exact s_ireturn C dX9_about_101 h
        · have h := h.2.2.2.2.1 hc
          refine s_tabIn C dX9_about_44 hc (by decide) (by decide) rfl rfl ?_
          refine s_aload_n C dX9_about_102 rfl ?_
          obtain ⟨o25, h⟩ := h
          refine gf_X9_174 (v0 := (M20 (pcO M l1) 11)) C o25 dX9_about_103 rfl ?_
          exact s_ireturn C dX9_about_106 h
        · have h := h.2.2.2.2.2.1 hc
          refine s_tabIn C dX9_about_44 hc (by decide) (by decide) rfl rfl ?_
          refine s_aload_n C dX9_about_107 rfl ?_
          obtain ⟨o26, h⟩ := h
          refine gf_X9_177 (v0 := (M20 (pcO M l1) 8)) C o26 dX9_about_108 rfl ?_
          exact s_ireturn C dX9_about_111 h
        · have h := h.2.2.2.2.2.2 hc
          refine s_tabIn C dX9_about_44 hc (by decide) (by decide) rfl rfl ?_
          refine s_aload_n C dX9_about_112 rfl ?_
          obtain ⟨o27, h⟩ := h
          refine gf_X9_180 (v0 := (M20 (pcO M l1) 9)) C o27 dX9_about_113 rfl ?_
          exact s_ireturn C dX9_about_116 h
  · have h := h.2 hc
    refine s_iconst C dX9_about_10 (by decide) ?_
    exact s_ireturn C dX9_about_11 h
theorem E_X9_about {G : GP} {l : Launch} {P : Int → NS → MM → Prop} {l1 : Int} {l2 : Int} {w : NS} {M : MM} (h : inR l1 → inR l2 → ∀ X : BX, X.2.1 = l → CX_X9_about G X → A_X9_about_0 G X P l1 l2 w M) : CT_X9_about G l [(2, 1), (0, l1), (0, l2)] w M P :=
  CT.of RX9 "about" (by decide +kernel) rfl rfl rfl (Nat.le_of_ble_eq_true rfl) (fun hr X hX C => h (hr (0, l1) (by simp)) (hr (0, l2) (by simp)) X hX C)
def A_X9_word_0 (G : GP) (X : BX) (P : Int → NS → MM → Prop) (l1 : Int) (l2 : Int) (w : NS) (M : MM) : Prop := WA true G X (QM G X true 0 P) 4 0 [(2, 1), (0, l1), (0, l2), (3, 0)] [] 0 0 w M
set_option maxHeartbeats 4000000 in
set_option maxRecDepth 100000 in
theorem B_X9_word_0 {G : GP} {X : BX} {P : Int → NS → MM → Prop} {l1 : Int} {l2 : Int} {w : NS} {M : MM} (C : CX_X9_word G X) (h : (0 ≤ M 1 4) ∧ (M 1 4 ≤ 24) ∧ ((((pcO M l1) ≠ 0) → (w.2 (pcO M l1) = (7, 12)) ∧ (inR ((M (pcO M l1) 7) - 1)) ∧ (((¬ (0 ≤ l2 ∧ l2 ≤ ((M (pcO M l1) 7) - 1))) → P (-6) w M) ∧ (((0 ≤ l2 ∧ l2 ≤ ((M (pcO M l1) 7) - 1))) → (0 ≤ l2) ∧ (l2 < 60) ∧ P (M ((pcO M l1) + 1) l2) w M))) ∧ ((¬ ((pcO M l1) ≠ 0)) → P (-1) w M))) : A_X9_word_0 G X P l1 l2 w M := by
  unfold A_X9_word_0
  refine s_aload_n C dX9_word_0 rfl ?_
  refine s_iload_n C dX9_word_1 rfl ?_
  refine WA.fix (fun hF1 => ?_)
  obtain ⟨o2, h⟩ := h
  obtain ⟨o3, h⟩ := h
  refine s_callV (ci := 9) (av := [(0, l1)]) (rest := []) (mc := 0) (ms := 0) C dX9_word_2 lk_X9_158 (sh_1 hF1) (by decide) rfl rfl rfl (Nat.le_of_ble_eq_true rfl) (by decide) (by decide) (pc_X9_pieceOf o2 o3) (fun z4 wz4 Mz4 hq => ?_)
  obtain ⟨hq1, hq2, hq3⟩ := hq
  have hq2 := hq2.symm
  have hq3 := hq3.symm
  subst hq1 hq2 hq3
  refine s_astore_n (ls' := [(2, 1), (0, l1), (0, l2), (2, (pcO M l1))]) C dX9_word_5 (by decide) rfl rfl ?_
  refine s_aload_n C dX9_word_6 rfl ?_
  refine s_ifnonnull C dX9_word_7 rfl (fun hc => ?_) (fun hc => ?_)
  · have h := h.1 hc
    refine s_iload_n C dX9_word_12 rfl ?_
    refine s_iconst C dX9_word_13 (by decide) ?_
    refine s_aload_n C dX9_word_14 rfl ?_
    obtain ⟨o5, h⟩ := h
    refine gf_X9_169 (v0 := (M (pcO M l1) 7)) C o5 dX9_word_15 rfl ?_
    refine s_iconst C dX9_word_18 (by decide) ?_
    obtain ⟨o6, h⟩ := h
    refine s_isub C dX9_word_19 o6 ?_
    refine s_callS (av := [(0, l2), (0, 0), (0, ((M (pcO M l1) 7) - 1))]) (rest := []) (mc := 0) (ms := 0) C dX9_word_20 lk_X9_95 rfl rfl (Nat.le_of_ble_eq_true rfl) (by decide) (by decide) (pc_X9_within) (fun z7 wz7 Mz7 hq => ?_)
    obtain ⟨hq1, hq2, hq3⟩ := hq
    have hq2 := hq2.symm
    have hq3 := hq3.symm
    subst hq1 hq2 hq3
    refine s_ifeq C dX9_word_23 rfl (fun hc => ?_) (fun hc => ?_)
    · have h := h.1 (b2i_0.mp hc)
      refine s_bipush C dX9_word_35 ⟨rfl, by decide, by decide⟩ ?_
      exact s_ireturn C dX9_word_37 h
    · have h := h.2 (b2i_n0 hc)
      refine s_aload_n C dX9_word_26 rfl ?_
      have hd8 := FixA.dy (t := 7) (n := 12) (k := 6) (m := 60) hF1 (by decide) o5
      refine gf_X9_183 C o5 dX9_word_27 hd8.1 ?_
      refine s_iload_n C dX9_word_30 rfl ?_
      obtain ⟨o9, h⟩ := h
      obtain ⟨o10, h⟩ := h
      refine s_iald (v0 := (M ((pcO M l1) + 1) l2)) C hd8.2 o9 o10 dX9_word_31 rfl ?_
      refine s_goto C dX9_word_32 rfl ?_
      exact s_ireturn C dX9_word_37 h
  · have h := h.2 hc
    refine s_iconst C dX9_word_10 (by decide) ?_
    exact s_ireturn C dX9_word_11 h
theorem E_X9_word {G : GP} {l : Launch} {P : Int → NS → MM → Prop} {l1 : Int} {l2 : Int} {w : NS} {M : MM} (h : inR l1 → inR l2 → ∀ X : BX, X.2.1 = l → CX_X9_word G X → A_X9_word_0 G X P l1 l2 w M) : CT_X9_word G l [(2, 1), (0, l1), (0, l2)] w M P :=
  CT.of RX9 "word" (by decide +kernel) rfl rfl rfl (Nat.le_of_ble_eq_true rfl) (fun hr X hX C => h (hr (0, l1) (by simp)) (hr (0, l2) (by simp)) X hX C)
def A_X6_clashesWith_0 (G : GP) (X : BX) (P : Int → NS → MM → Prop) (l0 : Int) (l1 : Int) (w : NS) (M : MM) : Prop := WA true G X (QM G X true 0 P) 3 0 [(2, l0), (2, l1), (3, 0)] [] 0 0 w M
set_option maxHeartbeats 4000000 in
set_option maxRecDepth 100000 in
theorem B_X6_clashesWith_0 {G : GP} {X : BX} {P : Int → NS → MM → Prop} {l0 : Int} {l1 : Int} {w : NS} {M : MM} (C : CX_X6_clashesWith G X) (h : (w.2 l0 = (7, 12)) ∧ (w.2 l1 = (7, 12)) ∧ ((((M l1 3) < (M l0 2)) → P 0 w M) ∧ ((¬ ((M l1 3) < (M l0 2))) → ((((M l1 2) ≤ (M l0 3)) → (0 ≤ (M l0 1)) ∧ (0 ≤ (M l1 1)) ∧ ((((M l0 1) ≠ (M l1 1)) → (w.2 (M l0 1) = (5, 5)) ∧ (0 ≤ (M (M l0 1) 4)) ∧ ((((M (M l0 1) 4) ≠ (M l1 1)) → P 0 w M) ∧ ((¬ ((M (M l0 1) 4) ≠ (M l1 1))) → (inR (9 - (M l1 4))) ∧ ((((9 - (M l1 4)) < (M l0 4)) → P 0 w M) ∧ ((¬ ((9 - (M l1 4)) < (M l0 4))) → (inR (9 - (M l1 5))) ∧ ((((M l0 5) < (9 - (M l1 5))) → P 0 w M) ∧ ((¬ ((M l0 5) < (9 - (M l1 5)))) → P 1 w M))))))) ∧ ((¬ ((M l0 1) ≠ (M l1 1))) → ((((M l1 5) < (M l0 4)) → P 0 w M) ∧ ((¬ ((M l1 5) < (M l0 4))) → ((((M l0 5) < (M l1 4)) → P 0 w M) ∧ ((¬ ((M l0 5) < (M l1 4))) → P 1 w M))))))) ∧ ((¬ ((M l1 2) ≤ (M l0 3))) → P 0 w M))))) : A_X6_clashesWith_0 G X P l0 l1 w M := by
  unfold A_X6_clashesWith_0
  refine s_aload_n C dX6_clashesWith_0 rfl ?_
  obtain ⟨o1, h⟩ := h
  refine gf_X6_38 (v0 := (M l0 2)) C o1 dX6_clashesWith_1 rfl ?_
  refine s_aload_n C dX6_clashesWith_4 rfl ?_
  obtain ⟨o2, h⟩ := h
  refine gf_X6_41 (v0 := (M l1 3)) C o2 dX6_clashesWith_5 rfl ?_
  refine s_icmpgt C dX6_clashesWith_8 rfl (fun hc => ?_) (fun hc => ?_)
  · have h := h.1 hc
    refine s_iconst C dX6_clashesWith_22 (by decide) ?_
    exact s_zreturn C dX6_clashesWith_23 (by decide) h
  · have h := h.2 hc
    refine s_aload_n C dX6_clashesWith_11 rfl ?_
    refine gf_X6_38 (v0 := (M l1 2)) C o2 dX6_clashesWith_12 rfl ?_
    refine s_aload_n C dX6_clashesWith_15 rfl ?_
    refine gf_X6_41 (v0 := (M l0 3)) C o1 dX6_clashesWith_16 rfl ?_
    refine s_icmple C dX6_clashesWith_19 rfl (fun hc => ?_) (fun hc => ?_)
    · have h := h.1 hc
      refine s_aload_n C dX6_clashesWith_24 rfl ?_
      refine gf_X6_34 (v0 := (M l0 1)) C o1 dX6_clashesWith_25 rfl ?_
      refine s_aload_n C dX6_clashesWith_28 rfl ?_
      refine gf_X6_34 (v0 := (M l1 1)) C o2 dX6_clashesWith_29 rfl ?_
      obtain ⟨o3, h⟩ := h
      obtain ⟨o4, h⟩ := h
      refine s_acmpne C dX6_clashesWith_32 rfl o3 o4 (fun hc => ?_) (fun hc => ?_)
      · have h := h.1 hc
        refine s_bipush C dX6_clashesWith_63 ⟨rfl, by decide, by decide⟩ ?_
        refine s_istore_n (ls' := [(2, l0), (2, l1), (0, 9)]) C dX6_clashesWith_65 (by decide) rfl rfl ?_
        refine s_aload_n C dX6_clashesWith_66 rfl ?_
        refine gf_X6_34 (v0 := (M l0 1)) C o1 dX6_clashesWith_67 rfl ?_
        obtain ⟨o5, h⟩ := h
        refine gf_X6_53 (v0 := (M (M l0 1) 4)) C o5 dX6_clashesWith_70 rfl ?_
        refine s_aload_n C dX6_clashesWith_73 rfl ?_
        refine gf_X6_34 (v0 := (M l1 1)) C o2 dX6_clashesWith_74 rfl ?_
        obtain ⟨o6, h⟩ := h
        refine s_acmpne C dX6_clashesWith_77 rfl o6 o4 (fun hc => ?_) (fun hc => ?_)
        · have h := h.1 hc
          refine s_iconst C dX6_clashesWith_110 (by decide) ?_
          exact s_zreturn C dX6_clashesWith_111 (by decide) h
        · have h := h.2 hc
          refine s_aload_n C dX6_clashesWith_80 rfl ?_
          refine gf_X6_44 (v0 := (M l0 4)) C o1 dX6_clashesWith_81 rfl ?_
          refine s_iload_n C dX6_clashesWith_84 rfl ?_
          refine s_aload_n C dX6_clashesWith_85 rfl ?_
          refine gf_X6_44 (v0 := (M l1 4)) C o2 dX6_clashesWith_86 rfl ?_
          obtain ⟨o7, h⟩ := h
          refine s_isub C dX6_clashesWith_89 o7 ?_
          refine s_icmpgt C dX6_clashesWith_90 rfl (fun hc => ?_) (fun hc => ?_)
          · have h := h.1 hc
            refine s_iconst C dX6_clashesWith_110 (by decide) ?_
            exact s_zreturn C dX6_clashesWith_111 (by decide) h
          · have h := h.2 hc
            refine s_iload_n C dX6_clashesWith_93 rfl ?_
            refine s_aload_n C dX6_clashesWith_94 rfl ?_
            refine gf_X6_47 (v0 := (M l1 5)) C o2 dX6_clashesWith_95 rfl ?_
            obtain ⟨o8, h⟩ := h
            refine s_isub C dX6_clashesWith_98 o8 ?_
            refine s_aload_n C dX6_clashesWith_99 rfl ?_
            refine gf_X6_47 (v0 := (M l0 5)) C o1 dX6_clashesWith_100 rfl ?_
            refine s_icmpgt C dX6_clashesWith_103 rfl (fun hc => ?_) (fun hc => ?_)
            · have h := h.1 hc
              refine s_iconst C dX6_clashesWith_110 (by decide) ?_
              exact s_zreturn C dX6_clashesWith_111 (by decide) h
            · have h := h.2 hc
              refine s_iconst C dX6_clashesWith_106 (by decide) ?_
              refine s_goto C dX6_clashesWith_107 rfl ?_
              exact s_zreturn C dX6_clashesWith_111 (by decide) h
      · have h := h.2 hc
        refine s_aload_n C dX6_clashesWith_35 rfl ?_
        refine gf_X6_44 (v0 := (M l0 4)) C o1 dX6_clashesWith_36 rfl ?_
        refine s_aload_n C dX6_clashesWith_39 rfl ?_
        refine gf_X6_47 (v0 := (M l1 5)) C o2 dX6_clashesWith_40 rfl ?_
        refine s_icmpgt C dX6_clashesWith_43 rfl (fun hc => ?_) (fun hc => ?_)
        · have h := h.1 hc
          refine s_iconst C dX6_clashesWith_61 (by decide) ?_
          exact s_zreturn C dX6_clashesWith_62 (by decide) h
        · have h := h.2 hc
          refine s_aload_n C dX6_clashesWith_46 rfl ?_
          refine gf_X6_44 (v0 := (M l1 4)) C o2 dX6_clashesWith_47 rfl ?_
          refine s_aload_n C dX6_clashesWith_50 rfl ?_
          refine gf_X6_47 (v0 := (M l0 5)) C o1 dX6_clashesWith_51 rfl ?_
          refine s_icmpgt C dX6_clashesWith_54 rfl (fun hc => ?_) (fun hc => ?_)
          · have h := h.1 hc
            refine s_iconst C dX6_clashesWith_61 (by decide) ?_
            exact s_zreturn C dX6_clashesWith_62 (by decide) h
          · have h := h.2 hc
            refine s_iconst C dX6_clashesWith_57 (by decide) ?_
            refine s_goto C dX6_clashesWith_58 rfl ?_
            exact s_zreturn C dX6_clashesWith_62 (by decide) h
    · have h := h.2 hc
      refine s_iconst C dX6_clashesWith_22 (by decide) ?_
      exact s_zreturn C dX6_clashesWith_23 (by decide) h
theorem E_X6_clashesWith {G : GP} {l : Launch} {P : Int → NS → MM → Prop} {l0 : Int} {l1 : Int} {w : NS} {M : MM} (h : ∀ X : BX, X.2.1 = l → CX_X6_clashesWith G X → A_X6_clashesWith_0 G X P l0 l1 w M) : CT_X6_clashesWith G l [(2, l0), (2, l1)] w M P :=
  CT.of RX6 "clashesWith" (by decide +kernel) rfl rfl rfl (Nat.le_of_ble_eq_true rfl) (fun hr X hX C => h  X hX C)
def A_X9_clash_0 (G : GP) (X : BX) (P : Int → NS → MM → Prop) (l1 : Int) (l2 : Int) (w : NS) (M : MM) : Prop := WA true G X (QM G X true 0 P) 5 0 [(2, 1), (0, l1), (0, l2), (3, 0), (3, 0)] [] 0 0 w M
set_option maxHeartbeats 4000000 in
set_option maxRecDepth 100000 in
theorem B_X9_clash_0 {G : GP} {X : BX} {P : Int → NS → MM → Prop} {l1 : Int} {l2 : Int} {w : NS} {M : MM} (C : CX_X9_clash G X) (h : (0 ≤ M 1 4) ∧ (M 1 4 ≤ 24) ∧ ((((pcO M l1) = 0) → P (-1) w M) ∧ ((¬ ((pcO M l1) = 0)) → ((((pcO M l2) ≠ 0) → (w.2 (pcO M l1) = (7, 12)) ∧ ∃ Q7 : Int → NS → MM → Prop, CT_X6_clashesWith G X.2.1 [(2, (pcO M l1)), (2, (pcO M l2))] w M Q7 ∧ ∀ (z7 : Int) (w7 : NS) (M7 : MM), Q7 z7 w7 M7 → P (b2i (z7 ≠ 0)) w7 M7) ∧ ((¬ ((pcO M l2) ≠ 0)) → P (-1) w M))))) : A_X9_clash_0 G X P l1 l2 w M := by
  unfold A_X9_clash_0
  refine s_aload_n C dX9_clash_0 rfl ?_
  refine s_iload_n C dX9_clash_1 rfl ?_
  refine WA.fix (fun hF1 => ?_)
  obtain ⟨o2, h⟩ := h
  obtain ⟨o3, h⟩ := h
  refine s_callV (ci := 9) (av := [(0, l1)]) (rest := []) (mc := 0) (ms := 0) C dX9_clash_2 lk_X9_158 (sh_1 hF1) (by decide) rfl rfl rfl (Nat.le_of_ble_eq_true rfl) (by decide) (by decide) (pc_X9_pieceOf o2 o3) (fun z4 wz4 Mz4 hq => ?_)
  obtain ⟨hq1, hq2, hq3⟩ := hq
  have hq2 := hq2.symm
  have hq3 := hq3.symm
  subst hq1 hq2 hq3
  refine s_astore_n (ls' := [(2, 1), (0, l1), (0, l2), (2, (pcO M l1)), (3, 0)]) C dX9_clash_5 (by decide) rfl rfl ?_
  refine s_aload_n C dX9_clash_6 rfl ?_
  refine s_iload_n C dX9_clash_7 rfl ?_
  refine s_callV (ci := 9) (av := [(0, l2)]) (rest := []) (mc := 0) (ms := 0) C dX9_clash_8 lk_X9_158 (sh_1 hF1) (by decide) rfl rfl rfl (Nat.le_of_ble_eq_true rfl) (by decide) (by decide) (pc_X9_pieceOf o2 o3) (fun z5 wz5 Mz5 hq => ?_)
  obtain ⟨hq1, hq2, hq3⟩ := hq
  have hq2 := hq2.symm
  have hq3 := hq3.symm
  subst hq1 hq2 hq3
  refine s_astore (ls' := [(2, 1), (0, l1), (0, l2), (2, (pcO M l1)), (2, (pcO M l2))]) C dX9_clash_11 (by decide) rfl rfl ?_
  refine s_aload_n C dX9_clash_13 rfl ?_
  refine s_ifnull C dX9_clash_14 rfl (fun hc => ?_) (fun hc => ?_)
  · have h := h.1 hc
    refine s_iconst C dX9_clash_22 (by decide) ?_
    exact s_ireturn C dX9_clash_23 h
  · have h := h.2 hc
    refine s_aload C dX9_clash_17 rfl ?_
    refine s_ifnonnull C dX9_clash_19 rfl (fun hc => ?_) (fun hc => ?_)
    · have h := h.1 hc
      refine s_aload_n C dX9_clash_24 rfl ?_
      refine s_aload C dX9_clash_25 rfl ?_
      obtain ⟨o6, h⟩ := h
      obtain ⟨Q7, hKQ7, h⟩ := h
      refine s_callV (ci := 6) (av := [(2, (pcO M l2))]) (rest := []) (mc := 0) (ms := 0) C dX9_clash_27 lk_X9_184 o6 (by decide) rfl rfl rfl (Nat.le_of_ble_eq_true rfl) (by decide) (by decide) hKQ7 (fun z7 w7 M7 hq => ?_)
      have h := h z7 w7 M7 hq
      refine s_callS (av := [(0, z7)]) (rest := []) (mc := 0) (ms := 0) C dX9_clash_30 lk_X9_188 rfl rfl (Nat.le_of_ble_eq_true rfl) (by decide) (by decide) (pc_X9_oneIf) (fun z8 wz8 Mz8 hq => ?_)
      obtain ⟨hq1, hq2, hq3⟩ := hq
      have hq2 := hq2.symm
      have hq3 := hq3.symm
      subst hq1 hq2 hq3
      exact s_ireturn C dX9_clash_33 h
    · have h := h.2 hc
      refine s_iconst C dX9_clash_22 (by decide) ?_
      exact s_ireturn C dX9_clash_23 h
theorem E_X9_clash {G : GP} {l : Launch} {P : Int → NS → MM → Prop} {l1 : Int} {l2 : Int} {w : NS} {M : MM} (h : inR l1 → inR l2 → ∀ X : BX, X.2.1 = l → CX_X9_clash G X → A_X9_clash_0 G X P l1 l2 w M) : CT_X9_clash G l [(2, 1), (0, l1), (0, l2)] w M P :=
  CT.of RX9 "clash" (by decide +kernel) rfl rfl rfl (Nat.le_of_ble_eq_true rfl) (fun hr X hX C => h (hr (0, l1) (by simp)) (hr (0, l2) (by simp)) X hX C)
def A_X9_say_0 (G : GP) (X : BX) (P : Int → NS → MM → Prop) (l1 : Int) (w : NS) (M : MM) : Prop := WA true G X (QM G X true 0 P) 2 0 [(2, 1), (0, l1)] [] 0 0 w M
set_option maxHeartbeats 4000000 in
set_option maxRecDepth 100000 in
theorem B_X9_say_0 {G : GP} {X : BX} {P : Int → NS → MM → Prop} {l1 : Int} {w : NS} {M : MM} (C : CX_X9_say G X) (h : ((((33 ≤ l1 ∧ l1 ≤ 126)) → (w.2 (M 1 8) = (9, 2)) ∧ ((((M (M 1 8) 1) < 40) → (0 ≤ (M (M 1 8) 1)) ∧ ((M (M 1 8) 1) < 40) ∧ (w.2 ((up M ((M 1 8) + 1) (M (M 1 8) 1) l1) 1 8) = (9, 2)) ∧ (inR (((up M ((M 1 8) + 1) (M (M 1 8) 1) l1) ((up M ((M 1 8) + 1) (M (M 1 8) 1) l1) 1 8) 1) + 1)) ∧ (w.2 ((up (up M ((M 1 8) + 1) (M (M 1 8) 1) l1) ((up M ((M 1 8) + 1) (M (M 1 8) 1) l1) 1 8) 1 (((up M ((M 1 8) + 1) (M (M 1 8) 1) l1) ((up M ((M 1 8) + 1) (M (M 1 8) 1) l1) 1 8) 1) + 1)) 1 8) = (9, 2)) ∧ P ((up (up M ((M 1 8) + 1) (M (M 1 8) 1) l1) ((up M ((M 1 8) + 1) (M (M 1 8) 1) l1) 1 8) 1 (((up M ((M 1 8) + 1) (M (M 1 8) 1) l1) ((up M ((M 1 8) + 1) (M (M 1 8) 1) l1) 1 8) 1) + 1)) ((up (up M ((M 1 8) + 1) (M (M 1 8) 1) l1) ((up M ((M 1 8) + 1) (M (M 1 8) 1) l1) 1 8) 1 (((up M ((M 1 8) + 1) (M (M 1 8) 1) l1) ((up M ((M 1 8) + 1) (M (M 1 8) 1) l1) 1 8) 1) + 1)) 1 8) 1) w (up (up M ((M 1 8) + 1) (M (M 1 8) 1) l1) ((up M ((M 1 8) + 1) (M (M 1 8) 1) l1) 1 8) 1 (((up M ((M 1 8) + 1) (M (M 1 8) 1) l1) ((up M ((M 1 8) + 1) (M (M 1 8) 1) l1) 1 8) 1) + 1))) ∧ ((¬ ((M (M 1 8) 1) < 40)) → P (-4) w M))) ∧ ((¬ (33 ≤ l1 ∧ l1 ≤ 126)) → P (-2) w M))) : A_X9_say_0 G X P l1 w M := by
  unfold A_X9_say_0
  refine s_iload_n C dX9_say_0 rfl ?_
  refine s_bipush C dX9_say_1 ⟨rfl, by decide, by decide⟩ ?_
  refine s_bipush C dX9_say_3 ⟨rfl, by decide, by decide⟩ ?_
  refine s_callS (av := [(0, l1), (0, 33), (0, 126)]) (rest := []) (mc := 0) (ms := 0) C dX9_say_5 lk_X9_95 rfl rfl (Nat.le_of_ble_eq_true rfl) (by decide) (by decide) (pc_X9_within) (fun z1 wz1 Mz1 hq => ?_)
  obtain ⟨hq1, hq2, hq3⟩ := hq
  have hq2 := hq2.symm
  have hq3 := hq3.symm
  subst hq1 hq2 hq3
  refine s_ifne C dX9_say_8 rfl (fun hc => ?_) (fun hc => ?_)
  · have h := h.1 (b2i_n0 hc)
    refine s_aload_n C dX9_say_14 rfl ?_
    refine WA.fix (fun hF2 => ?_)
    refine gf_X9_47 (v0 := (M 1 8)) C (sh_1 hF2) dX9_say_15 rfl ?_
    obtain ⟨o3, h⟩ := h
    refine gf_X9_192 (v0 := (M (M 1 8) 1)) C o3 dX9_say_18 rfl ?_
    refine s_bipush C dX9_say_21 ⟨rfl, by decide, by decide⟩ ?_
    refine s_icmplt C dX9_say_23 rfl (fun hc => ?_) (fun hc => ?_)
    · have h := h.1 hc
      refine s_aload_n C dX9_say_29 rfl ?_
      refine gf_X9_47 (v0 := (M 1 8)) C (sh_1 hF2) dX9_say_30 rfl ?_
      have hd4 := FixA.dy (t := 9) (n := 2) (k := 0) (m := 40) hF2 (by decide) o3
      refine gf_X9_195 C o3 dX9_say_33 hd4.1 ?_
      refine s_aload_n C dX9_say_36 rfl ?_
      refine gf_X9_47 (v0 := (M 1 8)) C (sh_1 hF2) dX9_say_37 rfl ?_
      refine gf_X9_192 (v0 := (M (M 1 8) 1)) C o3 dX9_say_40 rfl ?_
      refine s_iload_n C dX9_say_43 rfl ?_
      obtain ⟨o5, h⟩ := h
      obtain ⟨o6, h⟩ := h
      refine s_iast C hd4.2 o5 o6 (fun _ => by decide) dX9_say_44 ?_
      refine s_aload_n C dX9_say_45 rfl ?_
      refine gf_X9_47 (v0 := ((up M ((M 1 8) + 1) (M (M 1 8) 1) l1) 1 8)) C (sh_1 hF2) dX9_say_46 rfl ?_
      refine s_dup C (by simp) dX9_say_49 ?_
      obtain ⟨o7, h⟩ := h
      refine gf_X9_192 (v0 := ((up M ((M 1 8) + 1) (M (M 1 8) 1) l1) ((up M ((M 1 8) + 1) (M (M 1 8) 1) l1) 1 8) 1)) C o7 dX9_say_50 rfl ?_
      refine s_iconst C dX9_say_53 (by decide) ?_
      obtain ⟨o8, h⟩ := h
      refine s_iadd C dX9_say_54 o8 ?_
      refine pf_X9_192 C o7 (fun _ => by decide) dX9_say_55 ?_
      refine s_aload_n C dX9_say_58 rfl ?_
      refine gf_X9_47 (v0 := ((up (up M ((M 1 8) + 1) (M (M 1 8) 1) l1) ((up M ((M 1 8) + 1) (M (M 1 8) 1) l1) 1 8) 1 (((up M ((M 1 8) + 1) (M (M 1 8) 1) l1) ((up M ((M 1 8) + 1) (M (M 1 8) 1) l1) 1 8) 1) + 1)) 1 8)) C (sh_1 hF2) dX9_say_59 rfl ?_
      obtain ⟨o9, h⟩ := h
      refine gf_X9_192 (v0 := ((up (up M ((M 1 8) + 1) (M (M 1 8) 1) l1) ((up M ((M 1 8) + 1) (M (M 1 8) 1) l1) 1 8) 1 (((up M ((M 1 8) + 1) (M (M 1 8) 1) l1) ((up M ((M 1 8) + 1) (M (M 1 8) 1) l1) 1 8) 1) + 1)) ((up (up M ((M 1 8) + 1) (M (M 1 8) 1) l1) ((up M ((M 1 8) + 1) (M (M 1 8) 1) l1) 1 8) 1 (((up M ((M 1 8) + 1) (M (M 1 8) 1) l1) ((up M ((M 1 8) + 1) (M (M 1 8) 1) l1) 1 8) 1) + 1)) 1 8) 1)) C o9 dX9_say_62 rfl ?_
      exact s_ireturn C dX9_say_65 h
    · have h := h.2 hc
      refine s_bipush C dX9_say_26 ⟨rfl, by decide, by decide⟩ ?_
      exact s_ireturn C dX9_say_28 h
  · have h := h.2 (b2i_nn hc)
    refine s_bipush C dX9_say_11 ⟨rfl, by decide, by decide⟩ ?_
    exact s_ireturn C dX9_say_13 h
theorem E_X9_say {G : GP} {l : Launch} {P : Int → NS → MM → Prop} {l1 : Int} {w : NS} {M : MM} (h : inR l1 → ∀ X : BX, X.2.1 = l → CX_X9_say G X → A_X9_say_0 G X P l1 w M) : CT_X9_say G l [(2, 1), (0, l1)] w M P :=
  CT.of RX9 "say" (by decide +kernel) rfl rfl rfl (Nat.le_of_ble_eq_true rfl) (fun hr X hX C => h (hr (0, l1) (by simp)) X hX C)
def A_X9_wipe_0 (G : GP) (X : BX) (P : Int → NS → MM → Prop) (w : NS) (M : MM) : Prop := WA true G X (QM G X true 0 P) 2 0 [(2, 1), (3, 0)] [] 0 0 w M
set_option maxHeartbeats 4000000 in
set_option maxRecDepth 100000 in
theorem B_X9_wipe_0 {G : GP} {X : BX} {P : Int → NS → MM → Prop} {w : NS} {M : MM} (C : CX_X9_wipe G X) (h : (w.2 (M 1 8) = (9, 2)) ∧ P (M (M 1 8) 1) w (up M (M 1 8) 1 0)) : A_X9_wipe_0 G X P w M := by
  unfold A_X9_wipe_0
  refine s_aload_n C dX9_wipe_0 rfl ?_
  refine WA.fix (fun hF1 => ?_)
  refine gf_X9_47 (v0 := (M 1 8)) C (sh_1 hF1) dX9_wipe_1 rfl ?_
  obtain ⟨o2, h⟩ := h
  refine gf_X9_192 (v0 := (M (M 1 8) 1)) C o2 dX9_wipe_4 rfl ?_
  refine s_istore_n (ls' := [(2, 1), (0, (M (M 1 8) 1))]) C dX9_wipe_7 (by decide) rfl rfl ?_
  refine s_aload_n C dX9_wipe_8 rfl ?_
  refine gf_X9_47 (v0 := (M 1 8)) C (sh_1 hF1) dX9_wipe_9 rfl ?_
  refine s_iconst C dX9_wipe_12 (by decide) ?_
  refine pf_X9_192 C o2 (fun _ => by decide) dX9_wipe_13 ?_
  refine s_iload_n C dX9_wipe_16 rfl ?_
  exact s_ireturn C dX9_wipe_17 h
theorem E_X9_wipe {G : GP} {l : Launch} {P : Int → NS → MM → Prop} {w : NS} {M : MM} (h : ∀ X : BX, X.2.1 = l → CX_X9_wipe G X → A_X9_wipe_0 G X P w M) : CT_X9_wipe G l [(2, 1)] w M P :=
  CT.of RX9 "wipe" (by decide +kernel) rfl rfl rfl (Nat.le_of_ble_eq_true rfl) (fun hr X hX C => h  X hX C)
def A_X8_stateAfterItem_0 (G : GP) (X : BX) (P : Int → NS → MM → Prop) (l0 : Int) (l1 : Int) (w : NS) (M : MM) : Prop := WA true G X (QM G X true 0 P) 2 0 [(0, l0), (0, l1)] [] 0 0 w M
set_option maxHeartbeats 4000000 in
set_option maxRecDepth 100000 in
theorem B_X8_stateAfterItem_0 {G : GP} {X : BX} {P : Int → NS → MM → Prop} {l0 : Int} {l1 : Int} {w : NS} {M : MM} (C : CX_X8_stateAfterItem G X) (h : (((l0 = 38) → P 0 w M) ∧ ((¬ (l0 = 38)) → (((l0 ≠ 124) → (((l0 ≠ 41) → P (-1) w M) ∧ ((¬ (l0 ≠ 41)) → (((l1 ≤ 0) → P (-1) w M) ∧ ((¬ (l1 ≤ 0)) → P 8 w M))))) ∧ ((¬ (l0 ≠ 124)) → P 0 w M))))) : A_X8_stateAfterItem_0 G X P l0 l1 w M := by
  unfold A_X8_stateAfterItem_0
  refine s_iload_n C dX8_stateAfterItem_0 rfl ?_
  refine s_bipush C dX8_stateAfterItem_1 ⟨rfl, by decide, by decide⟩ ?_
  refine s_icmpeq C dX8_stateAfterItem_3 rfl (fun hc => ?_) (fun hc => ?_)
  · have h := h.1 hc
    refine s_iconst C dX8_stateAfterItem_12 (by decide) ?_
    exact s_ireturn C dX8_stateAfterItem_13 h
  · have h := h.2 hc
    refine s_iload_n C dX8_stateAfterItem_6 rfl ?_
    refine s_bipush C dX8_stateAfterItem_7 ⟨rfl, by decide, by decide⟩ ?_
    refine s_icmpne C dX8_stateAfterItem_9 rfl (fun hc => ?_) (fun hc => ?_)
    · have h := h.1 hc
      refine s_iload_n C dX8_stateAfterItem_14 rfl ?_
      refine s_bipush C dX8_stateAfterItem_15 ⟨rfl, by decide, by decide⟩ ?_
      refine s_icmpne C dX8_stateAfterItem_17 rfl (fun hc => ?_) (fun hc => ?_)
      · have h := h.1 hc
        refine s_iconst C dX8_stateAfterItem_29 (by decide) ?_
        exact s_ireturn C dX8_stateAfterItem_30 h
      · have h := h.2 hc
        refine s_iload_n C dX8_stateAfterItem_20 rfl ?_
        refine s_ifle C dX8_stateAfterItem_21 rfl (fun hc => ?_) (fun hc => ?_)
        · have h := h.1 hc
          refine s_iconst C dX8_stateAfterItem_29 (by decide) ?_
          exact s_ireturn C dX8_stateAfterItem_30 h
        · have h := h.2 hc
          refine s_bipush C dX8_stateAfterItem_24 ⟨rfl, by decide, by decide⟩ ?_
          refine s_goto C dX8_stateAfterItem_26 rfl ?_
          exact s_ireturn C dX8_stateAfterItem_30 h
    · have h := h.2 hc
      refine s_iconst C dX8_stateAfterItem_12 (by decide) ?_
      exact s_ireturn C dX8_stateAfterItem_13 h
theorem E_X8_stateAfterItem {G : GP} {l : Launch} {P : Int → NS → MM → Prop} {l0 : Int} {l1 : Int} {w : NS} {M : MM} (h : inR l0 → inR l1 → ∀ X : BX, X.2.1 = l → CX_X8_stateAfterItem G X → A_X8_stateAfterItem_0 G X P l0 l1 w M) : CT_X8_stateAfterItem G l [(0, l0), (0, l1)] w M P :=
  CT.of RX8 "stateAfterItem" (by decide +kernel) rfl rfl rfl (Nat.le_of_ble_eq_true rfl) (fun hr X hX C => h (hr (0, l0) (by simp)) (hr (0, l1) (by simp)) X hX C)
def A_X8_stateAfterWord_0 (G : GP) (X : BX) (P : Int → NS → MM → Prop) (l0 : Int) (l1 : Int) (w : NS) (M : MM) : Prop := WA true G X (QM G X true 0 P) 2 0 [(0, l0), (0, l1)] [] 0 0 w M
set_option maxHeartbeats 4000000 in
set_option maxRecDepth 100000 in
theorem B_X8_stateAfterWord_0 {G : GP} {X : BX} {P : Int → NS → MM → Prop} {l0 : Int} {l1 : Int} {w : NS} {M : MM} (C : CX_X8_stateAfterWord G X) (h : (((l0 ≠ 126) → (((l0 ≠ 62) → ∃ Q1 : Int → NS → MM → Prop, CT_X8_stateAfterItem G X.2.1 [(0, l0), (0, l1)] w M Q1 ∧ ∀ (z1 : Int) (w1 : NS) (M1 : MM), Q1 z1 w1 M1 → P z1 w1 M1) ∧ ((¬ (l0 ≠ 62)) → P 7 w M))) ∧ ((¬ (l0 ≠ 126)) → P 3 w M))) : A_X8_stateAfterWord_0 G X P l0 l1 w M := by
  unfold A_X8_stateAfterWord_0
  refine s_iload_n C dX8_stateAfterWord_0 rfl ?_
  refine s_bipush C dX8_stateAfterWord_1 ⟨rfl, by decide, by decide⟩ ?_
  refine s_icmpne C dX8_stateAfterWord_3 rfl (fun hc => ?_) (fun hc => ?_)
  · have h := h.1 hc
    refine s_iload_n C dX8_stateAfterWord_8 rfl ?_
    refine s_bipush C dX8_stateAfterWord_9 ⟨rfl, by decide, by decide⟩ ?_
    refine s_icmpne C dX8_stateAfterWord_11 rfl (fun hc => ?_) (fun hc => ?_)
    · have h := h.1 hc
      refine s_iload_n C dX8_stateAfterWord_19 rfl ?_
      refine s_iload_n C dX8_stateAfterWord_20 rfl ?_
      obtain ⟨Q1, hKQ1, h⟩ := h
      refine s_callS (av := [(0, l0), (0, l1)]) (rest := []) (mc := 0) (ms := 0) C dX8_stateAfterWord_21 lk_X8_27 rfl rfl (Nat.le_of_ble_eq_true rfl) (by decide) (by decide) hKQ1 (fun z1 w1 M1 hq => ?_)
      have h := h z1 w1 M1 hq
      exact s_ireturn C dX8_stateAfterWord_24 h
    · have h := h.2 hc
      refine s_bipush C dX8_stateAfterWord_14 ⟨rfl, by decide, by decide⟩ ?_
      refine s_goto C dX8_stateAfterWord_16 rfl ?_
      exact s_ireturn C dX8_stateAfterWord_24 h
  · have h := h.2 hc
    refine s_iconst C dX8_stateAfterWord_6 (by decide) ?_
    exact s_ireturn C dX8_stateAfterWord_7 h
theorem E_X8_stateAfterWord {G : GP} {l : Launch} {P : Int → NS → MM → Prop} {l0 : Int} {l1 : Int} {w : NS} {M : MM} (h : inR l0 → inR l1 → ∀ X : BX, X.2.1 = l → CX_X8_stateAfterWord G X → A_X8_stateAfterWord_0 G X P l0 l1 w M) : CT_X8_stateAfterWord G l [(0, l0), (0, l1)] w M P :=
  CT.of RX8 "stateAfterWord" (by decide +kernel) rfl rfl rfl (Nat.le_of_ble_eq_true rfl) (fun hr X hX C => h (hr (0, l0) (by simp)) (hr (0, l1) (by simp)) X hX C)
def A_X8_stateAfter_0 (G : GP) (X : BX) (P : Int → NS → MM → Prop) (l0 : Int) (l1 : Int) (l2 : Int) (w : NS) (M : MM) : Prop := WA true G X (QM G X true 0 P) 4 0 [(0, l0), (0, l1), (0, l2), (3, 0)] [] 0 0 w M
set_option maxHeartbeats 4000000 in
set_option maxRecDepth 100000 in
theorem B_X8_stateAfter_0 {G : GP} {X : BX} {P : Int → NS → MM → Prop} {l0 : Int} {l1 : Int} {l2 : Int} {w : NS} {M : MM} (C : CX_X8_stateAfter G X) (h : (((l1 < 48) → (((l0 < 0 ∨ 7 < l0) → ∃ Q1 : Int → NS → MM → Prop, CT_X8_stateAfterItem G X.2.1 [(0, l1), (0, l2)] w M Q1 ∧ ∀ (z1 : Int) (w1 : NS) (M1 : MM), Q1 z1 w1 M1 → P z1 w1 M1) ∧ (l0 = 0 → (((l1 = 33) → P 0 w M) ∧ ((¬ (l1 = 33)) → (((l1 ≠ 40) → P (-1) w M) ∧ ((¬ (l1 ≠ 40)) → (((8 ≤ l2) → P (-1) w M) ∧ ((¬ (8 ≤ l2)) → P 0 w M))))))) ∧ (l0 = 1 → ∃ Q2 : Int → NS → MM → Prop, CT_X8_stateAfterWord G X.2.1 [(0, l1), (0, l2)] w M Q2 ∧ ∀ (z2 : Int) (w2 : NS) (M2 : MM), Q2 z2 w2 M2 → P z2 w2 M2) ∧ (l0 = 2 → ∃ Q3 : Int → NS → MM → Prop, CT_X8_stateAfterWord G X.2.1 [(0, l1), (0, l2)] w M Q3 ∧ ∀ (z3 : Int) (w3 : NS) (M3 : MM), Q3 z3 w3 M3 → P z3 w3 M3) ∧ (l0 = 3 → P (-1) w M) ∧ (l0 = 4 → (((l1 ≠ 58) → P (-1) w M) ∧ ((¬ (l1 ≠ 58)) → P 5 w M))) ∧ (l0 = 5 → P (-1) w M) ∧ (l0 = 6 → ∃ Q4 : Int → NS → MM → Prop, CT_X8_stateAfterItem G X.2.1 [(0, l1), (0, l2)] w M Q4 ∧ ∀ (z4 : Int) (w4 : NS) (M4 : MM), Q4 z4 w4 M4 → P z4 w4 M4) ∧ (l0 = 7 → P (-1) w M))) ∧ ((¬ (l1 < 48)) → (((57 < l1) → (((l0 < 0 ∨ 7 < l0) → ∃ Q5 : Int → NS → MM → Prop, CT_X8_stateAfterItem G X.2.1 [(0, l1), (0, l2)] w M Q5 ∧ ∀ (z5 : Int) (w5 : NS) (M5 : MM), Q5 z5 w5 M5 → P z5 w5 M5) ∧ (l0 = 0 → (((l1 = 33) → P 0 w M) ∧ ((¬ (l1 = 33)) → (((l1 ≠ 40) → P (-1) w M) ∧ ((¬ (l1 ≠ 40)) → (((8 ≤ l2) → P (-1) w M) ∧ ((¬ (8 ≤ l2)) → P 0 w M))))))) ∧ (l0 = 1 → ∃ Q6 : Int → NS → MM → Prop, CT_X8_stateAfterWord G X.2.1 [(0, l1), (0, l2)] w M Q6 ∧ ∀ (z6 : Int) (w6 : NS) (M6 : MM), Q6 z6 w6 M6 → P z6 w6 M6) ∧ (l0 = 2 → ∃ Q7 : Int → NS → MM → Prop, CT_X8_stateAfterWord G X.2.1 [(0, l1), (0, l2)] w M Q7 ∧ ∀ (z7 : Int) (w7 : NS) (M7 : MM), Q7 z7 w7 M7 → P z7 w7 M7) ∧ (l0 = 3 → P (-1) w M) ∧ (l0 = 4 → (((l1 ≠ 58) → P (-1) w M) ∧ ((¬ (l1 ≠ 58)) → P 5 w M))) ∧ (l0 = 5 → P (-1) w M) ∧ (l0 = 6 → ∃ Q8 : Int → NS → MM → Prop, CT_X8_stateAfterItem G X.2.1 [(0, l1), (0, l2)] w M Q8 ∧ ∀ (z8 : Int) (w8 : NS) (M8 : MM), Q8 z8 w8 M8 → P z8 w8 M8) ∧ (l0 = 7 → P (-1) w M))) ∧ ((¬ (57 < l1)) → (((l0 < 0 ∨ 7 < l0) → ∃ Q9 : Int → NS → MM → Prop, CT_X8_stateAfterItem G X.2.1 [(0, l1), (0, l2)] w M Q9 ∧ ∀ (z9 : Int) (w9 : NS) (M9 : MM), Q9 z9 w9 M9 → P z9 w9 M9) ∧ (l0 = 0 → (((l1 = 33) → P 0 w M) ∧ ((¬ (l1 = 33)) → (((l1 ≠ 40) → P 1 w M) ∧ ((¬ (l1 ≠ 40)) → (((8 ≤ l2) → P 1 w M) ∧ ((¬ (8 ≤ l2)) → P 0 w M))))))) ∧ (l0 = 1 → P 2 w M) ∧ (l0 = 2 → ∃ Q10 : Int → NS → MM → Prop, CT_X8_stateAfterWord G X.2.1 [(0, l1), (0, l2)] w M Q10 ∧ ∀ (z10 : Int) (w10 : NS) (M10 : MM), Q10 z10 w10 M10 → P z10 w10 M10) ∧ (l0 = 3 → P 4 w M) ∧ (l0 = 4 → (((l1 ≠ 58) → P (-1) w M) ∧ ((¬ (l1 ≠ 58)) → P 5 w M))) ∧ (l0 = 5 → P 6 w M) ∧ (l0 = 6 → P 8 w M) ∧ (l0 = 7 → P 8 w M))))))) : A_X8_stateAfter_0 G X P l0 l1 l2 w M := by
  unfold A_X8_stateAfter_0
  refine s_iload_n C dX8_stateAfter_0 rfl ?_
  refine s_bipush C dX8_stateAfter_1 ⟨rfl, by decide, by decide⟩ ?_
  refine s_icmplt C dX8_stateAfter_3 rfl (fun hc => ?_) (fun hc => ?_)
  · have h := h.1 hc
    refine s_iconst C dX8_stateAfter_16 (by decide) ?_
    refine s_istore_n (ls' := [(0, l0), (0, l1), (0, l2), (0, 0)]) C dX8_stateAfter_17 (by decide) rfl rfl ?_
    refine s_iload_n C dX8_stateAfter_18 rfl ?_
    rcases (show (l0 < 0 ∨ 7 < l0) ∨ l0 = 0 ∨ l0 = 1 ∨ l0 = 2 ∨ l0 = 3 ∨ l0 = 4 ∨ l0 = 5 ∨ l0 = 6 ∨ l0 = 7 from by omega) with hc | hc | hc | hc | hc | hc | hc | hc | hc
    · have h := h.1 hc
      refine s_tabOut C dX8_stateAfter_19 hc rfl ?_
      refine s_iload_n C dX8_stateAfter_173 rfl ?_
      refine s_iload_n C dX8_stateAfter_174 rfl ?_
      obtain ⟨Q1, hKQ1, h⟩ := h
      refine s_callS (av := [(0, l1), (0, l2)]) (rest := []) (mc := 0) (ms := 0) C dX8_stateAfter_175 lk_X8_27 rfl rfl (Nat.le_of_ble_eq_true rfl) (by decide) (by decide) hKQ1 (fun z1 w1 M1 hq => ?_)
      have h := h z1 w1 M1 hq
      exact s_ireturn C dX8_stateAfter_178 h
    · have h := h.2.1 hc
      refine s_tabIn C dX8_stateAfter_19 hc (by decide) (by decide) rfl rfl ?_
      refine s_iload_n C dX8_stateAfter_64 rfl ?_
      refine s_bipush C dX8_stateAfter_65 ⟨rfl, by decide, by decide⟩ ?_
      refine s_icmpeq C dX8_stateAfter_67 rfl (fun hc => ?_) (fun hc => ?_)
      · have h := h.1 hc
        refine s_iconst C dX8_stateAfter_82 (by decide) ?_
        exact s_ireturn C dX8_stateAfter_83 h
      · have h := h.2 hc
        refine s_iload_n C dX8_stateAfter_70 rfl ?_
        refine s_bipush C dX8_stateAfter_71 ⟨rfl, by decide, by decide⟩ ?_
        refine s_icmpne C dX8_stateAfter_73 rfl (fun hc => ?_) (fun hc => ?_)
        · have h := h.1 hc
          refine s_iload_n C dX8_stateAfter_84 rfl ?_
          refine s_ifeq C dX8_stateAfter_85 rfl (fun hc => ?_) (fun hc => absurd (by decide) hc)
          refine s_iconst C dX8_stateAfter_92 (by decide) ?_
          exact s_ireturn C dX8_stateAfter_93 h
        · have h := h.2 hc
          refine s_iload_n C dX8_stateAfter_76 rfl ?_
          refine s_bipush C dX8_stateAfter_77 ⟨rfl, by decide, by decide⟩ ?_
          refine s_icmpge C dX8_stateAfter_79 rfl (fun hc => ?_) (fun hc => ?_)
          · have h := h.1 hc
            refine s_iload_n C dX8_stateAfter_84 rfl ?_
            refine s_ifeq C dX8_stateAfter_85 rfl (fun hc => ?_) (fun hc => absurd (by decide) hc)
            refine s_iconst C dX8_stateAfter_92 (by decide) ?_
            exact s_ireturn C dX8_stateAfter_93 h
          · have h := h.2 hc
            refine s_iconst C dX8_stateAfter_82 (by decide) ?_
            exact s_ireturn C dX8_stateAfter_83 h
    · have h := h.2.2.1 hc
      refine s_tabIn C dX8_stateAfter_19 hc (by decide) (by decide) rfl rfl ?_
      refine s_iload_n C dX8_stateAfter_94 rfl ?_
      refine s_ifeq C dX8_stateAfter_95 rfl (fun hc => ?_) (fun hc => absurd (by decide) hc)
      refine s_iload_n C dX8_stateAfter_102 rfl ?_
      refine s_iload_n C dX8_stateAfter_103 rfl ?_
      obtain ⟨Q2, hKQ2, h⟩ := h
      refine s_callS (av := [(0, l1), (0, l2)]) (rest := []) (mc := 0) (ms := 0) C dX8_stateAfter_104 lk_X8_23 rfl rfl (Nat.le_of_ble_eq_true rfl) (by decide) (by decide) hKQ2 (fun z2 w2 M2 hq => ?_)
      have h := h z2 w2 M2 hq
      exact s_ireturn C dX8_stateAfter_107 h
    · have h := h.2.2.2.1 hc
      refine s_tabIn C dX8_stateAfter_19 hc (by decide) (by decide) rfl rfl ?_
      refine s_iload_n C dX8_stateAfter_108 rfl ?_
      refine s_iload_n C dX8_stateAfter_109 rfl ?_
      obtain ⟨Q3, hKQ3, h⟩ := h
      refine s_callS (av := [(0, l1), (0, l2)]) (rest := []) (mc := 0) (ms := 0) C dX8_stateAfter_110 lk_X8_23 rfl rfl (Nat.le_of_ble_eq_true rfl) (by decide) (by decide) hKQ3 (fun z3 w3 M3 hq => ?_)
      have h := h z3 w3 M3 hq
      exact s_ireturn C dX8_stateAfter_113 h
    · have h := h.2.2.2.2.1 hc
      refine s_tabIn C dX8_stateAfter_19 hc (by decide) (by decide) rfl rfl ?_
      refine s_iload_n C dX8_stateAfter_114 rfl ?_
      refine s_ifeq C dX8_stateAfter_115 rfl (fun hc => ?_) (fun hc => absurd (by decide) hc)
      refine s_iconst C dX8_stateAfter_122 (by decide) ?_
      exact s_ireturn C dX8_stateAfter_123 h
    · have h := h.2.2.2.2.2.1 hc
      refine s_tabIn C dX8_stateAfter_19 hc (by decide) (by decide) rfl rfl ?_
      refine s_iload_n C dX8_stateAfter_124 rfl ?_
      refine s_bipush C dX8_stateAfter_125 ⟨rfl, by decide, by decide⟩ ?_
      refine s_icmpne C dX8_stateAfter_127 rfl (fun hc => ?_) (fun hc => ?_)
      · have h := h.1 hc
        refine s_iconst C dX8_stateAfter_134 (by decide) ?_
        exact s_ireturn C dX8_stateAfter_135 h
      · have h := h.2 hc
        refine s_iconst C dX8_stateAfter_130 (by decide) ?_
        refine s_goto C dX8_stateAfter_131 rfl ?_
        exact s_ireturn C dX8_stateAfter_135 h
    · have h := h.2.2.2.2.2.2.1 hc
      refine s_tabIn C dX8_stateAfter_19 hc (by decide) (by decide) rfl rfl ?_
      refine s_iload_n C dX8_stateAfter_136 rfl ?_
      refine s_ifeq C dX8_stateAfter_137 rfl (fun hc => ?_) (fun hc => absurd (by decide) hc)
      refine s_iconst C dX8_stateAfter_145 (by decide) ?_
      exact s_ireturn C dX8_stateAfter_146 h
    · have h := h.2.2.2.2.2.2.2.1 hc
      refine s_tabIn C dX8_stateAfter_19 hc (by decide) (by decide) rfl rfl ?_
      refine s_iload_n C dX8_stateAfter_147 rfl ?_
      refine s_ifeq C dX8_stateAfter_148 rfl (fun hc => ?_) (fun hc => absurd (by decide) hc)
      refine s_iload_n C dX8_stateAfter_156 rfl ?_
      refine s_iload_n C dX8_stateAfter_157 rfl ?_
      obtain ⟨Q4, hKQ4, h⟩ := h
      refine s_callS (av := [(0, l1), (0, l2)]) (rest := []) (mc := 0) (ms := 0) C dX8_stateAfter_158 lk_X8_27 rfl rfl (Nat.le_of_ble_eq_true rfl) (by decide) (by decide) hKQ4 (fun z4 w4 M4 hq => ?_)
      have h := h z4 w4 M4 hq
      exact s_ireturn C dX8_stateAfter_161 h
    · have h := h.2.2.2.2.2.2.2.2 hc
      refine s_tabIn C dX8_stateAfter_19 hc (by decide) (by decide) rfl rfl ?_
      refine s_iload_n C dX8_stateAfter_162 rfl ?_
      refine s_ifeq C dX8_stateAfter_163 rfl (fun hc => ?_) (fun hc => absurd (by decide) hc)
      refine s_iconst C dX8_stateAfter_171 (by decide) ?_
      exact s_ireturn C dX8_stateAfter_172 h
  · have h := h.2 hc
    refine s_iload_n C dX8_stateAfter_6 rfl ?_
    refine s_bipush C dX8_stateAfter_7 ⟨rfl, by decide, by decide⟩ ?_
    refine s_icmpgt C dX8_stateAfter_9 rfl (fun hc => ?_) (fun hc => ?_)
    · have h := h.1 hc
      refine s_iconst C dX8_stateAfter_16 (by decide) ?_
      refine s_istore_n (ls' := [(0, l0), (0, l1), (0, l2), (0, 0)]) C dX8_stateAfter_17 (by decide) rfl rfl ?_
      refine s_iload_n C dX8_stateAfter_18 rfl ?_
      rcases (show (l0 < 0 ∨ 7 < l0) ∨ l0 = 0 ∨ l0 = 1 ∨ l0 = 2 ∨ l0 = 3 ∨ l0 = 4 ∨ l0 = 5 ∨ l0 = 6 ∨ l0 = 7 from by omega) with hc | hc | hc | hc | hc | hc | hc | hc | hc
      · have h := h.1 hc
        refine s_tabOut C dX8_stateAfter_19 hc rfl ?_
        refine s_iload_n C dX8_stateAfter_173 rfl ?_
        refine s_iload_n C dX8_stateAfter_174 rfl ?_
        obtain ⟨Q5, hKQ5, h⟩ := h
        refine s_callS (av := [(0, l1), (0, l2)]) (rest := []) (mc := 0) (ms := 0) C dX8_stateAfter_175 lk_X8_27 rfl rfl (Nat.le_of_ble_eq_true rfl) (by decide) (by decide) hKQ5 (fun z5 w5 M5 hq => ?_)
        have h := h z5 w5 M5 hq
        exact s_ireturn C dX8_stateAfter_178 h
      · have h := h.2.1 hc
        refine s_tabIn C dX8_stateAfter_19 hc (by decide) (by decide) rfl rfl ?_
        refine s_iload_n C dX8_stateAfter_64 rfl ?_
        refine s_bipush C dX8_stateAfter_65 ⟨rfl, by decide, by decide⟩ ?_
        refine s_icmpeq C dX8_stateAfter_67 rfl (fun hc => ?_) (fun hc => ?_)
        · have h := h.1 hc
          refine s_iconst C dX8_stateAfter_82 (by decide) ?_
          exact s_ireturn C dX8_stateAfter_83 h
        · have h := h.2 hc
          refine s_iload_n C dX8_stateAfter_70 rfl ?_
          refine s_bipush C dX8_stateAfter_71 ⟨rfl, by decide, by decide⟩ ?_
          refine s_icmpne C dX8_stateAfter_73 rfl (fun hc => ?_) (fun hc => ?_)
          · have h := h.1 hc
            refine s_iload_n C dX8_stateAfter_84 rfl ?_
            refine s_ifeq C dX8_stateAfter_85 rfl (fun hc => ?_) (fun hc => absurd (by decide) hc)
            refine s_iconst C dX8_stateAfter_92 (by decide) ?_
            exact s_ireturn C dX8_stateAfter_93 h
          · have h := h.2 hc
            refine s_iload_n C dX8_stateAfter_76 rfl ?_
            refine s_bipush C dX8_stateAfter_77 ⟨rfl, by decide, by decide⟩ ?_
            refine s_icmpge C dX8_stateAfter_79 rfl (fun hc => ?_) (fun hc => ?_)
            · have h := h.1 hc
              refine s_iload_n C dX8_stateAfter_84 rfl ?_
              refine s_ifeq C dX8_stateAfter_85 rfl (fun hc => ?_) (fun hc => absurd (by decide) hc)
              refine s_iconst C dX8_stateAfter_92 (by decide) ?_
              exact s_ireturn C dX8_stateAfter_93 h
            · have h := h.2 hc
              refine s_iconst C dX8_stateAfter_82 (by decide) ?_
              exact s_ireturn C dX8_stateAfter_83 h
      · have h := h.2.2.1 hc
        refine s_tabIn C dX8_stateAfter_19 hc (by decide) (by decide) rfl rfl ?_
        refine s_iload_n C dX8_stateAfter_94 rfl ?_
        refine s_ifeq C dX8_stateAfter_95 rfl (fun hc => ?_) (fun hc => absurd (by decide) hc)
        refine s_iload_n C dX8_stateAfter_102 rfl ?_
        refine s_iload_n C dX8_stateAfter_103 rfl ?_
        obtain ⟨Q6, hKQ6, h⟩ := h
        refine s_callS (av := [(0, l1), (0, l2)]) (rest := []) (mc := 0) (ms := 0) C dX8_stateAfter_104 lk_X8_23 rfl rfl (Nat.le_of_ble_eq_true rfl) (by decide) (by decide) hKQ6 (fun z6 w6 M6 hq => ?_)
        have h := h z6 w6 M6 hq
        exact s_ireturn C dX8_stateAfter_107 h
      · have h := h.2.2.2.1 hc
        refine s_tabIn C dX8_stateAfter_19 hc (by decide) (by decide) rfl rfl ?_
        refine s_iload_n C dX8_stateAfter_108 rfl ?_
        refine s_iload_n C dX8_stateAfter_109 rfl ?_
        obtain ⟨Q7, hKQ7, h⟩ := h
        refine s_callS (av := [(0, l1), (0, l2)]) (rest := []) (mc := 0) (ms := 0) C dX8_stateAfter_110 lk_X8_23 rfl rfl (Nat.le_of_ble_eq_true rfl) (by decide) (by decide) hKQ7 (fun z7 w7 M7 hq => ?_)
        have h := h z7 w7 M7 hq
        exact s_ireturn C dX8_stateAfter_113 h
      · have h := h.2.2.2.2.1 hc
        refine s_tabIn C dX8_stateAfter_19 hc (by decide) (by decide) rfl rfl ?_
        refine s_iload_n C dX8_stateAfter_114 rfl ?_
        refine s_ifeq C dX8_stateAfter_115 rfl (fun hc => ?_) (fun hc => absurd (by decide) hc)
        refine s_iconst C dX8_stateAfter_122 (by decide) ?_
        exact s_ireturn C dX8_stateAfter_123 h
      · have h := h.2.2.2.2.2.1 hc
        refine s_tabIn C dX8_stateAfter_19 hc (by decide) (by decide) rfl rfl ?_
        refine s_iload_n C dX8_stateAfter_124 rfl ?_
        refine s_bipush C dX8_stateAfter_125 ⟨rfl, by decide, by decide⟩ ?_
        refine s_icmpne C dX8_stateAfter_127 rfl (fun hc => ?_) (fun hc => ?_)
        · have h := h.1 hc
          refine s_iconst C dX8_stateAfter_134 (by decide) ?_
          exact s_ireturn C dX8_stateAfter_135 h
        · have h := h.2 hc
          refine s_iconst C dX8_stateAfter_130 (by decide) ?_
          refine s_goto C dX8_stateAfter_131 rfl ?_
          exact s_ireturn C dX8_stateAfter_135 h
      · have h := h.2.2.2.2.2.2.1 hc
        refine s_tabIn C dX8_stateAfter_19 hc (by decide) (by decide) rfl rfl ?_
        refine s_iload_n C dX8_stateAfter_136 rfl ?_
        refine s_ifeq C dX8_stateAfter_137 rfl (fun hc => ?_) (fun hc => absurd (by decide) hc)
        refine s_iconst C dX8_stateAfter_145 (by decide) ?_
        exact s_ireturn C dX8_stateAfter_146 h
      · have h := h.2.2.2.2.2.2.2.1 hc
        refine s_tabIn C dX8_stateAfter_19 hc (by decide) (by decide) rfl rfl ?_
        refine s_iload_n C dX8_stateAfter_147 rfl ?_
        refine s_ifeq C dX8_stateAfter_148 rfl (fun hc => ?_) (fun hc => absurd (by decide) hc)
        refine s_iload_n C dX8_stateAfter_156 rfl ?_
        refine s_iload_n C dX8_stateAfter_157 rfl ?_
        obtain ⟨Q8, hKQ8, h⟩ := h
        refine s_callS (av := [(0, l1), (0, l2)]) (rest := []) (mc := 0) (ms := 0) C dX8_stateAfter_158 lk_X8_27 rfl rfl (Nat.le_of_ble_eq_true rfl) (by decide) (by decide) hKQ8 (fun z8 w8 M8 hq => ?_)
        have h := h z8 w8 M8 hq
        exact s_ireturn C dX8_stateAfter_161 h
      · have h := h.2.2.2.2.2.2.2.2 hc
        refine s_tabIn C dX8_stateAfter_19 hc (by decide) (by decide) rfl rfl ?_
        refine s_iload_n C dX8_stateAfter_162 rfl ?_
        refine s_ifeq C dX8_stateAfter_163 rfl (fun hc => ?_) (fun hc => absurd (by decide) hc)
        refine s_iconst C dX8_stateAfter_171 (by decide) ?_
        exact s_ireturn C dX8_stateAfter_172 h
    · have h := h.2 hc
      refine s_iconst C dX8_stateAfter_12 (by decide) ?_
      refine s_goto C dX8_stateAfter_13 rfl ?_
      refine s_istore_n (ls' := [(0, l0), (0, l1), (0, l2), (0, 1)]) C dX8_stateAfter_17 (by decide) rfl rfl ?_
      refine s_iload_n C dX8_stateAfter_18 rfl ?_
      rcases (show (l0 < 0 ∨ 7 < l0) ∨ l0 = 0 ∨ l0 = 1 ∨ l0 = 2 ∨ l0 = 3 ∨ l0 = 4 ∨ l0 = 5 ∨ l0 = 6 ∨ l0 = 7 from by omega) with hc | hc | hc | hc | hc | hc | hc | hc | hc
      · have h := h.1 hc
        refine s_tabOut C dX8_stateAfter_19 hc rfl ?_
        refine s_iload_n C dX8_stateAfter_173 rfl ?_
        refine s_iload_n C dX8_stateAfter_174 rfl ?_
        obtain ⟨Q9, hKQ9, h⟩ := h
        refine s_callS (av := [(0, l1), (0, l2)]) (rest := []) (mc := 0) (ms := 0) C dX8_stateAfter_175 lk_X8_27 rfl rfl (Nat.le_of_ble_eq_true rfl) (by decide) (by decide) hKQ9 (fun z9 w9 M9 hq => ?_)
        have h := h z9 w9 M9 hq
        exact s_ireturn C dX8_stateAfter_178 h
      · have h := h.2.1 hc
        refine s_tabIn C dX8_stateAfter_19 hc (by decide) (by decide) rfl rfl ?_
        refine s_iload_n C dX8_stateAfter_64 rfl ?_
        refine s_bipush C dX8_stateAfter_65 ⟨rfl, by decide, by decide⟩ ?_
        refine s_icmpeq C dX8_stateAfter_67 rfl (fun hc => ?_) (fun hc => ?_)
        · have h := h.1 hc
          refine s_iconst C dX8_stateAfter_82 (by decide) ?_
          exact s_ireturn C dX8_stateAfter_83 h
        · have h := h.2 hc
          refine s_iload_n C dX8_stateAfter_70 rfl ?_
          refine s_bipush C dX8_stateAfter_71 ⟨rfl, by decide, by decide⟩ ?_
          refine s_icmpne C dX8_stateAfter_73 rfl (fun hc => ?_) (fun hc => ?_)
          · have h := h.1 hc
            refine s_iload_n C dX8_stateAfter_84 rfl ?_
            refine s_ifeq C dX8_stateAfter_85 rfl (fun hc => absurd hc (by decide)) (fun hc => ?_)
            refine s_iconst C dX8_stateAfter_88 (by decide) ?_
            refine s_goto C dX8_stateAfter_89 rfl ?_
            exact s_ireturn C dX8_stateAfter_93 h
          · have h := h.2 hc
            refine s_iload_n C dX8_stateAfter_76 rfl ?_
            refine s_bipush C dX8_stateAfter_77 ⟨rfl, by decide, by decide⟩ ?_
            refine s_icmpge C dX8_stateAfter_79 rfl (fun hc => ?_) (fun hc => ?_)
            · have h := h.1 hc
              refine s_iload_n C dX8_stateAfter_84 rfl ?_
              refine s_ifeq C dX8_stateAfter_85 rfl (fun hc => absurd hc (by decide)) (fun hc => ?_)
              refine s_iconst C dX8_stateAfter_88 (by decide) ?_
              refine s_goto C dX8_stateAfter_89 rfl ?_
              exact s_ireturn C dX8_stateAfter_93 h
            · have h := h.2 hc
              refine s_iconst C dX8_stateAfter_82 (by decide) ?_
              exact s_ireturn C dX8_stateAfter_83 h
      · have h := h.2.2.1 hc
        refine s_tabIn C dX8_stateAfter_19 hc (by decide) (by decide) rfl rfl ?_
        refine s_iload_n C dX8_stateAfter_94 rfl ?_
        refine s_ifeq C dX8_stateAfter_95 rfl (fun hc => absurd hc (by decide)) (fun hc => ?_)
        refine s_iconst C dX8_stateAfter_98 (by decide) ?_
        refine s_goto C dX8_stateAfter_99 rfl ?_
        exact s_ireturn C dX8_stateAfter_107 h
      · have h := h.2.2.2.1 hc
        refine s_tabIn C dX8_stateAfter_19 hc (by decide) (by decide) rfl rfl ?_
        refine s_iload_n C dX8_stateAfter_108 rfl ?_
        refine s_iload_n C dX8_stateAfter_109 rfl ?_
        obtain ⟨Q10, hKQ10, h⟩ := h
        refine s_callS (av := [(0, l1), (0, l2)]) (rest := []) (mc := 0) (ms := 0) C dX8_stateAfter_110 lk_X8_23 rfl rfl (Nat.le_of_ble_eq_true rfl) (by decide) (by decide) hKQ10 (fun z10 w10 M10 hq => ?_)
        have h := h z10 w10 M10 hq
        exact s_ireturn C dX8_stateAfter_113 h
      · have h := h.2.2.2.2.1 hc
        refine s_tabIn C dX8_stateAfter_19 hc (by decide) (by decide) rfl rfl ?_
        refine s_iload_n C dX8_stateAfter_114 rfl ?_
        refine s_ifeq C dX8_stateAfter_115 rfl (fun hc => absurd hc (by decide)) (fun hc => ?_)
        refine s_iconst C dX8_stateAfter_118 (by decide) ?_
        refine s_goto C dX8_stateAfter_119 rfl ?_
        exact s_ireturn C dX8_stateAfter_123 h
      · have h := h.2.2.2.2.2.1 hc
        refine s_tabIn C dX8_stateAfter_19 hc (by decide) (by decide) rfl rfl ?_
        refine s_iload_n C dX8_stateAfter_124 rfl ?_
        refine s_bipush C dX8_stateAfter_125 ⟨rfl, by decide, by decide⟩ ?_
        refine s_icmpne C dX8_stateAfter_127 rfl (fun hc => ?_) (fun hc => ?_)
        · have h := h.1 hc
          refine s_iconst C dX8_stateAfter_134 (by decide) ?_
          exact s_ireturn C dX8_stateAfter_135 h
        · have h := h.2 hc
          refine s_iconst C dX8_stateAfter_130 (by decide) ?_
          refine s_goto C dX8_stateAfter_131 rfl ?_
          exact s_ireturn C dX8_stateAfter_135 h
      · have h := h.2.2.2.2.2.2.1 hc
        refine s_tabIn C dX8_stateAfter_19 hc (by decide) (by decide) rfl rfl ?_
        refine s_iload_n C dX8_stateAfter_136 rfl ?_
        refine s_ifeq C dX8_stateAfter_137 rfl (fun hc => absurd hc (by decide)) (fun hc => ?_)
        refine s_bipush C dX8_stateAfter_140 ⟨rfl, by decide, by decide⟩ ?_
        refine s_goto C dX8_stateAfter_142 rfl ?_
        exact s_ireturn C dX8_stateAfter_146 h
      · have h := h.2.2.2.2.2.2.2.1 hc
        refine s_tabIn C dX8_stateAfter_19 hc (by decide) (by decide) rfl rfl ?_
        refine s_iload_n C dX8_stateAfter_147 rfl ?_
        refine s_ifeq C dX8_stateAfter_148 rfl (fun hc => absurd hc (by decide)) (fun hc => ?_)
        refine s_bipush C dX8_stateAfter_151 ⟨rfl, by decide, by decide⟩ ?_
        refine s_goto C dX8_stateAfter_153 rfl ?_
        exact s_ireturn C dX8_stateAfter_161 h
      · have h := h.2.2.2.2.2.2.2.2 hc
        refine s_tabIn C dX8_stateAfter_19 hc (by decide) (by decide) rfl rfl ?_
        refine s_iload_n C dX8_stateAfter_162 rfl ?_
        refine s_ifeq C dX8_stateAfter_163 rfl (fun hc => absurd hc (by decide)) (fun hc => ?_)
        refine s_bipush C dX8_stateAfter_166 ⟨rfl, by decide, by decide⟩ ?_
        refine s_goto C dX8_stateAfter_168 rfl ?_
        exact s_ireturn C dX8_stateAfter_172 h
theorem E_X8_stateAfter {G : GP} {l : Launch} {P : Int → NS → MM → Prop} {l0 : Int} {l1 : Int} {l2 : Int} {w : NS} {M : MM} (h : inR l0 → inR l1 → inR l2 → ∀ X : BX, X.2.1 = l → CX_X8_stateAfter G X → A_X8_stateAfter_0 G X P l0 l1 l2 w M) : CT_X8_stateAfter G l [(0, l0), (0, l1), (0, l2)] w M P :=
  CT.of RX8 "stateAfter" (by decide +kernel) rfl rfl rfl (Nat.le_of_ble_eq_true rfl) (fun hr X hX C => h (hr (0, l0) (by simp)) (hr (0, l1) (by simp)) (hr (0, l2) (by simp)) X hX C)
def A_X8_faultPlace_0 (G : GP) (X : BX) (P : Int → NS → MM → Prop) (l0 : Int) (w : NS) (M : MM) : Prop := WA true G X (QM G X true 0 P) 4 0 [(2, l0), (3, 0), (3, 0), (3, 0)] [] 0 0 w M
def A_X8_faultPlace_6 (G : GP) (X : BX) (P : Int → NS → MM → Prop) (l0 : Int) (l1 : Int) (l2 : Int) (l3 : Int) (w : NS) (M : MM) : Prop := WA true G X (QM G X true 0 P) 4 6 [(2, l0), (0, l1), (0, l2), (0, l3)] [] 0 0 w M
set_option maxHeartbeats 4000000 in
set_option maxRecDepth 100000 in
theorem B_X8_faultPlace_0 {G : GP} {X : BX} {P : Int → NS → MM → Prop} {l0 : Int} {w : NS} {M : MM} (C : CX_X8_faultPlace G X) (h : A_X8_faultPlace_6 G X P l0 0 0 0 w M) : A_X8_faultPlace_0 G X P l0 w M := by
  unfold A_X8_faultPlace_0
  refine s_iconst C dX8_faultPlace_0 (by decide) ?_
  refine s_istore_n (ls' := [(2, l0), (0, 0), (3, 0), (3, 0)]) C dX8_faultPlace_1 (by decide) rfl rfl ?_
  refine s_iconst C dX8_faultPlace_2 (by decide) ?_
  refine s_istore_n (ls' := [(2, l0), (0, 0), (0, 0), (3, 0)]) C dX8_faultPlace_3 (by decide) rfl rfl ?_
  refine s_iconst C dX8_faultPlace_4 (by decide) ?_
  refine s_istore_n (ls' := [(2, l0), (0, 0), (0, 0), (0, 0)]) C dX8_faultPlace_5 (by decide) rfl rfl ?_
  exact h
set_option maxHeartbeats 4000000 in
set_option maxRecDepth 100000 in
theorem B_X8_faultPlace_6 {G : GP} {X : BX} {P : Int → NS → MM → Prop} {l0 : Int} {l1 : Int} {l2 : Int} {l3 : Int} {w : NS} {M : MM} (C : CX_X8_faultPlace G X) (h : (w.2 l0 = (9, 2)) ∧ ((((M l0 1) ≤ l3) → (((l1 = 1) → (((l2 ≠ 0) → P (M l0 1) w M) ∧ ((¬ (l2 ≠ 0)) → P (-6) w M))) ∧ ((¬ (l1 = 1)) → (((l1 = 2) → (((l2 ≠ 0) → P (M l0 1) w M) ∧ ((¬ (l2 ≠ 0)) → P (-6) w M))) ∧ ((¬ (l1 = 2)) → (((l1 = 6) → (((l2 ≠ 0) → P (M l0 1) w M) ∧ ((¬ (l2 ≠ 0)) → P (-6) w M))) ∧ ((¬ (l1 = 6)) → (((l1 ≠ 8) → P (M l0 1) w M) ∧ ((¬ (l1 ≠ 8)) → (((l2 ≠ 0) → P (M l0 1) w M) ∧ ((¬ (l2 ≠ 0)) → P (-6) w M))))))))))) ∧ ((¬ ((M l0 1) ≤ l3)) → (0 ≤ l3) ∧ (l3 < 40) ∧ ∃ Q6 : Int → NS → MM → Prop, CT_X8_stateAfter G X.2.1 [(0, l1), (0, (M (l0 + 1) l3)), (0, l2)] w M Q6 ∧ ∀ (z6 : Int) (w6 : NS) (M6 : MM), Q6 z6 w6 M6 → (((z6 ≠ (-1)) → (w6.2 l0 = (9, 2)) ∧ ((((M6 (l0 + 1) l3) ≠ 40) → ((((M6 (l0 + 1) l3) ≠ 41) → (inR (l3 + 1)) ∧ A_X8_faultPlace_6 G X P l0 z6 l2 (l3 + 1) w6 M6) ∧ ((¬ ((M6 (l0 + 1) l3) ≠ 41)) → (inR (l2 + (-1))) ∧ (inR (l3 + 1)) ∧ A_X8_faultPlace_6 G X P l0 z6 (l2 + (-1)) (l3 + 1) w6 M6))) ∧ ((¬ ((M6 (l0 + 1) l3) ≠ 40)) → (inR (l2 + 1)) ∧ (inR (l3 + 1)) ∧ A_X8_faultPlace_6 G X P l0 z6 (l2 + 1) (l3 + 1) w6 M6))) ∧ ((¬ (z6 ≠ (-1))) → P l3 w6 M6))))) : A_X8_faultPlace_6 G X P l0 l1 l2 l3 w M := by
  unfold A_X8_faultPlace_6
  refine s_iload_n C dX8_faultPlace_6 rfl ?_
  refine s_aload_n C dX8_faultPlace_7 rfl ?_
  obtain ⟨o1, h⟩ := h
  refine gf_X8_15 (v0 := (M l0 1)) C o1 dX8_faultPlace_8 rfl ?_
  refine s_icmpge C dX8_faultPlace_11 rfl (fun hc => ?_) (fun hc => ?_)
  · have h := h.1 hc
    refine s_iload_n C dX8_faultPlace_70 rfl ?_
    refine s_iconst C dX8_faultPlace_71 (by decide) ?_
    refine s_icmpeq C dX8_faultPlace_72 rfl (fun hc => ?_) (fun hc => ?_)
    · have h := h.1 hc
      refine s_iconst C dX8_faultPlace_92 (by decide) ?_
      refine s_goto C dX8_faultPlace_93 rfl ?_
      refine s_istore_n (ls' := [(2, l0), (0, l1), (0, l2), (0, 1)]) C dX8_faultPlace_97 (by decide) rfl rfl ?_
      refine s_iload_n C dX8_faultPlace_98 rfl ?_
      refine s_ifeq C dX8_faultPlace_99 rfl (fun hc => absurd hc (by decide)) (fun hc => ?_)
      refine s_iload_n C dX8_faultPlace_102 rfl ?_
      refine s_ifne C dX8_faultPlace_103 rfl (fun hc => ?_) (fun hc => ?_)
      · have h := h.1 hc
        refine s_aload_n C dX8_faultPlace_111 rfl ?_
        refine gf_X8_15 (v0 := (M l0 1)) C o1 dX8_faultPlace_112 rfl ?_
        exact s_ireturn C dX8_faultPlace_115 h
      · have h := h.2 hc
        refine s_bipush C dX8_faultPlace_106 ⟨rfl, by decide, by decide⟩ ?_
        refine s_goto C dX8_faultPlace_108 rfl ?_
        exact s_ireturn C dX8_faultPlace_115 h
    · have h := h.2 hc
      refine s_iload_n C dX8_faultPlace_75 rfl ?_
      refine s_iconst C dX8_faultPlace_76 (by decide) ?_
      refine s_icmpeq C dX8_faultPlace_77 rfl (fun hc => ?_) (fun hc => ?_)
      · have h := h.1 hc
        refine s_iconst C dX8_faultPlace_92 (by decide) ?_
        refine s_goto C dX8_faultPlace_93 rfl ?_
        refine s_istore_n (ls' := [(2, l0), (0, l1), (0, l2), (0, 1)]) C dX8_faultPlace_97 (by decide) rfl rfl ?_
        refine s_iload_n C dX8_faultPlace_98 rfl ?_
        refine s_ifeq C dX8_faultPlace_99 rfl (fun hc => absurd hc (by decide)) (fun hc => ?_)
        refine s_iload_n C dX8_faultPlace_102 rfl ?_
        refine s_ifne C dX8_faultPlace_103 rfl (fun hc => ?_) (fun hc => ?_)
        · have h := h.1 hc
          refine s_aload_n C dX8_faultPlace_111 rfl ?_
          refine gf_X8_15 (v0 := (M l0 1)) C o1 dX8_faultPlace_112 rfl ?_
          exact s_ireturn C dX8_faultPlace_115 h
        · have h := h.2 hc
          refine s_bipush C dX8_faultPlace_106 ⟨rfl, by decide, by decide⟩ ?_
          refine s_goto C dX8_faultPlace_108 rfl ?_
          exact s_ireturn C dX8_faultPlace_115 h
      · have h := h.2 hc
        refine s_iload_n C dX8_faultPlace_80 rfl ?_
        refine s_bipush C dX8_faultPlace_81 ⟨rfl, by decide, by decide⟩ ?_
        refine s_icmpeq C dX8_faultPlace_83 rfl (fun hc => ?_) (fun hc => ?_)
        · have h := h.1 hc
          refine s_iconst C dX8_faultPlace_92 (by decide) ?_
          refine s_goto C dX8_faultPlace_93 rfl ?_
          refine s_istore_n (ls' := [(2, l0), (0, l1), (0, l2), (0, 1)]) C dX8_faultPlace_97 (by decide) rfl rfl ?_
          refine s_iload_n C dX8_faultPlace_98 rfl ?_
          refine s_ifeq C dX8_faultPlace_99 rfl (fun hc => absurd hc (by decide)) (fun hc => ?_)
          refine s_iload_n C dX8_faultPlace_102 rfl ?_
          refine s_ifne C dX8_faultPlace_103 rfl (fun hc => ?_) (fun hc => ?_)
          · have h := h.1 hc
            refine s_aload_n C dX8_faultPlace_111 rfl ?_
            refine gf_X8_15 (v0 := (M l0 1)) C o1 dX8_faultPlace_112 rfl ?_
            exact s_ireturn C dX8_faultPlace_115 h
          · have h := h.2 hc
            refine s_bipush C dX8_faultPlace_106 ⟨rfl, by decide, by decide⟩ ?_
            refine s_goto C dX8_faultPlace_108 rfl ?_
            exact s_ireturn C dX8_faultPlace_115 h
        · have h := h.2 hc
          refine s_iload_n C dX8_faultPlace_86 rfl ?_
          refine s_bipush C dX8_faultPlace_87 ⟨rfl, by decide, by decide⟩ ?_
          refine s_icmpne C dX8_faultPlace_89 rfl (fun hc => ?_) (fun hc => ?_)
          · have h := h.1 hc
            refine s_iconst C dX8_faultPlace_96 (by decide) ?_
            refine s_istore_n (ls' := [(2, l0), (0, l1), (0, l2), (0, 0)]) C dX8_faultPlace_97 (by decide) rfl rfl ?_
            refine s_iload_n C dX8_faultPlace_98 rfl ?_
            refine s_ifeq C dX8_faultPlace_99 rfl (fun hc => ?_) (fun hc => absurd (by decide) hc)
            refine s_aload_n C dX8_faultPlace_111 rfl ?_
            refine gf_X8_15 (v0 := (M l0 1)) C o1 dX8_faultPlace_112 rfl ?_
            exact s_ireturn C dX8_faultPlace_115 h
          · have h := h.2 hc
            refine s_iconst C dX8_faultPlace_92 (by decide) ?_
            refine s_goto C dX8_faultPlace_93 rfl ?_
            refine s_istore_n (ls' := [(2, l0), (0, l1), (0, l2), (0, 1)]) C dX8_faultPlace_97 (by decide) rfl rfl ?_
            refine s_iload_n C dX8_faultPlace_98 rfl ?_
            refine s_ifeq C dX8_faultPlace_99 rfl (fun hc => absurd hc (by decide)) (fun hc => ?_)
            refine s_iload_n C dX8_faultPlace_102 rfl ?_
            refine s_ifne C dX8_faultPlace_103 rfl (fun hc => ?_) (fun hc => ?_)
            · have h := h.1 hc
              refine s_aload_n C dX8_faultPlace_111 rfl ?_
              refine gf_X8_15 (v0 := (M l0 1)) C o1 dX8_faultPlace_112 rfl ?_
              exact s_ireturn C dX8_faultPlace_115 h
            · have h := h.2 hc
              refine s_bipush C dX8_faultPlace_106 ⟨rfl, by decide, by decide⟩ ?_
              refine s_goto C dX8_faultPlace_108 rfl ?_
              exact s_ireturn C dX8_faultPlace_115 h
  · have h := h.2 hc
    refine s_iload_n C dX8_faultPlace_14 rfl ?_
    refine s_aload_n C dX8_faultPlace_15 rfl ?_
    refine WA.fix (fun hF2 => ?_)
    have hd3 := FixA.dy (t := 9) (n := 2) (k := 0) (m := 40) hF2 (by decide) o1
    refine gf_X8_11 C o1 dX8_faultPlace_16 hd3.1 ?_
    refine s_iload_n C dX8_faultPlace_19 rfl ?_
    obtain ⟨o4, h⟩ := h
    obtain ⟨o5, h⟩ := h
    refine s_iald (v0 := (M (l0 + 1) l3)) C hd3.2 o4 o5 dX8_faultPlace_20 rfl ?_
    refine s_iload_n C dX8_faultPlace_21 rfl ?_
    obtain ⟨Q6, hKQ6, h⟩ := h
    refine s_callS (av := [(0, l1), (0, (M (l0 + 1) l3)), (0, l2)]) (rest := []) (mc := 0) (ms := 0) C dX8_faultPlace_22 lk_X8_19 rfl rfl (Nat.le_of_ble_eq_true rfl) (by decide) (by decide) hKQ6 (fun z6 w6 M6 hq => ?_)
    have h := h z6 w6 M6 hq
    refine s_istore_n (ls' := [(2, l0), (0, z6), (0, l2), (0, l3)]) C dX8_faultPlace_25 (by decide) rfl rfl ?_
    refine s_iload_n C dX8_faultPlace_26 rfl ?_
    refine s_iconst C dX8_faultPlace_27 (by decide) ?_
    refine s_icmpne C dX8_faultPlace_28 rfl (fun hc => ?_) (fun hc => ?_)
    · have h := h.1 hc
      refine s_aload_n C dX8_faultPlace_33 rfl ?_
      obtain ⟨o7, h⟩ := h
      refine WA.fix (fun hF8 => ?_)
      have hd9 := FixA.dy (t := 9) (n := 2) (k := 0) (m := 40) hF8 (by decide) o7
      refine gf_X8_11 C o7 dX8_faultPlace_34 hd9.1 ?_
      refine s_iload_n C dX8_faultPlace_37 rfl ?_
      refine s_iald (v0 := (M6 (l0 + 1) l3)) C hd9.2 o4 o5 dX8_faultPlace_38 rfl ?_
      refine s_bipush C dX8_faultPlace_39 ⟨rfl, by decide, by decide⟩ ?_
      refine s_icmpne C dX8_faultPlace_41 rfl (fun hc => ?_) (fun hc => ?_)
      · have h := h.1 hc
        refine s_aload_n C dX8_faultPlace_50 rfl ?_
        have hd10 := FixA.dy (t := 9) (n := 2) (k := 0) (m := 40) hF8 (by decide) o7
        refine gf_X8_11 C o7 dX8_faultPlace_51 hd10.1 ?_
        refine s_iload_n C dX8_faultPlace_54 rfl ?_
        refine s_iald (v0 := (M6 (l0 + 1) l3)) C hd10.2 o4 o5 dX8_faultPlace_55 rfl ?_
        refine s_bipush C dX8_faultPlace_56 ⟨rfl, by decide, by decide⟩ ?_
        refine s_icmpne C dX8_faultPlace_58 rfl (fun hc => ?_) (fun hc => ?_)
        · have h := h.1 hc
          obtain ⟨o11, h⟩ := h
          refine s_iinc (ls' := [(2, l0), (0, z6), (0, l2), (0, (l3 + 1))]) C dX8_faultPlace_64 (by decide) rfl o11 rfl rfl ?_
          refine s_goto C dX8_faultPlace_67 rfl ?_
          exact h
        · have h := h.2 hc
          obtain ⟨o12, h⟩ := h
          refine s_iinc (ls' := [(2, l0), (0, z6), (0, (l2 + (-1))), (0, l3)]) C dX8_faultPlace_61 (by decide) rfl o12 rfl rfl ?_
          obtain ⟨o13, h⟩ := h
          refine s_iinc (ls' := [(2, l0), (0, z6), (0, (l2 + (-1))), (0, (l3 + 1))]) C dX8_faultPlace_64 (by decide) rfl o13 rfl rfl ?_
          refine s_goto C dX8_faultPlace_67 rfl ?_
          exact h
      · have h := h.2 hc
        obtain ⟨o14, h⟩ := h
        refine s_iinc (ls' := [(2, l0), (0, z6), (0, (l2 + 1)), (0, l3)]) C dX8_faultPlace_44 (by decide) rfl o14 rfl rfl ?_
        refine s_goto C dX8_faultPlace_47 rfl ?_
        obtain ⟨o15, h⟩ := h
        refine s_iinc (ls' := [(2, l0), (0, z6), (0, (l2 + 1)), (0, (l3 + 1))]) C dX8_faultPlace_64 (by decide) rfl o15 rfl rfl ?_
        refine s_goto C dX8_faultPlace_67 rfl ?_
        exact h
    · have h := h.2 hc
      refine s_iload_n C dX8_faultPlace_31 rfl ?_
      exact s_ireturn C dX8_faultPlace_32 h
theorem E_X8_faultPlace {G : GP} {l : Launch} {P : Int → NS → MM → Prop} {l0 : Int} {w : NS} {M : MM} (h : ∀ X : BX, X.2.1 = l → CX_X8_faultPlace G X → A_X8_faultPlace_0 G X P l0 w M) : CT_X8_faultPlace G l [(2, l0)] w M P :=
  CT.of RX8 "faultPlace" (by decide +kernel) rfl rfl rfl (Nat.le_of_ble_eq_true rfl) (fun hr X hX C => h  X hX C)
def A_X9_fault_0 (G : GP) (X : BX) (P : Int → NS → MM → Prop) (w : NS) (M : MM) : Prop := WA true G X (QM G X true 0 P) 1 0 [(2, 1)] [] 0 0 w M
set_option maxHeartbeats 4000000 in
set_option maxRecDepth 100000 in
theorem B_X9_fault_0 {G : GP} {X : BX} {P : Int → NS → MM → Prop} {w : NS} {M : MM} (C : CX_X9_fault G X) (h : (w.2 (M 1 8) = (9, 2)) ∧ ∃ Q3 : Int → NS → MM → Prop, CT_X8_faultPlace G X.2.1 [(2, (M 1 8))] w M Q3 ∧ ∀ (z3 : Int) (w3 : NS) (M3 : MM), Q3 z3 w3 M3 → P z3 w3 M3) : A_X9_fault_0 G X P w M := by
  unfold A_X9_fault_0
  refine s_aload_n C dX9_fault_0 rfl ?_
  refine WA.fix (fun hF1 => ?_)
  refine gf_X9_47 (v0 := (M 1 8)) C (sh_1 hF1) dX9_fault_1 rfl ?_
  obtain ⟨o2, h⟩ := h
  obtain ⟨Q3, hKQ3, h⟩ := h
  refine s_callV (ci := 8) (av := []) (rest := []) (mc := 0) (ms := 0) C dX9_fault_4 lk_X9_198 o2 (by decide) rfl rfl rfl (Nat.le_of_ble_eq_true rfl) (by decide) (by decide) hKQ3 (fun z3 w3 M3 hq => ?_)
  have h := h z3 w3 M3 hq
  exact s_ireturn C dX9_fault_7 h
theorem E_X9_fault {G : GP} {l : Launch} {P : Int → NS → MM → Prop} {w : NS} {M : MM} (h : ∀ X : BX, X.2.1 = l → CX_X9_fault G X → A_X9_fault_0 G X P w M) : CT_X9_fault G l [(2, 1)] w M P :=
  CT.of RX9 "fault" (by decide +kernel) rfl rfl rfl (Nat.le_of_ble_eq_true rfl) (fun hr X hX C => h  X hX C)
def A_X3_init_0 (G : GP) (X : BX) (P : Int → NS → MM → Prop) (l0 : Int) (l1 : Int) (l2 : Int) (l3 : Int) (l4 : Int) (l5 : Int) (l6 : Int) (l7 : Int) (rc rs : Nat) (w : NS) (M : MM) : Prop := WA false G X (QM G X false 4 P) 8 0 [(2, l0), (0, l1), (2, l2), (0, l3), (0, l4), (0, l5), (0, l6), (0, l7)] [] rc rs w M
set_option maxHeartbeats 4000000 in
set_option maxRecDepth 100000 in
theorem B_X3_init_0 {G : GP} {X : BX} {P : Int → NS → MM → Prop} {l0 : Int} {l1 : Int} {l2 : Int} {l3 : Int} {l4 : Int} {l5 : Int} {l6 : Int} {l7 : Int} {rc rs : Nat} {w : NS} {M : MM} (C : CX_X3_init G X) (h : (w.2 l0 = (4, 7)) ∧ ∀ M2 : MM, M2 = (up M l0 0 l1) → ∀ M3 : MM, M3 = (up M2 l0 1 l2) → ∀ M4 : MM, M4 = (up M3 l0 2 l3) → ∀ M5 : MM, M5 = (up M4 l0 3 l4) → ∀ M6 : MM, M6 = (up M5 l0 4 l5) → ∀ M7 : MM, M7 = (up M6 l0 5 l6) → (l7 = 0 ∨ l7 = 1) ∧ ∀ M9 : MM, M9 = (up M7 l0 6 l7) → P 0 w M9) : A_X3_init_0 G X P l0 l1 l2 l3 l4 l5 l6 l7 (rc + 0) (rs + 0) w M := by
  unfold A_X3_init_0
  refine s_aload_n C dX3_init_0 rfl ?_
  obtain ⟨o1, h⟩ := h
  refine s_objInit C o1 (by decide) (mG (wd_488) rfl) (mG (wd_81) rfl) (mG (wd_82) rfl) (by decide) (by decide) (Nat.le_of_ble_eq_true rfl) dX3_init_1 ?_
  refine s_aload_n C dX3_init_4 rfl ?_
  refine s_iload_n C dX3_init_5 rfl ?_
  refine pf_X3_7 C o1 (fun e => by cases e) dX3_init_6 ?_
  refine WA.nmM (fun M2 eM2 => ?_)
  have h := h _ eM2
  refine s_aload_n C dX3_init_9 rfl ?_
  refine s_aload_n C dX3_init_10 rfl ?_
  refine pf_X3_13 C o1 (fun e => by cases e) dX3_init_11 ?_
  refine WA.nmM (fun M3 eM3 => ?_)
  have h := h _ eM3
  refine s_aload_n C dX3_init_14 rfl ?_
  refine s_iload_n C dX3_init_15 rfl ?_
  refine pf_X3_17 C o1 (fun e => by cases e) dX3_init_16 ?_
  refine WA.nmM (fun M4 eM4 => ?_)
  have h := h _ eM4
  refine s_aload_n C dX3_init_19 rfl ?_
  refine s_iload C dX3_init_20 rfl ?_
  refine pf_X3_20 C o1 (fun e => by cases e) dX3_init_22 ?_
  refine WA.nmM (fun M5 eM5 => ?_)
  have h := h _ eM5
  refine s_aload_n C dX3_init_25 rfl ?_
  refine s_iload C dX3_init_26 rfl ?_
  refine pf_X3_23 C o1 (fun e => by cases e) dX3_init_28 ?_
  refine WA.nmM (fun M6 eM6 => ?_)
  have h := h _ eM6
  refine s_aload_n C dX3_init_31 rfl ?_
  refine s_iload C dX3_init_32 rfl ?_
  refine pf_X3_26 C o1 (fun e => by cases e) dX3_init_34 ?_
  refine WA.nmM (fun M7 eM7 => ?_)
  have h := h _ eM7
  refine s_aload_n C dX3_init_37 rfl ?_
  refine s_iload C dX3_init_38 rfl ?_
  obtain ⟨o8, h⟩ := h
  refine pf_X3_29 C o1 o8 (fun e => by cases e) dX3_init_40 ?_
  refine WA.nmM (fun M9 eM9 => ?_)
  have h := h _ eM9
  exact s_vreturn C dX3_init_43 h
theorem E_X3_init {G : GP} {l : Launch} {P : Int → NS → MM → Prop} {l0 : Int} {l1 : Int} {l2 : Int} {l3 : Int} {l4 : Int} {l5 : Int} {l6 : Int} {l7 : Int} {w : NS} {M : MM} (h : inR l1 → inR l3 → inR l4 → inR l5 → inR l6 → inR l7 → ∀ X : BX, X.2.1 = l → CX_X3_init G X → A_X3_init_0 G X P l0 l1 l2 l3 l4 l5 l6 l7 0 0 w M) : CT_X3_init G l [(2, l0), (0, l1), (2, l2), (0, l3), (0, l4), (0, l5), (0, l6), (0, l7)] w M P :=
  CT.of RX3 "<init>" (by decide +kernel) rfl rfl rfl (Nat.le_of_ble_eq_true rfl) (fun hr X hX C => h (hr (0, l1) (by simp)) (hr (0, l3) (by simp)) (hr (0, l4) (by simp)) (hr (0, l5) (by simp)) (hr (0, l6) (by simp)) (hr (0, l7) (by simp)) X hX C)
def A_X9_order_0 (G : GP) (X : BX) (P : Int → NS → MM → Prop) (l1 : Int) (l2 : Int) (l3 : Int) (l4 : Int) (l5 : Int) (l6 : Int) (w : NS) (M : MM) : Prop := WA true G X (QM G X true 0 P) 7 0 [(2, 1), (0, l1), (0, l2), (0, l3), (0, l4), (0, l5), (0, l6)] [] 3 49 w M
set_option maxHeartbeats 4000000 in
set_option maxRecDepth 100000 in
theorem B_X9_order_0 {G : GP} {X : BX} {P : Int → NS → MM → Prop} {l1 : Int} {l2 : Int} {l3 : Int} {l4 : Int} {l5 : Int} {l6 : Int} {w : NS} {M : MM} (C : CX_X9_order G X) (h : (((¬ (0 ≤ l1 ∧ l1 ≤ 5)) → P (-2) w M) ∧ (((0 ≤ l1 ∧ l1 ≤ 5)) → (((¬ (0 ≤ l2 ∧ l2 ≤ 1023)) → P (-2) w M) ∧ (((0 ≤ l2 ∧ l2 ≤ 1023)) → (((¬ (0 ≤ l3 ∧ l3 ≤ l4 ∧ l4 < 100)) → P (-2) w M) ∧ (((0 ≤ l3 ∧ l3 ≤ l4 ∧ l4 < 100)) → ((((0 ≤ l5 ∧ l5 ≤ 20)) → ((((M 1 7) < 10) → (w.2 (M 1 8) = (9, 2)) ∧ ∃ Q7 : Int → NS → MM → Prop, CT_X8_faultPlace G X.2.1 [(2, (M 1 8))] w M Q7 ∧ ∀ (z7 : Int) (w7 : NS) (M7 : MM), Q7 z7 w7 M7 → (((z7 = (-6)) → ∀ w9 : NS, w9 = (w7.1 + 1, us w7.2 w7.1 4 7) → (1 < (w7.1 : Int)) ∧ ∃ Q15 : Int → NS → MM → Prop, CT_X3_init G X.2.1 [(2, (w7.1 : Int)), (0, l1), (2, (M7 1 8)), (0, l2), (0, l3), (0, l4), (0, l5), (0, l6)] w9 M7 Q15 ∧ ∀ (z15 : Int) (w15 : NS) (M15 : MM), Q15 z15 w15 M15 → (FixA w15 M15) ∧ (0 ≤ (M7 1 7)) ∧ ((M7 1 7) < 10) ∧ (w15.2 (w7.1 : Int) = (4, 7)) ∧ ∀ w21 : NS, w21 = (w15.1 + 1, us w15.2 w15.1 9 2) → (6 < (w15.1 : Int)) ∧ ((w7.1 : Int) < (w15.1 : Int)) ∧ ∃ Q30 : Int → NS → MM → Prop, CT_X8_init G X.2.1 [(2, (w15.1 : Int))] w21 (up M15 6 (M7 1 7) (w7.1 : Int)) Q30 ∧ ∀ (z30 : Int) (w30 : NS) (M30 : MM), Q30 z30 w30 M30 → (FixA w30 M30) ∧ (inR ((M30 1 7) + 1)) ∧ P (M30 1 7) w30 (up (up M30 1 8 (w15.1 : Int)) 1 7 ((M30 1 7) + 1))) ∧ ((¬ (z7 = (-6))) → P (-5) w7 M7))) ∧ ((¬ ((M 1 7) < 10)) → P (-4) w M))) ∧ ((¬ (0 ≤ l5 ∧ l5 ≤ 20)) → P (-2) w M))))))))) : A_X9_order_0 G X P l1 l2 l3 l4 l5 l6 w M := by
  unfold A_X9_order_0
  refine s_iload_n C dX9_order_0 rfl ?_
  refine s_callS (av := [(0, l1)]) (rest := []) (mc := 0) (ms := 0) C dX9_order_1 lk_X9_202 rfl rfl (Nat.le_of_ble_eq_true rfl) (by decide) (by decide) (pc_X9_isClient) (fun z1 wz1 Mz1 hq => ?_)
  obtain ⟨hq1, hq2, hq3⟩ := hq
  have hq2 := hq2.symm
  have hq3 := hq3.symm
  subst hq1 hq2 hq3
  refine s_ifeq C dX9_order_4 rfl (fun hc => ?_) (fun hc => ?_)
  · have h := h.1 (b2i_0.mp hc)
    refine s_bipush C dX9_order_40 ⟨rfl, by decide, by decide⟩ ?_
    exact s_ireturn C dX9_order_42 h
  · have h := h.2 (b2i_n0 hc)
    refine s_iload_n C dX9_order_7 rfl ?_
    refine s_iconst C dX9_order_8 (by decide) ?_
    refine s_sipush C dX9_order_9 ⟨rfl, by decide, by decide⟩ ?_
    refine s_callS (av := [(0, l2), (0, 0), (0, 1023)]) (rest := []) (mc := 0) (ms := 0) C dX9_order_12 lk_X9_95 rfl rfl (Nat.le_of_ble_eq_true rfl) (by decide) (by decide) (pc_X9_within) (fun z2 wz2 Mz2 hq => ?_)
    obtain ⟨hq1, hq2, hq3⟩ := hq
    have hq2 := hq2.symm
    have hq3 := hq3.symm
    subst hq1 hq2 hq3
    refine s_ifeq C dX9_order_15 rfl (fun hc => ?_) (fun hc => ?_)
    · have h := h.1 (b2i_0.mp hc)
      refine s_bipush C dX9_order_40 ⟨rfl, by decide, by decide⟩ ?_
      exact s_ireturn C dX9_order_42 h
    · have h := h.2 (b2i_n0 hc)
      refine s_iload_n C dX9_order_18 rfl ?_
      refine s_iload C dX9_order_19 rfl ?_
      refine s_bipush C dX9_order_21 ⟨rfl, by decide, by decide⟩ ?_
      refine s_callS (av := [(0, l3), (0, l4), (0, 100)]) (rest := []) (mc := 0) (ms := 0) C dX9_order_23 lk_X9_145 rfl rfl (Nat.le_of_ble_eq_true rfl) (by decide) (by decide) (pc_X9_isRange) (fun z3 wz3 Mz3 hq => ?_)
      obtain ⟨hq1, hq2, hq3⟩ := hq
      have hq2 := hq2.symm
      have hq3 := hq3.symm
      subst hq1 hq2 hq3
      refine s_ifeq C dX9_order_26 rfl (fun hc => ?_) (fun hc => ?_)
      · have h := h.1 (b2i_0.mp hc)
        refine s_bipush C dX9_order_40 ⟨rfl, by decide, by decide⟩ ?_
        exact s_ireturn C dX9_order_42 h
      · have h := h.2 (b2i_n0 hc)
        refine s_iload C dX9_order_29 rfl ?_
        refine s_iconst C dX9_order_31 (by decide) ?_
        refine s_bipush C dX9_order_32 ⟨rfl, by decide, by decide⟩ ?_
        refine s_callS (av := [(0, l5), (0, 0), (0, 20)]) (rest := []) (mc := 0) (ms := 0) C dX9_order_34 lk_X9_95 rfl rfl (Nat.le_of_ble_eq_true rfl) (by decide) (by decide) (pc_X9_within) (fun z4 wz4 Mz4 hq => ?_)
        obtain ⟨hq1, hq2, hq3⟩ := hq
        have hq2 := hq2.symm
        have hq3 := hq3.symm
        subst hq1 hq2 hq3
        refine s_ifne C dX9_order_37 rfl (fun hc => ?_) (fun hc => ?_)
        · have h := h.1 (b2i_n0 hc)
          refine s_aload_n C dX9_order_43 rfl ?_
          refine WA.fix (fun hF5 => ?_)
          refine gf_X9_41 (v0 := (M 1 7)) C (sh_1 hF5) dX9_order_44 rfl ?_
          refine s_bipush C dX9_order_47 ⟨rfl, by decide, by decide⟩ ?_
          refine s_icmplt C dX9_order_49 rfl (fun hc => ?_) (fun hc => ?_)
          · have h := h.1 hc
            refine s_aload_n C dX9_order_55 rfl ?_
            refine gf_X9_47 (v0 := (M 1 8)) C (sh_1 hF5) dX9_order_56 rfl ?_
            obtain ⟨o6, h⟩ := h
            obtain ⟨Q7, hKQ7, h⟩ := h
            refine s_callV (ci := 8) (av := []) (rest := []) (mc := 0) (ms := 0) C dX9_order_59 lk_X9_198 o6 (by decide) rfl rfl rfl (Nat.le_of_ble_eq_true rfl) (by decide) (by decide) hKQ7 (fun z7 w7 M7 hq => ?_)
            have h := h z7 w7 M7 hq
            refine s_bipush C dX9_order_62 ⟨rfl, by decide, by decide⟩ ?_
            refine s_icmpeq C dX9_order_64 rfl (fun hc => ?_) (fun hc => ?_)
            · have h := h.1 hc
              refine s_aload_n C dX9_order_70 rfl ?_
              refine WA.fix (fun hF8 => ?_)
              refine gf_X9_37 C (sh_1 hF8) dX9_order_71 (fx_1_6 hF8) ?_
              refine s_aload_n C dX9_order_74 rfl ?_
              refine gf_X9_41 (v0 := (M7 1 7)) C (sh_1 hF8) dX9_order_75 rfl ?_
              refine nw_X9_35 C dX9_order_78 ?_
              refine WA.nmW (fun w9 ew9 => ?_)
              have h := h _ ew9
              obtain ⟨o10, h⟩ := h
              have k11 : w9.2 1 = (10, 17) := by rw [ew9]; exact us_ne (sh_1 hF8) (Int.ne_of_lt o10)
              have b12 : 1 < (w9.1 : Int) := by have := o10; rw [ew9]; show _ < ((w7.1 + 1 : Nat) : Int); omega
              have k13 : w9.2 (w7.1 : Int) = (4, 7) := by rw [ew9]; exact us_new _ _ _ _
              have b14 : (w7.1 : Int) < (w9.1 : Int) := by rw [ew9]; show _ < ((w7.1 + 1 : Nat) : Int); omega
              refine s_dup C (by simp) dX9_order_81 ?_
              refine s_iload_n C dX9_order_82 rfl ?_
              refine s_aload_n C dX9_order_83 rfl ?_
              refine gf_X9_47 (v0 := (M7 1 8)) C k11 dX9_order_84 rfl ?_
              refine s_iload_n C dX9_order_87 rfl ?_
              refine s_iload_n C dX9_order_88 rfl ?_
              refine s_iload C dX9_order_89 rfl ?_
              refine s_iload C dX9_order_91 rfl ?_
              refine s_iload C dX9_order_93 rfl ?_
              obtain ⟨Q15, hKQ15, h⟩ := h
              refine s_callI (av := [(0, l1), (2, (M7 1 8)), (0, l2), (0, l3), (0, l4), (0, l5), (0, l6)]) (rest := [(2, (w7.1 : Int)), (0, (M7 1 7)), (2, 6)]) (mc := 0) (ms := 0) C dX9_order_95 lk_X9_205 k13 (by decide) rfl rfl (Nat.le_of_ble_eq_true rfl) (by decide) (by decide) hKQ15 (fun z15 w15 M15 hq => ?_)
              have h := h z15 w15 M15 hq
              obtain ⟨o16, h⟩ := h
              refine WA.refix o16 ?_
              refine WA.fix (fun hF17 => ?_)
              obtain ⟨o18, h⟩ := h
              obtain ⟨o19, h⟩ := h
              obtain ⟨o20, h⟩ := h
              refine s_aast (t0 := 4) (ci := 3) C (sh_6 hF17) (by decide) rfl rfl (by decide) o20 o18 o19 (fun _ => by decide) dX9_order_98 ?_
              refine s_aload_n C dX9_order_99 rfl ?_
              refine nw_X9_44 C dX9_order_100 ?_
              refine WA.nmW (fun w21 ew21 => ?_)
              have h := h _ ew21
              obtain ⟨o22, h⟩ := h
              have k23 : w21.2 6 = (16, 10) := by rw [ew21]; exact us_ne (sh_6 hF17) (Int.ne_of_lt o22)
              have b24 : 6 < (w21.1 : Int) := by have := o22; rw [ew21]; show _ < ((w15.1 + 1 : Nat) : Int); omega
              obtain ⟨o25, h⟩ := h
              have k26 : w21.2 (w7.1 : Int) = (4, 7) := by rw [ew21]; exact us_ne o20 (Int.ne_of_lt o25)
              have b27 : (w7.1 : Int) < (w21.1 : Int) := by have := o25; rw [ew21]; show _ < ((w15.1 + 1 : Nat) : Int); omega
              have k28 : w21.2 (w15.1 : Int) = (9, 2) := by rw [ew21]; exact us_new _ _ _ _
              have b29 : (w15.1 : Int) < (w21.1 : Int) := by rw [ew21]; show _ < ((w15.1 + 1 : Nat) : Int); omega
              refine s_dup C (by simp) dX9_order_103 ?_
              obtain ⟨Q30, hKQ30, h⟩ := h
              refine s_callIN (av := []) (rest := [(2, (w15.1 : Int)), (2, 1)]) (mc := 1) (ms := 40) C dX9_order_104 lk_X9_46 k28 (by decide) rfl rfl (Nat.le_of_ble_eq_true rfl) (by decide) (by decide) hKQ30 (fun z30 w30 M30 hq => ?_)
              have h := h z30 w30 M30 hq
              obtain ⟨o31, h⟩ := h
              refine WA.refix o31 ?_
              refine WA.fix (fun hF32 => ?_)
              refine pf_X9_47 C (sh_1 hF32) (fun _ => by decide) dX9_order_107 ?_
              refine s_aload_n C dX9_order_110 rfl ?_
              refine s_dup C (by simp) dX9_order_111 ?_
              refine gf_X9_41 (v0 := (M30 1 7)) C (sh_1 hF32) dX9_order_112 (up_ni (by decide)) ?_
              refine s_dup_x1 C (by simp) (by simp) dX9_order_115 ?_
              refine s_iconst C dX9_order_116 (by decide) ?_
              obtain ⟨o33, h⟩ := h
              refine s_iadd C dX9_order_117 o33 ?_
              refine pf_X9_41 C (sh_1 hF32) (fun _ => by decide) dX9_order_118 ?_
              exact s_ireturn C dX9_order_121 h
            · have h := h.2 hc
              refine s_bipush C dX9_order_67 ⟨rfl, by decide, by decide⟩ ?_
              exact s_ireturn C dX9_order_69 h
          · have h := h.2 hc
            refine s_bipush C dX9_order_52 ⟨rfl, by decide, by decide⟩ ?_
            exact s_ireturn C dX9_order_54 h
        · have h := h.2 (b2i_nn hc)
          refine s_bipush C dX9_order_40 ⟨rfl, by decide, by decide⟩ ?_
          exact s_ireturn C dX9_order_42 h
theorem E_X9_order {G : GP} {l : Launch} {P : Int → NS → MM → Prop} {l1 : Int} {l2 : Int} {l3 : Int} {l4 : Int} {l5 : Int} {l6 : Int} {w : NS} {M : MM} (h : inR l1 → inR l2 → inR l3 → inR l4 → inR l5 → inR l6 → ∀ X : BX, X.2.1 = l → CX_X9_order G X → A_X9_order_0 G X P l1 l2 l3 l4 l5 l6 w M) : CT_X9_order G l [(2, 1), (0, l1), (0, l2), (0, l3), (0, l4), (0, l5), (0, l6)] w M P :=
  CT.of RX9 "order" (by decide +kernel) rfl rfl rfl (Nat.le_of_ble_eq_true rfl) (fun hr X hX C => h (hr (0, l1) (by simp)) (hr (0, l2) (by simp)) (hr (0, l3) (by simp)) (hr (0, l4) (by simp)) (hr (0, l5) (by simp)) (hr (0, l6) (by simp)) X hX C)
def A_X8_signAt_0 (G : GP) (X : BX) (P : Int → NS → MM → Prop) (l0 : Int) (l1 : Int) (w : NS) (M : MM) : Prop := WA true G X (QM G X true 0 P) 2 0 [(2, l0), (0, l1)] [] 0 0 w M
set_option maxHeartbeats 4000000 in
set_option maxRecDepth 100000 in
theorem B_X8_signAt_0 {G : GP} {X : BX} {P : Int → NS → MM → Prop} {l0 : Int} {l1 : Int} {w : NS} {M : MM} (C : CX_X8_signAt G X) (h : (((l1 < 0) → P 0 w M) ∧ ((¬ (l1 < 0)) → (w.2 l0 = (9, 2)) ∧ ((((M l0 1) ≤ l1) → P 0 w M) ∧ ((¬ ((M l0 1) ≤ l1)) → (0 ≤ l1) ∧ (l1 < 40) ∧ P (M (l0 + 1) l1) w M))))) : A_X8_signAt_0 G X P l0 l1 w M := by
  unfold A_X8_signAt_0
  refine s_iload_n C dX8_signAt_0 rfl ?_
  refine s_iflt C dX8_signAt_1 rfl (fun hc => ?_) (fun hc => ?_)
  · have h := h.1 hc
    refine s_iconst C dX8_signAt_21 (by decide) ?_
    exact s_ireturn C dX8_signAt_22 h
  · have h := h.2 hc
    refine s_iload_n C dX8_signAt_4 rfl ?_
    refine s_aload_n C dX8_signAt_5 rfl ?_
    obtain ⟨o1, h⟩ := h
    refine gf_X8_15 (v0 := (M l0 1)) C o1 dX8_signAt_6 rfl ?_
    refine s_icmpge C dX8_signAt_9 rfl (fun hc => ?_) (fun hc => ?_)
    · have h := h.1 hc
      refine s_iconst C dX8_signAt_21 (by decide) ?_
      exact s_ireturn C dX8_signAt_22 h
    · have h := h.2 hc
      refine s_aload_n C dX8_signAt_12 rfl ?_
      refine WA.fix (fun hF2 => ?_)
      have hd3 := FixA.dy (t := 9) (n := 2) (k := 0) (m := 40) hF2 (by decide) o1
      refine gf_X8_11 C o1 dX8_signAt_13 hd3.1 ?_
      refine s_iload_n C dX8_signAt_16 rfl ?_
      obtain ⟨o4, h⟩ := h
      obtain ⟨o5, h⟩ := h
      refine s_iald (v0 := (M (l0 + 1) l1)) C hd3.2 o4 o5 dX8_signAt_17 rfl ?_
      refine s_goto C dX8_signAt_18 rfl ?_
      exact s_ireturn C dX8_signAt_22 h
theorem E_X8_signAt {G : GP} {l : Launch} {P : Int → NS → MM → Prop} {l0 : Int} {l1 : Int} {w : NS} {M : MM} (h : inR l1 → ∀ X : BX, X.2.1 = l → CX_X8_signAt G X → A_X8_signAt_0 G X P l0 l1 w M) : CT_X8_signAt G l [(2, l0), (0, l1)] w M P :=
  CT.of RX8 "signAt" (by decide +kernel) rfl rfl rfl (Nat.le_of_ble_eq_true rfl) (fun hr X hX C => h (hr (0, l1) (by simp)) X hX C)
def A_X8_digitAt_0 (G : GP) (X : BX) (P : Int → NS → MM → Prop) (l0 : Int) (l1 : Int) (w : NS) (M : MM) : Prop := WA true G X (QM G X true 0 P) 3 0 [(2, l0), (0, l1), (3, 0)] [] 0 0 w M
set_option maxHeartbeats 4000000 in
set_option maxRecDepth 100000 in
theorem B_X8_digitAt_0 {G : GP} {X : BX} {P : Int → NS → MM → Prop} {l0 : Int} {l1 : Int} {w : NS} {M : MM} (C : CX_X8_digitAt G X) (h : (((l1 < 0) → P (-1) w M) ∧ ((¬ (l1 < 0)) → (w.2 l0 = (9, 2)) ∧ ((((M l0 1) ≤ l1) → P (-1) w M) ∧ ((¬ ((M l0 1) ≤ l1)) → (0 ≤ l1) ∧ (l1 < 40) ∧ ((((M (l0 + 1) l1) < 48) → P (-1) w M) ∧ ((¬ ((M (l0 + 1) l1) < 48)) → (((57 < (M (l0 + 1) l1)) → P (-1) w M) ∧ ((¬ (57 < (M (l0 + 1) l1))) → (inR ((M (l0 + 1) l1) - 48)) ∧ P ((M (l0 + 1) l1) - 48) w M))))))))) : A_X8_digitAt_0 G X P l0 l1 w M := by
  unfold A_X8_digitAt_0
  refine s_iload_n C dX8_digitAt_0 rfl ?_
  refine s_iflt C dX8_digitAt_1 rfl (fun hc => ?_) (fun hc => ?_)
  · have h := h.1 hc
    refine s_iconst C dX8_digitAt_38 (by decide) ?_
    refine s_istore_n (ls' := [(2, l0), (0, l1), (0, 0)]) C dX8_digitAt_39 (by decide) rfl rfl ?_
    refine s_iload_n C dX8_digitAt_40 rfl ?_
    refine s_ifeq C dX8_digitAt_41 rfl (fun hc => ?_) (fun hc => absurd (by decide) hc)
    refine s_iconst C dX8_digitAt_56 (by decide) ?_
    exact s_ireturn C dX8_digitAt_57 h
  · have h := h.2 hc
    refine s_iload_n C dX8_digitAt_4 rfl ?_
    refine s_aload_n C dX8_digitAt_5 rfl ?_
    obtain ⟨o1, h⟩ := h
    refine gf_X8_15 (v0 := (M l0 1)) C o1 dX8_digitAt_6 rfl ?_
    refine s_icmpge C dX8_digitAt_9 rfl (fun hc => ?_) (fun hc => ?_)
    · have h := h.1 hc
      refine s_iconst C dX8_digitAt_38 (by decide) ?_
      refine s_istore_n (ls' := [(2, l0), (0, l1), (0, 0)]) C dX8_digitAt_39 (by decide) rfl rfl ?_
      refine s_iload_n C dX8_digitAt_40 rfl ?_
      refine s_ifeq C dX8_digitAt_41 rfl (fun hc => ?_) (fun hc => absurd (by decide) hc)
      refine s_iconst C dX8_digitAt_56 (by decide) ?_
      exact s_ireturn C dX8_digitAt_57 h
    · have h := h.2 hc
      refine s_aload_n C dX8_digitAt_12 rfl ?_
      refine WA.fix (fun hF2 => ?_)
      have hd3 := FixA.dy (t := 9) (n := 2) (k := 0) (m := 40) hF2 (by decide) o1
      refine gf_X8_11 C o1 dX8_digitAt_13 hd3.1 ?_
      refine s_iload_n C dX8_digitAt_16 rfl ?_
      obtain ⟨o4, h⟩ := h
      obtain ⟨o5, h⟩ := h
      refine s_iald (v0 := (M (l0 + 1) l1)) C hd3.2 o4 o5 dX8_digitAt_17 rfl ?_
      refine s_bipush C dX8_digitAt_18 ⟨rfl, by decide, by decide⟩ ?_
      refine s_icmplt C dX8_digitAt_20 rfl (fun hc => ?_) (fun hc => ?_)
      · have h := h.1 hc
        refine s_iconst C dX8_digitAt_38 (by decide) ?_
        refine s_istore_n (ls' := [(2, l0), (0, l1), (0, 0)]) C dX8_digitAt_39 (by decide) rfl rfl ?_
        refine s_iload_n C dX8_digitAt_40 rfl ?_
        refine s_ifeq C dX8_digitAt_41 rfl (fun hc => ?_) (fun hc => absurd (by decide) hc)
        refine s_iconst C dX8_digitAt_56 (by decide) ?_
        exact s_ireturn C dX8_digitAt_57 h
      · have h := h.2 hc
        refine s_aload_n C dX8_digitAt_23 rfl ?_
        have hd6 := FixA.dy (t := 9) (n := 2) (k := 0) (m := 40) hF2 (by decide) o1
        refine gf_X8_11 C o1 dX8_digitAt_24 hd6.1 ?_
        refine s_iload_n C dX8_digitAt_27 rfl ?_
        refine s_iald (v0 := (M (l0 + 1) l1)) C hd6.2 o4 o5 dX8_digitAt_28 rfl ?_
        refine s_bipush C dX8_digitAt_29 ⟨rfl, by decide, by decide⟩ ?_
        refine s_icmpgt C dX8_digitAt_31 rfl (fun hc => ?_) (fun hc => ?_)
        · have h := h.1 hc
          refine s_iconst C dX8_digitAt_38 (by decide) ?_
          refine s_istore_n (ls' := [(2, l0), (0, l1), (0, 0)]) C dX8_digitAt_39 (by decide) rfl rfl ?_
          refine s_iload_n C dX8_digitAt_40 rfl ?_
          refine s_ifeq C dX8_digitAt_41 rfl (fun hc => ?_) (fun hc => absurd (by decide) hc)
          refine s_iconst C dX8_digitAt_56 (by decide) ?_
          exact s_ireturn C dX8_digitAt_57 h
        · have h := h.2 hc
          refine s_iconst C dX8_digitAt_34 (by decide) ?_
          refine s_goto C dX8_digitAt_35 rfl ?_
          refine s_istore_n (ls' := [(2, l0), (0, l1), (0, 1)]) C dX8_digitAt_39 (by decide) rfl rfl ?_
          refine s_iload_n C dX8_digitAt_40 rfl ?_
          refine s_ifeq C dX8_digitAt_41 rfl (fun hc => absurd hc (by decide)) (fun hc => ?_)
          refine s_aload_n C dX8_digitAt_44 rfl ?_
          have hd7 := FixA.dy (t := 9) (n := 2) (k := 0) (m := 40) hF2 (by decide) o1
          refine gf_X8_11 C o1 dX8_digitAt_45 hd7.1 ?_
          refine s_iload_n C dX8_digitAt_48 rfl ?_
          refine s_iald (v0 := (M (l0 + 1) l1)) C hd7.2 o4 o5 dX8_digitAt_49 rfl ?_
          refine s_bipush C dX8_digitAt_50 ⟨rfl, by decide, by decide⟩ ?_
          obtain ⟨o8, h⟩ := h
          refine s_isub C dX8_digitAt_52 o8 ?_
          refine s_goto C dX8_digitAt_53 rfl ?_
          exact s_ireturn C dX8_digitAt_57 h
theorem E_X8_digitAt {G : GP} {l : Launch} {P : Int → NS → MM → Prop} {l0 : Int} {l1 : Int} {w : NS} {M : MM} (h : inR l1 → ∀ X : BX, X.2.1 = l → CX_X8_digitAt G X → A_X8_digitAt_0 G X P l0 l1 w M) : CT_X8_digitAt G l [(2, l0), (0, l1)] w M P :=
  CT.of RX8 "digitAt" (by decide +kernel) rfl rfl rfl (Nat.le_of_ble_eq_true rfl) (fun hr X hX C => h (hr (0, l1) (by simp)) X hX C)
def A_X8_startsItem_0 (G : GP) (X : BX) (P : Int → NS → MM → Prop) (l0 : Int) (l1 : Int) (w : NS) (M : MM) : Prop := WA true G X (QM G X true 0 P) 4 0 [(2, l0), (0, l1), (3, 0), (3, 0)] [] 0 0 w M
set_option maxHeartbeats 4000000 in
set_option maxRecDepth 100000 in
theorem B_X8_startsItem_0 {G : GP} {X : BX} {P : Int → NS → MM → Prop} {l0 : Int} {l1 : Int} {w : NS} {M : MM} (C : CX_X8_startsItem G X) (h : (inR (l1 - 1)) ∧ (w.2 l0 = (9, 2)) ∧ ∃ Q3 : Int → NS → MM → Prop, CT_X8_signAt G X.2.1 [(2, l0), (0, (l1 - 1))] w M Q3 ∧ ∀ (z3 : Int) (w3 : NS) (M3 : MM), Q3 z3 w3 M3 → (w3.2 l0 = (9, 2)) ∧ ∃ Q5 : Int → NS → MM → Prop, CT_X8_digitAt G X.2.1 [(2, l0), (0, (l1 - 1))] w3 M3 Q5 ∧ ∀ (z5 : Int) (w5 : NS) (M5 : MM), Q5 z5 w5 M5 → (((0 ≤ z5) → (w5.2 l0 = (9, 2)) ∧ ∃ Q7 : Int → NS → MM → Prop, CT_X8_digitAt G X.2.1 [(2, l0), (0, l1)] w5 M5 Q7 ∧ ∀ (z7 : Int) (w7 : NS) (M7 : MM), Q7 z7 w7 M7 → (((z7 < 0) → P 0 w7 M7) ∧ ((¬ (z7 < 0)) → P 0 w7 M7))) ∧ ((¬ (0 ≤ z5)) → (((z3 = 126) → (w5.2 l0 = (9, 2)) ∧ ∃ Q9 : Int → NS → MM → Prop, CT_X8_digitAt G X.2.1 [(2, l0), (0, l1)] w5 M5 Q9 ∧ ∀ (z9 : Int) (w9 : NS) (M9 : MM), Q9 z9 w9 M9 → (((z9 < 0) → P 0 w9 M9) ∧ ((¬ (z9 < 0)) → P 0 w9 M9))) ∧ ((¬ (z3 = 126)) → (((z3 = 58) → (w5.2 l0 = (9, 2)) ∧ ∃ Q11 : Int → NS → MM → Prop, CT_X8_digitAt G X.2.1 [(2, l0), (0, l1)] w5 M5 Q11 ∧ ∀ (z11 : Int) (w11 : NS) (M11 : MM), Q11 z11 w11 M11 → (((z11 < 0) → P 0 w11 M11) ∧ ((¬ (z11 < 0)) → P 0 w11 M11))) ∧ ((¬ (z3 = 58)) → (((z3 ≠ 62) → (w5.2 l0 = (9, 2)) ∧ ∃ Q13 : Int → NS → MM → Prop, CT_X8_digitAt G X.2.1 [(2, l0), (0, l1)] w5 M5 Q13 ∧ ∀ (z13 : Int) (w13 : NS) (M13 : MM), Q13 z13 w13 M13 → (((z13 < 0) → P 0 w13 M13) ∧ ((¬ (z13 < 0)) → P 1 w13 M13))) ∧ ((¬ (z3 ≠ 62)) → (w5.2 l0 = (9, 2)) ∧ ∃ Q15 : Int → NS → MM → Prop, CT_X8_digitAt G X.2.1 [(2, l0), (0, l1)] w5 M5 Q15 ∧ ∀ (z15 : Int) (w15 : NS) (M15 : MM), Q15 z15 w15 M15 → (((z15 < 0) → P 0 w15 M15) ∧ ((¬ (z15 < 0)) → P 0 w15 M15))))))))))) : A_X8_startsItem_0 G X P l0 l1 w M := by
  unfold A_X8_startsItem_0
  refine s_aload_n C dX8_startsItem_0 rfl ?_
  refine s_iload_n C dX8_startsItem_1 rfl ?_
  refine s_iconst C dX8_startsItem_2 (by decide) ?_
  obtain ⟨o1, h⟩ := h
  refine s_isub C dX8_startsItem_3 o1 ?_
  obtain ⟨o2, h⟩ := h
  obtain ⟨Q3, hKQ3, h⟩ := h
  refine s_callV (ci := 8) (av := [(0, (l1 - 1))]) (rest := []) (mc := 0) (ms := 0) C dX8_startsItem_4 lk_X8_42 o2 (by decide) rfl rfl rfl (Nat.le_of_ble_eq_true rfl) (by decide) (by decide) hKQ3 (fun z3 w3 M3 hq => ?_)
  have h := h z3 w3 M3 hq
  refine s_istore_n (ls' := [(2, l0), (0, l1), (0, z3), (3, 0)]) C dX8_startsItem_7 (by decide) rfl rfl ?_
  refine s_aload_n C dX8_startsItem_8 rfl ?_
  refine s_iload_n C dX8_startsItem_9 rfl ?_
  refine s_iconst C dX8_startsItem_10 (by decide) ?_
  refine s_isub C dX8_startsItem_11 o1 ?_
  obtain ⟨o4, h⟩ := h
  obtain ⟨Q5, hKQ5, h⟩ := h
  refine s_callV (ci := 8) (av := [(0, (l1 - 1))]) (rest := []) (mc := 0) (ms := 0) C dX8_startsItem_12 lk_X8_46 o4 (by decide) rfl rfl rfl (Nat.le_of_ble_eq_true rfl) (by decide) (by decide) hKQ5 (fun z5 w5 M5 hq => ?_)
  have h := h z5 w5 M5 hq
  refine s_ifge C dX8_startsItem_15 rfl (fun hc => ?_) (fun hc => ?_)
  · have h := h.1 hc
    refine s_iconst C dX8_startsItem_36 (by decide) ?_
    refine s_goto C dX8_startsItem_37 rfl ?_
    refine s_istore_n (ls' := [(2, l0), (0, l1), (0, z3), (0, 1)]) C dX8_startsItem_41 (by decide) rfl rfl ?_
    refine s_aload_n C dX8_startsItem_42 rfl ?_
    refine s_iload_n C dX8_startsItem_43 rfl ?_
    obtain ⟨o6, h⟩ := h
    obtain ⟨Q7, hKQ7, h⟩ := h
    refine s_callV (ci := 8) (av := [(0, l1)]) (rest := []) (mc := 0) (ms := 0) C dX8_startsItem_44 lk_X8_46 o6 (by decide) rfl rfl rfl (Nat.le_of_ble_eq_true rfl) (by decide) (by decide) hKQ7 (fun z7 w7 M7 hq => ?_)
    have h := h z7 w7 M7 hq
    refine s_iflt C dX8_startsItem_47 rfl (fun hc => ?_) (fun hc => ?_)
    · have h := h.1 hc
      refine s_iconst C dX8_startsItem_58 (by decide) ?_
      exact s_zreturn C dX8_startsItem_59 (by decide) h
    · have h := h.2 hc
      refine s_iload_n C dX8_startsItem_50 rfl ?_
      refine s_ifne C dX8_startsItem_51 rfl (fun hc => ?_) (fun hc => absurd (by decide) hc)
      refine s_iconst C dX8_startsItem_58 (by decide) ?_
      exact s_zreturn C dX8_startsItem_59 (by decide) h
  · have h := h.2 hc
    refine s_iload_n C dX8_startsItem_18 rfl ?_
    refine s_bipush C dX8_startsItem_19 ⟨rfl, by decide, by decide⟩ ?_
    refine s_icmpeq C dX8_startsItem_21 rfl (fun hc => ?_) (fun hc => ?_)
    · have h := h.1 hc
      refine s_iconst C dX8_startsItem_36 (by decide) ?_
      refine s_goto C dX8_startsItem_37 rfl ?_
      refine s_istore_n (ls' := [(2, l0), (0, l1), (0, z3), (0, 1)]) C dX8_startsItem_41 (by decide) rfl rfl ?_
      refine s_aload_n C dX8_startsItem_42 rfl ?_
      refine s_iload_n C dX8_startsItem_43 rfl ?_
      obtain ⟨o8, h⟩ := h
      obtain ⟨Q9, hKQ9, h⟩ := h
      refine s_callV (ci := 8) (av := [(0, l1)]) (rest := []) (mc := 0) (ms := 0) C dX8_startsItem_44 lk_X8_46 o8 (by decide) rfl rfl rfl (Nat.le_of_ble_eq_true rfl) (by decide) (by decide) hKQ9 (fun z9 w9 M9 hq => ?_)
      have h := h z9 w9 M9 hq
      refine s_iflt C dX8_startsItem_47 rfl (fun hc => ?_) (fun hc => ?_)
      · have h := h.1 hc
        refine s_iconst C dX8_startsItem_58 (by decide) ?_
        exact s_zreturn C dX8_startsItem_59 (by decide) h
      · have h := h.2 hc
        refine s_iload_n C dX8_startsItem_50 rfl ?_
        refine s_ifne C dX8_startsItem_51 rfl (fun hc => ?_) (fun hc => absurd (by decide) hc)
        refine s_iconst C dX8_startsItem_58 (by decide) ?_
        exact s_zreturn C dX8_startsItem_59 (by decide) h
    · have h := h.2 hc
      refine s_iload_n C dX8_startsItem_24 rfl ?_
      refine s_bipush C dX8_startsItem_25 ⟨rfl, by decide, by decide⟩ ?_
      refine s_icmpeq C dX8_startsItem_27 rfl (fun hc => ?_) (fun hc => ?_)
      · have h := h.1 hc
        refine s_iconst C dX8_startsItem_36 (by decide) ?_
        refine s_goto C dX8_startsItem_37 rfl ?_
        refine s_istore_n (ls' := [(2, l0), (0, l1), (0, z3), (0, 1)]) C dX8_startsItem_41 (by decide) rfl rfl ?_
        refine s_aload_n C dX8_startsItem_42 rfl ?_
        refine s_iload_n C dX8_startsItem_43 rfl ?_
        obtain ⟨o10, h⟩ := h
        obtain ⟨Q11, hKQ11, h⟩ := h
        refine s_callV (ci := 8) (av := [(0, l1)]) (rest := []) (mc := 0) (ms := 0) C dX8_startsItem_44 lk_X8_46 o10 (by decide) rfl rfl rfl (Nat.le_of_ble_eq_true rfl) (by decide) (by decide) hKQ11 (fun z11 w11 M11 hq => ?_)
        have h := h z11 w11 M11 hq
        refine s_iflt C dX8_startsItem_47 rfl (fun hc => ?_) (fun hc => ?_)
        · have h := h.1 hc
          refine s_iconst C dX8_startsItem_58 (by decide) ?_
          exact s_zreturn C dX8_startsItem_59 (by decide) h
        · have h := h.2 hc
          refine s_iload_n C dX8_startsItem_50 rfl ?_
          refine s_ifne C dX8_startsItem_51 rfl (fun hc => ?_) (fun hc => absurd (by decide) hc)
          refine s_iconst C dX8_startsItem_58 (by decide) ?_
          exact s_zreturn C dX8_startsItem_59 (by decide) h
      · have h := h.2 hc
        refine s_iload_n C dX8_startsItem_30 rfl ?_
        refine s_bipush C dX8_startsItem_31 ⟨rfl, by decide, by decide⟩ ?_
        refine s_icmpne C dX8_startsItem_33 rfl (fun hc => ?_) (fun hc => ?_)
        · have h := h.1 hc
          refine s_iconst C dX8_startsItem_40 (by decide) ?_
          refine s_istore_n (ls' := [(2, l0), (0, l1), (0, z3), (0, 0)]) C dX8_startsItem_41 (by decide) rfl rfl ?_
          refine s_aload_n C dX8_startsItem_42 rfl ?_
          refine s_iload_n C dX8_startsItem_43 rfl ?_
          obtain ⟨o12, h⟩ := h
          obtain ⟨Q13, hKQ13, h⟩ := h
          refine s_callV (ci := 8) (av := [(0, l1)]) (rest := []) (mc := 0) (ms := 0) C dX8_startsItem_44 lk_X8_46 o12 (by decide) rfl rfl rfl (Nat.le_of_ble_eq_true rfl) (by decide) (by decide) hKQ13 (fun z13 w13 M13 hq => ?_)
          have h := h z13 w13 M13 hq
          refine s_iflt C dX8_startsItem_47 rfl (fun hc => ?_) (fun hc => ?_)
          · have h := h.1 hc
            refine s_iconst C dX8_startsItem_58 (by decide) ?_
            exact s_zreturn C dX8_startsItem_59 (by decide) h
          · have h := h.2 hc
            refine s_iload_n C dX8_startsItem_50 rfl ?_
            refine s_ifne C dX8_startsItem_51 rfl (fun hc => absurd hc (by decide)) (fun hc => ?_)
            refine s_iconst C dX8_startsItem_54 (by decide) ?_
            refine s_goto C dX8_startsItem_55 rfl ?_
            exact s_zreturn C dX8_startsItem_59 (by decide) h
        · have h := h.2 hc
          refine s_iconst C dX8_startsItem_36 (by decide) ?_
          refine s_goto C dX8_startsItem_37 rfl ?_
          refine s_istore_n (ls' := [(2, l0), (0, l1), (0, z3), (0, 1)]) C dX8_startsItem_41 (by decide) rfl rfl ?_
          refine s_aload_n C dX8_startsItem_42 rfl ?_
          refine s_iload_n C dX8_startsItem_43 rfl ?_
          obtain ⟨o14, h⟩ := h
          obtain ⟨Q15, hKQ15, h⟩ := h
          refine s_callV (ci := 8) (av := [(0, l1)]) (rest := []) (mc := 0) (ms := 0) C dX8_startsItem_44 lk_X8_46 o14 (by decide) rfl rfl rfl (Nat.le_of_ble_eq_true rfl) (by decide) (by decide) hKQ15 (fun z15 w15 M15 hq => ?_)
          have h := h z15 w15 M15 hq
          refine s_iflt C dX8_startsItem_47 rfl (fun hc => ?_) (fun hc => ?_)
          · have h := h.1 hc
            refine s_iconst C dX8_startsItem_58 (by decide) ?_
            exact s_zreturn C dX8_startsItem_59 (by decide) h
          · have h := h.2 hc
            refine s_iload_n C dX8_startsItem_50 rfl ?_
            refine s_ifne C dX8_startsItem_51 rfl (fun hc => ?_) (fun hc => absurd (by decide) hc)
            refine s_iconst C dX8_startsItem_58 (by decide) ?_
            exact s_zreturn C dX8_startsItem_59 (by decide) h
theorem E_X8_startsItem {G : GP} {l : Launch} {P : Int → NS → MM → Prop} {l0 : Int} {l1 : Int} {w : NS} {M : MM} (h : inR l1 → ∀ X : BX, X.2.1 = l → CX_X8_startsItem G X → A_X8_startsItem_0 G X P l0 l1 w M) : CT_X8_startsItem G l [(2, l0), (0, l1)] w M P :=
  CT.of RX8 "startsItem" (by decide +kernel) rfl rfl rfl (Nat.le_of_ble_eq_true rfl) (fun hr X hX C => h (hr (0, l1) (by simp)) X hX C)
def A_X8_wordAt_0 (G : GP) (X : BX) (P : Int → NS → MM → Prop) (l0 : Int) (l1 : Int) (w : NS) (M : MM) : Prop := WA true G X (QM G X true 0 P) 4 0 [(2, l0), (0, l1), (3, 0), (3, 0)] [] 0 0 w M
set_option maxHeartbeats 4000000 in
set_option maxRecDepth 100000 in
theorem B_X8_wordAt_0 {G : GP} {X : BX} {P : Int → NS → MM → Prop} {l0 : Int} {l1 : Int} {w : NS} {M : MM} (C : CX_X8_wordAt G X) (h : (w.2 l0 = (9, 2)) ∧ ∃ Q2 : Int → NS → MM → Prop, CT_X8_digitAt G X.2.1 [(2, l0), (0, l1)] w M Q2 ∧ ∀ (z2 : Int) (w2 : NS) (M2 : MM), Q2 z2 w2 M2 → (inR (l1 + 1)) ∧ (w2.2 l0 = (9, 2)) ∧ ∃ Q5 : Int → NS → MM → Prop, CT_X8_digitAt G X.2.1 [(2, l0), (0, (l1 + 1))] w2 M2 Q5 ∧ ∀ (z5 : Int) (w5 : NS) (M5 : MM), Q5 z5 w5 M5 → (((0 ≤ z5) → (inR (10 * z2)) ∧ (inR ((10 * z2) + z5)) ∧ P ((10 * z2) + z5) w5 M5) ∧ ((¬ (0 ≤ z5)) → P z2 w5 M5))) : A_X8_wordAt_0 G X P l0 l1 w M := by
  unfold A_X8_wordAt_0
  refine s_aload_n C dX8_wordAt_0 rfl ?_
  refine s_iload_n C dX8_wordAt_1 rfl ?_
  obtain ⟨o1, h⟩ := h
  obtain ⟨Q2, hKQ2, h⟩ := h
  refine s_callV (ci := 8) (av := [(0, l1)]) (rest := []) (mc := 0) (ms := 0) C dX8_wordAt_2 lk_X8_46 o1 (by decide) rfl rfl rfl (Nat.le_of_ble_eq_true rfl) (by decide) (by decide) hKQ2 (fun z2 w2 M2 hq => ?_)
  have h := h z2 w2 M2 hq
  refine s_istore_n (ls' := [(2, l0), (0, l1), (0, z2), (3, 0)]) C dX8_wordAt_5 (by decide) rfl rfl ?_
  refine s_aload_n C dX8_wordAt_6 rfl ?_
  refine s_iload_n C dX8_wordAt_7 rfl ?_
  refine s_iconst C dX8_wordAt_8 (by decide) ?_
  obtain ⟨o3, h⟩ := h
  refine s_iadd C dX8_wordAt_9 o3 ?_
  obtain ⟨o4, h⟩ := h
  obtain ⟨Q5, hKQ5, h⟩ := h
  refine s_callV (ci := 8) (av := [(0, (l1 + 1))]) (rest := []) (mc := 0) (ms := 0) C dX8_wordAt_10 lk_X8_46 o4 (by decide) rfl rfl rfl (Nat.le_of_ble_eq_true rfl) (by decide) (by decide) hKQ5 (fun z5 w5 M5 hq => ?_)
  have h := h z5 w5 M5 hq
  refine s_istore_n (ls' := [(2, l0), (0, l1), (0, z2), (0, z5)]) C dX8_wordAt_13 (by decide) rfl rfl ?_
  refine s_iload_n C dX8_wordAt_14 rfl ?_
  refine s_ifge C dX8_wordAt_15 rfl (fun hc => ?_) (fun hc => ?_)
  · have h := h.1 hc
    refine s_bipush C dX8_wordAt_22 ⟨rfl, by decide, by decide⟩ ?_
    refine s_iload_n C dX8_wordAt_24 rfl ?_
    obtain ⟨o6, h⟩ := h
    refine s_imul C dX8_wordAt_25 o6 ?_
    refine s_iload_n C dX8_wordAt_26 rfl ?_
    obtain ⟨o7, h⟩ := h
    refine s_iadd C dX8_wordAt_27 o7 ?_
    exact s_ireturn C dX8_wordAt_28 h
  · have h := h.2 hc
    refine s_iload_n C dX8_wordAt_18 rfl ?_
    refine s_goto C dX8_wordAt_19 rfl ?_
    exact s_ireturn C dX8_wordAt_28 h
theorem E_X8_wordAt {G : GP} {l : Launch} {P : Int → NS → MM → Prop} {l0 : Int} {l1 : Int} {w : NS} {M : MM} (h : inR l1 → ∀ X : BX, X.2.1 = l → CX_X8_wordAt G X → A_X8_wordAt_0 G X P l0 l1 w M) : CT_X8_wordAt G l [(2, l0), (0, l1)] w M P :=
  CT.of RX8 "wordAt" (by decide +kernel) rfl rfl rfl (Nat.le_of_ble_eq_true rfl) (fun hr X hX C => h (hr (0, l1) (by simp)) X hX C)
def A_X6_hasNear_0 (G : GP) (X : BX) (P : Int → NS → MM → Prop) (l0 : Int) (l1 : Int) (l2 : Int) (l3 : Int) (w : NS) (M : MM) : Prop := WA true G X (QM G X true 0 P) 6 0 [(2, l0), (0, l1), (0, l2), (0, l3), (3, 0), (3, 0)] [] 0 0 w M
def A_X6_hasNear_3 (G : GP) (X : BX) (P : Int → NS → MM → Prop) (l0 : Int) (l1 : Int) (l2 : Int) (l3 : Int) (l4 : Int) (w : NS) (M : MM) : Prop := WA true G X (QM G X true 0 P) 6 3 [(2, l0), (0, l1), (0, l2), (0, l3), (0, l4), (3, 0)] [] 0 0 w M
def A_X6_hasNear_18 (G : GP) (X : BX) (P : Int → NS → MM → Prop) (l0 : Int) (l1 : Int) (l2 : Int) (l3 : Int) (l4 : Int) (l5 : Int) (w : NS) (M : MM) : Prop := WA true G X (QM G X true 0 P) 6 18 [(2, l0), (0, l1), (0, l2), (0, l3), (0, l4), (0, l5)] [] 0 0 w M
set_option maxHeartbeats 4000000 in
set_option maxRecDepth 100000 in
theorem B_X6_hasNear_0 {G : GP} {X : BX} {P : Int → NS → MM → Prop} {l0 : Int} {l1 : Int} {l2 : Int} {l3 : Int} {w : NS} {M : MM} (C : CX_X6_hasNear G X) (h : A_X6_hasNear_3 G X P l0 l1 l2 l3 0 w M) : A_X6_hasNear_0 G X P l0 l1 l2 l3 w M := by
  unfold A_X6_hasNear_0
  refine s_iconst C dX6_hasNear_0 (by decide) ?_
  refine s_istore (ls' := [(2, l0), (0, l1), (0, l2), (0, l3), (0, 0), (3, 0)]) C dX6_hasNear_1 (by decide) rfl rfl ?_
  exact h
set_option maxHeartbeats 4000000 in
set_option maxRecDepth 100000 in
theorem B_X6_hasNear_3 {G : GP} {X : BX} {P : Int → NS → MM → Prop} {l0 : Int} {l1 : Int} {l2 : Int} {l3 : Int} {l4 : Int} {w : NS} {M : MM} (C : CX_X6_hasNear G X) (h : (w.2 l0 = (7, 12)) ∧ ((((M l0 7) ≤ l4) → P 0 w M) ∧ ((¬ ((M l0 7) ≤ l4)) → (inR (l4 + 1)) ∧ A_X6_hasNear_18 G X P l0 l1 l2 l3 l4 (l4 + 1) w M))) : A_X6_hasNear_3 G X P l0 l1 l2 l3 l4 w M := by
  unfold A_X6_hasNear_3
  refine s_iload C dX6_hasNear_3 rfl ?_
  refine s_aload_n C dX6_hasNear_5 rfl ?_
  obtain ⟨o1, h⟩ := h
  refine gf_X6_15 (v0 := (M l0 7)) C o1 dX6_hasNear_6 rfl ?_
  refine s_icmpge C dX6_hasNear_9 rfl (fun hc => ?_) (fun hc => ?_)
  · have h := h.1 hc
    refine s_iconst C dX6_hasNear_94 (by decide) ?_
    exact s_zreturn C dX6_hasNear_95 (by decide) h
  · have h := h.2 hc
    refine s_iload C dX6_hasNear_12 rfl ?_
    refine s_iconst C dX6_hasNear_14 (by decide) ?_
    obtain ⟨o2, h⟩ := h
    refine s_iadd C dX6_hasNear_15 o2 ?_
    refine s_istore (ls' := [(2, l0), (0, l1), (0, l2), (0, l3), (0, l4), (0, (l4 + 1))]) C dX6_hasNear_16 (by decide) rfl rfl ?_
    exact h
set_option maxHeartbeats 4000000 in
set_option maxRecDepth 100000 in
theorem B_X6_hasNear_18 {G : GP} {X : BX} {P : Int → NS → MM → Prop} {l0 : Int} {l1 : Int} {l2 : Int} {l3 : Int} {l4 : Int} {l5 : Int} {w : NS} {M : MM} (C : CX_X6_hasNear G X) (h : (w.2 l0 = (7, 12)) ∧ ((((M l0 7) ≤ l5) → (inR (l4 + 1)) ∧ A_X6_hasNear_3 G X P l0 l1 l2 l3 (l4 + 1) w M) ∧ ((¬ ((M l0 7) ≤ l5)) → (inR (l4 + l3)) ∧ ((((l4 + l3) < l5) → (inR (l4 + 1)) ∧ A_X6_hasNear_3 G X P l0 l1 l2 l3 (l4 + 1) w M) ∧ ((¬ ((l4 + l3) < l5)) → (0 ≤ l4) ∧ (l4 < 60) ∧ ((((M (l0 + 1) l4) ≠ l1) → ((((M (l0 + 1) l4) ≠ l2) → (inR (l5 + 1)) ∧ A_X6_hasNear_18 G X P l0 l1 l2 l3 l4 (l5 + 1) w M) ∧ ((¬ ((M (l0 + 1) l4) ≠ l2)) → (0 ≤ l5) ∧ (l5 < 60) ∧ ((((M (l0 + 1) l5) ≠ l1) → (inR (l5 + 1)) ∧ A_X6_hasNear_18 G X P l0 l1 l2 l3 l4 (l5 + 1) w M) ∧ ((¬ ((M (l0 + 1) l5) ≠ l1)) → P 1 w M))))) ∧ ((¬ ((M (l0 + 1) l4) ≠ l1)) → (0 ≤ l5) ∧ (l5 < 60) ∧ ((((M (l0 + 1) l5) = l2) → P 1 w M) ∧ ((¬ ((M (l0 + 1) l5) = l2)) → ((((M (l0 + 1) l4) ≠ l2) → (inR (l5 + 1)) ∧ A_X6_hasNear_18 G X P l0 l1 l2 l3 l4 (l5 + 1) w M) ∧ ((¬ ((M (l0 + 1) l4) ≠ l2)) → ((((M (l0 + 1) l5) ≠ l1) → (inR (l5 + 1)) ∧ A_X6_hasNear_18 G X P l0 l1 l2 l3 l4 (l5 + 1) w M) ∧ ((¬ ((M (l0 + 1) l5) ≠ l1)) → P 1 w M))))))))))))) : A_X6_hasNear_18 G X P l0 l1 l2 l3 l4 l5 w M := by
  unfold A_X6_hasNear_18
  refine s_iload C dX6_hasNear_18 rfl ?_
  refine s_aload_n C dX6_hasNear_20 rfl ?_
  obtain ⟨o1, h⟩ := h
  refine gf_X6_15 (v0 := (M l0 7)) C o1 dX6_hasNear_21 rfl ?_
  refine s_icmpge C dX6_hasNear_24 rfl (fun hc => ?_) (fun hc => ?_)
  · have h := h.1 hc
    obtain ⟨o2, h⟩ := h
    refine s_iinc (ls' := [(2, l0), (0, l1), (0, l2), (0, l3), (0, (l4 + 1)), (0, l5)]) C dX6_hasNear_88 (by decide) rfl o2 rfl rfl ?_
    refine s_goto C dX6_hasNear_91 rfl ?_
    exact WA.wk h ⟨Or.inr rfl, Or.inr rfl, Or.inr rfl, Or.inr rfl, Or.inr rfl, Or.inl rfl, trivial⟩
  · have h := h.2 hc
    refine s_iload C dX6_hasNear_27 rfl ?_
    refine s_iload C dX6_hasNear_29 rfl ?_
    refine s_iload_n C dX6_hasNear_31 rfl ?_
    obtain ⟨o3, h⟩ := h
    refine s_iadd C dX6_hasNear_32 o3 ?_
    refine s_icmpgt C dX6_hasNear_33 rfl (fun hc => ?_) (fun hc => ?_)
    · have h := h.1 hc
      obtain ⟨o4, h⟩ := h
      refine s_iinc (ls' := [(2, l0), (0, l1), (0, l2), (0, l3), (0, (l4 + 1)), (0, l5)]) C dX6_hasNear_88 (by decide) rfl o4 rfl rfl ?_
      refine s_goto C dX6_hasNear_91 rfl ?_
      exact WA.wk h ⟨Or.inr rfl, Or.inr rfl, Or.inr rfl, Or.inr rfl, Or.inr rfl, Or.inl rfl, trivial⟩
    · have h := h.2 hc
      refine s_aload_n C dX6_hasNear_36 rfl ?_
      refine WA.fix (fun hF5 => ?_)
      have hd6 := FixA.dy (t := 7) (n := 12) (k := 6) (m := 60) hF5 (by decide) o1
      refine gf_X6_9 C o1 dX6_hasNear_37 hd6.1 ?_
      refine s_iload C dX6_hasNear_40 rfl ?_
      obtain ⟨o7, h⟩ := h
      obtain ⟨o8, h⟩ := h
      refine s_iald (v0 := (M (l0 + 1) l4)) C hd6.2 o7 o8 dX6_hasNear_42 rfl ?_
      refine s_iload_n C dX6_hasNear_43 rfl ?_
      refine s_icmpne C dX6_hasNear_44 rfl (fun hc => ?_) (fun hc => ?_)
      · have h := h.1 hc
        refine s_aload_n C dX6_hasNear_58 rfl ?_
        have hd9 := FixA.dy (t := 7) (n := 12) (k := 6) (m := 60) hF5 (by decide) o1
        refine gf_X6_9 C o1 dX6_hasNear_59 hd9.1 ?_
        refine s_iload C dX6_hasNear_62 rfl ?_
        refine s_iald (v0 := (M (l0 + 1) l4)) C hd9.2 o7 o8 dX6_hasNear_64 rfl ?_
        refine s_iload_n C dX6_hasNear_65 rfl ?_
        refine s_icmpne C dX6_hasNear_66 rfl (fun hc => ?_) (fun hc => ?_)
        · have h := h.1 hc
          obtain ⟨o10, h⟩ := h
          refine s_iinc (ls' := [(2, l0), (0, l1), (0, l2), (0, l3), (0, l4), (0, (l5 + 1))]) C dX6_hasNear_82 (by decide) rfl o10 rfl rfl ?_
          refine s_goto C dX6_hasNear_85 rfl ?_
          exact h
        · have h := h.2 hc
          refine s_aload_n C dX6_hasNear_69 rfl ?_
          have hd11 := FixA.dy (t := 7) (n := 12) (k := 6) (m := 60) hF5 (by decide) o1
          refine gf_X6_9 C o1 dX6_hasNear_70 hd11.1 ?_
          refine s_iload C dX6_hasNear_73 rfl ?_
          obtain ⟨o12, h⟩ := h
          obtain ⟨o13, h⟩ := h
          refine s_iald (v0 := (M (l0 + 1) l5)) C hd11.2 o12 o13 dX6_hasNear_75 rfl ?_
          refine s_iload_n C dX6_hasNear_76 rfl ?_
          refine s_icmpne C dX6_hasNear_77 rfl (fun hc => ?_) (fun hc => ?_)
          · have h := h.1 hc
            obtain ⟨o14, h⟩ := h
            refine s_iinc (ls' := [(2, l0), (0, l1), (0, l2), (0, l3), (0, l4), (0, (l5 + 1))]) C dX6_hasNear_82 (by decide) rfl o14 rfl rfl ?_
            refine s_goto C dX6_hasNear_85 rfl ?_
            exact h
          · have h := h.2 hc
            refine s_iconst C dX6_hasNear_80 (by decide) ?_
            exact s_zreturn C dX6_hasNear_81 (by decide) h
      · have h := h.2 hc
        refine s_aload_n C dX6_hasNear_47 rfl ?_
        have hd15 := FixA.dy (t := 7) (n := 12) (k := 6) (m := 60) hF5 (by decide) o1
        refine gf_X6_9 C o1 dX6_hasNear_48 hd15.1 ?_
        refine s_iload C dX6_hasNear_51 rfl ?_
        obtain ⟨o16, h⟩ := h
        obtain ⟨o17, h⟩ := h
        refine s_iald (v0 := (M (l0 + 1) l5)) C hd15.2 o16 o17 dX6_hasNear_53 rfl ?_
        refine s_iload_n C dX6_hasNear_54 rfl ?_
        refine s_icmpeq C dX6_hasNear_55 rfl (fun hc => ?_) (fun hc => ?_)
        · have h := h.1 hc
          refine s_iconst C dX6_hasNear_80 (by decide) ?_
          exact s_zreturn C dX6_hasNear_81 (by decide) h
        · have h := h.2 hc
          refine s_aload_n C dX6_hasNear_58 rfl ?_
          have hd18 := FixA.dy (t := 7) (n := 12) (k := 6) (m := 60) hF5 (by decide) o1
          refine gf_X6_9 C o1 dX6_hasNear_59 hd18.1 ?_
          refine s_iload C dX6_hasNear_62 rfl ?_
          refine s_iald (v0 := (M (l0 + 1) l4)) C hd18.2 o7 o8 dX6_hasNear_64 rfl ?_
          refine s_iload_n C dX6_hasNear_65 rfl ?_
          refine s_icmpne C dX6_hasNear_66 rfl (fun hc => ?_) (fun hc => ?_)
          · have h := h.1 hc
            obtain ⟨o19, h⟩ := h
            refine s_iinc (ls' := [(2, l0), (0, l1), (0, l2), (0, l3), (0, l4), (0, (l5 + 1))]) C dX6_hasNear_82 (by decide) rfl o19 rfl rfl ?_
            refine s_goto C dX6_hasNear_85 rfl ?_
            exact h
          · have h := h.2 hc
            refine s_aload_n C dX6_hasNear_69 rfl ?_
            have hd20 := FixA.dy (t := 7) (n := 12) (k := 6) (m := 60) hF5 (by decide) o1
            refine gf_X6_9 C o1 dX6_hasNear_70 hd20.1 ?_
            refine s_iload C dX6_hasNear_73 rfl ?_
            refine s_iald (v0 := (M (l0 + 1) l5)) C hd20.2 o16 o17 dX6_hasNear_75 rfl ?_
            refine s_iload_n C dX6_hasNear_76 rfl ?_
            refine s_icmpne C dX6_hasNear_77 rfl (fun hc => ?_) (fun hc => ?_)
            · have h := h.1 hc
              obtain ⟨o21, h⟩ := h
              refine s_iinc (ls' := [(2, l0), (0, l1), (0, l2), (0, l3), (0, l4), (0, (l5 + 1))]) C dX6_hasNear_82 (by decide) rfl o21 rfl rfl ?_
              refine s_goto C dX6_hasNear_85 rfl ?_
              exact h
            · have h := h.2 hc
              refine s_iconst C dX6_hasNear_80 (by decide) ?_
              exact s_zreturn C dX6_hasNear_81 (by decide) h
theorem E_X6_hasNear {G : GP} {l : Launch} {P : Int → NS → MM → Prop} {l0 : Int} {l1 : Int} {l2 : Int} {l3 : Int} {w : NS} {M : MM} (h : inR l1 → inR l2 → inR l3 → ∀ X : BX, X.2.1 = l → CX_X6_hasNear G X → A_X6_hasNear_0 G X P l0 l1 l2 l3 w M) : CT_X6_hasNear G l [(2, l0), (0, l1), (0, l2), (0, l3)] w M P :=
  CT.of RX6 "hasNear" (by decide +kernel) rfl rfl rfl (Nat.le_of_ble_eq_true rfl) (fun hr X hX C => h (hr (0, l1) (by simp)) (hr (0, l2) (by simp)) (hr (0, l3) (by simp)) X hX C)
def A_X6_howOften_0 (G : GP) (X : BX) (P : Int → NS → MM → Prop) (l0 : Int) (l1 : Int) (w : NS) (M : MM) : Prop := WA true G X (QM G X true 0 P) 4 0 [(2, l0), (0, l1), (3, 0), (3, 0)] [] 0 0 w M
def A_X6_howOften_4 (G : GP) (X : BX) (P : Int → NS → MM → Prop) (l0 : Int) (l1 : Int) (l2 : Int) (l3 : Int) (w : NS) (M : MM) : Prop := WA true G X (QM G X true 0 P) 4 4 [(2, l0), (0, l1), (0, l2), (0, l3)] [] 0 0 w M
set_option maxHeartbeats 4000000 in
set_option maxRecDepth 100000 in
theorem B_X6_howOften_0 {G : GP} {X : BX} {P : Int → NS → MM → Prop} {l0 : Int} {l1 : Int} {w : NS} {M : MM} (C : CX_X6_howOften G X) (h : A_X6_howOften_4 G X P l0 l1 0 0 w M) : A_X6_howOften_0 G X P l0 l1 w M := by
  unfold A_X6_howOften_0
  refine s_iconst C dX6_howOften_0 (by decide) ?_
  refine s_istore_n (ls' := [(2, l0), (0, l1), (0, 0), (3, 0)]) C dX6_howOften_1 (by decide) rfl rfl ?_
  refine s_iconst C dX6_howOften_2 (by decide) ?_
  refine s_istore_n (ls' := [(2, l0), (0, l1), (0, 0), (0, 0)]) C dX6_howOften_3 (by decide) rfl rfl ?_
  exact h
set_option maxHeartbeats 4000000 in
set_option maxRecDepth 100000 in
theorem B_X6_howOften_4 {G : GP} {X : BX} {P : Int → NS → MM → Prop} {l0 : Int} {l1 : Int} {l2 : Int} {l3 : Int} {w : NS} {M : MM} (C : CX_X6_howOften G X) (h : (w.2 l0 = (7, 12)) ∧ ((((M l0 7) ≤ l3) → P l2 w M) ∧ ((¬ ((M l0 7) ≤ l3)) → (0 ≤ l3) ∧ (l3 < 60) ∧ ((((M (l0 + 1) l3) ≠ l1) → (inR (l3 + 1)) ∧ A_X6_howOften_4 G X P l0 l1 l2 (l3 + 1) w M) ∧ ((¬ ((M (l0 + 1) l3) ≠ l1)) → (inR (l2 + 1)) ∧ (inR (l3 + 1)) ∧ A_X6_howOften_4 G X P l0 l1 (l2 + 1) (l3 + 1) w M))))) : A_X6_howOften_4 G X P l0 l1 l2 l3 w M := by
  unfold A_X6_howOften_4
  refine s_iload_n C dX6_howOften_4 rfl ?_
  refine s_aload_n C dX6_howOften_5 rfl ?_
  obtain ⟨o1, h⟩ := h
  refine gf_X6_15 (v0 := (M l0 7)) C o1 dX6_howOften_6 rfl ?_
  refine s_icmpge C dX6_howOften_9 rfl (fun hc => ?_) (fun hc => ?_)
  · have h := h.1 hc
    refine s_iload_n C dX6_howOften_31 rfl ?_
    exact s_ireturn C dX6_howOften_32 h
  · have h := h.2 hc
    refine s_aload_n C dX6_howOften_12 rfl ?_
    refine WA.fix (fun hF2 => ?_)
    have hd3 := FixA.dy (t := 7) (n := 12) (k := 6) (m := 60) hF2 (by decide) o1
    refine gf_X6_9 C o1 dX6_howOften_13 hd3.1 ?_
    refine s_iload_n C dX6_howOften_16 rfl ?_
    obtain ⟨o4, h⟩ := h
    obtain ⟨o5, h⟩ := h
    refine s_iald (v0 := (M (l0 + 1) l3)) C hd3.2 o4 o5 dX6_howOften_17 rfl ?_
    refine s_iload_n C dX6_howOften_18 rfl ?_
    refine s_icmpne C dX6_howOften_19 rfl (fun hc => ?_) (fun hc => ?_)
    · have h := h.1 hc
      obtain ⟨o6, h⟩ := h
      refine s_iinc (ls' := [(2, l0), (0, l1), (0, l2), (0, (l3 + 1))]) C dX6_howOften_25 (by decide) rfl o6 rfl rfl ?_
      refine s_goto C dX6_howOften_28 rfl ?_
      exact h
    · have h := h.2 hc
      obtain ⟨o7, h⟩ := h
      refine s_iinc (ls' := [(2, l0), (0, l1), (0, (l2 + 1)), (0, l3)]) C dX6_howOften_22 (by decide) rfl o7 rfl rfl ?_
      obtain ⟨o8, h⟩ := h
      refine s_iinc (ls' := [(2, l0), (0, l1), (0, (l2 + 1)), (0, (l3 + 1))]) C dX6_howOften_25 (by decide) rfl o8 rfl rfl ?_
      refine s_goto C dX6_howOften_28 rfl ?_
      exact h
theorem E_X6_howOften {G : GP} {l : Launch} {P : Int → NS → MM → Prop} {l0 : Int} {l1 : Int} {w : NS} {M : MM} (h : inR l1 → ∀ X : BX, X.2.1 = l → CX_X6_howOften G X → A_X6_howOften_0 G X P l0 l1 w M) : CT_X6_howOften G l [(2, l0), (0, l1)] w M P :=
  CT.of RX6 "howOften" (by decide +kernel) rfl rfl rfl (Nat.le_of_ble_eq_true rfl) (fun hr X hX C => h (hr (0, l1) (by simp)) X hX C)
def A_X8_itemIsSo_0 (G : GP) (X : BX) (P : Int → NS → MM → Prop) (l0 : Int) (l1 : Int) (l2 : Int) (w : NS) (M : MM) : Prop := WA true G X (QM G X true 0 P) 5 0 [(2, l0), (2, l1), (0, l2), (3, 0), (3, 0)] [] 0 0 w M
set_option maxHeartbeats 4000000 in
set_option maxRecDepth 100000 in
theorem B_X8_itemIsSo_0 {G : GP} {X : BX} {P : Int → NS → MM → Prop} {l0 : Int} {l1 : Int} {l2 : Int} {w : NS} {M : MM} (C : CX_X8_itemIsSo G X) (h : (w.2 l0 = (9, 2)) ∧ ∃ Q2 : Int → NS → MM → Prop, CT_X8_wordAt G X.2.1 [(2, l0), (0, l2)] w M Q2 ∧ ∀ (z2 : Int) (w2 : NS) (M2 : MM), Q2 z2 w2 M2 → (inR (l2 + 1)) ∧ (w2.2 l0 = (9, 2)) ∧ ∃ Q5 : Int → NS → MM → Prop, CT_X8_digitAt G X.2.1 [(2, l0), (0, (l2 + 1))] w2 M2 Q5 ∧ ∀ (z5 : Int) (w5 : NS) (M5 : MM), Q5 z5 w5 M5 → (((0 ≤ z5) → (inR (l2 + 2)) ∧ (w5.2 l0 = (9, 2)) ∧ ∃ Q8 : Int → NS → MM → Prop, CT_X8_signAt G X.2.1 [(2, l0), (0, (l2 + 2))] w5 M5 Q8 ∧ ∀ (z8 : Int) (w8 : NS) (M8 : MM), Q8 z8 w8 M8 → (((z8 ≠ 126) → (w8.2 l0 = (9, 2)) ∧ ∃ Q10 : Int → NS → MM → Prop, CT_X8_signAt G X.2.1 [(2, l0), (0, (l2 + 2))] w8 M8 Q10 ∧ ∀ (z10 : Int) (w10 : NS) (M10 : MM), Q10 z10 w10 M10 → (((z10 ≠ 62) → (w10.2 l1 = (7, 12)) ∧ ∃ Q12 : Int → NS → MM → Prop, CT_X6_howOften G X.2.1 [(2, l1), (0, z2)] w10 M10 Q12 ∧ ∀ (z12 : Int) (w12 : NS) (M12 : MM), Q12 z12 w12 M12 → (((z12 ≤ 0) → P 0 w12 M12) ∧ ((¬ (z12 ≤ 0)) → P 1 w12 M12))) ∧ ((¬ (z10 ≠ 62)) → (w10.2 l1 = (7, 12)) ∧ ∃ Q14 : Int → NS → MM → Prop, CT_X6_howOften G X.2.1 [(2, l1), (0, z2)] w10 M10 Q14 ∧ ∀ (z14 : Int) (w14 : NS) (M14 : MM), Q14 z14 w14 M14 → (inR ((l2 + 2) + 1)) ∧ (w14.2 l0 = (9, 2)) ∧ ∃ Q17 : Int → NS → MM → Prop, CT_X8_digitAt G X.2.1 [(2, l0), (0, ((l2 + 2) + 1))] w14 M14 Q17 ∧ ∀ (z17 : Int) (w17 : NS) (M17 : MM), Q17 z17 w17 M17 → (((z14 ≤ z17) → P 0 w17 M17) ∧ ((¬ (z14 ≤ z17)) → P 1 w17 M17))))) ∧ ((¬ (z8 ≠ 126)) → (inR ((l2 + 2) + 3)) ∧ (w8.2 l0 = (9, 2)) ∧ ∃ Q20 : Int → NS → MM → Prop, CT_X8_wordAt G X.2.1 [(2, l0), (0, ((l2 + 2) + 3))] w8 M8 Q20 ∧ ∀ (z20 : Int) (w20 : NS) (M20 : MM), Q20 z20 w20 M20 → (inR ((l2 + 2) + 1)) ∧ (w20.2 l0 = (9, 2)) ∧ ∃ Q23 : Int → NS → MM → Prop, CT_X8_digitAt G X.2.1 [(2, l0), (0, ((l2 + 2) + 1))] w20 M20 Q23 ∧ ∀ (z23 : Int) (w23 : NS) (M23 : MM), Q23 z23 w23 M23 → (w23.2 l1 = (7, 12)) ∧ ∃ Q25 : Int → NS → MM → Prop, CT_X6_hasNear G X.2.1 [(2, l1), (0, z2), (0, z20), (0, z23)] w23 M23 Q25 ∧ ∀ (z25 : Int) (w25 : NS) (M25 : MM), Q25 z25 w25 M25 → (z25 = 0 ∨ z25 = 1) ∧ P z25 w25 M25))) ∧ ((¬ (0 ≤ z5)) → (w5.2 l0 = (9, 2)) ∧ ∃ Q28 : Int → NS → MM → Prop, CT_X8_signAt G X.2.1 [(2, l0), (0, (l2 + 1))] w5 M5 Q28 ∧ ∀ (z28 : Int) (w28 : NS) (M28 : MM), Q28 z28 w28 M28 → (((z28 ≠ 126) → (w28.2 l0 = (9, 2)) ∧ ∃ Q30 : Int → NS → MM → Prop, CT_X8_signAt G X.2.1 [(2, l0), (0, (l2 + 1))] w28 M28 Q30 ∧ ∀ (z30 : Int) (w30 : NS) (M30 : MM), Q30 z30 w30 M30 → (((z30 ≠ 62) → (w30.2 l1 = (7, 12)) ∧ ∃ Q32 : Int → NS → MM → Prop, CT_X6_howOften G X.2.1 [(2, l1), (0, z2)] w30 M30 Q32 ∧ ∀ (z32 : Int) (w32 : NS) (M32 : MM), Q32 z32 w32 M32 → (((z32 ≤ 0) → P 0 w32 M32) ∧ ((¬ (z32 ≤ 0)) → P 1 w32 M32))) ∧ ((¬ (z30 ≠ 62)) → (w30.2 l1 = (7, 12)) ∧ ∃ Q34 : Int → NS → MM → Prop, CT_X6_howOften G X.2.1 [(2, l1), (0, z2)] w30 M30 Q34 ∧ ∀ (z34 : Int) (w34 : NS) (M34 : MM), Q34 z34 w34 M34 → (inR ((l2 + 1) + 1)) ∧ (w34.2 l0 = (9, 2)) ∧ ∃ Q37 : Int → NS → MM → Prop, CT_X8_digitAt G X.2.1 [(2, l0), (0, ((l2 + 1) + 1))] w34 M34 Q37 ∧ ∀ (z37 : Int) (w37 : NS) (M37 : MM), Q37 z37 w37 M37 → (((z34 ≤ z37) → P 0 w37 M37) ∧ ((¬ (z34 ≤ z37)) → P 1 w37 M37))))) ∧ ((¬ (z28 ≠ 126)) → (inR ((l2 + 1) + 3)) ∧ (w28.2 l0 = (9, 2)) ∧ ∃ Q40 : Int → NS → MM → Prop, CT_X8_wordAt G X.2.1 [(2, l0), (0, ((l2 + 1) + 3))] w28 M28 Q40 ∧ ∀ (z40 : Int) (w40 : NS) (M40 : MM), Q40 z40 w40 M40 → (inR ((l2 + 1) + 1)) ∧ (w40.2 l0 = (9, 2)) ∧ ∃ Q43 : Int → NS → MM → Prop, CT_X8_digitAt G X.2.1 [(2, l0), (0, ((l2 + 1) + 1))] w40 M40 Q43 ∧ ∀ (z43 : Int) (w43 : NS) (M43 : MM), Q43 z43 w43 M43 → (w43.2 l1 = (7, 12)) ∧ ∃ Q45 : Int → NS → MM → Prop, CT_X6_hasNear G X.2.1 [(2, l1), (0, z2), (0, z40), (0, z43)] w43 M43 Q45 ∧ ∀ (z45 : Int) (w45 : NS) (M45 : MM), Q45 z45 w45 M45 → (z45 = 0 ∨ z45 = 1) ∧ P z45 w45 M45))))) : A_X8_itemIsSo_0 G X P l0 l1 l2 w M := by
  unfold A_X8_itemIsSo_0
  refine s_aload_n C dX8_itemIsSo_0 rfl ?_
  refine s_iload_n C dX8_itemIsSo_1 rfl ?_
  obtain ⟨o1, h⟩ := h
  obtain ⟨Q2, hKQ2, h⟩ := h
  refine s_callV (ci := 8) (av := [(0, l2)]) (rest := []) (mc := 0) (ms := 0) C dX8_itemIsSo_2 lk_X8_49 o1 (by decide) rfl rfl rfl (Nat.le_of_ble_eq_true rfl) (by decide) (by decide) hKQ2 (fun z2 w2 M2 hq => ?_)
  have h := h z2 w2 M2 hq
  refine s_istore_n (ls' := [(2, l0), (2, l1), (0, l2), (0, z2), (3, 0)]) C dX8_itemIsSo_5 (by decide) rfl rfl ?_
  refine s_aload_n C dX8_itemIsSo_6 rfl ?_
  refine s_iload_n C dX8_itemIsSo_7 rfl ?_
  refine s_iconst C dX8_itemIsSo_8 (by decide) ?_
  obtain ⟨o3, h⟩ := h
  refine s_iadd C dX8_itemIsSo_9 o3 ?_
  obtain ⟨o4, h⟩ := h
  obtain ⟨Q5, hKQ5, h⟩ := h
  refine s_callV (ci := 8) (av := [(0, (l2 + 1))]) (rest := []) (mc := 0) (ms := 0) C dX8_itemIsSo_10 lk_X8_46 o4 (by decide) rfl rfl rfl (Nat.le_of_ble_eq_true rfl) (by decide) (by decide) hKQ5 (fun z5 w5 M5 hq => ?_)
  have h := h z5 w5 M5 hq
  refine s_ifge C dX8_itemIsSo_13 rfl (fun hc => ?_) (fun hc => ?_)
  · have h := h.1 hc
    refine s_iload_n C dX8_itemIsSo_22 rfl ?_
    refine s_iconst C dX8_itemIsSo_23 (by decide) ?_
    obtain ⟨o6, h⟩ := h
    refine s_iadd C dX8_itemIsSo_24 o6 ?_
    refine s_istore (ls' := [(2, l0), (2, l1), (0, l2), (0, z2), (0, (l2 + 2))]) C dX8_itemIsSo_25 (by decide) rfl rfl ?_
    refine s_aload_n C dX8_itemIsSo_27 rfl ?_
    refine s_iload C dX8_itemIsSo_28 rfl ?_
    obtain ⟨o7, h⟩ := h
    obtain ⟨Q8, hKQ8, h⟩ := h
    refine s_callV (ci := 8) (av := [(0, (l2 + 2))]) (rest := []) (mc := 0) (ms := 0) C dX8_itemIsSo_30 lk_X8_42 o7 (by decide) rfl rfl rfl (Nat.le_of_ble_eq_true rfl) (by decide) (by decide) hKQ8 (fun z8 w8 M8 hq => ?_)
    have h := h z8 w8 M8 hq
    refine s_bipush C dX8_itemIsSo_33 ⟨rfl, by decide, by decide⟩ ?_
    refine s_icmpne C dX8_itemIsSo_35 rfl (fun hc => ?_) (fun hc => ?_)
    · have h := h.1 hc
      refine s_aload_n C dX8_itemIsSo_60 rfl ?_
      refine s_iload C dX8_itemIsSo_61 rfl ?_
      obtain ⟨o9, h⟩ := h
      obtain ⟨Q10, hKQ10, h⟩ := h
      refine s_callV (ci := 8) (av := [(0, (l2 + 2))]) (rest := []) (mc := 0) (ms := 0) C dX8_itemIsSo_63 lk_X8_42 o9 (by decide) rfl rfl rfl (Nat.le_of_ble_eq_true rfl) (by decide) (by decide) hKQ10 (fun z10 w10 M10 hq => ?_)
      have h := h z10 w10 M10 hq
      refine s_bipush C dX8_itemIsSo_66 ⟨rfl, by decide, by decide⟩ ?_
      refine s_icmpne C dX8_itemIsSo_68 rfl (fun hc => ?_) (fun hc => ?_)
      · have h := h.1 hc
        refine s_aload_n C dX8_itemIsSo_93 rfl ?_
        refine s_iload_n C dX8_itemIsSo_94 rfl ?_
        obtain ⟨o11, h⟩ := h
        obtain ⟨Q12, hKQ12, h⟩ := h
        refine s_callV (ci := 6) (av := [(0, z2)]) (rest := []) (mc := 0) (ms := 0) C dX8_itemIsSo_95 lk_X8_58 o11 (by decide) rfl rfl rfl (Nat.le_of_ble_eq_true rfl) (by decide) (by decide) hKQ12 (fun z12 w12 M12 hq => ?_)
        have h := h z12 w12 M12 hq
        refine s_ifle C dX8_itemIsSo_98 rfl (fun hc => ?_) (fun hc => ?_)
        · have h := h.1 hc
          refine s_iconst C dX8_itemIsSo_105 (by decide) ?_
          exact s_zreturn C dX8_itemIsSo_106 (by decide) h
        · have h := h.2 hc
          refine s_iconst C dX8_itemIsSo_101 (by decide) ?_
          refine s_goto C dX8_itemIsSo_102 rfl ?_
          exact s_zreturn C dX8_itemIsSo_106 (by decide) h
      · have h := h.2 hc
        refine s_aload_n C dX8_itemIsSo_71 rfl ?_
        refine s_iload_n C dX8_itemIsSo_72 rfl ?_
        obtain ⟨o13, h⟩ := h
        obtain ⟨Q14, hKQ14, h⟩ := h
        refine s_callV (ci := 6) (av := [(0, z2)]) (rest := []) (mc := 0) (ms := 0) C dX8_itemIsSo_73 lk_X8_58 o13 (by decide) rfl rfl rfl (Nat.le_of_ble_eq_true rfl) (by decide) (by decide) hKQ14 (fun z14 w14 M14 hq => ?_)
        have h := h z14 w14 M14 hq
        refine s_aload_n C dX8_itemIsSo_76 rfl ?_
        refine s_iload C dX8_itemIsSo_77 rfl ?_
        refine s_iconst C dX8_itemIsSo_79 (by decide) ?_
        obtain ⟨o15, h⟩ := h
        refine s_iadd C dX8_itemIsSo_80 o15 ?_
        obtain ⟨o16, h⟩ := h
        obtain ⟨Q17, hKQ17, h⟩ := h
        refine s_callV (ci := 8) (av := [(0, ((l2 + 2) + 1))]) (rest := [(0, z14)]) (mc := 0) (ms := 0) C dX8_itemIsSo_81 lk_X8_46 o16 (by decide) rfl rfl rfl (Nat.le_of_ble_eq_true rfl) (by decide) (by decide) hKQ17 (fun z17 w17 M17 hq => ?_)
        have h := h z17 w17 M17 hq
        refine s_icmple C dX8_itemIsSo_84 rfl (fun hc => ?_) (fun hc => ?_)
        · have h := h.1 hc
          refine s_iconst C dX8_itemIsSo_91 (by decide) ?_
          exact s_zreturn C dX8_itemIsSo_92 (by decide) h
        · have h := h.2 hc
          refine s_iconst C dX8_itemIsSo_87 (by decide) ?_
          refine s_goto C dX8_itemIsSo_88 rfl ?_
          exact s_zreturn C dX8_itemIsSo_92 (by decide) h
    · have h := h.2 hc
      refine s_aload_n C dX8_itemIsSo_38 rfl ?_
      refine s_iload_n C dX8_itemIsSo_39 rfl ?_
      refine s_aload_n C dX8_itemIsSo_40 rfl ?_
      refine s_iload C dX8_itemIsSo_41 rfl ?_
      refine s_iconst C dX8_itemIsSo_43 (by decide) ?_
      obtain ⟨o18, h⟩ := h
      refine s_iadd C dX8_itemIsSo_44 o18 ?_
      obtain ⟨o19, h⟩ := h
      obtain ⟨Q20, hKQ20, h⟩ := h
      refine s_callV (ci := 8) (av := [(0, ((l2 + 2) + 3))]) (rest := [(0, z2), (2, l1)]) (mc := 0) (ms := 0) C dX8_itemIsSo_45 lk_X8_49 o19 (by decide) rfl rfl rfl (Nat.le_of_ble_eq_true rfl) (by decide) (by decide) hKQ20 (fun z20 w20 M20 hq => ?_)
      have h := h z20 w20 M20 hq
      refine s_aload_n C dX8_itemIsSo_48 rfl ?_
      refine s_iload C dX8_itemIsSo_49 rfl ?_
      refine s_iconst C dX8_itemIsSo_51 (by decide) ?_
      obtain ⟨o21, h⟩ := h
      refine s_iadd C dX8_itemIsSo_52 o21 ?_
      obtain ⟨o22, h⟩ := h
      obtain ⟨Q23, hKQ23, h⟩ := h
      refine s_callV (ci := 8) (av := [(0, ((l2 + 2) + 1))]) (rest := [(0, z20), (0, z2), (2, l1)]) (mc := 0) (ms := 0) C dX8_itemIsSo_53 lk_X8_46 o22 (by decide) rfl rfl rfl (Nat.le_of_ble_eq_true rfl) (by decide) (by decide) hKQ23 (fun z23 w23 M23 hq => ?_)
      have h := h z23 w23 M23 hq
      obtain ⟨o24, h⟩ := h
      obtain ⟨Q25, hKQ25, h⟩ := h
      refine s_callV (ci := 6) (av := [(0, z2), (0, z20), (0, z23)]) (rest := []) (mc := 0) (ms := 0) C dX8_itemIsSo_56 lk_X8_52 o24 (by decide) rfl rfl rfl (Nat.le_of_ble_eq_true rfl) (by decide) (by decide) hKQ25 (fun z25 w25 M25 hq => ?_)
      have h := h z25 w25 M25 hq
      obtain ⟨o26, h⟩ := h
      exact s_zreturn C dX8_itemIsSo_59 o26 h
  · have h := h.2 hc
    refine s_iload_n C dX8_itemIsSo_16 rfl ?_
    refine s_iconst C dX8_itemIsSo_17 (by decide) ?_
    refine s_iadd C dX8_itemIsSo_18 o3 ?_
    refine s_goto C dX8_itemIsSo_19 rfl ?_
    refine s_istore (ls' := [(2, l0), (2, l1), (0, l2), (0, z2), (0, (l2 + 1))]) C dX8_itemIsSo_25 (by decide) rfl rfl ?_
    refine s_aload_n C dX8_itemIsSo_27 rfl ?_
    refine s_iload C dX8_itemIsSo_28 rfl ?_
    obtain ⟨o27, h⟩ := h
    obtain ⟨Q28, hKQ28, h⟩ := h
    refine s_callV (ci := 8) (av := [(0, (l2 + 1))]) (rest := []) (mc := 0) (ms := 0) C dX8_itemIsSo_30 lk_X8_42 o27 (by decide) rfl rfl rfl (Nat.le_of_ble_eq_true rfl) (by decide) (by decide) hKQ28 (fun z28 w28 M28 hq => ?_)
    have h := h z28 w28 M28 hq
    refine s_bipush C dX8_itemIsSo_33 ⟨rfl, by decide, by decide⟩ ?_
    refine s_icmpne C dX8_itemIsSo_35 rfl (fun hc => ?_) (fun hc => ?_)
    · have h := h.1 hc
      refine s_aload_n C dX8_itemIsSo_60 rfl ?_
      refine s_iload C dX8_itemIsSo_61 rfl ?_
      obtain ⟨o29, h⟩ := h
      obtain ⟨Q30, hKQ30, h⟩ := h
      refine s_callV (ci := 8) (av := [(0, (l2 + 1))]) (rest := []) (mc := 0) (ms := 0) C dX8_itemIsSo_63 lk_X8_42 o29 (by decide) rfl rfl rfl (Nat.le_of_ble_eq_true rfl) (by decide) (by decide) hKQ30 (fun z30 w30 M30 hq => ?_)
      have h := h z30 w30 M30 hq
      refine s_bipush C dX8_itemIsSo_66 ⟨rfl, by decide, by decide⟩ ?_
      refine s_icmpne C dX8_itemIsSo_68 rfl (fun hc => ?_) (fun hc => ?_)
      · have h := h.1 hc
        refine s_aload_n C dX8_itemIsSo_93 rfl ?_
        refine s_iload_n C dX8_itemIsSo_94 rfl ?_
        obtain ⟨o31, h⟩ := h
        obtain ⟨Q32, hKQ32, h⟩ := h
        refine s_callV (ci := 6) (av := [(0, z2)]) (rest := []) (mc := 0) (ms := 0) C dX8_itemIsSo_95 lk_X8_58 o31 (by decide) rfl rfl rfl (Nat.le_of_ble_eq_true rfl) (by decide) (by decide) hKQ32 (fun z32 w32 M32 hq => ?_)
        have h := h z32 w32 M32 hq
        refine s_ifle C dX8_itemIsSo_98 rfl (fun hc => ?_) (fun hc => ?_)
        · have h := h.1 hc
          refine s_iconst C dX8_itemIsSo_105 (by decide) ?_
          exact s_zreturn C dX8_itemIsSo_106 (by decide) h
        · have h := h.2 hc
          refine s_iconst C dX8_itemIsSo_101 (by decide) ?_
          refine s_goto C dX8_itemIsSo_102 rfl ?_
          exact s_zreturn C dX8_itemIsSo_106 (by decide) h
      · have h := h.2 hc
        refine s_aload_n C dX8_itemIsSo_71 rfl ?_
        refine s_iload_n C dX8_itemIsSo_72 rfl ?_
        obtain ⟨o33, h⟩ := h
        obtain ⟨Q34, hKQ34, h⟩ := h
        refine s_callV (ci := 6) (av := [(0, z2)]) (rest := []) (mc := 0) (ms := 0) C dX8_itemIsSo_73 lk_X8_58 o33 (by decide) rfl rfl rfl (Nat.le_of_ble_eq_true rfl) (by decide) (by decide) hKQ34 (fun z34 w34 M34 hq => ?_)
        have h := h z34 w34 M34 hq
        refine s_aload_n C dX8_itemIsSo_76 rfl ?_
        refine s_iload C dX8_itemIsSo_77 rfl ?_
        refine s_iconst C dX8_itemIsSo_79 (by decide) ?_
        obtain ⟨o35, h⟩ := h
        refine s_iadd C dX8_itemIsSo_80 o35 ?_
        obtain ⟨o36, h⟩ := h
        obtain ⟨Q37, hKQ37, h⟩ := h
        refine s_callV (ci := 8) (av := [(0, ((l2 + 1) + 1))]) (rest := [(0, z34)]) (mc := 0) (ms := 0) C dX8_itemIsSo_81 lk_X8_46 o36 (by decide) rfl rfl rfl (Nat.le_of_ble_eq_true rfl) (by decide) (by decide) hKQ37 (fun z37 w37 M37 hq => ?_)
        have h := h z37 w37 M37 hq
        refine s_icmple C dX8_itemIsSo_84 rfl (fun hc => ?_) (fun hc => ?_)
        · have h := h.1 hc
          refine s_iconst C dX8_itemIsSo_91 (by decide) ?_
          exact s_zreturn C dX8_itemIsSo_92 (by decide) h
        · have h := h.2 hc
          refine s_iconst C dX8_itemIsSo_87 (by decide) ?_
          refine s_goto C dX8_itemIsSo_88 rfl ?_
          exact s_zreturn C dX8_itemIsSo_92 (by decide) h
    · have h := h.2 hc
      refine s_aload_n C dX8_itemIsSo_38 rfl ?_
      refine s_iload_n C dX8_itemIsSo_39 rfl ?_
      refine s_aload_n C dX8_itemIsSo_40 rfl ?_
      refine s_iload C dX8_itemIsSo_41 rfl ?_
      refine s_iconst C dX8_itemIsSo_43 (by decide) ?_
      obtain ⟨o38, h⟩ := h
      refine s_iadd C dX8_itemIsSo_44 o38 ?_
      obtain ⟨o39, h⟩ := h
      obtain ⟨Q40, hKQ40, h⟩ := h
      refine s_callV (ci := 8) (av := [(0, ((l2 + 1) + 3))]) (rest := [(0, z2), (2, l1)]) (mc := 0) (ms := 0) C dX8_itemIsSo_45 lk_X8_49 o39 (by decide) rfl rfl rfl (Nat.le_of_ble_eq_true rfl) (by decide) (by decide) hKQ40 (fun z40 w40 M40 hq => ?_)
      have h := h z40 w40 M40 hq
      refine s_aload_n C dX8_itemIsSo_48 rfl ?_
      refine s_iload C dX8_itemIsSo_49 rfl ?_
      refine s_iconst C dX8_itemIsSo_51 (by decide) ?_
      obtain ⟨o41, h⟩ := h
      refine s_iadd C dX8_itemIsSo_52 o41 ?_
      obtain ⟨o42, h⟩ := h
      obtain ⟨Q43, hKQ43, h⟩ := h
      refine s_callV (ci := 8) (av := [(0, ((l2 + 1) + 1))]) (rest := [(0, z40), (0, z2), (2, l1)]) (mc := 0) (ms := 0) C dX8_itemIsSo_53 lk_X8_46 o42 (by decide) rfl rfl rfl (Nat.le_of_ble_eq_true rfl) (by decide) (by decide) hKQ43 (fun z43 w43 M43 hq => ?_)
      have h := h z43 w43 M43 hq
      obtain ⟨o44, h⟩ := h
      obtain ⟨Q45, hKQ45, h⟩ := h
      refine s_callV (ci := 6) (av := [(0, z2), (0, z40), (0, z43)]) (rest := []) (mc := 0) (ms := 0) C dX8_itemIsSo_56 lk_X8_52 o44 (by decide) rfl rfl rfl (Nat.le_of_ble_eq_true rfl) (by decide) (by decide) hKQ45 (fun z45 w45 M45 hq => ?_)
      have h := h z45 w45 M45 hq
      obtain ⟨o46, h⟩ := h
      exact s_zreturn C dX8_itemIsSo_59 o46 h
theorem E_X8_itemIsSo {G : GP} {l : Launch} {P : Int → NS → MM → Prop} {l0 : Int} {l1 : Int} {l2 : Int} {w : NS} {M : MM} (h : inR l2 → ∀ X : BX, X.2.1 = l → CX_X8_itemIsSo G X → A_X8_itemIsSo_0 G X P l0 l1 l2 w M) : CT_X8_itemIsSo G l [(2, l0), (2, l1), (0, l2)] w M P :=
  CT.of RX8 "itemIsSo" (by decide +kernel) rfl rfl rfl (Nat.le_of_ble_eq_true rfl) (fun hr X hX C => h (hr (0, l2) (by simp)) X hX C)
def A_X8_isSo_0 (G : GP) (X : BX) (P : Int → NS → MM → Prop) (l0 : Int) (l1 : Int) (w : NS) (M : MM) : Prop := WA true G X (QM G X true 0 P) 9 0 [(2, l0), (2, l1), (3, 0), (3, 0), (3, 0), (3, 0), (3, 0), (3, 0), (3, 0)] [] 0 0 w M
def A_X8_isSo_13 (G : GP) (X : BX) (P : Int → NS → MM → Prop) (l0 : Int) (l1 : Int) (l2 : Int) (l3 : Int) (l4 : Int) (l5 : Int) (l6 : Int) (w : NS) (M : MM) : Prop := WA true G X (QM G X true 0 P) 9 13 [(2, l0), (2, l1), (0, l2), (0, l3), (0, l4), (0, l5), (0, l6), (3, 0), (3, 0)] [] 0 0 w M
set_option maxHeartbeats 4000000 in
set_option maxRecDepth 100000 in
theorem B_X8_isSo_0 {G : GP} {X : BX} {P : Int → NS → MM → Prop} {l0 : Int} {l1 : Int} {w : NS} {M : MM} (C : CX_X8_isSo G X) (h : A_X8_isSo_13 G X P l0 l1 0 1 0 0 0 w M) : A_X8_isSo_0 G X P l0 l1 w M := by
  unfold A_X8_isSo_0
  refine s_iconst C dX8_isSo_0 (by decide) ?_
  refine s_istore_n (ls' := [(2, l0), (2, l1), (0, 0), (3, 0), (3, 0), (3, 0), (3, 0), (3, 0), (3, 0)]) C dX8_isSo_1 (by decide) rfl rfl ?_
  refine s_iconst C dX8_isSo_2 (by decide) ?_
  refine s_istore_n (ls' := [(2, l0), (2, l1), (0, 0), (0, 1), (3, 0), (3, 0), (3, 0), (3, 0), (3, 0)]) C dX8_isSo_3 (by decide) rfl rfl ?_
  refine s_iconst C dX8_isSo_4 (by decide) ?_
  refine s_istore (ls' := [(2, l0), (2, l1), (0, 0), (0, 1), (0, 0), (3, 0), (3, 0), (3, 0), (3, 0)]) C dX8_isSo_5 (by decide) rfl rfl ?_
  refine s_iconst C dX8_isSo_7 (by decide) ?_
  refine s_istore (ls' := [(2, l0), (2, l1), (0, 0), (0, 1), (0, 0), (0, 0), (3, 0), (3, 0), (3, 0)]) C dX8_isSo_8 (by decide) rfl rfl ?_
  refine s_iconst C dX8_isSo_10 (by decide) ?_
  refine s_istore (ls' := [(2, l0), (2, l1), (0, 0), (0, 1), (0, 0), (0, 0), (0, 0), (3, 0), (3, 0)]) C dX8_isSo_11 (by decide) rfl rfl ?_
  exact h
set_option maxHeartbeats 4000000 in
set_option maxRecDepth 100000 in
theorem B_X8_isSo_13 {G : GP} {X : BX} {P : Int → NS → MM → Prop} {l0 : Int} {l1 : Int} {l2 : Int} {l3 : Int} {l4 : Int} {l5 : Int} {l6 : Int} {w : NS} {M : MM} (C : CX_X8_isSo G X) (h : (w.2 l0 = (9, 2)) ∧ ((((M l0 1) ≤ l6) → P (b2i (zand (zshr (zor l2 l3) 0) 1 = 1)) w M) ∧ ((¬ ((M l0 1) ≤ l6)) → (0 ≤ l6) ∧ (l6 < 40) ∧ ((((M (l0 + 1) l6) ≠ 40) → ((((M (l0 + 1) l6) ≠ 33) → ((((M (l0 + 1) l6) ≠ 124) → ((((M (l0 + 1) l6) = 41) → ((((M (l0 + 1) l6) ≠ 41) → ∃ Q7 : Int → NS → MM → Prop, CT_X8_itemIsSo G X.2.1 [(2, l0), (2, l1), (0, l6)] w M Q7 ∧ ∀ (z7 : Int) (w7 : NS) (M7 : MM), Q7 z7 w7 M7 → ((((M (l0 + 1) l6) ≠ 41) → (inR (l5 - 0)) ∧ (((z7 ≠ (b2i (zand (zshr l4 (l5 - 0)) 1 = 1))) → (inR (l6 + 1)) ∧ A_X8_isSo_13 G X P l0 l1 l2 l3 (zand l4 (zxor (zshl 1 (l5 - 0)) (-1))) (l5 - 0) (l6 + 1) w7 M7) ∧ ((¬ (z7 ≠ (b2i (zand (zshr l4 (l5 - 0)) 1 = 1)))) → (inR (l6 + 1)) ∧ A_X8_isSo_13 G X P l0 l1 l2 (zand l3 (zxor (zshl 1 (l5 - 0)) (-1))) (zand l4 (zxor (zshl 1 (l5 - 0)) (-1))) (l5 - 0) (l6 + 1) w7 M7))) ∧ ((¬ ((M (l0 + 1) l6) ≠ 41)) → (inR (l5 - 1)) ∧ (((z7 ≠ (b2i (zand (zshr l4 (l5 - 1)) 1 = 1))) → (inR (l6 + 1)) ∧ A_X8_isSo_13 G X P l0 l1 l2 l3 (zand l4 (zxor (zshl 1 (l5 - 1)) (-1))) (l5 - 1) (l6 + 1) w7 M7) ∧ ((¬ (z7 ≠ (b2i (zand (zshr l4 (l5 - 1)) 1 = 1)))) → (inR (l6 + 1)) ∧ A_X8_isSo_13 G X P l0 l1 l2 (zand l3 (zxor (zshl 1 (l5 - 1)) (-1))) (zand l4 (zxor (zshl 1 (l5 - 1)) (-1))) (l5 - 1) (l6 + 1) w7 M7))))) ∧ ((¬ ((M (l0 + 1) l6) ≠ 41)) → ((((M (l0 + 1) l6) ≠ 41) → (inR (l5 - 0)) ∧ ((((b2i (zand (zshr (zor l2 l3) l5) 1 = 1)) ≠ (b2i (zand (zshr l4 (l5 - 0)) 1 = 1))) → (inR (l6 + 1)) ∧ A_X8_isSo_13 G X P l0 l1 l2 l3 (zand l4 (zxor (zshl 1 (l5 - 0)) (-1))) (l5 - 0) (l6 + 1) w M) ∧ ((¬ ((b2i (zand (zshr (zor l2 l3) l5) 1 = 1)) ≠ (b2i (zand (zshr l4 (l5 - 0)) 1 = 1)))) → (inR (l6 + 1)) ∧ A_X8_isSo_13 G X P l0 l1 l2 (zand l3 (zxor (zshl 1 (l5 - 0)) (-1))) (zand l4 (zxor (zshl 1 (l5 - 0)) (-1))) (l5 - 0) (l6 + 1) w M))) ∧ ((¬ ((M (l0 + 1) l6) ≠ 41)) → (inR (l5 - 1)) ∧ ((((b2i (zand (zshr (zor l2 l3) l5) 1 = 1)) ≠ (b2i (zand (zshr l4 (l5 - 1)) 1 = 1))) → (inR (l6 + 1)) ∧ A_X8_isSo_13 G X P l0 l1 l2 l3 (zand l4 (zxor (zshl 1 (l5 - 1)) (-1))) (l5 - 1) (l6 + 1) w M) ∧ ((¬ ((b2i (zand (zshr (zor l2 l3) l5) 1 = 1)) ≠ (b2i (zand (zshr l4 (l5 - 1)) 1 = 1)))) → (inR (l6 + 1)) ∧ A_X8_isSo_13 G X P l0 l1 l2 (zand l3 (zxor (zshl 1 (l5 - 1)) (-1))) (zand l4 (zxor (zshl 1 (l5 - 1)) (-1))) (l5 - 1) (l6 + 1) w M))))))) ∧ ((¬ ((M (l0 + 1) l6) = 41)) → ∃ Q25 : Int → NS → MM → Prop, CT_X8_startsItem G X.2.1 [(2, l0), (0, l6)] w M Q25 ∧ ∀ (z25 : Int) (w25 : NS) (M25 : MM), Q25 z25 w25 M25 → (((z25 = 0) → (inR (l6 + 1)) ∧ A_X8_isSo_13 G X P l0 l1 l2 l3 l4 l5 (l6 + 1) w25 M25) ∧ ((¬ (z25 = 0)) → ((((M (l0 + 1) l6) ≠ 41) → (w25.2 l0 = (9, 2)) ∧ ∃ Q28 : Int → NS → MM → Prop, CT_X8_itemIsSo G X.2.1 [(2, l0), (2, l1), (0, l6)] w25 M25 Q28 ∧ ∀ (z28 : Int) (w28 : NS) (M28 : MM), Q28 z28 w28 M28 → ((((M (l0 + 1) l6) ≠ 41) → (inR (l5 - 0)) ∧ (((z28 ≠ (b2i (zand (zshr l4 (l5 - 0)) 1 = 1))) → (inR (l6 + 1)) ∧ A_X8_isSo_13 G X P l0 l1 l2 l3 (zand l4 (zxor (zshl 1 (l5 - 0)) (-1))) (l5 - 0) (l6 + 1) w28 M28) ∧ ((¬ (z28 ≠ (b2i (zand (zshr l4 (l5 - 0)) 1 = 1)))) → (inR (l6 + 1)) ∧ A_X8_isSo_13 G X P l0 l1 l2 (zand l3 (zxor (zshl 1 (l5 - 0)) (-1))) (zand l4 (zxor (zshl 1 (l5 - 0)) (-1))) (l5 - 0) (l6 + 1) w28 M28))) ∧ ((¬ ((M (l0 + 1) l6) ≠ 41)) → (inR (l5 - 1)) ∧ (((z28 ≠ (b2i (zand (zshr l4 (l5 - 1)) 1 = 1))) → (inR (l6 + 1)) ∧ A_X8_isSo_13 G X P l0 l1 l2 l3 (zand l4 (zxor (zshl 1 (l5 - 1)) (-1))) (l5 - 1) (l6 + 1) w28 M28) ∧ ((¬ (z28 ≠ (b2i (zand (zshr l4 (l5 - 1)) 1 = 1)))) → (inR (l6 + 1)) ∧ A_X8_isSo_13 G X P l0 l1 l2 (zand l3 (zxor (zshl 1 (l5 - 1)) (-1))) (zand l4 (zxor (zshl 1 (l5 - 1)) (-1))) (l5 - 1) (l6 + 1) w28 M28))))) ∧ ((¬ ((M (l0 + 1) l6) ≠ 41)) → ((((M (l0 + 1) l6) ≠ 41) → (inR (l5 - 0)) ∧ ((((b2i (zand (zshr (zor l2 l3) l5) 1 = 1)) ≠ (b2i (zand (zshr l4 (l5 - 0)) 1 = 1))) → (inR (l6 + 1)) ∧ A_X8_isSo_13 G X P l0 l1 l2 l3 (zand l4 (zxor (zshl 1 (l5 - 0)) (-1))) (l5 - 0) (l6 + 1) w25 M25) ∧ ((¬ ((b2i (zand (zshr (zor l2 l3) l5) 1 = 1)) ≠ (b2i (zand (zshr l4 (l5 - 0)) 1 = 1)))) → (inR (l6 + 1)) ∧ A_X8_isSo_13 G X P l0 l1 l2 (zand l3 (zxor (zshl 1 (l5 - 0)) (-1))) (zand l4 (zxor (zshl 1 (l5 - 0)) (-1))) (l5 - 0) (l6 + 1) w25 M25))) ∧ ((¬ ((M (l0 + 1) l6) ≠ 41)) → (inR (l5 - 1)) ∧ ((((b2i (zand (zshr (zor l2 l3) l5) 1 = 1)) ≠ (b2i (zand (zshr l4 (l5 - 1)) 1 = 1))) → (inR (l6 + 1)) ∧ A_X8_isSo_13 G X P l0 l1 l2 l3 (zand l4 (zxor (zshl 1 (l5 - 1)) (-1))) (l5 - 1) (l6 + 1) w25 M25) ∧ ((¬ ((b2i (zand (zshr (zor l2 l3) l5) 1 = 1)) ≠ (b2i (zand (zshr l4 (l5 - 1)) 1 = 1)))) → (inR (l6 + 1)) ∧ A_X8_isSo_13 G X P l0 l1 l2 (zand l3 (zxor (zshl 1 (l5 - 1)) (-1))) (zand l4 (zxor (zshl 1 (l5 - 1)) (-1))) (l5 - 1) (l6 + 1) w25 M25))))))))))) ∧ ((¬ ((M (l0 + 1) l6) ≠ 124)) → (inR (l6 + 1)) ∧ A_X8_isSo_13 G X P l0 l1 (zor l2 (zand l3 (zshl 1 l5))) (zor l3 (zshl 1 l5)) l4 l5 (l6 + 1) w M))) ∧ ((¬ ((M (l0 + 1) l6) ≠ 33)) → (inR (l6 + 1)) ∧ A_X8_isSo_13 G X P l0 l1 l2 l3 (zxor l4 (zshl 1 l5)) l5 (l6 + 1) w M))) ∧ ((¬ ((M (l0 + 1) l6) ≠ 40)) → (inR (l5 + 1)) ∧ (inR (l6 + 1)) ∧ A_X8_isSo_13 G X P l0 l1 (zand l2 (zxor (zshl 1 (l5 + 1)) (-1))) (zor l3 (zshl 1 (l5 + 1))) l4 (l5 + 1) (l6 + 1) w M))))) : A_X8_isSo_13 G X P l0 l1 l2 l3 l4 l5 l6 w M := by
  unfold A_X8_isSo_13
  refine s_iload C dX8_isSo_13 rfl ?_
  refine s_aload_n C dX8_isSo_15 rfl ?_
  obtain ⟨o1, h⟩ := h
  refine gf_X8_15 (v0 := (M l0 1)) C o1 dX8_isSo_16 rfl ?_
  refine s_icmpge C dX8_isSo_19 rfl (fun hc => ?_) (fun hc => ?_)
  · have h := h.1 hc
    refine s_iload_n C dX8_isSo_203 rfl ?_
    refine s_iload_n C dX8_isSo_204 rfl ?_
    refine s_ior C dX8_isSo_205 ?_
    refine s_iconst C dX8_isSo_206 (by decide) ?_
    refine s_callSN (av := [(0, (zor l2 l3)), (0, 0)]) (rest := []) (mc := 0) (ms := 0) C dX8_isSo_207 lk_X8_34 rfl rfl (Nat.le_of_ble_eq_true rfl) (by decide) (by decide) (pc_X9_hasBit) (fun z2 wz2 Mz2 hq => ?_)
    obtain ⟨hq1, hq2, hq3⟩ := hq
    have hq2 := hq2.symm
    have hq3 := hq3.symm
    subst hq1 hq2 hq3
    exact s_zreturn C dX8_isSo_210 (b2i_01 _) h
  · have h := h.2 hc
    refine s_aload_n C dX8_isSo_22 rfl ?_
    refine WA.fix (fun hF3 => ?_)
    have hd4 := FixA.dy (t := 9) (n := 2) (k := 0) (m := 40) hF3 (by decide) o1
    refine gf_X8_11 C o1 dX8_isSo_23 hd4.1 ?_
    refine s_iload C dX8_isSo_26 rfl ?_
    obtain ⟨o5, h⟩ := h
    obtain ⟨o6, h⟩ := h
    refine s_iald (v0 := (M (l0 + 1) l6)) C hd4.2 o5 o6 dX8_isSo_28 rfl ?_
    refine s_istore (ls' := [(2, l0), (2, l1), (0, l2), (0, l3), (0, l4), (0, l5), (0, l6), (0, (M (l0 + 1) l6)), (3, 0)]) C dX8_isSo_29 (by decide) rfl rfl ?_
    refine s_iload C dX8_isSo_31 rfl ?_
    refine s_bipush C dX8_isSo_33 ⟨rfl, by decide, by decide⟩ ?_
    refine s_icmpne C dX8_isSo_35 rfl (fun hc => ?_) (fun hc => ?_)
    · have h := h.1 hc
      refine s_iload C dX8_isSo_60 rfl ?_
      refine s_bipush C dX8_isSo_62 ⟨rfl, by decide, by decide⟩ ?_
      refine s_icmpne C dX8_isSo_64 rfl (fun hc => ?_) (fun hc => ?_)
      · have h := h.1 hc
        refine s_iload C dX8_isSo_79 rfl ?_
        refine s_bipush C dX8_isSo_81 ⟨rfl, by decide, by decide⟩ ?_
        refine s_icmpne C dX8_isSo_83 rfl (fun hc => ?_) (fun hc => ?_)
        · have h := h.1 hc
          refine s_iload C dX8_isSo_105 rfl ?_
          refine s_bipush C dX8_isSo_107 ⟨rfl, by decide, by decide⟩ ?_
          refine s_icmpeq C dX8_isSo_109 rfl (fun hc => ?_) (fun hc => ?_)
          · have h := h.1 hc
            refine s_iload C dX8_isSo_121 rfl ?_
            refine s_bipush C dX8_isSo_123 ⟨rfl, by decide, by decide⟩ ?_
            refine s_icmpne C dX8_isSo_125 rfl (fun hc => ?_) (fun hc => ?_)
            · have h := h.1 hc
              refine s_aload_n C dX8_isSo_139 rfl ?_
              refine s_aload_n C dX8_isSo_140 rfl ?_
              refine s_iload C dX8_isSo_141 rfl ?_
              obtain ⟨Q7, hKQ7, h⟩ := h
              refine s_callV (ci := 8) (av := [(2, l1), (0, l6)]) (rest := []) (mc := 0) (ms := 0) C dX8_isSo_143 lk_X8_38 o1 (by decide) rfl rfl rfl (Nat.le_of_ble_eq_true rfl) (by decide) (by decide) hKQ7 (fun z7 w7 M7 hq => ?_)
              have h := h z7 w7 M7 hq
              refine s_istore (ls' := [(2, l0), (2, l1), (0, l2), (0, l3), (0, l4), (0, l5), (0, l6), (0, (M (l0 + 1) l6)), (0, z7)]) C dX8_isSo_146 (by decide) rfl rfl ?_
              refine s_iload C dX8_isSo_148 rfl ?_
              refine s_iload C dX8_isSo_150 rfl ?_
              refine s_bipush C dX8_isSo_152 ⟨rfl, by decide, by decide⟩ ?_
              refine s_icmpne C dX8_isSo_154 rfl (fun hc => ?_) (fun hc => ?_)
              · have h := h.1 hc
                refine s_iconst C dX8_isSo_161 (by decide) ?_
                obtain ⟨o8, h⟩ := h
                refine s_isub C dX8_isSo_162 o8 ?_
                refine s_istore (ls' := [(2, l0), (2, l1), (0, l2), (0, l3), (0, l4), (0, (l5 - 0)), (0, l6), (0, (M (l0 + 1) l6)), (0, z7)]) C dX8_isSo_163 (by decide) rfl rfl ?_
                refine s_iload C dX8_isSo_165 rfl ?_
                refine s_iload C dX8_isSo_167 rfl ?_
                refine s_iload C dX8_isSo_169 rfl ?_
                refine s_callSN (av := [(0, l4), (0, (l5 - 0))]) (rest := [(0, z7)]) (mc := 0) (ms := 0) C dX8_isSo_171 lk_X8_34 rfl rfl (Nat.le_of_ble_eq_true rfl) (by decide) (by decide) (pc_X9_hasBit) (fun z9 wz9 Mz9 hq => ?_)
                obtain ⟨hq1, hq2, hq3⟩ := hq
                have hq2 := hq2.symm
                have hq3 := hq3.symm
                subst hq1 hq2 hq3
                refine s_icmpne C dX8_isSo_174 rfl (fun hc => ?_) (fun hc => ?_)
                · have h := h.1 hc
                  refine s_iload C dX8_isSo_186 rfl ?_
                  refine s_iconst C dX8_isSo_188 (by decide) ?_
                  refine s_iload C dX8_isSo_189 rfl ?_
                  refine s_ishl C dX8_isSo_191 ?_
                  refine s_iconst C dX8_isSo_192 (by decide) ?_
                  refine s_ixor C dX8_isSo_193 ?_
                  refine s_iand C dX8_isSo_194 ?_
                  refine s_istore (ls' := [(2, l0), (2, l1), (0, l2), (0, l3), (0, (zand l4 (zxor (zshl 1 (l5 - 0)) (-1)))), (0, (l5 - 0)), (0, l6), (0, (M (l0 + 1) l6)), (0, z7)]) C dX8_isSo_195 (by decide) rfl rfl ?_
                  obtain ⟨o10, h⟩ := h
                  refine s_iinc (ls' := [(2, l0), (2, l1), (0, l2), (0, l3), (0, (zand l4 (zxor (zshl 1 (l5 - 0)) (-1)))), (0, (l5 - 0)), (0, (l6 + 1)), (0, (M (l0 + 1) l6)), (0, z7)]) C dX8_isSo_197 (by decide) rfl o10 rfl rfl ?_
                  refine s_goto C dX8_isSo_200 rfl ?_
                  exact WA.wk h ⟨Or.inr rfl, Or.inr rfl, Or.inr rfl, Or.inr rfl, Or.inr rfl, Or.inr rfl, Or.inr rfl, Or.inl rfl, Or.inl rfl, trivial⟩
                · have h := h.2 hc
                  refine s_iload_n C dX8_isSo_177 rfl ?_
                  refine s_iconst C dX8_isSo_178 (by decide) ?_
                  refine s_iload C dX8_isSo_179 rfl ?_
                  refine s_ishl C dX8_isSo_181 ?_
                  refine s_iconst C dX8_isSo_182 (by decide) ?_
                  refine s_ixor C dX8_isSo_183 ?_
                  refine s_iand C dX8_isSo_184 ?_
                  refine s_istore_n (ls' := [(2, l0), (2, l1), (0, l2), (0, (zand l3 (zxor (zshl 1 (l5 - 0)) (-1)))), (0, l4), (0, (l5 - 0)), (0, l6), (0, (M (l0 + 1) l6)), (0, z7)]) C dX8_isSo_185 (by decide) rfl rfl ?_
                  refine s_iload C dX8_isSo_186 rfl ?_
                  refine s_iconst C dX8_isSo_188 (by decide) ?_
                  refine s_iload C dX8_isSo_189 rfl ?_
                  refine s_ishl C dX8_isSo_191 ?_
                  refine s_iconst C dX8_isSo_192 (by decide) ?_
                  refine s_ixor C dX8_isSo_193 ?_
                  refine s_iand C dX8_isSo_194 ?_
                  refine s_istore (ls' := [(2, l0), (2, l1), (0, l2), (0, (zand l3 (zxor (zshl 1 (l5 - 0)) (-1)))), (0, (zand l4 (zxor (zshl 1 (l5 - 0)) (-1)))), (0, (l5 - 0)), (0, l6), (0, (M (l0 + 1) l6)), (0, z7)]) C dX8_isSo_195 (by decide) rfl rfl ?_
                  obtain ⟨o11, h⟩ := h
                  refine s_iinc (ls' := [(2, l0), (2, l1), (0, l2), (0, (zand l3 (zxor (zshl 1 (l5 - 0)) (-1)))), (0, (zand l4 (zxor (zshl 1 (l5 - 0)) (-1)))), (0, (l5 - 0)), (0, (l6 + 1)), (0, (M (l0 + 1) l6)), (0, z7)]) C dX8_isSo_197 (by decide) rfl o11 rfl rfl ?_
                  refine s_goto C dX8_isSo_200 rfl ?_
                  exact WA.wk h ⟨Or.inr rfl, Or.inr rfl, Or.inr rfl, Or.inr rfl, Or.inr rfl, Or.inr rfl, Or.inr rfl, Or.inl rfl, Or.inl rfl, trivial⟩
              · have h := h.2 hc
                refine s_iconst C dX8_isSo_157 (by decide) ?_
                refine s_goto C dX8_isSo_158 rfl ?_
                obtain ⟨o12, h⟩ := h
                refine s_isub C dX8_isSo_162 o12 ?_
                refine s_istore (ls' := [(2, l0), (2, l1), (0, l2), (0, l3), (0, l4), (0, (l5 - 1)), (0, l6), (0, (M (l0 + 1) l6)), (0, z7)]) C dX8_isSo_163 (by decide) rfl rfl ?_
                refine s_iload C dX8_isSo_165 rfl ?_
                refine s_iload C dX8_isSo_167 rfl ?_
                refine s_iload C dX8_isSo_169 rfl ?_
                refine s_callSN (av := [(0, l4), (0, (l5 - 1))]) (rest := [(0, z7)]) (mc := 0) (ms := 0) C dX8_isSo_171 lk_X8_34 rfl rfl (Nat.le_of_ble_eq_true rfl) (by decide) (by decide) (pc_X9_hasBit) (fun z13 wz13 Mz13 hq => ?_)
                obtain ⟨hq1, hq2, hq3⟩ := hq
                have hq2 := hq2.symm
                have hq3 := hq3.symm
                subst hq1 hq2 hq3
                refine s_icmpne C dX8_isSo_174 rfl (fun hc => ?_) (fun hc => ?_)
                · have h := h.1 hc
                  refine s_iload C dX8_isSo_186 rfl ?_
                  refine s_iconst C dX8_isSo_188 (by decide) ?_
                  refine s_iload C dX8_isSo_189 rfl ?_
                  refine s_ishl C dX8_isSo_191 ?_
                  refine s_iconst C dX8_isSo_192 (by decide) ?_
                  refine s_ixor C dX8_isSo_193 ?_
                  refine s_iand C dX8_isSo_194 ?_
                  refine s_istore (ls' := [(2, l0), (2, l1), (0, l2), (0, l3), (0, (zand l4 (zxor (zshl 1 (l5 - 1)) (-1)))), (0, (l5 - 1)), (0, l6), (0, (M (l0 + 1) l6)), (0, z7)]) C dX8_isSo_195 (by decide) rfl rfl ?_
                  obtain ⟨o14, h⟩ := h
                  refine s_iinc (ls' := [(2, l0), (2, l1), (0, l2), (0, l3), (0, (zand l4 (zxor (zshl 1 (l5 - 1)) (-1)))), (0, (l5 - 1)), (0, (l6 + 1)), (0, (M (l0 + 1) l6)), (0, z7)]) C dX8_isSo_197 (by decide) rfl o14 rfl rfl ?_
                  refine s_goto C dX8_isSo_200 rfl ?_
                  exact WA.wk h ⟨Or.inr rfl, Or.inr rfl, Or.inr rfl, Or.inr rfl, Or.inr rfl, Or.inr rfl, Or.inr rfl, Or.inl rfl, Or.inl rfl, trivial⟩
                · have h := h.2 hc
                  refine s_iload_n C dX8_isSo_177 rfl ?_
                  refine s_iconst C dX8_isSo_178 (by decide) ?_
                  refine s_iload C dX8_isSo_179 rfl ?_
                  refine s_ishl C dX8_isSo_181 ?_
                  refine s_iconst C dX8_isSo_182 (by decide) ?_
                  refine s_ixor C dX8_isSo_183 ?_
                  refine s_iand C dX8_isSo_184 ?_
                  refine s_istore_n (ls' := [(2, l0), (2, l1), (0, l2), (0, (zand l3 (zxor (zshl 1 (l5 - 1)) (-1)))), (0, l4), (0, (l5 - 1)), (0, l6), (0, (M (l0 + 1) l6)), (0, z7)]) C dX8_isSo_185 (by decide) rfl rfl ?_
                  refine s_iload C dX8_isSo_186 rfl ?_
                  refine s_iconst C dX8_isSo_188 (by decide) ?_
                  refine s_iload C dX8_isSo_189 rfl ?_
                  refine s_ishl C dX8_isSo_191 ?_
                  refine s_iconst C dX8_isSo_192 (by decide) ?_
                  refine s_ixor C dX8_isSo_193 ?_
                  refine s_iand C dX8_isSo_194 ?_
                  refine s_istore (ls' := [(2, l0), (2, l1), (0, l2), (0, (zand l3 (zxor (zshl 1 (l5 - 1)) (-1)))), (0, (zand l4 (zxor (zshl 1 (l5 - 1)) (-1)))), (0, (l5 - 1)), (0, l6), (0, (M (l0 + 1) l6)), (0, z7)]) C dX8_isSo_195 (by decide) rfl rfl ?_
                  obtain ⟨o15, h⟩ := h
                  refine s_iinc (ls' := [(2, l0), (2, l1), (0, l2), (0, (zand l3 (zxor (zshl 1 (l5 - 1)) (-1)))), (0, (zand l4 (zxor (zshl 1 (l5 - 1)) (-1)))), (0, (l5 - 1)), (0, (l6 + 1)), (0, (M (l0 + 1) l6)), (0, z7)]) C dX8_isSo_197 (by decide) rfl o15 rfl rfl ?_
                  refine s_goto C dX8_isSo_200 rfl ?_
                  exact WA.wk h ⟨Or.inr rfl, Or.inr rfl, Or.inr rfl, Or.inr rfl, Or.inr rfl, Or.inr rfl, Or.inr rfl, Or.inl rfl, Or.inl rfl, trivial⟩
            · have h := h.2 hc
              refine s_iload_n C dX8_isSo_128 rfl ?_
              refine s_iload_n C dX8_isSo_129 rfl ?_
              refine s_ior C dX8_isSo_130 ?_
              refine s_iload C dX8_isSo_131 rfl ?_
              refine s_callSN (av := [(0, (zor l2 l3)), (0, l5)]) (rest := []) (mc := 0) (ms := 0) C dX8_isSo_133 lk_X8_34 rfl rfl (Nat.le_of_ble_eq_true rfl) (by decide) (by decide) (pc_X9_hasBit) (fun z16 wz16 Mz16 hq => ?_)
              obtain ⟨hq1, hq2, hq3⟩ := hq
              have hq2 := hq2.symm
              have hq3 := hq3.symm
              subst hq1 hq2 hq3
              refine s_goto C dX8_isSo_136 rfl ?_
              refine s_istore (ls' := [(2, l0), (2, l1), (0, l2), (0, l3), (0, l4), (0, l5), (0, l6), (0, (M (l0 + 1) l6)), (0, (b2i (zand (zshr (zor l2 l3) l5) 1 = 1)))]) C dX8_isSo_146 (by decide) rfl rfl ?_
              refine s_iload C dX8_isSo_148 rfl ?_
              refine s_iload C dX8_isSo_150 rfl ?_
              refine s_bipush C dX8_isSo_152 ⟨rfl, by decide, by decide⟩ ?_
              refine s_icmpne C dX8_isSo_154 rfl (fun hc => ?_) (fun hc => ?_)
              · have h := h.1 hc
                refine s_iconst C dX8_isSo_161 (by decide) ?_
                obtain ⟨o17, h⟩ := h
                refine s_isub C dX8_isSo_162 o17 ?_
                refine s_istore (ls' := [(2, l0), (2, l1), (0, l2), (0, l3), (0, l4), (0, (l5 - 0)), (0, l6), (0, (M (l0 + 1) l6)), (0, (b2i (zand (zshr (zor l2 l3) l5) 1 = 1)))]) C dX8_isSo_163 (by decide) rfl rfl ?_
                refine s_iload C dX8_isSo_165 rfl ?_
                refine s_iload C dX8_isSo_167 rfl ?_
                refine s_iload C dX8_isSo_169 rfl ?_
                refine s_callSN (av := [(0, l4), (0, (l5 - 0))]) (rest := [(0, (b2i (zand (zshr (zor l2 l3) l5) 1 = 1)))]) (mc := 0) (ms := 0) C dX8_isSo_171 lk_X8_34 rfl rfl (Nat.le_of_ble_eq_true rfl) (by decide) (by decide) (pc_X9_hasBit) (fun z18 wz18 Mz18 hq => ?_)
                obtain ⟨hq1, hq2, hq3⟩ := hq
                have hq2 := hq2.symm
                have hq3 := hq3.symm
                subst hq1 hq2 hq3
                refine s_icmpne C dX8_isSo_174 rfl (fun hc => ?_) (fun hc => ?_)
                · have h := h.1 hc
                  refine s_iload C dX8_isSo_186 rfl ?_
                  refine s_iconst C dX8_isSo_188 (by decide) ?_
                  refine s_iload C dX8_isSo_189 rfl ?_
                  refine s_ishl C dX8_isSo_191 ?_
                  refine s_iconst C dX8_isSo_192 (by decide) ?_
                  refine s_ixor C dX8_isSo_193 ?_
                  refine s_iand C dX8_isSo_194 ?_
                  refine s_istore (ls' := [(2, l0), (2, l1), (0, l2), (0, l3), (0, (zand l4 (zxor (zshl 1 (l5 - 0)) (-1)))), (0, (l5 - 0)), (0, l6), (0, (M (l0 + 1) l6)), (0, (b2i (zand (zshr (zor l2 l3) l5) 1 = 1)))]) C dX8_isSo_195 (by decide) rfl rfl ?_
                  obtain ⟨o19, h⟩ := h
                  refine s_iinc (ls' := [(2, l0), (2, l1), (0, l2), (0, l3), (0, (zand l4 (zxor (zshl 1 (l5 - 0)) (-1)))), (0, (l5 - 0)), (0, (l6 + 1)), (0, (M (l0 + 1) l6)), (0, (b2i (zand (zshr (zor l2 l3) l5) 1 = 1)))]) C dX8_isSo_197 (by decide) rfl o19 rfl rfl ?_
                  refine s_goto C dX8_isSo_200 rfl ?_
                  exact WA.wk h ⟨Or.inr rfl, Or.inr rfl, Or.inr rfl, Or.inr rfl, Or.inr rfl, Or.inr rfl, Or.inr rfl, Or.inl rfl, Or.inl rfl, trivial⟩
                · have h := h.2 hc
                  refine s_iload_n C dX8_isSo_177 rfl ?_
                  refine s_iconst C dX8_isSo_178 (by decide) ?_
                  refine s_iload C dX8_isSo_179 rfl ?_
                  refine s_ishl C dX8_isSo_181 ?_
                  refine s_iconst C dX8_isSo_182 (by decide) ?_
                  refine s_ixor C dX8_isSo_183 ?_
                  refine s_iand C dX8_isSo_184 ?_
                  refine s_istore_n (ls' := [(2, l0), (2, l1), (0, l2), (0, (zand l3 (zxor (zshl 1 (l5 - 0)) (-1)))), (0, l4), (0, (l5 - 0)), (0, l6), (0, (M (l0 + 1) l6)), (0, (b2i (zand (zshr (zor l2 l3) l5) 1 = 1)))]) C dX8_isSo_185 (by decide) rfl rfl ?_
                  refine s_iload C dX8_isSo_186 rfl ?_
                  refine s_iconst C dX8_isSo_188 (by decide) ?_
                  refine s_iload C dX8_isSo_189 rfl ?_
                  refine s_ishl C dX8_isSo_191 ?_
                  refine s_iconst C dX8_isSo_192 (by decide) ?_
                  refine s_ixor C dX8_isSo_193 ?_
                  refine s_iand C dX8_isSo_194 ?_
                  refine s_istore (ls' := [(2, l0), (2, l1), (0, l2), (0, (zand l3 (zxor (zshl 1 (l5 - 0)) (-1)))), (0, (zand l4 (zxor (zshl 1 (l5 - 0)) (-1)))), (0, (l5 - 0)), (0, l6), (0, (M (l0 + 1) l6)), (0, (b2i (zand (zshr (zor l2 l3) l5) 1 = 1)))]) C dX8_isSo_195 (by decide) rfl rfl ?_
                  obtain ⟨o20, h⟩ := h
                  refine s_iinc (ls' := [(2, l0), (2, l1), (0, l2), (0, (zand l3 (zxor (zshl 1 (l5 - 0)) (-1)))), (0, (zand l4 (zxor (zshl 1 (l5 - 0)) (-1)))), (0, (l5 - 0)), (0, (l6 + 1)), (0, (M (l0 + 1) l6)), (0, (b2i (zand (zshr (zor l2 l3) l5) 1 = 1)))]) C dX8_isSo_197 (by decide) rfl o20 rfl rfl ?_
                  refine s_goto C dX8_isSo_200 rfl ?_
                  exact WA.wk h ⟨Or.inr rfl, Or.inr rfl, Or.inr rfl, Or.inr rfl, Or.inr rfl, Or.inr rfl, Or.inr rfl, Or.inl rfl, Or.inl rfl, trivial⟩
              · have h := h.2 hc
                refine s_iconst C dX8_isSo_157 (by decide) ?_
                refine s_goto C dX8_isSo_158 rfl ?_
                obtain ⟨o21, h⟩ := h
                refine s_isub C dX8_isSo_162 o21 ?_
                refine s_istore (ls' := [(2, l0), (2, l1), (0, l2), (0, l3), (0, l4), (0, (l5 - 1)), (0, l6), (0, (M (l0 + 1) l6)), (0, (b2i (zand (zshr (zor l2 l3) l5) 1 = 1)))]) C dX8_isSo_163 (by decide) rfl rfl ?_
                refine s_iload C dX8_isSo_165 rfl ?_
                refine s_iload C dX8_isSo_167 rfl ?_
                refine s_iload C dX8_isSo_169 rfl ?_
                refine s_callSN (av := [(0, l4), (0, (l5 - 1))]) (rest := [(0, (b2i (zand (zshr (zor l2 l3) l5) 1 = 1)))]) (mc := 0) (ms := 0) C dX8_isSo_171 lk_X8_34 rfl rfl (Nat.le_of_ble_eq_true rfl) (by decide) (by decide) (pc_X9_hasBit) (fun z22 wz22 Mz22 hq => ?_)
                obtain ⟨hq1, hq2, hq3⟩ := hq
                have hq2 := hq2.symm
                have hq3 := hq3.symm
                subst hq1 hq2 hq3
                refine s_icmpne C dX8_isSo_174 rfl (fun hc => ?_) (fun hc => ?_)
                · have h := h.1 hc
                  refine s_iload C dX8_isSo_186 rfl ?_
                  refine s_iconst C dX8_isSo_188 (by decide) ?_
                  refine s_iload C dX8_isSo_189 rfl ?_
                  refine s_ishl C dX8_isSo_191 ?_
                  refine s_iconst C dX8_isSo_192 (by decide) ?_
                  refine s_ixor C dX8_isSo_193 ?_
                  refine s_iand C dX8_isSo_194 ?_
                  refine s_istore (ls' := [(2, l0), (2, l1), (0, l2), (0, l3), (0, (zand l4 (zxor (zshl 1 (l5 - 1)) (-1)))), (0, (l5 - 1)), (0, l6), (0, (M (l0 + 1) l6)), (0, (b2i (zand (zshr (zor l2 l3) l5) 1 = 1)))]) C dX8_isSo_195 (by decide) rfl rfl ?_
                  obtain ⟨o23, h⟩ := h
                  refine s_iinc (ls' := [(2, l0), (2, l1), (0, l2), (0, l3), (0, (zand l4 (zxor (zshl 1 (l5 - 1)) (-1)))), (0, (l5 - 1)), (0, (l6 + 1)), (0, (M (l0 + 1) l6)), (0, (b2i (zand (zshr (zor l2 l3) l5) 1 = 1)))]) C dX8_isSo_197 (by decide) rfl o23 rfl rfl ?_
                  refine s_goto C dX8_isSo_200 rfl ?_
                  exact WA.wk h ⟨Or.inr rfl, Or.inr rfl, Or.inr rfl, Or.inr rfl, Or.inr rfl, Or.inr rfl, Or.inr rfl, Or.inl rfl, Or.inl rfl, trivial⟩
                · have h := h.2 hc
                  refine s_iload_n C dX8_isSo_177 rfl ?_
                  refine s_iconst C dX8_isSo_178 (by decide) ?_
                  refine s_iload C dX8_isSo_179 rfl ?_
                  refine s_ishl C dX8_isSo_181 ?_
                  refine s_iconst C dX8_isSo_182 (by decide) ?_
                  refine s_ixor C dX8_isSo_183 ?_
                  refine s_iand C dX8_isSo_184 ?_
                  refine s_istore_n (ls' := [(2, l0), (2, l1), (0, l2), (0, (zand l3 (zxor (zshl 1 (l5 - 1)) (-1)))), (0, l4), (0, (l5 - 1)), (0, l6), (0, (M (l0 + 1) l6)), (0, (b2i (zand (zshr (zor l2 l3) l5) 1 = 1)))]) C dX8_isSo_185 (by decide) rfl rfl ?_
                  refine s_iload C dX8_isSo_186 rfl ?_
                  refine s_iconst C dX8_isSo_188 (by decide) ?_
                  refine s_iload C dX8_isSo_189 rfl ?_
                  refine s_ishl C dX8_isSo_191 ?_
                  refine s_iconst C dX8_isSo_192 (by decide) ?_
                  refine s_ixor C dX8_isSo_193 ?_
                  refine s_iand C dX8_isSo_194 ?_
                  refine s_istore (ls' := [(2, l0), (2, l1), (0, l2), (0, (zand l3 (zxor (zshl 1 (l5 - 1)) (-1)))), (0, (zand l4 (zxor (zshl 1 (l5 - 1)) (-1)))), (0, (l5 - 1)), (0, l6), (0, (M (l0 + 1) l6)), (0, (b2i (zand (zshr (zor l2 l3) l5) 1 = 1)))]) C dX8_isSo_195 (by decide) rfl rfl ?_
                  obtain ⟨o24, h⟩ := h
                  refine s_iinc (ls' := [(2, l0), (2, l1), (0, l2), (0, (zand l3 (zxor (zshl 1 (l5 - 1)) (-1)))), (0, (zand l4 (zxor (zshl 1 (l5 - 1)) (-1)))), (0, (l5 - 1)), (0, (l6 + 1)), (0, (M (l0 + 1) l6)), (0, (b2i (zand (zshr (zor l2 l3) l5) 1 = 1)))]) C dX8_isSo_197 (by decide) rfl o24 rfl rfl ?_
                  refine s_goto C dX8_isSo_200 rfl ?_
                  exact WA.wk h ⟨Or.inr rfl, Or.inr rfl, Or.inr rfl, Or.inr rfl, Or.inr rfl, Or.inr rfl, Or.inr rfl, Or.inl rfl, Or.inl rfl, trivial⟩
          · have h := h.2 hc
            refine s_aload_n C dX8_isSo_112 rfl ?_
            refine s_iload C dX8_isSo_113 rfl ?_
            obtain ⟨Q25, hKQ25, h⟩ := h
            refine s_callV (ci := 8) (av := [(0, l6)]) (rest := []) (mc := 0) (ms := 0) C dX8_isSo_115 lk_X8_30 o1 (by decide) rfl rfl rfl (Nat.le_of_ble_eq_true rfl) (by decide) (by decide) hKQ25 (fun z25 w25 M25 hq => ?_)
            have h := h z25 w25 M25 hq
            refine s_ifeq C dX8_isSo_118 rfl (fun hc => ?_) (fun hc => ?_)
            · have h := h.1 hc
              obtain ⟨o26, h⟩ := h
              refine s_iinc (ls' := [(2, l0), (2, l1), (0, l2), (0, l3), (0, l4), (0, l5), (0, (l6 + 1)), (0, (M (l0 + 1) l6)), (3, 0)]) C dX8_isSo_197 (by decide) rfl o26 rfl rfl ?_
              refine s_goto C dX8_isSo_200 rfl ?_
              exact WA.wk h ⟨Or.inr rfl, Or.inr rfl, Or.inr rfl, Or.inr rfl, Or.inr rfl, Or.inr rfl, Or.inr rfl, Or.inl rfl, Or.inl rfl, trivial⟩
            · have h := h.2 hc
              refine s_iload C dX8_isSo_121 rfl ?_
              refine s_bipush C dX8_isSo_123 ⟨rfl, by decide, by decide⟩ ?_
              refine s_icmpne C dX8_isSo_125 rfl (fun hc => ?_) (fun hc => ?_)
              · have h := h.1 hc
                refine s_aload_n C dX8_isSo_139 rfl ?_
                refine s_aload_n C dX8_isSo_140 rfl ?_
                refine s_iload C dX8_isSo_141 rfl ?_
                obtain ⟨o27, h⟩ := h
                obtain ⟨Q28, hKQ28, h⟩ := h
                refine s_callV (ci := 8) (av := [(2, l1), (0, l6)]) (rest := []) (mc := 0) (ms := 0) C dX8_isSo_143 lk_X8_38 o27 (by decide) rfl rfl rfl (Nat.le_of_ble_eq_true rfl) (by decide) (by decide) hKQ28 (fun z28 w28 M28 hq => ?_)
                have h := h z28 w28 M28 hq
                refine s_istore (ls' := [(2, l0), (2, l1), (0, l2), (0, l3), (0, l4), (0, l5), (0, l6), (0, (M (l0 + 1) l6)), (0, z28)]) C dX8_isSo_146 (by decide) rfl rfl ?_
                refine s_iload C dX8_isSo_148 rfl ?_
                refine s_iload C dX8_isSo_150 rfl ?_
                refine s_bipush C dX8_isSo_152 ⟨rfl, by decide, by decide⟩ ?_
                refine s_icmpne C dX8_isSo_154 rfl (fun hc => ?_) (fun hc => ?_)
                · have h := h.1 hc
                  refine s_iconst C dX8_isSo_161 (by decide) ?_
                  obtain ⟨o29, h⟩ := h
                  refine s_isub C dX8_isSo_162 o29 ?_
                  refine s_istore (ls' := [(2, l0), (2, l1), (0, l2), (0, l3), (0, l4), (0, (l5 - 0)), (0, l6), (0, (M (l0 + 1) l6)), (0, z28)]) C dX8_isSo_163 (by decide) rfl rfl ?_
                  refine s_iload C dX8_isSo_165 rfl ?_
                  refine s_iload C dX8_isSo_167 rfl ?_
                  refine s_iload C dX8_isSo_169 rfl ?_
                  refine s_callSN (av := [(0, l4), (0, (l5 - 0))]) (rest := [(0, z28)]) (mc := 0) (ms := 0) C dX8_isSo_171 lk_X8_34 rfl rfl (Nat.le_of_ble_eq_true rfl) (by decide) (by decide) (pc_X9_hasBit) (fun z30 wz30 Mz30 hq => ?_)
                  obtain ⟨hq1, hq2, hq3⟩ := hq
                  have hq2 := hq2.symm
                  have hq3 := hq3.symm
                  subst hq1 hq2 hq3
                  refine s_icmpne C dX8_isSo_174 rfl (fun hc => ?_) (fun hc => ?_)
                  · have h := h.1 hc
                    refine s_iload C dX8_isSo_186 rfl ?_
                    refine s_iconst C dX8_isSo_188 (by decide) ?_
                    refine s_iload C dX8_isSo_189 rfl ?_
                    refine s_ishl C dX8_isSo_191 ?_
                    refine s_iconst C dX8_isSo_192 (by decide) ?_
                    refine s_ixor C dX8_isSo_193 ?_
                    refine s_iand C dX8_isSo_194 ?_
                    refine s_istore (ls' := [(2, l0), (2, l1), (0, l2), (0, l3), (0, (zand l4 (zxor (zshl 1 (l5 - 0)) (-1)))), (0, (l5 - 0)), (0, l6), (0, (M (l0 + 1) l6)), (0, z28)]) C dX8_isSo_195 (by decide) rfl rfl ?_
                    obtain ⟨o31, h⟩ := h
                    refine s_iinc (ls' := [(2, l0), (2, l1), (0, l2), (0, l3), (0, (zand l4 (zxor (zshl 1 (l5 - 0)) (-1)))), (0, (l5 - 0)), (0, (l6 + 1)), (0, (M (l0 + 1) l6)), (0, z28)]) C dX8_isSo_197 (by decide) rfl o31 rfl rfl ?_
                    refine s_goto C dX8_isSo_200 rfl ?_
                    exact WA.wk h ⟨Or.inr rfl, Or.inr rfl, Or.inr rfl, Or.inr rfl, Or.inr rfl, Or.inr rfl, Or.inr rfl, Or.inl rfl, Or.inl rfl, trivial⟩
                  · have h := h.2 hc
                    refine s_iload_n C dX8_isSo_177 rfl ?_
                    refine s_iconst C dX8_isSo_178 (by decide) ?_
                    refine s_iload C dX8_isSo_179 rfl ?_
                    refine s_ishl C dX8_isSo_181 ?_
                    refine s_iconst C dX8_isSo_182 (by decide) ?_
                    refine s_ixor C dX8_isSo_183 ?_
                    refine s_iand C dX8_isSo_184 ?_
                    refine s_istore_n (ls' := [(2, l0), (2, l1), (0, l2), (0, (zand l3 (zxor (zshl 1 (l5 - 0)) (-1)))), (0, l4), (0, (l5 - 0)), (0, l6), (0, (M (l0 + 1) l6)), (0, z28)]) C dX8_isSo_185 (by decide) rfl rfl ?_
                    refine s_iload C dX8_isSo_186 rfl ?_
                    refine s_iconst C dX8_isSo_188 (by decide) ?_
                    refine s_iload C dX8_isSo_189 rfl ?_
                    refine s_ishl C dX8_isSo_191 ?_
                    refine s_iconst C dX8_isSo_192 (by decide) ?_
                    refine s_ixor C dX8_isSo_193 ?_
                    refine s_iand C dX8_isSo_194 ?_
                    refine s_istore (ls' := [(2, l0), (2, l1), (0, l2), (0, (zand l3 (zxor (zshl 1 (l5 - 0)) (-1)))), (0, (zand l4 (zxor (zshl 1 (l5 - 0)) (-1)))), (0, (l5 - 0)), (0, l6), (0, (M (l0 + 1) l6)), (0, z28)]) C dX8_isSo_195 (by decide) rfl rfl ?_
                    obtain ⟨o32, h⟩ := h
                    refine s_iinc (ls' := [(2, l0), (2, l1), (0, l2), (0, (zand l3 (zxor (zshl 1 (l5 - 0)) (-1)))), (0, (zand l4 (zxor (zshl 1 (l5 - 0)) (-1)))), (0, (l5 - 0)), (0, (l6 + 1)), (0, (M (l0 + 1) l6)), (0, z28)]) C dX8_isSo_197 (by decide) rfl o32 rfl rfl ?_
                    refine s_goto C dX8_isSo_200 rfl ?_
                    exact WA.wk h ⟨Or.inr rfl, Or.inr rfl, Or.inr rfl, Or.inr rfl, Or.inr rfl, Or.inr rfl, Or.inr rfl, Or.inl rfl, Or.inl rfl, trivial⟩
                · have h := h.2 hc
                  refine s_iconst C dX8_isSo_157 (by decide) ?_
                  refine s_goto C dX8_isSo_158 rfl ?_
                  obtain ⟨o33, h⟩ := h
                  refine s_isub C dX8_isSo_162 o33 ?_
                  refine s_istore (ls' := [(2, l0), (2, l1), (0, l2), (0, l3), (0, l4), (0, (l5 - 1)), (0, l6), (0, (M (l0 + 1) l6)), (0, z28)]) C dX8_isSo_163 (by decide) rfl rfl ?_
                  refine s_iload C dX8_isSo_165 rfl ?_
                  refine s_iload C dX8_isSo_167 rfl ?_
                  refine s_iload C dX8_isSo_169 rfl ?_
                  refine s_callSN (av := [(0, l4), (0, (l5 - 1))]) (rest := [(0, z28)]) (mc := 0) (ms := 0) C dX8_isSo_171 lk_X8_34 rfl rfl (Nat.le_of_ble_eq_true rfl) (by decide) (by decide) (pc_X9_hasBit) (fun z34 wz34 Mz34 hq => ?_)
                  obtain ⟨hq1, hq2, hq3⟩ := hq
                  have hq2 := hq2.symm
                  have hq3 := hq3.symm
                  subst hq1 hq2 hq3
                  refine s_icmpne C dX8_isSo_174 rfl (fun hc => ?_) (fun hc => ?_)
                  · have h := h.1 hc
                    refine s_iload C dX8_isSo_186 rfl ?_
                    refine s_iconst C dX8_isSo_188 (by decide) ?_
                    refine s_iload C dX8_isSo_189 rfl ?_
                    refine s_ishl C dX8_isSo_191 ?_
                    refine s_iconst C dX8_isSo_192 (by decide) ?_
                    refine s_ixor C dX8_isSo_193 ?_
                    refine s_iand C dX8_isSo_194 ?_
                    refine s_istore (ls' := [(2, l0), (2, l1), (0, l2), (0, l3), (0, (zand l4 (zxor (zshl 1 (l5 - 1)) (-1)))), (0, (l5 - 1)), (0, l6), (0, (M (l0 + 1) l6)), (0, z28)]) C dX8_isSo_195 (by decide) rfl rfl ?_
                    obtain ⟨o35, h⟩ := h
                    refine s_iinc (ls' := [(2, l0), (2, l1), (0, l2), (0, l3), (0, (zand l4 (zxor (zshl 1 (l5 - 1)) (-1)))), (0, (l5 - 1)), (0, (l6 + 1)), (0, (M (l0 + 1) l6)), (0, z28)]) C dX8_isSo_197 (by decide) rfl o35 rfl rfl ?_
                    refine s_goto C dX8_isSo_200 rfl ?_
                    exact WA.wk h ⟨Or.inr rfl, Or.inr rfl, Or.inr rfl, Or.inr rfl, Or.inr rfl, Or.inr rfl, Or.inr rfl, Or.inl rfl, Or.inl rfl, trivial⟩
                  · have h := h.2 hc
                    refine s_iload_n C dX8_isSo_177 rfl ?_
                    refine s_iconst C dX8_isSo_178 (by decide) ?_
                    refine s_iload C dX8_isSo_179 rfl ?_
                    refine s_ishl C dX8_isSo_181 ?_
                    refine s_iconst C dX8_isSo_182 (by decide) ?_
                    refine s_ixor C dX8_isSo_183 ?_
                    refine s_iand C dX8_isSo_184 ?_
                    refine s_istore_n (ls' := [(2, l0), (2, l1), (0, l2), (0, (zand l3 (zxor (zshl 1 (l5 - 1)) (-1)))), (0, l4), (0, (l5 - 1)), (0, l6), (0, (M (l0 + 1) l6)), (0, z28)]) C dX8_isSo_185 (by decide) rfl rfl ?_
                    refine s_iload C dX8_isSo_186 rfl ?_
                    refine s_iconst C dX8_isSo_188 (by decide) ?_
                    refine s_iload C dX8_isSo_189 rfl ?_
                    refine s_ishl C dX8_isSo_191 ?_
                    refine s_iconst C dX8_isSo_192 (by decide) ?_
                    refine s_ixor C dX8_isSo_193 ?_
                    refine s_iand C dX8_isSo_194 ?_
                    refine s_istore (ls' := [(2, l0), (2, l1), (0, l2), (0, (zand l3 (zxor (zshl 1 (l5 - 1)) (-1)))), (0, (zand l4 (zxor (zshl 1 (l5 - 1)) (-1)))), (0, (l5 - 1)), (0, l6), (0, (M (l0 + 1) l6)), (0, z28)]) C dX8_isSo_195 (by decide) rfl rfl ?_
                    obtain ⟨o36, h⟩ := h
                    refine s_iinc (ls' := [(2, l0), (2, l1), (0, l2), (0, (zand l3 (zxor (zshl 1 (l5 - 1)) (-1)))), (0, (zand l4 (zxor (zshl 1 (l5 - 1)) (-1)))), (0, (l5 - 1)), (0, (l6 + 1)), (0, (M (l0 + 1) l6)), (0, z28)]) C dX8_isSo_197 (by decide) rfl o36 rfl rfl ?_
                    refine s_goto C dX8_isSo_200 rfl ?_
                    exact WA.wk h ⟨Or.inr rfl, Or.inr rfl, Or.inr rfl, Or.inr rfl, Or.inr rfl, Or.inr rfl, Or.inr rfl, Or.inl rfl, Or.inl rfl, trivial⟩
              · have h := h.2 hc
                refine s_iload_n C dX8_isSo_128 rfl ?_
                refine s_iload_n C dX8_isSo_129 rfl ?_
                refine s_ior C dX8_isSo_130 ?_
                refine s_iload C dX8_isSo_131 rfl ?_
                refine s_callSN (av := [(0, (zor l2 l3)), (0, l5)]) (rest := []) (mc := 0) (ms := 0) C dX8_isSo_133 lk_X8_34 rfl rfl (Nat.le_of_ble_eq_true rfl) (by decide) (by decide) (pc_X9_hasBit) (fun z37 wz37 Mz37 hq => ?_)
                obtain ⟨hq1, hq2, hq3⟩ := hq
                have hq2 := hq2.symm
                have hq3 := hq3.symm
                subst hq1 hq2 hq3
                refine s_goto C dX8_isSo_136 rfl ?_
                refine s_istore (ls' := [(2, l0), (2, l1), (0, l2), (0, l3), (0, l4), (0, l5), (0, l6), (0, (M (l0 + 1) l6)), (0, (b2i (zand (zshr (zor l2 l3) l5) 1 = 1)))]) C dX8_isSo_146 (by decide) rfl rfl ?_
                refine s_iload C dX8_isSo_148 rfl ?_
                refine s_iload C dX8_isSo_150 rfl ?_
                refine s_bipush C dX8_isSo_152 ⟨rfl, by decide, by decide⟩ ?_
                refine s_icmpne C dX8_isSo_154 rfl (fun hc => ?_) (fun hc => ?_)
                · have h := h.1 hc
                  refine s_iconst C dX8_isSo_161 (by decide) ?_
                  obtain ⟨o38, h⟩ := h
                  refine s_isub C dX8_isSo_162 o38 ?_
                  refine s_istore (ls' := [(2, l0), (2, l1), (0, l2), (0, l3), (0, l4), (0, (l5 - 0)), (0, l6), (0, (M (l0 + 1) l6)), (0, (b2i (zand (zshr (zor l2 l3) l5) 1 = 1)))]) C dX8_isSo_163 (by decide) rfl rfl ?_
                  refine s_iload C dX8_isSo_165 rfl ?_
                  refine s_iload C dX8_isSo_167 rfl ?_
                  refine s_iload C dX8_isSo_169 rfl ?_
                  refine s_callSN (av := [(0, l4), (0, (l5 - 0))]) (rest := [(0, (b2i (zand (zshr (zor l2 l3) l5) 1 = 1)))]) (mc := 0) (ms := 0) C dX8_isSo_171 lk_X8_34 rfl rfl (Nat.le_of_ble_eq_true rfl) (by decide) (by decide) (pc_X9_hasBit) (fun z39 wz39 Mz39 hq => ?_)
                  obtain ⟨hq1, hq2, hq3⟩ := hq
                  have hq2 := hq2.symm
                  have hq3 := hq3.symm
                  subst hq1 hq2 hq3
                  refine s_icmpne C dX8_isSo_174 rfl (fun hc => ?_) (fun hc => ?_)
                  · have h := h.1 hc
                    refine s_iload C dX8_isSo_186 rfl ?_
                    refine s_iconst C dX8_isSo_188 (by decide) ?_
                    refine s_iload C dX8_isSo_189 rfl ?_
                    refine s_ishl C dX8_isSo_191 ?_
                    refine s_iconst C dX8_isSo_192 (by decide) ?_
                    refine s_ixor C dX8_isSo_193 ?_
                    refine s_iand C dX8_isSo_194 ?_
                    refine s_istore (ls' := [(2, l0), (2, l1), (0, l2), (0, l3), (0, (zand l4 (zxor (zshl 1 (l5 - 0)) (-1)))), (0, (l5 - 0)), (0, l6), (0, (M (l0 + 1) l6)), (0, (b2i (zand (zshr (zor l2 l3) l5) 1 = 1)))]) C dX8_isSo_195 (by decide) rfl rfl ?_
                    obtain ⟨o40, h⟩ := h
                    refine s_iinc (ls' := [(2, l0), (2, l1), (0, l2), (0, l3), (0, (zand l4 (zxor (zshl 1 (l5 - 0)) (-1)))), (0, (l5 - 0)), (0, (l6 + 1)), (0, (M (l0 + 1) l6)), (0, (b2i (zand (zshr (zor l2 l3) l5) 1 = 1)))]) C dX8_isSo_197 (by decide) rfl o40 rfl rfl ?_
                    refine s_goto C dX8_isSo_200 rfl ?_
                    exact WA.wk h ⟨Or.inr rfl, Or.inr rfl, Or.inr rfl, Or.inr rfl, Or.inr rfl, Or.inr rfl, Or.inr rfl, Or.inl rfl, Or.inl rfl, trivial⟩
                  · have h := h.2 hc
                    refine s_iload_n C dX8_isSo_177 rfl ?_
                    refine s_iconst C dX8_isSo_178 (by decide) ?_
                    refine s_iload C dX8_isSo_179 rfl ?_
                    refine s_ishl C dX8_isSo_181 ?_
                    refine s_iconst C dX8_isSo_182 (by decide) ?_
                    refine s_ixor C dX8_isSo_183 ?_
                    refine s_iand C dX8_isSo_184 ?_
                    refine s_istore_n (ls' := [(2, l0), (2, l1), (0, l2), (0, (zand l3 (zxor (zshl 1 (l5 - 0)) (-1)))), (0, l4), (0, (l5 - 0)), (0, l6), (0, (M (l0 + 1) l6)), (0, (b2i (zand (zshr (zor l2 l3) l5) 1 = 1)))]) C dX8_isSo_185 (by decide) rfl rfl ?_
                    refine s_iload C dX8_isSo_186 rfl ?_
                    refine s_iconst C dX8_isSo_188 (by decide) ?_
                    refine s_iload C dX8_isSo_189 rfl ?_
                    refine s_ishl C dX8_isSo_191 ?_
                    refine s_iconst C dX8_isSo_192 (by decide) ?_
                    refine s_ixor C dX8_isSo_193 ?_
                    refine s_iand C dX8_isSo_194 ?_
                    refine s_istore (ls' := [(2, l0), (2, l1), (0, l2), (0, (zand l3 (zxor (zshl 1 (l5 - 0)) (-1)))), (0, (zand l4 (zxor (zshl 1 (l5 - 0)) (-1)))), (0, (l5 - 0)), (0, l6), (0, (M (l0 + 1) l6)), (0, (b2i (zand (zshr (zor l2 l3) l5) 1 = 1)))]) C dX8_isSo_195 (by decide) rfl rfl ?_
                    obtain ⟨o41, h⟩ := h
                    refine s_iinc (ls' := [(2, l0), (2, l1), (0, l2), (0, (zand l3 (zxor (zshl 1 (l5 - 0)) (-1)))), (0, (zand l4 (zxor (zshl 1 (l5 - 0)) (-1)))), (0, (l5 - 0)), (0, (l6 + 1)), (0, (M (l0 + 1) l6)), (0, (b2i (zand (zshr (zor l2 l3) l5) 1 = 1)))]) C dX8_isSo_197 (by decide) rfl o41 rfl rfl ?_
                    refine s_goto C dX8_isSo_200 rfl ?_
                    exact WA.wk h ⟨Or.inr rfl, Or.inr rfl, Or.inr rfl, Or.inr rfl, Or.inr rfl, Or.inr rfl, Or.inr rfl, Or.inl rfl, Or.inl rfl, trivial⟩
                · have h := h.2 hc
                  refine s_iconst C dX8_isSo_157 (by decide) ?_
                  refine s_goto C dX8_isSo_158 rfl ?_
                  obtain ⟨o42, h⟩ := h
                  refine s_isub C dX8_isSo_162 o42 ?_
                  refine s_istore (ls' := [(2, l0), (2, l1), (0, l2), (0, l3), (0, l4), (0, (l5 - 1)), (0, l6), (0, (M (l0 + 1) l6)), (0, (b2i (zand (zshr (zor l2 l3) l5) 1 = 1)))]) C dX8_isSo_163 (by decide) rfl rfl ?_
                  refine s_iload C dX8_isSo_165 rfl ?_
                  refine s_iload C dX8_isSo_167 rfl ?_
                  refine s_iload C dX8_isSo_169 rfl ?_
                  refine s_callSN (av := [(0, l4), (0, (l5 - 1))]) (rest := [(0, (b2i (zand (zshr (zor l2 l3) l5) 1 = 1)))]) (mc := 0) (ms := 0) C dX8_isSo_171 lk_X8_34 rfl rfl (Nat.le_of_ble_eq_true rfl) (by decide) (by decide) (pc_X9_hasBit) (fun z43 wz43 Mz43 hq => ?_)
                  obtain ⟨hq1, hq2, hq3⟩ := hq
                  have hq2 := hq2.symm
                  have hq3 := hq3.symm
                  subst hq1 hq2 hq3
                  refine s_icmpne C dX8_isSo_174 rfl (fun hc => ?_) (fun hc => ?_)
                  · have h := h.1 hc
                    refine s_iload C dX8_isSo_186 rfl ?_
                    refine s_iconst C dX8_isSo_188 (by decide) ?_
                    refine s_iload C dX8_isSo_189 rfl ?_
                    refine s_ishl C dX8_isSo_191 ?_
                    refine s_iconst C dX8_isSo_192 (by decide) ?_
                    refine s_ixor C dX8_isSo_193 ?_
                    refine s_iand C dX8_isSo_194 ?_
                    refine s_istore (ls' := [(2, l0), (2, l1), (0, l2), (0, l3), (0, (zand l4 (zxor (zshl 1 (l5 - 1)) (-1)))), (0, (l5 - 1)), (0, l6), (0, (M (l0 + 1) l6)), (0, (b2i (zand (zshr (zor l2 l3) l5) 1 = 1)))]) C dX8_isSo_195 (by decide) rfl rfl ?_
                    obtain ⟨o44, h⟩ := h
                    refine s_iinc (ls' := [(2, l0), (2, l1), (0, l2), (0, l3), (0, (zand l4 (zxor (zshl 1 (l5 - 1)) (-1)))), (0, (l5 - 1)), (0, (l6 + 1)), (0, (M (l0 + 1) l6)), (0, (b2i (zand (zshr (zor l2 l3) l5) 1 = 1)))]) C dX8_isSo_197 (by decide) rfl o44 rfl rfl ?_
                    refine s_goto C dX8_isSo_200 rfl ?_
                    exact WA.wk h ⟨Or.inr rfl, Or.inr rfl, Or.inr rfl, Or.inr rfl, Or.inr rfl, Or.inr rfl, Or.inr rfl, Or.inl rfl, Or.inl rfl, trivial⟩
                  · have h := h.2 hc
                    refine s_iload_n C dX8_isSo_177 rfl ?_
                    refine s_iconst C dX8_isSo_178 (by decide) ?_
                    refine s_iload C dX8_isSo_179 rfl ?_
                    refine s_ishl C dX8_isSo_181 ?_
                    refine s_iconst C dX8_isSo_182 (by decide) ?_
                    refine s_ixor C dX8_isSo_183 ?_
                    refine s_iand C dX8_isSo_184 ?_
                    refine s_istore_n (ls' := [(2, l0), (2, l1), (0, l2), (0, (zand l3 (zxor (zshl 1 (l5 - 1)) (-1)))), (0, l4), (0, (l5 - 1)), (0, l6), (0, (M (l0 + 1) l6)), (0, (b2i (zand (zshr (zor l2 l3) l5) 1 = 1)))]) C dX8_isSo_185 (by decide) rfl rfl ?_
                    refine s_iload C dX8_isSo_186 rfl ?_
                    refine s_iconst C dX8_isSo_188 (by decide) ?_
                    refine s_iload C dX8_isSo_189 rfl ?_
                    refine s_ishl C dX8_isSo_191 ?_
                    refine s_iconst C dX8_isSo_192 (by decide) ?_
                    refine s_ixor C dX8_isSo_193 ?_
                    refine s_iand C dX8_isSo_194 ?_
                    refine s_istore (ls' := [(2, l0), (2, l1), (0, l2), (0, (zand l3 (zxor (zshl 1 (l5 - 1)) (-1)))), (0, (zand l4 (zxor (zshl 1 (l5 - 1)) (-1)))), (0, (l5 - 1)), (0, l6), (0, (M (l0 + 1) l6)), (0, (b2i (zand (zshr (zor l2 l3) l5) 1 = 1)))]) C dX8_isSo_195 (by decide) rfl rfl ?_
                    obtain ⟨o45, h⟩ := h
                    refine s_iinc (ls' := [(2, l0), (2, l1), (0, l2), (0, (zand l3 (zxor (zshl 1 (l5 - 1)) (-1)))), (0, (zand l4 (zxor (zshl 1 (l5 - 1)) (-1)))), (0, (l5 - 1)), (0, (l6 + 1)), (0, (M (l0 + 1) l6)), (0, (b2i (zand (zshr (zor l2 l3) l5) 1 = 1)))]) C dX8_isSo_197 (by decide) rfl o45 rfl rfl ?_
                    refine s_goto C dX8_isSo_200 rfl ?_
                    exact WA.wk h ⟨Or.inr rfl, Or.inr rfl, Or.inr rfl, Or.inr rfl, Or.inr rfl, Or.inr rfl, Or.inr rfl, Or.inl rfl, Or.inl rfl, trivial⟩
        · have h := h.2 hc
          refine s_iload_n C dX8_isSo_86 rfl ?_
          refine s_iload_n C dX8_isSo_87 rfl ?_
          refine s_iconst C dX8_isSo_88 (by decide) ?_
          refine s_iload C dX8_isSo_89 rfl ?_
          refine s_ishl C dX8_isSo_91 ?_
          refine s_iand C dX8_isSo_92 ?_
          refine s_ior C dX8_isSo_93 ?_
          refine s_istore_n (ls' := [(2, l0), (2, l1), (0, (zor l2 (zand l3 (zshl 1 l5)))), (0, l3), (0, l4), (0, l5), (0, l6), (0, (M (l0 + 1) l6)), (3, 0)]) C dX8_isSo_94 (by decide) rfl rfl ?_
          refine s_iload_n C dX8_isSo_95 rfl ?_
          refine s_iconst C dX8_isSo_96 (by decide) ?_
          refine s_iload C dX8_isSo_97 rfl ?_
          refine s_ishl C dX8_isSo_99 ?_
          refine s_ior C dX8_isSo_100 ?_
          refine s_istore_n (ls' := [(2, l0), (2, l1), (0, (zor l2 (zand l3 (zshl 1 l5)))), (0, (zor l3 (zshl 1 l5))), (0, l4), (0, l5), (0, l6), (0, (M (l0 + 1) l6)), (3, 0)]) C dX8_isSo_101 (by decide) rfl rfl ?_
          refine s_goto C dX8_isSo_102 rfl ?_
          obtain ⟨o46, h⟩ := h
          refine s_iinc (ls' := [(2, l0), (2, l1), (0, (zor l2 (zand l3 (zshl 1 l5)))), (0, (zor l3 (zshl 1 l5))), (0, l4), (0, l5), (0, (l6 + 1)), (0, (M (l0 + 1) l6)), (3, 0)]) C dX8_isSo_197 (by decide) rfl o46 rfl rfl ?_
          refine s_goto C dX8_isSo_200 rfl ?_
          exact WA.wk h ⟨Or.inr rfl, Or.inr rfl, Or.inr rfl, Or.inr rfl, Or.inr rfl, Or.inr rfl, Or.inr rfl, Or.inl rfl, Or.inl rfl, trivial⟩
      · have h := h.2 hc
        refine s_iload C dX8_isSo_67 rfl ?_
        refine s_iconst C dX8_isSo_69 (by decide) ?_
        refine s_iload C dX8_isSo_70 rfl ?_
        refine s_ishl C dX8_isSo_72 ?_
        refine s_ixor C dX8_isSo_73 ?_
        refine s_istore (ls' := [(2, l0), (2, l1), (0, l2), (0, l3), (0, (zxor l4 (zshl 1 l5))), (0, l5), (0, l6), (0, (M (l0 + 1) l6)), (3, 0)]) C dX8_isSo_74 (by decide) rfl rfl ?_
        refine s_goto C dX8_isSo_76 rfl ?_
        obtain ⟨o47, h⟩ := h
        refine s_iinc (ls' := [(2, l0), (2, l1), (0, l2), (0, l3), (0, (zxor l4 (zshl 1 l5))), (0, l5), (0, (l6 + 1)), (0, (M (l0 + 1) l6)), (3, 0)]) C dX8_isSo_197 (by decide) rfl o47 rfl rfl ?_
        refine s_goto C dX8_isSo_200 rfl ?_
        exact WA.wk h ⟨Or.inr rfl, Or.inr rfl, Or.inr rfl, Or.inr rfl, Or.inr rfl, Or.inr rfl, Or.inr rfl, Or.inl rfl, Or.inl rfl, trivial⟩
    · have h := h.2 hc
      obtain ⟨o48, h⟩ := h
      refine s_iinc (ls' := [(2, l0), (2, l1), (0, l2), (0, l3), (0, l4), (0, (l5 + 1)), (0, l6), (0, (M (l0 + 1) l6)), (3, 0)]) C dX8_isSo_38 (by decide) rfl o48 rfl rfl ?_
      refine s_iload_n C dX8_isSo_41 rfl ?_
      refine s_iconst C dX8_isSo_42 (by decide) ?_
      refine s_iload C dX8_isSo_43 rfl ?_
      refine s_ishl C dX8_isSo_45 ?_
      refine s_iconst C dX8_isSo_46 (by decide) ?_
      refine s_ixor C dX8_isSo_47 ?_
      refine s_iand C dX8_isSo_48 ?_
      refine s_istore_n (ls' := [(2, l0), (2, l1), (0, (zand l2 (zxor (zshl 1 (l5 + 1)) (-1)))), (0, l3), (0, l4), (0, (l5 + 1)), (0, l6), (0, (M (l0 + 1) l6)), (3, 0)]) C dX8_isSo_49 (by decide) rfl rfl ?_
      refine s_iload_n C dX8_isSo_50 rfl ?_
      refine s_iconst C dX8_isSo_51 (by decide) ?_
      refine s_iload C dX8_isSo_52 rfl ?_
      refine s_ishl C dX8_isSo_54 ?_
      refine s_ior C dX8_isSo_55 ?_
      refine s_istore_n (ls' := [(2, l0), (2, l1), (0, (zand l2 (zxor (zshl 1 (l5 + 1)) (-1)))), (0, (zor l3 (zshl 1 (l5 + 1)))), (0, l4), (0, (l5 + 1)), (0, l6), (0, (M (l0 + 1) l6)), (3, 0)]) C dX8_isSo_56 (by decide) rfl rfl ?_
      refine s_goto C dX8_isSo_57 rfl ?_
      obtain ⟨o49, h⟩ := h
      refine s_iinc (ls' := [(2, l0), (2, l1), (0, (zand l2 (zxor (zshl 1 (l5 + 1)) (-1)))), (0, (zor l3 (zshl 1 (l5 + 1)))), (0, l4), (0, (l5 + 1)), (0, (l6 + 1)), (0, (M (l0 + 1) l6)), (3, 0)]) C dX8_isSo_197 (by decide) rfl o49 rfl rfl ?_
      refine s_goto C dX8_isSo_200 rfl ?_
      exact WA.wk h ⟨Or.inr rfl, Or.inr rfl, Or.inr rfl, Or.inr rfl, Or.inr rfl, Or.inr rfl, Or.inr rfl, Or.inl rfl, Or.inl rfl, trivial⟩
theorem E_X8_isSo {G : GP} {l : Launch} {P : Int → NS → MM → Prop} {l0 : Int} {l1 : Int} {w : NS} {M : MM} (h : ∀ X : BX, X.2.1 = l → CX_X8_isSo G X → A_X8_isSo_0 G X P l0 l1 w M) : CT_X8_isSo G l [(2, l0), (2, l1)] w M P :=
  CT.of RX8 "isSo" (by decide +kernel) rfl rfl rfl (Nat.le_of_ble_eq_true rfl) (fun hr X hX C => h  X hX C)
